-- TWO REAPERS by numbers: maths and THE MODEL
section V1
/-- how many of a set are less than a place -/
def rk (op p : Nat) : Nat := fb_ct (fun i => op.testBit i) p
/-- what is free, of what is cut by numbers -/
def unk (op c : Nat) : Nat → Nat
  | 0 => 0
  | k + 1 => if op.testBit k = true ∧ c.testBit (rk op k) = false then sb (unk op c k) k else unk op c k
theorem unk_t (op c i : Nat) : ∀ n, (unk op c n).testBit i = true ↔ i < n ∧ op.testBit i = true ∧ c.testBit (rk op i) = false
  | 0 => by show (Nat.testBit 0 i = true) ↔ _; rw [Nat.zero_testBit]; exact ⟨fun h => (by cases h), fun h => absurd h.1 (Nat.not_lt_zero i)⟩
  | n + 1 => by
    have ih := unk_t op c i n
    unfold unk
    split
    · rename_i h
      rw [sb_t, Bool.or_eq_true, ih]
      constructor
      · rintro (⟨a, b⟩ | a)
        · exact ⟨by omega, b⟩
        · rw [← of_decide_eq_true a]; exact ⟨by omega, h⟩
      · rintro ⟨a, b⟩
        by_cases e : n = i
        · exact Or.inr (decide_eq_true e)
        · exact Or.inl ⟨by omega, b⟩
    · rename_i h
      rw [ih]
      constructor
      · rintro ⟨a, b⟩; exact ⟨by omega, b⟩
      · rintro ⟨a, b⟩
        refine ⟨?_, b⟩
        rcases Nat.lt_or_ge i n with y | y
        · exact y
        · obtain rfl : i = n := by omega
          exact absurd b h
def un (op c : Nat) : Nat := unk op c 16
theorem un_t {op c i : Nat} (hop : op < 65536) : (un op c).testBit i = true ↔ op.testBit i = true ∧ c.testBit (rk op i) = false := by
  unfold un
  rw [unk_t]
  constructor
  · exact fun h => h.2
  · intro h
    refine ⟨?_, h⟩
    rcases Nat.lt_or_ge i 16 with y | y
    · exact y
    · rw [t_lt16 hop y] at h; cases h.1
theorem un_lt {op c : Nat} : un op c < 65536 := lt16_t fun i hi => by
  cases h : (un op c).testBit i with
  | false => rfl
  | true => unfold un at h; rw [unk_t] at h; omega
theorem rk_lt {op p : Nat} (hp : p < 16) (ho : op.testBit p = true) : rk op p < pc op := by
  have h := fb_ct_mono (fun i => op.testBit i) (show p + 1 ≤ 16 by omega)
  rw [fb_ct_succ, ho, if_pos rfl] at h
  unfold rk pc
  omega
theorem rk_inj {op p q : Nat} (hp : op.testBit p = true) (hq : op.testBit q = true) (e : rk op p = rk op q) : p = q := fb_ct_kth_one (p := fun i => op.testBit i) hp hq e
theorem rk_of {op a : Nat} (h : a < pc op) : ∃ p, p < 16 ∧ op.testBit p = true ∧ rk op p = a := fb_ct_kth (p := fun i => op.testBit i) h
theorem un_sb {op c q : Nat} (hop : op < 65536) (hq : op.testBit q = true) : cb (un op c) q = un op (sb c (rk op q)) := by
  apply Nat.eq_of_testBit_eq
  intro i
  have a := un_t (op := op) (c := c) (i := i) hop
  have b := un_t (op := op) (c := sb c (rk op q)) (i := i) hop
  rw [sb_t] at b
  rw [cb_t]
  cases h1 : (un op c).testBit i <;> cases h2 : (un op (sb c (rk op q))).testBit i
  · rfl
  · have := b.mp h2
    have h3 : c.testBit (rk op i) = false := by
      have := this.2
      cases hz : c.testBit (rk op i) with
      | false => rfl
      | true => rw [hz] at this; simp at this
    rw [a.mpr ⟨this.1, h3⟩] at h1; cases h1
  · have h3 := a.mp h1
    by_cases e : q = i
    · subst e; simp
    · exfalso
      have : ¬ rk op q = rk op i := fun z => e (rk_inj hq h3.1 z)
      rw [b.mpr ⟨h3.1, by rw [h3.2, decide_eq_false this]; rfl⟩] at h2
      cases h2
  · have h3 := b.mp h2
    have : ¬ q = i := by
      rintro rfl
      have := h3.2
      simp at this
    simp [this]
theorem un_1 {op p : Nat} (hop : op < 65536) (hp : op.testBit p = true) : un op (2 ^ (rk op p)) = cb op p := by
  apply Nat.eq_of_testBit_eq
  intro i
  have b := un_t (op := op) (c := 2 ^ (rk op p)) (i := i) hop
  rw [t2] at b
  rw [cb_t]
  cases h1 : op.testBit i <;> cases h2 : (un op (2 ^ (rk op p))).testBit i
  · rfl
  · have := (b.mp h2).1; rw [h1] at this; cases this
  · by_cases e : p = i
    · subst e; simp
    · exfalso
      have : ¬ rk op p = rk op i := fun z => e (rk_inj hp h1 z)
      rw [b.mpr ⟨h1, decide_eq_false this⟩] at h2
      cases h2
  · have h3 := (b.mp h2).2
    have : ¬ p = i := by
      rintro rfl
      simp at h3
    simp [this]
theorem sb_few {c r n : Nat} (hc : c < 2 ^ n) (hr : r < n) : sb c r < 2 ^ n := Nat.lt_pow_two_of_testBit _ fun i hi => by
  rw [sb_t, Nat.testBit_lt_two_pow (Nat.lt_of_lt_of_le hc (Nat.pow_le_pow_right (by decide) hi)), decide_eq_false (by omega)]
  rfl
end V1
section V2
variable (R C : Nat)
/-- what is worth it: together, or the lead -/
def VV (g : Bool) (x y F : Nat) : Int := if g then la R C 16 x y F else (ct R C 16 x y F : Int)
def sg (g : Bool) : Int := if g then -1 else 1
/-- the best of the first k steps, if there is one -/
def mo (g : Bool) (F x y : Nat) : Nat → Option Int
  | 0 => none
  | k + 1 => match nf R C F x k with
    | some q => some (match mo g F x y k with
      | some u => max u (1 + sg g * VV R C g y q (cb F q))
      | none => 1 + sg g * VV R C g y q (cb F q))
    | none => mo g F x y k
end V2
section V3
variable {R C : Nat}
theorem mo_y {g : Bool} {F x y k q : Nat} (h : nf R C F x k = some q) : mo R C g F x y (k + 1) = some (match mo R C g F x y k with
      | some u => max u (1 + sg g * VV R C g y q (cb F q))
      | none => 1 + sg g * VV R C g y q (cb F q)) := by show (match nf R C F x k with | some q => _ | none => _) = _; rw [h]
theorem mo_n {g : Bool} {F x y k : Nat} (h : nf R C F x k = none) : mo R C g F x y (k + 1) = mo R C g F x y k := by show (match nf R C F x k with | some q => _ | none => _) = _; rw [h]
theorem VV_b (hd : Dm R C) {g : Bool} {x y F : Nat} (hx : x < R * C) (hy : y < R * C) (hF : F < 65536) : -(pc F : Int) ≤ VV R C g x y F ∧ VV R C g x y F ≤ pc F := by
  unfold VV
  cases g with
  | true => exact la_b hd 16 x y F hx hy hF
  | false =>
    have := ct_le hd 16 x y F hx hy
    show -(pc F : Int) ≤ (ct R C 16 x y F : Int) ∧ (ct R C 16 x y F : Int) ≤ pc F
    omega
theorem sg_sq (g : Bool) (z : Int) : sg g * (sg g * z) = z := by cases g <;> simp [sg]
theorem mo_c (hd : Dm R C) {F x y : Nat} (hx : x < R * C) (hy : y < R * C) (hF : F < 65536) : ∀ k, k ≤ 4 → (mo R C false F x y k = none → csk R C (ct R C 15) F x y k = 0) ∧ (∀ v, mo R C false F x y k = some v → v = (csk R C (ct R C 15) F x y k : Int)) := by
  intro k
  induction k with
  | zero => intro _; exact ⟨fun _ => rfl, fun v h => by cases h⟩
  | succ k ih =>
    intro hk
    obtain ⟨i1, i2⟩ := ih (by omega)
    cases hq : nf R C F x k with
    | none => rw [mo_n hq, csk_n hq]; exact ⟨i1, i2⟩
    | some q =>
      obtain ⟨a, b⟩ := nf_some.mp hq
      have hq2 := (nb_ok hd hx (by omega) a).1
      have hpc := pc_cb (by have := hd.le; omega) b
      have hle := pc_le F
      rw [mo_y hq, csk_y hq]
      refine ⟨fun h => (by cases h), fun v h => ?_⟩
      have h := Option.some.inj h
      have e : VV R C false y q (cb F q) = (ct R C 15 y q (cb F q) : Int) := by
        show (ct R C 16 y q (cb F q) : Int) = _
        rw [ct_fuel hd 16 15 y q (cb F q) (cb_lt hF) hy hq2 (by omega) (by omega)]
      rw [e] at h
      rw [← h]
      cases hm : mo R C false F x y k with
      | none => have := i1 hm; show (1 : Int) + 1 * _ = _; omega
      | some u => have := i2 u hm; show max u ((1 : Int) + 1 * _) = _; omega
theorem mo_l (hd : Dm R C) {F x y : Nat} (hx : x < R * C) (hy : y < R * C) (hF : F < 65536) : ∀ k, k ≤ 4 → (mo R C true F x y k = none → lsk R C (la R C 15) F x y k = -16) ∧ (∀ v, mo R C true F x y k = some v → v = lsk R C (la R C 15) F x y k ∧ -14 ≤ v) := by
  intro k
  induction k with
  | zero => intro _; exact ⟨fun _ => rfl, fun v h => by cases h⟩
  | succ k ih =>
    intro hk
    obtain ⟨i1, i2⟩ := ih (by omega)
    cases hq : nf R C F x k with
    | none => rw [mo_n hq, lsk_n hq]; exact ⟨i1, i2⟩
    | some q =>
      obtain ⟨a, b⟩ := nf_some.mp hq
      have hq2 := (nb_ok hd hx (by omega) a).1
      have hpc := pc_cb (by have := hd.le; omega) b
      have hle := pc_le F
      rw [mo_y hq, lsk_y hq]
      refine ⟨fun h => (by cases h), fun v h => ?_⟩
      have h := Option.some.inj h
      have e : VV R C true y q (cb F q) = la R C 15 y q (cb F q) := by
        show la R C 16 y q (cb F q) = _
        rw [la_fuel hd 16 15 y q (cb F q) (cb_lt hF) hy hq2 (by omega) (by omega)]
      have hb := la_b hd 15 y q (cb F q) hy hq2 (cb_lt hF)
      rw [e] at h
      rw [← h]
      cases hm : mo R C true F x y k with
      | none =>
        have := i1 hm
        show (1 : Int) + -1 * _ = _ ∧ -14 ≤ (1 : Int) + -1 * _
        omega
      | some u =>
        have := i2 u hm
        show max u ((1 : Int) + -1 * _) = _ ∧ -14 ≤ max u ((1 : Int) + -1 * _)
        omega
theorem mo_some {g : Bool} {F x y : Nat} : ∀ k, mo R C g F x y k = none ↔ ∀ j, j < k → nf R C F x j = none
  | 0 => ⟨fun _ j hj => absurd hj (Nat.not_lt_zero j), fun _ => rfl⟩
  | k + 1 => by
    have ih := mo_some (g := g) (F := F) (x := x) (y := y) k
    cases hq : nf R C F x k with
    | none =>
      rw [mo_n hq, ih]
      refine ⟨fun h j hj => ?_, fun h j hj => h j (by omega)⟩
      rcases Nat.lt_or_ge j k with z | z
      · exact h j z
      · obtain rfl : j = k := by omega
        exact hq
    | some q =>
      rw [mo_y hq]
      exact ⟨fun h => (by cases h), fun h => by have := h k (by omega); rw [hq] at this; cases this⟩
/-- worth by the best steps -/
theorem VV_mo (hd : Dm R C) {g : Bool} {x y F : Nat} (hx : x < R * C) (hy : y < R * C) (hF : F < 65536) : VV R C g x y F = match mo R C g F x y 4 with
    | some v => v
    | none => match mo R C g F y x 4 with
      | some v => sg g * v
      | none => 0 := by
  have bl : ∀ x y, x < R * C → (mo R C g F x y 4 = none ↔ arn R C x &&& F = 0) := fun x y hx => by rw [mo_some, ar_and hd hx hF]
  cases g with
  | false =>
    show ((if arn R C x &&& F = 0 then (if arn R C y &&& F = 0 then 0 else csk R C (ct R C 15) F y x 4) else csk R C (ct R C 15) F x y 4 : Nat) : Int) = _
    cases h1 : mo R C false F x y 4 with
    | some v =>
      rw [if_neg (fun z => by rw [(bl x y hx).mpr z] at h1; cases h1)]
      exact ((mo_c hd hx hy hF 4 (Nat.le_refl _)).2 v h1).symm
    | none =>
      rw [if_pos ((bl x y hx).mp h1)]
      cases h2 : mo R C false F y x 4 with
      | some v =>
        rw [if_neg (fun z => by rw [(bl y x hy).mpr z] at h2; cases h2)]
        have := (mo_c hd hy hx hF 4 (Nat.le_refl _)).2 v h2
        show _ = 1 * v
        omega
      | none => rw [if_pos ((bl y x hy).mp h2)]; rfl
  | true =>
    show (if arn R C x &&& F = 0 then (if arn R C y &&& F = 0 then 0 else -(lsk R C (la R C 15) F y x 4)) else lsk R C (la R C 15) F x y 4 : Int) = _
    cases h1 : mo R C true F x y 4 with
    | some v =>
      rw [if_neg (fun z => by rw [(bl x y hx).mpr z] at h1; cases h1)]
      exact ((mo_l hd hx hy hF 4 (Nat.le_refl _)).2 v h1).1.symm
    | none =>
      rw [if_pos ((bl x y hx).mp h1)]
      cases h2 : mo R C true F y x 4 with
      | some v =>
        rw [if_neg (fun z => by rw [(bl y x hy).mpr z] at h2; cases h2)]
        have := ((mo_l hd hy hx hF 4 (Nat.le_refl _)).2 v h2).1
        show _ = -1 * v
        omega
      | none => rw [if_pos ((bl y x hy).mp h2)]
theorem mo_b (hd : Dm R C) {g : Bool} {F x y : Nat} (hx : x < R * C) (hy : y < R * C) (hF : F < 65536) : ∀ k, k ≤ 4 → ∀ v, mo R C g F x y k = some v → -20 ≤ v ∧ v ≤ 20 := by
  intro k
  induction k with
  | zero => intro _ v h; cases h
  | succ k ih =>
    intro hk v h
    cases hq : nf R C F x k with
    | none => rw [mo_n hq] at h; exact ih (by omega) v h
    | some q =>
      obtain ⟨a, b⟩ := nf_some.mp hq
      have hq2 := (nb_ok hd hx (by omega) a).1
      have hb := VV_b hd (g := g) hy hq2 (cb_lt hF (p := q))
      have hle := pc_le (cb F q)
      rw [mo_y hq] at h
      have h := Option.some.inj h
      have hs : -16 ≤ sg g * VV R C g y q (cb F q) ∧ sg g * VV R C g y q (cb F q) ≤ 16 := by cases g <;> simp only [sg] <;> simp <;> omega
      cases hm : mo R C g F x y k with
      | none =>
        rw [hm] at h
        have h : 1 + sg g * VV R C g y q (cb F q) = v := h
        omega
      | some u =>
        rw [hm] at h
        have h : max u (1 + sg g * VV R C g y q (cb F q)) = v := h
        have := ih (by omega) u hm
        omega
end V3
/-- the numbers of places -/
def FwN (M : AMm) (op : Nat) : Prop := M 20 16 = nI (pc op) ∧ ∀ p, op.testBit p = true → M 25 p = nI (rk op p) ∧ M 26 (rk op p) = nI p
/-- the table of two reapers from a stand on -/
def TW (M : AMm) (R C op : Nat) (g : Bool) (c0 a0 b0 : Nat) : Prop := ∀ c x y, op.testBit x = true → op.testBit y = true → c < 2 ^ pc op → c.testBit (rk op x) = true → c.testBit (rk op y) = true → (c0 < c ∨ (c = c0 ∧ (rk op x < a0 ∨ (rk op x = a0 ∧ rk op y < b0)))) → (M 23 (288 * c + 24 * rk op x + 2 * rk op y)).toInt = VV R C g x y (un op c) ∧ (M 23 (288 * c + 24 * rk op x + 2 * rk op y + 1)).toInt = sg g * VV R C g y x (un op c)
section V4
variable {d : Nat} {o i0 i1 : Option Nat} {ext : ADd} {M : AMm} {R C bg sp pn : Nat} {er pd : Nat → Int32} {K : Int32 → AMm → Prop}
theorem rk_end (hd : Dm R C) {op : Nat} (ho : ∀ i, op.testBit i = true → i < R * C) : rk op (R * C) = pc op := by
  have hl := hd.le
  have h := fb_ct_split (fun i => op.testBit i) (R * C) (16 - R * C)
  rw [show R * C + (16 - R * C) = 16 by omega] at h
  have z : fb_ct (fun k => op.testBit (R * C + k)) (16 - R * C) = 0 := fb_ct_zero.mpr (fun k _ => by
    cases hq : op.testBit (R * C + k) with
    | false => rfl
    | true => have := ho _ hq; omega)
  unfold rk pc
  omega
theorem m_areFew (hF : MF M R C er bg sp) (hw : WF R C er bg sp) (h0 : 12 < pc (opn er (R * C)) → ∀ M', FM M M' → K (nI 0) M') (h1 : pc (opn er (R * C)) ≤ 12 → ∀ M', FM M M' → FwN M' (opn er (R * C)) → K (nI 1) M') : CI (d + 2) 112 [.ref 20] (DB o i0 i1 ext) M (DB o i0 i1 ext) K := by
  have hl := hw.1.le
  have hA := opn_lt (er := er) hl
  have hAb : ∀ i, (opn er (R * C)).testBit i = true → i < R * C := fun i hi => ((opn_t er _ i).mp hi).1
  have hple := pc_le (opn er (R * C))
  have hM0 : FM M (ms M 20 16 (nI 0)) := FM.rf.ms (by omega)
  refine b_X5_areFew_0 (m_open (hF.fm hM0) hw.1 (m_ones hA ?_))
  rw [n_le (by omega) (by decide)]
  refine ⟨fun e => ?_, fun e => ⟨_, _, rfl, h0 (by omega) _ hM0⟩⟩
  have loop : ∀ n k (M1 : AMm), R * C - k = n → k ≤ R * C → FM M M1 → M1 20 16 = nI (rk (opn er (R * C)) k) → (∀ p, p < k → (opn er (R * C)).testBit p = true → M1 25 p = nI (rk (opn er (R * C)) p) ∧ M1 26 (rk (opn er (R * C)) p) = nI p) → T (d + 2) (fun r => ∃ v M', r = (some (.int v), DB o i0 i1 ext, M') ∧ K v M') (112, 14, [some (.ref 20), some (.int (nI (opn er (R * C)))), some (.int (nI k))], [], (DB o i0 i1 ext), M1) := by
    intro n
    induction n with
    | zero =>
      intro k M1 h0' hk hM h16 hT
      obtain rfl : k = R * C := by omega
      refine b_X5_areFew_14 _ _ (m_places (hF.fm hM) ⟨fun _ => ⟨_, _, rfl, h1 e M1 hM ⟨by rw [h16, rk_end hw.1 hAb], fun p hp => hT p (hAb p hp) hp⟩⟩, fun z => absurd (nI_le (Nat.le_refl _) (by omega)) z⟩)
    | succ n ih =>
      intro k M1 h0' hk hM h16 hT
      refine b_X5_areFew_14 _ _ (m_places (hF.fm hM) ⟨fun z => ?_, fun _ => ?_⟩)
      · rw [n_le (by omega) (by omega)] at z; omega
      · rw [n_t1 (by omega) (by omega), h16, n_cl (by omega), nI_add, nI_add]
        refine ⟨fun hb => ?_, fun hb => ?_⟩
        · have hr := rk_lt (show k < 16 by omega) hb
          refine ⟨n_in (by omega) (by decide), n_in (by omega) (by decide), ?_⟩
          rw [n_cl (by omega)]
          refine ih (k + 1) _ (by omega) (by omega) (((hM.ms (by omega)).ms (by omega)).ms (by omega)) ?_ (fun p hp hpb => ?_)
          · rw [ms_s]
            congr 1
            show _ = fb_ct _ (k + 1)
            rw [fb_ct_succ, hb]
            rfl
          · by_cases hpk : p = k
            · subst hpk
              rw [ms_a (by decide), ms_a (by decide), ms_s, ms_a (by decide), ms_s]
              exact ⟨rfl, rfl⟩
            · have hne : rk (opn er (R * C)) p ≠ rk (opn er (R * C)) k := fun q => hpk (rk_inj hpb hb q)
              rw [ms_a (by decide), ms_a (by decide), ms_b hpk, ms_a (by decide), ms_b hne, ms_a (by decide)]
              exact hT p (by omega) hpb
        · have hb : (opn er (R * C)).testBit k = false := by cases hq : (opn er (R * C)).testBit k with
            | false => rfl
            | true => exact absurd hq hb
          refine ih (k + 1) M1 (by omega) (by omega) hM ?_ (fun p hp hpb => ?_)
          · rw [h16]
            congr 1
            show _ = fb_ct _ (k + 1)
            rw [fb_ct_succ, hb]
            rfl
          · by_cases hpk : p = k
            · subst hpk; rw [hb] at hpb; cases hpb
            · exact hT p (by omega) hpb
  exact loop (R * C) 0 _ (by omega) (by omega) hM0 (ms_s _ _ _ _) (fun p hp => absurd hp (Nat.not_lt_zero p))
theorem m_stand {c a b t : Nat} (h : K (nI (288 * c + 24 * a + 2 * b + t)) M) : CI d 113 [.int (nI c), .int (nI a), .int (nI b), .int (nI t)] (DB o i0 i1 ext) M (DB o i0 i1 ext) K := by
  refine b_X5_stand_0 _ _ _ _ ⟨_, _, rfl, ?_⟩
  rw [pk_mul, nI_add, pk_mul, nI_add, pk_mul, nI_add, show ((c * 12 + a) * 12 + b) * 2 + t = 288 * c + 24 * a + 2 * b + t by omega]
  exact h
theorem m_nextFew (hF : MF M R C er bg sp) (hd : Dm R C) (hN : FwN M (opn er (R * C))) (h12 : pc (opn er (R * C)) ≤ 12) {c x k : Nat} (hc : c < 65536) (hx : (opn er (R * C)).testBit x = true) (hk : k < 4) (h : K (en6 ((nf R C (un (opn er (R * C)) c) x k).map (rk (opn er (R * C))))) M) : CI (d + 2) 114 [.ref 20, .int (nI c), .int (nI (rk (opn er (R * C)) x)), .int (nI k)] (DB o i0 i1 ext) M (DB o i0 i1 ext) K := by
  have hl := hd.le
  have hxl : x < R * C := ((opn_t er _ x).mp hx).1
  have hr := rk_lt (show x < 16 by omega) hx
  refine b_X5_nextFew_0 _ _ _ ⟨n_in (by omega) (by decide), ?_⟩
  rw [n_cl (by omega), (hN.2 x hx).2]
  refine m_beside hF.1 hF.2.1 hd hxl hk ?_
  have hnb := nb16 hd hxl hk
  rw [en6_neg (fun q hq => by have := hnb q hq; omega)]
  refine ⟨fun e => ⟨_, _, rfl, ?_⟩, fun e => ?_⟩
  · have : nf R C (un (opn er (R * C)) c) x k = none := by unfold nf; rw [e]
    rw [this] at h; exact h
  · cases hq : nb R C x k with
    | none => exact absurd hq e
    | some q =>
      have hq16 := hnb q hq
      have hq2 := (nb_ok hd hxl hk hq).1
      show vp_in (nI q) 16 ∧ ((M 21 (nI q).toNatClampNeg = -(nI 1) → _) ∧ (¬ M 21 (nI q).toNatClampNeg = -(nI 1) → vp_in (nI q) 16 ∧ ((((nI c >>> ((M 25 (nI q).toNatClampNeg) &&& 31)) &&& nI 1) = 0 → vp_in (nI q) 16 ∧ _) ∧ (¬ ((nI c >>> ((M 25 (nI q).toNatClampNeg) &&& 31)) &&& nI 1) = 0 → _))))
      rw [n_cl (by omega), hF.2.2.2.2 q hq2]
      refine ⟨n_in hq16 (by decide), fun e1 => ⟨_, _, rfl, ?_⟩, fun e1 => ⟨n_in hq16 (by decide), ?_⟩⟩
      · have : nf R C (un (opn er (R * C)) c) x k = none := by
          cases hz : nf R C (un (opn er (R * C)) c) x k with
          | none => rfl
          | some z =>
            obtain ⟨z1, z2⟩ := nf_some.mp hz
            rw [hq] at z1
            obtain rfl := Option.some.inj z1
            have := ((un_t (opn_lt hl)).mp z2).1
            exact absurd e1 ((opn_t er _ q).mp this).2
        rw [this] at h; exact h
      · have ho := (opn_t er (R * C) q).mpr ⟨hq2, e1⟩
        have hrq := rk_lt hq16 ho
        rw [(hN.2 q ho).1, n_t0 (by omega) (by omega)]
        refine ⟨fun e2 => ⟨n_in hq16 (by decide), _, _, rfl, ?_⟩, fun e2 => ⟨_, _, rfl, ?_⟩⟩
        · rw [nf_some.mpr ⟨hq, (un_t (opn_lt hl)).mpr ⟨ho, e2⟩⟩] at h
          have : M 25 ((en6 (some q)).toNatClampNeg) = nI (rk (opn er (R * C)) q) := by
            show M 25 ((nI q).toNatClampNeg) = _
            rw [n_cl (by omega), (hN.2 q ho).1]
          rw [this]
          exact h
        · have : nf R C (un (opn er (R * C)) c) x k = none := by
            cases hz : nf R C (un (opn er (R * C)) c) x k with
            | none => rfl
            | some z =>
              obtain ⟨z1, z2⟩ := nf_some.mp hz
              rw [hq] at z1
              obtain rfl := Option.some.inj z1
              exact absurd ((un_t (opn_lt hl)).mp z2).2 e2
          rw [this] at h; exact h
theorem ti_add1 {v : Int32} (h1 : -100 ≤ v.toInt) (h2 : v.toInt ≤ 100) : (v + nI 1).toInt = v.toInt + 1 := by
  have h0 : (nI 1).toInt = 1 := by decide
  rw [Int32.toInt_add, h0]
  exact Int.bmod_eq_of_le (by omega) (by omega)
theorem ti_dec1 {v : Int32} (h1 : -100 ≤ v.toInt) (h2 : v.toInt ≤ 100) : (v + (-(nI 1))).toInt = v.toInt - 1 := by
  have h0 : (-(nI 1)).toInt = -1 := by decide
  rw [Int32.toInt_add, h0]
  exact Int.bmod_eq_of_le (by omega) (by omega)
theorem m_bs00 (hF : MF M R C er bg sp) (hw : WF R C er bg sp) (hN : FwN M (opn er (R * C))) (h12 : pc (opn er (R * C)) ≤ 12) {c x y a0 b0 : Nat} (hc : c < 2 ^ pc (opn er (R * C))) (hx : (opn er (R * C)).testBit x = true) (hy : (opn er (R * C)).testBit y = true) (hcx : c.testBit (rk (opn er (R * C)) x) = true) (hcy : c.testBit (rk (opn er (R * C)) y) = true) (hT : TW M R C (opn er (R * C)) false c a0 b0) (h : ∀ v : Int32, (match mo R C false (un (opn er (R * C)) c) x y 4 with | none => v = -(nI 1000) | some u => v.toInt = u) → K v M) : CI (d + 3) 115 [.ref 20, .int (nI c), .int (nI (rk (opn er (R * C)) x)), .int (nI (rk (opn er (R * C)) y)), .int (nI 0), .int (nI 0)] (DB o i0 i1 ext) M (DB o i0 i1 ext) K := by
  have hl := hw.1.le
  have hA := opn_lt (er := er) hl
  have hxl : x < R * C := ((opn_t er _ x).mp hx).1
  have hyl : y < R * C := ((opn_t er _ y).mp hy).1
  have hrx := rk_lt (show x < 16 by omega) hx
  have hry := rk_lt (show y < 16 by omega) hy
  have hc12 : c < 4096 := Nat.lt_of_lt_of_le hc (Nat.le_trans (Nat.pow_le_pow_right (by decide) h12) (by decide))
  have loop : ∀ n k (b w : Int32), 4 - k = n → k ≤ 4 → (match mo R C false (un (opn er (R * C)) c) x y k with | none => b = nI 0 ∧ w = nI 0 | some u => b = nI 1 ∧ w.toInt = u) → T (d + 3) (fun r => ∃ v M', r = (some (.int v), DB o i0 i1 ext, M') ∧ K v M') (115, 6, [some (.ref 20), some (.int (nI c)), some (.int (nI (rk (opn er (R * C)) x))), some (.int (nI (rk (opn er (R * C)) y))), some (.int (nI 0)), some (.int (nI 0)), some (.int b), some (.int w), some (.int (nI k)), none, none, none, none], [], (DB o i0 i1 ext), M) := by
    intro n
    induction n with
    | zero =>
      intro k b w h0 hk hm
      obtain rfl : k = 4 := by omega
      refine b_X5_bestStep00_6 _ _ _ _ _ _ ⟨fun _ => ?_, fun z => absurd (nI_le (Nat.le_refl _) (by decide)) z⟩
      cases hq : mo R C false (un (opn er (R * C)) c) x y 4 with
      | none =>
        rw [hq] at hm h
        obtain ⟨rfl, rfl⟩ := hm
        exact ⟨fun _ => ⟨_, _, rfl, h _ rfl⟩, fun z => absurd rfl z⟩
      | some u =>
        rw [hq] at hm h
        obtain ⟨rfl, hw2⟩ := hm
        exact ⟨fun z => absurd z (by decide), fun _ => ⟨_, _, rfl, h _ hw2⟩⟩
    | succ n ih =>
      intro k b w h0 hk hm
      refine b_X5_bestStep00_6 _ _ _ _ _ _ ⟨fun z => ?_, fun _ => m_nextFew hF hw.1 hN h12 (by omega) hx (by omega) ?_⟩
      · rw [n_le (by decide) (by omega)] at z; omega
      · have hmv : ∀ q, (nf R C (un (opn er (R * C)) c) x k).map (rk (opn er (R * C))) = some q → q < 2 ^ 31 := by
          intro q hq
          rw [Option.map_eq_some_iff] at hq
          obtain ⟨z, hz, rfl⟩ := hq
          have hz2 := ((un_t hA).mp (nf_some.mp hz).2).1
          have := rk_lt (nf16 hw.1 hxl (by omega) hz) hz2
          omega
        rw [en6_neg hmv]
        cases hq : nf R C (un (opn er (R * C)) c) x k with
        | none =>
          refine ⟨fun _ => ?_, fun z => absurd rfl z⟩
          rw [nI_add]
          exact ih (k + 1) b w (by omega) (by omega) (by rw [mo_n hq]; exact hm)
        | some q =>
          obtain ⟨a, b'⟩ := nf_some.mp hq
          have hqo := (un_t hA).mp b'
          have hq2 := (nb_ok hw.1 hxl (by omega) a).1
          have hrq := rk_lt (show q < 16 by omega) hqo.1
          refine ⟨fun z => (by cases z), fun _ => ?_⟩
          show CI _ 113 [.int (nI c ||| ((nI 1) <<< (nI (rk (opn er (R * C)) q) &&& 31))), .int (nI (rk (opn er (R * C)) q)), .int (nI (rk (opn er (R * C)) y)), .int (nI 1 - nI 0)] _ _ _ _
          rw [n_sb (by omega), pk_sub (by decide)]
          have hsl := sb_few hc hrq
          have hsl2 : sb c (rk (opn er (R * C)) q) < 4096 := Nat.lt_of_lt_of_le hsl (Nat.le_trans (Nat.pow_le_pow_right (by decide) h12) (by decide))
          have hTv := (hT (sb c (rk (opn er (R * C)) q)) q y hqo.1 hy hsl (by rw [sb_t]; simp) (by rw [sb_t, hcy]; rfl) (Or.inl (sb_gt hqo.2))).2
          have hVb := VV_b hw.1 (g := false) (x := y) (y := q) (F := un (opn er (R * C)) (sb c (rk (opn er (R * C)) q))) hyl hq2 un_lt
          have hpl := pc_le (un (opn er (R * C)) (sb c (rk (opn er (R * C)) q)))
          refine m_stand ⟨n_in (by omega) (by decide), ?_⟩
          rw [n_cl (by omega)]
          generalize hcell : M 23 (288 * sb c (rk (opn er (R * C)) q) + 24 * rk (opn er (R * C)) q + 2 * rk (opn er (R * C)) y + 1) = cv at hTv
          have hcell' : M 23 (288 * sb c (rk (opn er (R * C)) q) + 24 * rk (opn er (R * C)) q + 2 * rk (opn er (R * C)) y + 1) = cv := hcell
          try rw [hcell']
          rw [← un_sb hA hqo.1] at hTv hVb hpl
          have his : (cv + nI 1).toInt = 1 + sg false * VV R C false y q (cb (un (opn er (R * C)) c) q) := by rw [ti_add1 (by rw [hTv]; simp only [sg]; simp; omega) (by rw [hTv]; simp only [sg]; simp; omega), hTv]; omega
          have e := fun b w hm => ih (k + 1) b w (by omega) (by omega) hm
          refine b_X5_bestStep00_55 _ _ _ _ _ _ _ ?_
          rw [nI_add]
          rw [mo_y hq] at e
          cases hmk : mo R C false (un (opn er (R * C)) c) x y k with
          | none =>
            rw [hmk] at hm e
            obtain ⟨rfl, rfl⟩ := hm
            have e := e (nI 1) (cv + nI 1) ⟨rfl, his⟩
            exact ⟨fun _ => ⟨fun _ => e, fun z => absurd rfl z⟩, fun _ => ⟨fun _ => e, fun z => absurd rfl z⟩⟩
          | some u =>
            rw [hmk] at hm e
            obtain ⟨rfl, hw2⟩ := hm
            refine ⟨fun z => ⟨fun y => absurd y (by decide), fun _ => ?_⟩, fun z => ⟨fun y => absurd y (by decide), fun _ => ?_⟩⟩
            · rw [fa_le, his, hw2] at z
              refine e (nI 1) w ⟨rfl, ?_⟩
              show w.toInt = max u (1 + sg false * VV R C false y q (cb (un (opn er (R * C)) c) q))
              rw [hw2]
              omega
            · rw [fa_le, his, hw2] at z
              refine e (nI 1) _ ⟨rfl, ?_⟩
              show ((cv + nI 1)).toInt = max u (1 + sg false * VV R C false y q (cb (un (opn er (R * C)) c) q))
              rw [his]
              omega
  exact b_X5_bestStep00_0 _ _ _ (loop 4 0 (nI 0) (nI 0) rfl (by decide) ⟨rfl, rfl⟩)
theorem m_bs01 (hF : MF M R C er bg sp) (hw : WF R C er bg sp) (hN : FwN M (opn er (R * C))) (h12 : pc (opn er (R * C)) ≤ 12) {c x y a0 b0 : Nat} (hc : c < 2 ^ pc (opn er (R * C))) (hx : (opn er (R * C)).testBit x = true) (hy : (opn er (R * C)).testBit y = true) (hcx : c.testBit (rk (opn er (R * C)) x) = true) (hcy : c.testBit (rk (opn er (R * C)) y) = true) (hT : TW M R C (opn er (R * C)) true c a0 b0) (h : ∀ v : Int32, (match mo R C true (un (opn er (R * C)) c) x y 4 with | none => v = -(nI 1000) | some u => v.toInt = u) → K v M) : CI (d + 3) 115 [.ref 20, .int (nI c), .int (nI (rk (opn er (R * C)) x)), .int (nI (rk (opn er (R * C)) y)), .int (nI 0), .int (nI 1)] (DB o i0 i1 ext) M (DB o i0 i1 ext) K := by
  have hl := hw.1.le
  have hA := opn_lt (er := er) hl
  have hxl : x < R * C := ((opn_t er _ x).mp hx).1
  have hyl : y < R * C := ((opn_t er _ y).mp hy).1
  have hrx := rk_lt (show x < 16 by omega) hx
  have hry := rk_lt (show y < 16 by omega) hy
  have hc12 : c < 4096 := Nat.lt_of_lt_of_le hc (Nat.le_trans (Nat.pow_le_pow_right (by decide) h12) (by decide))
  have loop : ∀ n k (b w : Int32), 4 - k = n → k ≤ 4 → (match mo R C true (un (opn er (R * C)) c) x y k with | none => b = nI 0 ∧ w = nI 0 | some u => b = nI 1 ∧ w.toInt = u) → T (d + 3) (fun r => ∃ v M', r = (some (.int v), DB o i0 i1 ext, M') ∧ K v M') (115, 6, [some (.ref 20), some (.int (nI c)), some (.int (nI (rk (opn er (R * C)) x))), some (.int (nI (rk (opn er (R * C)) y))), some (.int (nI 0)), some (.int (nI 1)), some (.int b), some (.int w), some (.int (nI k)), none, none, none, none], [], (DB o i0 i1 ext), M) := by
    intro n
    induction n with
    | zero =>
      intro k b w h0 hk hm
      obtain rfl : k = 4 := by omega
      refine b_X5_bestStep01_6 _ _ _ _ _ _ ⟨fun _ => ?_, fun z => absurd (nI_le (Nat.le_refl _) (by decide)) z⟩
      cases hq : mo R C true (un (opn er (R * C)) c) x y 4 with
      | none =>
        rw [hq] at hm h
        obtain ⟨rfl, rfl⟩ := hm
        exact ⟨fun _ => ⟨_, _, rfl, h _ rfl⟩, fun z => absurd rfl z⟩
      | some u =>
        rw [hq] at hm h
        obtain ⟨rfl, hw2⟩ := hm
        exact ⟨fun z => absurd z (by decide), fun _ => ⟨_, _, rfl, h _ hw2⟩⟩
    | succ n ih =>
      intro k b w h0 hk hm
      refine b_X5_bestStep01_6 _ _ _ _ _ _ ⟨fun z => ?_, fun _ => m_nextFew hF hw.1 hN h12 (by omega) hx (by omega) ?_⟩
      · rw [n_le (by decide) (by omega)] at z; omega
      · have hmv : ∀ q, (nf R C (un (opn er (R * C)) c) x k).map (rk (opn er (R * C))) = some q → q < 2 ^ 31 := by
          intro q hq
          rw [Option.map_eq_some_iff] at hq
          obtain ⟨z, hz, rfl⟩ := hq
          have hz2 := ((un_t hA).mp (nf_some.mp hz).2).1
          have := rk_lt (nf16 hw.1 hxl (by omega) hz) hz2
          omega
        rw [en6_neg hmv]
        cases hq : nf R C (un (opn er (R * C)) c) x k with
        | none =>
          refine ⟨fun _ => ?_, fun z => absurd rfl z⟩
          rw [nI_add]
          exact ih (k + 1) b w (by omega) (by omega) (by rw [mo_n hq]; exact hm)
        | some q =>
          obtain ⟨a, b'⟩ := nf_some.mp hq
          have hqo := (un_t hA).mp b'
          have hq2 := (nb_ok hw.1 hxl (by omega) a).1
          have hrq := rk_lt (show q < 16 by omega) hqo.1
          refine ⟨fun z => (by cases z), fun _ => ?_⟩
          show CI _ 113 [.int (nI c ||| ((nI 1) <<< (nI (rk (opn er (R * C)) q) &&& 31))), .int (nI (rk (opn er (R * C)) q)), .int (nI (rk (opn er (R * C)) y)), .int (nI 1 - nI 0)] _ _ _ _
          rw [n_sb (by omega), pk_sub (by decide)]
          have hsl := sb_few hc hrq
          have hsl2 : sb c (rk (opn er (R * C)) q) < 4096 := Nat.lt_of_lt_of_le hsl (Nat.le_trans (Nat.pow_le_pow_right (by decide) h12) (by decide))
          have hTv := (hT (sb c (rk (opn er (R * C)) q)) q y hqo.1 hy hsl (by rw [sb_t]; simp) (by rw [sb_t, hcy]; rfl) (Or.inl (sb_gt hqo.2))).2
          have hVb := VV_b hw.1 (g := true) (x := y) (y := q) (F := un (opn er (R * C)) (sb c (rk (opn er (R * C)) q))) hyl hq2 un_lt
          have hpl := pc_le (un (opn er (R * C)) (sb c (rk (opn er (R * C)) q)))
          refine m_stand ⟨n_in (by omega) (by decide), ?_⟩
          rw [n_cl (by omega)]
          generalize hcell : M 23 (288 * sb c (rk (opn er (R * C)) q) + 24 * rk (opn er (R * C)) q + 2 * rk (opn er (R * C)) y + 1) = cv at hTv
          have hcell' : M 23 (288 * sb c (rk (opn er (R * C)) q) + 24 * rk (opn er (R * C)) q + 2 * rk (opn er (R * C)) y + 1) = cv := hcell
          try rw [hcell']
          rw [← un_sb hA hqo.1] at hTv hVb hpl
          have his : (cv + nI 1).toInt = 1 + sg true * VV R C true y q (cb (un (opn er (R * C)) c) q) := by rw [ti_add1 (by rw [hTv]; simp only [sg]; simp; omega) (by rw [hTv]; simp only [sg]; simp; omega), hTv]; omega
          have e := fun b w hm => ih (k + 1) b w (by omega) (by omega) hm
          refine b_X5_bestStep01_55 _ _ _ _ _ _ _ ?_
          rw [nI_add]
          rw [mo_y hq] at e
          cases hmk : mo R C true (un (opn er (R * C)) c) x y k with
          | none =>
            rw [hmk] at hm e
            obtain ⟨rfl, rfl⟩ := hm
            have e := e (nI 1) (cv + nI 1) ⟨rfl, his⟩
            exact ⟨fun _ => ⟨fun _ => e, fun z => absurd rfl z⟩, fun _ => ⟨fun _ => e, fun z => absurd rfl z⟩⟩
          | some u =>
            rw [hmk] at hm e
            obtain ⟨rfl, hw2⟩ := hm
            refine ⟨fun z => ⟨fun y => absurd y (by decide), fun _ => ?_⟩, fun z => ⟨fun y => absurd y (by decide), fun _ => ?_⟩⟩
            · rw [fa_le, his, hw2] at z
              refine e (nI 1) w ⟨rfl, ?_⟩
              show w.toInt = max u (1 + sg true * VV R C true y q (cb (un (opn er (R * C)) c) q))
              rw [hw2]
              omega
            · rw [fa_le, his, hw2] at z
              refine e (nI 1) _ ⟨rfl, ?_⟩
              show ((cv + nI 1)).toInt = max u (1 + sg true * VV R C true y q (cb (un (opn er (R * C)) c) q))
              rw [his]
              omega
  exact b_X5_bestStep01_0 _ _ _ (loop 4 0 (nI 0) (nI 0) rfl (by decide) ⟨rfl, rfl⟩)
theorem m_bs10 (hF : MF M R C er bg sp) (hw : WF R C er bg sp) (hN : FwN M (opn er (R * C))) (h12 : pc (opn er (R * C)) ≤ 12) {c x y a0 b0 : Nat} (hc : c < 2 ^ pc (opn er (R * C))) (hx : (opn er (R * C)).testBit x = true) (hy : (opn er (R * C)).testBit y = true) (hcx : c.testBit (rk (opn er (R * C)) x) = true) (hcy : c.testBit (rk (opn er (R * C)) y) = true) (hT : TW M R C (opn er (R * C)) false c a0 b0) (h : ∀ v : Int32, (match mo R C false (un (opn er (R * C)) c) y x 4 with | none => v = -(nI 1000) | some u => v.toInt = u) → K v M) : CI (d + 3) 115 [.ref 20, .int (nI c), .int (nI (rk (opn er (R * C)) x)), .int (nI (rk (opn er (R * C)) y)), .int (nI 1), .int (nI 0)] (DB o i0 i1 ext) M (DB o i0 i1 ext) K := by
  have hl := hw.1.le
  have hA := opn_lt (er := er) hl
  have hxl : x < R * C := ((opn_t er _ x).mp hx).1
  have hyl : y < R * C := ((opn_t er _ y).mp hy).1
  have hrx := rk_lt (show x < 16 by omega) hx
  have hry := rk_lt (show y < 16 by omega) hy
  have hc12 : c < 4096 := Nat.lt_of_lt_of_le hc (Nat.le_trans (Nat.pow_le_pow_right (by decide) h12) (by decide))
  have loop : ∀ n k (b w : Int32), 4 - k = n → k ≤ 4 → (match mo R C false (un (opn er (R * C)) c) y x k with | none => b = nI 0 ∧ w = nI 0 | some u => b = nI 1 ∧ w.toInt = u) → T (d + 3) (fun r => ∃ v M', r = (some (.int v), DB o i0 i1 ext, M') ∧ K v M') (115, 6, [some (.ref 20), some (.int (nI c)), some (.int (nI (rk (opn er (R * C)) x))), some (.int (nI (rk (opn er (R * C)) y))), some (.int (nI 1)), some (.int (nI 0)), some (.int b), some (.int w), some (.int (nI k)), none, none, none, none], [], (DB o i0 i1 ext), M) := by
    intro n
    induction n with
    | zero =>
      intro k b w h0 hk hm
      obtain rfl : k = 4 := by omega
      refine b_X5_bestStep10_6 _ _ _ _ _ _ ⟨fun _ => ?_, fun z => absurd (nI_le (Nat.le_refl _) (by decide)) z⟩
      cases hq : mo R C false (un (opn er (R * C)) c) y x 4 with
      | none =>
        rw [hq] at hm h
        obtain ⟨rfl, rfl⟩ := hm
        exact ⟨fun _ => ⟨_, _, rfl, h _ rfl⟩, fun z => absurd rfl z⟩
      | some u =>
        rw [hq] at hm h
        obtain ⟨rfl, hw2⟩ := hm
        exact ⟨fun z => absurd z (by decide), fun _ => ⟨_, _, rfl, h _ hw2⟩⟩
    | succ n ih =>
      intro k b w h0 hk hm
      refine b_X5_bestStep10_6 _ _ _ _ _ _ ⟨fun z => ?_, fun _ => m_nextFew hF hw.1 hN h12 (by omega) hy (by omega) ?_⟩
      · rw [n_le (by decide) (by omega)] at z; omega
      · have hmv : ∀ q, (nf R C (un (opn er (R * C)) c) y k).map (rk (opn er (R * C))) = some q → q < 2 ^ 31 := by
          intro q hq
          rw [Option.map_eq_some_iff] at hq
          obtain ⟨z, hz, rfl⟩ := hq
          have hz2 := ((un_t hA).mp (nf_some.mp hz).2).1
          have := rk_lt (nf16 hw.1 hyl (by omega) hz) hz2
          omega
        rw [en6_neg hmv]
        cases hq : nf R C (un (opn er (R * C)) c) y k with
        | none =>
          refine ⟨fun _ => ?_, fun z => absurd rfl z⟩
          rw [nI_add]
          exact ih (k + 1) b w (by omega) (by omega) (by rw [mo_n hq]; exact hm)
        | some q =>
          obtain ⟨a, b'⟩ := nf_some.mp hq
          have hqo := (un_t hA).mp b'
          have hq2 := (nb_ok hw.1 hyl (by omega) a).1
          have hrq := rk_lt (show q < 16 by omega) hqo.1
          refine ⟨fun z => (by cases z), fun _ => ?_⟩
          show CI _ 113 [.int (nI c ||| ((nI 1) <<< (nI (rk (opn er (R * C)) q) &&& 31))), .int (nI (rk (opn er (R * C)) x)), .int (nI (rk (opn er (R * C)) q)), .int (nI 1 - nI 1)] _ _ _ _
          rw [n_sb (by omega), pk_sub (by decide)]
          have hsl := sb_few hc hrq
          have hsl2 : sb c (rk (opn er (R * C)) q) < 4096 := Nat.lt_of_lt_of_le hsl (Nat.le_trans (Nat.pow_le_pow_right (by decide) h12) (by decide))
          have hTv := (hT (sb c (rk (opn er (R * C)) q)) x q hx hqo.1 hsl (by rw [sb_t, hcx]; rfl) (by rw [sb_t]; simp) (Or.inl (sb_gt hqo.2))).1
          have hVb := VV_b hw.1 (g := false) (x := x) (y := q) (F := un (opn er (R * C)) (sb c (rk (opn er (R * C)) q))) hxl hq2 un_lt
          have hpl := pc_le (un (opn er (R * C)) (sb c (rk (opn er (R * C)) q)))
          refine m_stand ⟨n_in (by omega) (by decide), ?_⟩
          rw [n_cl (by omega)]
          generalize hcell : M 23 (288 * sb c (rk (opn er (R * C)) q) + 24 * rk (opn er (R * C)) x + 2 * rk (opn er (R * C)) q) = cv at hTv
          have hcell' : M 23 (288 * sb c (rk (opn er (R * C)) q) + 24 * rk (opn er (R * C)) x + 2 * rk (opn er (R * C)) q + 0) = cv := hcell
          try rw [hcell']
          rw [← un_sb hA hqo.1] at hTv hVb hpl
          have his : (cv + nI 1).toInt = 1 + sg false * VV R C false x q (cb (un (opn er (R * C)) c) q) := by rw [ti_add1 (by rw [hTv]; omega) (by rw [hTv]; omega), hTv]; simp only [sg]; simp; omega
          have e := fun b w hm => ih (k + 1) b w (by omega) (by omega) hm
          refine b_X5_bestStep10_55 _ _ _ _ _ _ _ ?_
          rw [nI_add]
          rw [mo_y hq] at e
          cases hmk : mo R C false (un (opn er (R * C)) c) y x k with
          | none =>
            rw [hmk] at hm e
            obtain ⟨rfl, rfl⟩ := hm
            have e := e (nI 1) (cv + nI 1) ⟨rfl, his⟩
            exact ⟨fun _ => ⟨fun _ => e, fun z => absurd rfl z⟩, fun _ => ⟨fun _ => e, fun z => absurd rfl z⟩⟩
          | some u =>
            rw [hmk] at hm e
            obtain ⟨rfl, hw2⟩ := hm
            refine ⟨fun z => ⟨fun y => absurd y (by decide), fun _ => ?_⟩, fun z => ⟨fun y => absurd y (by decide), fun _ => ?_⟩⟩
            · rw [fa_le, his, hw2] at z
              refine e (nI 1) w ⟨rfl, ?_⟩
              show w.toInt = max u (1 + sg false * VV R C false x q (cb (un (opn er (R * C)) c) q))
              rw [hw2]
              omega
            · rw [fa_le, his, hw2] at z
              refine e (nI 1) _ ⟨rfl, ?_⟩
              show ((cv + nI 1)).toInt = max u (1 + sg false * VV R C false x q (cb (un (opn er (R * C)) c) q))
              rw [his]
              omega
  exact b_X5_bestStep10_0 _ _ _ (loop 4 0 (nI 0) (nI 0) rfl (by decide) ⟨rfl, rfl⟩)
theorem m_bs11 (hF : MF M R C er bg sp) (hw : WF R C er bg sp) (hN : FwN M (opn er (R * C))) (h12 : pc (opn er (R * C)) ≤ 12) {c x y a0 b0 : Nat} (hc : c < 2 ^ pc (opn er (R * C))) (hx : (opn er (R * C)).testBit x = true) (hy : (opn er (R * C)).testBit y = true) (hcx : c.testBit (rk (opn er (R * C)) x) = true) (hcy : c.testBit (rk (opn er (R * C)) y) = true) (hT : TW M R C (opn er (R * C)) true c a0 b0) (h : ∀ v : Int32, (match mo R C true (un (opn er (R * C)) c) y x 4 with | none => v = -(nI 1000) | some u => v.toInt = -u) → K v M) : CI (d + 3) 115 [.ref 20, .int (nI c), .int (nI (rk (opn er (R * C)) x)), .int (nI (rk (opn er (R * C)) y)), .int (nI 1), .int (nI 1)] (DB o i0 i1 ext) M (DB o i0 i1 ext) K := by
  have hl := hw.1.le
  have hA := opn_lt (er := er) hl
  have hxl : x < R * C := ((opn_t er _ x).mp hx).1
  have hyl : y < R * C := ((opn_t er _ y).mp hy).1
  have hrx := rk_lt (show x < 16 by omega) hx
  have hry := rk_lt (show y < 16 by omega) hy
  have hc12 : c < 4096 := Nat.lt_of_lt_of_le hc (Nat.le_trans (Nat.pow_le_pow_right (by decide) h12) (by decide))
  have loop : ∀ n k (b w : Int32), 4 - k = n → k ≤ 4 → (match mo R C true (un (opn er (R * C)) c) y x k with | none => b = nI 0 ∧ w = nI 0 | some u => b = nI 1 ∧ w.toInt = -u) → T (d + 3) (fun r => ∃ v M', r = (some (.int v), DB o i0 i1 ext, M') ∧ K v M') (115, 6, [some (.ref 20), some (.int (nI c)), some (.int (nI (rk (opn er (R * C)) x))), some (.int (nI (rk (opn er (R * C)) y))), some (.int (nI 1)), some (.int (nI 1)), some (.int b), some (.int w), some (.int (nI k)), none, none, none, none], [], (DB o i0 i1 ext), M) := by
    intro n
    induction n with
    | zero =>
      intro k b w h0 hk hm
      obtain rfl : k = 4 := by omega
      refine b_X5_bestStep11_6 _ _ _ _ _ _ ⟨fun _ => ?_, fun z => absurd (nI_le (Nat.le_refl _) (by decide)) z⟩
      cases hq : mo R C true (un (opn er (R * C)) c) y x 4 with
      | none =>
        rw [hq] at hm h
        obtain ⟨rfl, rfl⟩ := hm
        exact ⟨fun _ => ⟨_, _, rfl, h _ rfl⟩, fun z => absurd rfl z⟩
      | some u =>
        rw [hq] at hm h
        obtain ⟨rfl, hw2⟩ := hm
        exact ⟨fun z => absurd z (by decide), fun _ => ⟨_, _, rfl, h _ hw2⟩⟩
    | succ n ih =>
      intro k b w h0 hk hm
      refine b_X5_bestStep11_6 _ _ _ _ _ _ ⟨fun z => ?_, fun _ => m_nextFew hF hw.1 hN h12 (by omega) hy (by omega) ?_⟩
      · rw [n_le (by decide) (by omega)] at z; omega
      · have hmv : ∀ q, (nf R C (un (opn er (R * C)) c) y k).map (rk (opn er (R * C))) = some q → q < 2 ^ 31 := by
          intro q hq
          rw [Option.map_eq_some_iff] at hq
          obtain ⟨z, hz, rfl⟩ := hq
          have hz2 := ((un_t hA).mp (nf_some.mp hz).2).1
          have := rk_lt (nf16 hw.1 hyl (by omega) hz) hz2
          omega
        rw [en6_neg hmv]
        cases hq : nf R C (un (opn er (R * C)) c) y k with
        | none =>
          refine ⟨fun _ => ?_, fun z => absurd rfl z⟩
          rw [nI_add]
          exact ih (k + 1) b w (by omega) (by omega) (by rw [mo_n hq]; exact hm)
        | some q =>
          obtain ⟨a, b'⟩ := nf_some.mp hq
          have hqo := (un_t hA).mp b'
          have hq2 := (nb_ok hw.1 hyl (by omega) a).1
          have hrq := rk_lt (show q < 16 by omega) hqo.1
          refine ⟨fun z => (by cases z), fun _ => ?_⟩
          show CI _ 113 [.int (nI c ||| ((nI 1) <<< (nI (rk (opn er (R * C)) q) &&& 31))), .int (nI (rk (opn er (R * C)) x)), .int (nI (rk (opn er (R * C)) q)), .int (nI 1 - nI 1)] _ _ _ _
          rw [n_sb (by omega), pk_sub (by decide)]
          have hsl := sb_few hc hrq
          have hsl2 : sb c (rk (opn er (R * C)) q) < 4096 := Nat.lt_of_lt_of_le hsl (Nat.le_trans (Nat.pow_le_pow_right (by decide) h12) (by decide))
          have hTv := (hT (sb c (rk (opn er (R * C)) q)) x q hx hqo.1 hsl (by rw [sb_t, hcx]; rfl) (by rw [sb_t]; simp) (Or.inl (sb_gt hqo.2))).1
          have hVb := VV_b hw.1 (g := true) (x := x) (y := q) (F := un (opn er (R * C)) (sb c (rk (opn er (R * C)) q))) hxl hq2 un_lt
          have hpl := pc_le (un (opn er (R * C)) (sb c (rk (opn er (R * C)) q)))
          refine m_stand ⟨n_in (by omega) (by decide), ?_⟩
          rw [n_cl (by omega)]
          generalize hcell : M 23 (288 * sb c (rk (opn er (R * C)) q) + 24 * rk (opn er (R * C)) x + 2 * rk (opn er (R * C)) q) = cv at hTv
          have hcell' : M 23 (288 * sb c (rk (opn er (R * C)) q) + 24 * rk (opn er (R * C)) x + 2 * rk (opn er (R * C)) q + 0) = cv := hcell
          try rw [hcell']
          rw [← un_sb hA hqo.1] at hTv hVb hpl
          have his : (cv + (-(nI 1))).toInt = -(1 + sg true * VV R C true x q (cb (un (opn er (R * C)) c) q)) := by rw [ti_dec1 (by rw [hTv]; omega) (by rw [hTv]; omega), hTv]; simp only [sg]; simp; omega
          have e := fun b w hm => ih (k + 1) b w (by omega) (by omega) hm
          refine b_X5_bestStep11_55 _ _ _ _ _ _ _ ?_
          rw [nI_add]
          rw [mo_y hq] at e
          cases hmk : mo R C true (un (opn er (R * C)) c) y x k with
          | none =>
            rw [hmk] at hm e
            obtain ⟨rfl, rfl⟩ := hm
            have e := e (nI 1) (cv + (-(nI 1))) ⟨rfl, his⟩
            exact ⟨fun _ => ⟨fun _ => e, fun z => absurd rfl z⟩, fun _ => ⟨fun _ => e, fun z => absurd rfl z⟩⟩
          | some u =>
            rw [hmk] at hm e
            obtain ⟨rfl, hw2⟩ := hm
            refine ⟨fun z => ⟨fun y => absurd y (by decide), fun _ => ?_⟩, fun z => ⟨fun y => absurd y (by decide), fun _ => ?_⟩⟩
            · rw [fa_le, his, hw2] at z
              refine e (nI 1) w ⟨rfl, ?_⟩
              show w.toInt = -(max u (1 + sg true * VV R C true x q (cb (un (opn er (R * C)) c) q)))
              rw [hw2]
              omega
            · rw [fa_le, his, hw2] at z
              refine e (nI 1) _ ⟨rfl, ?_⟩
              show ((cv + (-(nI 1)))).toInt = -(max u (1 + sg true * VV R C true x q (cb (un (opn er (R * C)) c) q)))
              rw [his]
              omega
  exact b_X5_bestStep11_0 _ _ _ (loop 4 0 (nI 0) (nI 0) rfl (by decide) ⟨rfl, rfl⟩)
end V4
