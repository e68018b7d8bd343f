-- THE CLASS: laying and sowing a field
theorem ms_s (M : AMm) (a b : Nat) (v : Int32) : ms M a b v a b = v := by simp [ms]
theorem ms_a {M : AMm} {a b : Nat} {v : Int32} {x y : Nat} (h : x ≠ a) : ms M a b v x y = M x y := by simp [ms, h]
theorem ms_b {M : AMm} {a b : Nat} {v : Int32} {x y : Nat} (h : y ≠ b) : ms M a b v x y = M x y := by simp [ms, h]
theorem ms_n {M : AMm} {a b : Nat} {v : Int32} {x y : Nat} (h : ¬ (x = a ∧ y = b)) : ms M a b v x y = M x y := by
  by_cases h1 : x = a
  · exact ms_b (fun q => h ⟨h1, q⟩)
  · exact ms_a h1
def sgn (k : Nat) : Int32 := if k = 0 then nI 110 else if k = 1 then nI 101 else if k = 2 then nI 115 else nI 119
def sro (k : Nat) : Int32 := if k = 0 then -(nI 1) else if k = 1 then nI 0 else if k = 2 then nI 1 else nI 0
def sco (k : Nat) : Int32 := if k = 0 then nI 0 else if k = 1 then nI 1 else if k = 2 then nI 0 else -(nI 1)
/-- the constants -/
def RO (M : AMm) : Prop := ∀ k, k < 4 → M 1000001 k = sgn k ∧ M 1000002 k = sro k ∧ M 1000003 k = sco k
theorem RO.of {M M' : AMm} (h : RO M) (h1 : ∀ a, 1000000 ≤ a → M' a = M a) : RO M' := by
  unfold RO
  rw [h1 1000001 (by decide), h1 1000002 (by decide), h1 1000003 (by decide)]
  exact h
def ark (R C p : Nat) : Nat → Nat
  | 0 => 0
  | k + 1 => ark R C p k ||| ob (nb R C p k)
theorem ark_4 (R C p : Nat) : ark R C p 4 = arn R C p := by
  unfold arn
  show (((0 ||| _) ||| _) ||| _) ||| _ = _
  rw [Nat.zero_or]
theorem g_jn : gall (fun R C p k => match nb R C p k with
  | none => decide (nI (p / C) + sro k < 0 ∨ nI R ≤ nI (p / C) + sro k ∨ nI (p % C) + sco k < 0 ∨ nI C ≤ nI (p % C) + sco k)
  | some q => decide (¬ (nI (p / C) + sro k < 0) ∧ ¬ (nI R ≤ nI (p / C) + sro k) ∧ ¬ (nI (p % C) + sco k < 0) ∧ ¬ (nI C ≤ nI (p % C) + sco k) ∧ ((nI (p / C) + sro k) * nI C) + (nI (p % C) + sco k) = nI q)) = true := by decide +kernel
section C3
variable {d : Nat} {o i0 i1 : Option Nat} {ext : ADd} {M : AMm} {K : AMm → Prop} {R C bg sp : Nat} {er : Nat → Int32}
theorem s_join (hr : RO M) (hR : M 2 0 = nI R) (hC : M 2 1 = nI C) (hd : Dm R C) {p : Nat} (hp : p < R * C) (h1 : ∀ M', (∀ k, k < 4 → M' 4 (4 * p + k) = en (nb R C p k)) → M' 5 p = nI (arn R C p) → (∀ a b, ¬ (a = 4 ∧ 4 * p ≤ b ∧ b < 4 * p + 4) → ¬ (a = 5 ∧ b = p) → M' a b = M a b) → K M') : CV d 7 [.ref 2, .int (nI p), .int (nI (p / C)), .int (nI (p % C))] (DB o i0 i1 ext) M (DB o i0 i1 ext) K := by
  have hl := hd.le
  have loop : ∀ n k (M' : AMm), 4 - k = n → k ≤ 4 → (∀ j, j < k → M' 4 (4 * p + j) = en (nb R C p j)) → M' 5 p = nI (ark R C p k) → (∀ a b, ¬ (a = 4 ∧ 4 * p ≤ b ∧ b < 4 * p + 4) → ¬ (a = 5 ∧ b = p) → M' a b = M a b) → T d (fun r => ∃ M', r = (none, DB o i0 i1 ext, M') ∧ K M') (7, 7, [some (.ref 2), some (.int (nI p)), some (.int (nI (p / C))), some (.int (nI (p % C))), some (.int (nI k)), none, none, none, none], [], (DB o i0 i1 ext), M') := by
    intro n
    induction n with
    | zero =>
      intro k M' h0 hk a1 a2 a3
      obtain rfl : k = 4 := by omega
      rw [ark_4] at a2
      exact b_X1_joinWithOthers_7 _ _ _ _ ⟨fun _ => ⟨_, rfl, h1 M' a1 a2 a3⟩, fun h => absurd (nI_le (Nat.le_refl _) (by decide)) h⟩
    | succ n ih =>
      intro k M' h0 hk a1 a2 a3
      have hk4 : k < 4 := by omega
      have g := gall_at g_jn hd hp hk4
      have r2 : M' 1000002 k = sro k := by rw [a3 _ _ (by omega) (by omega)]; exact (hr k hk4).2.1
      have r3 : M' 1000003 k = sco k := by rw [a3 _ _ (by omega) (by omega)]; exact (hr k hk4).2.2
      have rR : M' 2 0 = nI R := by rw [a3 _ _ (by omega) (by omega)]; exact hR
      have rC : M' 2 1 = nI C := by rw [a3 _ _ (by omega) (by omega)]; exact hC
      have i4 : vp_in (nI k) 4 := n_in hk4 (by decide)
      have none_ : nb R C p k = none → (vp_in (nI (4 * p + k)) 64) ∧ T d (fun r => ∃ M', r = (none, DB o i0 i1 ext, M') ∧ K M') (7, 7, [some (.ref 2), some (.int (nI p)), some (.int (nI (p / C))), some (.int (nI (p % C))), some (.int (nI (k + 1))), none, none, none, none], [], (DB o i0 i1 ext), (ms M' 4 (4 * p + k) (-(nI 1)))) := by
        intro hq
        refine ⟨n_in (by omega) (by decide), ih (k + 1) _ (by omega) (by omega) (fun j hj => ?_) ?_ (fun a b g1 g2 => ?_)⟩
        · by_cases hjk : j = k
          · subst hjk; rw [ms_s, hq]; rfl
          · rw [ms_b (by omega)]; exact a1 j (by omega)
        · rw [ms_a (by decide), a2]
          show _ = nI (ark R C p k ||| ob (nb R C p k))
          rw [hq]; show _ = nI (ark R C p k ||| 0); rw [Nat.or_zero]
        · rw [ms_n (by omega)]; exact a3 a b g1 g2
      refine b_X1_joinWithOthers_7 _ _ _ _ ⟨fun h => ?_, fun _ => ?_⟩
      · rw [n_le (by decide) (by omega)] at h; omega
      · rw [n_ix, nI_add, n_cl (by omega : k < 2 ^ 31), n_cl (by omega : 4 * p + k < 2 ^ 31), n_cl (by omega : p < 2 ^ 31), r2, r3, rR, rC, a2]
        refine ⟨i4, i4, ?_⟩
        cases hq : nb R C p k with
        | none =>
          rw [hq] at g
          have g := of_decide_eq_true g
          refine ⟨fun _ => none_ hq, fun c1 => ⟨fun _ => none_ hq, fun c2 => ⟨fun _ => none_ hq, fun c3 => ⟨fun _ => none_ hq, fun c4 => ?_⟩⟩⟩⟩
          rcases g with z | z | z | z
          · exact absurd z c1
          · exact absurd z c2
          · exact absurd z c3
          · exact absurd z c4
        | some q =>
          rw [hq] at g
          obtain ⟨c1, c2, c3, c4, c5⟩ := of_decide_eq_true g
          have hq16 := nb16 hd hp hk4 q hq
          refine ⟨fun z => absurd z c1, fun _ => ⟨fun z => absurd z c2, fun _ => ⟨fun z => absurd z c3, fun _ => ⟨fun z => absurd z c4, fun _ => ?_⟩⟩⟩⟩
          rw [c5, n_sb (by omega)]
          refine ⟨n_in (by omega) (by decide), n_in (by omega) (by decide), n_in (by omega) (by decide), ih (k + 1) _ (by omega) (by omega) (fun j hj => ?_) ?_ (fun a b g1 g2 => ?_)⟩
          · rw [ms_a (by decide)]
            by_cases hjk : j = k
            · subst hjk; rw [ms_s, hq]; rfl
            · rw [ms_b (by omega)]; exact a1 j (by omega)
          · rw [ms_s]
            show _ = nI (ark R C p k ||| ob (nb R C p k))
            rw [hq]; rfl
          · rw [ms_n g2, ms_n (by omega)]; exact a3 a b g1 g2
  refine b_X1_joinWithOthers_0 _ _ _ ⟨n_in (by omega) (by decide), ?_⟩
  rw [n_cl (by omega)]
  refine loop 4 0 _ rfl (by decide) (fun j hj => absurd hj (Nat.not_lt_zero j)) (ms_s _ _ _ _) (fun a b g1 g2 => ms_n g2)
theorem all1 : ∀ n, n ≤ 16 → ((nI 1) <<< (nI n &&& 31)) - nI 1 = nI (opn (fun _ => nI 1) n) := by decide +kernel
theorem s_lay (hr : RO M) (hd : Dm R C) (hsp : M 2 5 = nI sp) (h1 : ∀ M', FI M' R C (fun _ => nI 1) 0 sp → (∀ a, a ≠ 2 → a ≠ 3 → a ≠ 4 → a ≠ 5 → M' a = M a) → K M') : CV (d + 1) 6 [.ref 2, .int (nI R), .int (nI C)] (DB o i0 i1 ext) M (DB o i0 i1 ext) K := by
  have hl := hd.le
  have hC0 := hd.2.2.1
  have hC5 := hd.2.2.2.1
  have loop : ∀ n k (M' : AMm), R * C - k = n → k ≤ R * C → M' 2 0 = nI R → M' 2 1 = nI C → M' 2 2 = nI (R * C) → M' 2 3 = nI (opn (fun _ => nI 1) (R * C)) → M' 2 4 = nI 0 → M' 2 5 = nI sp → (∀ p, p < k → M' 3 p = nI 1 ∧ M' 5 p = nI (arn R C p) ∧ ∀ d, d < 4 → M' 4 (4 * p + d) = en (nb R C p d)) → (∀ a, a ≠ 2 → a ≠ 3 → a ≠ 4 → a ≠ 5 → M' a = M a) → T (d + 1) (fun r => ∃ M', r = (none, DB o i0 i1 ext, M') ∧ K M') (6, 26, [some (.ref 2), none, none, some (.int (nI k))], [], (DB o i0 i1 ext), M') := by
    intro n
    induction n with
    | zero =>
      intro k M' h0 hk a0 a1 a2 a3 a4 a5 a6 a7
      obtain rfl : k = R * C := by omega
      refine b_X1_lay_26 _ ⟨fun _ => ⟨_, rfl, h1 M' ⟨a0, a1, a2, a3, a4, a5, a6⟩ a7⟩, fun h => ?_⟩
      rw [a2] at h; exact absurd (nI_le (Nat.le_refl _) (by omega)) h
    | succ n ih =>
      intro k M' h0 hk a0 a1 a2 a3 a4 a5 a6 a7
      refine b_X1_lay_26 _ ⟨fun h => ?_, fun _ => ?_⟩
      · rw [a2, n_le (by omega) (by omega)] at h; omega
      · have e1 : a_mm 0 (nI 1) (M' 2 1) = nI C := by
          rw [a1]
          show (if nI 1 < nI C then nI C else nI 1) = nI C
          split
          · rfl
          · rename_i h
            rw [n_lt (by decide) (by omega)] at h
            rw [show C = 1 by omega]
        rw [e1]
        have hC00 : ¬ nI C = 0 := by rw [n_e0 (by omega)]; omega
        refine ⟨n_in (by omega) (by decide), hC00, hC00, ?_⟩
        rw [pk_rem (by omega) hC0 (by omega), pk_div (by omega) hC0 (by omega), nI_add, n_cl (by omega)]
        refine s_join (M := ms M' 3 k (nI 1)) (fun j hj => ?_) (by rw [ms_a (by decide)]; exact a0) (by rw [ms_a (by decide)]; exact a1) hd (by omega) (fun M2 g1 g2 g3 => ?_)
        · rw [ms_a (by decide), ms_a (by decide), ms_a (by decide), a7 _ (by decide) (by decide) (by decide) (by decide), a7 _ (by decide) (by decide) (by decide) (by decide), a7 _ (by decide) (by decide) (by decide) (by decide)]
          exact hr j hj
        · have f2 : ∀ b, M2 2 b = M' 2 b := fun b => by rw [g3 2 b (by omega) (by omega), ms_a (by decide)]
          refine ih (k + 1) M2 (by omega) (by omega) (by rw [f2]; exact a0) (by rw [f2]; exact a1) (by rw [f2]; exact a2) (by rw [f2]; exact a3) (by rw [f2]; exact a4) (by rw [f2]; exact a5) (fun p hp => ?_) (fun a z2 z3 z4 z5 => ?_)
          · rw [g3 3 p (by omega) (by omega)]
            by_cases hpk : p = k
            · subst hpk; exact ⟨ms_s _ _ _ _, g2, g1⟩
            · rw [ms_b hpk, g3 5 p (by omega) (by omega), ms_a (by decide)]
              have := a6 p (by omega)
              refine ⟨this.1, this.2.1, fun d hd => ?_⟩
              rw [g3 4 _ (by omega) (by omega), ms_a (by decide)]
              exact this.2.2 d hd
          · rw [← a7 a z2 z3 z4 z5]
            funext b
            rw [g3 a b (by omega) (by omega), ms_a z3]
  have e1 : a_mm 1 (nI 16) (nI R * nI C) = nI (R * C) := by
    rw [pk_mul]
    show (if nI (R * C) < nI 16 then nI (R * C) else nI 16) = nI (R * C)
    split
    · rfl
    · rename_i h
      rw [n_lt (by omega) (by decide)] at h
      rw [show R * C = 16 by omega]
  refine b_X1_lay_0 _ _ ?_
  rw [e1, all1 _ hl]
  refine loop (R * C) 0 _ (by omega) (by omega) ?_ ?_ ?_ ?_ ?_ ?_ (fun p hp => absurd hp (Nat.not_lt_zero p)) (fun a z2 z3 z4 z5 => ?_)
  · simp [ms]
  · simp [ms]
  · simp [ms]
  · simp [ms]
  · simp [ms]
  · simp [ms, hsp]
  · funext b; simp [ms, z2]
/-- the first place that is no stone -/
def fo (er : Nat → Int32) (P : Nat) : Nat → Nat → Nat
  | 0, _ => 0
  | n + 1, k => if (opn er P).testBit k then k else fo er P n (k + 1)
theorem s_firstOpen {K : Int32 → AMm → Prop} (hP : M 2 2 = nI (R * C)) (ho : M 2 3 = nI (opn er (R * C))) (hl : R * C ≤ 16) (h1 : K (nI (fo er (R * C) (R * C) 0)) M) : CI (d + 2) 9 [.ref 2] (DB o i0 i1 ext) M (DB o i0 i1 ext) K := by
  have loop : ∀ n k, R * C - k = n → k ≤ R * C → K (nI (fo er (R * C) n k)) M → T (d + 2) (fun r => ∃ v M', r = (some (.int v), DB o i0 i1 ext, M') ∧ K v M') (9, 2, [some (.ref 2), some (.int (nI k))], [], (DB o i0 i1 ext), M) := by
    intro n
    induction n with
    | zero =>
      intro k h0 hk h1
      refine b_X1_firstOpen_2 _ ⟨fun _ => ⟨_, _, rfl, h1⟩, fun h => ?_⟩
      rw [hP, n_le (by omega) (by omega)] at h; omega
    | succ n ih =>
      intro k h0 hk h1
      refine b_X1_firstOpen_2 _ ⟨fun h => ?_, fun _ => ?_⟩
      · rw [hP, n_le (by omega) (by omega)] at h; omega
      · refine b_X1_isOpen_0 _ ?_
        rw [ho]
        refine s_isInN (opn_lt hl) (by omega) ⟨?_, _, _, rfl, ?_⟩
        · cases (opn er (R * C)).testBit k
          · exact Or.inl rfl
          · exact Or.inr rfl
        · dsimp only
          rw [bI_0, nI_add]
          refine ⟨fun h => ih (k + 1) (by omega) (by omega) ?_, fun h => ⟨_, _, rfl, ?_⟩⟩
          · rw [show fo er (R * C) (n + 1) k = fo er (R * C) n (k + 1) from by show (if _ then _ else _) = _; rw [h]; rfl] at h1; exact h1
          · have h : (opn er (R * C)).testBit k = true := by cases hz : (opn er (R * C)).testBit k with
              | false => exact absurd hz h
              | true => rfl
            rw [show fo er (R * C) (n + 1) k = k from by show (if _ then _ else _) = _; rw [h]; rfl] at h1; exact h1
  exact b_X1_firstOpen_0 (loop (R * C) 0 (by omega) (by omega) h1)
/-- what a text says of the ears -/
def sw (pd : Nat → Int32) (p : Nat) : Int32 := if pd p = nI 35 then -(nI 1) else pd p - nI 48
/-- the text is one of a field, not of stones alone: digits -/
def swk (pd : Nat → Int32) (P : Nat) : Prop := ∀ p, p < P → pd p = nI 35 ∨ ∃ e, e ≤ 9 ∧ pd p = nI (48 + e)
theorem sw_stone {pd : Nat → Int32} {P p : Nat} (h : swk pd P) (hp : p < P) : sw pd p = -(nI 1) ↔ pd p = nI 35 := by
  unfold sw
  constructor
  · intro hq
    rcases h p hp with z | ⟨e, he, z⟩
    · exact z
    · exfalso
      rw [if_neg (by rw [z, n_eq (by omega) (by decide)]; omega), z, pk_sub (by omega)] at hq
      have := nI_pos (n := 48 + e - 48) (by omega)
      rw [hq] at this
      exact this (neg_lt (by decide) (by decide))
  · intro hq; rw [if_pos hq]
theorem s_sowFrom (hF : FI M R C er bg sp) (hd : Dm R C) (hs : swk (M 1) (R * C)) (h1 : ∀ M', FI M' R C (sw (M 1)) (fo (sw (M 1)) (R * C) (R * C) 0) sp → (∀ a, a ≠ 2 → a ≠ 3 → M' a = M a) → K M') : CV (d + 3) 8 [.ref 2, .ref 1] (DB o i0 i1 ext) M (DB o i0 i1 ext) K := by
  have hl := hd.le
  have loop : ∀ n k (M' : AMm), R * C - k = n → k ≤ R * C → (∀ b, b ≠ 3 → M' 2 b = M 2 b) → M' 2 3 = nI (opn (sw (M 1)) k) → (∀ p, p < k → M' 3 p = sw (M 1) p) → (∀ a, a ≠ 2 → a ≠ 3 → M' a = M a) → T (d + 3) (fun r => ∃ M', r = (none, DB o i0 i1 ext, M') ∧ K M') (8, 5, [some (.ref 2), some (.ref 1), some (.int (nI k))], [], (DB o i0 i1 ext), M') := by
    intro n
    induction n with
    | zero =>
      intro k M' h0 hk a2 a3 a4 a5
      obtain rfl : k = R * C := by omega
      refine b_X1_sowFrom_5 _ ⟨fun _ => ?_, fun h => ?_⟩
      · refine s_firstOpen (R := R) (C := C) (er := sw (M 1)) (by rw [a2 _ (by decide)]; exact hF.2.2.1) a3 hl ⟨_, rfl, h1 _ ⟨?_, ?_, ?_, ?_, ?_, ?_, fun p hp => ?_⟩ (fun a z2 z3 => ?_)⟩
        · rw [ms_b (by decide), a2 _ (by decide)]; exact hF.1
        · rw [ms_b (by decide), a2 _ (by decide)]; exact hF.2.1
        · rw [ms_b (by decide), a2 _ (by decide)]; exact hF.2.2.1
        · rw [ms_b (by decide)]; exact a3
        · exact ms_s _ _ _ _
        · rw [ms_b (by decide), a2 _ (by decide)]; exact hF.2.2.2.2.2.1
        · rw [ms_a (by decide), ms_a (by decide), a5 5 (by decide) (by decide)]
          refine ⟨a4 p hp, (hF.2.2.2.2.2.2 p hp).2.1, fun k hk => ?_⟩
          rw [ms_a (by decide), a5 4 (by decide) (by decide)]
          exact (hF.2.2.2.2.2.2 p hp).2.2 k hk
        · rw [← a5 a z2 z3]; funext b; exact ms_a z2
      · rw [a2 _ (by decide), hF.2.2.1] at h; exact absurd (nI_le (Nat.le_refl _) (by omega)) h
    | succ n ih =>
      intro k M' h0 hk a2 a3 a4 a5
      refine b_X1_sowFrom_5 _ ⟨fun h => ?_, fun _ => ⟨fun h => ?_, fun _ => ⟨n_in (by omega) (by decide), ?_⟩⟩⟩
      · rw [a2 _ (by decide), hF.2.2.1, n_le (by omega) (by omega)] at h; omega
      · rw [n_le (by decide) (by omega)] at h; omega
      · rw [n_cl (by omega), a5 1 (by decide) (by decide), nI_add, a3, n_sb (by omega)]
        refine ⟨fun h => ⟨n_in (by omega) (by decide), ?_⟩, fun h => ⟨n_in (by omega) (by decide), n_in (by omega) (by decide), ?_⟩⟩
        · refine ih (k + 1) _ (by omega) (by omega) (fun b hb => by rw [ms_a (by decide)]; exact a2 b hb) ?_ (fun p hp => ?_) (fun a z2 z3 => ?_)
          · rw [ms_a (by decide), a3]
            show _ = nI (if sw (M 1) k = -(nI 1) then _ else _)
            rw [if_pos ((sw_stone hs (by omega)).mpr h)]
          · by_cases hpk : p = k
            · subst hpk; rw [ms_s, (sw_stone hs (by omega)).mpr h]
            · rw [ms_b hpk]; exact a4 p (by omega)
          · rw [← a5 a z2 z3]; funext b; exact ms_a z3
        · refine ih (k + 1) _ (by omega) (by omega) (fun b hb => by rw [ms_b hb, ms_a (by decide)]; exact a2 b hb) ?_ (fun p hp => ?_) (fun a z2 z3 => ?_)
          · rw [ms_s]
            show _ = nI (if sw (M 1) k = -(nI 1) then _ else _)
            rw [if_neg (fun q => h ((sw_stone hs (by omega)).mp q))]
          · rw [ms_a (by decide)]
            by_cases hpk : p = k
            · subst hpk; rw [ms_s]; unfold sw; rw [if_neg h]
            · rw [ms_b hpk]; exact a4 p (by omega)
          · rw [← a5 a z2 z3]; funext b; rw [ms_a z2, ms_a z3]
  refine b_X1_sowFrom_0 ?_
  exact loop (R * C) 0 _ (by omega) (by omega) (fun b hb => ms_b hb) (ms_s _ _ _ _) (fun p hp => absurd hp (Nat.not_lt_zero p)) (fun a z2 z3 => by funext b; exact ms_a z2)
end C3
