-- THE CLASS: where to begin, two reapers
section X1
variable {d : Nat} {o i0 i1 : Option Nat} {ext : ADd} {M : AMm} {R C bg sp : Nat} {er : Nat → Int32}
def mxL (l : List Nd) (a : Nat) : Nat := l.foldl (fun a x => max a (x.1.length + 1)) a
theorem mxL_le : ∀ (l : List Nd) (a : Nat), a ≤ mxL l a
  | [], _ => Nat.le_refl _
  | x :: l, a => by
    have := mxL_le l (max a (x.1.length + 1))
    show a ≤ mxL l (max a (x.1.length + 1))
    omega
theorem lwF_mx : ∀ (l : List Nd) (q r : Nat × List Nat), lwF l (some q) = some r → r.1 = mxL l q.1
  | [], q, r, h => by cases h; rfl
  | x :: l, q, r, h => by
    have h : lwF l (ch (some q) (x.1.length + 1) x.1) = some r := h
    show r.1 = mxL l (max q.1 (x.1.length + 1))
    have e : ch (some q) (x.1.length + 1) x.1 = if x.1.length + 1 < q.1 ∨ (x.1.length + 1 = q.1 ∧ q.2.length ≤ x.1.length) then some q else some (x.1.length + 1, x.1) := rfl
    rw [e] at h
    split at h
    · rw [lwF_mx l q r h, show max q.1 (x.1.length + 1) = q.1 by omega]
    · rw [lwF_mx l _ r h, show max q.1 (x.1.length + 1) = x.1.length + 1 by omega]
theorem mx_gp {g : Nat → Nat → Nat} (n F p t b : Nat) : mxL (EE R C g n F p t b) 0 = (gp R C G1 n F p t).1 + 1 := by
  have h := (lw_gp (R := R) (C := C) (g := g) n F p t b).1
  rw [EE_eq] at h ⊢
  have h : lwF (ET R C g n F p t b 0) (some (1, [])) = _ := h
  exact (lwF_mx _ _ _ h).symm
theorem mm_n {a b : Nat} (ha : a < 2 ^ 31) (hb : b < 2 ^ 31) : a_mm 0 (nI a) (nI b) = nI (max a b) := by
  show (if nI a < nI b then nI b else nI a) = _
  by_cases h : nI a < nI b
  · have := (n_lt ha hb).mp h
    rw [if_pos h, Nat.max_eq_right (by omega)]
  · have : ¬ a < b := fun q => h ((n_lt ha hb).mpr q)
    rw [if_neg h, Nat.max_eq_left (by omega)]
theorem s_longestFrom {K : Int32 → AMm → Prop} (hF : FI M R C er bg sp) (hw : WF R C er bg sp) {p : Nat} (hp : p < R * C) (ho : (opn er (R * C)).testBit p = true) (h1 : ∀ M', F8 M M' → K (nI ((gp R C G1 15 (cb (opn er (R * C)) p) p 0).1 + 1)) M') : CI (d + 4) 69 [.ref 0, .int (nI p)] (DB o i0 i1 ext) M (DB (some 2) i0 i1 ext) K := by
  have hl := hw.1.le
  have hb := lg_bnd hw.1 (n := 15) (t := 0) hp ho
  have hb2 : bnd R C (opn er (R * C)) p ≤ 100 := by
    have := cc_le C (rch R C (opn er (R * C)) p) (col C p) (R * C)
    have := cc_le C (rch R C (opn er (R * C)) p) (1 - col C p) (R * C)
    unfold bnd
    split <;> omega
  have hlen := EE_len (g := br er sp) hw.1 (n := 15) (F := cb (opn er (R * C)) p) (t := 0) (b := br er sp p 0) (by decide) hp (fun i hi => by
    rw [cb_t, Bool.and_eq_true] at hi
    exact ((opn_t er _ i).mp hi.1).1) (by rw [cb_t]; simp)
  have hmx := mx_gp (R := R) (C := C) (g := br er sp) 15 (cb (opn er (R * C)) p) p 0 (br er sp p 0)
  refine b_X4_longestFrom_0 _ (s_boundFrom hF hw.1 (by omega) (s_from hF hw hp (fun M1 hI hM1 => ?_)))
  generalize bnd R C (opn er (R * C)) p = B at hb hb2 ⊢
  generalize (gp R C G1 15 (cb (opn er (R * C)) p) p 0).1 + 1 = L at hb hmx h1
  have loop : ∀ (l : List Nd) (k a : Nat) (M1 : AMm), IT M1 R C er sp 15 0 l → k + l.length < 1000000 → mxL l a = L → F8 M M1 → T (d + 4) (fun r => ∃ v M', r = (some (.int v), DB (some 2) i0 i1 ext, M') ∧ K v M') (69, 16, [some (.ref 0), none, some (.int (nI B)), some (.int (nI a)), some (.int (nI k))], [], (DB (some 2) i0 i1 ext), M1) := by
    intro l
    induction l with
    | nil =>
      intro k a M1 hI hk hm hM
      have hm : a = L := hm
      refine b_X4_longestFrom_16 _ _ _ ⟨fun h => ?_, fun _ => ⟨fun _ => ⟨_, _, rfl, by rw [hm]; exact h1 M1 hM⟩, fun _ => ?_⟩⟩
      · rw [n_le (by decide) (by omega)] at h; omega
      · exact s_nextL (hF.f8 hM) hw hI (fun _ M2 hM2 => ⟨fun _ => ⟨_, _, rfl, by rw [hm]; exact h1 M2 (hM.tr hM2)⟩, fun h => absurd rfl h⟩) (fun x l' h => by cases h)
    | cons x l ih =>
      intro k a M1 hI hk hm hM
      rw [List.length_cons] at hk
      have ha := mxL_le (x :: l) a
      rw [hm] at ha
      refine b_X4_longestFrom_16 _ _ _ ⟨fun h => ?_, fun _ => ⟨fun h => ⟨_, _, rfl, ?_⟩, fun _ => ?_⟩⟩
      · rw [n_le (by decide) (by omega)] at h; omega
      · rw [n_le (by omega) (by omega)] at h
        rw [show a = L by omega]; exact h1 M1 hM
      · refine s_nextL (hF.f8 hM) hw hI (fun h => by cases h) (fun x' l' h M2 hN2 hM2 => ?_)
        obtain ⟨rfl, rfl⟩ : x = x' ∧ l = l' := by cases h; exact ⟨rfl, rfl⟩
        refine ⟨fun h => absurd h (by decide), fun _ => ?_⟩
        obtain ⟨d1, d2, d3, d4⟩ := nd_depth hN2
        rw [d1, nI_add, mm_n (by omega) (by omega), nI_add]
        exact ih (k + 1) _ M2 (Or.inl ⟨x, hN2⟩) (by omega) hm (hM.tr hM2)
  exact loop _ 0 0 M1 hI (by omega) hmx hM1
/-- where the longest way begins, of the first places; how long it is -/
def wr (R C op : Nat) : Nat → Nat × Nat
  | 0 => (0, 0)
  | k + 1 => if op.testBit k = true ∧ (wr R C op k).2 < (gp R C G1 15 (cb op k) k 0).1 + 1 then (k, (gp R C G1 15 (cb op k) k 0).1 + 1) else wr R C op k
theorem wr_mono (op : Nat) : ∀ j k, (wr R C op k).2 ≤ (wr R C op (k + j)).2
  | 0, _ => Nat.le_refl _
  | j + 1, k => by
    have := wr_mono op j k
    refine Nat.le_trans this ?_
    show (wr R C op (k + j)).2 ≤ (if op.testBit (k + j) = true ∧ (wr R C op (k + j)).2 < (gp R C G1 15 (cb op (k + j)) (k + j) 0).1 + 1 then (k + j, (gp R C G1 15 (cb op (k + j)) (k + j) 0).1 + 1) else wr R C op (k + j)).2
    split
    · rename_i h; exact Nat.le_of_lt h.2
    · exact Nat.le_refl _
theorem wr_pos {op p k : Nat} (hp : p < k) (ho : op.testBit p = true) : 0 < (wr R C op k).2 := by
  have h := wr_mono (R := R) (C := C) op (k - (p + 1)) (p + 1)
  rw [show p + 1 + (k - (p + 1)) = k by omega] at h
  refine Nat.lt_of_lt_of_le ?_ h
  unfold wr
  split
  · exact Nat.succ_pos _
  · rename_i hz
    have : ¬ (wr R C op p).2 < (gp R C G1 15 (cb op p) p 0).1 + 1 := fun q => hz ⟨ho, q⟩
    omega
/-- nothing is changed but the walk, what is known of where -/
def FW (M M' : AMm) : Prop := (∀ a, a ≠ 0 → (a < 8 ∨ 12 < a) → M' a = M a) ∧ ∀ b, b ≠ 11 → b ≠ 12 → b ≠ 13 → M' 0 b = M 0 b
theorem FI.fw {M M' : AMm} (h : FI M R C er bg sp) (hm : FW M M') : FI M' R C er bg sp := h.of (hm.1 2 (by decide) (by omega)) (hm.1 3 (by decide) (by omega)) (hm.1 4 (by decide) (by omega)) (hm.1 5 (by decide) (by omega))
theorem FW.f8 {M M1 M2 : AMm} (h : FW M M1) (h2 : F8 M1 M2) : FW M M2 := ⟨fun a z1 z2 => by rw [h2 a z2]; exact h.1 a z1 z2, fun b z1 z2 z3 => by rw [h2 0 (by omega)]; exact h.2 b z1 z2 z3⟩
theorem FW.ms {M M1 : AMm} (h : FW M M1) {b : Nat} {v : Int32} (hb : b = 11 ∨ b = 12 ∨ b = 13) : FW M (ms M1 0 b v) := ⟨fun a z1 z2 => by rw [← h.1 a z1 z2]; funext y; exact ms_a z1, fun c z1 z2 z3 => by rw [ms_b (by omega)]; exact h.2 c z1 z2 z3⟩
theorem s_lookWhere {K : AMm → Prop} (hF : FI M R C er bg sp) (hw : WF R C er bg sp) (h1 : ∀ M', M' 0 11 = nI 1 → M' 0 12 = nI (wr R C (opn er (R * C)) (R * C)).1 → M' 0 13 = nI (wr R C (opn er (R * C)) (R * C)).2 → FW M M' → K M') : CV (d + 5) 68 [.ref 0] (DB o i0 i1 ext) M (DB (some 2) i0 i1 ext) K := by
  have hl := hw.1.le
  have hopn : (opn er (R * C)).testBit bg = true := (opn_t er _ bg).mpr ⟨hw.2.2.1, hw.2.2.2.1⟩
  have hend := wr_pos (R := R) (C := C) hw.2.2.1 hopn
  have small : ∀ k, k ≤ R * C → (wr R C (opn er (R * C)) k).2 ≤ 100 ∧ (wr R C (opn er (R * C)) k).1 < 16 := by
    intro k
    induction k with
    | zero => intro _; exact ⟨Nat.zero_le 100, Nat.zero_lt_succ 15⟩
    | succ k ih =>
      intro hk
      have ih := ih (by omega)
      unfold wr
      split
      · rename_i hz
        have hb := lg_bnd hw.1 (n := 15) (t := 0) (show k < R * C by omega) hz.1
        have := cc_le C (rch R C (opn er (R * C)) k) (col C k) (R * C)
        have := cc_le C (rch R C (opn er (R * C)) k) (1 - col C k) (R * C)
        have hb2 : bnd R C (opn er (R * C)) k ≤ 100 := by unfold bnd; split <;> omega
        exact ⟨by dsimp only; omega, by dsimp only; omega⟩
      · exact ih
  have loop : ∀ n k (o : Option Nat) (M1 : AMm), R * C - k = n → k ≤ R * C → (o = some 2 ∨ (wr R C (opn er (R * C)) k).2 = 0) → M1 0 12 = nI (wr R C (opn er (R * C)) k).1 → M1 0 13 = nI (wr R C (opn er (R * C)) k).2 → FW M M1 → T (d + 5) (fun r => ∃ M', r = (none, DB (some 2) i0 i1 ext, M') ∧ K M') (68, 8, [some (.ref 0), some (.int (nI k)), none], [], (DB o i0 i1 ext), M1) := by
    intro n
    induction n with
    | zero =>
      intro k o M1 h0 hk ho e12 e13 hM
      obtain rfl : k = R * C := by omega
      obtain rfl : o = some 2 := by
        rcases ho with z | z
        · exact z
        · omega
      refine b_X4_lookWhere_8 _ ⟨fun _ => ⟨_, rfl, h1 _ (ms_s _ _ _ _) (by rw [ms_b (by decide)]; exact e12) (by rw [ms_b (by decide)]; exact e13) (hM.ms (by omega))⟩, fun h => ?_⟩
      rw [(hF.fw hM).2.2.1, n_le (by omega) (by omega)] at h; omega
    | succ n ih =>
      intro k o M1 h0 hk ho e12 e13 hM
      obtain ⟨sm1, sm2⟩ := small k (by omega)
      refine b_X4_lookWhere_8 _ ⟨fun h => ?_, fun _ => ?_⟩
      · rw [(hF.fw hM).2.2.1, n_le (by omega) (by omega)] at h; omega
      · refine s_isOpenN (hF.fw hM) hw.1 (by omega) ?_
        rw [bI_0, nI_add]
        have hstep : wr R C (opn er (R * C)) (k + 1) = if (opn er (R * C)).testBit k = true ∧ (wr R C (opn er (R * C)) k).2 < (gp R C G1 15 (cb (opn er (R * C)) k) k 0).1 + 1 then (k, (gp R C G1 15 (cb (opn er (R * C)) k) k 0).1 + 1) else wr R C (opn er (R * C)) k := rfl
        refine ⟨fun h => ?_, fun h => ?_⟩
        · rw [if_neg (by rw [h]; simp)] at hstep
          exact ih (k + 1) o M1 (by omega) (by omega) (by rw [hstep]; exact ho) (by rw [hstep]; exact e12) (by rw [hstep]; exact e13) hM
        · have hok : (opn er (R * C)).testBit k = true := by
            cases hq : (opn er (R * C)).testBit k with
            | true => rfl
            | false => exact absurd hq h
          have hb := lg_bnd hw.1 (n := 15) (t := 0) (show k < R * C by omega) hok
          have hb2 : bnd R C (opn er (R * C)) k ≤ 100 := by
            have := cc_le C (rch R C (opn er (R * C)) k) (col C k) (R * C)
            have := cc_le C (rch R C (opn er (R * C)) k) (1 - col C k) (R * C)
            unfold bnd
            split <;> omega
          refine s_boundFrom (hF.fw hM) hw.1 (by omega) ?_
          rw [e13, n_le (by omega) (by omega)]
          refine ⟨fun h => ?_, fun h => ?_⟩
          · rw [if_neg (by omega)] at hstep
            exact ih (k + 1) o M1 (by omega) (by omega) (by rw [hstep]; exact ho) (by rw [hstep]; exact e12) (by rw [hstep]; exact e13) hM
          · refine s_longestFrom (hF.fw hM) hw (by omega) hok (fun M2 hM2 => ?_)
            rw [hM2 0 (by omega), e13, n_le (by omega) (by omega)]
            refine ⟨fun h => ?_, fun h => ?_⟩
            · rw [if_neg (by omega)] at hstep
              exact ih (k + 1) (some 2) M2 (by omega) (by omega) (Or.inl rfl) (by rw [hstep, hM2 0 (by omega)]; exact e12) (by rw [hstep, hM2 0 (by omega)]; exact e13) (hM.f8 hM2)
            · rw [if_pos ⟨hok, by omega⟩] at hstep
              exact ih (k + 1) (some 2) _ (by omega) (by omega) (Or.inl rfl) (by rw [hstep]; exact ms_s _ _ _ _) (by rw [hstep, ms_b (by decide)]; exact ms_s _ _ _ _) (((hM.f8 hM2).ms (by omega)).ms (by omega))
  exact b_X4_lookWhere_0 (loop (R * C) 0 o _ (by omega) (by omega) (Or.inr rfl) (by rw [ms_b (by decide)]; exact ms_s _ _ _ _) (ms_s _ _ _ _) ((FW.ms ⟨fun _ _ _ => rfl, fun _ _ _ _ => rfl⟩ (by omega)).ms (by omega)))
theorem or_no {b : Bool} (h : ¬ b = false) : b = true := by cases b <;> simp_all
theorem nfo {F p k : Nat} : oin F (nb R C p k) = (nf R C F p k).isSome := by rw [← gn_oin]; rfl
theorem s_cutT (hF : FI M R C er bg sp) (hd : Dm R C) : ∀ (n x y F t : Nat) {K : Int32 → AMm → Prop}, pc F ≤ n → F < 65536 → x < R * C → y < R * C → t + 2 * n + 2 ≤ 30 → K (nI (ct R C n x y F)) M → CI (d + 2 * n + 4) 70 [.ref 2, .int (nI x), .int (nI y), .int (nI F), .int (nI t)] (DB o i0 i1 ext) M (DB o i0 i1 ext) K := by
  have hl := hd.le
  intro n
  induction n with
  | zero =>
    intro x y F t K hn hF2 hx hy ht hK
    have h0 : F = 0 := pc_zero hF2 (by omega)
    refine b_X4_cutTogether_0 _ _ _ _ ⟨fun _ => ?_, fun h => absurd ((n_lt (by omega) (by decide)).mpr (by omega)) h⟩
    refine s_isBlind hF hd hx hF2 ?_
    rw [h0, Nat.and_zero]
    refine ⟨fun h => absurd h (by decide), fun _ => ?_⟩
    refine s_isBlind hF hd hy (by decide) ?_
    rw [Nat.and_zero]
    refine ⟨fun h => absurd h (by decide), fun _ => ⟨_, _, rfl, hK⟩⟩
  | succ n ih =>
    have nbl : ∀ (x y F t : Nat) {K : Int32 → AMm → Prop}, pc F ≤ n + 1 → F < 65536 → x < R * C → y < R * C → t + 2 * (n + 1) + 1 ≤ 30 → ¬ arn R C x &&& F = 0 → K (nI (csk R C (ct R C n) F x y 4)) M → CI (d + 2 * (n + 1) + 3) 70 [.ref 2, .int (nI x), .int (nI y), .int (nI F), .int (nI t)] (DB o i0 i1 ext) M (DB o i0 i1 ext) K := by
      intro x y F t K hn hF2 hx hy ht hb hK
      refine b_X4_cutTogether_0 _ _ _ _ ⟨fun _ => ?_, fun h => absurd ((n_lt (by omega) (by decide)).mpr (by omega)) h⟩
      refine s_isBlind hF hd hx hF2 ?_
      rw [decide_eq_false hb]
      refine ⟨fun _ => s_bc hF2 ?_, fun h => absurd rfl h⟩
      have hle : ∀ k, k ≤ 4 → csk R C (ct R C n) F x y k ≤ pc F := by
        intro k
        induction k with
        | zero => intro _; exact Nat.zero_le _
        | succ k ihk =>
          intro hk
          have ihk := ihk (by omega)
          cases hq : nf R C F x k with
          | none => rw [csk_n hq]; exact ihk
          | some q =>
            obtain ⟨a, b⟩ := nf_some.mp hq
            have hq2 := (nb_ok hd hx (by omega) a).1
            have := ct_le hd n y q (cb F q) hy hq2
            have := pc_cb (by omega) b
            rw [csk_y hq]
            omega
      have hmono : ∀ j k, csk R C (ct R C n) F x y k ≤ csk R C (ct R C n) F x y (k + j) := by
        intro j
        induction j with
        | zero => intro k; exact Nat.le_refl _
        | succ j ihj =>
          intro k
          refine Nat.le_trans (ihj k) ?_
          cases hq : nf R C F x (k + j) with
          | none => rw [show k + (j + 1) = k + j + 1 from rfl, csk_n hq]; exact Nat.le_refl _
          | some q => rw [show k + (j + 1) = k + j + 1 from rfl, csk_y hq]; exact Nat.le_max_left _ _
      have hpc := pc_le F
      have loop : ∀ m k, 4 - k = m → k ≤ 4 → T (d + 2 * (n + 1) + 3) (fun r => ∃ v M', r = (some (.int v), DB o i0 i1 ext, M') ∧ K v M') (70, 33, [some (.ref 2), some (.int (nI x)), some (.int (nI y)), some (.int (nI F)), some (.int (nI t)), some (.int (nI (pc F))), some (.int (nI (csk R C (ct R C n) F x y k))), some (.int (nI k)), none], [], (DB o i0 i1 ext), M) := by
        intro m
        induction m with
        | zero =>
          intro k h0 hk
          obtain rfl : k = 4 := by omega
          refine b_X4_cutTogether_33 _ _ _ _ _ _ _ ⟨fun _ => ⟨_, _, rfl, hK⟩, fun h => absurd (nI_le (Nat.le_refl _) (by decide)) h⟩
        | succ m ihm =>
          intro k h0 hk
          have hk1 := hle k (by omega)
          refine b_X4_cutTogether_33 _ _ _ _ _ _ _ ⟨fun h => ?_, fun _ => ⟨fun h => ⟨_, _, rfl, ?_⟩, fun _ => ?_⟩⟩
          · rw [n_le (by decide) (by omega)] at h; omega
          · rw [n_le (by omega) (by omega)] at h
            have h2 := hmono (4 - k) k
            rw [show k + (4 - k) = 4 by omega] at h2
            have h3 := hle 4 (Nat.le_refl _)
            rw [show csk R C (ct R C n) F x y k = csk R C (ct R C n) F x y 4 by omega]
            exact hK
          · refine s_beside hF hd hx (by omega) (s_isInE hF2 (nb16 hd hx (by omega)) ?_)
            rw [bI_0, nfo, nI_add]
            have e := ihm (k + 1) (by omega) (by omega)
            cases hq : nf R C F x k with
            | none =>
              rw [csk_n hq] at e
              exact ⟨fun _ => e, fun h => absurd rfl h⟩
            | some q =>
              obtain ⟨a, b⟩ := nf_some.mp hq
              have hq2 := (nb_ok hd hx (by omega) a).1
              have hp := pc_cb (by omega) b
              refine ⟨fun h => (by cases h), fun _ => ?_⟩
              rw [a]
              show CI _ 70 [.ref 2, .int (nI y), .int (nI q), .int (nI F &&& (((nI 1) <<< (nI q &&& 31)) ^^^ (-(nI 1)))), .int (nI t + nI 1)] _ _ _ _
              rw [n_cb (by omega), nI_add]
              refine ih y q (cb F q) (t + 1) (by omega) (cb_lt hF2) hy hq2 (by omega) ?_
              have := ct_le hd n y q (cb F q) hy hq2
              rw [nI_add, mm_n (by omega) (by omega), ← csk_y hq]
              exact e
      exact loop 4 0 rfl (by decide)
    intro x y F t K hn hF2 hx hy ht hK
    by_cases hb : arn R C x &&& F = 0
    · rw [show ct R C (n + 1) x y F = if arn R C y &&& F = 0 then 0 else csk R C (ct R C n) F y x 4 from if_pos hb] at hK
      refine b_X4_cutTogether_0 _ _ _ _ ⟨fun _ => ?_, fun h => absurd ((n_lt (by omega) (by decide)).mpr (by omega)) h⟩
      refine s_isBlind hF hd hx hF2 ?_
      rw [decide_eq_true hb]
      refine ⟨fun h => absurd h (by decide), fun _ => s_isBlind hF hd hy hF2 ?_⟩
      by_cases hb2 : arn R C y &&& F = 0
      · rw [if_pos hb2] at hK
        rw [decide_eq_true hb2]
        exact ⟨fun h => absurd h (by decide), fun _ => ⟨_, _, rfl, hK⟩⟩
      · rw [if_neg hb2] at hK
        rw [decide_eq_false hb2, nI_add]
        exact ⟨fun _ => nbl y x F (t + 1) hn hF2 hy hx (by omega) hb2 ⟨_, _, rfl, hK⟩, fun h => absurd rfl h⟩
    · rw [show ct R C (n + 1) x y F = csk R C (ct R C n) F x y 4 from if_neg hb] at hK
      have := nbl x y F t hn hF2 hx hy (by omega) hb hK
      exact T_mono this (by omega) (fun r h => h)
theorem ti_neg {v : Int32} (h1 : -100 ≤ v.toInt) (h2 : v.toInt ≤ 100) : (-v).toInt = -v.toInt := by
  rw [Int32.toInt_neg]
  exact Int.bmod_eq_of_le (by omega) (by omega)
theorem ti_sub1 {v : Int32} (h1 : -100 ≤ v.toInt) (h2 : v.toInt ≤ 100) : (nI 1 - v).toInt = 1 - v.toInt := by
  have h0 : (nI 1).toInt = 1 := by decide
  rw [Int32.toInt_sub, h0]
  exact Int.bmod_eq_of_le (by omega) (by omega)
theorem ti_mm {u v : Int32} : (a_mm 0 u v).toInt = max u.toInt v.toInt := by
  show (if u < v then v else u).toInt = _
  by_cases h : u < v
  · rw [if_pos h]; rw [Int32.lt_iff_toInt_lt] at h; omega
  · rw [if_neg h]; rw [Int32.lt_iff_toInt_lt] at h; omega
theorem s_lead (hF : FI M R C er bg sp) (hd : Dm R C) : ∀ (n x y F t : Nat) {K : Int32 → AMm → Prop}, pc F ≤ n → F < 65536 → x < R * C → y < R * C → t + 2 * n + 2 ≤ 30 → (∀ v : Int32, v.toInt = la R C n x y F → K v M) → CI (d + 2 * n + 4) 71 [.ref 2, .int (nI x), .int (nI y), .int (nI F), .int (nI t)] (DB o i0 i1 ext) M (DB o i0 i1 ext) K := by
  have hl := hd.le
  intro n
  induction n with
  | zero =>
    intro x y F t K hn hF2 hx hy ht hK
    have h0 : F = 0 := pc_zero hF2 (by omega)
    refine b_X4_leadApart_0 _ _ _ _ ⟨fun _ => ?_, fun h => absurd ((n_lt (by omega) (by decide)).mpr (by omega)) h⟩
    refine s_isBlind hF hd hx hF2 ?_
    rw [h0, Nat.and_zero]
    refine ⟨fun h => absurd h (by decide), fun _ => ?_⟩
    refine s_isBlind hF hd hy (by decide) ?_
    rw [Nat.and_zero]
    refine ⟨fun h => absurd h (by decide), fun _ => ⟨_, _, rfl, hK _ (show (nI 0).toInt = 0 by decide)⟩⟩
  | succ n ih =>
    have nbl : ∀ (x y F t : Nat) {K : Int32 → AMm → Prop}, pc F ≤ n + 1 → F < 65536 → x < R * C → y < R * C → t + 2 * (n + 1) + 1 ≤ 30 → ¬ arn R C x &&& F = 0 → (∀ v : Int32, v.toInt = lsk R C (la R C n) F x y 4 → K v M) → CI (d + 2 * (n + 1) + 3) 71 [.ref 2, .int (nI x), .int (nI y), .int (nI F), .int (nI t)] (DB o i0 i1 ext) M (DB o i0 i1 ext) K := by
      intro x y F t K hn hF2 hx hy ht hb hK
      refine b_X4_leadApart_0 _ _ _ _ ⟨fun _ => ?_, fun h => absurd ((n_lt (by omega) (by decide)).mpr (by omega)) h⟩
      refine s_isBlind hF hd hx hF2 ?_
      rw [decide_eq_false hb]
      refine ⟨fun _ => ?_, fun h => absurd rfl h⟩
      have loop : ∀ m k (u : Int32), 4 - k = m → k ≤ 4 → u.toInt = lsk R C (la R C n) F x y k → T (d + 2 * (n + 1) + 3) (fun r => ∃ v M', r = (some (.int v), DB o i0 i1 ext, M') ∧ K v M') (71, 31, [some (.ref 2), some (.int (nI x)), some (.int (nI y)), some (.int (nI F)), some (.int (nI t)), some (.int u), some (.int (nI k)), none], [], (DB o i0 i1 ext), M) := by
        intro m
        induction m with
        | zero =>
          intro k u h0 hk hu
          obtain rfl : k = 4 := by omega
          exact b_X4_leadApart_31 _ _ _ _ _ _ ⟨fun _ => ⟨_, _, rfl, hK u hu⟩, fun h => absurd (nI_le (Nat.le_refl _) (by decide)) h⟩
        | succ m ihm =>
          intro k u h0 hk hu
          refine b_X4_leadApart_31 _ _ _ _ _ _ ⟨fun h => ?_, fun _ => ?_⟩
          · rw [n_le (by decide) (by omega)] at h; omega
          · refine s_beside hF hd hx (by omega) (s_isInE hF2 (nb16 hd hx (by omega)) ?_)
            rw [bI_0, nfo, nI_add]
            cases hq : nf R C F x k with
            | none => exact ⟨fun _ => ihm (k + 1) u (by omega) (by omega) (by rw [lsk_n hq]; exact hu), fun h => absurd rfl h⟩
            | some q =>
              obtain ⟨a, b⟩ := nf_some.mp hq
              have hq2 := (nb_ok hd hx (by omega) a).1
              have hp := pc_cb (by omega) b
              refine ⟨fun h => (by cases h), fun _ => ?_⟩
              rw [a]
              show CI _ 71 [.ref 2, .int (nI y), .int (nI q), .int (nI F &&& (((nI 1) <<< (nI q &&& 31)) ^^^ (-(nI 1)))), .int (nI t + nI 1)] _ _ _ _
              rw [n_cb (by omega), nI_add]
              refine ih y q (cb F q) (t + 1) (by omega) (cb_lt hF2) hy hq2 (by omega) (fun v hv => ?_)
              have hbn := la_b hd n y q (cb F q) hy hq2 (cb_lt hF2)
              have := pc_le (cb F q)
              refine ihm (k + 1) _ (by omega) (by omega) ?_
              rw [ti_mm, ti_sub1 (by omega) (by omega), hv, hu, lsk_y hq]
      exact loop 4 0 _ rfl (by decide) (show (-nI 16).toInt = -16 by decide)
    intro x y F t K hn hF2 hx hy ht hK
    by_cases hb : arn R C x &&& F = 0
    · rw [show la R C (n + 1) x y F = if arn R C y &&& F = 0 then 0 else -(lsk R C (la R C n) F y x 4) from if_pos hb] at hK
      refine b_X4_leadApart_0 _ _ _ _ ⟨fun _ => ?_, fun h => absurd ((n_lt (by omega) (by decide)).mpr (by omega)) h⟩
      refine s_isBlind hF hd hx hF2 ?_
      rw [decide_eq_true hb]
      refine ⟨fun h => absurd h (by decide), fun _ => s_isBlind hF hd hy hF2 ?_⟩
      by_cases hb2 : arn R C y &&& F = 0
      · rw [if_pos hb2] at hK
        rw [decide_eq_true hb2]
        exact ⟨fun h => absurd h (by decide), fun _ => ⟨_, _, rfl, hK _ (by decide)⟩⟩
      · rw [if_neg hb2] at hK
        rw [decide_eq_false hb2, nI_add]
        have hbn := la_b hd (n + 1) y x F hy hx hF2
        rw [show la R C (n + 1) y x F = lsk R C (la R C n) F y x 4 from if_neg hb2] at hbn
        have := pc_le F
        refine ⟨fun _ => nbl y x F (t + 1) hn hF2 hy hx (by omega) hb2 (fun v hv => ⟨_, _, rfl, hK _ ?_⟩), fun h => absurd rfl h⟩
        rw [ti_neg (by omega) (by omega), hv]
    · rw [show la R C (n + 1) x y F = lsk R C (la R C n) F x y 4 from if_neg hb] at hK
      have := nbl x y F t hn hF2 hx hy (by omega) hb hK
      exact T_mono this (by omega) (fun r h => h)
end X1
