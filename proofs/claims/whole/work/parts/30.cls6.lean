-- THE CLASS: the walk's beginning, what it says, chosen ways
section C8
variable {d : Nat} {o i0 i1 : Option Nat} {ext : ADd} {M : AMm} {R C bg sp : Nat} {er : Nat → Int32}
/-- the walk is at x, l is to come -/
def ND (M : AMm) (R C : Nat) (er : Nat → Int32) (sp m s : Nat) (x : Nd) (l : List Nd) : Prop := ∃ t A Fr B Kt, WI M R C m s t A Fr B Kt ∧ M 8 3 = nI 1 ∧ x = (pre Kt t, Fr t, A t, B t) ∧ rem R C (br er sp) m s A Fr B Kt (t + 1) = l
/-- l is to come -/
def IT (M : AMm) (R C : Nat) (er : Nat → Int32) (sp m s : Nat) (l : List Nd) : Prop := (∃ x, ND M R C er sp m s x l) ∨ ∃ A Fr B Kt, WI M R C m s 0 A Fr B Kt ∧ M 8 3 = nI 0 ∧ Kt 0 = 0 ∧ EE R C (br er sp) m (Fr 0) (A 0) s (B 0) = l
theorem WI.of {M M' : AMm} {m s t : Nat} {A Fr B Kt : Nat → Nat} (h : WI M R C m s t A Fr B Kt) (hm : ∀ a, 8 ≤ a → a ≤ 12 → M' a = M a) : WI M' R C m s t A Fr B Kt := by
  unfold WI
  rw [hm 8 (by decide) (by decide), hm 9 (by decide) (by decide), hm 10 (by decide) (by decide), hm 11 (by decide) (by decide), hm 12 (by decide) (by decide)]
  exact h
theorem ND.of {M M' : AMm} {m s : Nat} {x : Nd} {l : List Nd} (h : ND M R C er sp m s x l) (hm : ∀ a, 8 ≤ a → a ≤ 12 → M' a = M a) : ND M' R C er sp m s x l := by
  obtain ⟨t, A, Fr, B, Kt, h1, h2, h3⟩ := h
  exact ⟨t, A, Fr, B, Kt, h1.of hm, by rw [hm 8 (by decide) (by decide)]; exact h2, h3⟩
theorem s_nextL {K : Int32 → AMm → Prop} (hF : FI M R C er bg sp) (hw : WF R C er bg sp) {m s : Nat} {l : List Nd} (hI : IT M R C er sp m s l) (h0 : l = [] → ∀ M', F8 M M' → K (nI 0) M') (h1 : ∀ x l', l = x :: l' → ∀ M', ND M' R C er sp m s x l' → F8 M M' → K (nI 1) M') : CI (d + 3) 31 [.ref 8] (DB (some 2) i0 i1 ext) M (DB (some 2) i0 i1 ext) K := by
  rcases hI with ⟨x, t, A, Fr, B, Kt, hW, hb, -, hr⟩ | ⟨A, Fr, B, Kt, hW, hb, hk, hr⟩
  · exact s_next hF hw hW hb (fun h => h0 (by rw [← hr]; exact h)) (fun x l' h M' t' A' Fr' B' Kt' a1 a2 a3 a4 a5 => h1 x l' (by rw [← hr]; exact h) M' ⟨t', A', Fr', B', Kt', a1, a2, a3, a4⟩ a5)
  · refine b_X3_next_0 ⟨fun _ => ⟨_, _, rfl, ?_⟩, fun h => absurd (by rw [hb]; rfl) h⟩
    rw [EE_eq] at hr
    refine h1 _ _ hr.symm _ ⟨0, A, Fr, B, Kt, ?_, ms_s _ _ _ _, rfl, ?_⟩ (F8.rf.ms (by decide) (by decide))
    · obtain ⟨w1, w2, w4, wt, wm, ws, wa, wk⟩ := hW
      refine ⟨by rw [ms_b (by decide)]; exact w1, by rw [ms_b (by decide)]; exact w2, by rw [ms_b (by decide)]; exact w4, wt, wm, ws, fun i hi => ?_, wk⟩
      rw [ms_a (by decide), ms_a (by decide), ms_a (by decide), ms_a (by decide)]
      exact wa i hi
    · show List.map (fun x => ([] ++ x.1, x.2)) (ET R C (br er sp) (m - 0) (Fr 0) (A 0) (s + 0) (B 0) (Kt 0)) ++ [] = _
      rw [hk, List.append_nil]
      exact List.map_id _
theorem s_start {K : AMm → Prop} {s k : Nat} (hk : k < 2 ^ 31) (h1 : ∀ M', M' 8 1 = nI s → M' 8 2 = nI (min k 15) → M' 8 3 = nI 0 → M' 8 4 = nI 0 → M' 12 0 = nI 0 → F8 M M' → K M') : CV d 30 [.ref 8, .ref 2, .int (nI s), .int (nI k)] (DB o i0 i1 ext) M (DB (some 2) i0 i1 ext) K := by
  refine b_X3_start_0 _ _ ⟨_, rfl, h1 _ ?_ ?_ ?_ ?_ (ms_s _ _ _ _) (((((F8.rf.ms (by decide) (by decide)).ms (by decide) (by decide)).ms (by decide) (by decide)).ms (by decide) (by decide)).ms (by decide) (by decide))⟩
  · simp [ms]
  · have : a_mm 1 (nI k) (nI 15) = nI (min k 15) := by
      show (if nI 15 < nI k then nI 15 else nI k) = _
      split
      · rename_i h; rw [n_lt (by decide) hk] at h; rw [show min k 15 = 15 by omega]
      · rename_i h; rw [n_lt (by decide) hk] at h; rw [show min k 15 = k by omega]
    simp [ms, this]
  · simp [ms]
  · simp [ms]
theorem s_from {K : AMm → Prop} (hF : FI M R C er bg sp) (hw : WF R C er bg sp) {p : Nat} (hp : p < R * C) (h1 : ∀ M', IT M' R C er sp 15 0 (EE R C (br er sp) 15 (cb (opn er (R * C)) p) p 0 (br er sp p 0)) → F8 M M' → K M') : CV (d + 2) 28 [.ref 8, .ref 2, .int (nI p), .int (nI 16)] (DB o i0 i1 ext) M (DB (some 2) i0 i1 ext) K := by
  have hl := hw.1.le
  refine b_X3_from_0 _ _ (s_start (by decide) (fun M1 a1 a2 a3 a4 a5 a6 => ?_))
  have f1 : F8 M (ms M1 9 0 (nI p)) := a6.ms (by decide) (by decide)
  refine s_freeFrom (hF.f8 f1) (by omega) ?_
  have f2 : F8 M (ms (ms M1 9 0 (nI p)) 10 0 (nI (cb (opn er (R * C)) p))) := f1.ms (by decide) (by decide)
  refine s_brings (hF.f8 f2) hw hp (by decide) ⟨_, rfl, h1 _ (Or.inr ⟨fun _ => p, fun _ => cb (opn er (R * C)) p, fun _ => br er sp p 0, fun _ => 0, ⟨?_, ?_, ?_, by decide, by decide, by decide, fun i hi => ?_, fun i hi => absurd hi (Nat.not_lt_zero i)⟩, ?_, rfl, rfl⟩) (f2.ms (by decide) (by decide))⟩
  · simp [ms, a1]
  · simp only [ms]; simpa using a2
  · simp [ms, a4]
  · obtain rfl : i = 0 := by omega
    refine ⟨?_, ?_, ?_, ?_, hp, cb_lt (opn_lt hl), by decide⟩
    · simp [ms]
    · simp [ms]
    · simp [ms]
    · simp [ms, a5]
  · simp [ms, a3]
theorem s_goOn {K : AMm → Prop} {F p t b k : Nat} (hk : k < 2 ^ 31) (hW : WKI M F p t b) (hp : p < R * C) (hB : F < 65536) (ht : t ≤ 60) (h1 : ∀ M', IT M' R C er sp (min k 15) t (EE R C (br er sp) (min k 15) F p t b) → F8 M M' → K M') : CV (d + 1) 29 [.ref 8, .ref 2, .ref 7, .int (nI k)] (DB o i0 i1 ext) M (DB (some 2) i0 i1 ext) K := by
  obtain ⟨k0, k1, k2, k3⟩ := hW
  refine b_X3_goOn_0 _ ?_
  rw [k1]
  refine s_start hk (fun M1 a1 a2 a3 a4 a5 a6 => ⟨_, rfl, h1 _ (Or.inr ⟨fun _ => p, fun _ => F, fun _ => b, fun _ => 0, ⟨?_, ?_, ?_, Nat.zero_le _, by omega, ht, fun i hi => ?_, fun i hi => absurd hi (Nat.not_lt_zero i)⟩, ?_, rfl, rfl⟩) (((a6.ms (by decide) (by decide)).ms (by decide) (by decide)).ms (by decide) (by decide))⟩)
  · simp [ms, a1]
  · simp [ms, a2]
  · simp [ms, a4]
  · obtain rfl : i = 0 := by omega
    have e7 : M1 7 = M 7 := a6 7 (by omega)
    rw [e7, k0, k2, k3]
    refine ⟨?_, ?_, ?_, ?_, hp, hB, by decide⟩
    · simp [ms]
    · simp [ms]
    · simp [ms]
    · simp [ms, a5]
  · simp [ms, a3]
theorem s_end {K : Int32 → AMm → Prop} {m s : Nat} {x : Nd} {l : List Nd} (h : ND M R C er sp m s x l) (h1 : K (nI x.2.2.1) M) : CI d 33 [.ref 8] (DB o i0 i1 ext) M (DB o i0 i1 ext) K := by
  obtain ⟨t, A, Fr, B, Kt, ⟨w1, w2, w4, wt, wm, ws, wa, wk⟩, hb, rfl, -⟩ := h
  refine b_X3_end_0 ?_
  rw [w4, n_cl (by omega), (wa t (Nat.le_refl _)).1]
  exact ⟨n_in (by omega) (by decide), _, _, rfl, h1⟩
theorem s_brought {K : Int32 → AMm → Prop} {m s : Nat} {x : Nd} {l : List Nd} (h : ND M R C er sp m s x l) (h1 : K (nI x.2.2.2) M) : CI d 34 [.ref 8] (DB o i0 i1 ext) M (DB o i0 i1 ext) K := by
  obtain ⟨t, A, Fr, B, Kt, ⟨w1, w2, w4, wt, wm, ws, wa, wk⟩, hb, rfl, -⟩ := h
  refine b_X3_brought_0 ?_
  rw [w4, n_cl (by omega), (wa t (Nat.le_refl _)).2.2.1]
  exact ⟨n_in (by omega) (by decide), _, _, rfl, h1⟩
theorem s_leaves {K : Int32 → AMm → Prop} {m s : Nat} {x : Nd} {l : List Nd} (h : ND M R C er sp m s x l) (h1 : K (bI (decide (x.2.1 = 0))) M) : CI d 35 [.ref 8] (DB o i0 i1 ext) M (DB o i0 i1 ext) K := by
  obtain ⟨t, A, Fr, B, Kt, ⟨w1, w2, w4, wt, wm, ws, wa, wk⟩, hb, rfl, -⟩ := h
  have z := wa t (Nat.le_refl _)
  refine b_X3_leavesNothing_0 ?_
  rw [w4, n_cl (by omega), z.2.1, n_e0 (by have := z.2.2.2.2.2.1; omega)]
  refine ⟨n_in (by omega) (by decide), fun h => ⟨_, _, rfl, ?_⟩, fun h => ⟨_, _, rfl, ?_⟩⟩
  · rw [decide_eq_true h] at h1; exact h1
  · rw [decide_eq_false h] at h1; exact h1
theorem nd_depth {m s : Nat} {x : Nd} {l : List Nd} (h : ND M R C er sp m s x l) : M 8 4 = nI x.1.length ∧ x.1.length ≤ 15 ∧ x.2.1 < 65536 ∧ x.2.2.1 < R * C := by
  obtain ⟨t, A, Fr, B, Kt, ⟨w1, w2, w4, wt, wm, ws, wa, wk⟩, hb, rfl, -⟩ := h
  have z := wa t (Nat.le_refl _)
  dsimp only
  rw [pre_len]
  exact ⟨w4, by omega, z.2.2.2.2.2.1, z.2.2.2.2.1⟩
-- what was chosen: nothing yet, or a worth and the steps of the way
def CHI (M : AMm) (c : Nat) (q : Option (Nat × List Nat)) : Prop := match q with
  | none => M c 0 = -(nI 1) ∧ M c 1 = nI 0
  | some x => M c 0 = nI x.1 ∧ x.1 < 1000 ∧ M c 1 = nI x.2.length ∧ x.2.length ≤ 15 ∧ ∀ i k, x.2[i]? = some k → k < 4 ∧ M (c + 1) i = nI k
theorem CHI.of {M M' : AMm} {c : Nat} {q : Option (Nat × List Nat)} (h : CHI M c q) (h1 : M' c = M c) (h2 : M' (c + 1) = M (c + 1)) : CHI M' c q := by
  unfold CHI
  rw [h1, h2]
  exact h
def ch (q : Option (Nat × List Nat)) (w : Nat) (p : List Nat) : Option (Nat × List Nat) := match q with
  | none => some (w, p)
  | some x => if w < x.1 ∨ (w = x.1 ∧ x.2.length ≤ p.length) then some x else some (w, p)
def sgo (q : Option (Nat × List Nat)) (i : Nat) : Int32 := match q with
  | none => -(nI 6)
  | some x => match x.2[i]? with
    | some k => sgn k
    | none => -(nI 6)
theorem m1n (w : Nat) (hw : w < 1000) : ¬ nI w < -(nI 1) ∧ ¬ nI w = -(nI 1) := by
  have h := neg_lt (k := 1) (by decide) (by decide)
  constructor
  · intro q
    rw [Int32.lt_iff_toInt_lt, nI_toInt (by omega), sb_negT (by decide)] at q
    omega
  · intro q
    rw [← q] at h
    exact nI_pos (by omega) h
theorem s_clear13 {K : AMm → Prop} (h1 : ∀ M', CHI M' 13 none → (∀ a, a ≠ 13 → a ≠ 14 → M' a = M a) → K M') : CV d 2 [.ref 13] (DB o i0 i1 ext) M (DB o i0 i1 ext) K := by
  refine b_X0_clear13_0 ⟨_, rfl, h1 _ ⟨by rw [ms_b (by decide), ms_s], ms_s _ _ _ _⟩ (fun a h _ => by funext b; rw [ms_a h, ms_a h])⟩
theorem s_offer13 {K : AMm → Prop} {m s w : Nat} {x : Nd} {l : List Nd} {q : Option (Nat × List Nat)} (h : ND M R C er sp m s x l) (hc : CHI M 13 q) (hw : w < 1000) (h1 : ∀ M', CHI M' 13 (ch q w x.1) → (∀ a, a ≠ 13 → a ≠ 14 → M' a = M a) → K M') : CV d 3 [.ref 13, .ref 8, .int (nI w)] (DB o i0 i1 ext) M (DB o i0 i1 ext) K := by
  obtain ⟨t, A, Fr, B, Kt, ⟨w1, w2, w4, wt, wm, ws, wa, wk⟩, hb, rfl, -⟩ := h
  dsimp only at h1
  have take : ch q w (pre Kt t) = some (w, pre Kt t) → T d (fun r => ∃ M', r = (none, DB o i0 i1 ext, M') ∧ K M') (3, 23, [some (.ref 13), some (.ref 8), none, some (.int (nI 0))], [], (DB o i0 i1 ext), (ms (ms M 13 0 (nI w)) 13 1 (nI t))) := by
    intro hq
    have loop : ∀ n k (M' : AMm), t - k = n → k ≤ t → M' 13 0 = nI w → M' 13 1 = nI t → (∀ i, i < k → M' 14 i = nI (Kt i - 1)) → (∀ a, a ≠ 13 → a ≠ 14 → M' a = M a) → T d (fun r => ∃ M', r = (none, DB o i0 i1 ext, M') ∧ K M') (3, 23, [some (.ref 13), some (.ref 8), none, some (.int (nI k))], [], (DB o i0 i1 ext), M') := by
      intro n
      induction n with
      | zero =>
        intro k M' h0 hk a0 a1 a2 a3
        obtain rfl : k = t := by omega
        refine b_X0_offer13_23 _ ⟨fun _ => ⟨_, rfl, h1 M' ?_ a3⟩, fun h => ?_⟩
        · rw [hq]
          refine ⟨a0, hw, by rw [pre_len]; exact a1, by rw [pre_len]; omega, fun i z hz => ?_⟩
          have hi : i < k := by have := (List.getElem?_eq_some_iff.mp hz).1; rw [pre_len] at this; exact this
          rw [pre_at Kt hi] at hz
          obtain rfl := Option.some.inj hz
          have := (wa i (by omega)).2.2.2.2.2.2
          have := wk i hi
          exact ⟨by omega, a2 i hi⟩
        · rw [a1] at h; exact absurd (nI_le (Nat.le_refl _) (by omega)) h
      | succ n ih =>
        intro k M' h0 hk a0 a1 a2 a3
        refine b_X0_offer13_23 _ ⟨fun h => ?_, fun _ => ⟨n_in (by omega) (by decide), n_in (by omega) (by decide), ?_⟩⟩
        · rw [a1, n_le (by omega) (by omega)] at h; omega
        · rw [n_cl (by omega), a3 12 (by decide) (by decide), (wa k (by omega)).2.2.2.1, nI_add, pk_sub (wk k (by omega))]
          refine ih (k + 1) _ (by omega) (by omega) (by rw [ms_a (by decide)]; exact a0) (by rw [ms_a (by decide)]; exact a1) (fun i hi => ?_) (fun a z1 z2 => by rw [← a3 a z1 z2]; funext b; exact ms_a z2)
          by_cases h9 : i = k
          · subst h9; exact ms_s _ _ _ _
          · rw [ms_b h9]; exact a2 i (by omega)
    exact loop t 0 _ (by omega) (by omega) (by rw [ms_b (by decide), ms_s]) (ms_s _ _ _ _) (fun i hi => absurd hi (Nat.not_lt_zero i)) (fun a z1 _ => by funext b; rw [ms_a z1, ms_a z1])
  refine b_X0_offer13_0 _ ?_
  rw [w4]
  cases q with
  | none =>
    obtain ⟨c0, c1⟩ := hc
    rw [c0]
    exact ⟨fun h => absurd h (m1n w hw).1, fun _ => ⟨fun h => absurd h (m1n w hw).2, fun _ => take rfl⟩⟩
  | some y =>
    have hc0 := hc
    obtain ⟨c0, c9, c1, c2, c3⟩ := hc
    rw [c0, c1, n_lt (by omega) (by omega), n_eq (by omega) (by omega), n_lt (by omega) (by omega)]
    have stay : (w < y.1 ∨ (w = y.1 ∧ y.2.length ≤ t)) → K M := by
      intro hz
      refine h1 M ?_ (fun _ _ _ => rfl)
      show CHI M 13 (if w < y.1 ∨ (w = y.1 ∧ y.2.length ≤ (pre Kt t).length) then some y else some (w, pre Kt t))
      rw [pre_len, if_pos hz]; exact hc0
    have go : ¬ (w < y.1 ∨ (w = y.1 ∧ y.2.length ≤ t)) → ch (some y) w (pre Kt t) = some (w, pre Kt t) := by
      intro hz
      show (if w < y.1 ∨ (w = y.1 ∧ y.2.length ≤ (pre Kt t).length) then some y else some (w, pre Kt t)) = _
      rw [pre_len, if_neg hz]
    exact ⟨fun h => ⟨_, rfl, stay (Or.inl h)⟩, fun h => ⟨fun h2 => ⟨fun h3 => take (go (by omega)), fun h3 => ⟨_, rfl, stay (Or.inr ⟨h2, by omega⟩)⟩⟩, fun h2 => take (go (by omega))⟩⟩
theorem s_signOf13 {K : Int32 → AMm → Prop} {q : Option (Nat × List Nat)} (hr : RO M) (hc : CHI M 13 q) {x : Int32} (h0 : x < 0 → K (-(nI 6)) M) (h1 : ∀ i, i < 2 ^ 31 → x = nI i → K (sgo q i) M) : CI d 4 [.ref 13, .int x] (DB o i0 i1 ext) M (DB o i0 i1 ext) K := by
  refine b_X0_signOf13_0 _ ⟨fun h => ⟨_, _, rfl, h0 h⟩, fun h => ?_⟩
  obtain ⟨i, hi, rfl⟩ := nI_of h
  have h1 := h1 i hi rfl
  cases q with
  | none =>
    obtain ⟨c0, c1⟩ := hc
    rw [c1]
    exact ⟨fun _ => ⟨_, _, rfl, h1⟩, fun h => absurd (nI_le (Nat.zero_le _) hi) h⟩
  | some y =>
    obtain ⟨c0, c9, c1, c2, c3⟩ := hc
    rw [c1, n_le (by omega) hi]
    have h1 : K (match y.2[i]? with
      | some k => sgn k
      | none => -(nI 6)) M := h1
    refine ⟨fun h => ⟨_, _, rfl, ?_⟩, fun h => ⟨n_in (by omega) (by decide), ?_⟩⟩
    · rw [List.getElem?_eq_none h] at h1; exact h1
    · obtain ⟨k, hk⟩ : ∃ k, y.2[i]? = some k := ⟨_, List.getElem?_eq_getElem (by omega)⟩
      obtain ⟨k4, hk2⟩ := c3 i k hk
      rw [hk] at h1
      have hk2 : M 14 i = nI k := hk2
      rw [n_cl hi, hk2, n_cl (by omega), (hr k k4).1]
      exact ⟨fun h => absurd h (nI_pos (by omega)), fun _ => ⟨n_in (by omega) (by decide), fun _ => ⟨n_in (by omega) (by decide), n_in k4 (by decide), _, _, rfl, h1⟩, fun h => absurd ((n_lt (by omega) (by decide)).mpr k4) h⟩⟩
theorem s_clear15 {K : AMm → Prop} (h1 : ∀ M', CHI M' 15 none → (∀ a, a ≠ 15 → a ≠ 16 → M' a = M a) → K M') : CV d 2 [.ref 15] (DB o i0 i1 ext) M (DB o i0 i1 ext) K := by
  refine b_X0_clear15_0 ⟨_, rfl, h1 _ ⟨by rw [ms_b (by decide), ms_s], ms_s _ _ _ _⟩ (fun a h _ => by funext b; rw [ms_a h, ms_a h])⟩
theorem s_offer15 {K : AMm → Prop} {m s w : Nat} {x : Nd} {l : List Nd} {q : Option (Nat × List Nat)} (h : ND M R C er sp m s x l) (hc : CHI M 15 q) (hw : w < 1000) (h1 : ∀ M', CHI M' 15 (ch q w x.1) → (∀ a, a ≠ 15 → a ≠ 16 → M' a = M a) → K M') : CV d 3 [.ref 15, .ref 8, .int (nI w)] (DB o i0 i1 ext) M (DB o i0 i1 ext) K := by
  obtain ⟨t, A, Fr, B, Kt, ⟨w1, w2, w4, wt, wm, ws, wa, wk⟩, hb, rfl, -⟩ := h
  dsimp only at h1
  have take : ch q w (pre Kt t) = some (w, pre Kt t) → T d (fun r => ∃ M', r = (none, DB o i0 i1 ext, M') ∧ K M') (3, 23, [some (.ref 15), some (.ref 8), none, some (.int (nI 0))], [], (DB o i0 i1 ext), (ms (ms M 15 0 (nI w)) 15 1 (nI t))) := by
    intro hq
    have loop : ∀ n k (M' : AMm), t - k = n → k ≤ t → M' 15 0 = nI w → M' 15 1 = nI t → (∀ i, i < k → M' 16 i = nI (Kt i - 1)) → (∀ a, a ≠ 15 → a ≠ 16 → M' a = M a) → T d (fun r => ∃ M', r = (none, DB o i0 i1 ext, M') ∧ K M') (3, 23, [some (.ref 15), some (.ref 8), none, some (.int (nI k))], [], (DB o i0 i1 ext), M') := by
      intro n
      induction n with
      | zero =>
        intro k M' h0 hk a0 a1 a2 a3
        obtain rfl : k = t := by omega
        refine b_X0_offer15_23 _ ⟨fun _ => ⟨_, rfl, h1 M' ?_ a3⟩, fun h => ?_⟩
        · rw [hq]
          refine ⟨a0, hw, by rw [pre_len]; exact a1, by rw [pre_len]; omega, fun i z hz => ?_⟩
          have hi : i < k := by have := (List.getElem?_eq_some_iff.mp hz).1; rw [pre_len] at this; exact this
          rw [pre_at Kt hi] at hz
          obtain rfl := Option.some.inj hz
          have := (wa i (by omega)).2.2.2.2.2.2
          have := wk i hi
          exact ⟨by omega, a2 i hi⟩
        · rw [a1] at h; exact absurd (nI_le (Nat.le_refl _) (by omega)) h
      | succ n ih =>
        intro k M' h0 hk a0 a1 a2 a3
        refine b_X0_offer15_23 _ ⟨fun h => ?_, fun _ => ⟨n_in (by omega) (by decide), n_in (by omega) (by decide), ?_⟩⟩
        · rw [a1, n_le (by omega) (by omega)] at h; omega
        · rw [n_cl (by omega), a3 12 (by decide) (by decide), (wa k (by omega)).2.2.2.1, nI_add, pk_sub (wk k (by omega))]
          refine ih (k + 1) _ (by omega) (by omega) (by rw [ms_a (by decide)]; exact a0) (by rw [ms_a (by decide)]; exact a1) (fun i hi => ?_) (fun a z1 z2 => by rw [← a3 a z1 z2]; funext b; exact ms_a z2)
          by_cases h9 : i = k
          · subst h9; exact ms_s _ _ _ _
          · rw [ms_b h9]; exact a2 i (by omega)
    exact loop t 0 _ (by omega) (by omega) (by rw [ms_b (by decide), ms_s]) (ms_s _ _ _ _) (fun i hi => absurd hi (Nat.not_lt_zero i)) (fun a z1 _ => by funext b; rw [ms_a z1, ms_a z1])
  refine b_X0_offer15_0 _ ?_
  rw [w4]
  cases q with
  | none =>
    obtain ⟨c0, c1⟩ := hc
    rw [c0]
    exact ⟨fun h => absurd h (m1n w hw).1, fun _ => ⟨fun h => absurd h (m1n w hw).2, fun _ => take rfl⟩⟩
  | some y =>
    have hc0 := hc
    obtain ⟨c0, c9, c1, c2, c3⟩ := hc
    rw [c0, c1, n_lt (by omega) (by omega), n_eq (by omega) (by omega), n_lt (by omega) (by omega)]
    have stay : (w < y.1 ∨ (w = y.1 ∧ y.2.length ≤ t)) → K M := by
      intro hz
      refine h1 M ?_ (fun _ _ _ => rfl)
      show CHI M 15 (if w < y.1 ∨ (w = y.1 ∧ y.2.length ≤ (pre Kt t).length) then some y else some (w, pre Kt t))
      rw [pre_len, if_pos hz]; exact hc0
    have go : ¬ (w < y.1 ∨ (w = y.1 ∧ y.2.length ≤ t)) → ch (some y) w (pre Kt t) = some (w, pre Kt t) := by
      intro hz
      show (if w < y.1 ∨ (w = y.1 ∧ y.2.length ≤ (pre Kt t).length) then some y else some (w, pre Kt t)) = _
      rw [pre_len, if_neg hz]
    exact ⟨fun h => ⟨_, rfl, stay (Or.inl h)⟩, fun h => ⟨fun h2 => ⟨fun h3 => take (go (by omega)), fun h3 => ⟨_, rfl, stay (Or.inr ⟨h2, by omega⟩)⟩⟩, fun h2 => take (go (by omega))⟩⟩
theorem s_signOf15 {K : Int32 → AMm → Prop} {q : Option (Nat × List Nat)} (hr : RO M) (hc : CHI M 15 q) {x : Int32} (h0 : x < 0 → K (-(nI 6)) M) (h1 : ∀ i, i < 2 ^ 31 → x = nI i → K (sgo q i) M) : CI d 4 [.ref 15, .int x] (DB o i0 i1 ext) M (DB o i0 i1 ext) K := by
  refine b_X0_signOf15_0 _ ⟨fun h => ⟨_, _, rfl, h0 h⟩, fun h => ?_⟩
  obtain ⟨i, hi, rfl⟩ := nI_of h
  have h1 := h1 i hi rfl
  cases q with
  | none =>
    obtain ⟨c0, c1⟩ := hc
    rw [c1]
    exact ⟨fun _ => ⟨_, _, rfl, h1⟩, fun h => absurd (nI_le (Nat.zero_le _) hi) h⟩
  | some y =>
    obtain ⟨c0, c9, c1, c2, c3⟩ := hc
    rw [c1, n_le (by omega) hi]
    have h1 : K (match y.2[i]? with
      | some k => sgn k
      | none => -(nI 6)) M := h1
    refine ⟨fun h => ⟨_, _, rfl, ?_⟩, fun h => ⟨n_in (by omega) (by decide), ?_⟩⟩
    · rw [List.getElem?_eq_none h] at h1; exact h1
    · obtain ⟨k, hk⟩ : ∃ k, y.2[i]? = some k := ⟨_, List.getElem?_eq_getElem (by omega)⟩
      obtain ⟨k4, hk2⟩ := c3 i k hk
      rw [hk] at h1
      have hk2 : M 16 i = nI k := hk2
      rw [n_cl hi, hk2, n_cl (by omega), (hr k k4).1]
      exact ⟨fun h => absurd h (nI_pos (by omega)), fun _ => ⟨n_in (by omega) (by decide), fun _ => ⟨n_in (by omega) (by decide), n_in k4 (by decide), _, _, rfl, h1⟩, fun h => absurd ((n_lt (by omega) (by decide)).mpr k4) h⟩⟩
theorem s_clear17 {K : AMm → Prop} (h1 : ∀ M', CHI M' 17 none → (∀ a, a ≠ 17 → a ≠ 18 → M' a = M a) → K M') : CV d 2 [.ref 17] (DB o i0 i1 ext) M (DB o i0 i1 ext) K := by
  refine b_X0_clear17_0 ⟨_, rfl, h1 _ ⟨by rw [ms_b (by decide), ms_s], ms_s _ _ _ _⟩ (fun a h _ => by funext b; rw [ms_a h, ms_a h])⟩
theorem s_offer17 {K : AMm → Prop} {m s w : Nat} {x : Nd} {l : List Nd} {q : Option (Nat × List Nat)} (h : ND M R C er sp m s x l) (hc : CHI M 17 q) (hw : w < 1000) (h1 : ∀ M', CHI M' 17 (ch q w x.1) → (∀ a, a ≠ 17 → a ≠ 18 → M' a = M a) → K M') : CV d 3 [.ref 17, .ref 8, .int (nI w)] (DB o i0 i1 ext) M (DB o i0 i1 ext) K := by
  obtain ⟨t, A, Fr, B, Kt, ⟨w1, w2, w4, wt, wm, ws, wa, wk⟩, hb, rfl, -⟩ := h
  dsimp only at h1
  have take : ch q w (pre Kt t) = some (w, pre Kt t) → T d (fun r => ∃ M', r = (none, DB o i0 i1 ext, M') ∧ K M') (3, 23, [some (.ref 17), some (.ref 8), none, some (.int (nI 0))], [], (DB o i0 i1 ext), (ms (ms M 17 0 (nI w)) 17 1 (nI t))) := by
    intro hq
    have loop : ∀ n k (M' : AMm), t - k = n → k ≤ t → M' 17 0 = nI w → M' 17 1 = nI t → (∀ i, i < k → M' 18 i = nI (Kt i - 1)) → (∀ a, a ≠ 17 → a ≠ 18 → M' a = M a) → T d (fun r => ∃ M', r = (none, DB o i0 i1 ext, M') ∧ K M') (3, 23, [some (.ref 17), some (.ref 8), none, some (.int (nI k))], [], (DB o i0 i1 ext), M') := by
      intro n
      induction n with
      | zero =>
        intro k M' h0 hk a0 a1 a2 a3
        obtain rfl : k = t := by omega
        refine b_X0_offer17_23 _ ⟨fun _ => ⟨_, rfl, h1 M' ?_ a3⟩, fun h => ?_⟩
        · rw [hq]
          refine ⟨a0, hw, by rw [pre_len]; exact a1, by rw [pre_len]; omega, fun i z hz => ?_⟩
          have hi : i < k := by have := (List.getElem?_eq_some_iff.mp hz).1; rw [pre_len] at this; exact this
          rw [pre_at Kt hi] at hz
          obtain rfl := Option.some.inj hz
          have := (wa i (by omega)).2.2.2.2.2.2
          have := wk i hi
          exact ⟨by omega, a2 i hi⟩
        · rw [a1] at h; exact absurd (nI_le (Nat.le_refl _) (by omega)) h
      | succ n ih =>
        intro k M' h0 hk a0 a1 a2 a3
        refine b_X0_offer17_23 _ ⟨fun h => ?_, fun _ => ⟨n_in (by omega) (by decide), n_in (by omega) (by decide), ?_⟩⟩
        · rw [a1, n_le (by omega) (by omega)] at h; omega
        · rw [n_cl (by omega), a3 12 (by decide) (by decide), (wa k (by omega)).2.2.2.1, nI_add, pk_sub (wk k (by omega))]
          refine ih (k + 1) _ (by omega) (by omega) (by rw [ms_a (by decide)]; exact a0) (by rw [ms_a (by decide)]; exact a1) (fun i hi => ?_) (fun a z1 z2 => by rw [← a3 a z1 z2]; funext b; exact ms_a z2)
          by_cases h9 : i = k
          · subst h9; exact ms_s _ _ _ _
          · rw [ms_b h9]; exact a2 i (by omega)
    exact loop t 0 _ (by omega) (by omega) (by rw [ms_b (by decide), ms_s]) (ms_s _ _ _ _) (fun i hi => absurd hi (Nat.not_lt_zero i)) (fun a z1 _ => by funext b; rw [ms_a z1, ms_a z1])
  refine b_X0_offer17_0 _ ?_
  rw [w4]
  cases q with
  | none =>
    obtain ⟨c0, c1⟩ := hc
    rw [c0]
    exact ⟨fun h => absurd h (m1n w hw).1, fun _ => ⟨fun h => absurd h (m1n w hw).2, fun _ => take rfl⟩⟩
  | some y =>
    have hc0 := hc
    obtain ⟨c0, c9, c1, c2, c3⟩ := hc
    rw [c0, c1, n_lt (by omega) (by omega), n_eq (by omega) (by omega), n_lt (by omega) (by omega)]
    have stay : (w < y.1 ∨ (w = y.1 ∧ y.2.length ≤ t)) → K M := by
      intro hz
      refine h1 M ?_ (fun _ _ _ => rfl)
      show CHI M 17 (if w < y.1 ∨ (w = y.1 ∧ y.2.length ≤ (pre Kt t).length) then some y else some (w, pre Kt t))
      rw [pre_len, if_pos hz]; exact hc0
    have go : ¬ (w < y.1 ∨ (w = y.1 ∧ y.2.length ≤ t)) → ch (some y) w (pre Kt t) = some (w, pre Kt t) := by
      intro hz
      show (if w < y.1 ∨ (w = y.1 ∧ y.2.length ≤ (pre Kt t).length) then some y else some (w, pre Kt t)) = _
      rw [pre_len, if_neg hz]
    exact ⟨fun h => ⟨_, rfl, stay (Or.inl h)⟩, fun h => ⟨fun h2 => ⟨fun h3 => take (go (by omega)), fun h3 => ⟨_, rfl, stay (Or.inr ⟨h2, by omega⟩)⟩⟩, fun h2 => take (go (by omega))⟩⟩
theorem s_signOf17 {K : Int32 → AMm → Prop} {q : Option (Nat × List Nat)} (hr : RO M) (hc : CHI M 17 q) {x : Int32} (h0 : x < 0 → K (-(nI 6)) M) (h1 : ∀ i, i < 2 ^ 31 → x = nI i → K (sgo q i) M) : CI d 4 [.ref 17, .int x] (DB o i0 i1 ext) M (DB o i0 i1 ext) K := by
  refine b_X0_signOf17_0 _ ⟨fun h => ⟨_, _, rfl, h0 h⟩, fun h => ?_⟩
  obtain ⟨i, hi, rfl⟩ := nI_of h
  have h1 := h1 i hi rfl
  cases q with
  | none =>
    obtain ⟨c0, c1⟩ := hc
    rw [c1]
    exact ⟨fun _ => ⟨_, _, rfl, h1⟩, fun h => absurd (nI_le (Nat.zero_le _) hi) h⟩
  | some y =>
    obtain ⟨c0, c9, c1, c2, c3⟩ := hc
    rw [c1, n_le (by omega) hi]
    have h1 : K (match y.2[i]? with
      | some k => sgn k
      | none => -(nI 6)) M := h1
    refine ⟨fun h => ⟨_, _, rfl, ?_⟩, fun h => ⟨n_in (by omega) (by decide), ?_⟩⟩
    · rw [List.getElem?_eq_none h] at h1; exact h1
    · obtain ⟨k, hk⟩ : ∃ k, y.2[i]? = some k := ⟨_, List.getElem?_eq_getElem (by omega)⟩
      obtain ⟨k4, hk2⟩ := c3 i k hk
      rw [hk] at h1
      have hk2 : M 18 i = nI k := hk2
      rw [n_cl hi, hk2, n_cl (by omega), (hr k k4).1]
      exact ⟨fun h => absurd h (nI_pos (by omega)), fun _ => ⟨n_in (by omega) (by decide), fun _ => ⟨n_in (by omega) (by decide), n_in k4 (by decide), _, _, rfl, h1⟩, fun h => absurd ((n_lt (by omega) (by decide)).mpr k4) h⟩⟩
end C8
