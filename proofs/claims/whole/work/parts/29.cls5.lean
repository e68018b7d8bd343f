-- THE CLASS: the walk through all ways
def WI (M : AMm) (R C m s t : Nat) (A Fr B Kt : Nat → Nat) : Prop := M 8 1 = nI s ∧ M 8 2 = nI m ∧ M 8 4 = nI t ∧ t ≤ m ∧ m ≤ 15 ∧ s ≤ 60 ∧ (∀ i, i ≤ t → M 9 i = nI (A i) ∧ M 10 i = nI (Fr i) ∧ M 11 i = nI (B i) ∧ M 12 i = nI (Kt i) ∧ A i < R * C ∧ Fr i < 65536 ∧ Kt i ≤ 4) ∧ ∀ i, i < t → 1 ≤ Kt i
/-- nothing is changed but the walk -/
def F8 (M M' : AMm) : Prop := ∀ a, a < 8 ∨ 12 < a → M' a = M a
theorem F8.rf {M : AMm} : F8 M M := fun _ _ => rfl
theorem F8.tr {M M1 M2 : AMm} (h1 : F8 M M1) (h2 : F8 M1 M2) : F8 M M2 := fun a h => (h2 a h).trans (h1 a h)
theorem F8.ms {M M' : AMm} (h : F8 M M') {a b : Nat} {v : Int32} (h1 : 8 ≤ a) (h2 : a ≤ 12) : F8 M (ms M' a b v) := fun x hx => by rw [← h x hx]; funext y; exact ms_a (by omega)
section C7
variable {d : Nat} {i0 i1 : Option Nat} {ext : ADd} {M : AMm} {R C bg sp : Nat} {er : Nat → Int32} {g : Nat → Nat → Nat}
theorem FI.f8 {M M' : AMm} (h : FI M R C er bg sp) (hm : F8 M M') : FI M' R C er bg sp := h.of (hm 2 (by omega)) (hm 3 (by omega)) (hm 4 (by omega)) (hm 5 (by omega))
theorem up_s {α : Type} (f : Nat → α) (k : Nat) (v : α) : va_up f k v k = v := by simp [va_up]
theorem up_n {α : Type} {f : Nat → α} {k i : Nat} {v : α} (h : i ≠ k) : va_up f k v i = f i := by simp [va_up, h]
theorem ET_none {n F p t b k : Nat} (h : n = 0 ∨ f4 (gn R C F p) k = none) : ET R C g n F p t b k = [] := by
  cases n with
  | zero => rfl
  | succ n =>
    rcases h with h | h
    · cases h
    · exact (wf_f4 (4 - k) k rfl).2 h
theorem ET_some {n F p t b k j q : Nat} (h : f4 (gn R C F p) k = some j) (hq : nf R C F p j = some q) : ET R C g (n + 1) F p t b k = ([j], cb F q, q, b + g q (t + 1)) :: ((ET R C g n (cb F q) q (t + 1) (b + g q (t + 1)) 0).map (fun x => (j :: x.1, x.2)) ++ ET R C g (n + 1) F p t b (j + 1)) := by
  show wf R C g (EE R C g n) F p t b k = _
  rw [(wf_f4 (4 - k) k rfl).1 j h]
  unfold wk
  rw [hq]
  dsimp only
  rw [EE_eq]
  rfl
theorem rem_cong {m s : Nat} {A Fr B Kt A' Fr' B' Kt' : Nat → Nat} : ∀ {n : Nat}, (∀ i, i < n → A' i = A i ∧ Fr' i = Fr i ∧ B' i = B i ∧ Kt' i = Kt i) → rem R C g m s A' Fr' B' Kt' n = rem R C g m s A Fr B Kt n
  | 0, _ => rfl
  | n + 1, h => by
    unfold rem
    rw [rem_cong (n := n) (fun i hi => h i (by omega)), pre_cong (fun i hi => (h i (by omega)).2.2.2), (h n (by omega)).1, (h n (by omega)).2.1, (h n (by omega)).2.2.1, (h n (by omega)).2.2.2]
theorem s_goTo {K : AMm → Prop} (hF : FI M R C er bg sp) (hw : WF R C er bg sp) {m s t q : Nat} {A Fr B Kt : Nat → Nat} (hW : WI M R C m s t A Fr B Kt) (hq : q < R * C) (ht : t < m) (h1 : ∀ M', (∀ i, i ≤ t → M' 9 i = M 9 i ∧ M' 10 i = M 10 i ∧ M' 11 i = M 11 i ∧ M' 12 i = M 12 i) → M' 9 (t + 1) = nI q → M' 10 (t + 1) = nI (cb (Fr t) q) → M' 11 (t + 1) = nI (B t + br er sp q (s + (t + 1))) → M' 12 (t + 1) = nI 0 → M' 8 4 = nI (t + 1) → (∀ b, b ≠ 4 → M' 8 b = M 8 b) → F8 M M' → K M') : CV (d + 2) 32 [.ref 8, .int (nI q)] (DB (some 2) i0 i1 ext) M (DB (some 2) i0 i1 ext) K := by
  have hl := hw.1.le
  obtain ⟨w1, w2, w4, wt, wm, ws, wa, wk⟩ := hW
  refine b_X3_goTo_0 _ ?_
  rw [w4, w1, nI_add, nI_add, n_cl (by omega), n_cl (by omega), (wa t (Nat.le_refl _)).2.1, (wa t (Nat.le_refl _)).2.2.1, n_cb (by omega)]
  have i1 : vp_in (nI (t + 1)) 16 := n_in (by omega) (by decide)
  have i2 : vp_in (nI t) 16 := n_in (by omega) (by decide)
  refine ⟨i1, i2, i1, i2, s_brings (hF.f8 ((F8.rf.ms (by decide) (by decide)).ms (by decide) (by decide))) hw hq (by omega) ⟨i1, i1, _, rfl, ?_⟩⟩
  rw [nI_add]
  refine h1 _ (fun i hi => ?_) ?_ ?_ ?_ ?_ (ms_s _ _ _ _) (fun b hb => ?_) ?_
  · have z : i ≠ t + 1 := by omega
    refine ⟨?_, ?_, ?_, ?_⟩
    · rw [ms_a (by decide), ms_a (by decide), ms_a (by decide), ms_a (by decide), ms_b z]
    · rw [ms_a (by decide), ms_a (by decide), ms_a (by decide), ms_b z, ms_a (by decide)]
    · rw [ms_a (by decide), ms_a (by decide), ms_b z, ms_a (by decide), ms_a (by decide)]
    · rw [ms_a (by decide), ms_b z, ms_a (by decide), ms_a (by decide), ms_a (by decide)]
  · rw [ms_a (by decide), ms_a (by decide), ms_a (by decide), ms_a (by decide), ms_s]
  · rw [ms_a (by decide), ms_a (by decide), ms_a (by decide), ms_s]
  · rw [ms_a (by decide), ms_a (by decide), ms_s]
  · rw [ms_a (by decide), ms_s]
  · rw [ms_b hb, ms_a (by decide), ms_a (by decide), ms_a (by decide), ms_a (by decide)]
  · exact ((((F8.rf.ms (by decide) (by decide)).ms (by decide) (by decide)).ms (by decide) (by decide)).ms (by decide) (by decide)).ms (by decide) (by decide)
theorem s_down {K : Int32 → AMm → Prop} {M1 : AMm} (hF : FI M R C er bg sp) (hw : WF R C er bg sp) {m s t j : Nat} {A Fr B Kt : Nat → Nat} (hW : WI M1 R C m s t A Fr B Kt) (hb : M1 8 3 = nI 1) (hM : F8 M M1) (ht : t < m) (hf : f4 (gn R C (Fr t) (A t)) (Kt t) = some j)
    (h1 : ∀ x l, rem R C (br er sp) m s A Fr B Kt (t + 1) = x :: l → ∀ M' t' A' Fr' B' Kt', WI M' R C m s t' A' Fr' B' Kt' → M' 8 3 = nI 1 → x = (pre Kt' t', Fr' t', A' t', B' t') → rem R C (br er sp) m s A' Fr' B' Kt' (t' + 1) = l → F8 M M' → K (nI 1) M') : vp_in (nI t) 16 ∧ vp_in (nI t) 16 ∧ CI (d + 2) 13 [.ref 2, .int (nI (A t)), .int (nI j)] (DB (some 2) i0 i1 ext) (ms M1 12 t (nI (j + 1))) (DB (some 2) i0 i1 ext) (fun v9 M8 => CV (d + 2) 32 [.ref 8, .int v9] (DB (some 2) i0 i1 ext) M8 (DB (some 2) i0 i1 ext) (fun M10 => ∃ v M', (some (.int (nI 1)), DB (some 2) i0 i1 ext, M10) = (some (Value.int v), DB (some 2) i0 i1 ext, M') ∧ K v M')) := by
  have hl := hw.1.le
  obtain ⟨w1, w2, w4, wt, wm, ws, wa, wk⟩ := hW
  have wz := wa t (Nat.le_refl _)
  have i2 : vp_in (nI t) 16 := n_in (by omega) (by decide)
  obtain ⟨hj4, hjk, hgj⟩ := f4_lt hf
  obtain ⟨q, hq⟩ := Option.isSome_iff_exists.mp hgj
  have hqP := (nb_ok hw.1 wz.2.2.2.2.1 hj4 (nf_some.mp hq).1).1
  have hM2 : F8 M (ms M1 12 t (nI (j + 1))) := hM.ms (by decide) (by decide)
  refine ⟨i2, i2, s_beside (hF.f8 hM2) hw.1 wz.2.2.2.2.1 hj4 ?_⟩
  rw [(nf_some.mp hq).1]
  have hW2 : WI (ms M1 12 t (nI (j + 1))) R C m s t A Fr B (va_up Kt t (j + 1)) := by
    refine ⟨by rw [ms_a (by decide)]; exact w1, by rw [ms_a (by decide)]; exact w2, by rw [ms_a (by decide)]; exact w4, wt, wm, ws, fun i hi => ?_, fun i hi => by rw [up_n (by omega)]; exact wk i hi⟩
    rw [ms_a (by decide), ms_a (by decide), ms_a (by decide)]
    by_cases h9 : i = t
    · subst h9
      rw [ms_s, up_s]
      exact ⟨wz.1, wz.2.1, wz.2.2.1, rfl, wz.2.2.2.2.1, wz.2.2.2.2.2.1, by omega⟩
    · rw [ms_b h9, up_n h9]; exact wa i hi
  refine s_goTo (hF.f8 hM2) hw hW2 hqP (by omega) (fun M' g1 g2 g3 g4 g5 g6 g7 g8 => ⟨_, _, rfl, ?_⟩)
  have hm1 : m - t = (m - (t + 1)) + 1 := by omega
  have e0 : ∀ (A Fr B Kt : Nat → Nat) (n : Nat), rem R C (br er sp) m s A Fr B Kt (n + 1) = (ET R C (br er sp) (m - n) (Fr n) (A n) (s + n) (B n) (Kt n)).map (fun x => (pre Kt n ++ x.1, x.2)) ++ rem R C (br er sp) m s A Fr B Kt n := fun _ _ _ _ _ => rfl
  have hrem := e0 A Fr B Kt t
  rw [hm1, ET_some hf hq, List.map_cons, List.cons_append] at hrem
  obtain ⟨A', hA'⟩ : ∃ A', A' = va_up A (t + 1) q := ⟨_, rfl⟩
  obtain ⟨Fr', hFr'⟩ : ∃ A', A' = va_up Fr (t + 1) (cb (Fr t) q) := ⟨_, rfl⟩
  obtain ⟨B', hB'⟩ : ∃ A', A' = va_up B (t + 1) (B t + br er sp q (s + (t + 1))) := ⟨_, rfl⟩
  obtain ⟨Kt', hKt'⟩ : ∃ A', A' = va_up (va_up Kt t (j + 1)) (t + 1) 0 := ⟨_, rfl⟩
  have a1 : A' (t + 1) = q := by rw [hA']; exact up_s _ _ _
  have a2 : Fr' (t + 1) = cb (Fr t) q := by rw [hFr']; exact up_s _ _ _
  have a3 : B' (t + 1) = B t + br er sp q (s + (t + 1)) := by rw [hB']; exact up_s _ _ _
  have a4 : Kt' (t + 1) = 0 := by rw [hKt']; exact up_s _ _ _
  have b1 : ∀ i, i ≤ t → A' i = A i := fun i hi => by rw [hA']; exact up_n (by omega)
  have b2 : ∀ i, i ≤ t → Fr' i = Fr i := fun i hi => by rw [hFr']; exact up_n (by omega)
  have b3 : ∀ i, i ≤ t → B' i = B i := fun i hi => by rw [hB']; exact up_n (by omega)
  have b4 : ∀ i, i < t → Kt' i = Kt i := fun i hi => by rw [hKt', up_n (by omega), up_n (by omega)]
  have b5 : Kt' t = j + 1 := by rw [hKt', up_n (by omega), up_s]
  have hWn : WI M' R C m s (t + 1) A' Fr' B' Kt' := by
    refine ⟨by rw [g7 _ (by decide), ms_a (by decide)]; exact w1, by rw [g7 _ (by decide), ms_a (by decide)]; exact w2, g6, by omega, wm, ws, fun i hi => ?_, fun i hi => ?_⟩
    · by_cases h9 : i = t + 1
      · subst h9; rw [a1, a2, a3, a4]; exact ⟨g2, g3, g4, g5, hqP, cb_lt wz.2.2.2.2.2.1, by omega⟩
      · have hi2 : i ≤ t := by omega
        rw [b1 i hi2, b2 i hi2, b3 i hi2, (g1 i hi2).1, (g1 i hi2).2.1, (g1 i hi2).2.2.1, (g1 i hi2).2.2.2]
        have z := hW2.2.2.2.2.2.2.1 i hi2
        by_cases h8 : i = t
        · subst h8; rw [up_s] at z; rw [b5]; exact z
        · rw [up_n h8] at z; rw [b4 i (by omega)]; exact z
    · by_cases h9 : i = t
      · subst h9; rw [b5]; omega
      · rw [b4 i (by omega)]; exact wk i (by omega)
  have hpc : pre Kt' t = pre Kt t := pre_cong b4
  refine h1 _ _ hrem M' (t + 1) A' Fr' B' Kt' hWn (by rw [g7 _ (by decide), ms_a (by decide)]; exact hb) ?_ ?_ (hM2.tr g8)
  · rw [a1, a2, a3]
    show _ = (pre Kt' t ++ [Kt' t - 1], _)
    rw [hpc, b5]; rfl
  · rw [e0, e0, a1, a2, a3, a4, b1 t (Nat.le_refl _), b2 t (Nat.le_refl _), b3 t (Nat.le_refl _), b5, hpc, hm1, rem_cong (A := A) (Fr := Fr) (B := B) (Kt := Kt) (n := t) (fun i hi => ⟨b1 i (by omega), b2 i (by omega), b3 i (by omega), b4 i hi⟩)]
    rw [List.map_append, List.map_map, List.append_assoc]
    congr 1
    apply List.map_congr_left
    intro x _
    show (pre Kt' t ++ [Kt' t - 1] ++ x.1, x.2) = (pre Kt t ++ j :: x.1, x.2)
    rw [hpc, b5]
    simp
theorem s_next {K : Int32 → AMm → Prop} (hF : FI M R C er bg sp) (hw : WF R C er bg sp) {m s t : Nat} {A Fr B Kt : Nat → Nat} (hW : WI M R C m s t A Fr B Kt) (hb : M 8 3 = nI 1)
    (h0 : rem R C (br er sp) m s A Fr B Kt (t + 1) = [] → ∀ M', F8 M M' → K (nI 0) M')
    (h1 : ∀ x l, rem R C (br er sp) m s A Fr B Kt (t + 1) = x :: l → ∀ M' t' A' Fr' B' Kt', WI M' R C m s t' A' Fr' B' Kt' → M' 8 3 = nI 1 → x = (pre Kt' t', Fr' t', A' t', B' t') → rem R C (br er sp) m s A' Fr' B' Kt' (t' + 1) = l → F8 M M' → K (nI 1) M') : CI (d + 3) 31 [.ref 8] (DB (some 2) i0 i1 ext) M (DB (some 2) i0 i1 ext) K := by
  have hl := hw.1.le
  have loop : ∀ (t n : Nat) (M1 : AMm), n + t ≤ 15 → WI M1 R C m s t A Fr B Kt → M1 8 3 = nI 1 → F8 M M1 → (rem R C (br er sp) m s A Fr B Kt (t + 1) = [] → ∀ M', F8 M M' → K (nI 0) M') → (∀ x l, rem R C (br er sp) m s A Fr B Kt (t + 1) = x :: l → ∀ M' t' A' Fr' B' Kt', WI M' R C m s t' A' Fr' B' Kt' → M' 8 3 = nI 1 → x = (pre Kt' t', Fr' t', A' t', B' t') → rem R C (br er sp) m s A' Fr' B' Kt' (t' + 1) = l → F8 M M' → K (nI 1) M') → T (d + 3) (fun r => ∃ v M', r = (some (.int v), DB (some 2) i0 i1 ext, M') ∧ K v M') (31, 15, [some (.ref 8), some (.int (nI n)), none], [], (DB (some 2) i0 i1 ext), M1) := by
    intro t
    induction t with
    | zero =>
      intro n M1 hn hW hb hM h0 h1
      have hW0 := hW
      obtain ⟨w1, w2, w4, wt, wm, ws, wa, wk⟩ := hW
      have wz := wa 0 (Nat.le_refl _)
      have stop : ET R C (br er sp) (m - 0) (Fr 0) (A 0) (s + 0) (B 0) (Kt 0) = [] → ∃ v M', (some (.int (nI 0)), DB (some 2) i0 i1 ext, M1) = (some (Value.int v), DB (some 2) i0 i1 ext, M') ∧ K v M' := by
        intro he
        refine ⟨_, _, rfl, h0 ?_ M1 hM⟩
        unfold rem
        rw [he]; rfl
      have e0 : (M1 8 4) = 0 := by rw [w4]; rfl
      refine b_X3_next_15 _ ⟨fun h => ?_, fun _ => ⟨fun h => ⟨fun _ => ?_, fun h2 => absurd e0 h2⟩, fun h => ?_⟩⟩
      · rw [n_le (by decide) (by omega)] at h; omega
      · rw [w2, w4, n_le (by omega) (by omega)] at h
        exact stop (ET_none (Or.inl (by omega)))
      · rw [w2, w4, n_le (by omega) (by omega)] at h
        rw [w4, n_cl (by omega), wz.1, wz.2.1, wz.2.2.2.1]
        have i2 : vp_in (nI 0) 16 := n_in (by omega) (by decide)
        refine ⟨i2, i2, i2, s_step (hF.f8 hM) hw.1 wz.2.2.2.2.1 wz.2.2.2.2.2.1 wz.2.2.2.2.2.2 ?_⟩
        cases hf : f4 (gn R C (Fr 0) (A 0)) (Kt 0) with
        | none => exact ⟨fun _ => ⟨fun _ => stop (ET_none (Or.inr hf)), fun h2 => absurd e0 h2⟩, fun h2 => absurd rfl h2⟩
        | some j =>
          have hj4 := (f4_lt hf).1
          refine ⟨fun h2 => ?_, fun _ => ?_⟩
          · exfalso
            have h2 : nI j = -(nI 6) := h2
            have := nI_pos (n := j) (by omega)
            rw [h2] at this
            exact this (neg_lt (by decide) (by decide))
          · rw [w4, n_cl (by omega), wz.1]
            show vp_in (nI 0) 16 ∧ vp_in (nI 0) 16 ∧ CI (d + 2) 13 [.ref 2, .int (nI (A 0)), .int (nI j)] _ (ms M1 12 0 (nI j + nI 1)) _ _
            rw [nI_add]
            exact s_down hF hw hW0 hb hM (by omega) hf h1
    | succ t ih =>
      intro n M1 hn hW hb hM h0 h1
      have hW0 := hW
      obtain ⟨w1, w2, w4, wt, wm, ws, wa, wk⟩ := hW
      have wz := wa (t + 1) (Nat.le_refl _)
      have pop : ET R C (br er sp) (m - (t + 1)) (Fr (t + 1)) (A (t + 1)) (s + (t + 1)) (B (t + 1)) (Kt (t + 1)) = [] → T (d + 3) (fun r => ∃ v M', r = (some (.int v), DB (some 2) i0 i1 ext, M') ∧ K v M') (31, 15, [some (.ref 8), some (.int (nI n + nI 1)), none], [], (DB (some 2) i0 i1 ext), ms M1 8 4 (nI (t + 1) - nI 1)) := by
        intro he
        rw [nI_add, pk_sub (by omega), Nat.add_sub_cancel]
        have hr : rem R C (br er sp) m s A Fr B Kt (t + 1 + 1) = rem R C (br er sp) m s A Fr B Kt (t + 1) := by
          conv => lhs; unfold rem
          rw [he]; rfl
        rw [hr] at h0 h1
        refine ih (n + 1) _ (by omega) ⟨by rw [ms_b (by decide)]; exact w1, by rw [ms_b (by decide)]; exact w2, ms_s _ _ _ _, by omega, wm, ws, fun i hi => ?_, fun i hi => wk i (by omega)⟩ (by rw [ms_b (by decide)]; exact hb) (hM.ms (by decide) (by decide)) h0 h1
        rw [ms_a (by decide), ms_a (by decide), ms_a (by decide), ms_a (by decide)]
        exact wa i (by omega)
      have e0 : ¬ (M1 8 4) = 0 := by rw [w4, n_e0 (by omega)]; omega
      refine b_X3_next_15 _ ⟨fun h => ?_, fun _ => ⟨fun h => ⟨fun h2 => absurd h2 e0, fun _ => ?_⟩, fun h => ?_⟩⟩
      · rw [n_le (by decide) (by omega)] at h; omega
      · rw [w2, w4, n_le (by omega) (by omega)] at h
        rw [w4]
        exact pop (ET_none (Or.inl (by omega)))
      · rw [w2, w4, n_le (by omega) (by omega)] at h
        rw [w4, n_cl (by omega), wz.1, wz.2.1, wz.2.2.2.1]
        have i2 : vp_in (nI (t + 1)) 16 := n_in (by omega) (by decide)
        refine ⟨i2, i2, i2, s_step (hF.f8 hM) hw.1 wz.2.2.2.2.1 wz.2.2.2.2.2.1 wz.2.2.2.2.2.2 ?_⟩
        cases hf : f4 (gn R C (Fr (t + 1)) (A (t + 1))) (Kt (t + 1)) with
        | none => exact ⟨fun _ => ⟨fun h2 => absurd h2 e0, fun _ => by rw [w4]; exact pop (ET_none (Or.inr hf))⟩, fun h2 => absurd rfl h2⟩
        | some j =>
          have hj4 := (f4_lt hf).1
          refine ⟨fun h2 => ?_, fun _ => ?_⟩
          · exfalso
            have h2 : nI j = -(nI 6) := h2
            have := nI_pos (n := j) (by omega)
            rw [h2] at this
            exact this (neg_lt (by decide) (by decide))
          · rw [w4, n_cl (by omega), wz.1]
            show vp_in (nI (t + 1)) 16 ∧ vp_in (nI (t + 1)) 16 ∧ CI (d + 2) 13 [.ref 2, .int (nI (A (t + 1))), .int (nI j)] _ (ms M1 12 (t + 1) (nI j + nI 1)) _ _
            rw [nI_add]
            exact s_down hF hw hW0 hb hM (by omega) hf h1
  refine b_X3_next_0 ⟨fun h => ?_, fun _ => ?_⟩
  · rw [hb] at h; exact absurd h (by decide)
  · have := hW.2.2.2.1
    have := hW.2.2.2.2.1
    exact loop t 0 M (by omega) hW hb F8.rf h0 h1
end C7
