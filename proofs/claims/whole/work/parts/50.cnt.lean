-- MATHS: ways counted from stand to stand
section Q1
variable {R C : Nat}
/-- a stand is behind: its cut is less, or the same and its place is less -/
def prd (A c p : Nat) (x : Sd) : Bool := decide (mi A x.1 < c ∨ (mi A x.1 = c ∧ x.2 < p))
/-- how many ways come to a stand -/
def nn (R C A f pl c p : Nat) : Nat := (WW R C (pc c - pc f) [(mi A f, pl)]).countP (fun x => decide (x = (mi A c, p)))
/-- how many come to a stand from those that are behind (c', p') -/
def vv (R C A f pl c' p' c z : Nat) : Nat := if c = f then (if z = pl then 1 else 0) else (WW R C (pc c - pc f - 1) [(mi A f, pl)]).countP (fun x => prd A c' p' x && decide ((mi A c, z) ∈ su R C x))
theorem mi_inj {A c c' : Nat} (h : Sub c A) (h' : Sub c' A) (e : mi A c = mi A c') : c = c' := by rw [← mi_mi h, e, mi_mi h']
theorem mi_sub (A F : Nat) : Sub (mi A F) A := fun i hi => by rw [mi_t, Bool.and_eq_true] at hi; exact hi.1
/-- what a step does to what is cut -/
theorem su_cut (hd : Dm R C) {A c z : Nat} {x : Sd} (hx : x.2 < R * C) (hs : Sub x.1 A) (hc : Sub c A) (h : (mi A c, z) ∈ su R C x) : c = sb (mi A x.1) z ∧ (mi A x.1).testBit z = false ∧ z < R * C ∧ A.testBit z = true := by
  obtain ⟨k, hk, h1, h2⟩ := su_mem.mp h
  have h2 : mi A c = cb x.1 z := h2
  obtain ⟨a, b⟩ := nf_some.mp h1
  refine ⟨?_, by rw [mi_t, b]; simp, (nb_ok hd hx hk a).1, hs z b⟩
  apply mi_inj hc (Sub_sb (mi_sub A x.1) (hs z b))
  rw [h2, ← mi_sb, mi_mi hs]
theorem su_nodup (hd : Dm R C) {s z : Sd} (hx : s.2 < R * C) : (su R C s).countP (fun y => decide (y = z)) = if z ∈ su R C s then 1 else 0 := by
  have hone : ∀ k, ((nf R C s.1 s.2 k).toList.map (fun q => (cb s.1 q, q))).countP (fun y => decide (y = z)) = if nf R C s.1 s.2 k = some z.2 ∧ z.1 = cb s.1 z.2 then 1 else 0 := by
    intro k
    cases hq : nf R C s.1 s.2 k with
    | none => simp
    | some q =>
      show List.countP (fun y => decide (y = z)) [(cb s.1 q, q)] = _
      rw [List.countP_singleton]
      by_cases e : (cb s.1 q, q) = z
      · subst e; simp
      · rw [if_neg (by simpa using e), if_neg]
        rintro ⟨e1, e2⟩
        apply e
        have e1 := Option.some.inj e1
        rw [e1, ← e2]
  have hsum : (su R C s).countP (fun y => decide (y = z)) = (if nf R C s.1 s.2 0 = some z.2 ∧ z.1 = cb s.1 z.2 then 1 else 0) + ((if nf R C s.1 s.2 1 = some z.2 ∧ z.1 = cb s.1 z.2 then 1 else 0) + ((if nf R C s.1 s.2 2 = some z.2 ∧ z.1 = cb s.1 z.2 then 1 else 0) + (if nf R C s.1 s.2 3 = some z.2 ∧ z.1 = cb s.1 z.2 then 1 else 0))) := by
    unfold su
    rw [nl_4, List.map_append, List.map_append, List.map_append, List.map_append, List.countP_append, List.countP_append, List.countP_append, List.countP_append, hone, hone, hone, hone]
    simp
  have inj : ∀ j k, j < 4 → k < 4 → nf R C s.1 s.2 j = some z.2 → nf R C s.1 s.2 k = some z.2 → j = k := fun j k hj hk h1 h2 => nb_inj hd hx hj hk (nf_some.mp h1).1 (nf_some.mp h2).1
  rw [hsum]
  by_cases hm : z ∈ su R C s
  · rw [if_pos hm]
    obtain ⟨k, hk, h1, h2⟩ := su_mem.mp hm
    have no : ∀ j, j < 4 → j ≠ k → ¬ (nf R C s.1 s.2 j = some z.2 ∧ z.1 = cb s.1 z.2) := fun j hj hjk q => hjk (inj j k hj hk q.1 h1)
    rcases (show k = 0 ∨ k = 1 ∨ k = 2 ∨ k = 3 by omega) with rfl | rfl | rfl | rfl
    · rw [if_pos ⟨h1, h2⟩, if_neg (no 1 (by decide) (by decide)), if_neg (no 2 (by decide) (by decide)), if_neg (no 3 (by decide) (by decide))]
    · rw [if_neg (no 0 (by decide) (by decide)), if_pos ⟨h1, h2⟩, if_neg (no 2 (by decide) (by decide)), if_neg (no 3 (by decide) (by decide))]
    · rw [if_neg (no 0 (by decide) (by decide)), if_neg (no 1 (by decide) (by decide)), if_pos ⟨h1, h2⟩, if_neg (no 3 (by decide) (by decide))]
    · rw [if_neg (no 0 (by decide) (by decide)), if_neg (no 1 (by decide) (by decide)), if_neg (no 2 (by decide) (by decide)), if_pos ⟨h1, h2⟩]
  · rw [if_neg hm]
    have no : ∀ j, j < 4 → ¬ (nf R C s.1 s.2 j = some z.2 ∧ z.1 = cb s.1 z.2) := fun j hj q => hm (su_mem.mpr ⟨j, hj, q⟩)
    rw [if_neg (no 0 (by decide)), if_neg (no 1 (by decide)), if_neg (no 2 (by decide)), if_neg (no 3 (by decide))]
theorem ct_flat (hd : Dm R C) {z : Sd} : ∀ (l : List Sd), (∀ x ∈ l, x.2 < R * C) → (l.flatMap (su R C)).countP (fun y => decide (y = z)) = l.countP (fun x => decide (z ∈ su R C x))
  | [], _ => rfl
  | x :: l, h => by
    rw [List.flatMap_cons, List.countP_append, ct_flat hd l (fun y hy => h y (List.mem_cons_of_mem _ hy)), su_nodup hd (h x List.mem_cons_self), List.countP_cons]
    by_cases e : z ∈ su R C x
    · rw [if_pos e]; simp [e]; omega
    · rw [if_neg e]; simp [e]
/-- countP of two that exclude each other -/
theorem ct_or {l : List Sd} {p q r : Sd → Bool} (h : ∀ x ∈ l, (r x = true ↔ p x = true ∨ q x = true) ∧ ¬ (p x = true ∧ q x = true)) : l.countP r = l.countP p + l.countP q := by
  induction l with
  | nil => rfl
  | cons x l ih =>
    have ih := ih (fun y hy => h y (List.mem_cons_of_mem _ hy))
    obtain ⟨h1, h2⟩ := h x List.mem_cons_self
    rw [List.countP_cons, List.countP_cons, List.countP_cons, ih]
    cases hp : p x <;> cases hq : q x <;> cases hr : r x <;> simp_all <;> omega
section
variable {A f pl : Nat} (hd : Dm R C) (hA : A < 65536) (hf : Sub f A) (hpl : pl < R * C) (hfp : f.testBit pl = true)
theorem w_inv (hd : Dm R C) (hA : A < 65536) (hf : Sub f A) (hpl : pl < R * C) (hfp : f.testBit pl = true) {m : Nat} {x : Sd} (hx : x ∈ WW R C m [(mi A f, pl)]) : x.2 < R * C ∧ Sub x.1 A ∧ pc (mi A x.1) = pc f + m ∧ f ≤ mi A x.1 ∧ Sub f (mi A x.1) := by
  obtain ⟨a1, a2, a3, a4, a5, a6⟩ := WW_inv hd (mi_lt hA) hpl (by rw [mi_t, hfp]; simp) m x hx
  have hs : Sub x.1 A := fun i hi => mi_sub A f i (a1 i hi)
  have h1 := pc_mi hs
  have h2 := pc_mi hf
  have hsf : Sub f (mi A x.1) := fun i hi => by
    rw [mi_t, hf i hi]
    cases hq : x.1.testBit i with
    | false => rfl
    | true =>
      have := a1 i hq
      rw [mi_t, hi] at this
      simp at this
  exact ⟨a2, hs, by omega, Sub_le hsf, hsf⟩
theorem w_len (hd : Dm R C) (hA : ∀ i, A.testBit i = true → i < R * C) (hpl : pl < R * C) (hfp : f.testBit pl = true) {m : Nat} (hm : m ≤ 15) : (WW R C m [(mi A f, pl)]).length < 1000000 := by
  rw [← go_W (g := fun _ _ => 0) (n := m) (t := 0) (b := 0) (Nat.le_refl _)]
  refine Nat.lt_of_le_of_lt List.countP_le_length (EE_len hd hm hpl (fun i hi => hA i (mi_sub A f i hi)) (by rw [mi_t, hfp]; simp))
/-- nothing is behind the first stand -/
theorem vv_0 (hd : Dm R C) (hA : A < 65536) (hf : Sub f A) (hpl : pl < R * C) (hfp : f.testBit pl = true) (c z : Nat) : vv R C A f pl f 0 c z = if c = f then (if z = pl then 1 else 0) else 0 := by
  unfold vv
  by_cases e : c = f
  · rw [if_pos e, if_pos e]
  · rw [if_neg e, if_neg e, List.countP_eq_zero]
    intro x hx
    have := (w_inv hd hA hf hpl hfp hx).2.2.2.1
    unfold prd
    rw [decide_eq_false (by omega)]
    simp
theorem prd_next {c x1 x2 : Nat} (hx : x2 < R * C) : prd A c (R * C) (x1, x2) = prd A (c + 1) 0 (x1, x2) := by
  unfold prd
  congr 1
  dsimp only
  apply propext
  omega
theorem vv_next (hd : Dm R C) (hA : A < 65536) (hf : Sub f A) (hpl : pl < R * C) (hfp : f.testBit pl = true) (c' c z : Nat) : vv R C A f pl c' (R * C) c z = vv R C A f pl (c' + 1) 0 c z := by
  unfold vv
  split
  · rfl
  · refine List.countP_congr (fun x hx => ?_)
    have := prd_next (A := A) (c := c') (x1 := x.1) (w_inv hd hA hf hpl hfp hx).1
    rw [show prd A c' (R * C) x = prd A (c' + 1) 0 x from this]
theorem vv_skip {c' p' : Nat} (hs : ¬ Sub c' A) (c z : Nat) : vv R C A f pl c' p' c z = vv R C A f pl (c' + 1) 0 c z := by
  unfold vv
  split
  · rfl
  · refine List.countP_congr (fun x hx => ?_)
    have e : prd A c' p' x = prd A (c' + 1) 0 x := by
      unfold prd
      congr 1
      apply propext
      have : mi A x.1 ≠ c' := fun q => hs (q ▸ mi_sub A x.1)
      omega
    rw [e]
/-- what is read at a stand is all that comes to it -/
theorem vv_read (hd : Dm R C) (hA : A < 65536) (hf : Sub f A) (hpl : pl < R * C) (hfp : f.testBit pl = true) {c p : Nat} (hc : Sub c A) (hfc : f ≤ c) : vv R C A f pl c p c p = nn R C A f pl c p := by
  have hcl := Nat.lt_of_le_of_lt (Sub_le hc) hA
  unfold vv nn
  by_cases e : c = f
  · subst e
    rw [if_pos rfl, Nat.sub_self]
    show _ = List.countP _ [(mi A c, pl)]
    rw [List.countP_singleton]
    by_cases e2 : p = pl
    · subst e2; simp
    · rw [if_neg e2, if_neg]
      simp only [decide_eq_true_eq, Prod.mk.injEq, not_and]
      exact fun _ q => e2 q.symm
  · rw [if_neg e]
    rcases Nat.lt_or_ge (pc f) (pc c) with hlt | hge
    · obtain ⟨m, hm⟩ : ∃ m, pc c - pc f = m + 1 := ⟨pc c - pc f - 1, by omega⟩
      rw [hm, Nat.add_sub_cancel, WW_last, ct_flat hd _ (fun x hx => (w_inv hd hA hf hpl hfp hx).1)]
      refine List.countP_congr (fun x hx => ?_)
      obtain ⟨w1, w2, w3, w4, w5⟩ := w_inv hd hA hf hpl hfp hx
      rw [Bool.and_eq_true]
      refine ⟨fun h => h.2, fun h => ⟨?_, h⟩⟩
      obtain ⟨h1, h2, h3, h4⟩ := su_cut hd w1 w2 hc (of_decide_eq_true h)
      have := sb_gt h2
      unfold prd
      exact decide_eq_true (Or.inl (by rw [h1]; exact this))
    · rw [show pc c - pc f = 0 by omega]
      show List.countP _ [(mi A f, pl)] = List.countP _ [(mi A f, pl)]
      rw [List.countP_singleton, List.countP_singleton, if_neg, if_neg]
      · simp only [decide_eq_true_eq, Prod.mk.injEq, not_and]
        exact fun q => absurd (mi_inj hf hc q).symm e
      · rw [Bool.and_eq_true]
        rintro ⟨-, h⟩
        have hx : (mi A f, pl) ∈ WW R C 0 [(mi A f, pl)] := List.mem_singleton.mpr rfl
        obtain ⟨h1, h2, h3, h4⟩ := su_cut hd (x := (mi A f, pl)) hpl (mi_sub A f) hc (of_decide_eq_true h)
        have h2 : (mi A (mi A f)).testBit p = false := h2
        have h1 : c = sb (mi A (mi A f)) p := h1
        rw [mi_mi hf] at h1 h2
        have := pc_sb (by have := hd.le; omega) h2
        rw [← h1] at this
        omega
/-- a stand is done with -/
theorem vv_step (hd : Dm R C) (hA : A < 65536) (hf : Sub f A) (hpl : pl < R * C) (hfp : f.testBit pl = true) {c' p' c z : Nat} (hc' : Sub c' A) (hfc : f ≤ c') (hp' : p' < R * C) (hc : Sub c A) : vv R C A f pl c' (p' + 1) c z = vv R C A f pl c' p' c z + (if (mi A c, z) ∈ su R C (mi A c', p') then nn R C A f pl c' p' else 0) := by
  have key : (mi A c, z) ∈ su R C (mi A c', p') → c = sb c' z ∧ c'.testBit z = false ∧ z < R * C := by
    intro h
    obtain ⟨h1, h2, h3, h4⟩ := su_cut hd (x := (mi A c', p')) hp' (mi_sub A c') hc h
    have h1 : c = sb (mi A (mi A c')) z := h1
    have h2 : (mi A (mi A c')).testBit z = false := h2
    rw [mi_mi hc'] at h1 h2
    exact ⟨h1, h2, h3⟩
  unfold vv
  by_cases e : c = f
  · have hn : ¬ (mi A c, z) ∈ su R C (mi A c', p') := by
      intro h
      obtain ⟨h1, h2, h3⟩ := key h
      have := sb_gt h2
      omega
    rw [if_pos e, if_pos e, if_neg hn, Nat.add_zero]
  · rw [if_neg e, if_neg e]
    have hsplit : ∀ l : List Sd, (∀ x ∈ l, x ∈ WW R C (pc c - pc f - 1) [(mi A f, pl)]) → l.countP (fun x => prd A c' (p' + 1) x && decide ((mi A c, z) ∈ su R C x)) = l.countP (fun x => prd A c' p' x && decide ((mi A c, z) ∈ su R C x)) + l.countP (fun x => decide (x = (mi A c', p')) && decide ((mi A c, z) ∈ su R C x)) := by
      intro l hl
      refine ct_or (fun x hx => ?_)
      obtain ⟨w1, w2, w3, w4, w5⟩ := w_inv hd hA hf hpl hfp (hl x hx)
      have ex : x = (mi A c', p') ↔ mi A x.1 = c' ∧ x.2 = p' := by
        constructor
        · intro q; rw [q]; exact ⟨mi_mi hc', rfl⟩
        · rintro ⟨q1, q2⟩
          have : x.1 = mi A c' := by rw [← q1, mi_mi w2]
          rw [← this, ← q2]
      simp only [Bool.and_eq_true, decide_eq_true_eq, prd, ex]
      constructor
      · constructor
        · rintro ⟨q1, q2⟩
          by_cases q3 : mi A x.1 < c' ∨ mi A x.1 = c' ∧ x.2 < p'
          · exact Or.inl ⟨q3, q2⟩
          · exact Or.inr ⟨by omega, q2⟩
        · rintro (⟨q1, q2⟩ | ⟨q1, q2⟩)
          · exact ⟨by omega, q2⟩
          · exact ⟨by omega, q2⟩
      · rintro ⟨⟨q1, -⟩, q2, -⟩
        omega
    rw [hsplit _ (fun _ h => h)]
    congr 1
    by_cases hm : (mi A c, z) ∈ su R C (mi A c', p')
    · rw [if_pos hm]
      obtain ⟨h1, h2, h3⟩ := key hm
      have hpc := pc_sb (by have := hd.le; omega) h2
      rw [← h1] at hpc
      unfold nn
      rw [show pc c - pc f - 1 = pc c' - pc f by omega]
      refine List.countP_congr (fun x _ => ?_)
      simp only [Bool.and_eq_true, decide_eq_true_eq]
      exact ⟨fun q => q.1, fun q => ⟨q, by rw [q]; exact hm⟩⟩
    · rw [if_neg hm, List.countP_eq_zero]
      intro x _
      simp only [Bool.and_eq_true, decide_eq_true_eq]
      rintro ⟨q1, q2⟩
      rw [q1] at q2
      exact hm q2
theorem nn_small (hd : Dm R C) (hA : ∀ i, A.testBit i = true → i < R * C) (hpl : pl < R * C) (hfp : f.testBit pl = true) (c p : Nat) : nn R C A f pl c p < 1000000 := by
  have hf1 := pc_pos (by have := hd.le; omega) hfp
  have := pc_le c
  unfold nn
  exact Nat.lt_of_le_of_lt List.countP_le_length (w_len hd hA hpl hfp (by omega))
end
end Q1
