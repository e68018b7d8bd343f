-- THE STATE: what class and model both hold
abbrev Fld : Type := Nat × Nat × (Nat → Int32) × Nat × Nat
def WFl (f : Fld) : Prop := WF f.1 f.2.1 f.2.2.1 f.2.2.2.1 f.2.2.2.2
/-- a field in the cells b + 2 .. b + 5 -/
def FIb (b : Nat) (M : AMm) (f : Fld) : Prop := FI (fun a => M (a + b)) f.1 f.2.1 f.2.2.1 f.2.2.2.1 f.2.2.2.2
def EI (k : Nat) : ADd := [(.inl (1, [none, none, none, none, none, none, some (some (k + 1)), some (some (k + 2)), some (some (k + 3))]) : ADc), (.inr (.inl (0, 16)) : ADc), (.inr (.inl (0, 64)) : ADc), (.inr (.inl (0, 16)) : ADc)]
/-- the images -/
def IM (j0 j1 : Option Fld) (i0 i1 : Option Nat) (ext : ADd) (M : AMm) : Prop :=
  (j0 = none ∧ j1 = none ∧ i0 = none ∧ i1 = none ∧ ext = []) ∨
  (∃ f, j0 = some f ∧ j1 = none ∧ i0 = some 29 ∧ i1 = none ∧ ext = EI 29 ∧ FIb 27 M f ∧ WFl f) ∨
  (∃ f, j0 = none ∧ j1 = some f ∧ i0 = none ∧ i1 = some 29 ∧ ext = EI 29 ∧ FIb 27 M f ∧ WFl f) ∨
  (∃ f g, j0 = some f ∧ j1 = some g ∧ i0 = some 29 ∧ i1 = some 33 ∧ ext = EI 29 ++ EI 33 ∧ FIb 27 M f ∧ FIb 31 M g ∧ WFl f ∧ WFl g) ∨
  (∃ f g, j0 = some f ∧ j1 = some g ∧ i0 = some 33 ∧ i1 = some 29 ∧ ext = EI 29 ++ EI 33 ∧ FIb 31 M f ∧ FIb 27 M g ∧ WFl f ∧ WFl g)
theorem FIb.of {b : Nat} {M M' : AMm} {f : Fld} (h : FIb b M f) (hm : ∀ a, b + 2 ≤ a → a ≤ b + 5 → M' a = M a) : FIb b M' f := FI.of (M := fun a => M (a + b)) (M' := fun a => M' (a + b)) h (hm _ (by omega) (by omega)) (hm _ (by omega) (by omega)) (hm _ (by omega) (by omega)) (hm _ (by omega) (by omega))
theorem IM.of {j0 j1 : Option Fld} {i0 i1 : Option Nat} {ext : ADd} {M M' : AMm} (h : IM j0 j1 i0 i1 ext M) (hm : ∀ a, 29 ≤ a → a ≤ 36 → M' a = M a) : IM j0 j1 i0 i1 ext M' := by
  rcases h with h | ⟨f, a1, a2, a3, a4, a5, a6, a7⟩ | ⟨f, a1, a2, a3, a4, a5, a6, a7⟩ | ⟨f, g, a1, a2, a3, a4, a5, a6, a7, a8, a9⟩ | ⟨f, g, a1, a2, a3, a4, a5, a6, a7, a8, a9⟩
  · exact Or.inl h
  · exact Or.inr (Or.inl ⟨f, a1, a2, a3, a4, a5, a6.of (fun a z1 z2 => hm a (by omega) (by omega)), a7⟩)
  · exact Or.inr (Or.inr (Or.inl ⟨f, a1, a2, a3, a4, a5, a6.of (fun a z1 z2 => hm a (by omega) (by omega)), a7⟩))
  · exact Or.inr (Or.inr (Or.inr (Or.inl ⟨f, g, a1, a2, a3, a4, a5, a6.of (fun a z1 z2 => hm a (by omega) (by omega)), a7.of (fun a z1 z2 => hm a (by omega) (by omega)), a8, a9⟩)))
  · exact Or.inr (Or.inr (Or.inr (Or.inr ⟨f, g, a1, a2, a3, a4, a5, a6.of (fun a z1 z2 => hm a (by omega) (by omega)), a7.of (fun a z1 z2 => hm a (by omega) (by omega)), a8, a9⟩)))
/-- what is free at the beginning -/
def Fo0 (R C : Nat) (er : Nat → Int32) (bg : Nat) : Nat := cb (opn er (R * C)) bg
/-- what the class has found out -/
def CK (o : Option Nat) (M : AMm) (R C : Nat) (er : Nat → Int32) (bg sp : Nat) : Prop :=
  (M 0 7 = nI 0 ∨ (M 0 7 = nI 1 ∧ o = some 2 ∧ WKn M R C er bg sp)) ∧
  (M 0 11 = nI 0 ∨ (M 0 11 = nI 1 ∧ o = some 2 ∧ M 0 12 = nI (wr R C (opn er (R * C)) (R * C)).1 ∧ M 0 13 = nI (wr R C (opn er (R * C)) (R * C)).2)) ∧
  (M 0 14 = nI 0 ∨ (M 0 14 = nI 1 ∧ M 0 15 = nI (1 + ct R C 11 bg bg (Fo0 R C er bg)))) ∧
  (M 0 16 = nI 0 ∨ (M 0 16 = nI 1 ∧ (M 0 17).toInt = la R C 11 bg bg (Fo0 R C er bg)))
def CS (R C : Nat) (er : Nat → Int32) (bg sp pn : Nat) (pd : Nat → Int32) (j0 j1 : Option Fld) (o i0 i1 : Option Nat) (ext : ADd) (M : AMm) : Prop :=
  RO M ∧ FI M R C er bg sp ∧ WF R C er bg sp ∧ PI M pn pd ∧ CK o M R C er bg sp ∧ IM j0 j1 i0 i1 ext M
/-- a call on the class -/
def OC (d k : Nat) (as : List Value) (D : ADd) (M : AMm) (K : Int32 → Option Nat → Option Nat → Option Nat → ADd → AMm → Prop) : Prop := T d (fun r => ∃ v o i0 i1 ext M', r = (some (.int v), DB o i0 i1 ext, M') ∧ K v o i0 i1 ext M') (ent k as D M)
/-- what a call on the class leaves -/
def CPo (R C : Nat) (er : Nat → Int32) (bg sp pn : Nat) (pd : Nat → Int32) (j0 j1 : Option Fld) (M0 : AMm) (ans v : Int32) (o i0 i1 : Option Nat) (ext : ADd) (M' : AMm) : Prop := v = ans ∧ CS R C er bg sp pn pd j0 j1 o i0 i1 ext M' ∧ ∀ a, ((20 ≤ a ∧ a ≤ 28) ∨ 36 < a) → M' a = M0 a
theorem WKn.of {R C bg sp : Nat} {er : Nat → Int32} {M M' : AMm} (h : WKn M R C er bg sp) (hm : ∀ a, 15 ≤ a → a ≤ 19 → M' a = M a) : WKn M' R C er bg sp := ⟨h.1.of (hm _ (by omega) (by omega)) (hm _ (by omega) (by omega)), h.2.1.of (hm _ (by omega) (by omega)) (hm _ (by omega) (by omega)), fun p hp => by rw [hm 19 (by omega) (by omega)]; exact h.2.2 p hp⟩
section S1
variable {d : Nat} {o i0 i1 : Option Nat} {ext : ADd} {M : AMm} {R C bg sp pn : Nat} {er pd : Nat → Int32} {j0 j1 : Option Fld}
theorem CK.of {M' : AMm} {o' : Option Nat} (h : CK o M R C er bg sp) (ho : o' = o ∨ o' = some 2) (h0 : ∀ b, M' 0 b = M 0 b) (hm : ∀ a, 15 ≤ a → a ≤ 19 → M' a = M a) : CK o' M' R C er bg sp := by
  obtain ⟨h1, h2, h3, h4⟩ := h
  have e : ∀ {P : Prop}, (o = some 2 ∧ P → o' = some 2) := fun h => by
    rcases ho with z | z
    · rw [z]; exact h.1
    · exact z
  unfold CK
  rw [h0, h0, h0, h0, h0, h0, h0, h0]
  refine ⟨?_, ?_, h3, h4⟩
  · rcases h1 with z | ⟨z, z2, z3⟩
    · exact Or.inl z
    · exact Or.inr ⟨z, e ⟨z2, trivial⟩, z3.of hm⟩
  · rcases h2 with z | ⟨z, z2, z3⟩
    · exact Or.inl z
    · exact Or.inr ⟨z, e ⟨z2, trivial⟩, z3⟩
/-- walks change nothing of the state -/
theorem CS.fr {M' : AMm} {o' : Option Nat} (h : CS R C er bg sp pn pd j0 j1 o i0 i1 ext M) (ho : o' = o ∨ o' = some 2) (hm : ∀ a, (a < 7 ∨ 14 < a) → M' a = M a) : CS R C er bg sp pn pd j0 j1 o' i0 i1 ext M' := by
  obtain ⟨h1, h2, h3, h4, h5, h6⟩ := h
  exact ⟨h1.of (fun a ha => hm a (by omega)), h2.of (hm _ (by omega)) (hm _ (by omega)) (hm _ (by omega)) (hm _ (by omega)), h3, h4.of (by rw [hm 0 (by omega)]) (hm _ (by omega)), h5.of ho (fun b => by rw [hm 0 (by omega)]) (fun a z1 z2 => hm a (by omega)), h6.of (fun a z1 z2 => hm a (by omega))⟩
theorem CPo.same (h : CS R C er bg sp pn pd j0 j1 o i0 i1 ext M) (ans : Int32) : CPo R C er bg sp pn pd j0 j1 M ans ans o i0 i1 ext M := ⟨rfl, h, fun _ _ => rfl⟩
theorem CPo.fr {M' : AMm} {o' : Option Nat} (h : CS R C er bg sp pn pd j0 j1 o i0 i1 ext M) (ho : o' = o ∨ o' = some 2) (hm : ∀ a, (a < 7 ∨ 14 < a) → M' a = M a) (ans : Int32) : CPo R C er bg sp pn pd j0 j1 M ans ans o' i0 i1 ext M' := ⟨rfl, h.fr ho hm, fun a z1 => hm a (by omega)⟩
theorem bgo (hw : WF R C er bg sp) : (opn er (R * C)).testBit bg = true := (opn_t er _ bg).mpr ⟨hw.2.2.1, hw.2.2.2.1⟩
theorem Fo0_lt (hw : WF R C er bg sp) : Fo0 R C er bg < 65536 := cb_lt (opn_lt hw.1.le)
theorem Fo0_in {i : Nat} (h : (Fo0 R C er bg).testBit i = true) : i < R * C := by
  unfold Fo0 at h
  rw [cb_t, Bool.and_eq_true] at h
  exact ((opn_t er _ i).mp h.1).1
theorem Fo0_bg : (Fo0 R C er bg).testBit bg = false := by unfold Fo0; rw [cb_t]; simp
theorem Fo0_pc (hw : WF R C er bg sp) : pc (Fo0 R C er bg) + 1 = pc (opn er (R * C)) := pc_cb (by have := hw.1.le; have := hw.2.2.1; omega) (bgo hw)
theorem LL_len (hw : WF R C er bg sp) : (LL R C er bg sp).length < 1000000 := EE_len (g := br er sp) hw.1 (by decide) hw.2.2.1 (fun i hi => Fo0_in (er := er) (bg := bg) hi) (Fo0_bg (R := R) (C := C) (er := er))
/-- what has been found out is forgotten -/
theorem s_forget {K : AMm → Prop} (h1 : ∀ M', M' 0 7 = nI 0 → M' 0 11 = nI 0 → M' 0 14 = nI 0 → M' 0 16 = nI 0 → (∀ b, b ≠ 7 → b ≠ 11 → b ≠ 14 → b ≠ 16 → M' 0 b = M 0 b) → (∀ a, a ≠ 0 → M' a = M a) → K M') : CV d 66 [.ref 0] (DB o i0 i1 ext) M (DB o i0 i1 ext) K := by
  refine b_X4_forget_0 ⟨_, rfl, h1 _ ?_ ?_ ?_ ?_ (fun b z1 z2 z3 z4 => ?_) (fun a ha => ?_)⟩
  · rw [ms_b (by decide), ms_b (by decide), ms_b (by decide)]; exact ms_s _ _ _ _
  · rw [ms_b (by decide), ms_b (by decide)]; exact ms_s _ _ _ _
  · rw [ms_b (by decide)]; exact ms_s _ _ _ _
  · exact ms_s _ _ _ _
  · rw [ms_b z4, ms_b z3, ms_b z2, ms_b z1]
  · funext b; rw [ms_a ha, ms_a ha, ms_a ha, ms_a ha]
theorem CK.no {M' : AMm} (e1 : M' 0 7 = nI 0) (e2 : M' 0 11 = nI 0) (e3 : M' 0 14 = nI 0) (e4 : M' 0 16 = nI 0) : CK o M' R C er bg sp := ⟨Or.inl e1, Or.inl e2, Or.inl e3, Or.inl e4⟩
def inP (R C : Nat) (x : Int32) : Prop := ¬ (x < 0 ∨ nI (R * C) ≤ x)
theorem inP_of {x : Int32} (hd : Dm R C) (h : inP R C x) : ∃ p, p < R * C ∧ x = nI p := by
  have hl := hd.le
  rcases pk_ix x (n := R * C) (by omega) with z | z | z
  · exact absurd (Or.inl z) h
  · exact absurd (Or.inr z) h
  · exact z
theorem inP_n (hd : Dm R C) {p : Nat} (hp : p < R * C) : inP R C (nI p) := by
  have hl := hd.le
  rintro (h | h)
  · exact nI_pos (by omega) h
  · rw [n_le (by omega) (by omega)] at h; omega
end S1
