-- MATHS: how many ways there are, how long one can be
section H1
variable {R C : Nat} {g : Nat → Nat → Nat}
/-- how many ways on -/
def cn (R C : Nat) : Nat → Nat → Nat → Nat
  | 0, _, _ => 1
  | n + 1, F, p => 1 + ((match nf R C F p 0 with
      | some q => cn R C n (cb F q) q
      | none => 0) + ((match nf R C F p 1 with
      | some q => cn R C n (cb F q) q
      | none => 0) + ((match nf R C F p 2 with
      | some q => cn R C n (cb F q) q
      | none => 0) + (match nf R C F p 3 with
      | some q => cn R C n (cb F q) q
      | none => 0))))
theorem EE_cn (n : Nat) : ∀ F p t b, (EE R C g n F p t b).length = cn R C n F p := by
  induction n with
  | zero => intro F p t b; rfl
  | succ n ih =>
    intro F p t b
    have hk : ∀ k, (wk R C g (EE R C g n) F p t b k).length = (match nf R C F p k with
      | some q => cn R C n (cb F q) q
      | none => 0) := by
      intro k
      unfold wk
      cases nf R C F p k with
      | none => rfl
      | some q => dsimp only; rw [List.length_map, ih]
    show (([], F, p, b) :: wf R C g (EE R C g n) F p t b 0).length = _
    rw [List.length_cons]
    unfold wf
    simp only [Nat.zero_le, if_true, List.length_append]
    rw [hk, hk, hk, hk, Nat.add_comm]
    rfl
theorem cn_mono (n : Nat) : ∀ F F' p, (∀ i, F.testBit i = true → F'.testBit i = true) → cn R C n F p ≤ cn R C n F' p := by
  induction n with
  | zero => intro F F' p h; exact Nat.le_refl _
  | succ n ih =>
    intro F F' p h
    have hk : ∀ k, (match nf R C F p k with
      | some q => cn R C n (cb F q) q
      | none => 0) ≤ (match nf R C F' p k with
      | some q => cn R C n (cb F' q) q
      | none => 0) := by
      intro k
      cases hq : nf R C F p k with
      | none => exact Nat.zero_le _
      | some q =>
        obtain ⟨a, b⟩ := nf_some.mp hq
        rw [nf_some.mpr ⟨a, h q b⟩]
        exact ih _ _ _ (fun i hi => by
          rw [cb_t, Bool.and_eq_true] at hi ⊢
          exact ⟨h i hi.1, hi.2⟩)
    exact Nat.add_le_add_left (Nat.add_le_add (hk 0) (Nat.add_le_add (hk 1) (Nat.add_le_add (hk 2) (hk 3)))) 1
theorem cn_fuel (n : Nat) : ∀ F p, cn R C n F p ≤ cn R C (n + 1) F p := by
  induction n with
  | zero => intro F p; exact Nat.le_add_right _ _
  | succ n ih =>
    intro F p
    have hk : ∀ k, (match nf R C F p k with
      | some q => cn R C n (cb F q) q
      | none => 0) ≤ (match nf R C F p k with
      | some q => cn R C (n + 1) (cb F q) q
      | none => 0) := by
      intro k
      cases nf R C F p k with
      | none => exact Nat.zero_le _
      | some q => exact ih _ _
    exact Nat.add_le_add_left (Nat.add_le_add (hk 0) (Nat.add_le_add (hk 1) (Nat.add_le_add (hk 2) (hk 3)))) 1
theorem cn_le {n m F p : Nat} (h : n ≤ m) : cn R C n F p ≤ cn R C m F p := by
  induction h with
  | refl => exact Nat.le_refl _
  | step _ ih => exact Nat.le_trans ih (cn_fuel _ _ _)
end H1
set_option maxRecDepth 100000 in
theorem cn_44 : rng 16 (fun p => Nat.blt (cn 4 4 15 (cb 65535 p) p) 1000000) = true := by decide +kernel
set_option maxRecDepth 100000 in
theorem cn_rest : rng 6 (fun R => rng 6 (fun C => R == 0 || (C == 0 || (decide (16 < R * C) || ((R == 4 && C == 4) || rng (R * C) (fun p => Nat.blt (cn R C 15 (cb (2 ^ (R * C) - 1) p) p) 1000000)))))) = true := by decide +kernel
