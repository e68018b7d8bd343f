-- MATHS: bounds
section H2
variable {R C : Nat} {g : Nat → Nat → Nat}
theorem cn_full (hd : Dm R C) {p : Nat} (hp : p < R * C) : cn R C 15 (cb (2 ^ (R * C) - 1) p) p < 1000000 := by
  by_cases h4 : R = 4 ∧ C = 4
  · obtain ⟨rfl, rfl⟩ := h4
    have := rng_at cn_44 p hp
    simpa [Nat.blt_eq] using this
  · have h1 := rng_at (rng_at cn_rest R (by have := hd.2.1; omega)) C (by have := hd.2.2.2.1; omega)
    have a1 : (R == 0) = false := by have := hd.1; simp; omega
    have a2 : (C == 0) = false := by have := hd.2.2.1; simp; omega
    have a3 : decide (16 < R * C) = false := by have := hd.2.2.2.2; simp; omega
    have a4 : (R == 4 && C == 4) = false := by
      cases hq : (R == 4 && C == 4) with
      | false => rfl
      | true =>
        exfalso
        simp only [Bool.and_eq_true, beq_iff_eq] at hq
        exact h4 hq
    simp only [a1, a2, a3, a4, Bool.false_or] at h1
    have := rng_at h1 p hp
    simpa [Nat.blt_eq] using this
/-- a set of places: within the field -/
theorem EE_len (hd : Dm R C) {n F p t b : Nat} (hn : n ≤ 15) (hp : p < R * C) (hF : ∀ i, F.testBit i = true → i < R * C) (hpF : F.testBit p = false) : (EE R C g n F p t b).length < 1000000 := by
  rw [EE_cn]
  refine Nat.lt_of_le_of_lt (Nat.le_trans (cn_le hn) (cn_mono 15 F (cb (2 ^ (R * C) - 1) p) p (fun i hi => ?_))) (cn_full hd hp)
  rw [cb_t, Nat.testBit_two_pow_sub_one, Bool.and_eq_true]
  refine ⟨by simpa using hF i hi, ?_⟩
  have : ¬ p = i := fun q => by subst q; rw [hi] at hpF; cases hpF
  simp [this]
/-- of two colours in turn: how long a way can be -/
theorem cc_sub {C c : Nat} : ∀ (n S S' : Nat), (∀ i, i < n → S.testBit i = true → S'.testBit i = true) → cc C S c n ≤ cc C S' c n
  | 0, _, _, _ => Nat.le_refl _
  | n + 1, S, S', h => by
    have ih := cc_sub (C := C) (c := c) n S S' (fun i hi => h i (by omega))
    unfold cc
    by_cases h1 : S.testBit n = true ∧ col C n = c
    · rw [if_pos h1, if_pos ⟨h n (by omega) h1.1, h1.2⟩]; omega
    · rw [if_neg h1]; split <;> omega
theorem cc_cb {C c q : Nat} : ∀ (n S : Nat), q < n → S.testBit q = true → col C q = c → cc C (cb S q) c n + 1 ≤ cc C S c n
  | 0, _, h, _, _ => by omega
  | n + 1, S, h, h1, h2 => by
    by_cases hq : q = n
    · subst hq
      have := cc_sub (C := C) (c := c) q (cb S q) S (fun i _ hi => by rw [cb_t, Bool.and_eq_true] at hi; exact hi.1)
      unfold cc
      rw [if_neg (by rw [cb_t]; simp), if_pos ⟨h1, h2⟩]
      omega
    · have ih := cc_cb (C := C) (c := c) n S (by omega) h1 h2
      unfold cc
      by_cases h3 : S.testBit n = true ∧ col C n = c
      · rw [if_pos h3, if_pos ⟨by rw [cb_t, h3.1]; simp [hq], h3.2⟩]; omega
      · rw [if_neg h3, if_neg (by
          rintro ⟨z1, z2⟩
          rw [cb_t, Bool.and_eq_true] at z1
          exact h3 ⟨z1.1, z2⟩)]
        exact ih
theorem lg_cc (hd : Dm R C) (n : Nat) : ∀ F p t Z, p < R * C → Cls R C F Z → Z.testBit p = true → ((gp R C G1 n F p t).1 + 1) / 2 ≤ cc C (F &&& Z) (1 - col C p) (R * C) ∧ (gp R C G1 n F p t).1 / 2 ≤ cc C (F &&& Z) (col C p) (R * C) := by
  induction n with
  | zero => intro F p t Z _ _ _; exact ⟨by show (0 + 1) / 2 ≤ _; omega, by show 0 / 2 ≤ _; omega⟩
  | succ n ih =>
    intro F p t Z hp hZ hZp
    have st : ∀ k, k ≤ 4 → ((gr R C G1 (gp R C G1 n) F p t k).1 + 1) / 2 ≤ cc C (F &&& Z) (1 - col C p) (R * C) ∧ (gr R C G1 (gp R C G1 n) F p t k).1 / 2 ≤ cc C (F &&& Z) (col C p) (R * C) := by
      intro k
      induction k with
      | zero => intro _; exact ⟨by show (0 + 1) / 2 ≤ _; omega, by show 0 / 2 ≤ _; omega⟩
      | succ k ihk =>
        intro hk
        have ihk := ihk (by omega)
        show ((gq R C G1 (gp R C G1 n) F p t (gr R C G1 (gp R C G1 n) F p t k) k).1 + 1) / 2 ≤ _ ∧ (gq R C G1 (gp R C G1 n) F p t (gr R C G1 (gp R C G1 n) F p t k) k).1 / 2 ≤ _
        cases hq : nf R C F p k with
        | none => rw [gq_n hq]; exact ihk
        | some q =>
          obtain ⟨a, b⟩ := nf_some.mp hq
          obtain ⟨n1, n2, n3, n4, n5⟩ := nb_ok hd hp (by omega) a
          have hZq := hZ p q k hp (by omega) hZp hq
          have i := ih (cb F q) q (t + 1) Z n1 (fun x y j hx hj hs hn => by
            obtain ⟨c1, c2⟩ := nf_some.mp hn
            rw [cb_t, Bool.and_eq_true] at c2
            exact hZ x y j hx hj hs (nf_some.mpr ⟨c1, c2.1⟩)) hZq
          have hc : col C q = 1 - col C p := by have := col_lt C q; have := col_lt C p; omega
          have e1 : cb F q &&& Z = cb (F &&& Z) q := by
            apply Nat.eq_of_testBit_eq
            intro i
            rw [Nat.testBit_and, cb_t, cb_t, Nat.testBit_and]
            cases F.testBit i <;> cases Z.testBit i <;> cases decide (q = i) <;> rfl
          have e2 := cc_cb (C := C) (c := col C q) (q := q) (R * C) (F &&& Z) n1 (by rw [Nat.testBit_and, b, hZq]; rfl) rfl
          have e3 := cc_sub (C := C) (c := 1 - col C q) (R * C) (cb (F &&& Z) q) (F &&& Z) (fun i _ hi => by rw [cb_t, Bool.and_eq_true] at hi; exact hi.1)
          rw [e1] at i
          rw [gq_y hq]
          split
          · rw [← hc]
            have hc2 : col C p = 1 - col C q := by have := col_lt C p; omega
            rw [hc2]
            have eG : ∀ a b s, G1 a b s = s + 1 := fun _ _ _ => rfl
            simp only [eG]
            omega
          · exact ihk
    rw [gp_r]
    exact st 4 (Nat.le_refl _)
theorem lg_bnd (hd : Dm R C) {op p n t : Nat} (hp : p < R * C) (ho : op.testBit p = true) : (gp R C G1 n (cb op p) p t).1 + 1 ≤ bnd R C op p := by
  have hl := hd.le
  obtain ⟨r1, r2, r3, -⟩ := rch_ok hd (F := op) (p := p) (by omega)
  have h := lg_cc hd n (cb op p) p t (rch R C op p) hp (fun x y j hx hj hs hn => by
    obtain ⟨c1, c2⟩ := nf_some.mp hn
    rw [cb_t, Bool.and_eq_true] at c2
    exact r3 x y j hx hj hs (nf_some.mpr ⟨c1, c2.1⟩)) r2
  have e1 := cc_sub (C := C) (c := 1 - col C p) (R * C) (cb op p &&& rch R C op p) (rch R C op p) (fun i _ hi => by rw [Nat.testBit_and, Bool.and_eq_true] at hi; exact hi.2)
  have e2 := cc_sub (C := C) (c := col C p) (R * C) (cb op p &&& rch R C op p) (cb (rch R C op p) p) (fun i _ hi => by
    rw [Nat.testBit_and, cb_t, Bool.and_eq_true, Bool.and_eq_true] at hi
    rw [cb_t, Bool.and_eq_true]
    exact ⟨hi.2, hi.1.2⟩)
  have e3 := cc_cb (C := C) (c := col C p) (R * C) (rch R C op p) hp r2 rfl
  unfold bnd
  split <;> omega
end H2
