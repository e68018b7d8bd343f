-- THE LAW: from the start to the end
theorem RO_0 (xs : Nat → Int32) (L : Nat) : RO (M0 xs L) := fun _ _ => ⟨rfl, rfl, rfl⟩
theorem mr_t {M : AMm} {i b : Nat} {f : Nat → Int32} : mr M i f i b = f b := by simp [mr]
theorem law_loop {xs : Nat → Int32} {L : Nat} (hL : L ≤ 1536) : ∀ (n i : Nat) (o i0 i1 : Option Nat) (ext : ADd) (M : AMm), 1540 - i ≤ n → i ≤ 1536 → LI xs L o i0 i1 ext M → T (59 + 1) (fun r => r.1 = some (.int 1) ∧ r.2.1.length ≤ 600000 ∧ a_szs r.2.1 ≤ 7302250) (128, 10, [some (.ref 1000000), some (.ref 0), some (.ref 20), some (.int (nI i))], [], (DB o i0 i1 ext), M) := by
  intro n
  induction n with
  | zero => intro i o i0 i1 ext M h hi _; omega
  | succ n ih =>
    intro i o i0 i1 ext M h hi hI
    refine law_step hL hi hI (fun _ => ?_) (fun h3 o i0 i1 ext M hI => ih (i + 3) o i0 i1 ext M (by omega) (by omega) hI)
    obtain ⟨R, C, er, bg, sp, pn, pd, j0, j1, hC, hS, hX, hN⟩ := hI
    exact ⟨rfl, ext_fit hC.2.2.2.2.2⟩
theorem dm33 : Dm 3 3 := ⟨by decide, by decide, by decide, by decide, by decide⟩
theorem LAW : LAWp := by
  intro xs L hL
  have hr := RO_0 xs L
  have hX : M0 xs L 1000000 = xs := rfl
  have hN : M0 xs L 1000004 0 = nI L := rfl
  generalize M0 xs L = M at hr hX hN
  show T (59 + 1) _ _
  refine b_L_law_0 (b_X4_init_0 (d := 58) (b_X1_initc2_0 ⟨_, rfl, b_X2_initc7_0 ⟨_, rfl, b_X3_initc8_0 ⟨_, rfl, b_X0_initc13_0 ⟨_, rfl, b_X0_initc15_0 ⟨_, rfl, b_X0_initc17_0 ⟨_, rfl, ?_⟩⟩⟩⟩⟩⟩))
  refine s_layc (d := 57) (R := 3) (C := 3) (sp := 0) ?_ dm33 ?_ (fun M1 hF hM => ⟨_, rfl, ?_⟩)
  · exact hr.of (fun a ha => by repeat rw [mr_n (by omega)])
  · simp [mr, nI_0]
  have z0 : ∀ b, M1 0 b = nI 0 := by
    intro b
    rw [hM 0 (by decide) (by decide) (by decide) (by decide)]
    simp [mr, nI_0]
  have big : ∀ a, 1000000 ≤ a → M1 a = M a := by
    intro a ha
    rw [hM a (by omega) (by omega) (by omega) (by omega)]
    repeat rw [mr_n (by omega)]
  clear hM
  have hC : CS 3 3 (fun _ => nI 1) 0 0 0 (fun _ => nI 0) none none none none none [] M1 := ⟨hr.of big, hF, WF_1 dm33 (by decide), ⟨z0 1, by decide, fun i hi => absurd hi (Nat.not_lt_zero i)⟩, CK.no (z0 7) (z0 11) (z0 14) (z0 16), Or.inl ⟨rfl, rfl, rfl, rfl, rfl⟩⟩
  refine b_X5_initc_0 (d := 58) (m_lay (fun M2 f1 f2 f3 f4 f5 f6 f7 => ⟨_, rfl, ?_⟩))
  have g20 : ∀ b, b ≠ 0 → b ≠ 1 → b ≠ 3 → M2 20 b = nI 0 := by
    intro b h0 h1 h3
    rw [f5 b h0 h1 h3]
    simp [mr, nI_0]
  have hO : FO M1 M2 := by
    intro a ha
    rw [f1 a ha]
    repeat rw [mr_n (by omega)]
  have g28 : ∀ b, M2 28 b = nI 0 := by
    intro b
    rw [f7 28 (by decide) (by decide)]
    simp [mr, nI_0]
  have hS : MS 3 3 (fun _ => nI 1) 0 0 0 (fun _ => nI 0) none none M2 := ⟨⟨f2, f3, f4, g20 4 (by decide) (by decide) (by decide), fun p hp => f6 p (by omega)⟩, ⟨g20 6 (by decide) (by decide) (by decide), by decide, fun i hi => absurd hi (Nat.not_lt_zero i)⟩, ⟨g28 0, fun f hf => by cases hf⟩, ⟨g28 1, fun f hf => by cases hf⟩⟩
  exact law_loop hL 1540 0 none none none [] M2 (by omega) (by omega) (LI_of hC hS hO ((big 1000000 (by omega)).trans hX) (by rw [big 1000004 (by omega)]; exact hN))
