-- THE CLASS: images
theorem s_like29_2 {d : Nat} {o i0 i1 : Option Nat} {rest : ADd} {M : AMm} {K : AMm → Prop} (h : ∀ M', (∀ k, k < 6 → M' 29 k = M 2 k) → (∀ p, p < 16 → M' 30 p = M 3 p) → (∀ p, p < 64 → M' 31 p = M 4 p) → (∀ p, p < 16 → M' 32 p = M 5 p) → (∀ a, (a < 29 ∨ 32 < a) → M' a = M a) → K M') : CV d 10 [.ref 29, .ref 2] (DB o i0 i1 (EI 29 ++ rest)) M (DB o i0 i1 (EI 29 ++ rest)) K := by
  refine b_X1_becomeLike29_2_0 ⟨_, rfl, h _ (fun k hk => ?_) (fun p hp => ?_) (fun p hp => ?_) (fun p hp => ?_) (fun a ha => ?_)⟩
  · rcases (show k = 0 ∨ k = 1 ∨ k = 2 ∨ k = 3 ∨ k = 4 ∨ k = 5 by omega) with rfl | rfl | rfl | rfl | rfl | rfl <;> simp [mr, ms]
  · simp [mr, ms, va_cpy, hp]
  · simp [mr, ms, va_cpy, hp]
  · simp [mr, ms, va_cpy, hp]
  · have z0 : a ≠ 29 := by omega
    have z1 : a ≠ 30 := by omega
    have z2 : a ≠ 31 := by omega
    have z3 : a ≠ 32 := by omega
    funext y
    simp [mr, ms, z0, z1, z2, z3]
theorem s_like2_29 {d : Nat} {o i0 i1 : Option Nat} {rest : ADd} {M : AMm} {K : AMm → Prop} (h : ∀ M', (∀ k, k < 6 → M' 2 k = M 29 k) → (∀ p, p < 16 → M' 3 p = M 30 p) → (∀ p, p < 64 → M' 4 p = M 31 p) → (∀ p, p < 16 → M' 5 p = M 32 p) → (∀ a, (a < 2 ∨ 5 < a) → M' a = M a) → K M') : CV d 10 [.ref 2, .ref 29] (DB o i0 i1 (EI 29 ++ rest)) M (DB o i0 i1 (EI 29 ++ rest)) K := by
  refine b_X1_becomeLike2_29_0 ⟨_, rfl, h _ (fun k hk => ?_) (fun p hp => ?_) (fun p hp => ?_) (fun p hp => ?_) (fun a ha => ?_)⟩
  · rcases (show k = 0 ∨ k = 1 ∨ k = 2 ∨ k = 3 ∨ k = 4 ∨ k = 5 by omega) with rfl | rfl | rfl | rfl | rfl | rfl <;> simp [mr, ms]
  · simp [mr, ms, va_cpy, hp]
  · simp [mr, ms, va_cpy, hp]
  · simp [mr, ms, va_cpy, hp]
  · have z0 : a ≠ 2 := by omega
    have z1 : a ≠ 3 := by omega
    have z2 : a ≠ 4 := by omega
    have z3 : a ≠ 5 := by omega
    funext y
    simp [mr, ms, z0, z1, z2, z3]
theorem s_like33_2 {d : Nat} {o i0 i1 : Option Nat} {M : AMm} {K : AMm → Prop} (h : ∀ M', (∀ k, k < 6 → M' 33 k = M 2 k) → (∀ p, p < 16 → M' 34 p = M 3 p) → (∀ p, p < 64 → M' 35 p = M 4 p) → (∀ p, p < 16 → M' 36 p = M 5 p) → (∀ a, (a < 33 ∨ 36 < a) → M' a = M a) → K M') : CV d 10 [.ref 33, .ref 2] (DB o i0 i1 (EI 29 ++ EI 33)) M (DB o i0 i1 (EI 29 ++ EI 33)) K := by
  refine b_X1_becomeLike33_2_0 ⟨_, rfl, h _ (fun k hk => ?_) (fun p hp => ?_) (fun p hp => ?_) (fun p hp => ?_) (fun a ha => ?_)⟩
  · rcases (show k = 0 ∨ k = 1 ∨ k = 2 ∨ k = 3 ∨ k = 4 ∨ k = 5 by omega) with rfl | rfl | rfl | rfl | rfl | rfl <;> simp [mr, ms]
  · simp [mr, ms, va_cpy, hp]
  · simp [mr, ms, va_cpy, hp]
  · simp [mr, ms, va_cpy, hp]
  · have z0 : a ≠ 33 := by omega
    have z1 : a ≠ 34 := by omega
    have z2 : a ≠ 35 := by omega
    have z3 : a ≠ 36 := by omega
    funext y
    simp [mr, ms, z0, z1, z2, z3]
theorem s_like2_33 {d : Nat} {o i0 i1 : Option Nat} {M : AMm} {K : AMm → Prop} (h : ∀ M', (∀ k, k < 6 → M' 2 k = M 33 k) → (∀ p, p < 16 → M' 3 p = M 34 p) → (∀ p, p < 64 → M' 4 p = M 35 p) → (∀ p, p < 16 → M' 5 p = M 36 p) → (∀ a, (a < 2 ∨ 5 < a) → M' a = M a) → K M') : CV d 10 [.ref 2, .ref 33] (DB o i0 i1 (EI 29 ++ EI 33)) M (DB o i0 i1 (EI 29 ++ EI 33)) K := by
  refine b_X1_becomeLike2_33_0 ⟨_, rfl, h _ (fun k hk => ?_) (fun p hp => ?_) (fun p hp => ?_) (fun p hp => ?_) (fun a ha => ?_)⟩
  · rcases (show k = 0 ∨ k = 1 ∨ k = 2 ∨ k = 3 ∨ k = 4 ∨ k = 5 by omega) with rfl | rfl | rfl | rfl | rfl | rfl <;> simp [mr, ms]
  · simp [mr, ms, va_cpy, hp]
  · simp [mr, ms, va_cpy, hp]
  · simp [mr, ms, va_cpy, hp]
  · have z0 : a ≠ 2 := by omega
    have z1 : a ≠ 3 := by omega
    have z2 : a ≠ 4 := by omega
    have z3 : a ≠ 5 := by omega
    funext y
    simp [mr, ms, z0, z1, z2, z3]
theorem FI_tr {A B : AMm} {R C bg sp : Nat} {er : Nat → Int32} (hd : Dm R C) (h0 : ∀ k, k < 6 → B 2 k = A 2 k) (h1 : ∀ p, p < 16 → B 3 p = A 3 p) (h2 : ∀ p, p < 64 → B 4 p = A 4 p) (h3 : ∀ p, p < 16 → B 5 p = A 5 p) (h : FI A R C er bg sp) : FI B R C er bg sp := by
  have hl := hd.le
  obtain ⟨a1, a2, a3, a4, a5, a6, a7⟩ := h
  exact ⟨by rw [h0 0 (by decide)]; exact a1, by rw [h0 1 (by decide)]; exact a2, by rw [h0 2 (by decide)]; exact a3, by rw [h0 3 (by decide)]; exact a4, by rw [h0 4 (by decide)]; exact a5, by rw [h0 5 (by decide)]; exact a6, fun p hp => ⟨by rw [h1 p (by omega)]; exact (a7 p hp).1, by rw [h3 p (by omega)]; exact (a7 p hp).2.1, fun k hk => by rw [h2 _ (by omega)]; exact (a7 p hp).2.2 k hk⟩⟩
section I1
variable {d : Nat} {o i0 i1 : Option Nat} {ext : ADd} {M : AMm} {R C bg sp pn : Nat} {er pd : Nat → Int32} {j0 j1 : Option Fld}
theorem CS.im {M' : AMm} {j0' j1' : Option Fld} {i0' i1' : Option Nat} {ext' : ADd} (h : CS R C er bg sp pn pd j0 j1 o i0 i1 ext M) (hM : ∀ a, (a < 29 ∨ 36 < a) → M' a = M a) (hI : IM j0' j1' i0' i1' ext' M') : CS R C er bg sp pn pd j0' j1' o i0' i1' ext' M' := by
  obtain ⟨h1, h2, h3, h4, h5, h6⟩ := h
  exact ⟨h1.of (fun a ha => hM a (by omega)), h2.of (hM _ (by omega)) (hM _ (by omega)) (hM _ (by omega)) (hM _ (by omega)), h3, h4.of (by rw [hM 0 (by omega)]) (hM _ (by omega)), h5.of (Or.inl rfl) (fun b => by rw [hM 0 (by omega)]) (fun a z1 z2 => hM a (by omega)), hI⟩
theorem mr_n {M : AMm} {i a : Nat} {f : Nat → Int32} (h : a ≠ i) : mr M i f a = M a := by funext y; simp [mr, h]
theorem o_image {Q : ARs → Prop} {D : ADd} {x : Int32} (hx : x < 0 ∨ nI 1 < x) (h : Q (some (.int (-(nI 2))), D, M)) : T d Q (ent 58 [.ref 0, .int x] D M) := by
  refine T_run 1 (58, 1, [some (.ref 0), some (.int x)], [.int x], D, M) rfl ?_
  refine T_br (x < 0) (58, 5, [some (.ref 0), some (.int x)], [], D, M) (58, 2, [some (.ref 0), some (.int x)], [], D, M) rfl (fun e => ?_) (fun e => ?_)
  · refine T_run 1 (58, 6, [some (.ref 0), some (.int x)], [.int (-(nI 2))], D, M) rfl ?_
    exact T_ret rfl h
  · refine T_run 2 (58, 4, [some (.ref 0), some (.int x)], [.int (nI 2), .int x], D, M) rfl ?_
    refine T_br (x < nI 2) (58, 7, [some (.ref 0), some (.int x)], [], D, M) (58, 5, [some (.ref 0), some (.int x)], [], D, M) rfl (fun e2 => ?_) (fun e2 => ?_)
    · exfalso
      obtain ⟨n, hn, rfl⟩ := nI_of e
      rcases hx with z | z
      · exact e z
      · rw [n_lt (by decide) hn] at z
        rw [n_lt hn (by decide)] at e2
        omega
    · refine T_run 1 (58, 6, [some (.ref 0), some (.int x)], [.int (-(nI 2))], D, M) rfl ?_
      exact T_ret rfl h
theorem o_restore {Q : ARs → Prop} {D : ADd} {x : Int32} (hx : x < 0 ∨ nI 1 < x) (h : Q (some (.int (-(nI 2))), D, M)) : T d Q (ent 59 [.ref 0, .int x] D M) := by
  refine T_run 1 (59, 1, [some (.ref 0), some (.int x)], [.int x], D, M) rfl ?_
  refine T_br (x < 0) (59, 5, [some (.ref 0), some (.int x)], [], D, M) (59, 2, [some (.ref 0), some (.int x)], [], D, M) rfl (fun e => ?_) (fun e => ?_)
  · refine T_run 1 (59, 6, [some (.ref 0), some (.int x)], [.int (-(nI 2))], D, M) rfl ?_
    exact T_ret rfl h
  · refine T_run 2 (59, 4, [some (.ref 0), some (.int x)], [.int (nI 2), .int x], D, M) rfl ?_
    refine T_br (x < nI 2) (59, 7, [some (.ref 0), some (.int x)], [], D, M) (59, 5, [some (.ref 0), some (.int x)], [], D, M) rfl (fun e2 => ?_) (fun e2 => ?_)
    · exfalso
      obtain ⟨n, hn, rfl⟩ := nI_of e
      rcases hx with z | z
      · exact e z
      · rw [n_lt (by decide) hn] at z
        rw [n_lt hn (by decide)] at e2
        omega
    · refine T_run 1 (59, 6, [some (.ref 0), some (.int x)], [.int (-(nI 2))], D, M) rfl ?_
      exact T_ret rfl h
theorem q_image (h : CS R C er bg sp pn pd j0 j1 o i0 i1 ext M) (x : Int32) : OC (d + 5) 58 [.ref 0, .int x] (DB o i0 i1 ext) M (fun v o i0 i1 ext M' => ((x < 0 ∨ nI 1 < x) ∧ CPo R C er bg sp pn pd j0 j1 M (-(nI 2)) v o i0 i1 ext M') ∨ (x = nI 0 ∧ CPo R C er bg sp pn pd (some (R, C, er, bg, sp)) j1 M (nI 1) v o i0 i1 ext M') ∨ (x = nI 1 ∧ CPo R C er bg sp pn pd j0 (some (R, C, er, bg, sp)) M (nI 1) v o i0 i1 ext M')) := by
  have hF := h.2.1
  have hw := h.2.2.1
  by_cases hx : x < 0 ∨ nI 1 < x
  · exact o_image hx ⟨_, _, _, _, _, _, rfl, Or.inl ⟨hx, CPo.same h _⟩⟩
  · obtain ⟨n, hn, rfl⟩ := nI_of (fun z => hx (Or.inl z))
    have hn2 : n < 2 := by
      have : ¬ nI 1 < nI n := fun z => hx (Or.inr z)
      rw [n_lt (by decide) hn] at this; omega
    have hI := h.2.2.2.2.2
    rcases (show n = 0 ∨ n = 1 by omega) with rfl | rfl
    · rcases hI with ⟨a1, a2, a3, a4, a5⟩ | ⟨f, a1, a2, a3, a4, a5, a6, a7⟩ | ⟨f, a1, a2, a3, a4, a5, a6, a7⟩ | ⟨f, g, a1, a2, a3, a4, a5, a6, a7, a8, a9⟩ | ⟨f, g, a1, a2, a3, a4, a5, a6, a7, a8, a9⟩ <;> subst a1 a2 a3 a4 a5
      · refine b_X4_imageA0_0 (b_X1_initi29_0 ⟨_, rfl, s_like29_2 (rest := []) (fun M' l0 l1 l2 l3 l4 => ⟨_, _, _, _, _, _, rfl, Or.inr (Or.inl ⟨rfl, ?_⟩)⟩)⟩)
        have m2 : ∀ a, (a < 29 ∨ 32 < a) → M' a = M a := fun a ha => by rw [l4 a (by omega), mr_n (by omega), mr_n (by omega), mr_n (by omega), mr_n (by omega)]
        have N : FIb 27 M' (R, C, er, bg, sp) := FI_tr (A := M) (B := fun a => M' (a + 27)) hw.1 (fun k hk => (l0 k hk).trans (by rw [mr_n (by decide), mr_n (by decide), mr_n (by decide), mr_n (by decide)])) (fun k hk => (l1 k hk).trans (by rw [mr_n (by decide), mr_n (by decide), mr_n (by decide), mr_n (by decide)])) (fun k hk => (l2 k hk).trans (by rw [mr_n (by decide), mr_n (by decide), mr_n (by decide), mr_n (by decide)])) (fun k hk => (l3 k hk).trans (by rw [mr_n (by decide), mr_n (by decide), mr_n (by decide), mr_n (by decide)])) hF
        exact ⟨rfl, h.im (fun a ha => m2 a (by omega)) (Or.inr (Or.inl ⟨_, rfl, rfl, rfl, rfl, rfl, N, hw⟩)), fun a z1 => m2 a (by omega)⟩
      · refine b_X4_imageB0_0 (s_like29_2 (rest := []) (fun M' l0 l1 l2 l3 m2 => ⟨_, _, _, _, _, _, rfl, Or.inr (Or.inl ⟨rfl, ?_⟩)⟩))
        have N : FIb 27 M' (R, C, er, bg, sp) := FI_tr (A := M) (B := fun a => M' (a + 27)) hw.1 l0 l1 l2 l3 hF
        exact ⟨rfl, h.im (fun a ha => m2 a (by omega)) (Or.inr (Or.inl ⟨_, rfl, rfl, rfl, rfl, rfl, N, hw⟩)), fun a z1 => m2 a (by omega)⟩
      · refine b_X4_imageC0_0 (b_X1_initi33_0 ⟨_, rfl, s_like33_2 (fun M' l0 l1 l2 l3 l4 => ⟨_, _, _, _, _, _, rfl, Or.inr (Or.inl ⟨rfl, ?_⟩)⟩)⟩)
        have m2 : ∀ a, (a < 33 ∨ 36 < a) → M' a = M a := fun a ha => by rw [l4 a (by omega), mr_n (by omega), mr_n (by omega), mr_n (by omega), mr_n (by omega)]
        have N : FIb 31 M' (R, C, er, bg, sp) := FI_tr (A := M) (B := fun a => M' (a + 31)) hw.1 (fun k hk => (l0 k hk).trans (by rw [mr_n (by decide), mr_n (by decide), mr_n (by decide), mr_n (by decide)])) (fun k hk => (l1 k hk).trans (by rw [mr_n (by decide), mr_n (by decide), mr_n (by decide), mr_n (by decide)])) (fun k hk => (l2 k hk).trans (by rw [mr_n (by decide), mr_n (by decide), mr_n (by decide), mr_n (by decide)])) (fun k hk => (l3 k hk).trans (by rw [mr_n (by decide), mr_n (by decide), mr_n (by decide), mr_n (by decide)])) hF
        have O6 := a6.of (M' := M') (fun a z1 z2 => m2 a (by omega))
        exact ⟨rfl, h.im (fun a ha => m2 a (by omega)) (Or.inr (Or.inr (Or.inr (Or.inr ⟨_, _, rfl, rfl, rfl, rfl, rfl, N, O6, hw, a7⟩)))), fun a z1 => m2 a (by omega)⟩
      · refine b_X4_imageE0_0 (s_like29_2 (rest := EI 33) (fun M' l0 l1 l2 l3 m2 => ⟨_, _, _, _, _, _, rfl, Or.inr (Or.inl ⟨rfl, ?_⟩)⟩))
        have N : FIb 27 M' (R, C, er, bg, sp) := FI_tr (A := M) (B := fun a => M' (a + 27)) hw.1 l0 l1 l2 l3 hF
        have O7 := a7.of (M' := M') (fun a z1 z2 => m2 a (by omega))
        exact ⟨rfl, h.im (fun a ha => m2 a (by omega)) (Or.inr (Or.inr (Or.inr (Or.inl ⟨_, _, rfl, rfl, rfl, rfl, rfl, N, O7, hw, a9⟩)))), fun a z1 => m2 a (by omega)⟩
      · refine b_X4_imageF0_0 (s_like33_2 (fun M' l0 l1 l2 l3 m2 => ⟨_, _, _, _, _, _, rfl, Or.inr (Or.inl ⟨rfl, ?_⟩)⟩))
        have N : FIb 31 M' (R, C, er, bg, sp) := FI_tr (A := M) (B := fun a => M' (a + 31)) hw.1 l0 l1 l2 l3 hF
        have O7 := a7.of (M' := M') (fun a z1 z2 => m2 a (by omega))
        exact ⟨rfl, h.im (fun a ha => m2 a (by omega)) (Or.inr (Or.inr (Or.inr (Or.inr ⟨_, _, rfl, rfl, rfl, rfl, rfl, N, O7, hw, a9⟩)))), fun a z1 => m2 a (by omega)⟩
    · rcases hI with ⟨a1, a2, a3, a4, a5⟩ | ⟨f, a1, a2, a3, a4, a5, a6, a7⟩ | ⟨f, a1, a2, a3, a4, a5, a6, a7⟩ | ⟨f, g, a1, a2, a3, a4, a5, a6, a7, a8, a9⟩ | ⟨f, g, a1, a2, a3, a4, a5, a6, a7, a8, a9⟩ <;> subst a1 a2 a3 a4 a5
      · refine b_X4_imageA1_0 (b_X1_initi29_0 ⟨_, rfl, s_like29_2 (rest := []) (fun M' l0 l1 l2 l3 l4 => ⟨_, _, _, _, _, _, rfl, Or.inr (Or.inr ⟨rfl, ?_⟩)⟩)⟩)
        have m2 : ∀ a, (a < 29 ∨ 32 < a) → M' a = M a := fun a ha => by rw [l4 a (by omega), mr_n (by omega), mr_n (by omega), mr_n (by omega), mr_n (by omega)]
        have N : FIb 27 M' (R, C, er, bg, sp) := FI_tr (A := M) (B := fun a => M' (a + 27)) hw.1 (fun k hk => (l0 k hk).trans (by rw [mr_n (by decide), mr_n (by decide), mr_n (by decide), mr_n (by decide)])) (fun k hk => (l1 k hk).trans (by rw [mr_n (by decide), mr_n (by decide), mr_n (by decide), mr_n (by decide)])) (fun k hk => (l2 k hk).trans (by rw [mr_n (by decide), mr_n (by decide), mr_n (by decide), mr_n (by decide)])) (fun k hk => (l3 k hk).trans (by rw [mr_n (by decide), mr_n (by decide), mr_n (by decide), mr_n (by decide)])) hF
        exact ⟨rfl, h.im (fun a ha => m2 a (by omega)) (Or.inr (Or.inr (Or.inl ⟨_, rfl, rfl, rfl, rfl, rfl, N, hw⟩))), fun a z1 => m2 a (by omega)⟩
      · refine b_X4_imageB1_0 (b_X1_initi33_0 ⟨_, rfl, s_like33_2 (fun M' l0 l1 l2 l3 l4 => ⟨_, _, _, _, _, _, rfl, Or.inr (Or.inr ⟨rfl, ?_⟩)⟩)⟩)
        have m2 : ∀ a, (a < 33 ∨ 36 < a) → M' a = M a := fun a ha => by rw [l4 a (by omega), mr_n (by omega), mr_n (by omega), mr_n (by omega), mr_n (by omega)]
        have N : FIb 31 M' (R, C, er, bg, sp) := FI_tr (A := M) (B := fun a => M' (a + 31)) hw.1 (fun k hk => (l0 k hk).trans (by rw [mr_n (by decide), mr_n (by decide), mr_n (by decide), mr_n (by decide)])) (fun k hk => (l1 k hk).trans (by rw [mr_n (by decide), mr_n (by decide), mr_n (by decide), mr_n (by decide)])) (fun k hk => (l2 k hk).trans (by rw [mr_n (by decide), mr_n (by decide), mr_n (by decide), mr_n (by decide)])) (fun k hk => (l3 k hk).trans (by rw [mr_n (by decide), mr_n (by decide), mr_n (by decide), mr_n (by decide)])) hF
        have O6 := a6.of (M' := M') (fun a z1 z2 => m2 a (by omega))
        exact ⟨rfl, h.im (fun a ha => m2 a (by omega)) (Or.inr (Or.inr (Or.inr (Or.inl ⟨_, _, rfl, rfl, rfl, rfl, rfl, O6, N, a7, hw⟩)))), fun a z1 => m2 a (by omega)⟩
      · refine b_X4_imageC1_0 (s_like29_2 (rest := []) (fun M' l0 l1 l2 l3 m2 => ⟨_, _, _, _, _, _, rfl, Or.inr (Or.inr ⟨rfl, ?_⟩)⟩))
        have N : FIb 27 M' (R, C, er, bg, sp) := FI_tr (A := M) (B := fun a => M' (a + 27)) hw.1 l0 l1 l2 l3 hF
        exact ⟨rfl, h.im (fun a ha => m2 a (by omega)) (Or.inr (Or.inr (Or.inl ⟨_, rfl, rfl, rfl, rfl, rfl, N, hw⟩))), fun a z1 => m2 a (by omega)⟩
      · refine b_X4_imageE1_0 (s_like33_2 (fun M' l0 l1 l2 l3 m2 => ⟨_, _, _, _, _, _, rfl, Or.inr (Or.inr ⟨rfl, ?_⟩)⟩))
        have N : FIb 31 M' (R, C, er, bg, sp) := FI_tr (A := M) (B := fun a => M' (a + 31)) hw.1 l0 l1 l2 l3 hF
        have O6 := a6.of (M' := M') (fun a z1 z2 => m2 a (by omega))
        exact ⟨rfl, h.im (fun a ha => m2 a (by omega)) (Or.inr (Or.inr (Or.inr (Or.inl ⟨_, _, rfl, rfl, rfl, rfl, rfl, O6, N, a8, hw⟩)))), fun a z1 => m2 a (by omega)⟩
      · refine b_X4_imageF1_0 (s_like29_2 (rest := EI 33) (fun M' l0 l1 l2 l3 m2 => ⟨_, _, _, _, _, _, rfl, Or.inr (Or.inr ⟨rfl, ?_⟩)⟩))
        have N : FIb 27 M' (R, C, er, bg, sp) := FI_tr (A := M) (B := fun a => M' (a + 27)) hw.1 l0 l1 l2 l3 hF
        have O6 := a6.of (M' := M') (fun a z1 z2 => m2 a (by omega))
        exact ⟨rfl, h.im (fun a ha => m2 a (by omega)) (Or.inr (Or.inr (Or.inr (Or.inr ⟨_, _, rfl, rfl, rfl, rfl, rfl, O6, N, a8, hw⟩)))), fun a z1 => m2 a (by omega)⟩
theorem q_restore (h : CS R C er bg sp pn pd j0 j1 o i0 i1 ext M) (x : Int32) : OC (d + 5) 59 [.ref 0, .int x] (DB o i0 i1 ext) M (fun v o i0 i1 ext M' => ((x < 0 ∨ nI 1 < x) ∧ CPo R C er bg sp pn pd j0 j1 M (-(nI 2)) v o i0 i1 ext M') ∨ (((x = nI 0 ∧ j0 = none) ∨ (x = nI 1 ∧ j1 = none)) ∧ CPo R C er bg sp pn pd j0 j1 M (-(nI 3)) v o i0 i1 ext M') ∨ ∃ f : Fld, ((x = nI 0 ∧ j0 = some f) ∨ (x = nI 1 ∧ j1 = some f)) ∧ CPo f.1 f.2.1 f.2.2.1 f.2.2.2.1 f.2.2.2.2 pn pd j0 j1 M (nI 1) v o i0 i1 ext M') := by
  have h1 := h.1
  have h4 := h.2.2.2.1
  have hI := h.2.2.2.2.2
  by_cases hx : x < 0 ∨ nI 1 < x
  · exact o_restore hx ⟨_, _, _, _, _, _, rfl, Or.inl ⟨hx, CPo.same h _⟩⟩
  · obtain ⟨n, hn, rfl⟩ := nI_of (fun z => hx (Or.inl z))
    have hn2 : n < 2 := by
      have : ¬ nI 1 < nI n := fun z => hx (Or.inr z)
      rw [n_lt (by decide) hn] at this; omega
    have hI' := hI
    rcases (show n = 0 ∨ n = 1 by omega) with rfl | rfl
    · rcases hI with ⟨a1, a2, a3, a4, a5⟩ | ⟨f, a1, a2, a3, a4, a5, a6, a7⟩ | ⟨f, a1, a2, a3, a4, a5, a6, a7⟩ | ⟨f, g, a1, a2, a3, a4, a5, a6, a7, a8, a9⟩ | ⟨f, g, a1, a2, a3, a4, a5, a6, a7, a8, a9⟩ <;> subst a1 a2 a3 a4 a5
      · exact b_X4_restoreA0_0 ⟨_, _, _, _, _, _, rfl, Or.inr (Or.inl ⟨Or.inl ⟨rfl, rfl⟩, CPo.same h _⟩)⟩
      · refine b_X4_restoreB0_0 (s_like2_29 (rest := []) (fun M' l0 l1 l2 l3 m2 => s_forget (fun M2 f1 f2 f3 f4 f5 f6 => ⟨_, _, _, _, _, _, rfl, Or.inr (Or.inr ⟨f, Or.inl ⟨rfl, rfl⟩, rfl, ?_⟩)⟩)))
        exact CS.forg (M := M) (M' := M') h1 hI' (fun a ha => m2 a (by omega)) (FI_tr (A := fun a => M (a + 27)) (B := M') a7.1 l0 l1 l2 l3 a6) a7 (h4.of (by rw [m2 0 (by omega)]) (m2 1 (by omega))) f1 f2 f3 f4 f5 f6
      · exact b_X4_restoreC0_0 ⟨_, _, _, _, _, _, rfl, Or.inr (Or.inl ⟨Or.inl ⟨rfl, rfl⟩, CPo.same h _⟩)⟩
      · refine b_X4_restoreE0_0 (s_like2_29 (rest := EI 33) (fun M' l0 l1 l2 l3 m2 => s_forget (fun M2 f1 f2 f3 f4 f5 f6 => ⟨_, _, _, _, _, _, rfl, Or.inr (Or.inr ⟨f, Or.inl ⟨rfl, rfl⟩, rfl, ?_⟩)⟩)))
        exact CS.forg (M := M) (M' := M') h1 hI' (fun a ha => m2 a (by omega)) (FI_tr (A := fun a => M (a + 27)) (B := M') a8.1 l0 l1 l2 l3 a6) a8 (h4.of (by rw [m2 0 (by omega)]) (m2 1 (by omega))) f1 f2 f3 f4 f5 f6
      · refine b_X4_restoreF0_0 (s_like2_33 (fun M' l0 l1 l2 l3 m2 => s_forget (fun M2 f1 f2 f3 f4 f5 f6 => ⟨_, _, _, _, _, _, rfl, Or.inr (Or.inr ⟨f, Or.inl ⟨rfl, rfl⟩, rfl, ?_⟩)⟩)))
        exact CS.forg (M := M) (M' := M') h1 hI' (fun a ha => m2 a (by omega)) (FI_tr (A := fun a => M (a + 31)) (B := M') a8.1 l0 l1 l2 l3 a6) a8 (h4.of (by rw [m2 0 (by omega)]) (m2 1 (by omega))) f1 f2 f3 f4 f5 f6
    · rcases hI with ⟨a1, a2, a3, a4, a5⟩ | ⟨f, a1, a2, a3, a4, a5, a6, a7⟩ | ⟨f, a1, a2, a3, a4, a5, a6, a7⟩ | ⟨f, g, a1, a2, a3, a4, a5, a6, a7, a8, a9⟩ | ⟨f, g, a1, a2, a3, a4, a5, a6, a7, a8, a9⟩ <;> subst a1 a2 a3 a4 a5
      · exact b_X4_restoreA1_0 ⟨_, _, _, _, _, _, rfl, Or.inr (Or.inl ⟨Or.inr ⟨rfl, rfl⟩, CPo.same h _⟩)⟩
      · exact b_X4_restoreB1_0 ⟨_, _, _, _, _, _, rfl, Or.inr (Or.inl ⟨Or.inr ⟨rfl, rfl⟩, CPo.same h _⟩)⟩
      · refine b_X4_restoreC1_0 (s_like2_29 (rest := []) (fun M' l0 l1 l2 l3 m2 => s_forget (fun M2 f1 f2 f3 f4 f5 f6 => ⟨_, _, _, _, _, _, rfl, Or.inr (Or.inr ⟨f, Or.inr ⟨rfl, rfl⟩, rfl, ?_⟩)⟩)))
        exact CS.forg (M := M) (M' := M') h1 hI' (fun a ha => m2 a (by omega)) (FI_tr (A := fun a => M (a + 27)) (B := M') a7.1 l0 l1 l2 l3 a6) a7 (h4.of (by rw [m2 0 (by omega)]) (m2 1 (by omega))) f1 f2 f3 f4 f5 f6
      · refine b_X4_restoreE1_0 (s_like2_33 (fun M' l0 l1 l2 l3 m2 => s_forget (fun M2 f1 f2 f3 f4 f5 f6 => ⟨_, _, _, _, _, _, rfl, Or.inr (Or.inr ⟨g, Or.inr ⟨rfl, rfl⟩, rfl, ?_⟩)⟩)))
        exact CS.forg (M := M) (M' := M') h1 hI' (fun a ha => m2 a (by omega)) (FI_tr (A := fun a => M (a + 31)) (B := M') a9.1 l0 l1 l2 l3 a7) a9 (h4.of (by rw [m2 0 (by omega)]) (m2 1 (by omega))) f1 f2 f3 f4 f5 f6
      · refine b_X4_restoreF1_0 (s_like2_29 (rest := EI 33) (fun M' l0 l1 l2 l3 m2 => s_forget (fun M2 f1 f2 f3 f4 f5 f6 => ⟨_, _, _, _, _, _, rfl, Or.inr (Or.inr ⟨g, Or.inr ⟨rfl, rfl⟩, rfl, ?_⟩)⟩)))
        exact CS.forg (M := M) (M' := M') h1 hI' (fun a ha => m2 a (by omega)) (FI_tr (A := fun a => M (a + 27)) (B := M') a9.1 l0 l1 l2 l3 a7) a9 (h4.of (by rw [m2 0 (by omega)]) (m2 1 (by omega))) f1 f2 f3 f4 f5 f6
end I1
