/-- the shapes of the cells: o: what the ways go on, i0, i1: the images; then the images' own cells -/
def DB (o i0 i1 : Option Nat) (ext : ADd) : ADd := (.inl (4, [some (some 1), none, some (some 2), some (some 6), some (some 7), some (some 8), some (some 13), none, some (some 15), some (some 17), some (some 19), none, none, none, none, none, none, none]) : ADc) :: (.inr (.inl (0, 40)) : ADc) :: (.inl (1, [none, none, none, none, none, none, some (some 3), some (some 4), some (some 5)]) : ADc) :: (.inr (.inl (0, 16)) : ADc) :: (.inr (.inl (0, 64)) : ADc) :: (.inr (.inl (0, 16)) : ADc) :: (.inr (.inr [i0, i1]) : ADc) :: (.inl (2, [none, none, none, none, none]) : ADc) :: (.inl (3, [some o, none, none, none, none, some (some 9), some (some 10), some (some 11), some (some 12)]) : ADc) :: (.inr (.inl (0, 16)) : ADc) :: (.inr (.inl (0, 16)) : ADc) :: (.inr (.inl (0, 16)) : ADc) :: (.inr (.inl (0, 16)) : ADc) :: (.inl (0, [none, none, some (some 14)]) : ADc) :: (.inr (.inl (0, 16)) : ADc) :: (.inl (0, [none, none, some (some 16)]) : ADc) :: (.inr (.inl (0, 16)) : ADc) :: (.inl (0, [none, none, some (some 18)]) : ADc) :: (.inr (.inl (0, 16)) : ADc) :: (.inr (.inl (0, 16)) : ADc) :: (.inl (5, [none, none, some (some 21), none, none, some (some 22), none, none, none, none, none, none, some (some 23), some (some 24), some (some 25), some (some 26), none, some (some 27), some (some 28), none, none]) : ADc) :: (.inr (.inl (0, 16)) : ADc) :: (.inr (.inl (0, 40)) : ADc) :: (.inr (.inl (0, 1179648)) : ADc) :: (.inr (.inl (0, 1048576)) : ADc) :: (.inr (.inl (0, 16)) : ADc) :: (.inr (.inl (0, 12)) : ADc) :: (.inr (.inl (0, 60)) : ADc) :: (.inr (.inl (1, 2)) : ADc) :: ext
set_option maxRecDepth 100000 in
theorem b_X0_clear13_0 {d : Nat} {Q : ARs → Prop} {o i0 i1 : Option Nat} {ext : ADd} {M : AMm}  (h : Q (none, (DB o i0 i1 ext), (ms (ms M 13 0 (-(nI 1))) 13 1 (nI 0)))) : T d Q (ent 2 [.ref 13] (DB o i0 i1 ext) M) := by
  refine T_run 6 (2, 6, [some (.ref 13)], [], (DB o i0 i1 ext), (ms (ms M 13 0 (-(nI 1))) 13 1 (nI 0))) rfl ?_
  exact T_ret rfl h
set_option maxRecDepth 100000 in
theorem b_X0_offer13_0 {d : Nat} {Q : ARs → Prop} {o i0 i1 : Option Nat} {ext : ADd} {M : AMm} (x2 : Int32) (h : (x2 < (M 13 0) → Q (none, (DB o i0 i1 ext), M)) ∧ (¬ x2 < (M 13 0) → (x2 = (M 13 0) → ((M 8 4) < (M 13 1) → T d Q (3, 23, [some (.ref 13), some (.ref 8), none, some (.int (nI 0))], [], (DB o i0 i1 ext), (ms (ms M 13 0 x2) 13 1 (M 8 4)))) ∧ (¬ (M 8 4) < (M 13 1) → Q (none, (DB o i0 i1 ext), M))) ∧ (¬ x2 = (M 13 0) → T d Q (3, 23, [some (.ref 13), some (.ref 8), none, some (.int (nI 0))], [], (DB o i0 i1 ext), (ms (ms M 13 0 x2) 13 1 (M 8 4)))))) : T d Q (ent 3 [.ref 13, .ref 8, .int x2] (DB o i0 i1 ext) M) := by
  refine T_run 3 (3, 3, [some (.ref 13), some (.ref 8), some (.int x2), none], [.int (M 13 0), .int x2], (DB o i0 i1 ext), M) rfl ?_
  refine T_br (x2 < (M 13 0)) (3, 13, [some (.ref 13), some (.ref 8), some (.int x2), none], [], (DB o i0 i1 ext), M) (3, 4, [some (.ref 13), some (.ref 8), some (.int x2), none], [], (DB o i0 i1 ext), M) rfl (fun hc1 => ?_) (fun hc1 => ?_)
  · have h := h.1 hc1
    exact T_ret rfl h
  · have h := h.2 hc1
    refine T_run 3 (3, 7, [some (.ref 13), some (.ref 8), some (.int x2), none], [.int (M 13 0), .int x2], (DB o i0 i1 ext), M) rfl ?_
    refine T_br (x2 = (M 13 0)) (3, 8, [some (.ref 13), some (.ref 8), some (.int x2), none], [], (DB o i0 i1 ext), M) (3, 14, [some (.ref 13), some (.ref 8), some (.int x2), none], [], (DB o i0 i1 ext), M) rfl (fun hc2 => ?_) (fun hc2 => ?_)
    · have h := h.1 hc2
      refine T_run 4 (3, 12, [some (.ref 13), some (.ref 8), some (.int x2), none], [.int (M 13 1), .int (M 8 4)], (DB o i0 i1 ext), M) rfl ?_
      refine T_br ((M 8 4) < (M 13 1)) (3, 14, [some (.ref 13), some (.ref 8), some (.int x2), none], [], (DB o i0 i1 ext), M) (3, 13, [some (.ref 13), some (.ref 8), some (.int x2), none], [], (DB o i0 i1 ext), M) rfl (fun hc3 => ?_) (fun hc3 => ?_)
      · have h := h.1 hc3
        refine T_run 9 (3, 23, [some (.ref 13), some (.ref 8), some (.int x2), some (.int (nI 0))], [], (DB o i0 i1 ext), (ms (ms M 13 0 x2) 13 1 (M 8 4))) rfl ?_
        exact T_le (a_le_1 (a_le_1 (a_le_2 rfl (a_le_1 a_le_n)))) h
      · have h := h.2 hc3
        exact T_ret rfl h
    · have h := h.2 hc2
      refine T_run 9 (3, 23, [some (.ref 13), some (.ref 8), some (.int x2), some (.int (nI 0))], [], (DB o i0 i1 ext), (ms (ms M 13 0 x2) 13 1 (M 8 4))) rfl ?_
      exact T_le (a_le_1 (a_le_1 (a_le_2 rfl (a_le_1 a_le_n)))) h
set_option maxRecDepth 100000 in
theorem b_X0_offer13_23 {d : Nat} {Q : ARs → Prop} {o i0 i1 : Option Nat} {ext : ADd} {M : AMm} (x3 : Int32) (h : ((M 13 1) ≤ x3 → Q (none, (DB o i0 i1 ext), M)) ∧ (¬ (M 13 1) ≤ x3 → (vp_in x3 16) ∧ ((vp_in x3 16) ∧ (T d Q (3, 23, [some (.ref 13), some (.ref 8), none, some (.int (x3 + (nI 1)))], [], (DB o i0 i1 ext), (ms M 14 x3.toNatClampNeg ((M 12 x3.toNatClampNeg) - (nI 1)))))))) : T d Q (3, 23, [some (.ref 13), some (.ref 8), none, some (.int x3)], [], (DB o i0 i1 ext), M) := by
  refine T_run 3 (3, 26, [some (.ref 13), some (.ref 8), none, some (.int x3)], [.int (M 13 1), .int x3], (DB o i0 i1 ext), M) rfl ?_
  refine T_br ((M 13 1) ≤ x3) (3, 39, [some (.ref 13), some (.ref 8), none, some (.int x3)], [], (DB o i0 i1 ext), M) (3, 27, [some (.ref 13), some (.ref 8), none, some (.int x3)], [], (DB o i0 i1 ext), M) rfl (fun hc1 => ?_) (fun hc1 => ?_)
  · have h := h.1 hc1
    exact T_ret rfl h
  · have h := h.2 hc1
    refine T_run 6 (3, 33, [some (.ref 13), some (.ref 8), none, some (.int x3)], [.int x3, .ref 12, .int x3, .ref 14], (DB o i0 i1 ext), M) rfl ?_
    refine T_gd (x3 < 0 ∨ 16 ≤ x3.toNatClampNeg) (3, 34, [some (.ref 13), some (.ref 8), none, some (.int x3)], [.int (M 12 x3.toNatClampNeg), .int x3, .ref 14], (DB o i0 i1 ext), M) rfl h.1 ?_
    have h := h.2
    refine T_run 2 (3, 36, [some (.ref 13), some (.ref 8), none, some (.int x3)], [.int ((M 12 x3.toNatClampNeg) - (nI 1)), .int x3, .ref 14], (DB o i0 i1 ext), M) rfl ?_
    refine T_gd (x3 < 0 ∨ 16 ≤ x3.toNatClampNeg) (3, 37, [some (.ref 13), some (.ref 8), none, some (.int x3)], [], (DB o i0 i1 ext), (ms M 14 x3.toNatClampNeg ((M 12 x3.toNatClampNeg) - (nI 1)))) rfl h.1 ?_
    have h := h.2
    refine T_run 2 (3, 23, [some (.ref 13), some (.ref 8), none, some (.int (x3 + (nI 1)))], [], (DB o i0 i1 ext), (ms M 14 x3.toNatClampNeg ((M 12 x3.toNatClampNeg) - (nI 1)))) rfl ?_
    exact h
set_option maxRecDepth 100000 in
theorem b_X0_signOf13_0 {d : Nat} {Q : ARs → Prop} {o i0 i1 : Option Nat} {ext : ADd} {M : AMm} (x1 : Int32) (h : (x1 < 0 → Q (some (.int (-(nI 6))), (DB o i0 i1 ext), M)) ∧ (¬ x1 < 0 → ((M 13 1) ≤ x1 → Q (some (.int (-(nI 6))), (DB o i0 i1 ext), M)) ∧ (¬ (M 13 1) ≤ x1 → (vp_in x1 16) ∧ (((M 14 x1.toNatClampNeg) < 0 → Q (some (.int (-(nI 6))), (DB o i0 i1 ext), M)) ∧ (¬ (M 14 x1.toNatClampNeg) < 0 → (vp_in x1 16) ∧ (((M 14 x1.toNatClampNeg) < (nI 4) → (vp_in x1 16) ∧ ((vp_in (M 14 x1.toNatClampNeg) 4) ∧ (Q (some (.int (M 1000001 ((M 14 x1.toNatClampNeg).toNatClampNeg))), (DB o i0 i1 ext), M)))) ∧ (¬ (M 14 x1.toNatClampNeg) < (nI 4) → Q (some (.int (-(nI 6))), (DB o i0 i1 ext), M)))))))) : T d Q (ent 4 [.ref 13, .int x1] (DB o i0 i1 ext) M) := by
  refine T_run 1 (4, 1, [some (.ref 13), some (.int x1)], [.int x1], (DB o i0 i1 ext), M) rfl ?_
  refine T_br (x1 < 0) (4, 17, [some (.ref 13), some (.int x1)], [], (DB o i0 i1 ext), M) (4, 2, [some (.ref 13), some (.int x1)], [], (DB o i0 i1 ext), M) rfl (fun hc1 => ?_) (fun hc1 => ?_)
  · have h := h.1 hc1
    refine T_run 1 (4, 18, [some (.ref 13), some (.int x1)], [.int (-(nI 6))], (DB o i0 i1 ext), M) rfl ?_
    exact T_ret rfl h
  · have h := h.2 hc1
    refine T_run 3 (4, 5, [some (.ref 13), some (.int x1)], [.int (M 13 1), .int x1], (DB o i0 i1 ext), M) rfl ?_
    refine T_br ((M 13 1) ≤ x1) (4, 17, [some (.ref 13), some (.int x1)], [], (DB o i0 i1 ext), M) (4, 6, [some (.ref 13), some (.int x1)], [], (DB o i0 i1 ext), M) rfl (fun hc2 => ?_) (fun hc2 => ?_)
    · have h := h.1 hc2
      refine T_run 1 (4, 18, [some (.ref 13), some (.int x1)], [.int (-(nI 6))], (DB o i0 i1 ext), M) rfl ?_
      exact T_ret rfl h
    · have h := h.2 hc2
      refine T_run 3 (4, 9, [some (.ref 13), some (.int x1)], [.int x1, .ref 14], (DB o i0 i1 ext), M) rfl ?_
      refine T_gd (x1 < 0 ∨ 16 ≤ x1.toNatClampNeg) (4, 10, [some (.ref 13), some (.int x1)], [.int (M 14 x1.toNatClampNeg)], (DB o i0 i1 ext), M) rfl h.1 ?_
      have h := h.2
      refine T_br ((M 14 x1.toNatClampNeg) < 0) (4, 17, [some (.ref 13), some (.int x1)], [], (DB o i0 i1 ext), M) (4, 11, [some (.ref 13), some (.int x1)], [], (DB o i0 i1 ext), M) rfl (fun hc3 => ?_) (fun hc3 => ?_)
      · have h := h.1 hc3
        refine T_run 1 (4, 18, [some (.ref 13), some (.int x1)], [.int (-(nI 6))], (DB o i0 i1 ext), M) rfl ?_
        exact T_ret rfl h
      · have h := h.2 hc3
        refine T_run 3 (4, 14, [some (.ref 13), some (.int x1)], [.int x1, .ref 14], (DB o i0 i1 ext), M) rfl ?_
        refine T_gd (x1 < 0 ∨ 16 ≤ x1.toNatClampNeg) (4, 15, [some (.ref 13), some (.int x1)], [.int (M 14 x1.toNatClampNeg)], (DB o i0 i1 ext), M) rfl h.1 ?_
        have h := h.2
        refine T_run 1 (4, 16, [some (.ref 13), some (.int x1)], [.int (nI 4), .int (M 14 x1.toNatClampNeg)], (DB o i0 i1 ext), M) rfl ?_
        refine T_br ((M 14 x1.toNatClampNeg) < (nI 4)) (4, 19, [some (.ref 13), some (.int x1)], [], (DB o i0 i1 ext), M) (4, 17, [some (.ref 13), some (.int x1)], [], (DB o i0 i1 ext), M) rfl (fun hc4 => ?_) (fun hc4 => ?_)
        · have h := h.1 hc4
          refine T_run 4 (4, 23, [some (.ref 13), some (.int x1)], [.int x1, .ref 14, .ref 1000001], (DB o i0 i1 ext), M) rfl ?_
          refine T_gd (x1 < 0 ∨ 16 ≤ x1.toNatClampNeg) (4, 24, [some (.ref 13), some (.int x1)], [.int (M 14 x1.toNatClampNeg), .ref 1000001], (DB o i0 i1 ext), M) rfl h.1 ?_
          have h := h.2
          refine T_gd ((M 14 x1.toNatClampNeg) < 0 ∨ 4 ≤ (M 14 x1.toNatClampNeg).toNatClampNeg) (4, 25, [some (.ref 13), some (.int x1)], [.int (M 1000001 ((M 14 x1.toNatClampNeg).toNatClampNeg))], (DB o i0 i1 ext), M) rfl h.1 ?_
          have h := h.2
          exact T_ret rfl h
        · have h := h.2 hc4
          refine T_run 1 (4, 18, [some (.ref 13), some (.int x1)], [.int (-(nI 6))], (DB o i0 i1 ext), M) rfl ?_
          exact T_ret rfl h
set_option maxRecDepth 100000 in
theorem b_X0_clear15_0 {d : Nat} {Q : ARs → Prop} {o i0 i1 : Option Nat} {ext : ADd} {M : AMm}  (h : Q (none, (DB o i0 i1 ext), (ms (ms M 15 0 (-(nI 1))) 15 1 (nI 0)))) : T d Q (ent 2 [.ref 15] (DB o i0 i1 ext) M) := by
  refine T_run 6 (2, 6, [some (.ref 15)], [], (DB o i0 i1 ext), (ms (ms M 15 0 (-(nI 1))) 15 1 (nI 0))) rfl ?_
  exact T_ret rfl h
set_option maxRecDepth 100000 in
theorem b_X0_offer15_0 {d : Nat} {Q : ARs → Prop} {o i0 i1 : Option Nat} {ext : ADd} {M : AMm} (x2 : Int32) (h : (x2 < (M 15 0) → Q (none, (DB o i0 i1 ext), M)) ∧ (¬ x2 < (M 15 0) → (x2 = (M 15 0) → ((M 8 4) < (M 15 1) → T d Q (3, 23, [some (.ref 15), some (.ref 8), none, some (.int (nI 0))], [], (DB o i0 i1 ext), (ms (ms M 15 0 x2) 15 1 (M 8 4)))) ∧ (¬ (M 8 4) < (M 15 1) → Q (none, (DB o i0 i1 ext), M))) ∧ (¬ x2 = (M 15 0) → T d Q (3, 23, [some (.ref 15), some (.ref 8), none, some (.int (nI 0))], [], (DB o i0 i1 ext), (ms (ms M 15 0 x2) 15 1 (M 8 4)))))) : T d Q (ent 3 [.ref 15, .ref 8, .int x2] (DB o i0 i1 ext) M) := by
  refine T_run 3 (3, 3, [some (.ref 15), some (.ref 8), some (.int x2), none], [.int (M 15 0), .int x2], (DB o i0 i1 ext), M) rfl ?_
  refine T_br (x2 < (M 15 0)) (3, 13, [some (.ref 15), some (.ref 8), some (.int x2), none], [], (DB o i0 i1 ext), M) (3, 4, [some (.ref 15), some (.ref 8), some (.int x2), none], [], (DB o i0 i1 ext), M) rfl (fun hc1 => ?_) (fun hc1 => ?_)
  · have h := h.1 hc1
    exact T_ret rfl h
  · have h := h.2 hc1
    refine T_run 3 (3, 7, [some (.ref 15), some (.ref 8), some (.int x2), none], [.int (M 15 0), .int x2], (DB o i0 i1 ext), M) rfl ?_
    refine T_br (x2 = (M 15 0)) (3, 8, [some (.ref 15), some (.ref 8), some (.int x2), none], [], (DB o i0 i1 ext), M) (3, 14, [some (.ref 15), some (.ref 8), some (.int x2), none], [], (DB o i0 i1 ext), M) rfl (fun hc2 => ?_) (fun hc2 => ?_)
    · have h := h.1 hc2
      refine T_run 4 (3, 12, [some (.ref 15), some (.ref 8), some (.int x2), none], [.int (M 15 1), .int (M 8 4)], (DB o i0 i1 ext), M) rfl ?_
      refine T_br ((M 8 4) < (M 15 1)) (3, 14, [some (.ref 15), some (.ref 8), some (.int x2), none], [], (DB o i0 i1 ext), M) (3, 13, [some (.ref 15), some (.ref 8), some (.int x2), none], [], (DB o i0 i1 ext), M) rfl (fun hc3 => ?_) (fun hc3 => ?_)
      · have h := h.1 hc3
        refine T_run 9 (3, 23, [some (.ref 15), some (.ref 8), some (.int x2), some (.int (nI 0))], [], (DB o i0 i1 ext), (ms (ms M 15 0 x2) 15 1 (M 8 4))) rfl ?_
        exact T_le (a_le_1 (a_le_1 (a_le_2 rfl (a_le_1 a_le_n)))) h
      · have h := h.2 hc3
        exact T_ret rfl h
    · have h := h.2 hc2
      refine T_run 9 (3, 23, [some (.ref 15), some (.ref 8), some (.int x2), some (.int (nI 0))], [], (DB o i0 i1 ext), (ms (ms M 15 0 x2) 15 1 (M 8 4))) rfl ?_
      exact T_le (a_le_1 (a_le_1 (a_le_2 rfl (a_le_1 a_le_n)))) h
set_option maxRecDepth 100000 in
theorem b_X0_offer15_23 {d : Nat} {Q : ARs → Prop} {o i0 i1 : Option Nat} {ext : ADd} {M : AMm} (x3 : Int32) (h : ((M 15 1) ≤ x3 → Q (none, (DB o i0 i1 ext), M)) ∧ (¬ (M 15 1) ≤ x3 → (vp_in x3 16) ∧ ((vp_in x3 16) ∧ (T d Q (3, 23, [some (.ref 15), some (.ref 8), none, some (.int (x3 + (nI 1)))], [], (DB o i0 i1 ext), (ms M 16 x3.toNatClampNeg ((M 12 x3.toNatClampNeg) - (nI 1)))))))) : T d Q (3, 23, [some (.ref 15), some (.ref 8), none, some (.int x3)], [], (DB o i0 i1 ext), M) := by
  refine T_run 3 (3, 26, [some (.ref 15), some (.ref 8), none, some (.int x3)], [.int (M 15 1), .int x3], (DB o i0 i1 ext), M) rfl ?_
  refine T_br ((M 15 1) ≤ x3) (3, 39, [some (.ref 15), some (.ref 8), none, some (.int x3)], [], (DB o i0 i1 ext), M) (3, 27, [some (.ref 15), some (.ref 8), none, some (.int x3)], [], (DB o i0 i1 ext), M) rfl (fun hc1 => ?_) (fun hc1 => ?_)
  · have h := h.1 hc1
    exact T_ret rfl h
  · have h := h.2 hc1
    refine T_run 6 (3, 33, [some (.ref 15), some (.ref 8), none, some (.int x3)], [.int x3, .ref 12, .int x3, .ref 16], (DB o i0 i1 ext), M) rfl ?_
    refine T_gd (x3 < 0 ∨ 16 ≤ x3.toNatClampNeg) (3, 34, [some (.ref 15), some (.ref 8), none, some (.int x3)], [.int (M 12 x3.toNatClampNeg), .int x3, .ref 16], (DB o i0 i1 ext), M) rfl h.1 ?_
    have h := h.2
    refine T_run 2 (3, 36, [some (.ref 15), some (.ref 8), none, some (.int x3)], [.int ((M 12 x3.toNatClampNeg) - (nI 1)), .int x3, .ref 16], (DB o i0 i1 ext), M) rfl ?_
    refine T_gd (x3 < 0 ∨ 16 ≤ x3.toNatClampNeg) (3, 37, [some (.ref 15), some (.ref 8), none, some (.int x3)], [], (DB o i0 i1 ext), (ms M 16 x3.toNatClampNeg ((M 12 x3.toNatClampNeg) - (nI 1)))) rfl h.1 ?_
    have h := h.2
    refine T_run 2 (3, 23, [some (.ref 15), some (.ref 8), none, some (.int (x3 + (nI 1)))], [], (DB o i0 i1 ext), (ms M 16 x3.toNatClampNeg ((M 12 x3.toNatClampNeg) - (nI 1)))) rfl ?_
    exact h
set_option maxRecDepth 100000 in
theorem b_X0_signOf15_0 {d : Nat} {Q : ARs → Prop} {o i0 i1 : Option Nat} {ext : ADd} {M : AMm} (x1 : Int32) (h : (x1 < 0 → Q (some (.int (-(nI 6))), (DB o i0 i1 ext), M)) ∧ (¬ x1 < 0 → ((M 15 1) ≤ x1 → Q (some (.int (-(nI 6))), (DB o i0 i1 ext), M)) ∧ (¬ (M 15 1) ≤ x1 → (vp_in x1 16) ∧ (((M 16 x1.toNatClampNeg) < 0 → Q (some (.int (-(nI 6))), (DB o i0 i1 ext), M)) ∧ (¬ (M 16 x1.toNatClampNeg) < 0 → (vp_in x1 16) ∧ (((M 16 x1.toNatClampNeg) < (nI 4) → (vp_in x1 16) ∧ ((vp_in (M 16 x1.toNatClampNeg) 4) ∧ (Q (some (.int (M 1000001 ((M 16 x1.toNatClampNeg).toNatClampNeg))), (DB o i0 i1 ext), M)))) ∧ (¬ (M 16 x1.toNatClampNeg) < (nI 4) → Q (some (.int (-(nI 6))), (DB o i0 i1 ext), M)))))))) : T d Q (ent 4 [.ref 15, .int x1] (DB o i0 i1 ext) M) := by
  refine T_run 1 (4, 1, [some (.ref 15), some (.int x1)], [.int x1], (DB o i0 i1 ext), M) rfl ?_
  refine T_br (x1 < 0) (4, 17, [some (.ref 15), some (.int x1)], [], (DB o i0 i1 ext), M) (4, 2, [some (.ref 15), some (.int x1)], [], (DB o i0 i1 ext), M) rfl (fun hc1 => ?_) (fun hc1 => ?_)
  · have h := h.1 hc1
    refine T_run 1 (4, 18, [some (.ref 15), some (.int x1)], [.int (-(nI 6))], (DB o i0 i1 ext), M) rfl ?_
    exact T_ret rfl h
  · have h := h.2 hc1
    refine T_run 3 (4, 5, [some (.ref 15), some (.int x1)], [.int (M 15 1), .int x1], (DB o i0 i1 ext), M) rfl ?_
    refine T_br ((M 15 1) ≤ x1) (4, 17, [some (.ref 15), some (.int x1)], [], (DB o i0 i1 ext), M) (4, 6, [some (.ref 15), some (.int x1)], [], (DB o i0 i1 ext), M) rfl (fun hc2 => ?_) (fun hc2 => ?_)
    · have h := h.1 hc2
      refine T_run 1 (4, 18, [some (.ref 15), some (.int x1)], [.int (-(nI 6))], (DB o i0 i1 ext), M) rfl ?_
      exact T_ret rfl h
    · have h := h.2 hc2
      refine T_run 3 (4, 9, [some (.ref 15), some (.int x1)], [.int x1, .ref 16], (DB o i0 i1 ext), M) rfl ?_
      refine T_gd (x1 < 0 ∨ 16 ≤ x1.toNatClampNeg) (4, 10, [some (.ref 15), some (.int x1)], [.int (M 16 x1.toNatClampNeg)], (DB o i0 i1 ext), M) rfl h.1 ?_
      have h := h.2
      refine T_br ((M 16 x1.toNatClampNeg) < 0) (4, 17, [some (.ref 15), some (.int x1)], [], (DB o i0 i1 ext), M) (4, 11, [some (.ref 15), some (.int x1)], [], (DB o i0 i1 ext), M) rfl (fun hc3 => ?_) (fun hc3 => ?_)
      · have h := h.1 hc3
        refine T_run 1 (4, 18, [some (.ref 15), some (.int x1)], [.int (-(nI 6))], (DB o i0 i1 ext), M) rfl ?_
        exact T_ret rfl h
      · have h := h.2 hc3
        refine T_run 3 (4, 14, [some (.ref 15), some (.int x1)], [.int x1, .ref 16], (DB o i0 i1 ext), M) rfl ?_
        refine T_gd (x1 < 0 ∨ 16 ≤ x1.toNatClampNeg) (4, 15, [some (.ref 15), some (.int x1)], [.int (M 16 x1.toNatClampNeg)], (DB o i0 i1 ext), M) rfl h.1 ?_
        have h := h.2
        refine T_run 1 (4, 16, [some (.ref 15), some (.int x1)], [.int (nI 4), .int (M 16 x1.toNatClampNeg)], (DB o i0 i1 ext), M) rfl ?_
        refine T_br ((M 16 x1.toNatClampNeg) < (nI 4)) (4, 19, [some (.ref 15), some (.int x1)], [], (DB o i0 i1 ext), M) (4, 17, [some (.ref 15), some (.int x1)], [], (DB o i0 i1 ext), M) rfl (fun hc4 => ?_) (fun hc4 => ?_)
        · have h := h.1 hc4
          refine T_run 4 (4, 23, [some (.ref 15), some (.int x1)], [.int x1, .ref 16, .ref 1000001], (DB o i0 i1 ext), M) rfl ?_
          refine T_gd (x1 < 0 ∨ 16 ≤ x1.toNatClampNeg) (4, 24, [some (.ref 15), some (.int x1)], [.int (M 16 x1.toNatClampNeg), .ref 1000001], (DB o i0 i1 ext), M) rfl h.1 ?_
          have h := h.2
          refine T_gd ((M 16 x1.toNatClampNeg) < 0 ∨ 4 ≤ (M 16 x1.toNatClampNeg).toNatClampNeg) (4, 25, [some (.ref 15), some (.int x1)], [.int (M 1000001 ((M 16 x1.toNatClampNeg).toNatClampNeg))], (DB o i0 i1 ext), M) rfl h.1 ?_
          have h := h.2
          exact T_ret rfl h
        · have h := h.2 hc4
          refine T_run 1 (4, 18, [some (.ref 15), some (.int x1)], [.int (-(nI 6))], (DB o i0 i1 ext), M) rfl ?_
          exact T_ret rfl h
set_option maxRecDepth 100000 in
theorem b_X0_clear17_0 {d : Nat} {Q : ARs → Prop} {o i0 i1 : Option Nat} {ext : ADd} {M : AMm}  (h : Q (none, (DB o i0 i1 ext), (ms (ms M 17 0 (-(nI 1))) 17 1 (nI 0)))) : T d Q (ent 2 [.ref 17] (DB o i0 i1 ext) M) := by
  refine T_run 6 (2, 6, [some (.ref 17)], [], (DB o i0 i1 ext), (ms (ms M 17 0 (-(nI 1))) 17 1 (nI 0))) rfl ?_
  exact T_ret rfl h
set_option maxRecDepth 100000 in
theorem b_X0_offer17_0 {d : Nat} {Q : ARs → Prop} {o i0 i1 : Option Nat} {ext : ADd} {M : AMm} (x2 : Int32) (h : (x2 < (M 17 0) → Q (none, (DB o i0 i1 ext), M)) ∧ (¬ x2 < (M 17 0) → (x2 = (M 17 0) → ((M 8 4) < (M 17 1) → T d Q (3, 23, [some (.ref 17), some (.ref 8), none, some (.int (nI 0))], [], (DB o i0 i1 ext), (ms (ms M 17 0 x2) 17 1 (M 8 4)))) ∧ (¬ (M 8 4) < (M 17 1) → Q (none, (DB o i0 i1 ext), M))) ∧ (¬ x2 = (M 17 0) → T d Q (3, 23, [some (.ref 17), some (.ref 8), none, some (.int (nI 0))], [], (DB o i0 i1 ext), (ms (ms M 17 0 x2) 17 1 (M 8 4)))))) : T d Q (ent 3 [.ref 17, .ref 8, .int x2] (DB o i0 i1 ext) M) := by
  refine T_run 3 (3, 3, [some (.ref 17), some (.ref 8), some (.int x2), none], [.int (M 17 0), .int x2], (DB o i0 i1 ext), M) rfl ?_
  refine T_br (x2 < (M 17 0)) (3, 13, [some (.ref 17), some (.ref 8), some (.int x2), none], [], (DB o i0 i1 ext), M) (3, 4, [some (.ref 17), some (.ref 8), some (.int x2), none], [], (DB o i0 i1 ext), M) rfl (fun hc1 => ?_) (fun hc1 => ?_)
  · have h := h.1 hc1
    exact T_ret rfl h
  · have h := h.2 hc1
    refine T_run 3 (3, 7, [some (.ref 17), some (.ref 8), some (.int x2), none], [.int (M 17 0), .int x2], (DB o i0 i1 ext), M) rfl ?_
    refine T_br (x2 = (M 17 0)) (3, 8, [some (.ref 17), some (.ref 8), some (.int x2), none], [], (DB o i0 i1 ext), M) (3, 14, [some (.ref 17), some (.ref 8), some (.int x2), none], [], (DB o i0 i1 ext), M) rfl (fun hc2 => ?_) (fun hc2 => ?_)
    · have h := h.1 hc2
      refine T_run 4 (3, 12, [some (.ref 17), some (.ref 8), some (.int x2), none], [.int (M 17 1), .int (M 8 4)], (DB o i0 i1 ext), M) rfl ?_
      refine T_br ((M 8 4) < (M 17 1)) (3, 14, [some (.ref 17), some (.ref 8), some (.int x2), none], [], (DB o i0 i1 ext), M) (3, 13, [some (.ref 17), some (.ref 8), some (.int x2), none], [], (DB o i0 i1 ext), M) rfl (fun hc3 => ?_) (fun hc3 => ?_)
      · have h := h.1 hc3
        refine T_run 9 (3, 23, [some (.ref 17), some (.ref 8), some (.int x2), some (.int (nI 0))], [], (DB o i0 i1 ext), (ms (ms M 17 0 x2) 17 1 (M 8 4))) rfl ?_
        exact T_le (a_le_1 (a_le_1 (a_le_2 rfl (a_le_1 a_le_n)))) h
      · have h := h.2 hc3
        exact T_ret rfl h
    · have h := h.2 hc2
      refine T_run 9 (3, 23, [some (.ref 17), some (.ref 8), some (.int x2), some (.int (nI 0))], [], (DB o i0 i1 ext), (ms (ms M 17 0 x2) 17 1 (M 8 4))) rfl ?_
      exact T_le (a_le_1 (a_le_1 (a_le_2 rfl (a_le_1 a_le_n)))) h
set_option maxRecDepth 100000 in
theorem b_X0_offer17_23 {d : Nat} {Q : ARs → Prop} {o i0 i1 : Option Nat} {ext : ADd} {M : AMm} (x3 : Int32) (h : ((M 17 1) ≤ x3 → Q (none, (DB o i0 i1 ext), M)) ∧ (¬ (M 17 1) ≤ x3 → (vp_in x3 16) ∧ ((vp_in x3 16) ∧ (T d Q (3, 23, [some (.ref 17), some (.ref 8), none, some (.int (x3 + (nI 1)))], [], (DB o i0 i1 ext), (ms M 18 x3.toNatClampNeg ((M 12 x3.toNatClampNeg) - (nI 1)))))))) : T d Q (3, 23, [some (.ref 17), some (.ref 8), none, some (.int x3)], [], (DB o i0 i1 ext), M) := by
  refine T_run 3 (3, 26, [some (.ref 17), some (.ref 8), none, some (.int x3)], [.int (M 17 1), .int x3], (DB o i0 i1 ext), M) rfl ?_
  refine T_br ((M 17 1) ≤ x3) (3, 39, [some (.ref 17), some (.ref 8), none, some (.int x3)], [], (DB o i0 i1 ext), M) (3, 27, [some (.ref 17), some (.ref 8), none, some (.int x3)], [], (DB o i0 i1 ext), M) rfl (fun hc1 => ?_) (fun hc1 => ?_)
  · have h := h.1 hc1
    exact T_ret rfl h
  · have h := h.2 hc1
    refine T_run 6 (3, 33, [some (.ref 17), some (.ref 8), none, some (.int x3)], [.int x3, .ref 12, .int x3, .ref 18], (DB o i0 i1 ext), M) rfl ?_
    refine T_gd (x3 < 0 ∨ 16 ≤ x3.toNatClampNeg) (3, 34, [some (.ref 17), some (.ref 8), none, some (.int x3)], [.int (M 12 x3.toNatClampNeg), .int x3, .ref 18], (DB o i0 i1 ext), M) rfl h.1 ?_
    have h := h.2
    refine T_run 2 (3, 36, [some (.ref 17), some (.ref 8), none, some (.int x3)], [.int ((M 12 x3.toNatClampNeg) - (nI 1)), .int x3, .ref 18], (DB o i0 i1 ext), M) rfl ?_
    refine T_gd (x3 < 0 ∨ 16 ≤ x3.toNatClampNeg) (3, 37, [some (.ref 17), some (.ref 8), none, some (.int x3)], [], (DB o i0 i1 ext), (ms M 18 x3.toNatClampNeg ((M 12 x3.toNatClampNeg) - (nI 1)))) rfl h.1 ?_
    have h := h.2
    refine T_run 2 (3, 23, [some (.ref 17), some (.ref 8), none, some (.int (x3 + (nI 1)))], [], (DB o i0 i1 ext), (ms M 18 x3.toNatClampNeg ((M 12 x3.toNatClampNeg) - (nI 1)))) rfl ?_
    exact h
set_option maxRecDepth 100000 in
theorem b_X0_signOf17_0 {d : Nat} {Q : ARs → Prop} {o i0 i1 : Option Nat} {ext : ADd} {M : AMm} (x1 : Int32) (h : (x1 < 0 → Q (some (.int (-(nI 6))), (DB o i0 i1 ext), M)) ∧ (¬ x1 < 0 → ((M 17 1) ≤ x1 → Q (some (.int (-(nI 6))), (DB o i0 i1 ext), M)) ∧ (¬ (M 17 1) ≤ x1 → (vp_in x1 16) ∧ (((M 18 x1.toNatClampNeg) < 0 → Q (some (.int (-(nI 6))), (DB o i0 i1 ext), M)) ∧ (¬ (M 18 x1.toNatClampNeg) < 0 → (vp_in x1 16) ∧ (((M 18 x1.toNatClampNeg) < (nI 4) → (vp_in x1 16) ∧ ((vp_in (M 18 x1.toNatClampNeg) 4) ∧ (Q (some (.int (M 1000001 ((M 18 x1.toNatClampNeg).toNatClampNeg))), (DB o i0 i1 ext), M)))) ∧ (¬ (M 18 x1.toNatClampNeg) < (nI 4) → Q (some (.int (-(nI 6))), (DB o i0 i1 ext), M)))))))) : T d Q (ent 4 [.ref 17, .int x1] (DB o i0 i1 ext) M) := by
  refine T_run 1 (4, 1, [some (.ref 17), some (.int x1)], [.int x1], (DB o i0 i1 ext), M) rfl ?_
  refine T_br (x1 < 0) (4, 17, [some (.ref 17), some (.int x1)], [], (DB o i0 i1 ext), M) (4, 2, [some (.ref 17), some (.int x1)], [], (DB o i0 i1 ext), M) rfl (fun hc1 => ?_) (fun hc1 => ?_)
  · have h := h.1 hc1
    refine T_run 1 (4, 18, [some (.ref 17), some (.int x1)], [.int (-(nI 6))], (DB o i0 i1 ext), M) rfl ?_
    exact T_ret rfl h
  · have h := h.2 hc1
    refine T_run 3 (4, 5, [some (.ref 17), some (.int x1)], [.int (M 17 1), .int x1], (DB o i0 i1 ext), M) rfl ?_
    refine T_br ((M 17 1) ≤ x1) (4, 17, [some (.ref 17), some (.int x1)], [], (DB o i0 i1 ext), M) (4, 6, [some (.ref 17), some (.int x1)], [], (DB o i0 i1 ext), M) rfl (fun hc2 => ?_) (fun hc2 => ?_)
    · have h := h.1 hc2
      refine T_run 1 (4, 18, [some (.ref 17), some (.int x1)], [.int (-(nI 6))], (DB o i0 i1 ext), M) rfl ?_
      exact T_ret rfl h
    · have h := h.2 hc2
      refine T_run 3 (4, 9, [some (.ref 17), some (.int x1)], [.int x1, .ref 18], (DB o i0 i1 ext), M) rfl ?_
      refine T_gd (x1 < 0 ∨ 16 ≤ x1.toNatClampNeg) (4, 10, [some (.ref 17), some (.int x1)], [.int (M 18 x1.toNatClampNeg)], (DB o i0 i1 ext), M) rfl h.1 ?_
      have h := h.2
      refine T_br ((M 18 x1.toNatClampNeg) < 0) (4, 17, [some (.ref 17), some (.int x1)], [], (DB o i0 i1 ext), M) (4, 11, [some (.ref 17), some (.int x1)], [], (DB o i0 i1 ext), M) rfl (fun hc3 => ?_) (fun hc3 => ?_)
      · have h := h.1 hc3
        refine T_run 1 (4, 18, [some (.ref 17), some (.int x1)], [.int (-(nI 6))], (DB o i0 i1 ext), M) rfl ?_
        exact T_ret rfl h
      · have h := h.2 hc3
        refine T_run 3 (4, 14, [some (.ref 17), some (.int x1)], [.int x1, .ref 18], (DB o i0 i1 ext), M) rfl ?_
        refine T_gd (x1 < 0 ∨ 16 ≤ x1.toNatClampNeg) (4, 15, [some (.ref 17), some (.int x1)], [.int (M 18 x1.toNatClampNeg)], (DB o i0 i1 ext), M) rfl h.1 ?_
        have h := h.2
        refine T_run 1 (4, 16, [some (.ref 17), some (.int x1)], [.int (nI 4), .int (M 18 x1.toNatClampNeg)], (DB o i0 i1 ext), M) rfl ?_
        refine T_br ((M 18 x1.toNatClampNeg) < (nI 4)) (4, 19, [some (.ref 17), some (.int x1)], [], (DB o i0 i1 ext), M) (4, 17, [some (.ref 17), some (.int x1)], [], (DB o i0 i1 ext), M) rfl (fun hc4 => ?_) (fun hc4 => ?_)
        · have h := h.1 hc4
          refine T_run 4 (4, 23, [some (.ref 17), some (.int x1)], [.int x1, .ref 18, .ref 1000001], (DB o i0 i1 ext), M) rfl ?_
          refine T_gd (x1 < 0 ∨ 16 ≤ x1.toNatClampNeg) (4, 24, [some (.ref 17), some (.int x1)], [.int (M 18 x1.toNatClampNeg), .ref 1000001], (DB o i0 i1 ext), M) rfl h.1 ?_
          have h := h.2
          refine T_gd ((M 18 x1.toNatClampNeg) < 0 ∨ 4 ≤ (M 18 x1.toNatClampNeg).toNatClampNeg) (4, 25, [some (.ref 17), some (.int x1)], [.int (M 1000001 ((M 18 x1.toNatClampNeg).toNatClampNeg))], (DB o i0 i1 ext), M) rfl h.1 ?_
          have h := h.2
          exact T_ret rfl h
        · have h := h.2 hc4
          refine T_run 1 (4, 18, [some (.ref 17), some (.int x1)], [.int (-(nI 6))], (DB o i0 i1 ext), M) rfl ?_
          exact T_ret rfl h
set_option maxRecDepth 100000 in
theorem b_X1_hasPlace_0 {d : Nat} {Q : ARs → Prop} {o i0 i1 : Option Nat} {ext : ADd} {M : AMm} (x1 : Int32) (h : (x1 < 0 → Q (some (.int (nI 0)), (DB o i0 i1 ext), M)) ∧ (¬ x1 < 0 → ((M 2 2) ≤ x1 → Q (some (.int (nI 0)), (DB o i0 i1 ext), M)) ∧ (¬ (M 2 2) ≤ x1 → Q (some (.int (nI 1)), (DB o i0 i1 ext), M)))) : T d Q (ent 11 [.ref 2, .int x1] (DB o i0 i1 ext) M) := by
  refine T_run 1 (11, 1, [some (.ref 2), some (.int x1)], [.int x1], (DB o i0 i1 ext), M) rfl ?_
  refine T_br (x1 < 0) (11, 8, [some (.ref 2), some (.int x1)], [], (DB o i0 i1 ext), M) (11, 2, [some (.ref 2), some (.int x1)], [], (DB o i0 i1 ext), M) rfl (fun hc1 => ?_) (fun hc1 => ?_)
  · have h := h.1 hc1
    refine T_run 1 (11, 9, [some (.ref 2), some (.int x1)], [.int (nI 0)], (DB o i0 i1 ext), M) rfl ?_
    exact T_ret rfl h
  · have h := h.2 hc1
    refine T_run 3 (11, 5, [some (.ref 2), some (.int x1)], [.int (M 2 2), .int x1], (DB o i0 i1 ext), M) rfl ?_
    refine T_br ((M 2 2) ≤ x1) (11, 8, [some (.ref 2), some (.int x1)], [], (DB o i0 i1 ext), M) (11, 6, [some (.ref 2), some (.int x1)], [], (DB o i0 i1 ext), M) rfl (fun hc2 => ?_) (fun hc2 => ?_)
    · have h := h.1 hc2
      refine T_run 1 (11, 9, [some (.ref 2), some (.int x1)], [.int (nI 0)], (DB o i0 i1 ext), M) rfl ?_
      exact T_ret rfl h
    · have h := h.2 hc2
      refine T_run 2 (11, 9, [some (.ref 2), some (.int x1)], [.int (nI 1)], (DB o i0 i1 ext), M) rfl ?_
      exact T_ret rfl h
set_option maxRecDepth 100000 in
theorem b_X1_isOpen_0 {d : Nat} {Q : ARs → Prop} {o i0 i1 : Option Nat} {ext : ADd} {M : AMm} (x1 : Int32) (h : CI d 72 [.int (M 2 3), .int x1] (DB o i0 i1 ext) M (DB o i0 i1 ext) (fun v2 M1 => (v2 = 0 ∨ v2 = 1) ∧ Q (some (.int v2), (DB o i0 i1 ext), M1))) : T (d + 1) Q (ent 12 [.ref 2, .int x1] (DB o i0 i1 ext) M) := by
  refine T_run 3 (12, 3, [some (.ref 2), some (.int x1)], [.int x1, .int (M 2 3)], (DB o i0 i1 ext), M) rfl ?_
  refine T_callI (D' := (DB o i0 i1 ext)) rfl (CI_mono h (fun v2 M1 h => ?_))
  exact T_rg ((1 : Nat) = 0 ∨ v2 = 0 ∨ v2 = 1) (some (.int v2), (DB o i0 i1 ext), M1) rfl (Or.inr h.1) h.2
set_option maxRecDepth 100000 in
theorem b_X1_beside_0 {d : Nat} {Q : ARs → Prop} {o i0 i1 : Option Nat} {ext : ADd} {M : AMm} (x1 : Int32) (x2 : Int32) (h : CI d 11 [.ref 2, .int x1] (DB o i0 i1 ext) M (DB o i0 i1 ext) (fun v2 M1 => (v2 = 0 → Q (some (.int (-(nI 1))), (DB o i0 i1 ext), M1)) ∧ (¬ v2 = 0 → (x2 < 0 → Q (some (.int (-(nI 1))), (DB o i0 i1 ext), M1)) ∧ (¬ x2 < 0 → (x2 < (nI 4) → (vp_in ((x1 * (nI 4)) + x2) 64) ∧ (Q (some (.int (M1 4 (((x1 * (nI 4)) + x2).toNatClampNeg))), (DB o i0 i1 ext), M1))) ∧ (¬ x2 < (nI 4) → Q (some (.int (-(nI 1))), (DB o i0 i1 ext), M1)))))) : T (d + 1) Q (ent 13 [.ref 2, .int x1, .int x2] (DB o i0 i1 ext) M) := by
  refine T_run 2 (13, 2, [some (.ref 2), some (.int x1), some (.int x2)], [.int x1, .ref 2], (DB o i0 i1 ext), M) rfl ?_
  refine T_callI (D' := (DB o i0 i1 ext)) rfl (CI_mono h (fun v2 M1 h => ?_))
  refine T_br (v2 = 0) (13, 9, [some (.ref 2), some (.int x1), some (.int x2)], [], (DB o i0 i1 ext), M1) (13, 4, [some (.ref 2), some (.int x1), some (.int x2)], [], (DB o i0 i1 ext), M1) rfl (fun hc3 => ?_) (fun hc3 => ?_)
  · have h := h.1 hc3
    refine T_run 1 (13, 10, [some (.ref 2), some (.int x1), some (.int x2)], [.int (-(nI 1))], (DB o i0 i1 ext), M1) rfl ?_
    exact T_ret rfl h
  · have h := h.2 hc3
    refine T_run 1 (13, 5, [some (.ref 2), some (.int x1), some (.int x2)], [.int x2], (DB o i0 i1 ext), M1) rfl ?_
    refine T_br (x2 < 0) (13, 9, [some (.ref 2), some (.int x1), some (.int x2)], [], (DB o i0 i1 ext), M1) (13, 6, [some (.ref 2), some (.int x1), some (.int x2)], [], (DB o i0 i1 ext), M1) rfl (fun hc4 => ?_) (fun hc4 => ?_)
    · have h := h.1 hc4
      refine T_run 1 (13, 10, [some (.ref 2), some (.int x1), some (.int x2)], [.int (-(nI 1))], (DB o i0 i1 ext), M1) rfl ?_
      exact T_ret rfl h
    · have h := h.2 hc4
      refine T_run 2 (13, 8, [some (.ref 2), some (.int x1), some (.int x2)], [.int (nI 4), .int x2], (DB o i0 i1 ext), M1) rfl ?_
      refine T_br (x2 < (nI 4)) (13, 11, [some (.ref 2), some (.int x1), some (.int x2)], [], (DB o i0 i1 ext), M1) (13, 9, [some (.ref 2), some (.int x1), some (.int x2)], [], (DB o i0 i1 ext), M1) rfl (fun hc5 => ?_) (fun hc5 => ?_)
      · have h := h.1 hc5
        refine T_run 7 (13, 18, [some (.ref 2), some (.int x1), some (.int x2)], [.int ((x1 * (nI 4)) + x2), .ref 4], (DB o i0 i1 ext), M1) rfl ?_
        refine T_gd (((x1 * (nI 4)) + x2) < 0 ∨ 64 ≤ ((x1 * (nI 4)) + x2).toNatClampNeg) (13, 19, [some (.ref 2), some (.int x1), some (.int x2)], [.int (M1 4 (((x1 * (nI 4)) + x2).toNatClampNeg))], (DB o i0 i1 ext), M1) rfl h.1 ?_
        have h := h.2
        exact T_ret rfl h
      · have h := h.2 hc5
        refine T_run 1 (13, 10, [some (.ref 2), some (.int x1), some (.int x2)], [.int (-(nI 1))], (DB o i0 i1 ext), M1) rfl ?_
        exact T_ret rfl h
set_option maxRecDepth 100000 in
theorem b_X1_stepThatCanBe_0 {d : Nat} {Q : ARs → Prop} {o i0 i1 : Option Nat} {ext : ADd} {M : AMm} (x1 : Int32) (x2 : Int32) (x3 : Int32) (h : (x3 < 0 → Q (some (.int (-(nI 6))), (DB o i0 i1 ext), M)) ∧ (¬ x3 < 0 → CI d 11 [.ref 2, .int x1] (DB o i0 i1 ext) M (DB o i0 i1 ext) (fun v3 M2 => (v3 = 0 → Q (some (.int (-(nI 6))), (DB o i0 i1 ext), M2)) ∧ (¬ v3 = 0 → (vp_in x1 16) ∧ ((((M2 5 x1.toNatClampNeg) &&& x2) = 0 → Q (some (.int (-(nI 6))), (DB o i0 i1 ext), M2)) ∧ (¬ ((M2 5 x1.toNatClampNeg) &&& x2) = 0 → T (d + 1) Q (14, 17, [some (.ref 2), some (.int x1), some (.int x2), none, some (.int x3), none], [], (DB o i0 i1 ext), M2))))))) : T (d + 1) Q (ent 14 [.ref 2, .int x1, .int x2, .int x3] (DB o i0 i1 ext) M) := by
  refine T_run 1 (14, 1, [some (.ref 2), some (.int x1), some (.int x2), some (.int x3), none, none], [.int x3], (DB o i0 i1 ext), M) rfl ?_
  refine T_br (x3 < 0) (14, 13, [some (.ref 2), some (.int x1), some (.int x2), some (.int x3), none, none], [], (DB o i0 i1 ext), M) (14, 2, [some (.ref 2), some (.int x1), some (.int x2), some (.int x3), none, none], [], (DB o i0 i1 ext), M) rfl (fun hc1 => ?_) (fun hc1 => ?_)
  · have h := h.1 hc1
    refine T_run 1 (14, 14, [some (.ref 2), some (.int x1), some (.int x2), some (.int x3), none, none], [.int (-(nI 6))], (DB o i0 i1 ext), M) rfl ?_
    exact T_ret rfl h
  · have h := h.2 hc1
    refine T_run 2 (14, 4, [some (.ref 2), some (.int x1), some (.int x2), some (.int x3), none, none], [.int x1, .ref 2], (DB o i0 i1 ext), M) rfl ?_
    refine T_callI (D' := (DB o i0 i1 ext)) rfl (CI_mono h (fun v3 M2 h => ?_))
    refine T_br (v3 = 0) (14, 13, [some (.ref 2), some (.int x1), some (.int x2), some (.int x3), none, none], [], (DB o i0 i1 ext), M2) (14, 6, [some (.ref 2), some (.int x1), some (.int x2), some (.int x3), none, none], [], (DB o i0 i1 ext), M2) rfl (fun hc4 => ?_) (fun hc4 => ?_)
    · have h := h.1 hc4
      refine T_run 1 (14, 14, [some (.ref 2), some (.int x1), some (.int x2), some (.int x3), none, none], [.int (-(nI 6))], (DB o i0 i1 ext), M2) rfl ?_
      exact T_ret rfl h
    · have h := h.2 hc4
      refine T_run 3 (14, 9, [some (.ref 2), some (.int x1), some (.int x2), some (.int x3), none, none], [.int x1, .ref 5], (DB o i0 i1 ext), M2) rfl ?_
      refine T_gd (x1 < 0 ∨ 16 ≤ x1.toNatClampNeg) (14, 10, [some (.ref 2), some (.int x1), some (.int x2), some (.int x3), none, none], [.int (M2 5 x1.toNatClampNeg)], (DB o i0 i1 ext), M2) rfl h.1 ?_
      have h := h.2
      refine T_run 2 (14, 12, [some (.ref 2), some (.int x1), some (.int x2), some (.int x3), none, none], [.int ((M2 5 x1.toNatClampNeg) &&& x2)], (DB o i0 i1 ext), M2) rfl ?_
      refine T_br (((M2 5 x1.toNatClampNeg) &&& x2) = 0) (14, 13, [some (.ref 2), some (.int x1), some (.int x2), some (.int x3), none, none], [], (DB o i0 i1 ext), M2) (14, 15, [some (.ref 2), some (.int x1), some (.int x2), some (.int x3), none, none], [], (DB o i0 i1 ext), M2) rfl (fun hc5 => ?_) (fun hc5 => ?_)
      · have h := h.1 hc5
        refine T_run 1 (14, 14, [some (.ref 2), some (.int x1), some (.int x2), some (.int x3), none, none], [.int (-(nI 6))], (DB o i0 i1 ext), M2) rfl ?_
        exact T_ret rfl h
      · have h := h.2 hc5
        refine T_run 2 (14, 17, [some (.ref 2), some (.int x1), some (.int x2), some (.int x3), some (.int x3), none], [], (DB o i0 i1 ext), M2) rfl ?_
        exact T_le (a_le_1 (a_le_1 (a_le_1 (a_le_2 rfl (a_le_1 (a_le_1 a_le_n)))))) h
set_option maxRecDepth 100000 in
theorem b_X1_stepThatCanBe_17 {d : Nat} {Q : ARs → Prop} {o i0 i1 : Option Nat} {ext : ADd} {M : AMm} (x1 : Int32) (x2 : Int32) (x4 : Int32) (h : ((nI 4) ≤ x4 → Q (some (.int (-(nI 6))), (DB o i0 i1 ext), M)) ∧ (¬ (nI 4) ≤ x4 → (vp_in ((x1 * (nI 4)) + x4) 64) ∧ (((M 4 (((x1 * (nI 4)) + x4).toNatClampNeg)) < 0 → T d Q (14, 17, [some (.ref 2), some (.int x1), some (.int x2), none, some (.int (x4 + (nI 1))), none], [], (DB o i0 i1 ext), M)) ∧ (¬ (M 4 (((x1 * (nI 4)) + x4).toNatClampNeg)) < 0 → (((x2 >>> ((M 4 (((x1 * (nI 4)) + x4).toNatClampNeg)) &&& 31)) &&& (nI 1)) = (nI 1) → Q (some (.int x4), (DB o i0 i1 ext), M)) ∧ (¬ ((x2 >>> ((M 4 (((x1 * (nI 4)) + x4).toNatClampNeg)) &&& 31)) &&& (nI 1)) = (nI 1) → T d Q (14, 17, [some (.ref 2), some (.int x1), some (.int x2), none, some (.int (x4 + (nI 1))), none], [], (DB o i0 i1 ext), M)))))) : T d Q (14, 17, [some (.ref 2), some (.int x1), some (.int x2), none, some (.int x4), none], [], (DB o i0 i1 ext), M) := by
  refine T_run 2 (14, 19, [some (.ref 2), some (.int x1), some (.int x2), none, some (.int x4), none], [.int (nI 4), .int x4], (DB o i0 i1 ext), M) rfl ?_
  refine T_br ((nI 4) ≤ x4) (14, 42, [some (.ref 2), some (.int x1), some (.int x2), none, some (.int x4), none], [], (DB o i0 i1 ext), M) (14, 20, [some (.ref 2), some (.int x1), some (.int x2), none, some (.int x4), none], [], (DB o i0 i1 ext), M) rfl (fun hc1 => ?_) (fun hc1 => ?_)
  · have h := h.1 hc1
    refine T_run 1 (14, 43, [some (.ref 2), some (.int x1), some (.int x2), none, some (.int x4), none], [.int (-(nI 6))], (DB o i0 i1 ext), M) rfl ?_
    exact T_ret rfl h
  · have h := h.2 hc1
    refine T_run 7 (14, 27, [some (.ref 2), some (.int x1), some (.int x2), none, some (.int x4), none], [.int ((x1 * (nI 4)) + x4), .ref 4], (DB o i0 i1 ext), M) rfl ?_
    refine T_gd (((x1 * (nI 4)) + x4) < 0 ∨ 64 ≤ ((x1 * (nI 4)) + x4).toNatClampNeg) (14, 28, [some (.ref 2), some (.int x1), some (.int x2), none, some (.int x4), none], [.int (M 4 (((x1 * (nI 4)) + x4).toNatClampNeg))], (DB o i0 i1 ext), M) rfl h.1 ?_
    have h := h.2
    refine T_run 2 (14, 30, [some (.ref 2), some (.int x1), some (.int x2), none, some (.int x4), some (.int (M 4 (((x1 * (nI 4)) + x4).toNatClampNeg)))], [.int (M 4 (((x1 * (nI 4)) + x4).toNatClampNeg))], (DB o i0 i1 ext), M) rfl ?_
    refine T_br ((M 4 (((x1 * (nI 4)) + x4).toNatClampNeg)) < 0) (14, 40, [some (.ref 2), some (.int x1), some (.int x2), none, some (.int x4), some (.int (M 4 (((x1 * (nI 4)) + x4).toNatClampNeg)))], [], (DB o i0 i1 ext), M) (14, 31, [some (.ref 2), some (.int x1), some (.int x2), none, some (.int x4), some (.int (M 4 (((x1 * (nI 4)) + x4).toNatClampNeg)))], [], (DB o i0 i1 ext), M) rfl (fun hc2 => ?_) (fun hc2 => ?_)
    · have h := h.1 hc2
      refine T_run 2 (14, 17, [some (.ref 2), some (.int x1), some (.int x2), none, some (.int (x4 + (nI 1))), some (.int (M 4 (((x1 * (nI 4)) + x4).toNatClampNeg)))], [], (DB o i0 i1 ext), M) rfl ?_
      exact T_le (a_le_1 (a_le_1 (a_le_1 (a_le_1 (a_le_1 (a_le_2 rfl a_le_n)))))) h
    · have h := h.2 hc2
      refine T_run 6 (14, 37, [some (.ref 2), some (.int x1), some (.int x2), none, some (.int x4), some (.int (M 4 (((x1 * (nI 4)) + x4).toNatClampNeg)))], [.int (nI 1), .int ((x2 >>> ((M 4 (((x1 * (nI 4)) + x4).toNatClampNeg)) &&& 31)) &&& (nI 1))], (DB o i0 i1 ext), M) rfl ?_
      refine T_br (((x2 >>> ((M 4 (((x1 * (nI 4)) + x4).toNatClampNeg)) &&& 31)) &&& (nI 1)) = (nI 1)) (14, 38, [some (.ref 2), some (.int x1), some (.int x2), none, some (.int x4), some (.int (M 4 (((x1 * (nI 4)) + x4).toNatClampNeg)))], [], (DB o i0 i1 ext), M) (14, 40, [some (.ref 2), some (.int x1), some (.int x2), none, some (.int x4), some (.int (M 4 (((x1 * (nI 4)) + x4).toNatClampNeg)))], [], (DB o i0 i1 ext), M) rfl (fun hc3 => ?_) (fun hc3 => ?_)
      · have h := h.1 hc3
        refine T_run 1 (14, 39, [some (.ref 2), some (.int x1), some (.int x2), none, some (.int x4), some (.int (M 4 (((x1 * (nI 4)) + x4).toNatClampNeg)))], [.int x4], (DB o i0 i1 ext), M) rfl ?_
        exact T_ret rfl h
      · have h := h.2 hc3
        refine T_run 2 (14, 17, [some (.ref 2), some (.int x1), some (.int x2), none, some (.int (x4 + (nI 1))), some (.int (M 4 (((x1 * (nI 4)) + x4).toNatClampNeg)))], [], (DB o i0 i1 ext), M) rfl ?_
        exact T_le (a_le_1 (a_le_1 (a_le_1 (a_le_1 (a_le_1 (a_le_2 rfl a_le_n)))))) h
set_option maxRecDepth 100000 in
theorem b_X1_isBlind_0 {d : Nat} {Q : ARs → Prop} {o i0 i1 : Option Nat} {ext : ADd} {M : AMm} (x1 : Int32) (x2 : Int32) (h : CI d 11 [.ref 2, .int x1] (DB o i0 i1 ext) M (DB o i0 i1 ext) (fun v2 M1 => (v2 = 0 → Q (some (.int (nI 1)), (DB o i0 i1 ext), M1)) ∧ (¬ v2 = 0 → (vp_in x1 16) ∧ ((((M1 5 x1.toNatClampNeg) &&& x2) = 0 → Q (some (.int (nI 1)), (DB o i0 i1 ext), M1)) ∧ (¬ ((M1 5 x1.toNatClampNeg) &&& x2) = 0 → Q (some (.int (nI 0)), (DB o i0 i1 ext), M1)))))) : T (d + 1) Q (ent 15 [.ref 2, .int x1, .int x2] (DB o i0 i1 ext) M) := by
  refine T_run 2 (15, 2, [some (.ref 2), some (.int x1), some (.int x2)], [.int x1, .ref 2], (DB o i0 i1 ext), M) rfl ?_
  refine T_callI (D' := (DB o i0 i1 ext)) rfl (CI_mono h (fun v2 M1 h => ?_))
  refine T_br (v2 = 0) (15, 11, [some (.ref 2), some (.int x1), some (.int x2)], [], (DB o i0 i1 ext), M1) (15, 4, [some (.ref 2), some (.int x1), some (.int x2)], [], (DB o i0 i1 ext), M1) rfl (fun hc3 => ?_) (fun hc3 => ?_)
  · have h := h.1 hc3
    refine T_run 2 (15, 14, [some (.ref 2), some (.int x1), some (.int x2)], [.int (nI 1)], (DB o i0 i1 ext), M1) rfl ?_
    exact T_ret rfl h
  · have h := h.2 hc3
    refine T_run 3 (15, 7, [some (.ref 2), some (.int x1), some (.int x2)], [.int x1, .ref 5], (DB o i0 i1 ext), M1) rfl ?_
    refine T_gd (x1 < 0 ∨ 16 ≤ x1.toNatClampNeg) (15, 8, [some (.ref 2), some (.int x1), some (.int x2)], [.int (M1 5 x1.toNatClampNeg)], (DB o i0 i1 ext), M1) rfl h.1 ?_
    have h := h.2
    refine T_run 2 (15, 10, [some (.ref 2), some (.int x1), some (.int x2)], [.int ((M1 5 x1.toNatClampNeg) &&& x2)], (DB o i0 i1 ext), M1) rfl ?_
    refine T_br (((M1 5 x1.toNatClampNeg) &&& x2) = 0) (15, 11, [some (.ref 2), some (.int x1), some (.int x2)], [], (DB o i0 i1 ext), M1) (15, 13, [some (.ref 2), some (.int x1), some (.int x2)], [], (DB o i0 i1 ext), M1) rfl (fun hc4 => ?_) (fun hc4 => ?_)
    · have h := h.1 hc4
      refine T_run 2 (15, 14, [some (.ref 2), some (.int x1), some (.int x2)], [.int (nI 1)], (DB o i0 i1 ext), M1) rfl ?_
      exact T_ret rfl h
    · have h := h.2 hc4
      refine T_run 1 (15, 14, [some (.ref 2), some (.int x1), some (.int x2)], [.int (nI 0)], (DB o i0 i1 ext), M1) rfl ?_
      exact T_ret rfl h
set_option maxRecDepth 100000 in
theorem b_X1_freeFrom_0 {d : Nat} {Q : ARs → Prop} {o i0 i1 : Option Nat} {ext : ADd} {M : AMm} (x1 : Int32) (h : Q (some (.int ((M 2 3) &&& (((nI 1) <<< (x1 &&& 31)) ^^^ (-(nI 1))))), (DB o i0 i1 ext), M)) : T d Q (ent 16 [.ref 2, .int x1] (DB o i0 i1 ext) M) := by
  refine T_run 8 (16, 8, [some (.ref 2), some (.int x1)], [.int ((M 2 3) &&& (((nI 1) <<< (x1 &&& 31)) ^^^ (-(nI 1))))], (DB o i0 i1 ext), M) rfl ?_
  exact T_ret rfl h
set_option maxRecDepth 100000 in
theorem b_X1_brings_0 {d : Nat} {Q : ARs → Prop} {o i0 i1 : Option Nat} {ext : ADd} {M : AMm} (x1 : Int32) (x2 : Int32) (h : CI d 11 [.ref 2, .int x1] (DB o i0 i1 ext) M (DB o i0 i1 ext) (fun v2 M1 => (v2 = 0 → Q (some (.int (nI 0)), (DB o i0 i1 ext), M1)) ∧ (¬ v2 = 0 → (vp_in x1 16) ∧ (Q (some (.int (a_mm 0 (nI 0) ((M1 3 x1.toNatClampNeg) - ((M1 2 5) * x2)))), (DB o i0 i1 ext), M1))))) : T (d + 1) Q (ent 17 [.ref 2, .int x1, .int x2] (DB o i0 i1 ext) M) := by
  refine T_run 2 (17, 2, [some (.ref 2), some (.int x1), some (.int x2)], [.int x1, .ref 2], (DB o i0 i1 ext), M) rfl ?_
  refine T_callI (D' := (DB o i0 i1 ext)) rfl (CI_mono h (fun v2 M1 h => ?_))
  refine T_br (v2 = 0) (17, 16, [some (.ref 2), some (.int x1), some (.int x2)], [], (DB o i0 i1 ext), M1) (17, 4, [some (.ref 2), some (.int x1), some (.int x2)], [], (DB o i0 i1 ext), M1) rfl (fun hc3 => ?_) (fun hc3 => ?_)
  · have h := h.1 hc3
    refine T_run 1 (17, 17, [some (.ref 2), some (.int x1), some (.int x2)], [.int (nI 0)], (DB o i0 i1 ext), M1) rfl ?_
    exact T_ret rfl h
  · have h := h.2 hc3
    refine T_run 4 (17, 8, [some (.ref 2), some (.int x1), some (.int x2)], [.int x1, .ref 3, .int (nI 0)], (DB o i0 i1 ext), M1) rfl ?_
    refine T_gd (x1 < 0 ∨ 16 ≤ x1.toNatClampNeg) (17, 9, [some (.ref 2), some (.int x1), some (.int x2)], [.int (M1 3 x1.toNatClampNeg), .int (nI 0)], (DB o i0 i1 ext), M1) rfl h.1 ?_
    have h := h.2
    refine T_run 7 (17, 17, [some (.ref 2), some (.int x1), some (.int x2)], [.int (a_mm 0 (nI 0) ((M1 3 x1.toNatClampNeg) - ((M1 2 5) * x2)))], (DB o i0 i1 ext), M1) rfl ?_
    exact T_ret rfl h
set_option maxRecDepth 100000 in
theorem b_X1_earsOf_0 {d : Nat} {Q : ARs → Prop} {o i0 i1 : Option Nat} {ext : ADd} {M : AMm} (x1 : Int32) (h : T d Q (18, 4, [some (.ref 2), some (.int x1), some (.int (nI 0)), some (.int (nI 0))], [], (DB o i0 i1 ext), M)) : T d Q (ent 18 [.ref 2, .int x1] (DB o i0 i1 ext) M) := by
  refine T_run 4 (18, 4, [some (.ref 2), some (.int x1), some (.int (nI 0)), some (.int (nI 0))], [], (DB o i0 i1 ext), M) rfl ?_
  exact h
set_option maxRecDepth 100000 in
theorem b_X1_earsOf_4 {d : Nat} {Q : ARs → Prop} {o i0 i1 : Option Nat} {ext : ADd} {M : AMm} (x1 : Int32) (x2 : Int32) (x3 : Int32) (h : ((M 2 2) ≤ x3 → Q (some (.int x2), (DB o i0 i1 ext), M)) ∧ (¬ (M 2 2) ≤ x3 → CI d 72 [.int x1, .int x3] (DB o i0 i1 ext) M (DB o i0 i1 ext) (fun v3 M2 => (v3 = 0 → T (d + 1) Q (18, 4, [some (.ref 2), some (.int x1), some (.int x2), some (.int (x3 + (nI 1)))], [], (DB o i0 i1 ext), M2)) ∧ (¬ v3 = 0 → (vp_in x3 16) ∧ (T (d + 1) Q (18, 4, [some (.ref 2), some (.int x1), some (.int (x2 + (M2 3 x3.toNatClampNeg))), some (.int (x3 + (nI 1)))], [], (DB o i0 i1 ext), M2)))))) : T (d + 1) Q (18, 4, [some (.ref 2), some (.int x1), some (.int x2), some (.int x3)], [], (DB o i0 i1 ext), M) := by
  refine T_run 3 (18, 7, [some (.ref 2), some (.int x1), some (.int x2), some (.int x3)], [.int (M 2 2), .int x3], (DB o i0 i1 ext), M) rfl ?_
  refine T_br ((M 2 2) ≤ x3) (18, 21, [some (.ref 2), some (.int x1), some (.int x2), some (.int x3)], [], (DB o i0 i1 ext), M) (18, 8, [some (.ref 2), some (.int x1), some (.int x2), some (.int x3)], [], (DB o i0 i1 ext), M) rfl (fun hc1 => ?_) (fun hc1 => ?_)
  · have h := h.1 hc1
    refine T_run 1 (18, 22, [some (.ref 2), some (.int x1), some (.int x2), some (.int x3)], [.int x2], (DB o i0 i1 ext), M) rfl ?_
    exact T_ret rfl h
  · have h := h.2 hc1
    refine T_run 2 (18, 10, [some (.ref 2), some (.int x1), some (.int x2), some (.int x3)], [.int x3, .int x1], (DB o i0 i1 ext), M) rfl ?_
    refine T_callI (D' := (DB o i0 i1 ext)) rfl (CI_mono h (fun v3 M2 h => ?_))
    refine T_br (v3 = 0) (18, 19, [some (.ref 2), some (.int x1), some (.int x2), some (.int x3)], [], (DB o i0 i1 ext), M2) (18, 12, [some (.ref 2), some (.int x1), some (.int x2), some (.int x3)], [], (DB o i0 i1 ext), M2) rfl (fun hc4 => ?_) (fun hc4 => ?_)
    · have h := h.1 hc4
      refine T_run 2 (18, 4, [some (.ref 2), some (.int x1), some (.int x2), some (.int (x3 + (nI 1)))], [], (DB o i0 i1 ext), M2) rfl ?_
      exact h
    · have h := h.2 hc4
      refine T_run 4 (18, 16, [some (.ref 2), some (.int x1), some (.int x2), some (.int x3)], [.int x3, .ref 3, .int x2], (DB o i0 i1 ext), M2) rfl ?_
      refine T_gd (x3 < 0 ∨ 16 ≤ x3.toNatClampNeg) (18, 17, [some (.ref 2), some (.int x1), some (.int x2), some (.int x3)], [.int (M2 3 x3.toNatClampNeg), .int x2], (DB o i0 i1 ext), M2) rfl h.1 ?_
      have h := h.2
      refine T_run 4 (18, 4, [some (.ref 2), some (.int x1), some (.int (x2 + (M2 3 x3.toNatClampNeg))), some (.int (x3 + (nI 1)))], [], (DB o i0 i1 ext), M2) rfl ?_
      exact h
set_option maxRecDepth 100000 in
theorem b_X1_reach_0 {d : Nat} {Q : ARs → Prop} {o i0 i1 : Option Nat} {ext : ADd} {M : AMm} (x1 : Int32) (x2 : Int32) (h : T d Q (19, 6, [some (.ref 2), none, some (.int x2), some (.int ((nI 1) <<< (x1 &&& 31))), some (.int (nI 0)), none, none], [], (DB o i0 i1 ext), M)) : T d Q (ent 19 [.ref 2, .int x1, .int x2] (DB o i0 i1 ext) M) := by
  refine T_run 6 (19, 6, [some (.ref 2), some (.int x1), some (.int x2), some (.int ((nI 1) <<< (x1 &&& 31))), some (.int (nI 0)), none, none], [], (DB o i0 i1 ext), M) rfl ?_
  exact T_le (a_le_1 (a_le_2 rfl (a_le_1 (a_le_1 (a_le_1 (a_le_1 (a_le_1 a_le_n))))))) h
set_option maxRecDepth 100000 in
theorem b_X1_reach_6 {d : Nat} {Q : ARs → Prop} {o i0 i1 : Option Nat} {ext : ADd} {M : AMm} (x2 : Int32) (x3 : Int32) (x4 : Int32) (h : ((nI 16) ≤ x4 → Q (some (.int x3), (DB o i0 i1 ext), M)) ∧ (¬ (nI 16) ≤ x4 → T d Q (19, 13, [some (.ref 2), none, some (.int x2), some (.int x3), some (.int x4), some (.int x3), some (.int (nI 0))], [], (DB o i0 i1 ext), M))) : T d Q (19, 6, [some (.ref 2), none, some (.int x2), some (.int x3), some (.int x4), none, none], [], (DB o i0 i1 ext), M) := by
  refine T_run 2 (19, 8, [some (.ref 2), none, some (.int x2), some (.int x3), some (.int x4), none, none], [.int (nI 16), .int x4], (DB o i0 i1 ext), M) rfl ?_
  refine T_br ((nI 16) ≤ x4) (19, 41, [some (.ref 2), none, some (.int x2), some (.int x3), some (.int x4), none, none], [], (DB o i0 i1 ext), M) (19, 9, [some (.ref 2), none, some (.int x2), some (.int x3), some (.int x4), none, none], [], (DB o i0 i1 ext), M) rfl (fun hc1 => ?_) (fun hc1 => ?_)
  · have h := h.1 hc1
    refine T_run 1 (19, 42, [some (.ref 2), none, some (.int x2), some (.int x3), some (.int x4), none, none], [.int x3], (DB o i0 i1 ext), M) rfl ?_
    exact T_ret rfl h
  · have h := h.2 hc1
    refine T_run 4 (19, 13, [some (.ref 2), none, some (.int x2), some (.int x3), some (.int x4), some (.int x3), some (.int (nI 0))], [], (DB o i0 i1 ext), M) rfl ?_
    exact h
set_option maxRecDepth 100000 in
theorem b_X1_reach_13 {d : Nat} {Q : ARs → Prop} {o i0 i1 : Option Nat} {ext : ADd} {M : AMm} (x2 : Int32) (x3 : Int32) (x4 : Int32) (x5 : Int32) (x6 : Int32) (h : ((M 2 2) ≤ x6 → (x5 = x3 → Q (some (.int x3), (DB o i0 i1 ext), M)) ∧ (¬ x5 = x3 → T (d + 1) Q (19, 6, [some (.ref 2), none, some (.int x2), some (.int x5), some (.int (x4 + (nI 1))), none, none], [], (DB o i0 i1 ext), M))) ∧ (¬ (M 2 2) ≤ x6 → CI d 72 [.int x3, .int x6] (DB o i0 i1 ext) M (DB o i0 i1 ext) (fun v4 M3 => (v4 = 0 → T (d + 1) Q (19, 13, [some (.ref 2), none, some (.int x2), some (.int x3), some (.int x4), some (.int x5), some (.int (x6 + (nI 1)))], [], (DB o i0 i1 ext), M3)) ∧ (¬ v4 = 0 → (vp_in x6 16) ∧ (T (d + 1) Q (19, 13, [some (.ref 2), none, some (.int x2), some (.int x3), some (.int x4), some (.int (x5 ||| ((M3 5 x6.toNatClampNeg) &&& x2))), some (.int (x6 + (nI 1)))], [], (DB o i0 i1 ext), M3)))))) : T (d + 1) Q (19, 13, [some (.ref 2), none, some (.int x2), some (.int x3), some (.int x4), some (.int x5), some (.int x6)], [], (DB o i0 i1 ext), M) := by
  refine T_run 3 (19, 16, [some (.ref 2), none, some (.int x2), some (.int x3), some (.int x4), some (.int x5), some (.int x6)], [.int (M 2 2), .int x6], (DB o i0 i1 ext), M) rfl ?_
  refine T_br ((M 2 2) ≤ x6) (19, 32, [some (.ref 2), none, some (.int x2), some (.int x3), some (.int x4), some (.int x5), some (.int x6)], [], (DB o i0 i1 ext), M) (19, 17, [some (.ref 2), none, some (.int x2), some (.int x3), some (.int x4), some (.int x5), some (.int x6)], [], (DB o i0 i1 ext), M) rfl (fun hc1 => ?_) (fun hc1 => ?_)
  · have h := h.1 hc1
    refine T_run 2 (19, 34, [some (.ref 2), none, some (.int x2), some (.int x3), some (.int x4), some (.int x5), some (.int x6)], [.int x3, .int x5], (DB o i0 i1 ext), M) rfl ?_
    refine T_br (x5 = x3) (19, 35, [some (.ref 2), none, some (.int x2), some (.int x3), some (.int x4), some (.int x5), some (.int x6)], [], (DB o i0 i1 ext), M) (19, 37, [some (.ref 2), none, some (.int x2), some (.int x3), some (.int x4), some (.int x5), some (.int x6)], [], (DB o i0 i1 ext), M) rfl (fun hc2 => ?_) (fun hc2 => ?_)
    · have h := h.1 hc2
      refine T_run 1 (19, 36, [some (.ref 2), none, some (.int x2), some (.int x3), some (.int x4), some (.int x5), some (.int x6)], [.int x3], (DB o i0 i1 ext), M) rfl ?_
      exact T_ret rfl h
    · have h := h.2 hc2
      refine T_run 4 (19, 6, [some (.ref 2), none, some (.int x2), some (.int x5), some (.int (x4 + (nI 1))), some (.int x5), some (.int x6)], [], (DB o i0 i1 ext), M) rfl ?_
      exact T_le (a_le_1 (a_le_1 (a_le_1 (a_le_1 (a_le_1 (a_le_2 rfl (a_le_2 rfl a_le_n))))))) h
  · have h := h.2 hc1
    refine T_run 2 (19, 19, [some (.ref 2), none, some (.int x2), some (.int x3), some (.int x4), some (.int x5), some (.int x6)], [.int x6, .int x3], (DB o i0 i1 ext), M) rfl ?_
    refine T_callI (D' := (DB o i0 i1 ext)) rfl (CI_mono h (fun v4 M3 h => ?_))
    refine T_br (v4 = 0) (19, 30, [some (.ref 2), none, some (.int x2), some (.int x3), some (.int x4), some (.int x5), some (.int x6)], [], (DB o i0 i1 ext), M3) (19, 21, [some (.ref 2), none, some (.int x2), some (.int x3), some (.int x4), some (.int x5), some (.int x6)], [], (DB o i0 i1 ext), M3) rfl (fun hc5 => ?_) (fun hc5 => ?_)
    · have h := h.1 hc5
      refine T_run 2 (19, 13, [some (.ref 2), none, some (.int x2), some (.int x3), some (.int x4), some (.int x5), some (.int (x6 + (nI 1)))], [], (DB o i0 i1 ext), M3) rfl ?_
      exact h
    · have h := h.2 hc5
      refine T_run 4 (19, 25, [some (.ref 2), none, some (.int x2), some (.int x3), some (.int x4), some (.int x5), some (.int x6)], [.int x6, .ref 5, .int x5], (DB o i0 i1 ext), M3) rfl ?_
      refine T_gd (x6 < 0 ∨ 16 ≤ x6.toNatClampNeg) (19, 26, [some (.ref 2), none, some (.int x2), some (.int x3), some (.int x4), some (.int x5), some (.int x6)], [.int (M3 5 x6.toNatClampNeg), .int x5], (DB o i0 i1 ext), M3) rfl h.1 ?_
      have h := h.2
      refine T_run 6 (19, 13, [some (.ref 2), none, some (.int x2), some (.int x3), some (.int x4), some (.int (x5 ||| ((M3 5 x6.toNatClampNeg) &&& x2))), some (.int (x6 + (nI 1)))], [], (DB o i0 i1 ext), M3) rfl ?_
      exact h
set_option maxRecDepth 100000 in
theorem b_X1_colour_0 {d : Nat} {Q : ARs → Prop} {o i0 i1 : Option Nat} {ext : ADd} {M : AMm} (x1 : Int32) (h : ((M 2 1) ≤ 0 → Q (some (.int (nI 0)), (DB o i0 i1 ext), M)) ∧ (¬ (M 2 1) ≤ 0 → (¬ (M 2 1) = 0) ∧ ((¬ (M 2 1) = 0) ∧ (Q (some (.int (((x1 / (M 2 1)) + (x1 - x1 / (M 2 1) * (M 2 1))) - ((x1 / (M 2 1)) + (x1 - x1 / (M 2 1) * (M 2 1))) / (nI 2) * (nI 2))), (DB o i0 i1 ext), M))))) : T d Q (ent 21 [.ref 2, .int x1] (DB o i0 i1 ext) M) := by
  refine T_run 2 (21, 2, [some (.ref 2), some (.int x1)], [.int (M 2 1)], (DB o i0 i1 ext), M) rfl ?_
  refine T_br ((M 2 1) ≤ 0) (21, 15, [some (.ref 2), some (.int x1)], [], (DB o i0 i1 ext), M) (21, 3, [some (.ref 2), some (.int x1)], [], (DB o i0 i1 ext), M) rfl (fun hc1 => ?_) (fun hc1 => ?_)
  · have h := h.1 hc1
    refine T_run 1 (21, 16, [some (.ref 2), some (.int x1)], [.int (nI 0)], (DB o i0 i1 ext), M) rfl ?_
    exact T_ret rfl h
  · have h := h.2 hc1
    refine T_run 3 (21, 6, [some (.ref 2), some (.int x1)], [.int (M 2 1), .int x1], (DB o i0 i1 ext), M) rfl ?_
    refine T_gd ((M 2 1) = 0) (21, 7, [some (.ref 2), some (.int x1)], [.int (x1 / (M 2 1))], (DB o i0 i1 ext), M) rfl h.1 ?_
    have h := h.2
    refine T_run 3 (21, 10, [some (.ref 2), some (.int x1)], [.int (M 2 1), .int x1, .int (x1 / (M 2 1))], (DB o i0 i1 ext), M) rfl ?_
    refine T_gd ((M 2 1) = 0) (21, 11, [some (.ref 2), some (.int x1)], [.int (x1 - x1 / (M 2 1) * (M 2 1)), .int (x1 / (M 2 1))], (DB o i0 i1 ext), M) rfl h.1 ?_
    have h := h.2
    refine T_run 2 (21, 13, [some (.ref 2), some (.int x1)], [.int (nI 2), .int ((x1 / (M 2 1)) + (x1 - x1 / (M 2 1) * (M 2 1)))], (DB o i0 i1 ext), M) rfl ?_
    refine T_gd ((nI 2) = 0) (21, 14, [some (.ref 2), some (.int x1)], [.int (((x1 / (M 2 1)) + (x1 - x1 / (M 2 1) * (M 2 1))) - ((x1 / (M 2 1)) + (x1 - x1 / (M 2 1) * (M 2 1))) / (nI 2) * (nI 2))], (DB o i0 i1 ext), M) rfl (by decide) ?_
    refine T_run 1 (21, 16, [some (.ref 2), some (.int x1)], [.int (((x1 / (M 2 1)) + (x1 - x1 / (M 2 1) * (M 2 1))) - ((x1 / (M 2 1)) + (x1 - x1 / (M 2 1) * (M 2 1))) / (nI 2) * (nI 2))], (DB o i0 i1 ext), M) rfl ?_
    exact T_ret rfl h
set_option maxRecDepth 100000 in
theorem b_X1_boundFrom_0 {d : Nat} {Q : ARs → Prop} {o i0 i1 : Option Nat} {ext : ADd} {M : AMm} (x1 : Int32) (h : CI d 19 [.ref 2, .int x1, .int (M 2 3)] (DB o i0 i1 ext) M (DB o i0 i1 ext) (fun v2 M1 => T (d + 1) Q (20, 12, [some (.ref 2), some (.int x1), some (.int v2), some (.int (nI 0)), some (.int (nI 0)), some (.int (nI 0))], [], (DB o i0 i1 ext), M1))) : T (d + 1) Q (ent 20 [.ref 2, .int x1] (DB o i0 i1 ext) M) := by
  refine T_run 4 (20, 4, [some (.ref 2), some (.int x1), none, none, none, none], [.int (M 2 3), .int x1, .ref 2], (DB o i0 i1 ext), M) rfl ?_
  refine T_callI (D' := (DB o i0 i1 ext)) rfl (CI_mono h (fun v2 M1 h => ?_))
  refine T_run 7 (20, 12, [some (.ref 2), some (.int x1), some (.int v2), some (.int (nI 0)), some (.int (nI 0)), some (.int (nI 0))], [], (DB o i0 i1 ext), M1) rfl ?_
  exact h
set_option maxRecDepth 100000 in
theorem b_X1_boundFrom_12 {d : Nat} {Q : ARs → Prop} {o i0 i1 : Option Nat} {ext : ADd} {M : AMm} (x1 : Int32) (x2 : Int32) (x3 : Int32) (x4 : Int32) (x5 : Int32) (h : ((M 2 2) ≤ x5 → (x4 < x3 → Q (some (.int (((nI 2) * x4) + (nI 1))), (DB o i0 i1 ext), M)) ∧ (¬ x4 < x3 → Q (some (.int ((nI 2) * x3)), (DB o i0 i1 ext), M))) ∧ (¬ (M 2 2) ≤ x5 → CI d 72 [.int x2, .int x5] (DB o i0 i1 ext) M (DB o i0 i1 ext) (fun v4 M3 => (v4 = 0 → T (d + 1) Q (20, 12, [some (.ref 2), some (.int x1), some (.int x2), some (.int x3), some (.int x4), some (.int (x5 + (nI 1)))], [], (DB o i0 i1 ext), M3)) ∧ (¬ v4 = 0 → CI d 21 [.ref 2, .int x5] (DB o i0 i1 ext) M3 (DB o i0 i1 ext) (fun v7 M6 => CI d 21 [.ref 2, .int x1] (DB o i0 i1 ext) M6 (DB o i0 i1 ext) (fun v9 M8 => (v7 = v9 → T (d + 1) Q (20, 12, [some (.ref 2), some (.int x1), some (.int x2), some (.int (x3 + (nI 1))), some (.int x4), some (.int (x5 + (nI 1)))], [], (DB o i0 i1 ext), M8)) ∧ (¬ v7 = v9 → T (d + 1) Q (20, 12, [some (.ref 2), some (.int x1), some (.int x2), some (.int x3), some (.int (x4 + (nI 1))), some (.int (x5 + (nI 1)))], [], (DB o i0 i1 ext), M8)))))))) : T (d + 1) Q (20, 12, [some (.ref 2), some (.int x1), some (.int x2), some (.int x3), some (.int x4), some (.int x5)], [], (DB o i0 i1 ext), M) := by
  refine T_run 3 (20, 15, [some (.ref 2), some (.int x1), some (.int x2), some (.int x3), some (.int x4), some (.int x5)], [.int (M 2 2), .int x5], (DB o i0 i1 ext), M) rfl ?_
  refine T_br ((M 2 2) ≤ x5) (20, 32, [some (.ref 2), some (.int x1), some (.int x2), some (.int x3), some (.int x4), some (.int x5)], [], (DB o i0 i1 ext), M) (20, 16, [some (.ref 2), some (.int x1), some (.int x2), some (.int x3), some (.int x4), some (.int x5)], [], (DB o i0 i1 ext), M) rfl (fun hc1 => ?_) (fun hc1 => ?_)
  · have h := h.1 hc1
    refine T_run 2 (20, 34, [some (.ref 2), some (.int x1), some (.int x2), some (.int x3), some (.int x4), some (.int x5)], [.int x4, .int x3], (DB o i0 i1 ext), M) rfl ?_
    refine T_br (x4 < x3) (20, 39, [some (.ref 2), some (.int x1), some (.int x2), some (.int x3), some (.int x4), some (.int x5)], [], (DB o i0 i1 ext), M) (20, 35, [some (.ref 2), some (.int x1), some (.int x2), some (.int x3), some (.int x4), some (.int x5)], [], (DB o i0 i1 ext), M) rfl (fun hc2 => ?_) (fun hc2 => ?_)
    · have h := h.1 hc2
      refine T_run 5 (20, 44, [some (.ref 2), some (.int x1), some (.int x2), some (.int x3), some (.int x4), some (.int x5)], [.int (((nI 2) * x4) + (nI 1))], (DB o i0 i1 ext), M) rfl ?_
      exact T_ret rfl h
    · have h := h.2 hc2
      refine T_run 4 (20, 44, [some (.ref 2), some (.int x1), some (.int x2), some (.int x3), some (.int x4), some (.int x5)], [.int ((nI 2) * x3)], (DB o i0 i1 ext), M) rfl ?_
      exact T_ret rfl h
  · have h := h.2 hc1
    refine T_run 2 (20, 18, [some (.ref 2), some (.int x1), some (.int x2), some (.int x3), some (.int x4), some (.int x5)], [.int x5, .int x2], (DB o i0 i1 ext), M) rfl ?_
    refine T_callI (D' := (DB o i0 i1 ext)) rfl (CI_mono h (fun v4 M3 h => ?_))
    refine T_br (v4 = 0) (20, 30, [some (.ref 2), some (.int x1), some (.int x2), some (.int x3), some (.int x4), some (.int x5)], [], (DB o i0 i1 ext), M3) (20, 20, [some (.ref 2), some (.int x1), some (.int x2), some (.int x3), some (.int x4), some (.int x5)], [], (DB o i0 i1 ext), M3) rfl (fun hc5 => ?_) (fun hc5 => ?_)
    · have h := h.1 hc5
      refine T_run 2 (20, 12, [some (.ref 2), some (.int x1), some (.int x2), some (.int x3), some (.int x4), some (.int (x5 + (nI 1)))], [], (DB o i0 i1 ext), M3) rfl ?_
      exact h
    · have h := h.2 hc5
      refine T_run 2 (20, 22, [some (.ref 2), some (.int x1), some (.int x2), some (.int x3), some (.int x4), some (.int x5)], [.int x5, .ref 2], (DB o i0 i1 ext), M3) rfl ?_
      refine T_callI (D' := (DB o i0 i1 ext)) rfl (CI_mono h (fun v7 M6 h => ?_))
      refine T_run 2 (20, 25, [some (.ref 2), some (.int x1), some (.int x2), some (.int x3), some (.int x4), some (.int x5)], [.int x1, .ref 2, .int v7], (DB o i0 i1 ext), M6) rfl ?_
      refine T_callI (D' := (DB o i0 i1 ext)) rfl (CI_mono h (fun v9 M8 h => ?_))
      refine T_br (v7 = v9) (20, 27, [some (.ref 2), some (.int x1), some (.int x2), some (.int x3), some (.int x4), some (.int x5)], [], (DB o i0 i1 ext), M8) (20, 29, [some (.ref 2), some (.int x1), some (.int x2), some (.int x3), some (.int x4), some (.int x5)], [], (DB o i0 i1 ext), M8) rfl (fun hc10 => ?_) (fun hc10 => ?_)
      · have h := h.1 hc10
        refine T_run 4 (20, 12, [some (.ref 2), some (.int x1), some (.int x2), some (.int (x3 + (nI 1))), some (.int x4), some (.int (x5 + (nI 1)))], [], (DB o i0 i1 ext), M8) rfl ?_
        exact h
      · have h := h.2 hc10
        refine T_run 3 (20, 12, [some (.ref 2), some (.int x1), some (.int x2), some (.int x3), some (.int (x4 + (nI 1))), some (.int (x5 + (nI 1)))], [], (DB o i0 i1 ext), M8) rfl ?_
        exact h
set_option maxRecDepth 100000 in
theorem b_X1_stepNumbered_0 {d : Nat} {Q : ARs → Prop} {o i0 i1 : Option Nat} {ext : ADd} {M : AMm} (x1 : Int32) (x2 : Int32) (x3 : Int32) (h : CI d 11 [.ref 2, .int x1] (DB o i0 i1 ext) M (DB o i0 i1 ext) (fun v2 M1 => (v2 = 0 → Q (some (.int x1), (DB o i0 i1 ext), M1)) ∧ (¬ v2 = 0 → (vp_in x1 16) ∧ (CI d 0 [.int ((M1 5 x1.toNatClampNeg) &&& x2)] (DB o i0 i1 ext) M1 (DB o i0 i1 ext) (fun v5 M4 => (v5 = 0 → Q (some (.int x1), (DB o i0 i1 ext), M4)) ∧ (¬ v5 = 0 → (¬ v5 = 0) ∧ (T (d + 1) Q (22, 24, [some (.ref 2), some (.int x1), some (.int x2), none, none, some (.int (x3 - x3 / v5 * v5)), some (.int (nI 0)), none], [], (DB o i0 i1 ext), M4)))))))) : T (d + 1) Q (ent 22 [.ref 2, .int x1, .int x2, .int x3] (DB o i0 i1 ext) M) := by
  refine T_run 2 (22, 2, [some (.ref 2), some (.int x1), some (.int x2), some (.int x3), none, none, none, none], [.int x1, .ref 2], (DB o i0 i1 ext), M) rfl ?_
  refine T_callI (D' := (DB o i0 i1 ext)) rfl (CI_mono h (fun v2 M1 h => ?_))
  refine T_br (v2 = 0) (22, 12, [some (.ref 2), some (.int x1), some (.int x2), some (.int x3), none, none, none, none], [], (DB o i0 i1 ext), M1) (22, 4, [some (.ref 2), some (.int x1), some (.int x2), some (.int x3), none, none, none, none], [], (DB o i0 i1 ext), M1) rfl (fun hc3 => ?_) (fun hc3 => ?_)
  · have h := h.1 hc3
    refine T_run 5 (22, 17, [some (.ref 2), some (.int x1), some (.int x2), some (.int x3), some (.int (nI 0)), none, none, none], [.int x1], (DB o i0 i1 ext), M1) rfl ?_
    exact T_ret rfl h
  · have h := h.2 hc3
    refine T_run 3 (22, 7, [some (.ref 2), some (.int x1), some (.int x2), some (.int x3), none, none, none, none], [.int x1, .ref 5], (DB o i0 i1 ext), M1) rfl ?_
    refine T_gd (x1 < 0 ∨ 16 ≤ x1.toNatClampNeg) (22, 8, [some (.ref 2), some (.int x1), some (.int x2), some (.int x3), none, none, none, none], [.int (M1 5 x1.toNatClampNeg)], (DB o i0 i1 ext), M1) rfl h.1 ?_
    have h := h.2
    refine T_run 2 (22, 10, [some (.ref 2), some (.int x1), some (.int x2), some (.int x3), none, none, none, none], [.int ((M1 5 x1.toNatClampNeg) &&& x2)], (DB o i0 i1 ext), M1) rfl ?_
    refine T_callI (D' := (DB o i0 i1 ext)) rfl (CI_mono h (fun v5 M4 h => ?_))
    refine T_run 3 (22, 15, [some (.ref 2), some (.int x1), some (.int x2), some (.int x3), some (.int v5), none, none, none], [.int v5], (DB o i0 i1 ext), M4) rfl ?_
    refine T_br (v5 = 0) (22, 16, [some (.ref 2), some (.int x1), some (.int x2), some (.int x3), some (.int v5), none, none, none], [], (DB o i0 i1 ext), M4) (22, 18, [some (.ref 2), some (.int x1), some (.int x2), some (.int x3), some (.int v5), none, none, none], [], (DB o i0 i1 ext), M4) rfl (fun hc6 => ?_) (fun hc6 => ?_)
    · have h := h.1 hc6
      refine T_run 1 (22, 17, [some (.ref 2), some (.int x1), some (.int x2), some (.int x3), some (.int v5), none, none, none], [.int x1], (DB o i0 i1 ext), M4) rfl ?_
      exact T_ret rfl h
    · have h := h.2 hc6
      refine T_run 2 (22, 20, [some (.ref 2), some (.int x1), some (.int x2), some (.int x3), some (.int v5), none, none, none], [.int v5, .int x3], (DB o i0 i1 ext), M4) rfl ?_
      refine T_gd (v5 = 0) (22, 21, [some (.ref 2), some (.int x1), some (.int x2), some (.int x3), some (.int v5), none, none, none], [.int (x3 - x3 / v5 * v5)], (DB o i0 i1 ext), M4) rfl h.1 ?_
      have h := h.2
      refine T_run 3 (22, 24, [some (.ref 2), some (.int x1), some (.int x2), some (.int x3), some (.int v5), some (.int (x3 - x3 / v5 * v5)), some (.int (nI 0)), none], [], (DB o i0 i1 ext), M4) rfl ?_
      exact T_le (a_le_1 (a_le_1 (a_le_1 (a_le_2 rfl (a_le_2 rfl (a_le_1 (a_le_1 (a_le_1 a_le_n)))))))) h
set_option maxRecDepth 100000 in
theorem b_X1_stepNumbered_24 {d : Nat} {Q : ARs → Prop} {o i0 i1 : Option Nat} {ext : ADd} {M : AMm} (x1 : Int32) (x2 : Int32) (x5 : Int32) (x6 : Int32) (h : ((nI 4) ≤ x6 → Q (some (.int x1), (DB o i0 i1 ext), M)) ∧ (¬ (nI 4) ≤ x6 → CI d 13 [.ref 2, .int x1, .int x6] (DB o i0 i1 ext) M (DB o i0 i1 ext) (fun v3 M2 => CI d 72 [.int x2, .int v3] (DB o i0 i1 ext) M2 (DB o i0 i1 ext) (fun v5 M4 => (v5 = 0 → T (d + 1) Q (22, 24, [some (.ref 2), some (.int x1), some (.int x2), none, none, some (.int x5), some (.int (x6 + (nI 1))), none], [], (DB o i0 i1 ext), M4)) ∧ (¬ v5 = 0 → (x5 = 0 → Q (some (.int v3), (DB o i0 i1 ext), M4)) ∧ (¬ x5 = 0 → T (d + 1) Q (22, 24, [some (.ref 2), some (.int x1), some (.int x2), none, none, some (.int (x5 + (-(nI 1)))), some (.int (x6 + (nI 1))), none], [], (DB o i0 i1 ext), M4))))))) : T (d + 1) Q (22, 24, [some (.ref 2), some (.int x1), some (.int x2), none, none, some (.int x5), some (.int x6), none], [], (DB o i0 i1 ext), M) := by
  refine T_run 2 (22, 26, [some (.ref 2), some (.int x1), some (.int x2), none, none, some (.int x5), some (.int x6), none], [.int (nI 4), .int x6], (DB o i0 i1 ext), M) rfl ?_
  refine T_br ((nI 4) ≤ x6) (22, 43, [some (.ref 2), some (.int x1), some (.int x2), none, none, some (.int x5), some (.int x6), none], [], (DB o i0 i1 ext), M) (22, 27, [some (.ref 2), some (.int x1), some (.int x2), none, none, some (.int x5), some (.int x6), none], [], (DB o i0 i1 ext), M) rfl (fun hc1 => ?_) (fun hc1 => ?_)
  · have h := h.1 hc1
    refine T_run 1 (22, 44, [some (.ref 2), some (.int x1), some (.int x2), none, none, some (.int x5), some (.int x6), none], [.int x1], (DB o i0 i1 ext), M) rfl ?_
    exact T_ret rfl h
  · have h := h.2 hc1
    refine T_run 3 (22, 30, [some (.ref 2), some (.int x1), some (.int x2), none, none, some (.int x5), some (.int x6), none], [.int x6, .int x1, .ref 2], (DB o i0 i1 ext), M) rfl ?_
    refine T_callI (D' := (DB o i0 i1 ext)) rfl (CI_mono h (fun v3 M2 h => ?_))
    refine T_run 3 (22, 34, [some (.ref 2), some (.int x1), some (.int x2), none, none, some (.int x5), some (.int x6), some (.int v3)], [.int v3, .int x2], (DB o i0 i1 ext), M2) rfl ?_
    refine T_callI (D' := (DB o i0 i1 ext)) rfl (CI_mono h (fun v5 M4 h => ?_))
    refine T_br (v5 = 0) (22, 41, [some (.ref 2), some (.int x1), some (.int x2), none, none, some (.int x5), some (.int x6), some (.int v3)], [], (DB o i0 i1 ext), M4) (22, 36, [some (.ref 2), some (.int x1), some (.int x2), none, none, some (.int x5), some (.int x6), some (.int v3)], [], (DB o i0 i1 ext), M4) rfl (fun hc6 => ?_) (fun hc6 => ?_)
    · have h := h.1 hc6
      refine T_run 2 (22, 24, [some (.ref 2), some (.int x1), some (.int x2), none, none, some (.int x5), some (.int (x6 + (nI 1))), some (.int v3)], [], (DB o i0 i1 ext), M4) rfl ?_
      exact T_le (a_le_1 (a_le_1 (a_le_1 (a_le_1 (a_le_1 (a_le_1 (a_le_1 (a_le_2 rfl a_le_n)))))))) h
    · have h := h.2 hc6
      refine T_run 1 (22, 37, [some (.ref 2), some (.int x1), some (.int x2), none, none, some (.int x5), some (.int x6), some (.int v3)], [.int x5], (DB o i0 i1 ext), M4) rfl ?_
      refine T_br (x5 = 0) (22, 38, [some (.ref 2), some (.int x1), some (.int x2), none, none, some (.int x5), some (.int x6), some (.int v3)], [], (DB o i0 i1 ext), M4) (22, 40, [some (.ref 2), some (.int x1), some (.int x2), none, none, some (.int x5), some (.int x6), some (.int v3)], [], (DB o i0 i1 ext), M4) rfl (fun hc7 => ?_) (fun hc7 => ?_)
      · have h := h.1 hc7
        refine T_run 1 (22, 39, [some (.ref 2), some (.int x1), some (.int x2), none, none, some (.int x5), some (.int x6), some (.int v3)], [.int v3], (DB o i0 i1 ext), M4) rfl ?_
        exact T_ret rfl h
      · have h := h.2 hc7
        refine T_run 3 (22, 24, [some (.ref 2), some (.int x1), some (.int x2), none, none, some (.int (x5 + (-(nI 1)))), some (.int (x6 + (nI 1))), some (.int v3)], [], (DB o i0 i1 ext), M4) rfl ?_
        exact T_le (a_le_1 (a_le_1 (a_le_1 (a_le_1 (a_le_1 (a_le_1 (a_le_1 (a_le_2 rfl a_le_n)))))))) h
set_option maxRecDepth 100000 in
theorem b_X1_firstOpen_0 {d : Nat} {Q : ARs → Prop} {o i0 i1 : Option Nat} {ext : ADd} {M : AMm}  (h : T d Q (9, 2, [some (.ref 2), some (.int (nI 0))], [], (DB o i0 i1 ext), M)) : T d Q (ent 9 [.ref 2] (DB o i0 i1 ext) M) := by
  refine T_run 2 (9, 2, [some (.ref 2), some (.int (nI 0))], [], (DB o i0 i1 ext), M) rfl ?_
  exact h
set_option maxRecDepth 100000 in
theorem b_X1_firstOpen_2 {d : Nat} {Q : ARs → Prop} {o i0 i1 : Option Nat} {ext : ADd} {M : AMm} (x1 : Int32) (h : ((M 2 2) ≤ x1 → Q (some (.int (nI 0)), (DB o i0 i1 ext), M)) ∧ (¬ (M 2 2) ≤ x1 → CI d 12 [.ref 2, .int x1] (DB o i0 i1 ext) M (DB o i0 i1 ext) (fun v3 M2 => (v3 = 0 → T (d + 1) Q (9, 2, [some (.ref 2), some (.int (x1 + (nI 1)))], [], (DB o i0 i1 ext), M2)) ∧ (¬ v3 = 0 → Q (some (.int x1), (DB o i0 i1 ext), M2))))) : T (d + 1) Q (9, 2, [some (.ref 2), some (.int x1)], [], (DB o i0 i1 ext), M) := by
  refine T_run 3 (9, 5, [some (.ref 2), some (.int x1)], [.int (M 2 2), .int x1], (DB o i0 i1 ext), M) rfl ?_
  refine T_br ((M 2 2) ≤ x1) (9, 14, [some (.ref 2), some (.int x1)], [], (DB o i0 i1 ext), M) (9, 6, [some (.ref 2), some (.int x1)], [], (DB o i0 i1 ext), M) rfl (fun hc1 => ?_) (fun hc1 => ?_)
  · have h := h.1 hc1
    refine T_run 1 (9, 15, [some (.ref 2), some (.int x1)], [.int (nI 0)], (DB o i0 i1 ext), M) rfl ?_
    exact T_ret rfl h
  · have h := h.2 hc1
    refine T_run 2 (9, 8, [some (.ref 2), some (.int x1)], [.int x1, .ref 2], (DB o i0 i1 ext), M) rfl ?_
    refine T_callI (D' := (DB o i0 i1 ext)) rfl (CI_mono h (fun v3 M2 h => ?_))
    refine T_br (v3 = 0) (9, 12, [some (.ref 2), some (.int x1)], [], (DB o i0 i1 ext), M2) (9, 10, [some (.ref 2), some (.int x1)], [], (DB o i0 i1 ext), M2) rfl (fun hc4 => ?_) (fun hc4 => ?_)
    · have h := h.1 hc4
      refine T_run 2 (9, 2, [some (.ref 2), some (.int (x1 + (nI 1)))], [], (DB o i0 i1 ext), M2) rfl ?_
      exact h
    · have h := h.2 hc4
      refine T_run 1 (9, 11, [some (.ref 2), some (.int x1)], [.int x1], (DB o i0 i1 ext), M2) rfl ?_
      exact T_ret rfl h
set_option maxRecDepth 100000 in
theorem b_X1_joinWithOthers_0 {d : Nat} {Q : ARs → Prop} {o i0 i1 : Option Nat} {ext : ADd} {M : AMm} (x1 : Int32) (x2 : Int32) (x3 : Int32) (h : (vp_in x1 16) ∧ (T d Q (7, 7, [some (.ref 2), some (.int x1), some (.int x2), some (.int x3), some (.int (nI 0)), none, none, none, none], [], (DB o i0 i1 ext), (ms M 5 x1.toNatClampNeg (nI 0))))) : T d Q (ent 7 [.ref 2, .int x1, .int x2, .int x3] (DB o i0 i1 ext) M) := by
  refine T_run 4 (7, 4, [some (.ref 2), some (.int x1), some (.int x2), some (.int x3), none, none, none, none, none], [.int (nI 0), .int x1, .ref 5], (DB o i0 i1 ext), M) rfl ?_
  refine T_gd (x1 < 0 ∨ 16 ≤ x1.toNatClampNeg) (7, 5, [some (.ref 2), some (.int x1), some (.int x2), some (.int x3), none, none, none, none, none], [], (DB o i0 i1 ext), (ms M 5 x1.toNatClampNeg (nI 0))) rfl h.1 ?_
  have h := h.2
  refine T_run 2 (7, 7, [some (.ref 2), some (.int x1), some (.int x2), some (.int x3), some (.int (nI 0)), none, none, none, none], [], (DB o i0 i1 ext), (ms M 5 x1.toNatClampNeg (nI 0))) rfl ?_
  exact h
set_option maxRecDepth 100000 in
theorem b_X1_joinWithOthers_7 {d : Nat} {Q : ARs → Prop} {o i0 i1 : Option Nat} {ext : ADd} {M : AMm} (x1 : Int32) (x2 : Int32) (x3 : Int32) (x4 : Int32) (h : ((nI 4) ≤ x4 → Q (none, (DB o i0 i1 ext), M)) ∧ (¬ (nI 4) ≤ x4 → (vp_in x4 4) ∧ ((vp_in x4 4) ∧ (((x2 + (M 1000002 x4.toNatClampNeg)) < 0 → (vp_in ((x1 * (nI 4)) + x4) 64) ∧ (T d Q (7, 7, [some (.ref 2), some (.int x1), some (.int x2), some (.int x3), some (.int (x4 + (nI 1))), none, none, none, none], [], (DB o i0 i1 ext), (ms M 4 (((x1 * (nI 4)) + x4).toNatClampNeg) (-(nI 1)))))) ∧ (¬ (x2 + (M 1000002 x4.toNatClampNeg)) < 0 → ((M 2 0) ≤ (x2 + (M 1000002 x4.toNatClampNeg)) → (vp_in ((x1 * (nI 4)) + x4) 64) ∧ (T d Q (7, 7, [some (.ref 2), some (.int x1), some (.int x2), some (.int x3), some (.int (x4 + (nI 1))), none, none, none, none], [], (DB o i0 i1 ext), (ms M 4 (((x1 * (nI 4)) + x4).toNatClampNeg) (-(nI 1)))))) ∧ (¬ (M 2 0) ≤ (x2 + (M 1000002 x4.toNatClampNeg)) → ((x3 + (M 1000003 x4.toNatClampNeg)) < 0 → (vp_in ((x1 * (nI 4)) + x4) 64) ∧ (T d Q (7, 7, [some (.ref 2), some (.int x1), some (.int x2), some (.int x3), some (.int (x4 + (nI 1))), none, none, none, none], [], (DB o i0 i1 ext), (ms M 4 (((x1 * (nI 4)) + x4).toNatClampNeg) (-(nI 1)))))) ∧ (¬ (x3 + (M 1000003 x4.toNatClampNeg)) < 0 → ((M 2 1) ≤ (x3 + (M 1000003 x4.toNatClampNeg)) → (vp_in ((x1 * (nI 4)) + x4) 64) ∧ (T d Q (7, 7, [some (.ref 2), some (.int x1), some (.int x2), some (.int x3), some (.int (x4 + (nI 1))), none, none, none, none], [], (DB o i0 i1 ext), (ms M 4 (((x1 * (nI 4)) + x4).toNatClampNeg) (-(nI 1)))))) ∧ (¬ (M 2 1) ≤ (x3 + (M 1000003 x4.toNatClampNeg)) → (vp_in ((x1 * (nI 4)) + x4) 64) ∧ ((vp_in x1 16) ∧ ((vp_in x1 16) ∧ (T d Q (7, 7, [some (.ref 2), some (.int x1), some (.int x2), some (.int x3), some (.int (x4 + (nI 1))), none, none, none, none], [], (DB o i0 i1 ext), (ms (ms M 4 (((x1 * (nI 4)) + x4).toNatClampNeg) (((x2 + (M 1000002 x4.toNatClampNeg)) * (M 2 1)) + (x3 + (M 1000003 x4.toNatClampNeg)))) 5 x1.toNatClampNeg ((M 5 x1.toNatClampNeg) ||| ((nI 1) <<< ((((x2 + (M 1000002 x4.toNatClampNeg)) * (M 2 1)) + (x3 + (M 1000003 x4.toNatClampNeg))) &&& 31)))))))))))))))) : T d Q (7, 7, [some (.ref 2), some (.int x1), some (.int x2), some (.int x3), some (.int x4), none, none, none, none], [], (DB o i0 i1 ext), M) := by
  refine T_run 2 (7, 9, [some (.ref 2), some (.int x1), some (.int x2), some (.int x3), some (.int x4), none, none, none, none], [.int (nI 4), .int x4], (DB o i0 i1 ext), M) rfl ?_
  refine T_br ((nI 4) ≤ x4) (7, 72, [some (.ref 2), some (.int x1), some (.int x2), some (.int x3), some (.int x4), none, none, none, none], [], (DB o i0 i1 ext), M) (7, 10, [some (.ref 2), some (.int x1), some (.int x2), some (.int x3), some (.int x4), none, none, none, none], [], (DB o i0 i1 ext), M) rfl (fun hc1 => ?_) (fun hc1 => ?_)
  · have h := h.1 hc1
    exact T_ret rfl h
  · have h := h.2 hc1
    refine T_run 3 (7, 13, [some (.ref 2), some (.int x1), some (.int x2), some (.int x3), some (.int x4), none, none, none, none], [.int x4, .ref 1000002, .int x2], (DB o i0 i1 ext), M) rfl ?_
    refine T_gd (x4 < 0 ∨ 4 ≤ x4.toNatClampNeg) (7, 14, [some (.ref 2), some (.int x1), some (.int x2), some (.int x3), some (.int x4), none, none, none, none], [.int (M 1000002 x4.toNatClampNeg), .int x2], (DB o i0 i1 ext), M) rfl h.1 ?_
    have h := h.2
    refine T_run 5 (7, 19, [some (.ref 2), some (.int x1), some (.int x2), some (.int x3), some (.int x4), some (.int (x2 + (M 1000002 x4.toNatClampNeg))), none, none, none], [.int x4, .ref 1000003, .int x3], (DB o i0 i1 ext), M) rfl ?_
    refine T_gd (x4 < 0 ∨ 4 ≤ x4.toNatClampNeg) (7, 20, [some (.ref 2), some (.int x1), some (.int x2), some (.int x3), some (.int x4), some (.int (x2 + (M 1000002 x4.toNatClampNeg))), none, none, none], [.int (M 1000003 x4.toNatClampNeg), .int x3], (DB o i0 i1 ext), M) rfl h.1 ?_
    have h := h.2
    refine T_run 3 (7, 23, [some (.ref 2), some (.int x1), some (.int x2), some (.int x3), some (.int x4), some (.int (x2 + (M 1000002 x4.toNatClampNeg))), some (.int (x3 + (M 1000003 x4.toNatClampNeg))), none, none], [.int (x2 + (M 1000002 x4.toNatClampNeg))], (DB o i0 i1 ext), M) rfl ?_
    refine T_br ((x2 + (M 1000002 x4.toNatClampNeg)) < 0) (7, 36, [some (.ref 2), some (.int x1), some (.int x2), some (.int x3), some (.int x4), some (.int (x2 + (M 1000002 x4.toNatClampNeg))), some (.int (x3 + (M 1000003 x4.toNatClampNeg))), none, none], [], (DB o i0 i1 ext), M) (7, 24, [some (.ref 2), some (.int x1), some (.int x2), some (.int x3), some (.int x4), some (.int (x2 + (M 1000002 x4.toNatClampNeg))), some (.int (x3 + (M 1000003 x4.toNatClampNeg))), none, none], [], (DB o i0 i1 ext), M) rfl (fun hc2 => ?_) (fun hc2 => ?_)
    · have h := h.1 hc2
      refine T_run 14 (7, 57, [some (.ref 2), some (.int x1), some (.int x2), some (.int x3), some (.int x4), some (.int (x2 + (M 1000002 x4.toNatClampNeg))), some (.int (x3 + (M 1000003 x4.toNatClampNeg))), some (.int (nI 0)), some (.int (-(nI 1)))], [.int (-(nI 1)), .int ((x1 * (nI 4)) + x4), .ref 4], (DB o i0 i1 ext), M) rfl ?_
      refine T_gd (((x1 * (nI 4)) + x4) < 0 ∨ 64 ≤ ((x1 * (nI 4)) + x4).toNatClampNeg) (7, 58, [some (.ref 2), some (.int x1), some (.int x2), some (.int x3), some (.int x4), some (.int (x2 + (M 1000002 x4.toNatClampNeg))), some (.int (x3 + (M 1000003 x4.toNatClampNeg))), some (.int (nI 0)), some (.int (-(nI 1)))], [], (DB o i0 i1 ext), (ms M 4 (((x1 * (nI 4)) + x4).toNatClampNeg) (-(nI 1)))) rfl h.1 ?_
      have h := h.2
      refine T_run 4 (7, 7, [some (.ref 2), some (.int x1), some (.int x2), some (.int x3), some (.int (x4 + (nI 1))), some (.int (x2 + (M 1000002 x4.toNatClampNeg))), some (.int (x3 + (M 1000003 x4.toNatClampNeg))), some (.int (nI 0)), some (.int (-(nI 1)))], [], (DB o i0 i1 ext), (ms M 4 (((x1 * (nI 4)) + x4).toNatClampNeg) (-(nI 1)))) rfl ?_
      exact T_le (a_le_1 (a_le_1 (a_le_1 (a_le_1 (a_le_1 (a_le_2 rfl (a_le_2 rfl (a_le_2 rfl (a_le_2 rfl a_le_n))))))))) h
    · have h := h.2 hc2
      refine T_run 3 (7, 27, [some (.ref 2), some (.int x1), some (.int x2), some (.int x3), some (.int x4), some (.int (x2 + (M 1000002 x4.toNatClampNeg))), some (.int (x3 + (M 1000003 x4.toNatClampNeg))), none, none], [.int (M 2 0), .int (x2 + (M 1000002 x4.toNatClampNeg))], (DB o i0 i1 ext), M) rfl ?_
      refine T_br ((M 2 0) ≤ (x2 + (M 1000002 x4.toNatClampNeg))) (7, 36, [some (.ref 2), some (.int x1), some (.int x2), some (.int x3), some (.int x4), some (.int (x2 + (M 1000002 x4.toNatClampNeg))), some (.int (x3 + (M 1000003 x4.toNatClampNeg))), none, none], [], (DB o i0 i1 ext), M) (7, 28, [some (.ref 2), some (.int x1), some (.int x2), some (.int x3), some (.int x4), some (.int (x2 + (M 1000002 x4.toNatClampNeg))), some (.int (x3 + (M 1000003 x4.toNatClampNeg))), none, none], [], (DB o i0 i1 ext), M) rfl (fun hc3 => ?_) (fun hc3 => ?_)
      · have h := h.1 hc3
        refine T_run 14 (7, 57, [some (.ref 2), some (.int x1), some (.int x2), some (.int x3), some (.int x4), some (.int (x2 + (M 1000002 x4.toNatClampNeg))), some (.int (x3 + (M 1000003 x4.toNatClampNeg))), some (.int (nI 0)), some (.int (-(nI 1)))], [.int (-(nI 1)), .int ((x1 * (nI 4)) + x4), .ref 4], (DB o i0 i1 ext), M) rfl ?_
        refine T_gd (((x1 * (nI 4)) + x4) < 0 ∨ 64 ≤ ((x1 * (nI 4)) + x4).toNatClampNeg) (7, 58, [some (.ref 2), some (.int x1), some (.int x2), some (.int x3), some (.int x4), some (.int (x2 + (M 1000002 x4.toNatClampNeg))), some (.int (x3 + (M 1000003 x4.toNatClampNeg))), some (.int (nI 0)), some (.int (-(nI 1)))], [], (DB o i0 i1 ext), (ms M 4 (((x1 * (nI 4)) + x4).toNatClampNeg) (-(nI 1)))) rfl h.1 ?_
        have h := h.2
        refine T_run 4 (7, 7, [some (.ref 2), some (.int x1), some (.int x2), some (.int x3), some (.int (x4 + (nI 1))), some (.int (x2 + (M 1000002 x4.toNatClampNeg))), some (.int (x3 + (M 1000003 x4.toNatClampNeg))), some (.int (nI 0)), some (.int (-(nI 1)))], [], (DB o i0 i1 ext), (ms M 4 (((x1 * (nI 4)) + x4).toNatClampNeg) (-(nI 1)))) rfl ?_
        exact T_le (a_le_1 (a_le_1 (a_le_1 (a_le_1 (a_le_1 (a_le_2 rfl (a_le_2 rfl (a_le_2 rfl (a_le_2 rfl a_le_n))))))))) h
      · have h := h.2 hc3
        refine T_run 1 (7, 29, [some (.ref 2), some (.int x1), some (.int x2), some (.int x3), some (.int x4), some (.int (x2 + (M 1000002 x4.toNatClampNeg))), some (.int (x3 + (M 1000003 x4.toNatClampNeg))), none, none], [.int (x3 + (M 1000003 x4.toNatClampNeg))], (DB o i0 i1 ext), M) rfl ?_
        refine T_br ((x3 + (M 1000003 x4.toNatClampNeg)) < 0) (7, 36, [some (.ref 2), some (.int x1), some (.int x2), some (.int x3), some (.int x4), some (.int (x2 + (M 1000002 x4.toNatClampNeg))), some (.int (x3 + (M 1000003 x4.toNatClampNeg))), none, none], [], (DB o i0 i1 ext), M) (7, 30, [some (.ref 2), some (.int x1), some (.int x2), some (.int x3), some (.int x4), some (.int (x2 + (M 1000002 x4.toNatClampNeg))), some (.int (x3 + (M 1000003 x4.toNatClampNeg))), none, none], [], (DB o i0 i1 ext), M) rfl (fun hc4 => ?_) (fun hc4 => ?_)
        · have h := h.1 hc4
          refine T_run 14 (7, 57, [some (.ref 2), some (.int x1), some (.int x2), some (.int x3), some (.int x4), some (.int (x2 + (M 1000002 x4.toNatClampNeg))), some (.int (x3 + (M 1000003 x4.toNatClampNeg))), some (.int (nI 0)), some (.int (-(nI 1)))], [.int (-(nI 1)), .int ((x1 * (nI 4)) + x4), .ref 4], (DB o i0 i1 ext), M) rfl ?_
          refine T_gd (((x1 * (nI 4)) + x4) < 0 ∨ 64 ≤ ((x1 * (nI 4)) + x4).toNatClampNeg) (7, 58, [some (.ref 2), some (.int x1), some (.int x2), some (.int x3), some (.int x4), some (.int (x2 + (M 1000002 x4.toNatClampNeg))), some (.int (x3 + (M 1000003 x4.toNatClampNeg))), some (.int (nI 0)), some (.int (-(nI 1)))], [], (DB o i0 i1 ext), (ms M 4 (((x1 * (nI 4)) + x4).toNatClampNeg) (-(nI 1)))) rfl h.1 ?_
          have h := h.2
          refine T_run 4 (7, 7, [some (.ref 2), some (.int x1), some (.int x2), some (.int x3), some (.int (x4 + (nI 1))), some (.int (x2 + (M 1000002 x4.toNatClampNeg))), some (.int (x3 + (M 1000003 x4.toNatClampNeg))), some (.int (nI 0)), some (.int (-(nI 1)))], [], (DB o i0 i1 ext), (ms M 4 (((x1 * (nI 4)) + x4).toNatClampNeg) (-(nI 1)))) rfl ?_
          exact T_le (a_le_1 (a_le_1 (a_le_1 (a_le_1 (a_le_1 (a_le_2 rfl (a_le_2 rfl (a_le_2 rfl (a_le_2 rfl a_le_n))))))))) h
        · have h := h.2 hc4
          refine T_run 3 (7, 33, [some (.ref 2), some (.int x1), some (.int x2), some (.int x3), some (.int x4), some (.int (x2 + (M 1000002 x4.toNatClampNeg))), some (.int (x3 + (M 1000003 x4.toNatClampNeg))), none, none], [.int (M 2 1), .int (x3 + (M 1000003 x4.toNatClampNeg))], (DB o i0 i1 ext), M) rfl ?_
          refine T_br ((M 2 1) ≤ (x3 + (M 1000003 x4.toNatClampNeg))) (7, 36, [some (.ref 2), some (.int x1), some (.int x2), some (.int x3), some (.int x4), some (.int (x2 + (M 1000002 x4.toNatClampNeg))), some (.int (x3 + (M 1000003 x4.toNatClampNeg))), none, none], [], (DB o i0 i1 ext), M) (7, 34, [some (.ref 2), some (.int x1), some (.int x2), some (.int x3), some (.int x4), some (.int (x2 + (M 1000002 x4.toNatClampNeg))), some (.int (x3 + (M 1000003 x4.toNatClampNeg))), none, none], [], (DB o i0 i1 ext), M) rfl (fun hc5 => ?_) (fun hc5 => ?_)
          · have h := h.1 hc5
            refine T_run 14 (7, 57, [some (.ref 2), some (.int x1), some (.int x2), some (.int x3), some (.int x4), some (.int (x2 + (M 1000002 x4.toNatClampNeg))), some (.int (x3 + (M 1000003 x4.toNatClampNeg))), some (.int (nI 0)), some (.int (-(nI 1)))], [.int (-(nI 1)), .int ((x1 * (nI 4)) + x4), .ref 4], (DB o i0 i1 ext), M) rfl ?_
            refine T_gd (((x1 * (nI 4)) + x4) < 0 ∨ 64 ≤ ((x1 * (nI 4)) + x4).toNatClampNeg) (7, 58, [some (.ref 2), some (.int x1), some (.int x2), some (.int x3), some (.int x4), some (.int (x2 + (M 1000002 x4.toNatClampNeg))), some (.int (x3 + (M 1000003 x4.toNatClampNeg))), some (.int (nI 0)), some (.int (-(nI 1)))], [], (DB o i0 i1 ext), (ms M 4 (((x1 * (nI 4)) + x4).toNatClampNeg) (-(nI 1)))) rfl h.1 ?_
            have h := h.2
            refine T_run 4 (7, 7, [some (.ref 2), some (.int x1), some (.int x2), some (.int x3), some (.int (x4 + (nI 1))), some (.int (x2 + (M 1000002 x4.toNatClampNeg))), some (.int (x3 + (M 1000003 x4.toNatClampNeg))), some (.int (nI 0)), some (.int (-(nI 1)))], [], (DB o i0 i1 ext), (ms M 4 (((x1 * (nI 4)) + x4).toNatClampNeg) (-(nI 1)))) rfl ?_
            exact T_le (a_le_1 (a_le_1 (a_le_1 (a_le_1 (a_le_1 (a_le_2 rfl (a_le_2 rfl (a_le_2 rfl (a_le_2 rfl a_le_n))))))))) h
          · have h := h.2 hc5
            refine T_run 21 (7, 57, [some (.ref 2), some (.int x1), some (.int x2), some (.int x3), some (.int x4), some (.int (x2 + (M 1000002 x4.toNatClampNeg))), some (.int (x3 + (M 1000003 x4.toNatClampNeg))), some (.int (nI 1)), some (.int (((x2 + (M 1000002 x4.toNatClampNeg)) * (M 2 1)) + (x3 + (M 1000003 x4.toNatClampNeg))))], [.int (((x2 + (M 1000002 x4.toNatClampNeg)) * (M 2 1)) + (x3 + (M 1000003 x4.toNatClampNeg))), .int ((x1 * (nI 4)) + x4), .ref 4], (DB o i0 i1 ext), M) rfl ?_
            refine T_gd (((x1 * (nI 4)) + x4) < 0 ∨ 64 ≤ ((x1 * (nI 4)) + x4).toNatClampNeg) (7, 58, [some (.ref 2), some (.int x1), some (.int x2), some (.int x3), some (.int x4), some (.int (x2 + (M 1000002 x4.toNatClampNeg))), some (.int (x3 + (M 1000003 x4.toNatClampNeg))), some (.int (nI 1)), some (.int (((x2 + (M 1000002 x4.toNatClampNeg)) * (M 2 1)) + (x3 + (M 1000003 x4.toNatClampNeg))))], [], (DB o i0 i1 ext), (ms M 4 (((x1 * (nI 4)) + x4).toNatClampNeg) (((x2 + (M 1000002 x4.toNatClampNeg)) * (M 2 1)) + (x3 + (M 1000003 x4.toNatClampNeg))))) rfl h.1 ?_
            have h := h.2
            refine T_run 6 (7, 64, [some (.ref 2), some (.int x1), some (.int x2), some (.int x3), some (.int x4), some (.int (x2 + (M 1000002 x4.toNatClampNeg))), some (.int (x3 + (M 1000003 x4.toNatClampNeg))), some (.int (nI 1)), some (.int (((x2 + (M 1000002 x4.toNatClampNeg)) * (M 2 1)) + (x3 + (M 1000003 x4.toNatClampNeg))))], [.int x1, .ref 5, .int x1, .ref 5], (DB o i0 i1 ext), (ms M 4 (((x1 * (nI 4)) + x4).toNatClampNeg) (((x2 + (M 1000002 x4.toNatClampNeg)) * (M 2 1)) + (x3 + (M 1000003 x4.toNatClampNeg))))) rfl ?_
            refine T_gd (x1 < 0 ∨ 16 ≤ x1.toNatClampNeg) (7, 65, [some (.ref 2), some (.int x1), some (.int x2), some (.int x3), some (.int x4), some (.int (x2 + (M 1000002 x4.toNatClampNeg))), some (.int (x3 + (M 1000003 x4.toNatClampNeg))), some (.int (nI 1)), some (.int (((x2 + (M 1000002 x4.toNatClampNeg)) * (M 2 1)) + (x3 + (M 1000003 x4.toNatClampNeg))))], [.int (M 5 x1.toNatClampNeg), .int x1, .ref 5], (DB o i0 i1 ext), (ms M 4 (((x1 * (nI 4)) + x4).toNatClampNeg) (((x2 + (M 1000002 x4.toNatClampNeg)) * (M 2 1)) + (x3 + (M 1000003 x4.toNatClampNeg))))) rfl h.1 ?_
            have h := h.2
            refine T_run 4 (7, 69, [some (.ref 2), some (.int x1), some (.int x2), some (.int x3), some (.int x4), some (.int (x2 + (M 1000002 x4.toNatClampNeg))), some (.int (x3 + (M 1000003 x4.toNatClampNeg))), some (.int (nI 1)), some (.int (((x2 + (M 1000002 x4.toNatClampNeg)) * (M 2 1)) + (x3 + (M 1000003 x4.toNatClampNeg))))], [.int ((M 5 x1.toNatClampNeg) ||| ((nI 1) <<< ((((x2 + (M 1000002 x4.toNatClampNeg)) * (M 2 1)) + (x3 + (M 1000003 x4.toNatClampNeg))) &&& 31))), .int x1, .ref 5], (DB o i0 i1 ext), (ms M 4 (((x1 * (nI 4)) + x4).toNatClampNeg) (((x2 + (M 1000002 x4.toNatClampNeg)) * (M 2 1)) + (x3 + (M 1000003 x4.toNatClampNeg))))) rfl ?_
            refine T_gd (x1 < 0 ∨ 16 ≤ x1.toNatClampNeg) (7, 70, [some (.ref 2), some (.int x1), some (.int x2), some (.int x3), some (.int x4), some (.int (x2 + (M 1000002 x4.toNatClampNeg))), some (.int (x3 + (M 1000003 x4.toNatClampNeg))), some (.int (nI 1)), some (.int (((x2 + (M 1000002 x4.toNatClampNeg)) * (M 2 1)) + (x3 + (M 1000003 x4.toNatClampNeg))))], [], (DB o i0 i1 ext), (ms (ms M 4 (((x1 * (nI 4)) + x4).toNatClampNeg) (((x2 + (M 1000002 x4.toNatClampNeg)) * (M 2 1)) + (x3 + (M 1000003 x4.toNatClampNeg)))) 5 x1.toNatClampNeg ((M 5 x1.toNatClampNeg) ||| ((nI 1) <<< ((((x2 + (M 1000002 x4.toNatClampNeg)) * (M 2 1)) + (x3 + (M 1000003 x4.toNatClampNeg))) &&& 31))))) rfl h.1 ?_
            have h := h.2
            refine T_run 2 (7, 7, [some (.ref 2), some (.int x1), some (.int x2), some (.int x3), some (.int (x4 + (nI 1))), some (.int (x2 + (M 1000002 x4.toNatClampNeg))), some (.int (x3 + (M 1000003 x4.toNatClampNeg))), some (.int (nI 1)), some (.int (((x2 + (M 1000002 x4.toNatClampNeg)) * (M 2 1)) + (x3 + (M 1000003 x4.toNatClampNeg))))], [], (DB o i0 i1 ext), (ms (ms M 4 (((x1 * (nI 4)) + x4).toNatClampNeg) (((x2 + (M 1000002 x4.toNatClampNeg)) * (M 2 1)) + (x3 + (M 1000003 x4.toNatClampNeg)))) 5 x1.toNatClampNeg ((M 5 x1.toNatClampNeg) ||| ((nI 1) <<< ((((x2 + (M 1000002 x4.toNatClampNeg)) * (M 2 1)) + (x3 + (M 1000003 x4.toNatClampNeg))) &&& 31))))) rfl ?_
            exact T_le (a_le_1 (a_le_1 (a_le_1 (a_le_1 (a_le_1 (a_le_2 rfl (a_le_2 rfl (a_le_2 rfl (a_le_2 rfl a_le_n))))))))) h
set_option maxRecDepth 100000 in
theorem b_X1_lay_0 {d : Nat} {Q : ARs → Prop} {o i0 i1 : Option Nat} {ext : ADd} {M : AMm} (x1 : Int32) (x2 : Int32) (h : T d Q (6, 26, [some (.ref 2), none, none, some (.int (nI 0))], [], (DB o i0 i1 ext), (ms (ms (ms (ms (ms M 2 0 x1) 2 1 x2) 2 2 (a_mm 1 (nI 16) (x1 * x2))) 2 3 (((nI 1) <<< ((a_mm 1 (nI 16) (x1 * x2)) &&& 31)) - (nI 1))) 2 4 (nI 0)))) : T d Q (ent 6 [.ref 2, .int x1, .int x2] (DB o i0 i1 ext) M) := by
  refine T_run 26 (6, 26, [some (.ref 2), some (.int x1), some (.int x2), some (.int (nI 0))], [], (DB o i0 i1 ext), (ms (ms (ms (ms (ms M 2 0 x1) 2 1 x2) 2 2 (a_mm 1 (nI 16) (x1 * x2))) 2 3 (((nI 1) <<< ((a_mm 1 (nI 16) (x1 * x2)) &&& 31)) - (nI 1))) 2 4 (nI 0))) rfl ?_
  exact T_le (a_le_1 (a_le_2 rfl (a_le_2 rfl (a_le_1 a_le_n)))) h
set_option maxRecDepth 100000 in
theorem b_X1_lay_26 {d : Nat} {Q : ARs → Prop} {o i0 i1 : Option Nat} {ext : ADd} {M : AMm} (x3 : Int32) (h : ((M 2 2) ≤ x3 → Q (none, (DB o i0 i1 ext), M)) ∧ (¬ (M 2 2) ≤ x3 → (vp_in x3 16) ∧ ((¬ (a_mm 0 (nI 1) (M 2 1)) = 0) ∧ ((¬ (a_mm 0 (nI 1) (M 2 1)) = 0) ∧ (CV d 7 [.ref 2, .int x3, .int (x3 / (a_mm 0 (nI 1) (M 2 1))), .int (x3 - x3 / (a_mm 0 (nI 1) (M 2 1)) * (a_mm 0 (nI 1) (M 2 1)))] (DB o i0 i1 ext) (ms M 3 x3.toNatClampNeg (nI 1)) (DB o i0 i1 ext) (fun M2 => T (d + 1) Q (6, 26, [some (.ref 2), none, none, some (.int (x3 + (nI 1)))], [], (DB o i0 i1 ext), M2))))))) : T (d + 1) Q (6, 26, [some (.ref 2), none, none, some (.int x3)], [], (DB o i0 i1 ext), M) := by
  refine T_run 3 (6, 29, [some (.ref 2), none, none, some (.int x3)], [.int (M 2 2), .int x3], (DB o i0 i1 ext), M) rfl ?_
  refine T_br ((M 2 2) ≤ x3) (6, 52, [some (.ref 2), none, none, some (.int x3)], [], (DB o i0 i1 ext), M) (6, 30, [some (.ref 2), none, none, some (.int x3)], [], (DB o i0 i1 ext), M) rfl (fun hc1 => ?_) (fun hc1 => ?_)
  · have h := h.1 hc1
    exact T_ret rfl h
  · have h := h.2 hc1
    refine T_run 4 (6, 34, [some (.ref 2), none, none, some (.int x3)], [.int (nI 1), .int x3, .ref 3], (DB o i0 i1 ext), M) rfl ?_
    refine T_gd (x3 < 0 ∨ 16 ≤ x3.toNatClampNeg) (6, 35, [some (.ref 2), none, none, some (.int x3)], [], (DB o i0 i1 ext), (ms M 3 x3.toNatClampNeg (nI 1))) rfl h.1 ?_
    have h := h.2
    refine T_run 7 (6, 42, [some (.ref 2), none, none, some (.int x3)], [.int (a_mm 0 (nI 1) (M 2 1)), .int x3, .int x3, .ref 2], (DB o i0 i1 ext), (ms M 3 x3.toNatClampNeg (nI 1))) rfl ?_
    refine T_gd ((a_mm 0 (nI 1) (M 2 1)) = 0) (6, 43, [some (.ref 2), none, none, some (.int x3)], [.int (x3 / (a_mm 0 (nI 1) (M 2 1))), .int x3, .ref 2], (DB o i0 i1 ext), (ms M 3 x3.toNatClampNeg (nI 1))) rfl h.1 ?_
    have h := h.2
    refine T_run 5 (6, 48, [some (.ref 2), none, none, some (.int x3)], [.int (a_mm 0 (nI 1) (M 2 1)), .int x3, .int (x3 / (a_mm 0 (nI 1) (M 2 1))), .int x3, .ref 2], (DB o i0 i1 ext), (ms M 3 x3.toNatClampNeg (nI 1))) rfl ?_
    refine T_gd ((a_mm 0 (nI 1) (M 2 1)) = 0) (6, 49, [some (.ref 2), none, none, some (.int x3)], [.int (x3 - x3 / (a_mm 0 (nI 1) (M 2 1)) * (a_mm 0 (nI 1) (M 2 1))), .int (x3 / (a_mm 0 (nI 1) (M 2 1))), .int x3, .ref 2], (DB o i0 i1 ext), (ms M 3 x3.toNatClampNeg (nI 1))) rfl h.1 ?_
    have h := h.2
    refine T_callV (D' := (DB o i0 i1 ext)) rfl (CV_mono h (fun M2 h => ?_))
    refine T_run 2 (6, 26, [some (.ref 2), none, none, some (.int (x3 + (nI 1)))], [], (DB o i0 i1 ext), M2) rfl ?_
    exact h
set_option maxRecDepth 100000 in
theorem b_X1_sowFrom_0 {d : Nat} {Q : ARs → Prop} {o i0 i1 : Option Nat} {ext : ADd} {M : AMm}  (h : T d Q (8, 5, [some (.ref 2), some (.ref 1), some (.int (nI 0))], [], (DB o i0 i1 ext), (ms M 2 3 (nI 0)))) : T d Q (ent 8 [.ref 2, .ref 1] (DB o i0 i1 ext) M) := by
  refine T_run 5 (8, 5, [some (.ref 2), some (.ref 1), some (.int (nI 0))], [], (DB o i0 i1 ext), (ms M 2 3 (nI 0))) rfl ?_
  exact h
set_option maxRecDepth 100000 in
theorem b_X1_sowFrom_5 {d : Nat} {Q : ARs → Prop} {o i0 i1 : Option Nat} {ext : ADd} {M : AMm} (x2 : Int32) (h : ((M 2 2) ≤ x2 → CI d 9 [.ref 2] (DB o i0 i1 ext) M (DB o i0 i1 ext) (fun v3 M2 => Q (none, (DB o i0 i1 ext), (ms M2 2 4 v3)))) ∧ (¬ (M 2 2) ≤ x2 → ((nI 40) ≤ x2 → CI d 9 [.ref 2] (DB o i0 i1 ext) M (DB o i0 i1 ext) (fun v6 M5 => Q (none, (DB o i0 i1 ext), (ms M5 2 4 v6)))) ∧ (¬ (nI 40) ≤ x2 → (vp_in x2 40) ∧ (((M 1 x2.toNatClampNeg) = (nI 35) → (vp_in x2 16) ∧ (T (d + 1) Q (8, 5, [some (.ref 2), some (.ref 1), some (.int (x2 + (nI 1)))], [], (DB o i0 i1 ext), (ms M 3 x2.toNatClampNeg (-(nI 1)))))) ∧ (¬ (M 1 x2.toNatClampNeg) = (nI 35) → (vp_in x2 40) ∧ ((vp_in x2 16) ∧ (T (d + 1) Q (8, 5, [some (.ref 2), some (.ref 1), some (.int (x2 + (nI 1)))], [], (DB o i0 i1 ext), (ms (ms M 3 x2.toNatClampNeg ((M 1 x2.toNatClampNeg) - (nI 48))) 2 3 ((M 2 3) ||| ((nI 1) <<< (x2 &&& 31)))))))))))) : T (d + 1) Q (8, 5, [some (.ref 2), some (.ref 1), some (.int x2)], [], (DB o i0 i1 ext), M) := by
  refine T_run 3 (8, 8, [some (.ref 2), some (.ref 1), some (.int x2)], [.int (M 2 2), .int x2], (DB o i0 i1 ext), M) rfl ?_
  refine T_br ((M 2 2) ≤ x2) (8, 43, [some (.ref 2), some (.ref 1), some (.int x2)], [], (DB o i0 i1 ext), M) (8, 9, [some (.ref 2), some (.ref 1), some (.int x2)], [], (DB o i0 i1 ext), M) rfl (fun hc1 => ?_) (fun hc1 => ?_)
  · have h := h.1 hc1
    refine T_run 2 (8, 45, [some (.ref 2), some (.ref 1), some (.int x2)], [.ref 2, .ref 2], (DB o i0 i1 ext), M) rfl ?_
    refine T_callI (D' := (DB o i0 i1 ext)) rfl (CI_mono h (fun v3 M2 h => ?_))
    refine T_run 1 (8, 47, [some (.ref 2), some (.ref 1), some (.int x2)], [], (DB o i0 i1 ext), (ms M2 2 4 v3)) rfl ?_
    exact T_ret rfl h
  · have h := h.2 hc1
    refine T_run 3 (8, 12, [some (.ref 2), some (.ref 1), some (.int x2)], [.int (nI 40), .int x2], (DB o i0 i1 ext), M) rfl ?_
    refine T_br ((nI 40) ≤ x2) (8, 43, [some (.ref 2), some (.ref 1), some (.int x2)], [], (DB o i0 i1 ext), M) (8, 13, [some (.ref 2), some (.ref 1), some (.int x2)], [], (DB o i0 i1 ext), M) rfl (fun hc4 => ?_) (fun hc4 => ?_)
    · have h := h.1 hc4
      refine T_run 2 (8, 45, [some (.ref 2), some (.ref 1), some (.int x2)], [.ref 2, .ref 2], (DB o i0 i1 ext), M) rfl ?_
      refine T_callI (D' := (DB o i0 i1 ext)) rfl (CI_mono h (fun v6 M5 h => ?_))
      refine T_run 1 (8, 47, [some (.ref 2), some (.ref 1), some (.int x2)], [], (DB o i0 i1 ext), (ms M5 2 4 v6)) rfl ?_
      exact T_ret rfl h
    · have h := h.2 hc4
      refine T_run 2 (8, 15, [some (.ref 2), some (.ref 1), some (.int x2)], [.int x2, .ref 1], (DB o i0 i1 ext), M) rfl ?_
      refine T_gd (x2 < 0 ∨ 40 ≤ x2.toNatClampNeg) (8, 16, [some (.ref 2), some (.ref 1), some (.int x2)], [.int (M 1 x2.toNatClampNeg)], (DB o i0 i1 ext), M) rfl h.1 ?_
      have h := h.2
      refine T_run 1 (8, 17, [some (.ref 2), some (.ref 1), some (.int x2)], [.int (nI 35), .int (M 1 x2.toNatClampNeg)], (DB o i0 i1 ext), M) rfl ?_
      refine T_br ((M 1 x2.toNatClampNeg) = (nI 35)) (8, 18, [some (.ref 2), some (.ref 1), some (.int x2)], [], (DB o i0 i1 ext), M) (8, 24, [some (.ref 2), some (.ref 1), some (.int x2)], [], (DB o i0 i1 ext), M) rfl (fun hc7 => ?_) (fun hc7 => ?_)
      · have h := h.1 hc7
        refine T_run 4 (8, 22, [some (.ref 2), some (.ref 1), some (.int x2)], [.int (-(nI 1)), .int x2, .ref 3], (DB o i0 i1 ext), M) rfl ?_
        refine T_gd (x2 < 0 ∨ 16 ≤ x2.toNatClampNeg) (8, 23, [some (.ref 2), some (.ref 1), some (.int x2)], [], (DB o i0 i1 ext), (ms M 3 x2.toNatClampNeg (-(nI 1)))) rfl h.1 ?_
        have h := h.2
        refine T_run 3 (8, 5, [some (.ref 2), some (.ref 1), some (.int (x2 + (nI 1)))], [], (DB o i0 i1 ext), (ms M 3 x2.toNatClampNeg (-(nI 1)))) rfl ?_
        exact h
      · have h := h.2 hc7
        refine T_run 5 (8, 29, [some (.ref 2), some (.ref 1), some (.int x2)], [.int x2, .ref 1, .int x2, .ref 3], (DB o i0 i1 ext), M) rfl ?_
        refine T_gd (x2 < 0 ∨ 40 ≤ x2.toNatClampNeg) (8, 30, [some (.ref 2), some (.ref 1), some (.int x2)], [.int (M 1 x2.toNatClampNeg), .int x2, .ref 3], (DB o i0 i1 ext), M) rfl h.1 ?_
        have h := h.2
        refine T_run 2 (8, 32, [some (.ref 2), some (.ref 1), some (.int x2)], [.int ((M 1 x2.toNatClampNeg) - (nI 48)), .int x2, .ref 3], (DB o i0 i1 ext), M) rfl ?_
        refine T_gd (x2 < 0 ∨ 16 ≤ x2.toNatClampNeg) (8, 33, [some (.ref 2), some (.ref 1), some (.int x2)], [], (DB o i0 i1 ext), (ms M 3 x2.toNatClampNeg ((M 1 x2.toNatClampNeg) - (nI 48)))) rfl h.1 ?_
        have h := h.2
        refine T_run 10 (8, 5, [some (.ref 2), some (.ref 1), some (.int (x2 + (nI 1)))], [], (DB o i0 i1 ext), (ms (ms M 3 x2.toNatClampNeg ((M 1 x2.toNatClampNeg) - (nI 48))) 2 3 ((M 2 3) ||| ((nI 1) <<< (x2 &&& 31))))) rfl ?_
        exact h
set_option maxRecDepth 100000 in
theorem b_X2_beginOn_0 {d : Nat} {Q : ARs → Prop} {o i0 i1 : Option Nat} {ext : ADd} {M : AMm}  (h : CI d 16 [.ref 2, .int (M 2 4)] (DB o i0 i1 ext) (ms (ms M 7 0 (M 2 4)) 7 1 (nI 0)) (DB o i0 i1 ext) (fun v2 M1 => CI d 17 [.ref 2, .int (M1 7 0), .int (nI 0)] (DB o i0 i1 ext) (ms M1 7 2 v2) (DB o i0 i1 ext) (fun v4 M3 => Q (none, (DB o i0 i1 ext), (ms (ms M3 7 3 v4) 7 4 (-(nI 6))))))) : T (d + 1) Q (ent 24 [.ref 7, .ref 2] (DB o i0 i1 ext) M) := by
  refine T_run 11 (24, 11, [some (.ref 7), some (.ref 2)], [.int (M 2 4), .ref 2, .ref 7], (DB o i0 i1 ext), (ms (ms M 7 0 (M 2 4)) 7 1 (nI 0))) rfl ?_
  refine T_callI (D' := (DB o i0 i1 ext)) rfl (CI_mono h (fun v2 M1 h => ?_))
  refine T_run 6 (24, 18, [some (.ref 7), some (.ref 2)], [.int (nI 0), .int (M1 7 0), .ref 2, .ref 7], (DB o i0 i1 ext), (ms M1 7 2 v2)) rfl ?_
  refine T_callI (D' := (DB o i0 i1 ext)) rfl (CI_mono h (fun v4 M3 h => ?_))
  refine T_run 4 (24, 23, [some (.ref 7), some (.ref 2)], [], (DB o i0 i1 ext), (ms (ms M3 7 3 v4) 7 4 (-(nI 6)))) rfl ?_
  exact T_ret rfl h
set_option maxRecDepth 100000 in
theorem b_X2_go_0 {d : Nat} {Q : ARs → Prop} {o i0 i1 : Option Nat} {ext : ADd} {M : AMm} (x2 : Int32) (h : CI d 13 [.ref 2, .int (M 7 0), .int x2] (DB o i0 i1 ext) M (DB o i0 i1 ext) (fun v2 M1 => CI d 72 [.int (M1 7 2), .int v2] (DB o i0 i1 ext) M1 (DB o i0 i1 ext) (fun v4 M3 => (v4 = 0 → (v2 = (-(nI 1)) → Q (some (.int (nI 0)), (DB o i0 i1 ext), (ms M3 7 4 (nI 1)))) ∧ (¬ v2 = (-(nI 1)) → CI d 12 [.ref 2, .int v2] (DB o i0 i1 ext) M3 (DB o i0 i1 ext) (fun v8 M7 => (v8 = 0 → Q (some (.int (nI 0)), (DB o i0 i1 ext), (ms M7 7 4 (nI 2)))) ∧ (¬ v8 = 0 → Q (some (.int (nI 0)), (DB o i0 i1 ext), (ms M7 7 4 (nI 3))))))) ∧ (¬ v4 = 0 → CI d 17 [.ref 2, .int v2, .int ((M3 7 1) + (nI 1))] (DB o i0 i1 ext) (ms (ms (ms M3 7 1 ((M3 7 1) + (nI 1))) 7 0 v2) 7 2 ((M3 7 2) &&& (((nI 1) <<< (v2 &&& 31)) ^^^ (-(nI 1))))) (DB o i0 i1 ext) (fun v11 M10 => Q (some (.int (nI 1)), (DB o i0 i1 ext), (ms M10 7 3 ((M3 7 3) + v11)))))))) : T (d + 1) Q (ent 25 [.ref 7, .ref 2, .int x2] (DB o i0 i1 ext) M) := by
  refine T_run 4 (25, 4, [some (.ref 7), some (.ref 2), some (.int x2), none], [.int x2, .int (M 7 0), .ref 2], (DB o i0 i1 ext), M) rfl ?_
  refine T_callI (D' := (DB o i0 i1 ext)) rfl (CI_mono h (fun v2 M1 h => ?_))
  refine T_run 4 (25, 9, [some (.ref 7), some (.ref 2), some (.int x2), some (.int v2)], [.int v2, .int (M1 7 2)], (DB o i0 i1 ext), M1) rfl ?_
  refine T_callI (D' := (DB o i0 i1 ext)) rfl (CI_mono h (fun v4 M3 h => ?_))
  refine T_br (v4 = 0) (25, 11, [some (.ref 7), some (.ref 2), some (.int x2), some (.int v2)], [], (DB o i0 i1 ext), M3) (25, 27, [some (.ref 7), some (.ref 2), some (.int x2), some (.int v2)], [], (DB o i0 i1 ext), M3) rfl (fun hc5 => ?_) (fun hc5 => ?_)
  · have h := h.1 hc5
    refine T_run 3 (25, 14, [some (.ref 7), some (.ref 2), some (.int x2), some (.int v2)], [.int (-(nI 1)), .int v2, .ref 7], (DB o i0 i1 ext), M3) rfl ?_
    refine T_br (_) (25, 15, [some (.ref 7), some (.ref 2), some (.int x2), some (.int v2)], [.ref 7], (DB o i0 i1 ext), M3) (25, 17, [some (.ref 7), some (.ref 2), some (.int x2), some (.int v2)], [.ref 7], (DB o i0 i1 ext), M3) rfl (fun hc6 => ?_) (fun hc6 => ?_)
    · have h := h.1 hc6
      refine T_run 4 (25, 26, [some (.ref 7), some (.ref 2), some (.int x2), some (.int v2)], [.int (nI 0)], (DB o i0 i1 ext), (ms M3 7 4 (nI 1))) rfl ?_
      exact T_ret rfl h
    · have h := h.2 hc6
      refine T_run 2 (25, 19, [some (.ref 7), some (.ref 2), some (.int x2), some (.int v2)], [.int v2, .ref 2, .ref 7], (DB o i0 i1 ext), M3) rfl ?_
      refine T_callI (D' := (DB o i0 i1 ext)) rfl (CI_mono h (fun v8 M7 h => ?_))
      refine T_br (v8 = 0) (25, 23, [some (.ref 7), some (.ref 2), some (.int x2), some (.int v2)], [.ref 7], (DB o i0 i1 ext), M7) (25, 21, [some (.ref 7), some (.ref 2), some (.int x2), some (.int v2)], [.ref 7], (DB o i0 i1 ext), M7) rfl (fun hc9 => ?_) (fun hc9 => ?_)
      · have h := h.1 hc9
        refine T_run 3 (25, 26, [some (.ref 7), some (.ref 2), some (.int x2), some (.int v2)], [.int (nI 0)], (DB o i0 i1 ext), (ms M7 7 4 (nI 2))) rfl ?_
        exact T_ret rfl h
      · have h := h.2 hc9
        refine T_run 4 (25, 26, [some (.ref 7), some (.ref 2), some (.int x2), some (.int v2)], [.int (nI 0)], (DB o i0 i1 ext), (ms M7 7 4 (nI 3))) rfl ?_
        exact T_ret rfl h
  · have h := h.2 hc5
    refine T_run 26 (25, 53, [some (.ref 7), some (.ref 2), some (.int x2), some (.int v2)], [.int ((M3 7 1) + (nI 1)), .int v2, .ref 2, .int (M3 7 3), .ref 7], (DB o i0 i1 ext), (ms (ms (ms M3 7 1 ((M3 7 1) + (nI 1))) 7 0 v2) 7 2 ((M3 7 2) &&& (((nI 1) <<< (v2 &&& 31)) ^^^ (-(nI 1)))))) rfl ?_
    refine T_callI (D' := (DB o i0 i1 ext)) rfl (CI_mono h (fun v11 M10 h => ?_))
    refine T_run 3 (25, 57, [some (.ref 7), some (.ref 2), some (.int x2), some (.int v2)], [.int (nI 1)], (DB o i0 i1 ext), (ms M10 7 3 ((M3 7 3) + v11))) rfl ?_
    exact T_ret rfl h
set_option maxRecDepth 100000 in
theorem b_X2_cut_0 {d : Nat} {Q : ARs → Prop} {o i0 i1 : Option Nat} {ext : ADd} {M : AMm}  (h : Q (some (.int ((M 2 3) &&& ((M 7 2) ^^^ (-(nI 1))))), (DB o i0 i1 ext), M)) : T d Q (ent 26 [.ref 7, .ref 2] (DB o i0 i1 ext) M) := by
  refine T_run 7 (26, 7, [some (.ref 7), some (.ref 2)], [.int ((M 2 3) &&& ((M 7 2) ^^^ (-(nI 1))))], (DB o i0 i1 ext), M) rfl ?_
  exact T_ret rfl h
set_option maxRecDepth 100000 in
theorem b_X3_start_0 {d : Nat} {Q : ARs → Prop} {o i0 i1 : Option Nat} {ext : ADd} {M : AMm} (x2 : Int32) (x3 : Int32) (h : Q (none, (DB (some 2) i0 i1 ext), (ms (ms (ms (ms (ms M 8 1 x2) 8 2 (a_mm 1 x3 (nI 15))) 8 3 (nI 0)) 8 4 (nI 0)) 12 0 (nI 0)))) : T d Q (ent 30 [.ref 8, .ref 2, .int x2, .int x3] (DB o i0 i1 ext) M) := by
  refine T_run 21 (30, 21, [some (.ref 8), some (.ref 2), some (.int x2), some (.int x3)], [.int (nI 0), .int (nI 0), .ref 12], (DB (some 2) i0 i1 ext), (ms (ms (ms (ms M 8 1 x2) 8 2 (a_mm 1 x3 (nI 15))) 8 3 (nI 0)) 8 4 (nI 0))) rfl ?_
  refine T_gd ((nI 0) < 0 ∨ 16 ≤ (nI 0).toNatClampNeg) (30, 22, [some (.ref 8), some (.ref 2), some (.int x2), some (.int x3)], [], (DB (some 2) i0 i1 ext), (ms (ms (ms (ms (ms M 8 1 x2) 8 2 (a_mm 1 x3 (nI 15))) 8 3 (nI 0)) 8 4 (nI 0)) 12 0 (nI 0))) rfl (by decide) ?_
  exact T_ret rfl h
set_option maxRecDepth 100000 in
theorem b_X3_from_0 {d : Nat} {Q : ARs → Prop} {o i0 i1 : Option Nat} {ext : ADd} {M : AMm} (x2 : Int32) (x3 : Int32) (h : CV d 30 [.ref 8, .ref 2, .int (nI 0), .int x3] (DB o i0 i1 ext) M (DB (some 2) i0 i1 ext) (fun M1 => CI d 16 [.ref 2, .int x2] (DB (some 2) i0 i1 ext) (ms M1 9 0 x2) (DB (some 2) i0 i1 ext) (fun v3 M2 => CI d 17 [.ref 2, .int x2, .int (nI 0)] (DB (some 2) i0 i1 ext) (ms M2 10 0 v3) (DB (some 2) i0 i1 ext) (fun v5 M4 => Q (none, (DB (some 2) i0 i1 ext), (ms M4 11 0 v5)))))) : T (d + 1) Q (ent 28 [.ref 8, .ref 2, .int x2, .int x3] (DB o i0 i1 ext) M) := by
  refine T_run 4 (28, 4, [some (.ref 8), some (.ref 2), some (.int x2), some (.int x3)], [.int x3, .int (nI 0), .ref 2, .ref 8], (DB o i0 i1 ext), M) rfl ?_
  refine T_callV (D' := (DB (some 2) i0 i1 ext)) rfl (CV_mono h (fun M1 h => ?_))
  refine T_run 4 (28, 9, [some (.ref 8), some (.ref 2), some (.int x2), some (.int x3)], [.int x2, .int (nI 0), .ref 9], (DB (some 2) i0 i1 ext), M1) rfl ?_
  refine T_gd ((nI 0) < 0 ∨ 16 ≤ (nI 0).toNatClampNeg) (28, 10, [some (.ref 8), some (.ref 2), some (.int x2), some (.int x3)], [], (DB (some 2) i0 i1 ext), (ms M1 9 0 x2)) rfl (by decide) ?_
  refine T_run 5 (28, 15, [some (.ref 8), some (.ref 2), some (.int x2), some (.int x3)], [.int x2, .ref 2, .int (nI 0), .ref 10], (DB (some 2) i0 i1 ext), (ms M1 9 0 x2)) rfl ?_
  refine T_callI (D' := (DB (some 2) i0 i1 ext)) rfl (CI_mono h (fun v3 M2 h => ?_))
  refine T_gd ((nI 0) < 0 ∨ 16 ≤ (nI 0).toNatClampNeg) (28, 17, [some (.ref 8), some (.ref 2), some (.int x2), some (.int x3)], [], (DB (some 2) i0 i1 ext), (ms M2 10 0 v3)) rfl (by decide) ?_
  refine T_run 6 (28, 23, [some (.ref 8), some (.ref 2), some (.int x2), some (.int x3)], [.int (nI 0), .int x2, .ref 2, .int (nI 0), .ref 11], (DB (some 2) i0 i1 ext), (ms M2 10 0 v3)) rfl ?_
  refine T_callI (D' := (DB (some 2) i0 i1 ext)) rfl (CI_mono h (fun v5 M4 h => ?_))
  refine T_gd ((nI 0) < 0 ∨ 16 ≤ (nI 0).toNatClampNeg) (28, 25, [some (.ref 8), some (.ref 2), some (.int x2), some (.int x3)], [], (DB (some 2) i0 i1 ext), (ms M4 11 0 v5)) rfl (by decide) ?_
  exact T_ret rfl h
set_option maxRecDepth 100000 in
theorem b_X3_goOn_0 {d : Nat} {Q : ARs → Prop} {o i0 i1 : Option Nat} {ext : ADd} {M : AMm} (x3 : Int32) (h : CV d 30 [.ref 8, .ref 2, .int (M 7 1), .int x3] (DB o i0 i1 ext) M (DB (some 2) i0 i1 ext) (fun M1 => Q (none, (DB (some 2) i0 i1 ext), (ms (ms (ms M1 9 0 (M1 7 0)) 10 0 (M1 7 2)) 11 0 (M1 7 3))))) : T (d + 1) Q (ent 29 [.ref 8, .ref 2, .ref 7, .int x3] (DB o i0 i1 ext) M) := by
  refine T_run 5 (29, 5, [some (.ref 8), some (.ref 2), some (.ref 7), some (.int x3)], [.int x3, .int (M 7 1), .ref 2, .ref 8], (DB o i0 i1 ext), M) rfl ?_
  refine T_callV (D' := (DB (some 2) i0 i1 ext)) rfl (CV_mono h (fun M1 h => ?_))
  refine T_run 5 (29, 11, [some (.ref 8), some (.ref 2), some (.ref 7), some (.int x3)], [.int (M1 7 0), .int (nI 0), .ref 9], (DB (some 2) i0 i1 ext), M1) rfl ?_
  refine T_gd ((nI 0) < 0 ∨ 16 ≤ (nI 0).toNatClampNeg) (29, 12, [some (.ref 8), some (.ref 2), some (.ref 7), some (.int x3)], [], (DB (some 2) i0 i1 ext), (ms M1 9 0 (M1 7 0))) rfl (by decide) ?_
  refine T_run 5 (29, 17, [some (.ref 8), some (.ref 2), some (.ref 7), some (.int x3)], [.int (M1 7 2), .int (nI 0), .ref 10], (DB (some 2) i0 i1 ext), (ms M1 9 0 (M1 7 0))) rfl ?_
  refine T_gd ((nI 0) < 0 ∨ 16 ≤ (nI 0).toNatClampNeg) (29, 18, [some (.ref 8), some (.ref 2), some (.ref 7), some (.int x3)], [], (DB (some 2) i0 i1 ext), (ms (ms M1 9 0 (M1 7 0)) 10 0 (M1 7 2))) rfl (by decide) ?_
  refine T_run 5 (29, 23, [some (.ref 8), some (.ref 2), some (.ref 7), some (.int x3)], [.int (M1 7 3), .int (nI 0), .ref 11], (DB (some 2) i0 i1 ext), (ms (ms M1 9 0 (M1 7 0)) 10 0 (M1 7 2))) rfl ?_
  refine T_gd ((nI 0) < 0 ∨ 16 ≤ (nI 0).toNatClampNeg) (29, 24, [some (.ref 8), some (.ref 2), some (.ref 7), some (.int x3)], [], (DB (some 2) i0 i1 ext), (ms (ms (ms M1 9 0 (M1 7 0)) 10 0 (M1 7 2)) 11 0 (M1 7 3))) rfl (by decide) ?_
  exact T_ret rfl h
set_option maxRecDepth 100000 in
theorem b_X3_next_0 {d : Nat} {Q : ARs → Prop} {i0 i1 : Option Nat} {ext : ADd} {M : AMm}  (h : ((M 8 3) = 0 → Q (some (.int (nI 1)), (DB (some 2) i0 i1 ext), (ms M 8 3 (nI 1)))) ∧ (¬ (M 8 3) = 0 → T d Q (31, 15, [some (.ref 8), some (.int (nI 0)), none], [], (DB (some 2) i0 i1 ext), M))) : T d Q (ent 31 [.ref 8] (DB (some 2) i0 i1 ext) M) := by
  refine T_run 5 (31, 7, [some (.ref 8), none, none], [.int (M 8 3)], (DB (some 2) i0 i1 ext), M) rfl ?_
  refine T_br ((M 8 3) = 0) (31, 8, [some (.ref 8), none, none], [], (DB (some 2) i0 i1 ext), M) (31, 13, [some (.ref 8), none, none], [], (DB (some 2) i0 i1 ext), M) rfl (fun hc1 => ?_) (fun hc1 => ?_)
  · have h := h.1 hc1
    refine T_run 4 (31, 12, [some (.ref 8), none, none], [.int (nI 1)], (DB (some 2) i0 i1 ext), (ms M 8 3 (nI 1))) rfl ?_
    exact T_ret rfl h
  · have h := h.2 hc1
    refine T_run 2 (31, 15, [some (.ref 8), some (.int (nI 0)), none], [], (DB (some 2) i0 i1 ext), M) rfl ?_
    exact h
set_option maxRecDepth 100000 in
theorem b_X3_next_15 {d : Nat} {Q : ARs → Prop} {i0 i1 : Option Nat} {ext : ADd} {M : AMm} (x1 : Int32) (h : ((nI 16) ≤ x1 → Q (some (.int (nI 0)), (DB (some 2) i0 i1 ext), M)) ∧ (¬ (nI 16) ≤ x1 → ((M 8 2) ≤ (M 8 4) → ((M 8 4) = 0 → Q (some (.int (nI 0)), (DB (some 2) i0 i1 ext), M)) ∧ (¬ (M 8 4) = 0 → T (d + 1) Q (31, 15, [some (.ref 8), some (.int (x1 + (nI 1))), none], [], (DB (some 2) i0 i1 ext), (ms M 8 4 ((M 8 4) - (nI 1)))))) ∧ (¬ (M 8 2) ≤ (M 8 4) → (vp_in (M 8 4) 16) ∧ ((vp_in (M 8 4) 16) ∧ ((vp_in (M 8 4) 16) ∧ (CI d 14 [.ref 2, .int (M 9 ((M 8 4).toNatClampNeg)), .int (M 10 ((M 8 4).toNatClampNeg)), .int (M 12 ((M 8 4).toNatClampNeg))] (DB (some 2) i0 i1 ext) M (DB (some 2) i0 i1 ext) (fun v5 M4 => (v5 = (-(nI 6)) → ((M4 8 4) = 0 → Q (some (.int (nI 0)), (DB (some 2) i0 i1 ext), M4)) ∧ (¬ (M4 8 4) = 0 → T (d + 1) Q (31, 15, [some (.ref 8), some (.int (x1 + (nI 1))), none], [], (DB (some 2) i0 i1 ext), (ms M4 8 4 ((M4 8 4) - (nI 1)))))) ∧ (¬ v5 = (-(nI 6)) → (vp_in (M4 8 4) 16) ∧ ((vp_in (M4 8 4) 16) ∧ (CI d 13 [.ref 2, .int (M4 9 ((M4 8 4).toNatClampNeg)), .int v5] (DB (some 2) i0 i1 ext) (ms M4 12 ((M4 8 4).toNatClampNeg) (v5 + (nI 1))) (DB (some 2) i0 i1 ext) (fun v9 M8 => CV d 32 [.ref 8, .int v9] (DB (some 2) i0 i1 ext) M8 (DB (some 2) i0 i1 ext) (fun M10 => Q (some (.int (nI 1)), (DB (some 2) i0 i1 ext), M10))))))))))))) : T (d + 1) Q (31, 15, [some (.ref 8), some (.int x1), none], [], (DB (some 2) i0 i1 ext), M) := by
  refine T_run 2 (31, 17, [some (.ref 8), some (.int x1), none], [.int (nI 16), .int x1], (DB (some 2) i0 i1 ext), M) rfl ?_
  refine T_br ((nI 16) ≤ x1) (31, 81, [some (.ref 8), some (.int x1), none], [], (DB (some 2) i0 i1 ext), M) (31, 18, [some (.ref 8), some (.int x1), none], [], (DB (some 2) i0 i1 ext), M) rfl (fun hc1 => ?_) (fun hc1 => ?_)
  · have h := h.1 hc1
    refine T_run 1 (31, 82, [some (.ref 8), some (.int x1), none], [.int (nI 0)], (DB (some 2) i0 i1 ext), M) rfl ?_
    exact T_ret rfl h
  · have h := h.2 hc1
    refine T_run 4 (31, 22, [some (.ref 8), some (.int x1), none], [.int (M 8 2), .int (M 8 4)], (DB (some 2) i0 i1 ext), M) rfl ?_
    refine T_br ((M 8 2) ≤ (M 8 4)) (31, 42, [some (.ref 8), some (.int x1), none], [], (DB (some 2) i0 i1 ext), M) (31, 23, [some (.ref 8), some (.int x1), none], [], (DB (some 2) i0 i1 ext), M) rfl (fun hc2 => ?_) (fun hc2 => ?_)
    · have h := h.1 hc2
      refine T_run 7 (31, 70, [some (.ref 8), some (.int x1), some (.int (-(nI 6)))], [.int (M 8 4)], (DB (some 2) i0 i1 ext), M) rfl ?_
      refine T_br ((M 8 4) = 0) (31, 71, [some (.ref 8), some (.int x1), some (.int (-(nI 6)))], [], (DB (some 2) i0 i1 ext), M) (31, 73, [some (.ref 8), some (.int x1), some (.int (-(nI 6)))], [], (DB (some 2) i0 i1 ext), M) rfl (fun hc3 => ?_) (fun hc3 => ?_)
      · have h := h.1 hc3
        refine T_run 1 (31, 72, [some (.ref 8), some (.int x1), some (.int (-(nI 6)))], [.int (nI 0)], (DB (some 2) i0 i1 ext), M) rfl ?_
        exact T_ret rfl h
      · have h := h.2 hc3
        refine T_run 8 (31, 15, [some (.ref 8), some (.int (x1 + (nI 1))), some (.int (-(nI 6)))], [], (DB (some 2) i0 i1 ext), (ms M 8 4 ((M 8 4) - (nI 1)))) rfl ?_
        exact T_le (a_le_1 (a_le_1 (a_le_2 rfl a_le_n))) h
    · have h := h.2 hc2
      refine T_run 6 (31, 29, [some (.ref 8), some (.int x1), none], [.int (M 8 4), .ref 9, .ref 2], (DB (some 2) i0 i1 ext), M) rfl ?_
      refine T_gd ((M 8 4) < 0 ∨ 16 ≤ (M 8 4).toNatClampNeg) (31, 30, [some (.ref 8), some (.int x1), none], [.int (M 9 ((M 8 4).toNatClampNeg)), .ref 2], (DB (some 2) i0 i1 ext), M) rfl h.1 ?_
      have h := h.2
      refine T_run 4 (31, 34, [some (.ref 8), some (.int x1), none], [.int (M 8 4), .ref 10, .int (M 9 ((M 8 4).toNatClampNeg)), .ref 2], (DB (some 2) i0 i1 ext), M) rfl ?_
      refine T_gd ((M 8 4) < 0 ∨ 16 ≤ (M 8 4).toNatClampNeg) (31, 35, [some (.ref 8), some (.int x1), none], [.int (M 10 ((M 8 4).toNatClampNeg)), .int (M 9 ((M 8 4).toNatClampNeg)), .ref 2], (DB (some 2) i0 i1 ext), M) rfl h.1 ?_
      have h := h.2
      refine T_run 4 (31, 39, [some (.ref 8), some (.int x1), none], [.int (M 8 4), .ref 12, .int (M 10 ((M 8 4).toNatClampNeg)), .int (M 9 ((M 8 4).toNatClampNeg)), .ref 2], (DB (some 2) i0 i1 ext), M) rfl ?_
      refine T_gd ((M 8 4) < 0 ∨ 16 ≤ (M 8 4).toNatClampNeg) (31, 40, [some (.ref 8), some (.int x1), none], [.int (M 12 ((M 8 4).toNatClampNeg)), .int (M 10 ((M 8 4).toNatClampNeg)), .int (M 9 ((M 8 4).toNatClampNeg)), .ref 2], (DB (some 2) i0 i1 ext), M) rfl h.1 ?_
      have h := h.2
      refine T_callI (D' := (DB (some 2) i0 i1 ext)) rfl (CI_mono h (fun v5 M4 h => ?_))
      refine T_run 4 (31, 46, [some (.ref 8), some (.int x1), some (.int v5)], [.int (-(nI 6)), .int v5], (DB (some 2) i0 i1 ext), M4) rfl ?_
      refine T_br (_) (31, 68, [some (.ref 8), some (.int x1), some (.int v5)], [], (DB (some 2) i0 i1 ext), M4) (31, 47, [some (.ref 8), some (.int x1), some (.int v5)], [], (DB (some 2) i0 i1 ext), M4) rfl (fun hc6 => ?_) (fun hc6 => ?_)
      · have h := h.1 hc6
        refine T_run 2 (31, 70, [some (.ref 8), some (.int x1), some (.int v5)], [.int (M4 8 4)], (DB (some 2) i0 i1 ext), M4) rfl ?_
        refine T_br ((M4 8 4) = 0) (31, 71, [some (.ref 8), some (.int x1), some (.int v5)], [], (DB (some 2) i0 i1 ext), M4) (31, 73, [some (.ref 8), some (.int x1), some (.int v5)], [], (DB (some 2) i0 i1 ext), M4) rfl (fun hc7 => ?_) (fun hc7 => ?_)
        · have h := h.1 hc7
          refine T_run 1 (31, 72, [some (.ref 8), some (.int x1), some (.int v5)], [.int (nI 0)], (DB (some 2) i0 i1 ext), M4) rfl ?_
          exact T_ret rfl h
        · have h := h.2 hc7
          refine T_run 8 (31, 15, [some (.ref 8), some (.int (x1 + (nI 1))), some (.int v5)], [], (DB (some 2) i0 i1 ext), (ms M4 8 4 ((M4 8 4) - (nI 1)))) rfl ?_
          exact T_le (a_le_1 (a_le_1 (a_le_2 rfl a_le_n))) h
      · have h := h.2 hc6
        refine T_run 7 (31, 54, [some (.ref 8), some (.int x1), some (.int v5)], [.int (v5 + (nI 1)), .int (M4 8 4), .ref 12], (DB (some 2) i0 i1 ext), M4) rfl ?_
        refine T_gd ((M4 8 4) < 0 ∨ 16 ≤ (M4 8 4).toNatClampNeg) (31, 55, [some (.ref 8), some (.int x1), some (.int v5)], [], (DB (some 2) i0 i1 ext), (ms M4 12 ((M4 8 4).toNatClampNeg) (v5 + (nI 1)))) rfl h.1 ?_
        have h := h.2
        refine T_run 7 (31, 62, [some (.ref 8), some (.int x1), some (.int v5)], [.int (M4 8 4), .ref 9, .ref 2, .ref 8], (DB (some 2) i0 i1 ext), (ms M4 12 ((M4 8 4).toNatClampNeg) (v5 + (nI 1)))) rfl ?_
        refine T_gd ((M4 8 4) < 0 ∨ 16 ≤ (M4 8 4).toNatClampNeg) (31, 63, [some (.ref 8), some (.int x1), some (.int v5)], [.int (M4 9 ((M4 8 4).toNatClampNeg)), .ref 2, .ref 8], (DB (some 2) i0 i1 ext), (ms M4 12 ((M4 8 4).toNatClampNeg) (v5 + (nI 1)))) rfl h.1 ?_
        have h := h.2
        refine T_run 1 (31, 64, [some (.ref 8), some (.int x1), some (.int v5)], [.int v5, .int (M4 9 ((M4 8 4).toNatClampNeg)), .ref 2, .ref 8], (DB (some 2) i0 i1 ext), (ms M4 12 ((M4 8 4).toNatClampNeg) (v5 + (nI 1)))) rfl ?_
        refine T_callI (D' := (DB (some 2) i0 i1 ext)) rfl (CI_mono h (fun v9 M8 h => ?_))
        refine T_callV (D' := (DB (some 2) i0 i1 ext)) rfl (CV_mono h (fun M10 h => ?_))
        refine T_run 1 (31, 67, [some (.ref 8), some (.int x1), some (.int v5)], [.int (nI 1)], (DB (some 2) i0 i1 ext), M10) rfl ?_
        exact T_ret rfl h
set_option maxRecDepth 100000 in
theorem b_X3_goTo_0 {d : Nat} {Q : ARs → Prop} {i0 i1 : Option Nat} {ext : ADd} {M : AMm} (x1 : Int32) (h : (vp_in ((M 8 4) + (nI 1)) 16) ∧ ((vp_in (M 8 4) 16) ∧ ((vp_in ((M 8 4) + (nI 1)) 16) ∧ ((vp_in (M 8 4) 16) ∧ (CI d 17 [.ref 2, .int x1, .int ((M 8 1) + ((M 8 4) + (nI 1)))] (DB (some 2) i0 i1 ext) (ms (ms M 9 (((M 8 4) + (nI 1)).toNatClampNeg) x1) 10 (((M 8 4) + (nI 1)).toNatClampNeg) ((M 10 ((M 8 4).toNatClampNeg)) &&& (((nI 1) <<< (x1 &&& 31)) ^^^ (-(nI 1))))) (DB (some 2) i0 i1 ext) (fun v2 M1 => (vp_in ((M 8 4) + (nI 1)) 16) ∧ ((vp_in ((M 8 4) + (nI 1)) 16) ∧ (Q (none, (DB (some 2) i0 i1 ext), (ms (ms (ms M1 11 (((M 8 4) + (nI 1)).toNatClampNeg) ((M 11 ((M 8 4).toNatClampNeg)) + v2)) 12 (((M 8 4) + (nI 1)).toNatClampNeg) (nI 0)) 8 4 ((M 8 4) + (nI 1)))))))))))) : T (d + 1) Q (ent 32 [.ref 8, .int x1] (DB (some 2) i0 i1 ext) M) := by
  refine T_run 9 (32, 9, [some (.ref 8), some (.int x1), some (.int ((M 8 4) + (nI 1)))], [.int x1, .int ((M 8 4) + (nI 1)), .ref 9], (DB (some 2) i0 i1 ext), M) rfl ?_
  refine T_gd (((M 8 4) + (nI 1)) < 0 ∨ 16 ≤ ((M 8 4) + (nI 1)).toNatClampNeg) (32, 10, [some (.ref 8), some (.int x1), some (.int ((M 8 4) + (nI 1)))], [], (DB (some 2) i0 i1 ext), (ms M 9 (((M 8 4) + (nI 1)).toNatClampNeg) x1)) rfl h.1 ?_
  have h := h.2
  refine T_run 7 (32, 17, [some (.ref 8), some (.int x1), some (.int ((M 8 4) + (nI 1)))], [.int (M 8 4), .ref 10, .int ((M 8 4) + (nI 1)), .ref 10], (DB (some 2) i0 i1 ext), (ms M 9 (((M 8 4) + (nI 1)).toNatClampNeg) x1)) rfl ?_
  refine T_gd ((M 8 4) < 0 ∨ 16 ≤ (M 8 4).toNatClampNeg) (32, 18, [some (.ref 8), some (.int x1), some (.int ((M 8 4) + (nI 1)))], [.int (M 10 ((M 8 4).toNatClampNeg)), .int ((M 8 4) + (nI 1)), .ref 10], (DB (some 2) i0 i1 ext), (ms M 9 (((M 8 4) + (nI 1)).toNatClampNeg) x1)) rfl h.1 ?_
  have h := h.2
  refine T_run 6 (32, 24, [some (.ref 8), some (.int x1), some (.int ((M 8 4) + (nI 1)))], [.int ((M 10 ((M 8 4).toNatClampNeg)) &&& (((nI 1) <<< (x1 &&& 31)) ^^^ (-(nI 1)))), .int ((M 8 4) + (nI 1)), .ref 10], (DB (some 2) i0 i1 ext), (ms M 9 (((M 8 4) + (nI 1)).toNatClampNeg) x1)) rfl ?_
  refine T_gd (((M 8 4) + (nI 1)) < 0 ∨ 16 ≤ ((M 8 4) + (nI 1)).toNatClampNeg) (32, 25, [some (.ref 8), some (.int x1), some (.int ((M 8 4) + (nI 1)))], [], (DB (some 2) i0 i1 ext), (ms (ms M 9 (((M 8 4) + (nI 1)).toNatClampNeg) x1) 10 (((M 8 4) + (nI 1)).toNatClampNeg) ((M 10 ((M 8 4).toNatClampNeg)) &&& (((nI 1) <<< (x1 &&& 31)) ^^^ (-(nI 1)))))) rfl h.1 ?_
  have h := h.2
  refine T_run 7 (32, 32, [some (.ref 8), some (.int x1), some (.int ((M 8 4) + (nI 1)))], [.int (M 8 4), .ref 11, .int ((M 8 4) + (nI 1)), .ref 11], (DB (some 2) i0 i1 ext), (ms (ms M 9 (((M 8 4) + (nI 1)).toNatClampNeg) x1) 10 (((M 8 4) + (nI 1)).toNatClampNeg) ((M 10 ((M 8 4).toNatClampNeg)) &&& (((nI 1) <<< (x1 &&& 31)) ^^^ (-(nI 1)))))) rfl ?_
  refine T_gd ((M 8 4) < 0 ∨ 16 ≤ (M 8 4).toNatClampNeg) (32, 33, [some (.ref 8), some (.int x1), some (.int ((M 8 4) + (nI 1)))], [.int (M 11 ((M 8 4).toNatClampNeg)), .int ((M 8 4) + (nI 1)), .ref 11], (DB (some 2) i0 i1 ext), (ms (ms M 9 (((M 8 4) + (nI 1)).toNatClampNeg) x1) 10 (((M 8 4) + (nI 1)).toNatClampNeg) ((M 10 ((M 8 4).toNatClampNeg)) &&& (((nI 1) <<< (x1 &&& 31)) ^^^ (-(nI 1)))))) rfl h.1 ?_
  have h := h.2
  refine T_run 7 (32, 40, [some (.ref 8), some (.int x1), some (.int ((M 8 4) + (nI 1)))], [.int ((M 8 1) + ((M 8 4) + (nI 1))), .int x1, .ref 2, .int (M 11 ((M 8 4).toNatClampNeg)), .int ((M 8 4) + (nI 1)), .ref 11], (DB (some 2) i0 i1 ext), (ms (ms M 9 (((M 8 4) + (nI 1)).toNatClampNeg) x1) 10 (((M 8 4) + (nI 1)).toNatClampNeg) ((M 10 ((M 8 4).toNatClampNeg)) &&& (((nI 1) <<< (x1 &&& 31)) ^^^ (-(nI 1)))))) rfl ?_
  refine T_callI (D' := (DB (some 2) i0 i1 ext)) rfl (CI_mono h (fun v2 M1 h => ?_))
  refine T_run 1 (32, 42, [some (.ref 8), some (.int x1), some (.int ((M 8 4) + (nI 1)))], [.int ((M 11 ((M 8 4).toNatClampNeg)) + v2), .int ((M 8 4) + (nI 1)), .ref 11], (DB (some 2) i0 i1 ext), M1) rfl ?_
  refine T_gd (((M 8 4) + (nI 1)) < 0 ∨ 16 ≤ ((M 8 4) + (nI 1)).toNatClampNeg) (32, 43, [some (.ref 8), some (.int x1), some (.int ((M 8 4) + (nI 1)))], [], (DB (some 2) i0 i1 ext), (ms M1 11 (((M 8 4) + (nI 1)).toNatClampNeg) ((M 11 ((M 8 4).toNatClampNeg)) + v2))) rfl h.1 ?_
  have h := h.2
  refine T_run 4 (32, 47, [some (.ref 8), some (.int x1), some (.int ((M 8 4) + (nI 1)))], [.int (nI 0), .int ((M 8 4) + (nI 1)), .ref 12], (DB (some 2) i0 i1 ext), (ms M1 11 (((M 8 4) + (nI 1)).toNatClampNeg) ((M 11 ((M 8 4).toNatClampNeg)) + v2))) rfl ?_
  refine T_gd (((M 8 4) + (nI 1)) < 0 ∨ 16 ≤ ((M 8 4) + (nI 1)).toNatClampNeg) (32, 48, [some (.ref 8), some (.int x1), some (.int ((M 8 4) + (nI 1)))], [], (DB (some 2) i0 i1 ext), (ms (ms M1 11 (((M 8 4) + (nI 1)).toNatClampNeg) ((M 11 ((M 8 4).toNatClampNeg)) + v2)) 12 (((M 8 4) + (nI 1)).toNatClampNeg) (nI 0))) rfl h.1 ?_
  have h := h.2
  refine T_run 3 (32, 51, [some (.ref 8), some (.int x1), some (.int ((M 8 4) + (nI 1)))], [], (DB (some 2) i0 i1 ext), (ms (ms (ms M1 11 (((M 8 4) + (nI 1)).toNatClampNeg) ((M 11 ((M 8 4).toNatClampNeg)) + v2)) 12 (((M 8 4) + (nI 1)).toNatClampNeg) (nI 0)) 8 4 ((M 8 4) + (nI 1)))) rfl ?_
  exact T_ret rfl h
set_option maxRecDepth 100000 in
theorem b_X3_end_0 {d : Nat} {Q : ARs → Prop} {o i0 i1 : Option Nat} {ext : ADd} {M : AMm}  (h : (vp_in (M 8 4) 16) ∧ (Q (some (.int (M 9 ((M 8 4).toNatClampNeg))), (DB o i0 i1 ext), M))) : T d Q (ent 33 [.ref 8] (DB o i0 i1 ext) M) := by
  refine T_run 4 (33, 4, [some (.ref 8)], [.int (M 8 4), .ref 9], (DB o i0 i1 ext), M) rfl ?_
  refine T_gd ((M 8 4) < 0 ∨ 16 ≤ (M 8 4).toNatClampNeg) (33, 5, [some (.ref 8)], [.int (M 9 ((M 8 4).toNatClampNeg))], (DB o i0 i1 ext), M) rfl h.1 ?_
  have h := h.2
  exact T_ret rfl h
set_option maxRecDepth 100000 in
theorem b_X3_brought_0 {d : Nat} {Q : ARs → Prop} {o i0 i1 : Option Nat} {ext : ADd} {M : AMm}  (h : (vp_in (M 8 4) 16) ∧ (Q (some (.int (M 11 ((M 8 4).toNatClampNeg))), (DB o i0 i1 ext), M))) : T d Q (ent 34 [.ref 8] (DB o i0 i1 ext) M) := by
  refine T_run 4 (34, 4, [some (.ref 8)], [.int (M 8 4), .ref 11], (DB o i0 i1 ext), M) rfl ?_
  refine T_gd ((M 8 4) < 0 ∨ 16 ≤ (M 8 4).toNatClampNeg) (34, 5, [some (.ref 8)], [.int (M 11 ((M 8 4).toNatClampNeg))], (DB o i0 i1 ext), M) rfl h.1 ?_
  have h := h.2
  exact T_ret rfl h
set_option maxRecDepth 100000 in
theorem b_X3_leavesNothing_0 {d : Nat} {Q : ARs → Prop} {o i0 i1 : Option Nat} {ext : ADd} {M : AMm}  (h : (vp_in (M 8 4) 16) ∧ (((M 10 ((M 8 4).toNatClampNeg)) = 0 → Q (some (.int (nI 1)), (DB o i0 i1 ext), M)) ∧ (¬ (M 10 ((M 8 4).toNatClampNeg)) = 0 → Q (some (.int (nI 0)), (DB o i0 i1 ext), M)))) : T d Q (ent 35 [.ref 8] (DB o i0 i1 ext) M) := by
  refine T_run 4 (35, 4, [some (.ref 8)], [.int (M 8 4), .ref 10], (DB o i0 i1 ext), M) rfl ?_
  refine T_gd ((M 8 4) < 0 ∨ 16 ≤ (M 8 4).toNatClampNeg) (35, 5, [some (.ref 8)], [.int (M 10 ((M 8 4).toNatClampNeg))], (DB o i0 i1 ext), M) rfl h.1 ?_
  have h := h.2
  refine T_br ((M 10 ((M 8 4).toNatClampNeg)) = 0) (35, 6, [some (.ref 8)], [], (DB o i0 i1 ext), M) (35, 8, [some (.ref 8)], [], (DB o i0 i1 ext), M) rfl (fun hc1 => ?_) (fun hc1 => ?_)
  · have h := h.1 hc1
    refine T_run 2 (35, 9, [some (.ref 8)], [.int (nI 1)], (DB o i0 i1 ext), M) rfl ?_
    exact T_ret rfl h
  · have h := h.2 hc1
    refine T_run 1 (35, 9, [some (.ref 8)], [.int (nI 0)], (DB o i0 i1 ext), M) rfl ?_
    exact T_ret rfl h
set_option maxRecDepth 100000 in
theorem b_X4_field_0 {d : Nat} {Q : ARs → Prop} {o i0 i1 : Option Nat} {ext : ADd} {M : AMm} (x1 : Int32) (x2 : Int32) (h : (x1 < (nI 1) → Q (some (.int (-(nI 2))), (DB o i0 i1 ext), M)) ∧ (¬ x1 < (nI 1) → ((nI 5) < x1 → Q (some (.int (-(nI 2))), (DB o i0 i1 ext), M)) ∧ (¬ (nI 5) < x1 → (x2 < (nI 1) → Q (some (.int (-(nI 2))), (DB o i0 i1 ext), M)) ∧ (¬ x2 < (nI 1) → (x2 ≤ (nI 5) → ((x1 * x2) ≤ (nI 16) → CV d 6 [.ref 2, .int x1, .int x2] (DB o i0 i1 ext) M (DB o i0 i1 ext) (fun M6 => CV d 66 [.ref 0] (DB o i0 i1 ext) M6 (DB o i0 i1 ext) (fun M7 => Q (some (.int (M7 2 2)), (DB o i0 i1 ext), M7)))) ∧ (¬ (x1 * x2) ≤ (nI 16) → Q (some (.int (-(nI 2))), (DB o i0 i1 ext), M))) ∧ (¬ x2 ≤ (nI 5) → Q (some (.int (-(nI 2))), (DB o i0 i1 ext), M)))))) : T (d + 1) Q (ent 37 [.ref 0, .int x1, .int x2] (DB o i0 i1 ext) M) := by
  refine T_run 2 (37, 2, [some (.ref 0), some (.int x1), some (.int x2)], [.int (nI 1), .int x1], (DB o i0 i1 ext), M) rfl ?_
  refine T_br (x1 < (nI 1)) (37, 12, [some (.ref 0), some (.int x1), some (.int x2)], [], (DB o i0 i1 ext), M) (37, 3, [some (.ref 0), some (.int x1), some (.int x2)], [], (DB o i0 i1 ext), M) rfl (fun hc1 => ?_) (fun hc1 => ?_)
  · have h := h.1 hc1
    refine T_run 1 (37, 13, [some (.ref 0), some (.int x1), some (.int x2)], [.int (-(nI 2))], (DB o i0 i1 ext), M) rfl ?_
    exact T_ret rfl h
  · have h := h.2 hc1
    refine T_run 2 (37, 5, [some (.ref 0), some (.int x1), some (.int x2)], [.int (nI 5), .int x1], (DB o i0 i1 ext), M) rfl ?_
    refine T_br ((nI 5) < x1) (37, 12, [some (.ref 0), some (.int x1), some (.int x2)], [], (DB o i0 i1 ext), M) (37, 6, [some (.ref 0), some (.int x1), some (.int x2)], [], (DB o i0 i1 ext), M) rfl (fun hc2 => ?_) (fun hc2 => ?_)
    · have h := h.1 hc2
      refine T_run 1 (37, 13, [some (.ref 0), some (.int x1), some (.int x2)], [.int (-(nI 2))], (DB o i0 i1 ext), M) rfl ?_
      exact T_ret rfl h
    · have h := h.2 hc2
      refine T_run 2 (37, 8, [some (.ref 0), some (.int x1), some (.int x2)], [.int (nI 1), .int x2], (DB o i0 i1 ext), M) rfl ?_
      refine T_br (x2 < (nI 1)) (37, 12, [some (.ref 0), some (.int x1), some (.int x2)], [], (DB o i0 i1 ext), M) (37, 9, [some (.ref 0), some (.int x1), some (.int x2)], [], (DB o i0 i1 ext), M) rfl (fun hc3 => ?_) (fun hc3 => ?_)
      · have h := h.1 hc3
        refine T_run 1 (37, 13, [some (.ref 0), some (.int x1), some (.int x2)], [.int (-(nI 2))], (DB o i0 i1 ext), M) rfl ?_
        exact T_ret rfl h
      · have h := h.2 hc3
        refine T_run 2 (37, 11, [some (.ref 0), some (.int x1), some (.int x2)], [.int (nI 5), .int x2], (DB o i0 i1 ext), M) rfl ?_
        refine T_br (x2 ≤ (nI 5)) (37, 14, [some (.ref 0), some (.int x1), some (.int x2)], [], (DB o i0 i1 ext), M) (37, 12, [some (.ref 0), some (.int x1), some (.int x2)], [], (DB o i0 i1 ext), M) rfl (fun hc4 => ?_) (fun hc4 => ?_)
        · have h := h.1 hc4
          refine T_run 4 (37, 18, [some (.ref 0), some (.int x1), some (.int x2)], [.int (nI 16), .int (x1 * x2)], (DB o i0 i1 ext), M) rfl ?_
          refine T_br ((x1 * x2) ≤ (nI 16)) (37, 21, [some (.ref 0), some (.int x1), some (.int x2)], [], (DB o i0 i1 ext), M) (37, 19, [some (.ref 0), some (.int x1), some (.int x2)], [], (DB o i0 i1 ext), M) rfl (fun hc5 => ?_) (fun hc5 => ?_)
          · have h := h.1 hc5
            refine T_run 4 (37, 25, [some (.ref 0), some (.int x1), some (.int x2)], [.int x2, .int x1, .ref 2], (DB o i0 i1 ext), M) rfl ?_
            refine T_callV (D' := (DB o i0 i1 ext)) rfl (CV_mono h (fun M6 h => ?_))
            refine T_run 1 (37, 27, [some (.ref 0), some (.int x1), some (.int x2)], [.ref 0], (DB o i0 i1 ext), M6) rfl ?_
            refine T_callV (D' := (DB o i0 i1 ext)) rfl (CV_mono h (fun M7 h => ?_))
            refine T_run 3 (37, 31, [some (.ref 0), some (.int x1), some (.int x2)], [.int (M7 2 2)], (DB o i0 i1 ext), M7) rfl ?_
            exact T_ret rfl h
          · have h := h.2 hc5
            refine T_run 1 (37, 20, [some (.ref 0), some (.int x1), some (.int x2)], [.int (-(nI 2))], (DB o i0 i1 ext), M) rfl ?_
            exact T_ret rfl h
        · have h := h.2 hc4
          refine T_run 1 (37, 13, [some (.ref 0), some (.int x1), some (.int x2)], [.int (-(nI 2))], (DB o i0 i1 ext), M) rfl ?_
          exact T_ret rfl h
set_option maxRecDepth 100000 in
theorem b_X4_say_0 {d : Nat} {Q : ARs → Prop} {o i0 i1 : Option Nat} {ext : ADd} {M : AMm} (x1 : Int32) (h : (x1 < (nI 33) → Q (some (.int (-(nI 2))), (DB o i0 i1 ext), M)) ∧ (¬ x1 < (nI 33) → (x1 ≤ (nI 126) → ((M 0 1) < (nI 40) → (vp_in (M 0 1) 40) ∧ (Q (some (.int ((M 0 1) + (nI 1))), (DB o i0 i1 ext), (ms (ms M 1 ((M 0 1).toNatClampNeg) x1) 0 1 ((M 0 1) + (nI 1)))))) ∧ (¬ (M 0 1) < (nI 40) → Q (some (.int (-(nI 4))), (DB o i0 i1 ext), M))) ∧ (¬ x1 ≤ (nI 126) → Q (some (.int (-(nI 2))), (DB o i0 i1 ext), M)))) : T d Q (ent 38 [.ref 0, .int x1] (DB o i0 i1 ext) M) := by
  refine T_run 2 (38, 2, [some (.ref 0), some (.int x1)], [.int (nI 33), .int x1], (DB o i0 i1 ext), M) rfl ?_
  refine T_br (x1 < (nI 33)) (38, 6, [some (.ref 0), some (.int x1)], [], (DB o i0 i1 ext), M) (38, 3, [some (.ref 0), some (.int x1)], [], (DB o i0 i1 ext), M) rfl (fun hc1 => ?_) (fun hc1 => ?_)
  · have h := h.1 hc1
    refine T_run 1 (38, 7, [some (.ref 0), some (.int x1)], [.int (-(nI 2))], (DB o i0 i1 ext), M) rfl ?_
    exact T_ret rfl h
  · have h := h.2 hc1
    refine T_run 2 (38, 5, [some (.ref 0), some (.int x1)], [.int (nI 126), .int x1], (DB o i0 i1 ext), M) rfl ?_
    refine T_br (x1 ≤ (nI 126)) (38, 8, [some (.ref 0), some (.int x1)], [], (DB o i0 i1 ext), M) (38, 6, [some (.ref 0), some (.int x1)], [], (DB o i0 i1 ext), M) rfl (fun hc2 => ?_) (fun hc2 => ?_)
    · have h := h.1 hc2
      refine T_run 3 (38, 11, [some (.ref 0), some (.int x1)], [.int (nI 40), .int (M 0 1)], (DB o i0 i1 ext), M) rfl ?_
      refine T_br ((M 0 1) < (nI 40)) (38, 14, [some (.ref 0), some (.int x1)], [], (DB o i0 i1 ext), M) (38, 12, [some (.ref 0), some (.int x1)], [], (DB o i0 i1 ext), M) rfl (fun hc3 => ?_) (fun hc3 => ?_)
      · have h := h.1 hc3
        refine T_run 5 (38, 19, [some (.ref 0), some (.int x1)], [.int x1, .int (M 0 1), .ref 1], (DB o i0 i1 ext), M) rfl ?_
        refine T_gd ((M 0 1) < 0 ∨ 40 ≤ (M 0 1).toNatClampNeg) (38, 20, [some (.ref 0), some (.int x1)], [], (DB o i0 i1 ext), (ms M 1 ((M 0 1).toNatClampNeg) x1)) rfl h.1 ?_
        have h := h.2
        refine T_run 8 (38, 28, [some (.ref 0), some (.int x1)], [.int ((M 0 1) + (nI 1))], (DB o i0 i1 ext), (ms (ms M 1 ((M 0 1).toNatClampNeg) x1) 0 1 ((M 0 1) + (nI 1)))) rfl ?_
        exact T_ret rfl h
      · have h := h.2 hc3
        refine T_run 1 (38, 13, [some (.ref 0), some (.int x1)], [.int (-(nI 4))], (DB o i0 i1 ext), M) rfl ?_
        exact T_ret rfl h
    · have h := h.2 hc2
      refine T_run 1 (38, 7, [some (.ref 0), some (.int x1)], [.int (-(nI 2))], (DB o i0 i1 ext), M) rfl ?_
      exact T_ret rfl h
set_option maxRecDepth 100000 in
theorem b_X4_wipe_0 {d : Nat} {Q : ARs → Prop} {o i0 i1 : Option Nat} {ext : ADd} {M : AMm}  (h : Q (some (.int (M 0 1)), (DB o i0 i1 ext), (ms M 0 1 (nI 0)))) : T d Q (ent 39 [.ref 0] (DB o i0 i1 ext) M) := by
  refine T_run 7 (39, 7, [some (.ref 0), some (.int (M 0 1))], [.int (M 0 1)], (DB o i0 i1 ext), (ms M 0 1 (nI 0))) rfl ?_
  exact T_ret rfl h
set_option maxRecDepth 100000 in
theorem b_X4_fault_0 {d : Nat} {Q : ARs → Prop} {o i0 i1 : Option Nat} {ext : ADd} {M : AMm} (x1 : Int32) (h : (x1 = 0 → CI d 61 [.ref 0] (DB o i0 i1 ext) M (DB o i0 i1 ext) (fun v3 M2 => Q (some (.int v3), (DB o i0 i1 ext), M2))) ∧ (¬ x1 = 0 → (x1 = (nI 1) → CI d 62 [.ref 0] (DB o i0 i1 ext) M (DB o i0 i1 ext) (fun v6 M5 => Q (some (.int v6), (DB o i0 i1 ext), M5))) ∧ (¬ x1 = (nI 1) → Q (some (.int (-(nI 2))), (DB o i0 i1 ext), M)))) : T (d + 1) Q (ent 40 [.ref 0, .int x1] (DB o i0 i1 ext) M) := by
  refine T_run 1 (40, 1, [some (.ref 0), some (.int x1)], [.int x1], (DB o i0 i1 ext), M) rfl ?_
  refine T_br (x1 = 0) (40, 2, [some (.ref 0), some (.int x1)], [], (DB o i0 i1 ext), M) (40, 5, [some (.ref 0), some (.int x1)], [], (DB o i0 i1 ext), M) rfl (fun hc1 => ?_) (fun hc1 => ?_)
  · have h := h.1 hc1
    refine T_run 1 (40, 3, [some (.ref 0), some (.int x1)], [.ref 0], (DB o i0 i1 ext), M) rfl ?_
    refine T_callI (D' := (DB o i0 i1 ext)) rfl (CI_mono h (fun v3 M2 h => ?_))
    exact T_ret rfl h
  · have h := h.2 hc1
    refine T_run 2 (40, 7, [some (.ref 0), some (.int x1)], [.int (nI 1), .int x1], (DB o i0 i1 ext), M) rfl ?_
    refine T_br (x1 = (nI 1)) (40, 8, [some (.ref 0), some (.int x1)], [], (DB o i0 i1 ext), M) (40, 11, [some (.ref 0), some (.int x1)], [], (DB o i0 i1 ext), M) rfl (fun hc4 => ?_) (fun hc4 => ?_)
    · have h := h.1 hc4
      refine T_run 1 (40, 9, [some (.ref 0), some (.int x1)], [.ref 0], (DB o i0 i1 ext), M) rfl ?_
      refine T_callI (D' := (DB o i0 i1 ext)) rfl (CI_mono h (fun v6 M5 h => ?_))
      exact T_ret rfl h
    · have h := h.2 hc4
      refine T_run 1 (40, 12, [some (.ref 0), some (.int x1)], [.int (-(nI 2))], (DB o i0 i1 ext), M) rfl ?_
      exact T_ret rfl h
set_option maxRecDepth 100000 in
theorem b_X4_sow_0 {d : Nat} {Q : ARs → Prop} {o i0 i1 : Option Nat} {ext : ADd} {M : AMm}  (h : CI d 61 [.ref 0] (DB o i0 i1 ext) M (DB o i0 i1 ext) (fun v2 M1 => (v2 = (-(nI 6)) → CI d 63 [.ref 0] (DB o i0 i1 ext) M1 (DB o i0 i1 ext) (fun v5 M4 => (v5 = 0 → CV d 8 [.ref 2, .ref 1] (DB o i0 i1 ext) M4 (DB o i0 i1 ext) (fun M7 => CV d 66 [.ref 0] (DB o i0 i1 ext) (ms M7 0 1 (nI 0)) (DB o i0 i1 ext) (fun M8 => CI d 0 [.int (M8 2 3)] (DB o i0 i1 ext) M8 (DB o i0 i1 ext) (fun v10 M9 => Q (some (.int v10), (DB o i0 i1 ext), M9))))) ∧ (¬ v5 = 0 → Q (some (.int (-(nI 3))), (DB o i0 i1 ext), M4)))) ∧ (¬ v2 = (-(nI 6)) → Q (some (.int (-(nI 5))), (DB o i0 i1 ext), M1)))) : T (d + 1) Q (ent 41 [.ref 0] (DB o i0 i1 ext) M) := by
  refine T_run 1 (41, 1, [some (.ref 0)], [.ref 0], (DB o i0 i1 ext), M) rfl ?_
  refine T_callI (D' := (DB o i0 i1 ext)) rfl (CI_mono h (fun v2 M1 h => ?_))
  refine T_run 1 (41, 3, [some (.ref 0)], [.int (-(nI 6)), .int v2], (DB o i0 i1 ext), M1) rfl ?_
  refine T_br (_) (41, 6, [some (.ref 0)], [], (DB o i0 i1 ext), M1) (41, 4, [some (.ref 0)], [], (DB o i0 i1 ext), M1) rfl (fun hc3 => ?_) (fun hc3 => ?_)
  · have h := h.1 hc3
    refine T_run 1 (41, 7, [some (.ref 0)], [.ref 0], (DB o i0 i1 ext), M1) rfl ?_
    refine T_callI (D' := (DB o i0 i1 ext)) rfl (CI_mono h (fun v5 M4 h => ?_))
    refine T_br (v5 = 0) (41, 11, [some (.ref 0)], [], (DB o i0 i1 ext), M4) (41, 9, [some (.ref 0)], [], (DB o i0 i1 ext), M4) rfl (fun hc6 => ?_) (fun hc6 => ?_)
    · have h := h.1 hc6
      refine T_run 4 (41, 15, [some (.ref 0)], [.ref 1, .ref 2], (DB o i0 i1 ext), M4) rfl ?_
      refine T_callV (D' := (DB o i0 i1 ext)) rfl (CV_mono h (fun M7 h => ?_))
      refine T_run 4 (41, 20, [some (.ref 0)], [.ref 0], (DB o i0 i1 ext), (ms M7 0 1 (nI 0))) rfl ?_
      refine T_callV (D' := (DB o i0 i1 ext)) rfl (CV_mono h (fun M8 h => ?_))
      refine T_run 3 (41, 24, [some (.ref 0)], [.int (M8 2 3)], (DB o i0 i1 ext), M8) rfl ?_
      refine T_callI (D' := (DB o i0 i1 ext)) rfl (CI_mono h (fun v10 M9 h => ?_))
      exact T_ret rfl h
    · have h := h.2 hc6
      refine T_run 1 (41, 10, [some (.ref 0)], [.int (-(nI 3))], (DB o i0 i1 ext), M4) rfl ?_
      exact T_ret rfl h
  · have h := h.2 hc3
    refine T_run 1 (41, 5, [some (.ref 0)], [.int (-(nI 5))], (DB o i0 i1 ext), M1) rfl ?_
    exact T_ret rfl h
set_option maxRecDepth 100000 in
theorem b_X4_ears_0 {d : Nat} {Q : ARs → Prop} {o i0 i1 : Option Nat} {ext : ADd} {M : AMm} (x1 : Int32) (h : CI d 11 [.ref 2, .int x1] (DB o i0 i1 ext) M (DB o i0 i1 ext) (fun v2 M1 => (v2 = 0 → Q (some (.int (-(nI 1))), (DB o i0 i1 ext), M1)) ∧ (¬ v2 = 0 → CI d 12 [.ref 2, .int x1] (DB o i0 i1 ext) M1 (DB o i0 i1 ext) (fun v5 M4 => (v5 = 0 → Q (some (.int (-(nI 6))), (DB o i0 i1 ext), M4)) ∧ (¬ v5 = 0 → (vp_in x1 16) ∧ (Q (some (.int (M4 3 x1.toNatClampNeg)), (DB o i0 i1 ext), M4))))))) : T (d + 1) Q (ent 42 [.ref 0, .int x1] (DB o i0 i1 ext) M) := by
  refine T_run 3 (42, 3, [some (.ref 0), some (.int x1)], [.int x1, .ref 2], (DB o i0 i1 ext), M) rfl ?_
  refine T_callI (D' := (DB o i0 i1 ext)) rfl (CI_mono h (fun v2 M1 h => ?_))
  refine T_br (v2 = 0) (42, 5, [some (.ref 0), some (.int x1)], [], (DB o i0 i1 ext), M1) (42, 7, [some (.ref 0), some (.int x1)], [], (DB o i0 i1 ext), M1) rfl (fun hc3 => ?_) (fun hc3 => ?_)
  · have h := h.1 hc3
    refine T_run 1 (42, 6, [some (.ref 0), some (.int x1)], [.int (-(nI 1))], (DB o i0 i1 ext), M1) rfl ?_
    exact T_ret rfl h
  · have h := h.2 hc3
    refine T_run 3 (42, 10, [some (.ref 0), some (.int x1)], [.int x1, .ref 2], (DB o i0 i1 ext), M1) rfl ?_
    refine T_callI (D' := (DB o i0 i1 ext)) rfl (CI_mono h (fun v5 M4 h => ?_))
    refine T_br (v5 = 0) (42, 18, [some (.ref 0), some (.int x1)], [], (DB o i0 i1 ext), M4) (42, 12, [some (.ref 0), some (.int x1)], [], (DB o i0 i1 ext), M4) rfl (fun hc6 => ?_) (fun hc6 => ?_)
    · have h := h.1 hc6
      refine T_run 1 (42, 19, [some (.ref 0), some (.int x1)], [.int (-(nI 6))], (DB o i0 i1 ext), M4) rfl ?_
      exact T_ret rfl h
    · have h := h.2 hc6
      refine T_run 4 (42, 16, [some (.ref 0), some (.int x1)], [.int x1, .ref 3], (DB o i0 i1 ext), M4) rfl ?_
      refine T_gd (x1 < 0 ∨ 16 ≤ x1.toNatClampNeg) (42, 17, [some (.ref 0), some (.int x1)], [.int (M4 3 x1.toNatClampNeg)], (DB o i0 i1 ext), M4) rfl h.1 ?_
      have h := h.2
      refine T_run 1 (42, 19, [some (.ref 0), some (.int x1)], [.int (M4 3 x1.toNatClampNeg)], (DB o i0 i1 ext), M4) rfl ?_
      exact T_ret rfl h
set_option maxRecDepth 100000 in
theorem b_X4_begin_0 {d : Nat} {Q : ARs → Prop} {o i0 i1 : Option Nat} {ext : ADd} {M : AMm} (x1 : Int32) (h : CI d 11 [.ref 2, .int x1] (DB o i0 i1 ext) M (DB o i0 i1 ext) (fun v2 M1 => (v2 = 0 → Q (some (.int (-(nI 1))), (DB o i0 i1 ext), M1)) ∧ (¬ v2 = 0 → CI d 12 [.ref 2, .int x1] (DB o i0 i1 ext) M1 (DB o i0 i1 ext) (fun v5 M4 => (v5 = 0 → Q (some (.int (-(nI 3))), (DB o i0 i1 ext), M4)) ∧ (¬ v5 = 0 → CV d 66 [.ref 0] (DB o i0 i1 ext) (ms M4 2 4 x1) (DB o i0 i1 ext) (fun M7 => Q (some (.int (M4 2 4)), (DB o i0 i1 ext), M7))))))) : T (d + 1) Q (ent 43 [.ref 0, .int x1] (DB o i0 i1 ext) M) := by
  refine T_run 3 (43, 3, [some (.ref 0), some (.int x1), none], [.int x1, .ref 2], (DB o i0 i1 ext), M) rfl ?_
  refine T_callI (D' := (DB o i0 i1 ext)) rfl (CI_mono h (fun v2 M1 h => ?_))
  refine T_br (v2 = 0) (43, 5, [some (.ref 0), some (.int x1), none], [], (DB o i0 i1 ext), M1) (43, 7, [some (.ref 0), some (.int x1), none], [], (DB o i0 i1 ext), M1) rfl (fun hc3 => ?_) (fun hc3 => ?_)
  · have h := h.1 hc3
    refine T_run 1 (43, 6, [some (.ref 0), some (.int x1), none], [.int (-(nI 1))], (DB o i0 i1 ext), M1) rfl ?_
    exact T_ret rfl h
  · have h := h.2 hc3
    refine T_run 3 (43, 10, [some (.ref 0), some (.int x1), none], [.int x1, .ref 2], (DB o i0 i1 ext), M1) rfl ?_
    refine T_callI (D' := (DB o i0 i1 ext)) rfl (CI_mono h (fun v5 M4 h => ?_))
    refine T_br (v5 = 0) (43, 12, [some (.ref 0), some (.int x1), none], [], (DB o i0 i1 ext), M4) (43, 14, [some (.ref 0), some (.int x1), none], [], (DB o i0 i1 ext), M4) rfl (fun hc6 => ?_) (fun hc6 => ?_)
    · have h := h.1 hc6
      refine T_run 1 (43, 13, [some (.ref 0), some (.int x1), none], [.int (-(nI 3))], (DB o i0 i1 ext), M4) rfl ?_
      exact T_ret rfl h
    · have h := h.2 hc6
      refine T_run 9 (43, 23, [some (.ref 0), some (.int x1), some (.int (M4 2 4))], [.ref 0], (DB o i0 i1 ext), (ms M4 2 4 x1)) rfl ?_
      refine T_callV (D' := (DB o i0 i1 ext)) rfl (CV_mono h (fun M7 h => ?_))
      refine T_run 1 (43, 25, [some (.ref 0), some (.int x1), some (.int (M4 2 4))], [.int (M4 2 4)], (DB o i0 i1 ext), M7) rfl ?_
      exact T_ret rfl h
set_option maxRecDepth 100000 in
theorem b_X4_spill_0 {d : Nat} {Q : ARs → Prop} {o i0 i1 : Option Nat} {ext : ADd} {M : AMm} (x1 : Int32) (h : (x1 < 0 → Q (some (.int (-(nI 2))), (DB o i0 i1 ext), M)) ∧ (¬ x1 < 0 → (x1 ≤ (nI 9) → CV d 66 [.ref 0] (DB o i0 i1 ext) (ms M 2 5 x1) (DB o i0 i1 ext) (fun M3 => Q (some (.int (M 2 5)), (DB o i0 i1 ext), M3))) ∧ (¬ x1 ≤ (nI 9) → Q (some (.int (-(nI 2))), (DB o i0 i1 ext), M)))) : T (d + 1) Q (ent 44 [.ref 0, .int x1] (DB o i0 i1 ext) M) := by
  refine T_run 1 (44, 1, [some (.ref 0), some (.int x1), none], [.int x1], (DB o i0 i1 ext), M) rfl ?_
  refine T_br (x1 < 0) (44, 5, [some (.ref 0), some (.int x1), none], [], (DB o i0 i1 ext), M) (44, 2, [some (.ref 0), some (.int x1), none], [], (DB o i0 i1 ext), M) rfl (fun hc1 => ?_) (fun hc1 => ?_)
  · have h := h.1 hc1
    refine T_run 1 (44, 6, [some (.ref 0), some (.int x1), none], [.int (-(nI 2))], (DB o i0 i1 ext), M) rfl ?_
    exact T_ret rfl h
  · have h := h.2 hc1
    refine T_run 2 (44, 4, [some (.ref 0), some (.int x1), none], [.int (nI 9), .int x1], (DB o i0 i1 ext), M) rfl ?_
    refine T_br (x1 ≤ (nI 9)) (44, 7, [some (.ref 0), some (.int x1), none], [], (DB o i0 i1 ext), M) (44, 5, [some (.ref 0), some (.int x1), none], [], (DB o i0 i1 ext), M) rfl (fun hc2 => ?_) (fun hc2 => ?_)
    · have h := h.1 hc2
      refine T_run 9 (44, 16, [some (.ref 0), some (.int x1), some (.int (M 2 5))], [.ref 0], (DB o i0 i1 ext), (ms M 2 5 x1)) rfl ?_
      refine T_callV (D' := (DB o i0 i1 ext)) rfl (CV_mono h (fun M3 h => ?_))
      refine T_run 1 (44, 18, [some (.ref 0), some (.int x1), some (.int (M 2 5))], [.int (M 2 5)], (DB o i0 i1 ext), M3) rfl ?_
      exact T_ret rfl h
    · have h := h.2 hc2
      refine T_run 1 (44, 6, [some (.ref 0), some (.int x1), none], [.int (-(nI 2))], (DB o i0 i1 ext), M) rfl ?_
      exact T_ret rfl h
set_option maxRecDepth 100000 in
theorem b_X4_judge_0 {d : Nat} {Q : ARs → Prop} {o i0 i1 : Option Nat} {ext : ADd} {M : AMm} (x1 : Int32) (h : (x1 < 0 → Q (some (.int (-(nI 2))), (DB o i0 i1 ext), M)) ∧ (¬ x1 < 0 → (x1 ≤ (nI 1) → CI d 64 [.ref 0] (DB o i0 i1 ext) M (DB o i0 i1 ext) (fun v4 M3 => (v4 = (-(nI 5)) → Q (some (.int (-(nI 5))), (DB o i0 i1 ext), M3)) ∧ (¬ v4 = (-(nI 5)) → (v4 = 0 → Q (some (.int (-(nI 6))), (DB o i0 i1 ext), M3)) ∧ (¬ v4 = 0 → (x1 = 0 → Q (some (.int (M3 7 1)), (DB o i0 i1 ext), M3)) ∧ (¬ x1 = 0 → Q (some (.int (M3 7 4)), (DB o i0 i1 ext), M3)))))) ∧ (¬ x1 ≤ (nI 1) → Q (some (.int (-(nI 2))), (DB o i0 i1 ext), M)))) : T (d + 1) Q (ent 45 [.ref 0, .int x1] (DB o i0 i1 ext) M) := by
  refine T_run 1 (45, 1, [some (.ref 0), some (.int x1), none], [.int x1], (DB o i0 i1 ext), M) rfl ?_
  refine T_br (x1 < 0) (45, 5, [some (.ref 0), some (.int x1), none], [], (DB o i0 i1 ext), M) (45, 2, [some (.ref 0), some (.int x1), none], [], (DB o i0 i1 ext), M) rfl (fun hc1 => ?_) (fun hc1 => ?_)
  · have h := h.1 hc1
    refine T_run 1 (45, 6, [some (.ref 0), some (.int x1), none], [.int (-(nI 2))], (DB o i0 i1 ext), M) rfl ?_
    exact T_ret rfl h
  · have h := h.2 hc1
    refine T_run 2 (45, 4, [some (.ref 0), some (.int x1), none], [.int (nI 1), .int x1], (DB o i0 i1 ext), M) rfl ?_
    refine T_br (x1 ≤ (nI 1)) (45, 7, [some (.ref 0), some (.int x1), none], [], (DB o i0 i1 ext), M) (45, 5, [some (.ref 0), some (.int x1), none], [], (DB o i0 i1 ext), M) rfl (fun hc2 => ?_) (fun hc2 => ?_)
    · have h := h.1 hc2
      refine T_run 1 (45, 8, [some (.ref 0), some (.int x1), none], [.ref 0], (DB o i0 i1 ext), M) rfl ?_
      refine T_callI (D' := (DB o i0 i1 ext)) rfl (CI_mono h (fun v4 M3 h => ?_))
      refine T_run 3 (45, 12, [some (.ref 0), some (.int x1), some (.int v4)], [.int (-(nI 5)), .int v4], (DB o i0 i1 ext), M3) rfl ?_
      refine T_br (_) (45, 13, [some (.ref 0), some (.int x1), some (.int v4)], [], (DB o i0 i1 ext), M3) (45, 15, [some (.ref 0), some (.int x1), some (.int v4)], [], (DB o i0 i1 ext), M3) rfl (fun hc5 => ?_) (fun hc5 => ?_)
      · have h := h.1 hc5
        refine T_run 1 (45, 14, [some (.ref 0), some (.int x1), some (.int v4)], [.int (-(nI 5))], (DB o i0 i1 ext), M3) rfl ?_
        exact T_ret rfl h
      · have h := h.2 hc5
        refine T_run 1 (45, 16, [some (.ref 0), some (.int x1), some (.int v4)], [.int v4], (DB o i0 i1 ext), M3) rfl ?_
        refine T_br (v4 = 0) (45, 17, [some (.ref 0), some (.int x1), some (.int v4)], [], (DB o i0 i1 ext), M3) (45, 19, [some (.ref 0), some (.int x1), some (.int v4)], [], (DB o i0 i1 ext), M3) rfl (fun hc6 => ?_) (fun hc6 => ?_)
        · have h := h.1 hc6
          refine T_run 1 (45, 18, [some (.ref 0), some (.int x1), some (.int v4)], [.int (-(nI 6))], (DB o i0 i1 ext), M3) rfl ?_
          exact T_ret rfl h
        · have h := h.2 hc6
          refine T_run 1 (45, 20, [some (.ref 0), some (.int x1), some (.int v4)], [.int x1], (DB o i0 i1 ext), M3) rfl ?_
          refine T_br (x1 = 0) (45, 21, [some (.ref 0), some (.int x1), some (.int v4)], [], (DB o i0 i1 ext), M3) (45, 25, [some (.ref 0), some (.int x1), some (.int v4)], [], (DB o i0 i1 ext), M3) rfl (fun hc7 => ?_) (fun hc7 => ?_)
          · have h := h.1 hc7
            refine T_run 4 (45, 28, [some (.ref 0), some (.int x1), some (.int v4)], [.int (M3 7 1)], (DB o i0 i1 ext), M3) rfl ?_
            exact T_ret rfl h
          · have h := h.2 hc7
            refine T_run 3 (45, 28, [some (.ref 0), some (.int x1), some (.int v4)], [.int (M3 7 4)], (DB o i0 i1 ext), M3) rfl ?_
            exact T_ret rfl h
    · have h := h.2 hc2
      refine T_run 1 (45, 6, [some (.ref 0), some (.int x1), none], [.int (-(nI 2))], (DB o i0 i1 ext), M) rfl ?_
      exact T_ret rfl h
set_option maxRecDepth 100000 in
theorem b_X4_way_0 {d : Nat} {Q : ARs → Prop} {o i0 i1 : Option Nat} {ext : ADd} {M : AMm} (x1 : Int32) (h : (x1 < 0 → Q (some (.int (-(nI 2))), (DB o i0 i1 ext), M)) ∧ (¬ x1 < 0 → (x1 ≤ (nI 6) → CI d 64 [.ref 0] (DB o i0 i1 ext) M (DB o i0 i1 ext) (fun v4 M3 => (v4 = 0 → (x1 = nI 0 → Q (some (.int (M3 7 0)), (DB o i0 i1 ext), M3)) ∧ (¬ x1 = nI 0 → (x1 = nI 1 → Q (some (.int ((M3 7 1) + (nI 1))), (DB o i0 i1 ext), M3)) ∧ (¬ x1 = nI 1 → (x1 = nI 2 → CI d 26 [.ref 7, .ref 2] (DB o i0 i1 ext) M3 (DB o i0 i1 ext) (fun v7 M6 => CI d 18 [.ref 2, .int v7] (DB o i0 i1 ext) M6 (DB o i0 i1 ext) (fun v9 M8 => Q (some (.int v9), (DB o i0 i1 ext), M8)))) ∧ (¬ x1 = nI 2 → (x1 = nI 3 → CI d 19 [.ref 2, .int (M3 7 0), .int (M3 7 2)] (DB o i0 i1 ext) M3 (DB o i0 i1 ext) (fun v11 M10 => Q (some (.int ((M3 7 2) &&& (v11 ^^^ (-(nI 1))))), (DB o i0 i1 ext), M10))) ∧ (¬ x1 = nI 3 → (x1 = nI 4 → CI d 15 [.ref 2, .int (M3 7 0), .int (M3 7 2)] (DB o i0 i1 ext) M3 (DB o i0 i1 ext) (fun v13 M12 => (v13 = 0 → Q (some (.int (nI 0)), (DB o i0 i1 ext), M12)) ∧ (¬ v13 = 0 → Q (some (.int (nI 1)), (DB o i0 i1 ext), M12)))) ∧ (¬ x1 = nI 4 → (x1 = nI 5 → Q (some (.int (M3 7 3)), (DB o i0 i1 ext), M3)) ∧ (¬ x1 = nI 5 → CI d 26 [.ref 7, .ref 2] (DB o i0 i1 ext) M3 (DB o i0 i1 ext) (fun v16 M15 => Q (some (.int v16), (DB o i0 i1 ext), M15))))))))) ∧ (¬ v4 = 0 → Q (some (.int v4), (DB o i0 i1 ext), M3)))) ∧ (¬ x1 ≤ (nI 6) → Q (some (.int (-(nI 2))), (DB o i0 i1 ext), M)))) : T (d + 1) Q (ent 46 [.ref 0, .int x1] (DB o i0 i1 ext) M) := by
  refine T_run 1 (46, 1, [some (.ref 0), some (.int x1), none], [.int x1], (DB o i0 i1 ext), M) rfl ?_
  refine T_br (x1 < 0) (46, 5, [some (.ref 0), some (.int x1), none], [], (DB o i0 i1 ext), M) (46, 2, [some (.ref 0), some (.int x1), none], [], (DB o i0 i1 ext), M) rfl (fun hc1 => ?_) (fun hc1 => ?_)
  · have h := h.1 hc1
    refine T_run 1 (46, 6, [some (.ref 0), some (.int x1), none], [.int (-(nI 2))], (DB o i0 i1 ext), M) rfl ?_
    exact T_ret rfl h
  · have h := h.2 hc1
    refine T_run 2 (46, 4, [some (.ref 0), some (.int x1), none], [.int (nI 6), .int x1], (DB o i0 i1 ext), M) rfl ?_
    refine T_br (x1 ≤ (nI 6)) (46, 7, [some (.ref 0), some (.int x1), none], [], (DB o i0 i1 ext), M) (46, 5, [some (.ref 0), some (.int x1), none], [], (DB o i0 i1 ext), M) rfl (fun hc2 => ?_) (fun hc2 => ?_)
    · have h := h.1 hc2
      refine T_run 1 (46, 8, [some (.ref 0), some (.int x1), none], [.ref 0], (DB o i0 i1 ext), M) rfl ?_
      refine T_callI (D' := (DB o i0 i1 ext)) rfl (CI_mono h (fun v4 M3 h => ?_))
      refine T_run 2 (46, 11, [some (.ref 0), some (.int x1), some (.int v4)], [.int v4], (DB o i0 i1 ext), M3) rfl ?_
      refine T_br (v4 = 0) (46, 14, [some (.ref 0), some (.int x1), some (.int v4)], [], (DB o i0 i1 ext), M3) (46, 12, [some (.ref 0), some (.int x1), some (.int v4)], [], (DB o i0 i1 ext), M3) rfl (fun hc5 => ?_) (fun hc5 => ?_)
      · have h := h.1 hc5
        refine T_run 1 (46, 15, [some (.ref 0), some (.int x1), some (.int v4)], [.int x1], (DB o i0 i1 ext), M3) rfl ?_
        by_cases hc0 : x1 = nI 0
        · have h := h.1 hc0
          refine T_ts (x := x1) rfl 0 16 hc0 rfl ?_
          refine T_run 3 (46, 19, [some (.ref 0), some (.int x1), some (.int v4)], [.int (M3 7 0)], (DB o i0 i1 ext), M3) rfl ?_
          exact T_ret rfl h
        have h := h.2 hc0
        by_cases hc1 : x1 = nI 1
        · have h := h.1 hc1
          refine T_ts (x := x1) rfl 1 20 hc1 rfl ?_
          refine T_run 5 (46, 25, [some (.ref 0), some (.int x1), some (.int v4)], [.int ((M3 7 1) + (nI 1))], (DB o i0 i1 ext), M3) rfl ?_
          exact T_ret rfl h
        have h := h.2 hc1
        by_cases hc2 : x1 = nI 2
        · have h := h.1 hc2
          refine T_ts (x := x1) rfl 2 26 hc2 rfl ?_
          refine T_run 6 (46, 32, [some (.ref 0), some (.int x1), some (.int v4)], [.ref 2, .ref 7, .ref 2], (DB o i0 i1 ext), M3) rfl ?_
          refine T_callI (D' := (DB o i0 i1 ext)) rfl (CI_mono h (fun v7 M6 h => ?_))
          refine T_callI (D' := (DB o i0 i1 ext)) rfl (CI_mono h (fun v9 M8 h => ?_))
          exact T_ret rfl h
        have h := h.2 hc2
        by_cases hc3 : x1 = nI 3
        · have h := h.1 hc3
          refine T_ts (x := x1) rfl 3 35 hc3 rfl ?_
          refine T_run 11 (46, 46, [some (.ref 0), some (.int x1), some (.int v4)], [.int (M3 7 2), .int (M3 7 0), .ref 2, .int (M3 7 2)], (DB o i0 i1 ext), M3) rfl ?_
          refine T_callI (D' := (DB o i0 i1 ext)) rfl (CI_mono h (fun v11 M10 h => ?_))
          refine T_run 3 (46, 50, [some (.ref 0), some (.int x1), some (.int v4)], [.int ((M3 7 2) &&& (v11 ^^^ (-(nI 1))))], (DB o i0 i1 ext), M10) rfl ?_
          exact T_ret rfl h
        have h := h.2 hc3
        by_cases hc4 : x1 = nI 4
        · have h := h.1 hc4
          refine T_ts (x := x1) rfl 4 51 hc4 rfl ?_
          refine T_run 8 (46, 59, [some (.ref 0), some (.int x1), some (.int v4)], [.int (M3 7 2), .int (M3 7 0), .ref 2], (DB o i0 i1 ext), M3) rfl ?_
          refine T_callI (D' := (DB o i0 i1 ext)) rfl (CI_mono h (fun v13 M12 h => ?_))
          refine T_br (v13 = 0) (46, 63, [some (.ref 0), some (.int x1), some (.int v4)], [], (DB o i0 i1 ext), M12) (46, 61, [some (.ref 0), some (.int x1), some (.int v4)], [], (DB o i0 i1 ext), M12) rfl (fun hc14 => ?_) (fun hc14 => ?_)
          · have h := h.1 hc14
            refine T_run 1 (46, 64, [some (.ref 0), some (.int x1), some (.int v4)], [.int (nI 0)], (DB o i0 i1 ext), M12) rfl ?_
            exact T_ret rfl h
          · have h := h.2 hc14
            refine T_run 2 (46, 64, [some (.ref 0), some (.int x1), some (.int v4)], [.int (nI 1)], (DB o i0 i1 ext), M12) rfl ?_
            exact T_ret rfl h
        have h := h.2 hc4
        by_cases hc5 : x1 = nI 5
        · have h := h.1 hc5
          refine T_ts (x := x1) rfl 5 65 hc5 rfl ?_
          refine T_run 3 (46, 68, [some (.ref 0), some (.int x1), some (.int v4)], [.int (M3 7 3)], (DB o i0 i1 ext), M3) rfl ?_
          exact T_ret rfl h
        have h := h.2 hc5
        refine T_td (x := x1) rfl 6 rfl (by decide) (fun i hi => ?_) ?_
        · match i, hi with
          | 0, _ => exact hc0
          | 1, _ => exact hc1
          | 2, _ => exact hc2
          | 3, _ => exact hc3
          | 4, _ => exact hc4
          | 5, _ => exact hc5
          | i + 6, hi => exact absurd hi (by omega)
        refine T_run 4 (46, 73, [some (.ref 0), some (.int x1), some (.int v4)], [.ref 2, .ref 7], (DB o i0 i1 ext), M3) rfl ?_
        refine T_callI (D' := (DB o i0 i1 ext)) rfl (CI_mono h (fun v16 M15 h => ?_))
        exact T_ret rfl h
      · have h := h.2 hc5
        refine T_run 1 (46, 13, [some (.ref 0), some (.int x1), some (.int v4)], [.int v4], (DB o i0 i1 ext), M3) rfl ?_
        exact T_ret rfl h
    · have h := h.2 hc2
      refine T_run 1 (46, 6, [some (.ref 0), some (.int x1), none], [.int (-(nI 2))], (DB o i0 i1 ext), M) rfl ?_
      exact T_ret rfl h
set_option maxRecDepth 100000 in
theorem b_X4_longest_0 {d : Nat} {Q : ARs → Prop} {o i0 i1 : Option Nat} {ext : ADd} {M : AMm} (x1 : Int32) (h : CV d 67 [.ref 0] (DB o i0 i1 ext) M (DB (some 2) i0 i1 ext) (fun M1 => (x1 = (-(nI 1)) → Q (some (.int (M1 15 0)), (DB (some 2) i0 i1 ext), M1)) ∧ (¬ x1 = (-(nI 1)) → CI d 4 [.ref 15, .int x1] (DB (some 2) i0 i1 ext) M1 (DB (some 2) i0 i1 ext) (fun v4 M3 => Q (some (.int v4), (DB (some 2) i0 i1 ext), M3))))) : T (d + 1) Q (ent 47 [.ref 0, .int x1] (DB o i0 i1 ext) M) := by
  refine T_run 1 (47, 1, [some (.ref 0), some (.int x1)], [.ref 0], (DB o i0 i1 ext), M) rfl ?_
  refine T_callV (D' := (DB (some 2) i0 i1 ext)) rfl (CV_mono h (fun M1 h => ?_))
  refine T_run 2 (47, 4, [some (.ref 0), some (.int x1)], [.int (-(nI 1)), .int x1], (DB (some 2) i0 i1 ext), M1) rfl ?_
  refine T_br (_) (47, 5, [some (.ref 0), some (.int x1)], [], (DB (some 2) i0 i1 ext), M1) (47, 9, [some (.ref 0), some (.int x1)], [], (DB (some 2) i0 i1 ext), M1) rfl (fun hc2 => ?_) (fun hc2 => ?_)
  · have h := h.1 hc2
    refine T_run 4 (47, 13, [some (.ref 0), some (.int x1)], [.int (M1 15 0)], (DB (some 2) i0 i1 ext), M1) rfl ?_
    exact T_ret rfl h
  · have h := h.2 hc2
    refine T_run 3 (47, 12, [some (.ref 0), some (.int x1)], [.int x1, .ref 15], (DB (some 2) i0 i1 ext), M1) rfl ?_
    refine T_callI (D' := (DB (some 2) i0 i1 ext)) rfl (CI_mono h (fun v4 M3 h => ?_))
    exact T_ret rfl h
set_option maxRecDepth 100000 in
theorem b_X4_all_0 {d : Nat} {Q : ARs → Prop} {o i0 i1 : Option Nat} {ext : ADd} {M : AMm} (x1 : Int32) (h : (x1 = (-(nI 1)) → CV d 67 [.ref 0] (DB o i0 i1 ext) M (DB (some 2) i0 i1 ext) (fun M2 => T (d + 1) Q (48, 24, [some (.ref 0), none, some (.int (nI 0)), some (.int (nI 0))], [], (DB (some 2) i0 i1 ext), M2))) ∧ (¬ x1 = (-(nI 1)) → CI d 11 [.ref 2, .int x1] (DB o i0 i1 ext) M (DB o i0 i1 ext) (fun v4 M3 => (v4 = 0 → Q (some (.int (-(nI 1))), (DB o i0 i1 ext), M3)) ∧ (¬ v4 = 0 → CV d 67 [.ref 0] (DB o i0 i1 ext) M3 (DB (some 2) i0 i1 ext) (fun M6 => (vp_in x1 16) ∧ (Q (some (.int (M6 19 x1.toNatClampNeg)), (DB (some 2) i0 i1 ext), M6))))))) : T (d + 1) Q (ent 48 [.ref 0, .int x1] (DB o i0 i1 ext) M) := by
  refine T_run 2 (48, 2, [some (.ref 0), some (.int x1), none, none], [.int (-(nI 1)), .int x1], (DB o i0 i1 ext), M) rfl ?_
  refine T_br (_) (48, 10, [some (.ref 0), some (.int x1), none, none], [], (DB o i0 i1 ext), M) (48, 3, [some (.ref 0), some (.int x1), none, none], [], (DB o i0 i1 ext), M) rfl (fun hc1 => ?_) (fun hc1 => ?_)
  · have h := h.1 hc1
    refine T_run 1 (48, 11, [some (.ref 0), some (.int x1), none, none], [.ref 0], (DB o i0 i1 ext), M) rfl ?_
    refine T_callV (D' := (DB (some 2) i0 i1 ext)) rfl (CV_mono h (fun M2 h => ?_))
    refine T_run 2 (48, 14, [some (.ref 0), some (.int x1), none, none], [.int (-(nI 1)), .int x1], (DB (some 2) i0 i1 ext), M2) rfl ?_
    refine T_br (x1 = (-(nI 1))) (48, 20, [some (.ref 0), some (.int x1), none, none], [], (DB (some 2) i0 i1 ext), M2) (48, 15, [some (.ref 0), some (.int x1), none, none], [], (DB (some 2) i0 i1 ext), M2) rfl (fun _ => ?_) (fun hz => absurd hc1 hz)
    refine T_run 4 (48, 24, [some (.ref 0), some (.int x1), some (.int (nI 0)), some (.int (nI 0))], [], (DB (some 2) i0 i1 ext), M2) rfl ?_
    exact T_le (a_le_1 (a_le_2 rfl (a_le_1 (a_le_1 a_le_n)))) h
  · have h := h.2 hc1
    refine T_run 3 (48, 6, [some (.ref 0), some (.int x1), none, none], [.int x1, .ref 2], (DB o i0 i1 ext), M) rfl ?_
    refine T_callI (D' := (DB o i0 i1 ext)) rfl (CI_mono h (fun v4 M3 h => ?_))
    refine T_br (v4 = 0) (48, 8, [some (.ref 0), some (.int x1), none, none], [], (DB o i0 i1 ext), M3) (48, 10, [some (.ref 0), some (.int x1), none, none], [], (DB o i0 i1 ext), M3) rfl (fun hc5 => ?_) (fun hc5 => ?_)
    · have h := h.1 hc5
      refine T_run 1 (48, 9, [some (.ref 0), some (.int x1), none, none], [.int (-(nI 1))], (DB o i0 i1 ext), M3) rfl ?_
      exact T_ret rfl h
    · have h := h.2 hc5
      refine T_run 1 (48, 11, [some (.ref 0), some (.int x1), none, none], [.ref 0], (DB o i0 i1 ext), M3) rfl ?_
      refine T_callV (D' := (DB (some 2) i0 i1 ext)) rfl (CV_mono h (fun M6 h => ?_))
      refine T_run 2 (48, 14, [some (.ref 0), some (.int x1), none, none], [.int (-(nI 1)), .int x1], (DB (some 2) i0 i1 ext), M6) rfl ?_
      refine T_br (x1 = (-(nI 1))) (48, 20, [some (.ref 0), some (.int x1), none, none], [], (DB (some 2) i0 i1 ext), M6) (48, 15, [some (.ref 0), some (.int x1), none, none], [], (DB (some 2) i0 i1 ext), M6) rfl (fun hz => absurd hz hc1) (fun _ => ?_)
      refine T_run 3 (48, 18, [some (.ref 0), some (.int x1), none, none], [.int x1, .ref 19], (DB (some 2) i0 i1 ext), M6) rfl ?_
      refine T_gd (x1 < 0 ∨ 16 ≤ x1.toNatClampNeg) (48, 19, [some (.ref 0), some (.int x1), none, none], [.int (M6 19 x1.toNatClampNeg)], (DB (some 2) i0 i1 ext), M6) rfl h.1 ?_
      have h := h.2
      exact T_ret rfl h
set_option maxRecDepth 100000 in
theorem b_X4_all_24 {d : Nat} {Q : ARs → Prop} {o i0 i1 : Option Nat} {ext : ADd} {M : AMm} (x2 : Int32) (x3 : Int32) (h : ((nI 16) ≤ x3 → Q (some (.int x2), (DB o i0 i1 ext), M)) ∧ (¬ (nI 16) ≤ x3 → (vp_in x3 16) ∧ (T d Q (48, 24, [some (.ref 0), none, some (.int (x2 + (M 19 x3.toNatClampNeg))), some (.int (x3 + (nI 1)))], [], (DB o i0 i1 ext), M)))) : T d Q (48, 24, [some (.ref 0), none, some (.int x2), some (.int x3)], [], (DB o i0 i1 ext), M) := by
  refine T_run 2 (48, 26, [some (.ref 0), none, some (.int x2), some (.int x3)], [.int (nI 16), .int x3], (DB o i0 i1 ext), M) rfl ?_
  refine T_br ((nI 16) ≤ x3) (48, 36, [some (.ref 0), none, some (.int x2), some (.int x3)], [], (DB o i0 i1 ext), M) (48, 27, [some (.ref 0), none, some (.int x2), some (.int x3)], [], (DB o i0 i1 ext), M) rfl (fun hc1 => ?_) (fun hc1 => ?_)
  · have h := h.1 hc1
    refine T_run 1 (48, 37, [some (.ref 0), none, some (.int x2), some (.int x3)], [.int x2], (DB o i0 i1 ext), M) rfl ?_
    exact T_ret rfl h
  · have h := h.2 hc1
    refine T_run 4 (48, 31, [some (.ref 0), none, some (.int x2), some (.int x3)], [.int x3, .ref 19, .int x2], (DB o i0 i1 ext), M) rfl ?_
    refine T_gd (x3 < 0 ∨ 16 ≤ x3.toNatClampNeg) (48, 32, [some (.ref 0), none, some (.int x2), some (.int x3)], [.int (M 19 x3.toNatClampNeg), .int x2], (DB o i0 i1 ext), M) rfl h.1 ?_
    have h := h.2
    refine T_run 4 (48, 24, [some (.ref 0), none, some (.int (x2 + (M 19 x3.toNatClampNeg))), some (.int (x3 + (nI 1)))], [], (DB o i0 i1 ext), M) rfl ?_
    exact h
set_option maxRecDepth 100000 in
theorem b_X4_bound_0 {d : Nat} {Q : ARs → Prop} {o i0 i1 : Option Nat} {ext : ADd} {M : AMm}  (h : CI d 20 [.ref 2, .int (M 2 4)] (DB o i0 i1 ext) M (DB o i0 i1 ext) (fun v2 M1 => Q (some (.int v2), (DB o i0 i1 ext), M1))) : T (d + 1) Q (ent 49 [.ref 0] (DB o i0 i1 ext) M) := by
  refine T_run 5 (49, 5, [some (.ref 0)], [.int (M 2 4), .ref 2], (DB o i0 i1 ext), M) rfl ?_
  refine T_callI (D' := (DB o i0 i1 ext)) rfl (CI_mono h (fun v2 M1 h => ?_))
  exact T_ret rfl h
set_option maxRecDepth 100000 in
theorem b_X4_best_0 {d : Nat} {Q : ARs → Prop} {o i0 i1 : Option Nat} {ext : ADd} {M : AMm} (x1 : Int32) (h : CV d 67 [.ref 0] (DB o i0 i1 ext) M (DB (some 2) i0 i1 ext) (fun M1 => (x1 = (-(nI 1)) → Q (some (.int (M1 17 0)), (DB (some 2) i0 i1 ext), M1)) ∧ (¬ x1 = (-(nI 1)) → CI d 4 [.ref 17, .int x1] (DB (some 2) i0 i1 ext) M1 (DB (some 2) i0 i1 ext) (fun v4 M3 => Q (some (.int v4), (DB (some 2) i0 i1 ext), M3))))) : T (d + 1) Q (ent 50 [.ref 0, .int x1] (DB o i0 i1 ext) M) := by
  refine T_run 1 (50, 1, [some (.ref 0), some (.int x1)], [.ref 0], (DB o i0 i1 ext), M) rfl ?_
  refine T_callV (D' := (DB (some 2) i0 i1 ext)) rfl (CV_mono h (fun M1 h => ?_))
  refine T_run 2 (50, 4, [some (.ref 0), some (.int x1)], [.int (-(nI 1)), .int x1], (DB (some 2) i0 i1 ext), M1) rfl ?_
  refine T_br (_) (50, 5, [some (.ref 0), some (.int x1)], [], (DB (some 2) i0 i1 ext), M1) (50, 9, [some (.ref 0), some (.int x1)], [], (DB (some 2) i0 i1 ext), M1) rfl (fun hc2 => ?_) (fun hc2 => ?_)
  · have h := h.1 hc2
    refine T_run 4 (50, 13, [some (.ref 0), some (.int x1)], [.int (M1 17 0)], (DB (some 2) i0 i1 ext), M1) rfl ?_
    exact T_ret rfl h
  · have h := h.2 hc2
    refine T_run 3 (50, 12, [some (.ref 0), some (.int x1)], [.int x1, .ref 17], (DB (some 2) i0 i1 ext), M1) rfl ?_
    refine T_callI (D' := (DB (some 2) i0 i1 ext)) rfl (CI_mono h (fun v4 M3 h => ?_))
    exact T_ret rfl h
set_option maxRecDepth 100000 in
theorem b_X4_storm_0 {d : Nat} {Q : ARs → Prop} {o i0 i1 : Option Nat} {ext : ADd} {M : AMm} (x1 : Int32) (x2 : Int32) (h : (x1 < 0 → Q (some (.int (-(nI 2))), (DB o i0 i1 ext), M)) ∧ (¬ x1 < 0 → ((nI 20) < x1 → Q (some (.int (-(nI 2))), (DB o i0 i1 ext), M)) ∧ (¬ (nI 20) < x1 → (x2 < 0 → Q (some (.int (-(nI 2))), (DB o i0 i1 ext), M)) ∧ (¬ x2 < 0 → (x2 ≤ (nI 1) → CI d 64 [.ref 0] (DB o i0 i1 ext) M (DB o i0 i1 ext) (fun v6 M5 => (v6 = 0 → CV d 2 [.ref 13] (DB o i0 i1 ext) M5 (DB o i0 i1 ext) (fun M8 => CV d 29 [.ref 8, .ref 2, .ref 7, .int x1] (DB o i0 i1 ext) M8 (DB (some 2) i0 i1 ext) (fun M9 => T (d + 1) Q (51, 32, [some (.ref 0), none, some (.int x2), none, some (.int (nI 0))], [], (DB (some 2) i0 i1 ext), M9)))) ∧ (¬ v6 = 0 → Q (some (.int v6), (DB o i0 i1 ext), M5)))) ∧ (¬ x2 ≤ (nI 1) → Q (some (.int (-(nI 2))), (DB o i0 i1 ext), M)))))) : T (d + 1) Q (ent 51 [.ref 0, .int x1, .int x2] (DB o i0 i1 ext) M) := by
  refine T_run 1 (51, 1, [some (.ref 0), some (.int x1), some (.int x2), none, none], [.int x1], (DB o i0 i1 ext), M) rfl ?_
  refine T_br (x1 < 0) (51, 10, [some (.ref 0), some (.int x1), some (.int x2), none, none], [], (DB o i0 i1 ext), M) (51, 2, [some (.ref 0), some (.int x1), some (.int x2), none, none], [], (DB o i0 i1 ext), M) rfl (fun hc1 => ?_) (fun hc1 => ?_)
  · have h := h.1 hc1
    refine T_run 1 (51, 11, [some (.ref 0), some (.int x1), some (.int x2), none, none], [.int (-(nI 2))], (DB o i0 i1 ext), M) rfl ?_
    exact T_ret rfl h
  · have h := h.2 hc1
    refine T_run 2 (51, 4, [some (.ref 0), some (.int x1), some (.int x2), none, none], [.int (nI 20), .int x1], (DB o i0 i1 ext), M) rfl ?_
    refine T_br ((nI 20) < x1) (51, 10, [some (.ref 0), some (.int x1), some (.int x2), none, none], [], (DB o i0 i1 ext), M) (51, 5, [some (.ref 0), some (.int x1), some (.int x2), none, none], [], (DB o i0 i1 ext), M) rfl (fun hc2 => ?_) (fun hc2 => ?_)
    · have h := h.1 hc2
      refine T_run 1 (51, 11, [some (.ref 0), some (.int x1), some (.int x2), none, none], [.int (-(nI 2))], (DB o i0 i1 ext), M) rfl ?_
      exact T_ret rfl h
    · have h := h.2 hc2
      refine T_run 1 (51, 6, [some (.ref 0), some (.int x1), some (.int x2), none, none], [.int x2], (DB o i0 i1 ext), M) rfl ?_
      refine T_br (x2 < 0) (51, 10, [some (.ref 0), some (.int x1), some (.int x2), none, none], [], (DB o i0 i1 ext), M) (51, 7, [some (.ref 0), some (.int x1), some (.int x2), none, none], [], (DB o i0 i1 ext), M) rfl (fun hc3 => ?_) (fun hc3 => ?_)
      · have h := h.1 hc3
        refine T_run 1 (51, 11, [some (.ref 0), some (.int x1), some (.int x2), none, none], [.int (-(nI 2))], (DB o i0 i1 ext), M) rfl ?_
        exact T_ret rfl h
      · have h := h.2 hc3
        refine T_run 2 (51, 9, [some (.ref 0), some (.int x1), some (.int x2), none, none], [.int (nI 1), .int x2], (DB o i0 i1 ext), M) rfl ?_
        refine T_br (x2 ≤ (nI 1)) (51, 12, [some (.ref 0), some (.int x1), some (.int x2), none, none], [], (DB o i0 i1 ext), M) (51, 10, [some (.ref 0), some (.int x1), some (.int x2), none, none], [], (DB o i0 i1 ext), M) rfl (fun hc4 => ?_) (fun hc4 => ?_)
        · have h := h.1 hc4
          refine T_run 1 (51, 13, [some (.ref 0), some (.int x1), some (.int x2), none, none], [.ref 0], (DB o i0 i1 ext), M) rfl ?_
          refine T_callI (D' := (DB o i0 i1 ext)) rfl (CI_mono h (fun v6 M5 h => ?_))
          refine T_run 2 (51, 16, [some (.ref 0), some (.int x1), some (.int x2), some (.int v6), none], [.int v6], (DB o i0 i1 ext), M5) rfl ?_
          refine T_br (v6 = 0) (51, 19, [some (.ref 0), some (.int x1), some (.int x2), some (.int v6), none], [], (DB o i0 i1 ext), M5) (51, 17, [some (.ref 0), some (.int x1), some (.int x2), some (.int v6), none], [], (DB o i0 i1 ext), M5) rfl (fun hc7 => ?_) (fun hc7 => ?_)
          · have h := h.1 hc7
            refine T_run 2 (51, 21, [some (.ref 0), some (.int x1), some (.int x2), some (.int v6), none], [.ref 13], (DB o i0 i1 ext), M5) rfl ?_
            refine T_callV (D' := (DB o i0 i1 ext)) rfl (CV_mono h (fun M8 h => ?_))
            refine T_run 7 (51, 29, [some (.ref 0), some (.int x1), some (.int x2), some (.int v6), none], [.int x1, .ref 7, .ref 2, .ref 8], (DB o i0 i1 ext), M8) rfl ?_
            refine T_callV (D' := (DB (some 2) i0 i1 ext)) rfl (CV_mono h (fun M9 h => ?_))
            refine T_run 2 (51, 32, [some (.ref 0), some (.int x1), some (.int x2), some (.int v6), some (.int (nI 0))], [], (DB (some 2) i0 i1 ext), M9) rfl ?_
            exact T_le (a_le_1 (a_le_2 rfl (a_le_1 (a_le_2 rfl (a_le_1 a_le_n))))) h
          · have h := h.2 hc7
            refine T_run 1 (51, 18, [some (.ref 0), some (.int x1), some (.int x2), some (.int v6), none], [.int v6], (DB o i0 i1 ext), M5) rfl ?_
            exact T_ret rfl h
        · have h := h.2 hc4
          refine T_run 1 (51, 11, [some (.ref 0), some (.int x1), some (.int x2), none, none], [.int (-(nI 2))], (DB o i0 i1 ext), M) rfl ?_
          exact T_ret rfl h
set_option maxRecDepth 100000 in
theorem b_X4_storm_32 {d : Nat} {Q : ARs → Prop} {o i0 i1 : Option Nat} {ext : ADd} {M : AMm} (x2 : Int32) (x4 : Int32) (h : ((nI 1000000) ≤ x4 → (x2 = 0 → Q (some (.int (M 13 0)), (DB o i0 i1 ext), M)) ∧ (¬ x2 = 0 → CI d 4 [.ref 13, .int (nI 0)] (DB o i0 i1 ext) M (DB o i0 i1 ext) (fun v4 M3 => Q (some (.int v4), (DB o i0 i1 ext), M3)))) ∧ (¬ (nI 1000000) ≤ x4 → CI d 31 [.ref 8] (DB o i0 i1 ext) M (DB o i0 i1 ext) (fun v6 M5 => (v6 = 0 → (x2 = 0 → Q (some (.int (M5 13 0)), (DB o i0 i1 ext), M5)) ∧ (¬ x2 = 0 → CI d 4 [.ref 13, .int (nI 0)] (DB o i0 i1 ext) M5 (DB o i0 i1 ext) (fun v10 M9 => Q (some (.int v10), (DB o i0 i1 ext), M9)))) ∧ (¬ v6 = 0 → CI d 34 [.ref 8] (DB o i0 i1 ext) M5 (DB o i0 i1 ext) (fun v12 M11 => CV d 3 [.ref 13, .ref 8, .int v12] (DB o i0 i1 ext) M11 (DB o i0 i1 ext) (fun M13 => T (d + 1) Q (51, 32, [some (.ref 0), none, some (.int x2), none, some (.int (x4 + (nI 1)))], [], (DB o i0 i1 ext), M13))))))) : T (d + 1) Q (51, 32, [some (.ref 0), none, some (.int x2), none, some (.int x4)], [], (DB o i0 i1 ext), M) := by
  refine T_run 2 (51, 34, [some (.ref 0), none, some (.int x2), none, some (.int x4)], [.int (nI 1000000), .int x4], (DB o i0 i1 ext), M) rfl ?_
  refine T_br ((nI 1000000) ≤ x4) (51, 49, [some (.ref 0), none, some (.int x2), none, some (.int x4)], [], (DB o i0 i1 ext), M) (51, 35, [some (.ref 0), none, some (.int x2), none, some (.int x4)], [], (DB o i0 i1 ext), M) rfl (fun hc1 => ?_) (fun hc1 => ?_)
  · have h := h.1 hc1
    refine T_run 1 (51, 50, [some (.ref 0), none, some (.int x2), none, some (.int x4)], [.int x2], (DB o i0 i1 ext), M) rfl ?_
    refine T_br (x2 = 0) (51, 51, [some (.ref 0), none, some (.int x2), none, some (.int x4)], [], (DB o i0 i1 ext), M) (51, 55, [some (.ref 0), none, some (.int x2), none, some (.int x4)], [], (DB o i0 i1 ext), M) rfl (fun hc2 => ?_) (fun hc2 => ?_)
    · have h := h.1 hc2
      refine T_run 4 (51, 59, [some (.ref 0), none, some (.int x2), none, some (.int x4)], [.int (M 13 0)], (DB o i0 i1 ext), M) rfl ?_
      exact T_ret rfl h
    · have h := h.2 hc2
      refine T_run 3 (51, 58, [some (.ref 0), none, some (.int x2), none, some (.int x4)], [.int (nI 0), .ref 13], (DB o i0 i1 ext), M) rfl ?_
      refine T_callI (D' := (DB o i0 i1 ext)) rfl (CI_mono h (fun v4 M3 h => ?_))
      exact T_ret rfl h
  · have h := h.2 hc1
    refine T_run 2 (51, 37, [some (.ref 0), none, some (.int x2), none, some (.int x4)], [.ref 8], (DB o i0 i1 ext), M) rfl ?_
    refine T_callI (D' := (DB o i0 i1 ext)) rfl (CI_mono h (fun v6 M5 h => ?_))
    refine T_br (v6 = 0) (51, 49, [some (.ref 0), none, some (.int x2), none, some (.int x4)], [], (DB o i0 i1 ext), M5) (51, 39, [some (.ref 0), none, some (.int x2), none, some (.int x4)], [], (DB o i0 i1 ext), M5) rfl (fun hc7 => ?_) (fun hc7 => ?_)
    · have h := h.1 hc7
      refine T_run 1 (51, 50, [some (.ref 0), none, some (.int x2), none, some (.int x4)], [.int x2], (DB o i0 i1 ext), M5) rfl ?_
      refine T_br (x2 = 0) (51, 51, [some (.ref 0), none, some (.int x2), none, some (.int x4)], [], (DB o i0 i1 ext), M5) (51, 55, [some (.ref 0), none, some (.int x2), none, some (.int x4)], [], (DB o i0 i1 ext), M5) rfl (fun hc8 => ?_) (fun hc8 => ?_)
      · have h := h.1 hc8
        refine T_run 4 (51, 59, [some (.ref 0), none, some (.int x2), none, some (.int x4)], [.int (M5 13 0)], (DB o i0 i1 ext), M5) rfl ?_
        exact T_ret rfl h
      · have h := h.2 hc8
        refine T_run 3 (51, 58, [some (.ref 0), none, some (.int x2), none, some (.int x4)], [.int (nI 0), .ref 13], (DB o i0 i1 ext), M5) rfl ?_
        refine T_callI (D' := (DB o i0 i1 ext)) rfl (CI_mono h (fun v10 M9 h => ?_))
        exact T_ret rfl h
    · have h := h.2 hc7
      refine T_run 6 (51, 45, [some (.ref 0), none, some (.int x2), none, some (.int x4)], [.ref 8, .ref 8, .ref 13], (DB o i0 i1 ext), M5) rfl ?_
      refine T_callI (D' := (DB o i0 i1 ext)) rfl (CI_mono h (fun v12 M11 h => ?_))
      refine T_callV (D' := (DB o i0 i1 ext)) rfl (CV_mono h (fun M13 h => ?_))
      refine T_run 2 (51, 32, [some (.ref 0), none, some (.int x2), none, some (.int (x4 + (nI 1)))], [], (DB o i0 i1 ext), M13) rfl ?_
      exact h
set_option maxRecDepth 100000 in
theorem b_X4_two_0 {d : Nat} {Q : ARs → Prop} {o i0 i1 : Option Nat} {ext : ADd} {M : AMm}  (h : CI d 0 [.int (M 2 3)] (DB o i0 i1 ext) M (DB o i0 i1 ext) (fun v2 M1 => (v2 ≤ (nI 12) → ((M1 0 14) = 0 → CI d 16 [.ref 2, .int (M1 2 4)] (DB o i0 i1 ext) M1 (DB o i0 i1 ext) (fun v6 M5 => CI d 19 [.ref 2, .int (M1 2 4), .int v6] (DB o i0 i1 ext) M5 (DB o i0 i1 ext) (fun v8 M7 => CI d 70 [.ref 2, .int (M1 2 4), .int (M1 2 4), .int (v6 &&& v8), .int (nI 0)] (DB o i0 i1 ext) M7 (DB o i0 i1 ext) (fun v10 M9 => Q (some (.int ((nI 1) + v10)), (DB o i0 i1 ext), (ms (ms M9 0 15 ((nI 1) + v10)) 0 14 (nI 1))))))) ∧ (¬ (M1 0 14) = 0 → Q (some (.int (M1 0 15)), (DB o i0 i1 ext), M1))) ∧ (¬ v2 ≤ (nI 12) → Q (some (.int (-(nI 4))), (DB o i0 i1 ext), M1)))) : T (d + 1) Q (ent 52 [.ref 0] (DB o i0 i1 ext) M) := by
  refine T_run 3 (52, 3, [some (.ref 0), none, none], [.int (M 2 3)], (DB o i0 i1 ext), M) rfl ?_
  refine T_callI (D' := (DB o i0 i1 ext)) rfl (CI_mono h (fun v2 M1 h => ?_))
  refine T_run 1 (52, 5, [some (.ref 0), none, none], [.int (nI 12), .int v2], (DB o i0 i1 ext), M1) rfl ?_
  refine T_br (v2 ≤ (nI 12)) (52, 8, [some (.ref 0), none, none], [], (DB o i0 i1 ext), M1) (52, 6, [some (.ref 0), none, none], [], (DB o i0 i1 ext), M1) rfl (fun hc3 => ?_) (fun hc3 => ?_)
  · have h := h.1 hc3
    refine T_run 2 (52, 10, [some (.ref 0), none, none], [.int (M1 0 14)], (DB o i0 i1 ext), M1) rfl ?_
    refine T_br ((M1 0 14) = 0) (52, 11, [some (.ref 0), none, none], [], (DB o i0 i1 ext), M1) (52, 40, [some (.ref 0), none, none], [], (DB o i0 i1 ext), M1) rfl (fun hc4 => ?_) (fun hc4 => ?_)
    · have h := h.1 hc4
      refine T_run 7 (52, 18, [some (.ref 0), some (.int (M1 2 4)), none], [.int (M1 2 4), .ref 2], (DB o i0 i1 ext), M1) rfl ?_
      refine T_callI (D' := (DB o i0 i1 ext)) rfl (CI_mono h (fun v6 M5 h => ?_))
      refine T_run 12 (52, 31, [some (.ref 0), some (.int (M1 2 4)), some (.int v6)], [.int v6, .int (M1 2 4), .ref 2, .int v6, .int (M1 2 4), .int (M1 2 4), .ref 2, .int (nI 1), .ref 0], (DB o i0 i1 ext), M5) rfl ?_
      refine T_callI (D' := (DB o i0 i1 ext)) rfl (CI_mono h (fun v8 M7 h => ?_))
      refine T_run 2 (52, 34, [some (.ref 0), some (.int (M1 2 4)), some (.int v6)], [.int (nI 0), .int (v6 &&& v8), .int (M1 2 4), .int (M1 2 4), .ref 2, .int (nI 1), .ref 0], (DB o i0 i1 ext), M7) rfl ?_
      refine T_callI (D' := (DB o i0 i1 ext)) rfl (CI_mono h (fun v10 M9 h => ?_))
      refine T_run 7 (52, 42, [some (.ref 0), some (.int (M1 2 4)), some (.int v6)], [.int ((nI 1) + v10)], (DB o i0 i1 ext), (ms (ms M9 0 15 ((nI 1) + v10)) 0 14 (nI 1))) rfl ?_
      exact T_ret rfl h
    · have h := h.2 hc4
      refine T_run 2 (52, 42, [some (.ref 0), none, none], [.int (M1 0 15)], (DB o i0 i1 ext), M1) rfl ?_
      exact T_ret rfl h
  · have h := h.2 hc3
    refine T_run 1 (52, 7, [some (.ref 0), none, none], [.int (-(nI 4))], (DB o i0 i1 ext), M1) rfl ?_
    exact T_ret rfl h
set_option maxRecDepth 100000 in
theorem b_X4_game_0 {d : Nat} {Q : ARs → Prop} {o i0 i1 : Option Nat} {ext : ADd} {M : AMm}  (h : CI d 0 [.int (M 2 3)] (DB o i0 i1 ext) M (DB o i0 i1 ext) (fun v2 M1 => (v2 ≤ (nI 12) → ((M1 0 16) = 0 → CI d 16 [.ref 2, .int (M1 2 4)] (DB o i0 i1 ext) M1 (DB o i0 i1 ext) (fun v6 M5 => CI d 71 [.ref 2, .int (M1 2 4), .int (M1 2 4), .int v6, .int (nI 0)] (DB o i0 i1 ext) M5 (DB o i0 i1 ext) (fun v8 M7 => Q (some (.int ((nI 1000) + v8)), (DB o i0 i1 ext), (ms (ms M7 0 17 v8) 0 16 (nI 1)))))) ∧ (¬ (M1 0 16) = 0 → Q (some (.int ((nI 1000) + (M1 0 17))), (DB o i0 i1 ext), M1))) ∧ (¬ v2 ≤ (nI 12) → Q (some (.int (-(nI 4))), (DB o i0 i1 ext), M1)))) : T (d + 1) Q (ent 53 [.ref 0] (DB o i0 i1 ext) M) := by
  refine T_run 3 (53, 3, [some (.ref 0), none], [.int (M 2 3)], (DB o i0 i1 ext), M) rfl ?_
  refine T_callI (D' := (DB o i0 i1 ext)) rfl (CI_mono h (fun v2 M1 h => ?_))
  refine T_run 1 (53, 5, [some (.ref 0), none], [.int (nI 12), .int v2], (DB o i0 i1 ext), M1) rfl ?_
  refine T_br (v2 ≤ (nI 12)) (53, 8, [some (.ref 0), none], [], (DB o i0 i1 ext), M1) (53, 6, [some (.ref 0), none], [], (DB o i0 i1 ext), M1) rfl (fun hc3 => ?_) (fun hc3 => ?_)
  · have h := h.1 hc3
    refine T_run 2 (53, 10, [some (.ref 0), none], [.int (M1 0 16)], (DB o i0 i1 ext), M1) rfl ?_
    refine T_br ((M1 0 16) = 0) (53, 11, [some (.ref 0), none], [], (DB o i0 i1 ext), M1) (53, 30, [some (.ref 0), none], [], (DB o i0 i1 ext), M1) rfl (fun hc4 => ?_) (fun hc4 => ?_)
    · have h := h.1 hc4
      refine T_run 12 (53, 23, [some (.ref 0), some (.int (M1 2 4))], [.int (M1 2 4), .ref 2, .int (M1 2 4), .int (M1 2 4), .ref 2, .ref 0], (DB o i0 i1 ext), M1) rfl ?_
      refine T_callI (D' := (DB o i0 i1 ext)) rfl (CI_mono h (fun v6 M5 h => ?_))
      refine T_run 1 (53, 25, [some (.ref 0), some (.int (M1 2 4))], [.int (nI 0), .int v6, .int (M1 2 4), .int (M1 2 4), .ref 2, .ref 0], (DB o i0 i1 ext), M5) rfl ?_
      refine T_callI (D' := (DB o i0 i1 ext)) rfl (CI_mono h (fun v8 M7 h => ?_))
      refine T_run 8 (53, 34, [some (.ref 0), some (.int (M1 2 4))], [.int ((nI 1000) + v8)], (DB o i0 i1 ext), (ms (ms M7 0 17 v8) 0 16 (nI 1))) rfl ?_
      exact T_ret rfl h
    · have h := h.2 hc4
      refine T_run 4 (53, 34, [some (.ref 0), none], [.int ((nI 1000) + (M1 0 17))], (DB o i0 i1 ext), M1) rfl ?_
      exact T_ret rfl h
  · have h := h.2 hc3
    refine T_run 1 (53, 7, [some (.ref 0), none], [.int (-(nI 4))], (DB o i0 i1 ext), M1) rfl ?_
    exact T_ret rfl h
set_option maxRecDepth 100000 in
theorem b_X4_where_0 {d : Nat} {Q : ARs → Prop} {o i0 i1 : Option Nat} {ext : ADd} {M : AMm} (x1 : Int32) (h : (x1 < 0 → Q (some (.int (-(nI 2))), (DB o i0 i1 ext), M)) ∧ (¬ x1 < 0 → (x1 ≤ (nI 1) → ((M 0 11) = 0 → CV d 68 [.ref 0] (DB o i0 i1 ext) M (DB (some 2) i0 i1 ext) (fun M4 => (x1 = 0 → Q (some (.int (M4 0 12)), (DB (some 2) i0 i1 ext), M4)) ∧ (¬ x1 = 0 → Q (some (.int (M4 0 13)), (DB (some 2) i0 i1 ext), M4)))) ∧ (¬ (M 0 11) = 0 → (x1 = 0 → Q (some (.int (M 0 12)), (DB o i0 i1 ext), M)) ∧ (¬ x1 = 0 → Q (some (.int (M 0 13)), (DB o i0 i1 ext), M)))) ∧ (¬ x1 ≤ (nI 1) → Q (some (.int (-(nI 2))), (DB o i0 i1 ext), M)))) : T (d + 1) Q (ent 54 [.ref 0, .int x1] (DB o i0 i1 ext) M) := by
  refine T_run 1 (54, 1, [some (.ref 0), some (.int x1)], [.int x1], (DB o i0 i1 ext), M) rfl ?_
  refine T_br (x1 < 0) (54, 5, [some (.ref 0), some (.int x1)], [], (DB o i0 i1 ext), M) (54, 2, [some (.ref 0), some (.int x1)], [], (DB o i0 i1 ext), M) rfl (fun hc1 => ?_) (fun hc1 => ?_)
  · have h := h.1 hc1
    refine T_run 1 (54, 6, [some (.ref 0), some (.int x1)], [.int (-(nI 2))], (DB o i0 i1 ext), M) rfl ?_
    exact T_ret rfl h
  · have h := h.2 hc1
    refine T_run 2 (54, 4, [some (.ref 0), some (.int x1)], [.int (nI 1), .int x1], (DB o i0 i1 ext), M) rfl ?_
    refine T_br (x1 ≤ (nI 1)) (54, 7, [some (.ref 0), some (.int x1)], [], (DB o i0 i1 ext), M) (54, 5, [some (.ref 0), some (.int x1)], [], (DB o i0 i1 ext), M) rfl (fun hc2 => ?_) (fun hc2 => ?_)
    · have h := h.1 hc2
      refine T_run 2 (54, 9, [some (.ref 0), some (.int x1)], [.int (M 0 11)], (DB o i0 i1 ext), M) rfl ?_
      refine T_br ((M 0 11) = 0) (54, 10, [some (.ref 0), some (.int x1)], [], (DB o i0 i1 ext), M) (54, 12, [some (.ref 0), some (.int x1)], [], (DB o i0 i1 ext), M) rfl (fun hc3 => ?_) (fun hc3 => ?_)
      · have h := h.1 hc3
        refine T_run 1 (54, 11, [some (.ref 0), some (.int x1)], [.ref 0], (DB o i0 i1 ext), M) rfl ?_
        refine T_callV (D' := (DB (some 2) i0 i1 ext)) rfl (CV_mono h (fun M4 h => ?_))
        refine T_run 1 (54, 13, [some (.ref 0), some (.int x1)], [.int x1], (DB (some 2) i0 i1 ext), M4) rfl ?_
        refine T_br (x1 = 0) (54, 14, [some (.ref 0), some (.int x1)], [], (DB (some 2) i0 i1 ext), M4) (54, 17, [some (.ref 0), some (.int x1)], [], (DB (some 2) i0 i1 ext), M4) rfl (fun hc5 => ?_) (fun hc5 => ?_)
        · have h := h.1 hc5
          refine T_run 3 (54, 19, [some (.ref 0), some (.int x1)], [.int (M4 0 12)], (DB (some 2) i0 i1 ext), M4) rfl ?_
          exact T_ret rfl h
        · have h := h.2 hc5
          refine T_run 2 (54, 19, [some (.ref 0), some (.int x1)], [.int (M4 0 13)], (DB (some 2) i0 i1 ext), M4) rfl ?_
          exact T_ret rfl h
      · have h := h.2 hc3
        refine T_run 1 (54, 13, [some (.ref 0), some (.int x1)], [.int x1], (DB o i0 i1 ext), M) rfl ?_
        refine T_br (x1 = 0) (54, 14, [some (.ref 0), some (.int x1)], [], (DB o i0 i1 ext), M) (54, 17, [some (.ref 0), some (.int x1)], [], (DB o i0 i1 ext), M) rfl (fun hc6 => ?_) (fun hc6 => ?_)
        · have h := h.1 hc6
          refine T_run 3 (54, 19, [some (.ref 0), some (.int x1)], [.int (M 0 12)], (DB o i0 i1 ext), M) rfl ?_
          exact T_ret rfl h
        · have h := h.2 hc6
          refine T_run 2 (54, 19, [some (.ref 0), some (.int x1)], [.int (M 0 13)], (DB o i0 i1 ext), M) rfl ?_
          exact T_ret rfl h
    · have h := h.2 hc2
      refine T_run 1 (54, 6, [some (.ref 0), some (.int x1)], [.int (-(nI 2))], (DB o i0 i1 ext), M) rfl ?_
      exact T_ret rfl h
set_option maxRecDepth 100000 in
theorem b_X4_last_0 {d : Nat} {Q : ARs → Prop} {o i0 i1 : Option Nat} {ext : ADd} {M : AMm}  (h : CV d 67 [.ref 0] (DB o i0 i1 ext) M (DB (some 2) i0 i1 ext) (fun M1 => T (d + 1) Q (55, 6, [some (.ref 0), some (.int (nI 0)), some (.int (nI 0))], [], (DB (some 2) i0 i1 ext), M1))) : T (d + 1) Q (ent 55 [.ref 0] (DB o i0 i1 ext) M) := by
  refine T_run 1 (55, 1, [some (.ref 0), none, none], [.ref 0], (DB o i0 i1 ext), M) rfl ?_
  refine T_callV (D' := (DB (some 2) i0 i1 ext)) rfl (CV_mono h (fun M1 h => ?_))
  refine T_run 4 (55, 6, [some (.ref 0), some (.int (nI 0)), some (.int (nI 0))], [], (DB (some 2) i0 i1 ext), M1) rfl ?_
  exact h
set_option maxRecDepth 100000 in
theorem b_X4_last_6 {d : Nat} {Q : ARs → Prop} {o i0 i1 : Option Nat} {ext : ADd} {M : AMm} (x1 : Int32) (x2 : Int32) (h : ((nI 16) ≤ x2 → Q (some (.int x1), (DB o i0 i1 ext), M)) ∧ (¬ (nI 16) ≤ x2 → (vp_in x2 16) ∧ (((M 19 x2.toNatClampNeg) ≤ 0 → T d Q (55, 6, [some (.ref 0), some (.int x1), some (.int (x2 + (nI 1)))], [], (DB o i0 i1 ext), M)) ∧ (¬ (M 19 x2.toNatClampNeg) ≤ 0 → T d Q (55, 6, [some (.ref 0), some (.int (x1 ||| ((nI 1) <<< (x2 &&& 31)))), some (.int (x2 + (nI 1)))], [], (DB o i0 i1 ext), M))))) : T d Q (55, 6, [some (.ref 0), some (.int x1), some (.int x2)], [], (DB o i0 i1 ext), M) := by
  refine T_run 2 (55, 8, [some (.ref 0), some (.int x1), some (.int x2)], [.int (nI 16), .int x2], (DB o i0 i1 ext), M) rfl ?_
  refine T_br ((nI 16) ≤ x2) (55, 22, [some (.ref 0), some (.int x1), some (.int x2)], [], (DB o i0 i1 ext), M) (55, 9, [some (.ref 0), some (.int x1), some (.int x2)], [], (DB o i0 i1 ext), M) rfl (fun hc1 => ?_) (fun hc1 => ?_)
  · have h := h.1 hc1
    refine T_run 1 (55, 23, [some (.ref 0), some (.int x1), some (.int x2)], [.int x1], (DB o i0 i1 ext), M) rfl ?_
    exact T_ret rfl h
  · have h := h.2 hc1
    refine T_run 3 (55, 12, [some (.ref 0), some (.int x1), some (.int x2)], [.int x2, .ref 19], (DB o i0 i1 ext), M) rfl ?_
    refine T_gd (x2 < 0 ∨ 16 ≤ x2.toNatClampNeg) (55, 13, [some (.ref 0), some (.int x1), some (.int x2)], [.int (M 19 x2.toNatClampNeg)], (DB o i0 i1 ext), M) rfl h.1 ?_
    have h := h.2
    refine T_br ((M 19 x2.toNatClampNeg) ≤ 0) (55, 20, [some (.ref 0), some (.int x1), some (.int x2)], [], (DB o i0 i1 ext), M) (55, 14, [some (.ref 0), some (.int x1), some (.int x2)], [], (DB o i0 i1 ext), M) rfl (fun hc2 => ?_) (fun hc2 => ?_)
    · have h := h.1 hc2
      refine T_run 2 (55, 6, [some (.ref 0), some (.int x1), some (.int (x2 + (nI 1)))], [], (DB o i0 i1 ext), M) rfl ?_
      exact h
    · have h := h.2 hc2
      refine T_run 8 (55, 6, [some (.ref 0), some (.int (x1 ||| ((nI 1) <<< (x2 &&& 31)))), some (.int (x2 + (nI 1)))], [], (DB o i0 i1 ext), M) rfl ?_
      exact h
set_option maxRecDepth 100000 in
theorem b_X4_goesOn_0 {d : Nat} {Q : ARs → Prop} {o i0 i1 : Option Nat} {ext : ADd} {M : AMm} (x1 : Int32) (h : (x1 < 0 → Q (some (.int (-(nI 2))), (DB o i0 i1 ext), M)) ∧ (¬ x1 < 0 → (x1 ≤ (nI 12) → CI d 64 [.ref 0] (DB o i0 i1 ext) M (DB o i0 i1 ext) (fun v4 M3 => (v4 = 0 → CV d 29 [.ref 8, .ref 2, .ref 7, .int x1] (DB o i0 i1 ext) M3 (DB (some 2) i0 i1 ext) (fun M6 => T (d + 1) Q (56, 26, [some (.ref 0), some (.int x1), none, some (.int (nI 0)), some (.int (nI 0))], [], (DB (some 2) i0 i1 ext), M6))) ∧ (¬ v4 = 0 → Q (some (.int v4), (DB o i0 i1 ext), M3)))) ∧ (¬ x1 ≤ (nI 12) → Q (some (.int (-(nI 2))), (DB o i0 i1 ext), M)))) : T (d + 1) Q (ent 56 [.ref 0, .int x1] (DB o i0 i1 ext) M) := by
  refine T_run 1 (56, 1, [some (.ref 0), some (.int x1), none, none, none], [.int x1], (DB o i0 i1 ext), M) rfl ?_
  refine T_br (x1 < 0) (56, 5, [some (.ref 0), some (.int x1), none, none, none], [], (DB o i0 i1 ext), M) (56, 2, [some (.ref 0), some (.int x1), none, none, none], [], (DB o i0 i1 ext), M) rfl (fun hc1 => ?_) (fun hc1 => ?_)
  · have h := h.1 hc1
    refine T_run 1 (56, 6, [some (.ref 0), some (.int x1), none, none, none], [.int (-(nI 2))], (DB o i0 i1 ext), M) rfl ?_
    exact T_ret rfl h
  · have h := h.2 hc1
    refine T_run 2 (56, 4, [some (.ref 0), some (.int x1), none, none, none], [.int (nI 12), .int x1], (DB o i0 i1 ext), M) rfl ?_
    refine T_br (x1 ≤ (nI 12)) (56, 7, [some (.ref 0), some (.int x1), none, none, none], [], (DB o i0 i1 ext), M) (56, 5, [some (.ref 0), some (.int x1), none, none, none], [], (DB o i0 i1 ext), M) rfl (fun hc2 => ?_) (fun hc2 => ?_)
    · have h := h.1 hc2
      refine T_run 1 (56, 8, [some (.ref 0), some (.int x1), none, none, none], [.ref 0], (DB o i0 i1 ext), M) rfl ?_
      refine T_callI (D' := (DB o i0 i1 ext)) rfl (CI_mono h (fun v4 M3 h => ?_))
      refine T_run 2 (56, 11, [some (.ref 0), some (.int x1), some (.int v4), none, none], [.int v4], (DB o i0 i1 ext), M3) rfl ?_
      refine T_br (v4 = 0) (56, 14, [some (.ref 0), some (.int x1), some (.int v4), none, none], [], (DB o i0 i1 ext), M3) (56, 12, [some (.ref 0), some (.int x1), some (.int v4), none, none], [], (DB o i0 i1 ext), M3) rfl (fun hc5 => ?_) (fun hc5 => ?_)
      · have h := h.1 hc5
        refine T_run 9 (56, 23, [some (.ref 0), some (.int x1), some (.int v4), some (.int (nI 0)), none], [.int x1, .ref 7, .ref 2, .ref 8], (DB o i0 i1 ext), M3) rfl ?_
        refine T_callV (D' := (DB (some 2) i0 i1 ext)) rfl (CV_mono h (fun M6 h => ?_))
        refine T_run 2 (56, 26, [some (.ref 0), some (.int x1), some (.int v4), some (.int (nI 0)), some (.int (nI 0))], [], (DB (some 2) i0 i1 ext), M6) rfl ?_
        exact T_le (a_le_1 (a_le_1 (a_le_2 rfl (a_le_1 (a_le_1 a_le_n))))) h
      · have h := h.2 hc5
        refine T_run 1 (56, 13, [some (.ref 0), some (.int x1), some (.int v4), none, none], [.int v4], (DB o i0 i1 ext), M3) rfl ?_
        exact T_ret rfl h
    · have h := h.2 hc2
      refine T_run 1 (56, 6, [some (.ref 0), some (.int x1), none, none, none], [.int (-(nI 2))], (DB o i0 i1 ext), M) rfl ?_
      exact T_ret rfl h
set_option maxRecDepth 100000 in
theorem b_X4_goesOn_26 {d : Nat} {Q : ARs → Prop} {o i0 i1 : Option Nat} {ext : ADd} {M : AMm} (x1 : Int32) (x3 : Int32) (x4 : Int32) (h : ((nI 1000000) ≤ x4 → Q (some (.int x3), (DB o i0 i1 ext), M)) ∧ (¬ (nI 1000000) ≤ x4 → CI d 31 [.ref 8] (DB o i0 i1 ext) M (DB o i0 i1 ext) (fun v3 M2 => (v3 = 0 → Q (some (.int x3), (DB o i0 i1 ext), M2)) ∧ (¬ v3 = 0 → ((M2 8 4) = x1 → T (d + 1) Q (56, 26, [some (.ref 0), some (.int x1), none, some (.int (x3 + (nI 1))), some (.int (x4 + (nI 1)))], [], (DB o i0 i1 ext), M2)) ∧ (¬ (M2 8 4) = x1 → T (d + 1) Q (56, 26, [some (.ref 0), some (.int x1), none, some (.int x3), some (.int (x4 + (nI 1)))], [], (DB o i0 i1 ext), M2)))))) : T (d + 1) Q (56, 26, [some (.ref 0), some (.int x1), none, some (.int x3), some (.int x4)], [], (DB o i0 i1 ext), M) := by
  refine T_run 2 (56, 28, [some (.ref 0), some (.int x1), none, some (.int x3), some (.int x4)], [.int (nI 1000000), .int x4], (DB o i0 i1 ext), M) rfl ?_
  refine T_br ((nI 1000000) ≤ x4) (56, 41, [some (.ref 0), some (.int x1), none, some (.int x3), some (.int x4)], [], (DB o i0 i1 ext), M) (56, 29, [some (.ref 0), some (.int x1), none, some (.int x3), some (.int x4)], [], (DB o i0 i1 ext), M) rfl (fun hc1 => ?_) (fun hc1 => ?_)
  · have h := h.1 hc1
    refine T_run 1 (56, 42, [some (.ref 0), some (.int x1), none, some (.int x3), some (.int x4)], [.int x3], (DB o i0 i1 ext), M) rfl ?_
    exact T_ret rfl h
  · have h := h.2 hc1
    refine T_run 2 (56, 31, [some (.ref 0), some (.int x1), none, some (.int x3), some (.int x4)], [.ref 8], (DB o i0 i1 ext), M) rfl ?_
    refine T_callI (D' := (DB o i0 i1 ext)) rfl (CI_mono h (fun v3 M2 h => ?_))
    refine T_br (v3 = 0) (56, 41, [some (.ref 0), some (.int x1), none, some (.int x3), some (.int x4)], [], (DB o i0 i1 ext), M2) (56, 33, [some (.ref 0), some (.int x1), none, some (.int x3), some (.int x4)], [], (DB o i0 i1 ext), M2) rfl (fun hc4 => ?_) (fun hc4 => ?_)
    · have h := h.1 hc4
      refine T_run 1 (56, 42, [some (.ref 0), some (.int x1), none, some (.int x3), some (.int x4)], [.int x3], (DB o i0 i1 ext), M2) rfl ?_
      exact T_ret rfl h
    · have h := h.2 hc4
      refine T_run 4 (56, 37, [some (.ref 0), some (.int x1), none, some (.int x3), some (.int x4)], [.int x1, .int (M2 8 4)], (DB o i0 i1 ext), M2) rfl ?_
      refine T_br ((M2 8 4) = x1) (56, 38, [some (.ref 0), some (.int x1), none, some (.int x3), some (.int x4)], [], (DB o i0 i1 ext), M2) (56, 39, [some (.ref 0), some (.int x1), none, some (.int x3), some (.int x4)], [], (DB o i0 i1 ext), M2) rfl (fun hc5 => ?_) (fun hc5 => ?_)
      · have h := h.1 hc5
        refine T_run 3 (56, 26, [some (.ref 0), some (.int x1), none, some (.int (x3 + (nI 1))), some (.int (x4 + (nI 1)))], [], (DB o i0 i1 ext), M2) rfl ?_
        exact h
      · have h := h.2 hc5
        refine T_run 2 (56, 26, [some (.ref 0), some (.int x1), none, some (.int x3), some (.int (x4 + (nI 1)))], [], (DB o i0 i1 ext), M2) rfl ?_
        exact h
set_option maxRecDepth 100000 in
theorem b_X4_drawn_0 {d : Nat} {Q : ARs → Prop} {o i0 i1 : Option Nat} {ext : ADd} {M : AMm} (x1 : Int32) (x2 : Int32) (h : (x1 < 0 → Q (some (.int (-(nI 2))), (DB o i0 i1 ext), M)) ∧ (¬ x1 < 0 → ((nI 9999) < x1 → Q (some (.int (-(nI 2))), (DB o i0 i1 ext), M)) ∧ (¬ (nI 9999) < x1 → (x2 < 0 → Q (some (.int (-(nI 2))), (DB o i0 i1 ext), M)) ∧ (¬ x2 < 0 → (x2 ≤ (nI 1) → CI d 16 [.ref 2, .int (M 2 4)] (DB o i0 i1 ext) M (DB o i0 i1 ext) (fun v6 M5 => T (d + 1) Q (57, 25, [some (.ref 0), none, some (.int x2), some (.int x1), some (.int (M 2 4)), some (.int v6), some (.int (nI 1))], [], (DB o i0 i1 ext), M5))) ∧ (¬ x2 ≤ (nI 1) → Q (some (.int (-(nI 2))), (DB o i0 i1 ext), M)))))) : T (d + 1) Q (ent 57 [.ref 0, .int x1, .int x2] (DB o i0 i1 ext) M) := by
  refine T_run 1 (57, 1, [some (.ref 0), some (.int x1), some (.int x2), none, none, none, none], [.int x1], (DB o i0 i1 ext), M) rfl ?_
  refine T_br (x1 < 0) (57, 10, [some (.ref 0), some (.int x1), some (.int x2), none, none, none, none], [], (DB o i0 i1 ext), M) (57, 2, [some (.ref 0), some (.int x1), some (.int x2), none, none, none, none], [], (DB o i0 i1 ext), M) rfl (fun hc1 => ?_) (fun hc1 => ?_)
  · have h := h.1 hc1
    refine T_run 1 (57, 11, [some (.ref 0), some (.int x1), some (.int x2), none, none, none, none], [.int (-(nI 2))], (DB o i0 i1 ext), M) rfl ?_
    exact T_ret rfl h
  · have h := h.2 hc1
    refine T_run 2 (57, 4, [some (.ref 0), some (.int x1), some (.int x2), none, none, none, none], [.int (nI 9999), .int x1], (DB o i0 i1 ext), M) rfl ?_
    refine T_br ((nI 9999) < x1) (57, 10, [some (.ref 0), some (.int x1), some (.int x2), none, none, none, none], [], (DB o i0 i1 ext), M) (57, 5, [some (.ref 0), some (.int x1), some (.int x2), none, none, none, none], [], (DB o i0 i1 ext), M) rfl (fun hc2 => ?_) (fun hc2 => ?_)
    · have h := h.1 hc2
      refine T_run 1 (57, 11, [some (.ref 0), some (.int x1), some (.int x2), none, none, none, none], [.int (-(nI 2))], (DB o i0 i1 ext), M) rfl ?_
      exact T_ret rfl h
    · have h := h.2 hc2
      refine T_run 1 (57, 6, [some (.ref 0), some (.int x1), some (.int x2), none, none, none, none], [.int x2], (DB o i0 i1 ext), M) rfl ?_
      refine T_br (x2 < 0) (57, 10, [some (.ref 0), some (.int x1), some (.int x2), none, none, none, none], [], (DB o i0 i1 ext), M) (57, 7, [some (.ref 0), some (.int x1), some (.int x2), none, none, none, none], [], (DB o i0 i1 ext), M) rfl (fun hc3 => ?_) (fun hc3 => ?_)
      · have h := h.1 hc3
        refine T_run 1 (57, 11, [some (.ref 0), some (.int x1), some (.int x2), none, none, none, none], [.int (-(nI 2))], (DB o i0 i1 ext), M) rfl ?_
        exact T_ret rfl h
      · have h := h.2 hc3
        refine T_run 2 (57, 9, [some (.ref 0), some (.int x1), some (.int x2), none, none, none, none], [.int (nI 1), .int x2], (DB o i0 i1 ext), M) rfl ?_
        refine T_br (x2 ≤ (nI 1)) (57, 12, [some (.ref 0), some (.int x1), some (.int x2), none, none, none, none], [], (DB o i0 i1 ext), M) (57, 10, [some (.ref 0), some (.int x1), some (.int x2), none, none, none, none], [], (DB o i0 i1 ext), M) rfl (fun hc4 => ?_) (fun hc4 => ?_)
        · have h := h.1 hc4
          refine T_run 9 (57, 21, [some (.ref 0), some (.int x1), some (.int x2), some (.int x1), some (.int (M 2 4)), none, none], [.int (M 2 4), .ref 2], (DB o i0 i1 ext), M) rfl ?_
          refine T_callI (D' := (DB o i0 i1 ext)) rfl (CI_mono h (fun v6 M5 h => ?_))
          refine T_run 3 (57, 25, [some (.ref 0), some (.int x1), some (.int x2), some (.int x1), some (.int (M 2 4)), some (.int v6), some (.int (nI 1))], [], (DB o i0 i1 ext), M5) rfl ?_
          exact T_le (a_le_1 (a_le_2 rfl (a_le_1 (a_le_1 (a_le_1 (a_le_1 (a_le_1 a_le_n))))))) h
        · have h := h.2 hc4
          refine T_run 1 (57, 11, [some (.ref 0), some (.int x1), some (.int x2), none, none, none, none], [.int (-(nI 2))], (DB o i0 i1 ext), M) rfl ?_
          exact T_ret rfl h
set_option maxRecDepth 100000 in
theorem b_X4_drawn_25 {d : Nat} {Q : ARs → Prop} {o i0 i1 : Option Nat} {ext : ADd} {M : AMm} (x2 : Int32) (x3 : Int32) (x4 : Int32) (x5 : Int32) (x6 : Int32) (h : ((nI 16) ≤ x6 → (x2 = 0 → Q (some (.int x6), (DB o i0 i1 ext), M)) ∧ (¬ x2 = 0 → Q (some (.int x4), (DB o i0 i1 ext), M))) ∧ (¬ (nI 16) ≤ x6 → CI d 15 [.ref 2, .int x4, .int x5] (DB o i0 i1 ext) M (DB o i0 i1 ext) (fun v4 M3 => (v4 = 0 → CI d 22 [.ref 2, .int x4, .int x5, .int ((((nI 75) * x3) + (nI 74)) - (((nI 75) * x3) + (nI 74)) / (nI 65537) * (nI 65537))] (DB o i0 i1 ext) M3 (DB o i0 i1 ext) (fun v7 M6 => T (d + 1) Q (57, 25, [some (.ref 0), none, some (.int x2), some (.int ((((nI 75) * x3) + (nI 74)) - (((nI 75) * x3) + (nI 74)) / (nI 65537) * (nI 65537))), some (.int v7), some (.int (x5 &&& (((nI 1) <<< (v7 &&& 31)) ^^^ (-(nI 1))))), some (.int (x6 + (nI 1)))], [], (DB o i0 i1 ext), M6))) ∧ (¬ v4 = 0 → (x2 = 0 → Q (some (.int x6), (DB o i0 i1 ext), M3)) ∧ (¬ x2 = 0 → Q (some (.int x4), (DB o i0 i1 ext), M3)))))) : T (d + 1) Q (57, 25, [some (.ref 0), none, some (.int x2), some (.int x3), some (.int x4), some (.int x5), some (.int x6)], [], (DB o i0 i1 ext), M) := by
  refine T_run 2 (57, 27, [some (.ref 0), none, some (.int x2), some (.int x3), some (.int x4), some (.int x5), some (.int x6)], [.int (nI 16), .int x6], (DB o i0 i1 ext), M) rfl ?_
  refine T_br ((nI 16) ≤ x6) (57, 59, [some (.ref 0), none, some (.int x2), some (.int x3), some (.int x4), some (.int x5), some (.int x6)], [], (DB o i0 i1 ext), M) (57, 28, [some (.ref 0), none, some (.int x2), some (.int x3), some (.int x4), some (.int x5), some (.int x6)], [], (DB o i0 i1 ext), M) rfl (fun hc1 => ?_) (fun hc1 => ?_)
  · have h := h.1 hc1
    refine T_run 1 (57, 60, [some (.ref 0), none, some (.int x2), some (.int x3), some (.int x4), some (.int x5), some (.int x6)], [.int x2], (DB o i0 i1 ext), M) rfl ?_
    refine T_br (x2 = 0) (57, 61, [some (.ref 0), none, some (.int x2), some (.int x3), some (.int x4), some (.int x5), some (.int x6)], [], (DB o i0 i1 ext), M) (57, 63, [some (.ref 0), none, some (.int x2), some (.int x3), some (.int x4), some (.int x5), some (.int x6)], [], (DB o i0 i1 ext), M) rfl (fun hc2 => ?_) (fun hc2 => ?_)
    · have h := h.1 hc2
      refine T_run 2 (57, 64, [some (.ref 0), none, some (.int x2), some (.int x3), some (.int x4), some (.int x5), some (.int x6)], [.int x6], (DB o i0 i1 ext), M) rfl ?_
      exact T_ret rfl h
    · have h := h.2 hc2
      refine T_run 1 (57, 64, [some (.ref 0), none, some (.int x2), some (.int x3), some (.int x4), some (.int x5), some (.int x6)], [.int x4], (DB o i0 i1 ext), M) rfl ?_
      exact T_ret rfl h
  · have h := h.2 hc1
    refine T_run 4 (57, 32, [some (.ref 0), none, some (.int x2), some (.int x3), some (.int x4), some (.int x5), some (.int x6)], [.int x5, .int x4, .ref 2], (DB o i0 i1 ext), M) rfl ?_
    refine T_callI (D' := (DB o i0 i1 ext)) rfl (CI_mono h (fun v4 M3 h => ?_))
    refine T_br (v4 = 0) (57, 34, [some (.ref 0), none, some (.int x2), some (.int x3), some (.int x4), some (.int x5), some (.int x6)], [], (DB o i0 i1 ext), M3) (57, 59, [some (.ref 0), none, some (.int x2), some (.int x3), some (.int x4), some (.int x5), some (.int x6)], [], (DB o i0 i1 ext), M3) rfl (fun hc5 => ?_) (fun hc5 => ?_)
    · have h := h.1 hc5
      refine T_run 6 (57, 40, [some (.ref 0), none, some (.int x2), some (.int x3), some (.int x4), some (.int x5), some (.int x6)], [.int (nI 65537), .int (((nI 75) * x3) + (nI 74))], (DB o i0 i1 ext), M3) rfl ?_
      refine T_gd ((nI 65537) = 0) (57, 41, [some (.ref 0), none, some (.int x2), some (.int x3), some (.int x4), some (.int x5), some (.int x6)], [.int ((((nI 75) * x3) + (nI 74)) - (((nI 75) * x3) + (nI 74)) / (nI 65537) * (nI 65537))], (DB o i0 i1 ext), M3) rfl (by decide) ?_
      refine T_run 6 (57, 47, [some (.ref 0), none, some (.int x2), some (.int ((((nI 75) * x3) + (nI 74)) - (((nI 75) * x3) + (nI 74)) / (nI 65537) * (nI 65537))), some (.int x4), some (.int x5), some (.int x6)], [.int ((((nI 75) * x3) + (nI 74)) - (((nI 75) * x3) + (nI 74)) / (nI 65537) * (nI 65537)), .int x5, .int x4, .ref 2], (DB o i0 i1 ext), M3) rfl ?_
      refine T_callI (D' := (DB o i0 i1 ext)) rfl (CI_mono h (fun v7 M6 h => ?_))
      refine T_run 11 (57, 25, [some (.ref 0), none, some (.int x2), some (.int ((((nI 75) * x3) + (nI 74)) - (((nI 75) * x3) + (nI 74)) / (nI 65537) * (nI 65537))), some (.int v7), some (.int (x5 &&& (((nI 1) <<< (v7 &&& 31)) ^^^ (-(nI 1))))), some (.int (x6 + (nI 1)))], [], (DB o i0 i1 ext), M6) rfl ?_
      exact h
    · have h := h.2 hc5
      refine T_run 1 (57, 60, [some (.ref 0), none, some (.int x2), some (.int x3), some (.int x4), some (.int x5), some (.int x6)], [.int x2], (DB o i0 i1 ext), M3) rfl ?_
      refine T_br (x2 = 0) (57, 61, [some (.ref 0), none, some (.int x2), some (.int x3), some (.int x4), some (.int x5), some (.int x6)], [], (DB o i0 i1 ext), M3) (57, 63, [some (.ref 0), none, some (.int x2), some (.int x3), some (.int x4), some (.int x5), some (.int x6)], [], (DB o i0 i1 ext), M3) rfl (fun hc8 => ?_) (fun hc8 => ?_)
      · have h := h.1 hc8
        refine T_run 2 (57, 64, [some (.ref 0), none, some (.int x2), some (.int x3), some (.int x4), some (.int x5), some (.int x6)], [.int x6], (DB o i0 i1 ext), M3) rfl ?_
        exact T_ret rfl h
      · have h := h.2 hc8
        refine T_run 1 (57, 64, [some (.ref 0), none, some (.int x2), some (.int x3), some (.int x4), some (.int x5), some (.int x6)], [.int x4], (DB o i0 i1 ext), M3) rfl ?_
        exact T_ret rfl h
set_option maxRecDepth 100000 in
theorem b_X4_told_0 {d : Nat} {Q : ARs → Prop} {o i0 i1 : Option Nat} {ext : ADd} {M : AMm} (x1 : Int32) (h : (x1 = nI 0 → Q (some (.int (M 0 1)), (DB o i0 i1 ext), M)) ∧ (¬ x1 = nI 0 → (x1 = nI 1 → Q (some (.int (M 2 0)), (DB o i0 i1 ext), M)) ∧ (¬ x1 = nI 1 → (x1 = nI 2 → Q (some (.int (M 2 1)), (DB o i0 i1 ext), M)) ∧ (¬ x1 = nI 2 → (x1 = nI 3 → CI d 0 [.int (M 2 3)] (DB o i0 i1 ext) M (DB o i0 i1 ext) (fun v2 M1 => Q (some (.int v2), (DB o i0 i1 ext), M1))) ∧ (¬ x1 = nI 3 → (x1 = nI 4 → Q (some (.int (M 2 4)), (DB o i0 i1 ext), M)) ∧ (¬ x1 = nI 4 → (x1 = nI 5 → Q (some (.int (M 2 5)), (DB o i0 i1 ext), M)) ∧ (¬ x1 = nI 5 → Q (some (.int (-(nI 2))), (DB o i0 i1 ext), M)))))))) : T (d + 1) Q (ent 60 [.ref 0, .int x1] (DB o i0 i1 ext) M) := by
  refine T_run 1 (60, 1, [some (.ref 0), some (.int x1)], [.int x1], (DB o i0 i1 ext), M) rfl ?_
  by_cases hc0 : x1 = nI 0
  · have h := h.1 hc0
    refine T_ts (x := x1) rfl 0 2 hc0 rfl ?_
    refine T_run 2 (60, 4, [some (.ref 0), some (.int x1)], [.int (M 0 1)], (DB o i0 i1 ext), M) rfl ?_
    exact T_ret rfl h
  have h := h.2 hc0
  by_cases hc1 : x1 = nI 1
  · have h := h.1 hc1
    refine T_ts (x := x1) rfl 1 5 hc1 rfl ?_
    refine T_run 3 (60, 8, [some (.ref 0), some (.int x1)], [.int (M 2 0)], (DB o i0 i1 ext), M) rfl ?_
    exact T_ret rfl h
  have h := h.2 hc1
  by_cases hc2 : x1 = nI 2
  · have h := h.1 hc2
    refine T_ts (x := x1) rfl 2 9 hc2 rfl ?_
    refine T_run 3 (60, 12, [some (.ref 0), some (.int x1)], [.int (M 2 1)], (DB o i0 i1 ext), M) rfl ?_
    exact T_ret rfl h
  have h := h.2 hc2
  by_cases hc3 : x1 = nI 3
  · have h := h.1 hc3
    refine T_ts (x := x1) rfl 3 13 hc3 rfl ?_
    refine T_run 3 (60, 16, [some (.ref 0), some (.int x1)], [.int (M 2 3)], (DB o i0 i1 ext), M) rfl ?_
    refine T_callI (D' := (DB o i0 i1 ext)) rfl (CI_mono h (fun v2 M1 h => ?_))
    exact T_ret rfl h
  have h := h.2 hc3
  by_cases hc4 : x1 = nI 4
  · have h := h.1 hc4
    refine T_ts (x := x1) rfl 4 18 hc4 rfl ?_
    refine T_run 3 (60, 21, [some (.ref 0), some (.int x1)], [.int (M 2 4)], (DB o i0 i1 ext), M) rfl ?_
    exact T_ret rfl h
  have h := h.2 hc4
  by_cases hc5 : x1 = nI 5
  · have h := h.1 hc5
    refine T_ts (x := x1) rfl 5 22 hc5 rfl ?_
    refine T_run 3 (60, 25, [some (.ref 0), some (.int x1)], [.int (M 2 5)], (DB o i0 i1 ext), M) rfl ?_
    exact T_ret rfl h
  have h := h.2 hc5
  refine T_td (x := x1) rfl 6 rfl (by decide) (fun i hi => ?_) ?_
  · match i, hi with
    | 0, _ => exact hc0
    | 1, _ => exact hc1
    | 2, _ => exact hc2
    | 3, _ => exact hc3
    | 4, _ => exact hc4
    | 5, _ => exact hc5
    | i + 6, hi => exact absurd hi (by omega)
  refine T_run 1 (60, 27, [some (.ref 0), some (.int x1)], [.int (-(nI 2))], (DB o i0 i1 ext), M) rfl ?_
  exact T_ret rfl h
set_option maxRecDepth 100000 in
theorem b_X4_fieldFault_0 {d : Nat} {Q : ARs → Prop} {o i0 i1 : Option Nat} {ext : ADd} {M : AMm}  (h : T d Q (61, 2, [some (.ref 0), some (.int (nI 0)), none], [], (DB o i0 i1 ext), M)) : T d Q (ent 61 [.ref 0] (DB o i0 i1 ext) M) := by
  refine T_run 2 (61, 2, [some (.ref 0), some (.int (nI 0)), none], [], (DB o i0 i1 ext), M) rfl ?_
  exact h
set_option maxRecDepth 100000 in
theorem b_X4_fieldFault_2 {d : Nat} {Q : ARs → Prop} {o i0 i1 : Option Nat} {ext : ADd} {M : AMm} (x1 : Int32) (h : ((M 0 1) ≤ x1 → ((M 2 2) ≤ (M 0 1) → Q (some (.int (-(nI 6))), (DB o i0 i1 ext), M)) ∧ (¬ (M 2 2) ≤ (M 0 1) → Q (some (.int (M 0 1)), (DB o i0 i1 ext), M))) ∧ (¬ (M 0 1) ≤ x1 → (vp_in x1 40) ∧ (((M 1 x1.toNatClampNeg) = (nI 35) → ((M 2 2) ≤ x1 → Q (some (.int x1), (DB o i0 i1 ext), M)) ∧ (¬ (M 2 2) ≤ x1 → T d Q (61, 2, [some (.ref 0), some (.int (x1 + (nI 1))), none], [], (DB o i0 i1 ext), M))) ∧ (¬ (M 1 x1.toNatClampNeg) = (nI 35) → (vp_in x1 40) ∧ (((M 1 x1.toNatClampNeg) < (nI 48) → ((M 2 2) ≤ x1 → Q (some (.int x1), (DB o i0 i1 ext), M)) ∧ (¬ (M 2 2) ≤ x1 → Q (some (.int x1), (DB o i0 i1 ext), M))) ∧ (¬ (M 1 x1.toNatClampNeg) < (nI 48) → (vp_in x1 40) ∧ (((nI 57) < (M 1 x1.toNatClampNeg) → ((M 2 2) ≤ x1 → Q (some (.int x1), (DB o i0 i1 ext), M)) ∧ (¬ (M 2 2) ≤ x1 → Q (some (.int x1), (DB o i0 i1 ext), M))) ∧ (¬ (nI 57) < (M 1 x1.toNatClampNeg) → ((M 2 2) ≤ x1 → Q (some (.int x1), (DB o i0 i1 ext), M)) ∧ (¬ (M 2 2) ≤ x1 → T d Q (61, 2, [some (.ref 0), some (.int (x1 + (nI 1))), none], [], (DB o i0 i1 ext), M)))))))))) : T d Q (61, 2, [some (.ref 0), some (.int x1), none], [], (DB o i0 i1 ext), M) := by
  refine T_run 3 (61, 5, [some (.ref 0), some (.int x1), none], [.int (M 0 1), .int x1], (DB o i0 i1 ext), M) rfl ?_
  refine T_br ((M 0 1) ≤ x1) (61, 39, [some (.ref 0), some (.int x1), none], [], (DB o i0 i1 ext), M) (61, 6, [some (.ref 0), some (.int x1), none], [], (DB o i0 i1 ext), M) rfl (fun hc1 => ?_) (fun hc1 => ?_)
  · have h := h.1 hc1
    refine T_run 5 (61, 44, [some (.ref 0), some (.int x1), none], [.int (M 2 2), .int (M 0 1)], (DB o i0 i1 ext), M) rfl ?_
    refine T_br ((M 2 2) ≤ (M 0 1)) (61, 48, [some (.ref 0), some (.int x1), none], [], (DB o i0 i1 ext), M) (61, 45, [some (.ref 0), some (.int x1), none], [], (DB o i0 i1 ext), M) rfl (fun hc2 => ?_) (fun hc2 => ?_)
    · have h := h.1 hc2
      refine T_run 1 (61, 49, [some (.ref 0), some (.int x1), none], [.int (-(nI 6))], (DB o i0 i1 ext), M) rfl ?_
      exact T_ret rfl h
    · have h := h.2 hc2
      refine T_run 3 (61, 49, [some (.ref 0), some (.int x1), none], [.int (M 0 1)], (DB o i0 i1 ext), M) rfl ?_
      exact T_ret rfl h
  · have h := h.2 hc1
    refine T_run 3 (61, 9, [some (.ref 0), some (.int x1), none], [.int x1, .ref 1], (DB o i0 i1 ext), M) rfl ?_
    refine T_gd (x1 < 0 ∨ 40 ≤ x1.toNatClampNeg) (61, 10, [some (.ref 0), some (.int x1), none], [.int (M 1 x1.toNatClampNeg)], (DB o i0 i1 ext), M) rfl h.1 ?_
    have h := h.2
    refine T_run 1 (61, 11, [some (.ref 0), some (.int x1), none], [.int (nI 35), .int (M 1 x1.toNatClampNeg)], (DB o i0 i1 ext), M) rfl ?_
    refine T_br ((M 1 x1.toNatClampNeg) = (nI 35)) (61, 24, [some (.ref 0), some (.int x1), none], [], (DB o i0 i1 ext), M) (61, 12, [some (.ref 0), some (.int x1), none], [], (DB o i0 i1 ext), M) rfl (fun hc3 => ?_) (fun hc3 => ?_)
    · have h := h.1 hc3
      refine T_run 7 (61, 32, [some (.ref 0), some (.int x1), some (.int (nI 1))], [.int (M 2 2), .int x1], (DB o i0 i1 ext), M) rfl ?_
      refine T_br ((M 2 2) ≤ x1) (61, 35, [some (.ref 0), some (.int x1), some (.int (nI 1))], [], (DB o i0 i1 ext), M) (61, 33, [some (.ref 0), some (.int x1), some (.int (nI 1))], [], (DB o i0 i1 ext), M) rfl (fun hc4 => ?_) (fun hc4 => ?_)
      · have h := h.1 hc4
        refine T_run 1 (61, 36, [some (.ref 0), some (.int x1), some (.int (nI 1))], [.int x1], (DB o i0 i1 ext), M) rfl ?_
        exact T_ret rfl h
      · have h := h.2 hc4
        refine T_run 4 (61, 2, [some (.ref 0), some (.int (x1 + (nI 1))), some (.int (nI 1))], [], (DB o i0 i1 ext), M) rfl ?_
        exact T_le (a_le_1 (a_le_1 (a_le_2 rfl a_le_n))) h
    · have h := h.2 hc3
      refine T_run 3 (61, 15, [some (.ref 0), some (.int x1), none], [.int x1, .ref 1], (DB o i0 i1 ext), M) rfl ?_
      refine T_gd (x1 < 0 ∨ 40 ≤ x1.toNatClampNeg) (61, 16, [some (.ref 0), some (.int x1), none], [.int (M 1 x1.toNatClampNeg)], (DB o i0 i1 ext), M) rfl h.1 ?_
      have h := h.2
      refine T_run 1 (61, 17, [some (.ref 0), some (.int x1), none], [.int (nI 48), .int (M 1 x1.toNatClampNeg)], (DB o i0 i1 ext), M) rfl ?_
      refine T_br ((M 1 x1.toNatClampNeg) < (nI 48)) (61, 26, [some (.ref 0), some (.int x1), none], [], (DB o i0 i1 ext), M) (61, 18, [some (.ref 0), some (.int x1), none], [], (DB o i0 i1 ext), M) rfl (fun hc5 => ?_) (fun hc5 => ?_)
      · have h := h.1 hc5
        refine T_run 6 (61, 32, [some (.ref 0), some (.int x1), some (.int (nI 0))], [.int (M 2 2), .int x1], (DB o i0 i1 ext), M) rfl ?_
        refine T_br ((M 2 2) ≤ x1) (61, 35, [some (.ref 0), some (.int x1), some (.int (nI 0))], [], (DB o i0 i1 ext), M) (61, 33, [some (.ref 0), some (.int x1), some (.int (nI 0))], [], (DB o i0 i1 ext), M) rfl (fun hc6 => ?_) (fun hc6 => ?_)
        · have h := h.1 hc6
          refine T_run 1 (61, 36, [some (.ref 0), some (.int x1), some (.int (nI 0))], [.int x1], (DB o i0 i1 ext), M) rfl ?_
          exact T_ret rfl h
        · have h := h.2 hc6
          refine T_run 3 (61, 36, [some (.ref 0), some (.int x1), some (.int (nI 0))], [.int x1], (DB o i0 i1 ext), M) rfl ?_
          exact T_ret rfl h
      · have h := h.2 hc5
        refine T_run 3 (61, 21, [some (.ref 0), some (.int x1), none], [.int x1, .ref 1], (DB o i0 i1 ext), M) rfl ?_
        refine T_gd (x1 < 0 ∨ 40 ≤ x1.toNatClampNeg) (61, 22, [some (.ref 0), some (.int x1), none], [.int (M 1 x1.toNatClampNeg)], (DB o i0 i1 ext), M) rfl h.1 ?_
        have h := h.2
        refine T_run 1 (61, 23, [some (.ref 0), some (.int x1), none], [.int (nI 57), .int (M 1 x1.toNatClampNeg)], (DB o i0 i1 ext), M) rfl ?_
        refine T_br ((nI 57) < (M 1 x1.toNatClampNeg)) (61, 26, [some (.ref 0), some (.int x1), none], [], (DB o i0 i1 ext), M) (61, 24, [some (.ref 0), some (.int x1), none], [], (DB o i0 i1 ext), M) rfl (fun hc7 => ?_) (fun hc7 => ?_)
        · have h := h.1 hc7
          refine T_run 6 (61, 32, [some (.ref 0), some (.int x1), some (.int (nI 0))], [.int (M 2 2), .int x1], (DB o i0 i1 ext), M) rfl ?_
          refine T_br ((M 2 2) ≤ x1) (61, 35, [some (.ref 0), some (.int x1), some (.int (nI 0))], [], (DB o i0 i1 ext), M) (61, 33, [some (.ref 0), some (.int x1), some (.int (nI 0))], [], (DB o i0 i1 ext), M) rfl (fun hc8 => ?_) (fun hc8 => ?_)
          · have h := h.1 hc8
            refine T_run 1 (61, 36, [some (.ref 0), some (.int x1), some (.int (nI 0))], [.int x1], (DB o i0 i1 ext), M) rfl ?_
            exact T_ret rfl h
          · have h := h.2 hc8
            refine T_run 3 (61, 36, [some (.ref 0), some (.int x1), some (.int (nI 0))], [.int x1], (DB o i0 i1 ext), M) rfl ?_
            exact T_ret rfl h
        · have h := h.2 hc7
          refine T_run 7 (61, 32, [some (.ref 0), some (.int x1), some (.int (nI 1))], [.int (M 2 2), .int x1], (DB o i0 i1 ext), M) rfl ?_
          refine T_br ((M 2 2) ≤ x1) (61, 35, [some (.ref 0), some (.int x1), some (.int (nI 1))], [], (DB o i0 i1 ext), M) (61, 33, [some (.ref 0), some (.int x1), some (.int (nI 1))], [], (DB o i0 i1 ext), M) rfl (fun hc9 => ?_) (fun hc9 => ?_)
          · have h := h.1 hc9
            refine T_run 1 (61, 36, [some (.ref 0), some (.int x1), some (.int (nI 1))], [.int x1], (DB o i0 i1 ext), M) rfl ?_
            exact T_ret rfl h
          · have h := h.2 hc9
            refine T_run 4 (61, 2, [some (.ref 0), some (.int (x1 + (nI 1))), some (.int (nI 1))], [], (DB o i0 i1 ext), M) rfl ?_
            exact T_le (a_le_1 (a_le_1 (a_le_2 rfl a_le_n))) h
set_option maxRecDepth 100000 in
theorem b_X4_wayFault_0 {d : Nat} {Q : ARs → Prop} {o i0 i1 : Option Nat} {ext : ADd} {M : AMm}  (h : T d Q (62, 2, [some (.ref 0), some (.int (nI 0))], [], (DB o i0 i1 ext), M)) : T d Q (ent 62 [.ref 0] (DB o i0 i1 ext) M) := by
  refine T_run 2 (62, 2, [some (.ref 0), some (.int (nI 0))], [], (DB o i0 i1 ext), M) rfl ?_
  exact h
set_option maxRecDepth 100000 in
theorem b_X4_wayFault_2 {d : Nat} {Q : ARs → Prop} {o i0 i1 : Option Nat} {ext : ADd} {M : AMm} (x1 : Int32) (h : ((M 0 1) ≤ x1 → Q (some (.int (-(nI 6))), (DB o i0 i1 ext), M)) ∧ (¬ (M 0 1) ≤ x1 → (vp_in x1 40) ∧ (CI d 65 [.int (M 1 x1.toNatClampNeg)] (DB o i0 i1 ext) M (DB o i0 i1 ext) (fun v3 M2 => (0 ≤ v3 → T (d + 1) Q (62, 2, [some (.ref 0), some (.int (x1 + (nI 1)))], [], (DB o i0 i1 ext), M2)) ∧ (¬ 0 ≤ v3 → Q (some (.int x1), (DB o i0 i1 ext), M2)))))) : T (d + 1) Q (62, 2, [some (.ref 0), some (.int x1)], [], (DB o i0 i1 ext), M) := by
  refine T_run 3 (62, 5, [some (.ref 0), some (.int x1)], [.int (M 0 1), .int x1], (DB o i0 i1 ext), M) rfl ?_
  refine T_br ((M 0 1) ≤ x1) (62, 16, [some (.ref 0), some (.int x1)], [], (DB o i0 i1 ext), M) (62, 6, [some (.ref 0), some (.int x1)], [], (DB o i0 i1 ext), M) rfl (fun hc1 => ?_) (fun hc1 => ?_)
  · have h := h.1 hc1
    refine T_run 1 (62, 17, [some (.ref 0), some (.int x1)], [.int (-(nI 6))], (DB o i0 i1 ext), M) rfl ?_
    exact T_ret rfl h
  · have h := h.2 hc1
    refine T_run 3 (62, 9, [some (.ref 0), some (.int x1)], [.int x1, .ref 1], (DB o i0 i1 ext), M) rfl ?_
    refine T_gd (x1 < 0 ∨ 40 ≤ x1.toNatClampNeg) (62, 10, [some (.ref 0), some (.int x1)], [.int (M 1 x1.toNatClampNeg)], (DB o i0 i1 ext), M) rfl h.1 ?_
    have h := h.2
    refine T_callI (D' := (DB o i0 i1 ext)) rfl (CI_mono h (fun v3 M2 h => ?_))
    refine T_br (0 ≤ v3) (62, 14, [some (.ref 0), some (.int x1)], [], (DB o i0 i1 ext), M2) (62, 12, [some (.ref 0), some (.int x1)], [], (DB o i0 i1 ext), M2) rfl (fun hc4 => ?_) (fun hc4 => ?_)
    · have h := h.1 hc4
      refine T_run 2 (62, 2, [some (.ref 0), some (.int (x1 + (nI 1)))], [], (DB o i0 i1 ext), M2) rfl ?_
      exact h
    · have h := h.2 hc4
      refine T_run 1 (62, 13, [some (.ref 0), some (.int x1)], [.int x1], (DB o i0 i1 ext), M2) rfl ?_
      exact T_ret rfl h
set_option maxRecDepth 100000 in
theorem b_X4_padIsAllStones_0 {d : Nat} {Q : ARs → Prop} {o i0 i1 : Option Nat} {ext : ADd} {M : AMm}  (h : T d Q (63, 2, [some (.ref 0), some (.int (nI 0))], [], (DB o i0 i1 ext), M)) : T d Q (ent 63 [.ref 0] (DB o i0 i1 ext) M) := by
  refine T_run 2 (63, 2, [some (.ref 0), some (.int (nI 0))], [], (DB o i0 i1 ext), M) rfl ?_
  exact h
set_option maxRecDepth 100000 in
theorem b_X4_padIsAllStones_2 {d : Nat} {Q : ARs → Prop} {o i0 i1 : Option Nat} {ext : ADd} {M : AMm} (x1 : Int32) (h : ((M 0 1) ≤ x1 → Q (some (.int (nI 1)), (DB o i0 i1 ext), M)) ∧ (¬ (M 0 1) ≤ x1 → (vp_in x1 40) ∧ (((M 1 x1.toNatClampNeg) = (nI 35) → T d Q (63, 2, [some (.ref 0), some (.int (x1 + (nI 1)))], [], (DB o i0 i1 ext), M)) ∧ (¬ (M 1 x1.toNatClampNeg) = (nI 35) → Q (some (.int (nI 0)), (DB o i0 i1 ext), M))))) : T d Q (63, 2, [some (.ref 0), some (.int x1)], [], (DB o i0 i1 ext), M) := by
  refine T_run 3 (63, 5, [some (.ref 0), some (.int x1)], [.int (M 0 1), .int x1], (DB o i0 i1 ext), M) rfl ?_
  refine T_br ((M 0 1) ≤ x1) (63, 16, [some (.ref 0), some (.int x1)], [], (DB o i0 i1 ext), M) (63, 6, [some (.ref 0), some (.int x1)], [], (DB o i0 i1 ext), M) rfl (fun hc1 => ?_) (fun hc1 => ?_)
  · have h := h.1 hc1
    refine T_run 1 (63, 17, [some (.ref 0), some (.int x1)], [.int (nI 1)], (DB o i0 i1 ext), M) rfl ?_
    exact T_ret rfl h
  · have h := h.2 hc1
    refine T_run 3 (63, 9, [some (.ref 0), some (.int x1)], [.int x1, .ref 1], (DB o i0 i1 ext), M) rfl ?_
    refine T_gd (x1 < 0 ∨ 40 ≤ x1.toNatClampNeg) (63, 10, [some (.ref 0), some (.int x1)], [.int (M 1 x1.toNatClampNeg)], (DB o i0 i1 ext), M) rfl h.1 ?_
    have h := h.2
    refine T_run 1 (63, 11, [some (.ref 0), some (.int x1)], [.int (nI 35), .int (M 1 x1.toNatClampNeg)], (DB o i0 i1 ext), M) rfl ?_
    refine T_br ((M 1 x1.toNatClampNeg) = (nI 35)) (63, 14, [some (.ref 0), some (.int x1)], [], (DB o i0 i1 ext), M) (63, 12, [some (.ref 0), some (.int x1)], [], (DB o i0 i1 ext), M) rfl (fun hc2 => ?_) (fun hc2 => ?_)
    · have h := h.1 hc2
      refine T_run 2 (63, 2, [some (.ref 0), some (.int (x1 + (nI 1)))], [], (DB o i0 i1 ext), M) rfl ?_
      exact h
    · have h := h.2 hc2
      refine T_run 1 (63, 13, [some (.ref 0), some (.int x1)], [.int (nI 0)], (DB o i0 i1 ext), M) rfl ?_
      exact T_ret rfl h
set_option maxRecDepth 100000 in
theorem b_X4_followPad_0 {d : Nat} {Q : ARs → Prop} {o i0 i1 : Option Nat} {ext : ADd} {M : AMm}  (h : CI d 62 [.ref 0] (DB o i0 i1 ext) M (DB o i0 i1 ext) (fun v2 M1 => (v2 = (-(nI 6)) → CV d 24 [.ref 7, .ref 2] (DB o i0 i1 ext) M1 (DB o i0 i1 ext) (fun M4 => T (d + 1) Q (64, 13, [some (.ref 0), some (.int (nI 0))], [], (DB o i0 i1 ext), M4))) ∧ (¬ v2 = (-(nI 6)) → Q (some (.int (-(nI 5))), (DB o i0 i1 ext), M1)))) : T (d + 1) Q (ent 64 [.ref 0] (DB o i0 i1 ext) M) := by
  refine T_run 1 (64, 1, [some (.ref 0), none], [.ref 0], (DB o i0 i1 ext), M) rfl ?_
  refine T_callI (D' := (DB o i0 i1 ext)) rfl (CI_mono h (fun v2 M1 h => ?_))
  refine T_run 1 (64, 3, [some (.ref 0), none], [.int (-(nI 6)), .int v2], (DB o i0 i1 ext), M1) rfl ?_
  refine T_br (_) (64, 6, [some (.ref 0), none], [], (DB o i0 i1 ext), M1) (64, 4, [some (.ref 0), none], [], (DB o i0 i1 ext), M1) rfl (fun hc3 => ?_) (fun hc3 => ?_)
  · have h := h.1 hc3
    refine T_run 4 (64, 10, [some (.ref 0), none], [.ref 2, .ref 7], (DB o i0 i1 ext), M1) rfl ?_
    refine T_callV (D' := (DB o i0 i1 ext)) rfl (CV_mono h (fun M4 h => ?_))
    refine T_run 2 (64, 13, [some (.ref 0), some (.int (nI 0))], [], (DB o i0 i1 ext), M4) rfl ?_
    exact h
  · have h := h.2 hc3
    refine T_run 1 (64, 5, [some (.ref 0), none], [.int (-(nI 5))], (DB o i0 i1 ext), M1) rfl ?_
    exact T_ret rfl h
set_option maxRecDepth 100000 in
theorem b_X4_followPad_13 {d : Nat} {Q : ARs → Prop} {o i0 i1 : Option Nat} {ext : ADd} {M : AMm} (x1 : Int32) (h : ((M 0 1) ≤ x1 → Q (some (.int (nI 0)), (DB o i0 i1 ext), M)) ∧ (¬ (M 0 1) ≤ x1 → (vp_in x1 40) ∧ (CI d 65 [.int (M 1 x1.toNatClampNeg)] (DB o i0 i1 ext) M (DB o i0 i1 ext) (fun v3 M2 => CI d 25 [.ref 7, .ref 2, .int v3] (DB o i0 i1 ext) M2 (DB o i0 i1 ext) (fun v5 M4 => (v5 = 0 → Q (some (.int (-(nI 3))), (DB o i0 i1 ext), M4)) ∧ (¬ v5 = 0 → T (d + 1) Q (64, 13, [some (.ref 0), some (.int (x1 + (nI 1)))], [], (DB o i0 i1 ext), M4))))))) : T (d + 1) Q (64, 13, [some (.ref 0), some (.int x1)], [], (DB o i0 i1 ext), M) := by
  refine T_run 3 (64, 16, [some (.ref 0), some (.int x1)], [.int (M 0 1), .int x1], (DB o i0 i1 ext), M) rfl ?_
  refine T_br ((M 0 1) ≤ x1) (64, 32, [some (.ref 0), some (.int x1)], [], (DB o i0 i1 ext), M) (64, 17, [some (.ref 0), some (.int x1)], [], (DB o i0 i1 ext), M) rfl (fun hc1 => ?_) (fun hc1 => ?_)
  · have h := h.1 hc1
    refine T_run 1 (64, 33, [some (.ref 0), some (.int x1)], [.int (nI 0)], (DB o i0 i1 ext), M) rfl ?_
    exact T_ret rfl h
  · have h := h.2 hc1
    refine T_run 7 (64, 24, [some (.ref 0), some (.int x1)], [.int x1, .ref 1, .ref 2, .ref 7], (DB o i0 i1 ext), M) rfl ?_
    refine T_gd (x1 < 0 ∨ 40 ≤ x1.toNatClampNeg) (64, 25, [some (.ref 0), some (.int x1)], [.int (M 1 x1.toNatClampNeg), .ref 2, .ref 7], (DB o i0 i1 ext), M) rfl h.1 ?_
    have h := h.2
    refine T_callI (D' := (DB o i0 i1 ext)) rfl (CI_mono h (fun v3 M2 h => ?_))
    refine T_callI (D' := (DB o i0 i1 ext)) rfl (CI_mono h (fun v5 M4 h => ?_))
    refine T_br (v5 = 0) (64, 28, [some (.ref 0), some (.int x1)], [], (DB o i0 i1 ext), M4) (64, 30, [some (.ref 0), some (.int x1)], [], (DB o i0 i1 ext), M4) rfl (fun hc6 => ?_) (fun hc6 => ?_)
    · have h := h.1 hc6
      refine T_run 1 (64, 29, [some (.ref 0), some (.int x1)], [.int (-(nI 3))], (DB o i0 i1 ext), M4) rfl ?_
      exact T_ret rfl h
    · have h := h.2 hc6
      refine T_run 2 (64, 13, [some (.ref 0), some (.int (x1 + (nI 1)))], [], (DB o i0 i1 ext), M4) rfl ?_
      exact h
set_option maxRecDepth 100000 in
theorem b_X4_forget_0 {d : Nat} {Q : ARs → Prop} {o i0 i1 : Option Nat} {ext : ADd} {M : AMm}  (h : Q (none, (DB o i0 i1 ext), (ms (ms (ms (ms M 0 7 (nI 0)) 0 11 (nI 0)) 0 14 (nI 0)) 0 16 (nI 0)))) : T d Q (ent 66 [.ref 0] (DB o i0 i1 ext) M) := by
  refine T_run 12 (66, 12, [some (.ref 0)], [], (DB o i0 i1 ext), (ms (ms (ms (ms M 0 7 (nI 0)) 0 11 (nI 0)) 0 14 (nI 0)) 0 16 (nI 0))) rfl ?_
  exact T_ret rfl h
set_option maxRecDepth 100000 in
theorem b_X4_lookAtAllWays_0 {d : Nat} {Q : ARs → Prop} {o i0 i1 : Option Nat} {ext : ADd} {M : AMm}  (h : ((M 0 7) = 0 → CV d 2 [.ref 15] (DB o i0 i1 ext) M (DB o i0 i1 ext) (fun M2 => CV d 2 [.ref 17] (DB o i0 i1 ext) M2 (DB o i0 i1 ext) (fun M3 => T (d + 1) Q (67, 12, [some (.ref 0), some (.int (nI 0)), none], [], (DB o i0 i1 ext), M3)))) ∧ (¬ (M 0 7) = 0 → Q (none, (DB o i0 i1 ext), M))) : T (d + 1) Q (ent 67 [.ref 0] (DB o i0 i1 ext) M) := by
  refine T_run 2 (67, 2, [some (.ref 0), none, none], [.int (M 0 7)], (DB o i0 i1 ext), M) rfl ?_
  refine T_br ((M 0 7) = 0) (67, 4, [some (.ref 0), none, none], [], (DB o i0 i1 ext), M) (67, 3, [some (.ref 0), none, none], [], (DB o i0 i1 ext), M) rfl (fun hc1 => ?_) (fun hc1 => ?_)
  · have h := h.1 hc1
    refine T_run 2 (67, 6, [some (.ref 0), none, none], [.ref 15], (DB o i0 i1 ext), M) rfl ?_
    refine T_callV (D' := (DB o i0 i1 ext)) rfl (CV_mono h (fun M2 h => ?_))
    refine T_run 2 (67, 9, [some (.ref 0), none, none], [.ref 17], (DB o i0 i1 ext), M2) rfl ?_
    refine T_callV (D' := (DB o i0 i1 ext)) rfl (CV_mono h (fun M3 h => ?_))
    refine T_run 2 (67, 12, [some (.ref 0), some (.int (nI 0)), none], [], (DB o i0 i1 ext), M3) rfl ?_
    exact h
  · have h := h.2 hc1
    exact T_ret rfl h
set_option maxRecDepth 100000 in
theorem b_X4_lookAtAllWays_12 {d : Nat} {Q : ARs → Prop} {o i0 i1 : Option Nat} {ext : ADd} {M : AMm} (x1 : Int32) (h : ((nI 16) ≤ x1 → CV d 28 [.ref 8, .ref 2, .int (M 2 4), .int (nI 16)] (DB o i0 i1 ext) M (DB (some 2) i0 i1 ext) (fun M2 => T (d + 1) Q (67, 33, [some (.ref 0), some (.int (nI 0)), none], [], (DB (some 2) i0 i1 ext), M2))) ∧ (¬ (nI 16) ≤ x1 → (vp_in x1 16) ∧ (T (d + 1) Q (67, 12, [some (.ref 0), some (.int (x1 + (nI 1))), none], [], (DB o i0 i1 ext), (ms M 19 x1.toNatClampNeg (nI 0)))))) : T (d + 1) Q (67, 12, [some (.ref 0), some (.int x1), none], [], (DB o i0 i1 ext), M) := by
  refine T_run 2 (67, 14, [some (.ref 0), some (.int x1), none], [.int (nI 16), .int x1], (DB o i0 i1 ext), M) rfl ?_
  refine T_br ((nI 16) ≤ x1) (67, 22, [some (.ref 0), some (.int x1), none], [], (DB o i0 i1 ext), M) (67, 15, [some (.ref 0), some (.int x1), none], [], (DB o i0 i1 ext), M) rfl (fun hc1 => ?_) (fun hc1 => ?_)
  · have h := h.1 hc1
    refine T_run 8 (67, 30, [some (.ref 0), some (.int x1), none], [.int (nI 16), .int (M 2 4), .ref 2, .ref 8], (DB o i0 i1 ext), M) rfl ?_
    refine T_callV (D' := (DB (some 2) i0 i1 ext)) rfl (CV_mono h (fun M2 h => ?_))
    refine T_run 2 (67, 33, [some (.ref 0), some (.int (nI 0)), none], [], (DB (some 2) i0 i1 ext), M2) rfl ?_
    exact h
  · have h := h.2 hc1
    refine T_run 4 (67, 19, [some (.ref 0), some (.int x1), none], [.int (nI 0), .int x1, .ref 19], (DB o i0 i1 ext), M) rfl ?_
    refine T_gd (x1 < 0 ∨ 16 ≤ x1.toNatClampNeg) (67, 20, [some (.ref 0), some (.int x1), none], [], (DB o i0 i1 ext), (ms M 19 x1.toNatClampNeg (nI 0))) rfl h.1 ?_
    have h := h.2
    refine T_run 2 (67, 12, [some (.ref 0), some (.int (x1 + (nI 1))), none], [], (DB o i0 i1 ext), (ms M 19 x1.toNatClampNeg (nI 0))) rfl ?_
    exact h
set_option maxRecDepth 100000 in
theorem b_X4_lookAtAllWays_33 {d : Nat} {Q : ARs → Prop} {o i0 i1 : Option Nat} {ext : ADd} {M : AMm} (x1 : Int32) (h : ((nI 1000000) ≤ x1 → Q (none, (DB o i0 i1 ext), (ms M 0 7 (nI 1)))) ∧ (¬ (nI 1000000) ≤ x1 → CI d 31 [.ref 8] (DB o i0 i1 ext) M (DB o i0 i1 ext) (fun v3 M2 => (v3 = 0 → Q (none, (DB o i0 i1 ext), (ms M2 0 7 (nI 1)))) ∧ (¬ v3 = 0 → CV d 3 [.ref 15, .ref 8, .int ((M2 8 4) + (nI 1))] (DB o i0 i1 ext) M2 (DB o i0 i1 ext) (fun M5 => CI d 34 [.ref 8] (DB o i0 i1 ext) M5 (DB o i0 i1 ext) (fun v7 M6 => CV d 3 [.ref 17, .ref 8, .int v7] (DB o i0 i1 ext) M6 (DB o i0 i1 ext) (fun M8 => CI d 33 [.ref 8] (DB o i0 i1 ext) M8 (DB o i0 i1 ext) (fun v10 M9 => CI d 35 [.ref 8] (DB o i0 i1 ext) M9 (DB o i0 i1 ext) (fun v12 M11 => (v12 = 0 → T (d + 1) Q (67, 33, [some (.ref 0), some (.int (x1 + (nI 1))), none], [], (DB o i0 i1 ext), M11)) ∧ (¬ v12 = 0 → CI d 11 [.ref 2, .int v10] (DB o i0 i1 ext) M11 (DB o i0 i1 ext) (fun v15 M14 => (v15 = 0 → T (d + 1) Q (67, 33, [some (.ref 0), some (.int (x1 + (nI 1))), none], [], (DB o i0 i1 ext), M14)) ∧ (¬ v15 = 0 → (vp_in v10 16) ∧ ((vp_in v10 16) ∧ (T (d + 1) Q (67, 33, [some (.ref 0), some (.int (x1 + (nI 1))), none], [], (DB o i0 i1 ext), (ms M14 19 v10.toNatClampNeg ((M14 19 v10.toNatClampNeg) + (nI 1)))))))))))))))))) : T (d + 1) Q (67, 33, [some (.ref 0), some (.int x1), none], [], (DB o i0 i1 ext), M) := by
  refine T_run 2 (67, 35, [some (.ref 0), some (.int x1), none], [.int (nI 1000000), .int x1], (DB o i0 i1 ext), M) rfl ?_
  refine T_br ((nI 1000000) ≤ x1) (67, 81, [some (.ref 0), some (.int x1), none], [], (DB o i0 i1 ext), M) (67, 36, [some (.ref 0), some (.int x1), none], [], (DB o i0 i1 ext), M) rfl (fun hc1 => ?_) (fun hc1 => ?_)
  · have h := h.1 hc1
    refine T_run 3 (67, 84, [some (.ref 0), some (.int x1), none], [], (DB o i0 i1 ext), (ms M 0 7 (nI 1))) rfl ?_
    exact T_ret rfl h
  · have h := h.2 hc1
    refine T_run 2 (67, 38, [some (.ref 0), some (.int x1), none], [.ref 8], (DB o i0 i1 ext), M) rfl ?_
    refine T_callI (D' := (DB o i0 i1 ext)) rfl (CI_mono h (fun v3 M2 h => ?_))
    refine T_br (v3 = 0) (67, 81, [some (.ref 0), some (.int x1), none], [], (DB o i0 i1 ext), M2) (67, 40, [some (.ref 0), some (.int x1), none], [], (DB o i0 i1 ext), M2) rfl (fun hc4 => ?_) (fun hc4 => ?_)
    · have h := h.1 hc4
      refine T_run 3 (67, 84, [some (.ref 0), some (.int x1), none], [], (DB o i0 i1 ext), (ms M2 0 7 (nI 1))) rfl ?_
      exact T_ret rfl h
    · have h := h.2 hc4
      refine T_run 9 (67, 49, [some (.ref 0), some (.int x1), none], [.int ((M2 8 4) + (nI 1)), .ref 8, .ref 15], (DB o i0 i1 ext), M2) rfl ?_
      refine T_callV (D' := (DB o i0 i1 ext)) rfl (CV_mono h (fun M5 h => ?_))
      refine T_run 6 (67, 56, [some (.ref 0), some (.int x1), none], [.ref 8, .ref 8, .ref 17], (DB o i0 i1 ext), M5) rfl ?_
      refine T_callI (D' := (DB o i0 i1 ext)) rfl (CI_mono h (fun v7 M6 h => ?_))
      refine T_callV (D' := (DB o i0 i1 ext)) rfl (CV_mono h (fun M8 h => ?_))
      refine T_run 2 (67, 60, [some (.ref 0), some (.int x1), none], [.ref 8], (DB o i0 i1 ext), M8) rfl ?_
      refine T_callI (D' := (DB o i0 i1 ext)) rfl (CI_mono h (fun v10 M9 h => ?_))
      refine T_run 3 (67, 64, [some (.ref 0), some (.int x1), some (.int v10)], [.ref 8], (DB o i0 i1 ext), M9) rfl ?_
      refine T_callI (D' := (DB o i0 i1 ext)) rfl (CI_mono h (fun v12 M11 h => ?_))
      refine T_br (v12 = 0) (67, 79, [some (.ref 0), some (.int x1), some (.int v10)], [], (DB o i0 i1 ext), M11) (67, 66, [some (.ref 0), some (.int x1), some (.int v10)], [], (DB o i0 i1 ext), M11) rfl (fun hc13 => ?_) (fun hc13 => ?_)
      · have h := h.1 hc13
        refine T_run 2 (67, 33, [some (.ref 0), some (.int (x1 + (nI 1))), some (.int v10)], [], (DB o i0 i1 ext), M11) rfl ?_
        exact T_le (a_le_1 (a_le_1 (a_le_2 rfl a_le_n))) h
      · have h := h.2 hc13
        refine T_run 3 (67, 69, [some (.ref 0), some (.int x1), some (.int v10)], [.int v10, .ref 2], (DB o i0 i1 ext), M11) rfl ?_
        refine T_callI (D' := (DB o i0 i1 ext)) rfl (CI_mono h (fun v15 M14 h => ?_))
        refine T_br (v15 = 0) (67, 79, [some (.ref 0), some (.int x1), some (.int v10)], [], (DB o i0 i1 ext), M14) (67, 71, [some (.ref 0), some (.int x1), some (.int v10)], [], (DB o i0 i1 ext), M14) rfl (fun hc16 => ?_) (fun hc16 => ?_)
        · have h := h.1 hc16
          refine T_run 2 (67, 33, [some (.ref 0), some (.int (x1 + (nI 1))), some (.int v10)], [], (DB o i0 i1 ext), M14) rfl ?_
          exact T_le (a_le_1 (a_le_1 (a_le_2 rfl a_le_n))) h
        · have h := h.2 hc16
          refine T_run 4 (67, 75, [some (.ref 0), some (.int x1), some (.int v10)], [.int v10, .ref 19, .int v10, .ref 19], (DB o i0 i1 ext), M14) rfl ?_
          refine T_gd (v10 < 0 ∨ 16 ≤ v10.toNatClampNeg) (67, 76, [some (.ref 0), some (.int x1), some (.int v10)], [.int (M14 19 v10.toNatClampNeg), .int v10, .ref 19], (DB o i0 i1 ext), M14) rfl h.1 ?_
          have h := h.2
          refine T_run 2 (67, 78, [some (.ref 0), some (.int x1), some (.int v10)], [.int ((M14 19 v10.toNatClampNeg) + (nI 1)), .int v10, .ref 19], (DB o i0 i1 ext), M14) rfl ?_
          refine T_gd (v10 < 0 ∨ 16 ≤ v10.toNatClampNeg) (67, 79, [some (.ref 0), some (.int x1), some (.int v10)], [], (DB o i0 i1 ext), (ms M14 19 v10.toNatClampNeg ((M14 19 v10.toNatClampNeg) + (nI 1)))) rfl h.1 ?_
          have h := h.2
          refine T_run 2 (67, 33, [some (.ref 0), some (.int (x1 + (nI 1))), some (.int v10)], [], (DB o i0 i1 ext), (ms M14 19 v10.toNatClampNeg ((M14 19 v10.toNatClampNeg) + (nI 1)))) rfl ?_
          exact T_le (a_le_1 (a_le_1 (a_le_2 rfl a_le_n))) h
set_option maxRecDepth 100000 in
theorem b_X4_lookWhere_0 {d : Nat} {Q : ARs → Prop} {o i0 i1 : Option Nat} {ext : ADd} {M : AMm}  (h : T d Q (68, 8, [some (.ref 0), some (.int (nI 0)), none], [], (DB o i0 i1 ext), (ms (ms M 0 12 (nI 0)) 0 13 (nI 0)))) : T d Q (ent 68 [.ref 0] (DB o i0 i1 ext) M) := by
  refine T_run 8 (68, 8, [some (.ref 0), some (.int (nI 0)), none], [], (DB o i0 i1 ext), (ms (ms M 0 12 (nI 0)) 0 13 (nI 0))) rfl ?_
  exact h
set_option maxRecDepth 100000 in
theorem b_X4_lookWhere_8 {d : Nat} {Q : ARs → Prop} {o i0 i1 : Option Nat} {ext : ADd} {M : AMm} (x1 : Int32) (h : ((M 2 2) ≤ x1 → Q (none, (DB o i0 i1 ext), (ms M 0 11 (nI 1)))) ∧ (¬ (M 2 2) ≤ x1 → CI d 12 [.ref 2, .int x1] (DB o i0 i1 ext) M (DB o i0 i1 ext) (fun v3 M2 => (v3 = 0 → T (d + 1) Q (68, 8, [some (.ref 0), some (.int (x1 + (nI 1))), none], [], (DB o i0 i1 ext), M2)) ∧ (¬ v3 = 0 → CI d 20 [.ref 2, .int x1] (DB o i0 i1 ext) M2 (DB o i0 i1 ext) (fun v6 M5 => (v6 ≤ (M5 0 13) → T (d + 1) Q (68, 8, [some (.ref 0), some (.int (x1 + (nI 1))), none], [], (DB o i0 i1 ext), M5)) ∧ (¬ v6 ≤ (M5 0 13) → CI d 69 [.ref 0, .int x1] (DB o i0 i1 ext) M5 (DB (some 2) i0 i1 ext) (fun v9 M8 => (v9 ≤ (M8 0 13) → T (d + 1) Q (68, 8, [some (.ref 0), some (.int (x1 + (nI 1))), none], [], (DB (some 2) i0 i1 ext), M8)) ∧ (¬ v9 ≤ (M8 0 13) → T (d + 1) Q (68, 8, [some (.ref 0), some (.int (x1 + (nI 1))), none], [], (DB (some 2) i0 i1 ext), (ms (ms M8 0 13 v9) 0 12 x1)))))))))) : T (d + 1) Q (68, 8, [some (.ref 0), some (.int x1), none], [], (DB o i0 i1 ext), M) := by
  refine T_run 4 (68, 12, [some (.ref 0), some (.int x1), none], [.int (M 2 2), .int x1], (DB o i0 i1 ext), M) rfl ?_
  refine T_br ((M 2 2) ≤ x1) (68, 41, [some (.ref 0), some (.int x1), none], [], (DB o i0 i1 ext), M) (68, 13, [some (.ref 0), some (.int x1), none], [], (DB o i0 i1 ext), M) rfl (fun hc1 => ?_) (fun hc1 => ?_)
  · have h := h.1 hc1
    refine T_run 3 (68, 44, [some (.ref 0), some (.int x1), none], [], (DB o i0 i1 ext), (ms M 0 11 (nI 1))) rfl ?_
    exact T_ret rfl h
  · have h := h.2 hc1
    refine T_run 3 (68, 16, [some (.ref 0), some (.int x1), none], [.int x1, .ref 2], (DB o i0 i1 ext), M) rfl ?_
    refine T_callI (D' := (DB o i0 i1 ext)) rfl (CI_mono h (fun v3 M2 h => ?_))
    refine T_br (v3 = 0) (68, 39, [some (.ref 0), some (.int x1), none], [], (DB o i0 i1 ext), M2) (68, 18, [some (.ref 0), some (.int x1), none], [], (DB o i0 i1 ext), M2) rfl (fun hc4 => ?_) (fun hc4 => ?_)
    · have h := h.1 hc4
      refine T_run 2 (68, 8, [some (.ref 0), some (.int (x1 + (nI 1))), none], [], (DB o i0 i1 ext), M2) rfl ?_
      exact h
    · have h := h.2 hc4
      refine T_run 3 (68, 21, [some (.ref 0), some (.int x1), none], [.int x1, .ref 2], (DB o i0 i1 ext), M2) rfl ?_
      refine T_callI (D' := (DB o i0 i1 ext)) rfl (CI_mono h (fun v6 M5 h => ?_))
      refine T_run 2 (68, 24, [some (.ref 0), some (.int x1), none], [.int (M5 0 13), .int v6], (DB o i0 i1 ext), M5) rfl ?_
      refine T_br (v6 ≤ (M5 0 13)) (68, 39, [some (.ref 0), some (.int x1), none], [], (DB o i0 i1 ext), M5) (68, 25, [some (.ref 0), some (.int x1), none], [], (DB o i0 i1 ext), M5) rfl (fun hc7 => ?_) (fun hc7 => ?_)
      · have h := h.1 hc7
        refine T_run 2 (68, 8, [some (.ref 0), some (.int (x1 + (nI 1))), none], [], (DB o i0 i1 ext), M5) rfl ?_
        exact h
      · have h := h.2 hc7
        refine T_run 2 (68, 27, [some (.ref 0), some (.int x1), none], [.int x1, .ref 0], (DB o i0 i1 ext), M5) rfl ?_
        refine T_callI (D' := (DB (some 2) i0 i1 ext)) rfl (CI_mono h (fun v9 M8 h => ?_))
        refine T_run 4 (68, 32, [some (.ref 0), some (.int x1), some (.int v9)], [.int (M8 0 13), .int v9], (DB (some 2) i0 i1 ext), M8) rfl ?_
        refine T_br (v9 ≤ (M8 0 13)) (68, 39, [some (.ref 0), some (.int x1), some (.int v9)], [], (DB (some 2) i0 i1 ext), M8) (68, 33, [some (.ref 0), some (.int x1), some (.int v9)], [], (DB (some 2) i0 i1 ext), M8) rfl (fun hc10 => ?_) (fun hc10 => ?_)
        · have h := h.1 hc10
          refine T_run 2 (68, 8, [some (.ref 0), some (.int (x1 + (nI 1))), some (.int v9)], [], (DB (some 2) i0 i1 ext), M8) rfl ?_
          exact T_le (a_le_1 (a_le_1 (a_le_2 rfl a_le_n))) h
        · have h := h.2 hc10
          refine T_run 8 (68, 8, [some (.ref 0), some (.int (x1 + (nI 1))), some (.int v9)], [], (DB (some 2) i0 i1 ext), (ms (ms M8 0 13 v9) 0 12 x1)) rfl ?_
          exact T_le (a_le_1 (a_le_1 (a_le_2 rfl a_le_n))) h
set_option maxRecDepth 100000 in
theorem b_X4_longestFrom_0 {d : Nat} {Q : ARs → Prop} {o i0 i1 : Option Nat} {ext : ADd} {M : AMm} (x1 : Int32) (h : CI d 20 [.ref 2, .int x1] (DB o i0 i1 ext) M (DB o i0 i1 ext) (fun v2 M1 => CV d 28 [.ref 8, .ref 2, .int x1, .int (nI 16)] (DB o i0 i1 ext) M1 (DB (some 2) i0 i1 ext) (fun M3 => T (d + 1) Q (69, 16, [some (.ref 0), none, some (.int v2), some (.int (nI 0)), some (.int (nI 0))], [], (DB (some 2) i0 i1 ext), M3)))) : T (d + 1) Q (ent 69 [.ref 0, .int x1] (DB o i0 i1 ext) M) := by
  refine T_run 3 (69, 3, [some (.ref 0), some (.int x1), none, none, none], [.int x1, .ref 2], (DB o i0 i1 ext), M) rfl ?_
  refine T_callI (D' := (DB o i0 i1 ext)) rfl (CI_mono h (fun v2 M1 h => ?_))
  refine T_run 9 (69, 13, [some (.ref 0), some (.int x1), some (.int v2), some (.int (nI 0)), none], [.int (nI 16), .int x1, .ref 2, .ref 8], (DB o i0 i1 ext), M1) rfl ?_
  refine T_callV (D' := (DB (some 2) i0 i1 ext)) rfl (CV_mono h (fun M3 h => ?_))
  refine T_run 2 (69, 16, [some (.ref 0), some (.int x1), some (.int v2), some (.int (nI 0)), some (.int (nI 0))], [], (DB (some 2) i0 i1 ext), M3) rfl ?_
  exact T_le (a_le_1 (a_le_2 rfl (a_le_1 (a_le_1 (a_le_1 a_le_n))))) h
set_option maxRecDepth 100000 in
theorem b_X4_longestFrom_16 {d : Nat} {Q : ARs → Prop} {o i0 i1 : Option Nat} {ext : ADd} {M : AMm} (x2 : Int32) (x3 : Int32) (x4 : Int32) (h : ((nI 1000000) ≤ x4 → Q (some (.int x3), (DB o i0 i1 ext), M)) ∧ (¬ (nI 1000000) ≤ x4 → (x2 ≤ x3 → Q (some (.int x3), (DB o i0 i1 ext), M)) ∧ (¬ x2 ≤ x3 → CI d 31 [.ref 8] (DB o i0 i1 ext) M (DB o i0 i1 ext) (fun v4 M3 => (v4 = 0 → Q (some (.int x3), (DB o i0 i1 ext), M3)) ∧ (¬ v4 = 0 → T (d + 1) Q (69, 16, [some (.ref 0), none, some (.int x2), some (.int (a_mm 0 x3 ((M3 8 4) + (nI 1)))), some (.int (x4 + (nI 1)))], [], (DB o i0 i1 ext), M3)))))) : T (d + 1) Q (69, 16, [some (.ref 0), none, some (.int x2), some (.int x3), some (.int x4)], [], (DB o i0 i1 ext), M) := by
  refine T_run 2 (69, 18, [some (.ref 0), none, some (.int x2), some (.int x3), some (.int x4)], [.int (nI 1000000), .int x4], (DB o i0 i1 ext), M) rfl ?_
  refine T_br ((nI 1000000) ≤ x4) (69, 36, [some (.ref 0), none, some (.int x2), some (.int x3), some (.int x4)], [], (DB o i0 i1 ext), M) (69, 19, [some (.ref 0), none, some (.int x2), some (.int x3), some (.int x4)], [], (DB o i0 i1 ext), M) rfl (fun hc1 => ?_) (fun hc1 => ?_)
  · have h := h.1 hc1
    refine T_run 1 (69, 37, [some (.ref 0), none, some (.int x2), some (.int x3), some (.int x4)], [.int x3], (DB o i0 i1 ext), M) rfl ?_
    exact T_ret rfl h
  · have h := h.2 hc1
    refine T_run 2 (69, 21, [some (.ref 0), none, some (.int x2), some (.int x3), some (.int x4)], [.int x2, .int x3], (DB o i0 i1 ext), M) rfl ?_
    refine T_br (x2 ≤ x3) (69, 36, [some (.ref 0), none, some (.int x2), some (.int x3), some (.int x4)], [], (DB o i0 i1 ext), M) (69, 22, [some (.ref 0), none, some (.int x2), some (.int x3), some (.int x4)], [], (DB o i0 i1 ext), M) rfl (fun hc2 => ?_) (fun hc2 => ?_)
    · have h := h.1 hc2
      refine T_run 1 (69, 37, [some (.ref 0), none, some (.int x2), some (.int x3), some (.int x4)], [.int x3], (DB o i0 i1 ext), M) rfl ?_
      exact T_ret rfl h
    · have h := h.2 hc2
      refine T_run 2 (69, 24, [some (.ref 0), none, some (.int x2), some (.int x3), some (.int x4)], [.ref 8], (DB o i0 i1 ext), M) rfl ?_
      refine T_callI (D' := (DB o i0 i1 ext)) rfl (CI_mono h (fun v4 M3 h => ?_))
      refine T_br (v4 = 0) (69, 36, [some (.ref 0), none, some (.int x2), some (.int x3), some (.int x4)], [], (DB o i0 i1 ext), M3) (69, 26, [some (.ref 0), none, some (.int x2), some (.int x3), some (.int x4)], [], (DB o i0 i1 ext), M3) rfl (fun hc5 => ?_) (fun hc5 => ?_)
      · have h := h.1 hc5
        refine T_run 1 (69, 37, [some (.ref 0), none, some (.int x2), some (.int x3), some (.int x4)], [.int x3], (DB o i0 i1 ext), M3) rfl ?_
        exact T_ret rfl h
      · have h := h.2 hc5
        refine T_run 10 (69, 16, [some (.ref 0), none, some (.int x2), some (.int (a_mm 0 x3 ((M3 8 4) + (nI 1)))), some (.int (x4 + (nI 1)))], [], (DB o i0 i1 ext), M3) rfl ?_
        exact h
set_option maxRecDepth 100000 in
theorem b_X4_stepOfSign_0 {d : Nat} {Q : ARs → Prop} {o i0 i1 : Option Nat} {ext : ADd} {M : AMm} (x0 : Int32) (h : T d Q (65, 2, [some (.int x0), some (.int (nI 0))], [], (DB o i0 i1 ext), M)) : T d Q (ent 65 [.int x0] (DB o i0 i1 ext) M) := by
  refine T_run 2 (65, 2, [some (.int x0), some (.int (nI 0))], [], (DB o i0 i1 ext), M) rfl ?_
  exact h
set_option maxRecDepth 100000 in
theorem b_X4_stepOfSign_2 {d : Nat} {Q : ARs → Prop} {o i0 i1 : Option Nat} {ext : ADd} {M : AMm} (x0 : Int32) (x1 : Int32) (h : ((nI 4) ≤ x1 → Q (some (.int (-(nI 1))), (DB o i0 i1 ext), M)) ∧ (¬ (nI 4) ≤ x1 → (vp_in x1 4) ∧ (((M 1000001 x1.toNatClampNeg) = x0 → Q (some (.int x1), (DB o i0 i1 ext), M)) ∧ (¬ (M 1000001 x1.toNatClampNeg) = x0 → T d Q (65, 2, [some (.int x0), some (.int (x1 + (nI 1)))], [], (DB o i0 i1 ext), M))))) : T d Q (65, 2, [some (.int x0), some (.int x1)], [], (DB o i0 i1 ext), M) := by
  refine T_run 2 (65, 4, [some (.int x0), some (.int x1)], [.int (nI 4), .int x1], (DB o i0 i1 ext), M) rfl ?_
  refine T_br ((nI 4) ≤ x1) (65, 14, [some (.int x0), some (.int x1)], [], (DB o i0 i1 ext), M) (65, 5, [some (.int x0), some (.int x1)], [], (DB o i0 i1 ext), M) rfl (fun hc1 => ?_) (fun hc1 => ?_)
  · have h := h.1 hc1
    refine T_run 1 (65, 15, [some (.int x0), some (.int x1)], [.int (-(nI 1))], (DB o i0 i1 ext), M) rfl ?_
    exact T_ret rfl h
  · have h := h.2 hc1
    refine T_run 2 (65, 7, [some (.int x0), some (.int x1)], [.int x1, .ref 1000001], (DB o i0 i1 ext), M) rfl ?_
    refine T_gd (x1 < 0 ∨ 4 ≤ x1.toNatClampNeg) (65, 8, [some (.int x0), some (.int x1)], [.int (M 1000001 x1.toNatClampNeg)], (DB o i0 i1 ext), M) rfl h.1 ?_
    have h := h.2
    refine T_run 1 (65, 9, [some (.int x0), some (.int x1)], [.int x0, .int (M 1000001 x1.toNatClampNeg)], (DB o i0 i1 ext), M) rfl ?_
    refine T_br ((M 1000001 x1.toNatClampNeg) = x0) (65, 10, [some (.int x0), some (.int x1)], [], (DB o i0 i1 ext), M) (65, 12, [some (.int x0), some (.int x1)], [], (DB o i0 i1 ext), M) rfl (fun hc2 => ?_) (fun hc2 => ?_)
    · have h := h.1 hc2
      refine T_run 1 (65, 11, [some (.int x0), some (.int x1)], [.int x1], (DB o i0 i1 ext), M) rfl ?_
      exact T_ret rfl h
    · have h := h.2 hc2
      refine T_run 2 (65, 2, [some (.int x0), some (.int (x1 + (nI 1)))], [], (DB o i0 i1 ext), M) rfl ?_
      exact h
set_option maxRecDepth 100000 in
theorem b_X4_isIn_0 {d : Nat} {Q : ARs → Prop} {o i0 i1 : Option Nat} {ext : ADd} {M : AMm} (x0 : Int32) (x1 : Int32) (h : (x1 < 0 → Q (some (.int (nI 0)), (DB o i0 i1 ext), M)) ∧ (¬ x1 < 0 → ((nI 16) ≤ x1 → Q (some (.int (nI 0)), (DB o i0 i1 ext), M)) ∧ (¬ (nI 16) ≤ x1 → (((x0 >>> (x1 &&& 31)) &&& (nI 1)) = (nI 1) → Q (some (.int (nI 1)), (DB o i0 i1 ext), M)) ∧ (¬ ((x0 >>> (x1 &&& 31)) &&& (nI 1)) = (nI 1) → Q (some (.int (nI 0)), (DB o i0 i1 ext), M))))) : T d Q (ent 72 [.int x0, .int x1] (DB o i0 i1 ext) M) := by
  refine T_run 1 (72, 1, [some (.int x0), some (.int x1)], [.int x1], (DB o i0 i1 ext), M) rfl ?_
  refine T_br (x1 < 0) (72, 14, [some (.int x0), some (.int x1)], [], (DB o i0 i1 ext), M) (72, 2, [some (.int x0), some (.int x1)], [], (DB o i0 i1 ext), M) rfl (fun hc1 => ?_) (fun hc1 => ?_)
  · have h := h.1 hc1
    refine T_run 1 (72, 15, [some (.int x0), some (.int x1)], [.int (nI 0)], (DB o i0 i1 ext), M) rfl ?_
    exact T_ret rfl h
  · have h := h.2 hc1
    refine T_run 2 (72, 4, [some (.int x0), some (.int x1)], [.int (nI 16), .int x1], (DB o i0 i1 ext), M) rfl ?_
    refine T_br ((nI 16) ≤ x1) (72, 14, [some (.int x0), some (.int x1)], [], (DB o i0 i1 ext), M) (72, 5, [some (.int x0), some (.int x1)], [], (DB o i0 i1 ext), M) rfl (fun hc2 => ?_) (fun hc2 => ?_)
    · have h := h.1 hc2
      refine T_run 1 (72, 15, [some (.int x0), some (.int x1)], [.int (nI 0)], (DB o i0 i1 ext), M) rfl ?_
      exact T_ret rfl h
    · have h := h.2 hc2
      refine T_run 6 (72, 11, [some (.int x0), some (.int x1)], [.int (nI 1), .int ((x0 >>> (x1 &&& 31)) &&& (nI 1))], (DB o i0 i1 ext), M) rfl ?_
      refine T_br (((x0 >>> (x1 &&& 31)) &&& (nI 1)) = (nI 1)) (72, 12, [some (.int x0), some (.int x1)], [], (DB o i0 i1 ext), M) (72, 14, [some (.int x0), some (.int x1)], [], (DB o i0 i1 ext), M) rfl (fun hc3 => ?_) (fun hc3 => ?_)
      · have h := h.1 hc3
        refine T_run 2 (72, 15, [some (.int x0), some (.int x1)], [.int (nI 1)], (DB o i0 i1 ext), M) rfl ?_
        exact T_ret rfl h
      · have h := h.2 hc3
        refine T_run 1 (72, 15, [some (.int x0), some (.int x1)], [.int (nI 0)], (DB o i0 i1 ext), M) rfl ?_
        exact T_ret rfl h
set_option maxRecDepth 100000 in
theorem b_X4_cutTogether_0 {d : Nat} {Q : ARs → Prop} {o i0 i1 : Option Nat} {ext : ADd} {M : AMm} (x1 : Int32) (x2 : Int32) (x3 : Int32) (x4 : Int32) (h : (x4 < (nI 30) → CI d 15 [.ref 2, .int x1, .int x3] (DB o i0 i1 ext) M (DB o i0 i1 ext) (fun v3 M2 => (v3 = 0 → CI d 0 [.int x3] (DB o i0 i1 ext) M2 (DB o i0 i1 ext) (fun v6 M5 => T (d + 1) Q (70, 33, [some (.ref 2), some (.int x1), some (.int x2), some (.int x3), some (.int x4), some (.int v6), some (.int (nI 0)), some (.int (nI 0)), none], [], (DB o i0 i1 ext), M5))) ∧ (¬ v3 = 0 → CI d 15 [.ref 2, .int x2, .int x3] (DB o i0 i1 ext) M2 (DB o i0 i1 ext) (fun v8 M7 => (v8 = 0 → CI d 70 [.ref 2, .int x2, .int x1, .int x3, .int (x4 + (nI 1))] (DB o i0 i1 ext) M7 (DB o i0 i1 ext) (fun v11 M10 => Q (some (.int v11), (DB o i0 i1 ext), M10))) ∧ (¬ v8 = 0 → Q (some (.int (nI 0)), (DB o i0 i1 ext), M7)))))) ∧ (¬ x4 < (nI 30) → Q (some (.int (nI 0)), (DB o i0 i1 ext), M))) : T (d + 1) Q (ent 70 [.ref 2, .int x1, .int x2, .int x3, .int x4] (DB o i0 i1 ext) M) := by
  refine T_run 2 (70, 2, [some (.ref 2), some (.int x1), some (.int x2), some (.int x3), some (.int x4), none, none, none, none], [.int (nI 30), .int x4], (DB o i0 i1 ext), M) rfl ?_
  refine T_br (x4 < (nI 30)) (70, 5, [some (.ref 2), some (.int x1), some (.int x2), some (.int x3), some (.int x4), none, none, none, none], [], (DB o i0 i1 ext), M) (70, 3, [some (.ref 2), some (.int x1), some (.int x2), some (.int x3), some (.int x4), none, none, none, none], [], (DB o i0 i1 ext), M) rfl (fun hc1 => ?_) (fun hc1 => ?_)
  · have h := h.1 hc1
    refine T_run 3 (70, 8, [some (.ref 2), some (.int x1), some (.int x2), some (.int x3), some (.int x4), none, none, none, none], [.int x3, .int x1, .ref 2], (DB o i0 i1 ext), M) rfl ?_
    refine T_callI (D' := (DB o i0 i1 ext)) rfl (CI_mono h (fun v3 M2 h => ?_))
    refine T_br (v3 = 0) (70, 26, [some (.ref 2), some (.int x1), some (.int x2), some (.int x3), some (.int x4), none, none, none, none], [], (DB o i0 i1 ext), M2) (70, 10, [some (.ref 2), some (.int x1), some (.int x2), some (.int x3), some (.int x4), none, none, none, none], [], (DB o i0 i1 ext), M2) rfl (fun hc4 => ?_) (fun hc4 => ?_)
    · have h := h.1 hc4
      refine T_run 1 (70, 27, [some (.ref 2), some (.int x1), some (.int x2), some (.int x3), some (.int x4), none, none, none, none], [.int x3], (DB o i0 i1 ext), M2) rfl ?_
      refine T_callI (D' := (DB o i0 i1 ext)) rfl (CI_mono h (fun v6 M5 h => ?_))
      refine T_run 5 (70, 33, [some (.ref 2), some (.int x1), some (.int x2), some (.int x3), some (.int x4), some (.int v6), some (.int (nI 0)), some (.int (nI 0)), none], [], (DB o i0 i1 ext), M5) rfl ?_
      exact h
    · have h := h.2 hc4
      refine T_run 3 (70, 13, [some (.ref 2), some (.int x1), some (.int x2), some (.int x3), some (.int x4), none, none, none, none], [.int x3, .int x2, .ref 2], (DB o i0 i1 ext), M2) rfl ?_
      refine T_callI (D' := (DB o i0 i1 ext)) rfl (CI_mono h (fun v8 M7 h => ?_))
      refine T_br (v8 = 0) (70, 17, [some (.ref 2), some (.int x1), some (.int x2), some (.int x3), some (.int x4), none, none, none, none], [], (DB o i0 i1 ext), M7) (70, 15, [some (.ref 2), some (.int x1), some (.int x2), some (.int x3), some (.int x4), none, none, none, none], [], (DB o i0 i1 ext), M7) rfl (fun hc9 => ?_) (fun hc9 => ?_)
      · have h := h.1 hc9
        refine T_run 7 (70, 24, [some (.ref 2), some (.int x1), some (.int x2), some (.int x3), some (.int x4), none, none, none, none], [.int (x4 + (nI 1)), .int x3, .int x1, .int x2, .ref 2], (DB o i0 i1 ext), M7) rfl ?_
        refine T_callI (D' := (DB o i0 i1 ext)) rfl (CI_mono h (fun v11 M10 h => ?_))
        exact T_ret rfl h
      · have h := h.2 hc9
        refine T_run 2 (70, 25, [some (.ref 2), some (.int x1), some (.int x2), some (.int x3), some (.int x4), none, none, none, none], [.int (nI 0)], (DB o i0 i1 ext), M7) rfl ?_
        exact T_ret rfl h
  · have h := h.2 hc1
    refine T_run 1 (70, 4, [some (.ref 2), some (.int x1), some (.int x2), some (.int x3), some (.int x4), none, none, none, none], [.int (nI 0)], (DB o i0 i1 ext), M) rfl ?_
    exact T_ret rfl h
set_option maxRecDepth 100000 in
theorem b_X4_cutTogether_33 {d : Nat} {Q : ARs → Prop} {o i0 i1 : Option Nat} {ext : ADd} {M : AMm} (x1 : Int32) (x2 : Int32) (x3 : Int32) (x4 : Int32) (x5 : Int32) (x6 : Int32) (x7 : Int32) (h : ((nI 4) ≤ x7 → Q (some (.int x6), (DB o i0 i1 ext), M)) ∧ (¬ (nI 4) ≤ x7 → (x5 ≤ x6 → Q (some (.int x6), (DB o i0 i1 ext), M)) ∧ (¬ x5 ≤ x6 → CI d 13 [.ref 2, .int x1, .int x7] (DB o i0 i1 ext) M (DB o i0 i1 ext) (fun v4 M3 => CI d 72 [.int x3, .int v4] (DB o i0 i1 ext) M3 (DB o i0 i1 ext) (fun v6 M5 => (v6 = 0 → T (d + 1) Q (70, 33, [some (.ref 2), some (.int x1), some (.int x2), some (.int x3), some (.int x4), some (.int x5), some (.int x6), some (.int (x7 + (nI 1))), none], [], (DB o i0 i1 ext), M5)) ∧ (¬ v6 = 0 → CI d 70 [.ref 2, .int x2, .int v4, .int (x3 &&& (((nI 1) <<< (v4 &&& 31)) ^^^ (-(nI 1)))), .int (x4 + (nI 1))] (DB o i0 i1 ext) M5 (DB o i0 i1 ext) (fun v9 M8 => T (d + 1) Q (70, 33, [some (.ref 2), some (.int x1), some (.int x2), some (.int x3), some (.int x4), some (.int x5), some (.int (a_mm 0 x6 ((nI 1) + v9))), some (.int (x7 + (nI 1))), none], [], (DB o i0 i1 ext), M8)))))))) : T (d + 1) Q (70, 33, [some (.ref 2), some (.int x1), some (.int x2), some (.int x3), some (.int x4), some (.int x5), some (.int x6), some (.int x7), none], [], (DB o i0 i1 ext), M) := by
  refine T_run 2 (70, 35, [some (.ref 2), some (.int x1), some (.int x2), some (.int x3), some (.int x4), some (.int x5), some (.int x6), some (.int x7), none], [.int (nI 4), .int x7], (DB o i0 i1 ext), M) rfl ?_
  refine T_br ((nI 4) ≤ x7) (70, 69, [some (.ref 2), some (.int x1), some (.int x2), some (.int x3), some (.int x4), some (.int x5), some (.int x6), some (.int x7), none], [], (DB o i0 i1 ext), M) (70, 36, [some (.ref 2), some (.int x1), some (.int x2), some (.int x3), some (.int x4), some (.int x5), some (.int x6), some (.int x7), none], [], (DB o i0 i1 ext), M) rfl (fun hc1 => ?_) (fun hc1 => ?_)
  · have h := h.1 hc1
    refine T_run 1 (70, 70, [some (.ref 2), some (.int x1), some (.int x2), some (.int x3), some (.int x4), some (.int x5), some (.int x6), some (.int x7), none], [.int x6], (DB o i0 i1 ext), M) rfl ?_
    exact T_ret rfl h
  · have h := h.2 hc1
    refine T_run 2 (70, 38, [some (.ref 2), some (.int x1), some (.int x2), some (.int x3), some (.int x4), some (.int x5), some (.int x6), some (.int x7), none], [.int x5, .int x6], (DB o i0 i1 ext), M) rfl ?_
    refine T_br (x5 ≤ x6) (70, 69, [some (.ref 2), some (.int x1), some (.int x2), some (.int x3), some (.int x4), some (.int x5), some (.int x6), some (.int x7), none], [], (DB o i0 i1 ext), M) (70, 39, [some (.ref 2), some (.int x1), some (.int x2), some (.int x3), some (.int x4), some (.int x5), some (.int x6), some (.int x7), none], [], (DB o i0 i1 ext), M) rfl (fun hc2 => ?_) (fun hc2 => ?_)
    · have h := h.1 hc2
      refine T_run 1 (70, 70, [some (.ref 2), some (.int x1), some (.int x2), some (.int x3), some (.int x4), some (.int x5), some (.int x6), some (.int x7), none], [.int x6], (DB o i0 i1 ext), M) rfl ?_
      exact T_ret rfl h
    · have h := h.2 hc2
      refine T_run 3 (70, 42, [some (.ref 2), some (.int x1), some (.int x2), some (.int x3), some (.int x4), some (.int x5), some (.int x6), some (.int x7), none], [.int x7, .int x1, .ref 2], (DB o i0 i1 ext), M) rfl ?_
      refine T_callI (D' := (DB o i0 i1 ext)) rfl (CI_mono h (fun v4 M3 h => ?_))
      refine T_run 3 (70, 46, [some (.ref 2), some (.int x1), some (.int x2), some (.int x3), some (.int x4), some (.int x5), some (.int x6), some (.int x7), some (.int v4)], [.int v4, .int x3], (DB o i0 i1 ext), M3) rfl ?_
      refine T_callI (D' := (DB o i0 i1 ext)) rfl (CI_mono h (fun v6 M5 h => ?_))
      refine T_br (v6 = 0) (70, 67, [some (.ref 2), some (.int x1), some (.int x2), some (.int x3), some (.int x4), some (.int x5), some (.int x6), some (.int x7), some (.int v4)], [], (DB o i0 i1 ext), M5) (70, 48, [some (.ref 2), some (.int x1), some (.int x2), some (.int x3), some (.int x4), some (.int x5), some (.int x6), some (.int x7), some (.int v4)], [], (DB o i0 i1 ext), M5) rfl (fun hc7 => ?_) (fun hc7 => ?_)
      · have h := h.1 hc7
        refine T_run 2 (70, 33, [some (.ref 2), some (.int x1), some (.int x2), some (.int x3), some (.int x4), some (.int x5), some (.int x6), some (.int (x7 + (nI 1))), some (.int v4)], [], (DB o i0 i1 ext), M5) rfl ?_
        exact T_le (a_le_1 (a_le_1 (a_le_1 (a_le_1 (a_le_1 (a_le_1 (a_le_1 (a_le_1 (a_le_2 rfl a_le_n))))))))) h
      · have h := h.2 hc7
        refine T_run 15 (70, 63, [some (.ref 2), some (.int x1), some (.int x2), some (.int x3), some (.int x4), some (.int x5), some (.int x6), some (.int x7), some (.int v4)], [.int (x4 + (nI 1)), .int (x3 &&& (((nI 1) <<< (v4 &&& 31)) ^^^ (-(nI 1)))), .int v4, .int x2, .ref 2, .int (nI 1), .int x6], (DB o i0 i1 ext), M5) rfl ?_
        refine T_callI (D' := (DB o i0 i1 ext)) rfl (CI_mono h (fun v9 M8 h => ?_))
        refine T_run 5 (70, 33, [some (.ref 2), some (.int x1), some (.int x2), some (.int x3), some (.int x4), some (.int x5), some (.int (a_mm 0 x6 ((nI 1) + v9))), some (.int (x7 + (nI 1))), some (.int v4)], [], (DB o i0 i1 ext), M8) rfl ?_
        exact T_le (a_le_1 (a_le_1 (a_le_1 (a_le_1 (a_le_1 (a_le_1 (a_le_1 (a_le_1 (a_le_2 rfl a_le_n))))))))) h
set_option maxRecDepth 100000 in
theorem b_X4_leadApart_0 {d : Nat} {Q : ARs → Prop} {o i0 i1 : Option Nat} {ext : ADd} {M : AMm} (x1 : Int32) (x2 : Int32) (x3 : Int32) (x4 : Int32) (h : (x4 < (nI 30) → CI d 15 [.ref 2, .int x1, .int x3] (DB o i0 i1 ext) M (DB o i0 i1 ext) (fun v3 M2 => (v3 = 0 → T (d + 1) Q (71, 31, [some (.ref 2), some (.int x1), some (.int x2), some (.int x3), some (.int x4), some (.int (-(nI 16))), some (.int (nI 0)), none], [], (DB o i0 i1 ext), M2)) ∧ (¬ v3 = 0 → CI d 15 [.ref 2, .int x2, .int x3] (DB o i0 i1 ext) M2 (DB o i0 i1 ext) (fun v6 M5 => (v6 = 0 → CI d 71 [.ref 2, .int x2, .int x1, .int x3, .int (x4 + (nI 1))] (DB o i0 i1 ext) M5 (DB o i0 i1 ext) (fun v9 M8 => Q (some (.int (-v9)), (DB o i0 i1 ext), M8))) ∧ (¬ v6 = 0 → Q (some (.int (nI 0)), (DB o i0 i1 ext), M5)))))) ∧ (¬ x4 < (nI 30) → Q (some (.int (nI 0)), (DB o i0 i1 ext), M))) : T (d + 1) Q (ent 71 [.ref 2, .int x1, .int x2, .int x3, .int x4] (DB o i0 i1 ext) M) := by
  refine T_run 2 (71, 2, [some (.ref 2), some (.int x1), some (.int x2), some (.int x3), some (.int x4), none, none, none], [.int (nI 30), .int x4], (DB o i0 i1 ext), M) rfl ?_
  refine T_br (x4 < (nI 30)) (71, 5, [some (.ref 2), some (.int x1), some (.int x2), some (.int x3), some (.int x4), none, none, none], [], (DB o i0 i1 ext), M) (71, 3, [some (.ref 2), some (.int x1), some (.int x2), some (.int x3), some (.int x4), none, none, none], [], (DB o i0 i1 ext), M) rfl (fun hc1 => ?_) (fun hc1 => ?_)
  · have h := h.1 hc1
    refine T_run 3 (71, 8, [some (.ref 2), some (.int x1), some (.int x2), some (.int x3), some (.int x4), none, none, none], [.int x3, .int x1, .ref 2], (DB o i0 i1 ext), M) rfl ?_
    refine T_callI (D' := (DB o i0 i1 ext)) rfl (CI_mono h (fun v3 M2 h => ?_))
    refine T_br (v3 = 0) (71, 27, [some (.ref 2), some (.int x1), some (.int x2), some (.int x3), some (.int x4), none, none, none], [], (DB o i0 i1 ext), M2) (71, 10, [some (.ref 2), some (.int x1), some (.int x2), some (.int x3), some (.int x4), none, none, none], [], (DB o i0 i1 ext), M2) rfl (fun hc4 => ?_) (fun hc4 => ?_)
    · have h := h.1 hc4
      refine T_run 4 (71, 31, [some (.ref 2), some (.int x1), some (.int x2), some (.int x3), some (.int x4), some (.int (-(nI 16))), some (.int (nI 0)), none], [], (DB o i0 i1 ext), M2) rfl ?_
      exact h
    · have h := h.2 hc4
      refine T_run 3 (71, 13, [some (.ref 2), some (.int x1), some (.int x2), some (.int x3), some (.int x4), none, none, none], [.int x3, .int x2, .ref 2], (DB o i0 i1 ext), M2) rfl ?_
      refine T_callI (D' := (DB o i0 i1 ext)) rfl (CI_mono h (fun v6 M5 h => ?_))
      refine T_br (v6 = 0) (71, 17, [some (.ref 2), some (.int x1), some (.int x2), some (.int x3), some (.int x4), none, none, none], [], (DB o i0 i1 ext), M5) (71, 15, [some (.ref 2), some (.int x1), some (.int x2), some (.int x3), some (.int x4), none, none, none], [], (DB o i0 i1 ext), M5) rfl (fun hc7 => ?_) (fun hc7 => ?_)
      · have h := h.1 hc7
        refine T_run 7 (71, 24, [some (.ref 2), some (.int x1), some (.int x2), some (.int x3), some (.int x4), none, none, none], [.int (x4 + (nI 1)), .int x3, .int x1, .int x2, .ref 2], (DB o i0 i1 ext), M5) rfl ?_
        refine T_callI (D' := (DB o i0 i1 ext)) rfl (CI_mono h (fun v9 M8 h => ?_))
        refine T_run 1 (71, 26, [some (.ref 2), some (.int x1), some (.int x2), some (.int x3), some (.int x4), none, none, none], [.int (-v9)], (DB o i0 i1 ext), M8) rfl ?_
        exact T_ret rfl h
      · have h := h.2 hc7
        refine T_run 2 (71, 26, [some (.ref 2), some (.int x1), some (.int x2), some (.int x3), some (.int x4), none, none, none], [.int (nI 0)], (DB o i0 i1 ext), M5) rfl ?_
        exact T_ret rfl h
  · have h := h.2 hc1
    refine T_run 1 (71, 4, [some (.ref 2), some (.int x1), some (.int x2), some (.int x3), some (.int x4), none, none, none], [.int (nI 0)], (DB o i0 i1 ext), M) rfl ?_
    exact T_ret rfl h
set_option maxRecDepth 100000 in
theorem b_X4_leadApart_31 {d : Nat} {Q : ARs → Prop} {o i0 i1 : Option Nat} {ext : ADd} {M : AMm} (x1 : Int32) (x2 : Int32) (x3 : Int32) (x4 : Int32) (x5 : Int32) (x6 : Int32) (h : ((nI 4) ≤ x6 → Q (some (.int x5), (DB o i0 i1 ext), M)) ∧ (¬ (nI 4) ≤ x6 → CI d 13 [.ref 2, .int x1, .int x6] (DB o i0 i1 ext) M (DB o i0 i1 ext) (fun v3 M2 => CI d 72 [.int x3, .int v3] (DB o i0 i1 ext) M2 (DB o i0 i1 ext) (fun v5 M4 => (v5 = 0 → T (d + 1) Q (71, 31, [some (.ref 2), some (.int x1), some (.int x2), some (.int x3), some (.int x4), some (.int x5), some (.int (x6 + (nI 1))), none], [], (DB o i0 i1 ext), M4)) ∧ (¬ v5 = 0 → CI d 71 [.ref 2, .int x2, .int v3, .int (x3 &&& (((nI 1) <<< (v3 &&& 31)) ^^^ (-(nI 1)))), .int (x4 + (nI 1))] (DB o i0 i1 ext) M4 (DB o i0 i1 ext) (fun v8 M7 => T (d + 1) Q (71, 31, [some (.ref 2), some (.int x1), some (.int x2), some (.int x3), some (.int x4), some (.int (a_mm 0 x5 ((nI 1) - v8))), some (.int (x6 + (nI 1))), none], [], (DB o i0 i1 ext), M7))))))) : T (d + 1) Q (71, 31, [some (.ref 2), some (.int x1), some (.int x2), some (.int x3), some (.int x4), some (.int x5), some (.int x6), none], [], (DB o i0 i1 ext), M) := by
  refine T_run 2 (71, 33, [some (.ref 2), some (.int x1), some (.int x2), some (.int x3), some (.int x4), some (.int x5), some (.int x6), none], [.int (nI 4), .int x6], (DB o i0 i1 ext), M) rfl ?_
  refine T_br ((nI 4) ≤ x6) (71, 64, [some (.ref 2), some (.int x1), some (.int x2), some (.int x3), some (.int x4), some (.int x5), some (.int x6), none], [], (DB o i0 i1 ext), M) (71, 34, [some (.ref 2), some (.int x1), some (.int x2), some (.int x3), some (.int x4), some (.int x5), some (.int x6), none], [], (DB o i0 i1 ext), M) rfl (fun hc1 => ?_) (fun hc1 => ?_)
  · have h := h.1 hc1
    refine T_run 1 (71, 65, [some (.ref 2), some (.int x1), some (.int x2), some (.int x3), some (.int x4), some (.int x5), some (.int x6), none], [.int x5], (DB o i0 i1 ext), M) rfl ?_
    exact T_ret rfl h
  · have h := h.2 hc1
    refine T_run 3 (71, 37, [some (.ref 2), some (.int x1), some (.int x2), some (.int x3), some (.int x4), some (.int x5), some (.int x6), none], [.int x6, .int x1, .ref 2], (DB o i0 i1 ext), M) rfl ?_
    refine T_callI (D' := (DB o i0 i1 ext)) rfl (CI_mono h (fun v3 M2 h => ?_))
    refine T_run 3 (71, 41, [some (.ref 2), some (.int x1), some (.int x2), some (.int x3), some (.int x4), some (.int x5), some (.int x6), some (.int v3)], [.int v3, .int x3], (DB o i0 i1 ext), M2) rfl ?_
    refine T_callI (D' := (DB o i0 i1 ext)) rfl (CI_mono h (fun v5 M4 h => ?_))
    refine T_br (v5 = 0) (71, 62, [some (.ref 2), some (.int x1), some (.int x2), some (.int x3), some (.int x4), some (.int x5), some (.int x6), some (.int v3)], [], (DB o i0 i1 ext), M4) (71, 43, [some (.ref 2), some (.int x1), some (.int x2), some (.int x3), some (.int x4), some (.int x5), some (.int x6), some (.int v3)], [], (DB o i0 i1 ext), M4) rfl (fun hc6 => ?_) (fun hc6 => ?_)
    · have h := h.1 hc6
      refine T_run 2 (71, 31, [some (.ref 2), some (.int x1), some (.int x2), some (.int x3), some (.int x4), some (.int x5), some (.int (x6 + (nI 1))), some (.int v3)], [], (DB o i0 i1 ext), M4) rfl ?_
      exact T_le (a_le_1 (a_le_1 (a_le_1 (a_le_1 (a_le_1 (a_le_1 (a_le_1 (a_le_2 rfl a_le_n)))))))) h
    · have h := h.2 hc6
      refine T_run 15 (71, 58, [some (.ref 2), some (.int x1), some (.int x2), some (.int x3), some (.int x4), some (.int x5), some (.int x6), some (.int v3)], [.int (x4 + (nI 1)), .int (x3 &&& (((nI 1) <<< (v3 &&& 31)) ^^^ (-(nI 1)))), .int v3, .int x2, .ref 2, .int (nI 1), .int x5], (DB o i0 i1 ext), M4) rfl ?_
      refine T_callI (D' := (DB o i0 i1 ext)) rfl (CI_mono h (fun v8 M7 h => ?_))
      refine T_run 5 (71, 31, [some (.ref 2), some (.int x1), some (.int x2), some (.int x3), some (.int x4), some (.int (a_mm 0 x5 ((nI 1) - v8))), some (.int (x6 + (nI 1))), some (.int v3)], [], (DB o i0 i1 ext), M7) rfl ?_
      exact T_le (a_le_1 (a_le_1 (a_le_1 (a_le_1 (a_le_1 (a_le_1 (a_le_1 (a_le_2 rfl a_le_n)))))))) h
set_option maxRecDepth 100000 in
theorem b_J6_bitCount_0 {d : Nat} {Q : ARs → Prop} {o i0 i1 : Option Nat} {ext : ADd} {M : AMm} (x0 : Int32) (h : T d Q (0, 8, [some (.int (x0 - (((x0.toUInt32 >>> ((nI 1).toUInt32 &&& Int32.toUInt32 31)).toInt32) &&& (nI 1431655765))))], [], (DB o i0 i1 ext), M)) : T d Q (ent 0 [.int x0] (DB o i0 i1 ext) M) := by
  refine T_run 8 (0, 8, [some (.int (x0 - (((x0.toUInt32 >>> ((nI 1).toUInt32 &&& Int32.toUInt32 31)).toInt32) &&& (nI 1431655765))))], [], (DB o i0 i1 ext), M) rfl ?_
  exact h
set_option maxRecDepth 100000 in
theorem b_J6_bitCount_8 {d : Nat} {Q : ARs → Prop} {o i0 i1 : Option Nat} {ext : ADd} {M : AMm} (x0 : Int32) (h : T d Q (0, 18, [some (.int ((x0 &&& (nI 858993459)) + (((x0.toUInt32 >>> ((nI 2).toUInt32 &&& Int32.toUInt32 31)).toInt32) &&& (nI 858993459))))], [], (DB o i0 i1 ext), M)) : T d Q (0, 8, [some (.int x0)], [], (DB o i0 i1 ext), M) := by
  refine T_run 10 (0, 18, [some (.int ((x0 &&& (nI 858993459)) + (((x0.toUInt32 >>> ((nI 2).toUInt32 &&& Int32.toUInt32 31)).toInt32) &&& (nI 858993459))))], [], (DB o i0 i1 ext), M) rfl ?_
  exact h
set_option maxRecDepth 100000 in
theorem b_J6_bitCount_18 {d : Nat} {Q : ARs → Prop} {o i0 i1 : Option Nat} {ext : ADd} {M : AMm} (x0 : Int32) (h : T d Q (0, 26, [some (.int ((x0 + ((x0.toUInt32 >>> ((nI 4).toUInt32 &&& Int32.toUInt32 31)).toInt32)) &&& (nI 252645135)))], [], (DB o i0 i1 ext), M)) : T d Q (0, 18, [some (.int x0)], [], (DB o i0 i1 ext), M) := by
  refine T_run 8 (0, 26, [some (.int ((x0 + ((x0.toUInt32 >>> ((nI 4).toUInt32 &&& Int32.toUInt32 31)).toInt32)) &&& (nI 252645135)))], [], (DB o i0 i1 ext), M) rfl ?_
  exact h
set_option maxRecDepth 100000 in
theorem b_J6_bitCount_26 {d : Nat} {Q : ARs → Prop} {o i0 i1 : Option Nat} {ext : ADd} {M : AMm} (x0 : Int32) (h : T d Q (0, 32, [some (.int (x0 + ((x0.toUInt32 >>> ((nI 8).toUInt32 &&& Int32.toUInt32 31)).toInt32)))], [], (DB o i0 i1 ext), M)) : T d Q (0, 26, [some (.int x0)], [], (DB o i0 i1 ext), M) := by
  refine T_run 6 (0, 32, [some (.int (x0 + ((x0.toUInt32 >>> ((nI 8).toUInt32 &&& Int32.toUInt32 31)).toInt32)))], [], (DB o i0 i1 ext), M) rfl ?_
  exact h
set_option maxRecDepth 100000 in
theorem b_J6_bitCount_32 {d : Nat} {Q : ARs → Prop} {o i0 i1 : Option Nat} {ext : ADd} {M : AMm} (x0 : Int32) (h : T d Q (0, 38, [some (.int (x0 + ((x0.toUInt32 >>> ((nI 16).toUInt32 &&& Int32.toUInt32 31)).toInt32)))], [], (DB o i0 i1 ext), M)) : T d Q (0, 32, [some (.int x0)], [], (DB o i0 i1 ext), M) := by
  refine T_run 6 (0, 38, [some (.int (x0 + ((x0.toUInt32 >>> ((nI 16).toUInt32 &&& Int32.toUInt32 31)).toInt32)))], [], (DB o i0 i1 ext), M) rfl ?_
  exact h
set_option maxRecDepth 100000 in
theorem b_J6_bitCount_38 {d : Nat} {Q : ARs → Prop} {o i0 i1 : Option Nat} {ext : ADd} {M : AMm} (x0 : Int32) (h : Q (some (.int (x0 &&& (nI 63))), (DB o i0 i1 ext), M)) : T d Q (0, 38, [some (.int x0)], [], (DB o i0 i1 ext), M) := by
  refine T_run 3 (0, 41, [some (.int x0)], [.int (x0 &&& (nI 63))], (DB o i0 i1 ext), M) rfl ?_
  exact T_ret rfl h
