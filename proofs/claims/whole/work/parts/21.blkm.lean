set_option maxRecDepth 100000 in
theorem b_X5_in_0 {d : Nat} {Q : ARs → Prop} {o i0 i1 : Option Nat} {ext : ADd} {M : AMm} (x0 : Int64) (x2 : Int64) (x4 : Int64) (h : ((lg_cmp x0 x2) < 0 → Q (some (.int (nI 0)), (DB o i0 i1 ext), M)) ∧ (¬ (lg_cmp x0 x2) < 0 → (0 < (lg_cmp x0 x4) → Q (some (.int (nI 0)), (DB o i0 i1 ext), M)) ∧ (¬ 0 < (lg_cmp x0 x4) → Q (some (.int (nI 1)), (DB o i0 i1 ext), M)))) : T d Q (ent 74 [.long x0, .long x2, .long x4] (DB o i0 i1 ext) M) := by
  refine T_run 3 (74, 3, [some (.long x0), none, some (.long x2), none, some (.long x4), none], [.int (lg_cmp x0 x2)], (DB o i0 i1 ext), M) rfl ?_
  refine T_br ((lg_cmp x0 x2) < 0) (74, 10, [some (.long x0), none, some (.long x2), none, some (.long x4), none], [], (DB o i0 i1 ext), M) (74, 4, [some (.long x0), none, some (.long x2), none, some (.long x4), none], [], (DB o i0 i1 ext), M) rfl (fun hc1 => ?_) (fun hc1 => ?_)
  · have h := h.1 hc1
    refine T_run 1 (74, 11, [some (.long x0), none, some (.long x2), none, some (.long x4), none], [.int (nI 0)], (DB o i0 i1 ext), M) rfl ?_
    exact T_ret rfl h
  · have h := h.2 hc1
    refine T_run 3 (74, 7, [some (.long x0), none, some (.long x2), none, some (.long x4), none], [.int (lg_cmp x0 x4)], (DB o i0 i1 ext), M) rfl ?_
    refine T_br (0 < (lg_cmp x0 x4)) (74, 10, [some (.long x0), none, some (.long x2), none, some (.long x4), none], [], (DB o i0 i1 ext), M) (74, 8, [some (.long x0), none, some (.long x2), none, some (.long x4), none], [], (DB o i0 i1 ext), M) rfl (fun hc2 => ?_) (fun hc2 => ?_)
    · have h := h.1 hc2
      refine T_run 1 (74, 11, [some (.long x0), none, some (.long x2), none, some (.long x4), none], [.int (nI 0)], (DB o i0 i1 ext), M) rfl ?_
      exact T_ret rfl h
    · have h := h.2 hc2
      refine T_run 2 (74, 11, [some (.long x0), none, some (.long x2), none, some (.long x4), none], [.int (nI 1)], (DB o i0 i1 ext), M) rfl ?_
      exact T_ret rfl h
set_option maxRecDepth 100000 in
theorem b_X5_ones_0 {d : Nat} {Q : ARs → Prop} {o i0 i1 : Option Nat} {ext : ADd} {M : AMm} (x0 : Int32) (h : T d Q (75, 4, [none, some (.int (nI 0)), some (.int x0)], [], (DB o i0 i1 ext), M)) : T d Q (ent 75 [.int x0] (DB o i0 i1 ext) M) := by
  refine T_run 4 (75, 4, [some (.int x0), some (.int (nI 0)), some (.int x0)], [], (DB o i0 i1 ext), M) rfl ?_
  exact T_le (a_le_2 rfl (a_le_1 (a_le_1 a_le_n))) h
set_option maxRecDepth 100000 in
theorem b_X5_ones_4 {d : Nat} {Q : ARs → Prop} {o i0 i1 : Option Nat} {ext : ADd} {M : AMm} (x1 : Int32) (x2 : Int32) (h : (x2 = 0 → Q (some (.int x1), (DB o i0 i1 ext), M)) ∧ (¬ x2 = 0 → T d Q (75, 4, [none, some (.int (x1 + (nI 1))), some (.int (x2 &&& (x2 - (nI 1))))], [], (DB o i0 i1 ext), M))) : T d Q (75, 4, [none, some (.int x1), some (.int x2)], [], (DB o i0 i1 ext), M) := by
  refine T_run 1 (75, 5, [none, some (.int x1), some (.int x2)], [.int x2], (DB o i0 i1 ext), M) rfl ?_
  refine T_br (x2 = 0) (75, 14, [none, some (.int x1), some (.int x2)], [], (DB o i0 i1 ext), M) (75, 6, [none, some (.int x1), some (.int x2)], [], (DB o i0 i1 ext), M) rfl (fun hc1 => ?_) (fun hc1 => ?_)
  · have h := h.1 hc1
    refine T_run 1 (75, 15, [none, some (.int x1), some (.int x2)], [.int x1], (DB o i0 i1 ext), M) rfl ?_
    exact T_ret rfl h
  · have h := h.2 hc1
    refine T_run 8 (75, 4, [none, some (.int (x1 + (nI 1))), some (.int (x2 &&& (x2 - (nI 1))))], [], (DB o i0 i1 ext), M) rfl ?_
    exact h
set_option maxRecDepth 100000 in
theorem b_X5_lay_0 {d : Nat} {Q : ARs → Prop} {o i0 i1 : Option Nat} {ext : ADd} {M : AMm} (x1 : Int32) (x2 : Int32) (h : T d Q (76, 8, [some (.ref 20), none, none, some (.int (nI 0))], [], (DB o i0 i1 ext), (ms (ms M 20 0 x1) 20 1 x2))) : T d Q (ent 76 [.ref 20, .int x1, .int x2] (DB o i0 i1 ext) M) := by
  refine T_run 8 (76, 8, [some (.ref 20), some (.int x1), some (.int x2), some (.int (nI 0))], [], (DB o i0 i1 ext), (ms (ms M 20 0 x1) 20 1 x2)) rfl ?_
  exact T_le (a_le_1 (a_le_2 rfl (a_le_2 rfl (a_le_1 a_le_n)))) h
set_option maxRecDepth 100000 in
theorem b_X5_lay_8 {d : Nat} {Q : ARs → Prop} {o i0 i1 : Option Nat} {ext : ADd} {M : AMm} (x3 : Int32) (h : ((nI 16) ≤ x3 → Q (none, (DB o i0 i1 ext), (ms M 20 3 (nI 0)))) ∧ (¬ (nI 16) ≤ x3 → (vp_in x3 16) ∧ (T d Q (76, 8, [some (.ref 20), none, none, some (.int (x3 + (nI 1)))], [], (DB o i0 i1 ext), (ms M 21 x3.toNatClampNeg (nI 1)))))) : T d Q (76, 8, [some (.ref 20), none, none, some (.int x3)], [], (DB o i0 i1 ext), M) := by
  refine T_run 2 (76, 10, [some (.ref 20), none, none, some (.int x3)], [.int (nI 16), .int x3], (DB o i0 i1 ext), M) rfl ?_
  refine T_br ((nI 16) ≤ x3) (76, 18, [some (.ref 20), none, none, some (.int x3)], [], (DB o i0 i1 ext), M) (76, 11, [some (.ref 20), none, none, some (.int x3)], [], (DB o i0 i1 ext), M) rfl (fun hc1 => ?_) (fun hc1 => ?_)
  · have h := h.1 hc1
    refine T_run 3 (76, 21, [some (.ref 20), none, none, some (.int x3)], [], (DB o i0 i1 ext), (ms M 20 3 (nI 0))) rfl ?_
    exact T_ret rfl h
  · have h := h.2 hc1
    refine T_run 4 (76, 15, [some (.ref 20), none, none, some (.int x3)], [.int (nI 1), .int x3, .ref 21], (DB o i0 i1 ext), M) rfl ?_
    refine T_gd (x3 < 0 ∨ 16 ≤ x3.toNatClampNeg) (76, 16, [some (.ref 20), none, none, some (.int x3)], [], (DB o i0 i1 ext), (ms M 21 x3.toNatClampNeg (nI 1))) rfl h.1 ?_
    have h := h.2
    refine T_run 2 (76, 8, [some (.ref 20), none, none, some (.int (x3 + (nI 1)))], [], (DB o i0 i1 ext), (ms M 21 x3.toNatClampNeg (nI 1))) rfl ?_
    exact h
set_option maxRecDepth 100000 in
theorem b_X5_places_0 {d : Nat} {Q : ARs → Prop} {o i0 i1 : Option Nat} {ext : ADd} {M : AMm}  (h : Q (some (.int ((M 20 0) * (M 20 1))), (DB o i0 i1 ext), M)) : T d Q (ent 77 [.ref 20] (DB o i0 i1 ext) M) := by
  refine T_run 5 (77, 5, [some (.ref 20)], [.int ((M 20 0) * (M 20 1))], (DB o i0 i1 ext), M) rfl ?_
  exact T_ret rfl h
set_option maxRecDepth 100000 in
theorem b_X5_isPlace_0 {d : Nat} {Q : ARs → Prop} {o i0 i1 : Option Nat} {ext : ADd} {M : AMm} (x1 : Int32) (h : CI d 77 [.ref 20] (DB o i0 i1 ext) M (DB o i0 i1 ext) (fun v2 M1 => CI d 74 [.long x1.toInt64, .long (lN 0), .long ((v2 - (nI 1)).toInt64)] (DB o i0 i1 ext) M1 (DB o i0 i1 ext) (fun v4 M3 => (v4 = 0 ∨ v4 = 1) ∧ Q (some (.int v4), (DB o i0 i1 ext), M3)))) : T (d + 1) Q (ent 78 [.ref 20, .int x1] (DB o i0 i1 ext) M) := by
  refine T_run 4 (78, 4, [some (.ref 20), some (.int x1)], [.ref 20, .long (lN 0), .long x1.toInt64], (DB o i0 i1 ext), M) rfl ?_
  refine T_callI (D' := (DB o i0 i1 ext)) rfl (CI_mono h (fun v2 M1 h => ?_))
  refine T_run 3 (78, 8, [some (.ref 20), some (.int x1)], [.long ((v2 - (nI 1)).toInt64), .long (lN 0), .long x1.toInt64], (DB o i0 i1 ext), M1) rfl ?_
  refine T_callI (D' := (DB o i0 i1 ext)) rfl (CI_mono h (fun v4 M3 h => ?_))
  exact T_rg ((1 : Nat) = 0 ∨ v4 = 0 ∨ v4 = 1) (some (.int v4), (DB o i0 i1 ext), M3) rfl (Or.inr h.1) h.2
set_option maxRecDepth 100000 in
theorem b_X5_field_0 {d : Nat} {Q : ARs → Prop} {o i0 i1 : Option Nat} {ext : ADd} {M : AMm} (x1 : Int32) (x2 : Int32) (h : CI d 74 [.long x1.toInt64, .long (lN 1), .long (lN 5)] (DB o i0 i1 ext) M (DB o i0 i1 ext) (fun v2 M1 => (v2 = 0 → Q (some (.int (-(nI 2))), (DB o i0 i1 ext), M1)) ∧ (¬ v2 = 0 → CI d 74 [.long x2.toInt64, .long (lN 1), .long (lN 5)] (DB o i0 i1 ext) M1 (DB o i0 i1 ext) (fun v5 M4 => (v5 = 0 → Q (some (.int (-(nI 2))), (DB o i0 i1 ext), M4)) ∧ (¬ v5 = 0 → ((x1 * x2) ≤ (nI 16) → CV d 76 [.ref 20, .int x1, .int x2] (DB o i0 i1 ext) M4 (DB o i0 i1 ext) (fun M8 => CI d 77 [.ref 20] (DB o i0 i1 ext) M8 (DB o i0 i1 ext) (fun v10 M9 => Q (some (.int v10), (DB o i0 i1 ext), M9)))) ∧ (¬ (x1 * x2) ≤ (nI 16) → Q (some (.int (-(nI 2))), (DB o i0 i1 ext), M4))))))) : T (d + 1) Q (ent 79 [.ref 20, .int x1, .int x2] (DB o i0 i1 ext) M) := by
  refine T_run 4 (79, 4, [some (.ref 20), some (.int x1), some (.int x2)], [.long (lN 5), .long (lN 1), .long x1.toInt64], (DB o i0 i1 ext), M) rfl ?_
  refine T_callI (D' := (DB o i0 i1 ext)) rfl (CI_mono h (fun v2 M1 h => ?_))
  refine T_br (v2 = 0) (79, 17, [some (.ref 20), some (.int x1), some (.int x2)], [], (DB o i0 i1 ext), M1) (79, 6, [some (.ref 20), some (.int x1), some (.int x2)], [], (DB o i0 i1 ext), M1) rfl (fun hc3 => ?_) (fun hc3 => ?_)
  · have h := h.1 hc3
    refine T_run 1 (79, 18, [some (.ref 20), some (.int x1), some (.int x2)], [.int (-(nI 2))], (DB o i0 i1 ext), M1) rfl ?_
    exact T_ret rfl h
  · have h := h.2 hc3
    refine T_run 4 (79, 10, [some (.ref 20), some (.int x1), some (.int x2)], [.long (lN 5), .long (lN 1), .long x2.toInt64], (DB o i0 i1 ext), M1) rfl ?_
    refine T_callI (D' := (DB o i0 i1 ext)) rfl (CI_mono h (fun v5 M4 h => ?_))
    refine T_br (v5 = 0) (79, 17, [some (.ref 20), some (.int x1), some (.int x2)], [], (DB o i0 i1 ext), M4) (79, 12, [some (.ref 20), some (.int x1), some (.int x2)], [], (DB o i0 i1 ext), M4) rfl (fun hc6 => ?_) (fun hc6 => ?_)
    · have h := h.1 hc6
      refine T_run 1 (79, 18, [some (.ref 20), some (.int x1), some (.int x2)], [.int (-(nI 2))], (DB o i0 i1 ext), M4) rfl ?_
      exact T_ret rfl h
    · have h := h.2 hc6
      refine T_run 4 (79, 16, [some (.ref 20), some (.int x1), some (.int x2)], [.int (nI 16), .int (x1 * x2)], (DB o i0 i1 ext), M4) rfl ?_
      refine T_br ((x1 * x2) ≤ (nI 16)) (79, 19, [some (.ref 20), some (.int x1), some (.int x2)], [], (DB o i0 i1 ext), M4) (79, 17, [some (.ref 20), some (.int x1), some (.int x2)], [], (DB o i0 i1 ext), M4) rfl (fun hc7 => ?_) (fun hc7 => ?_)
      · have h := h.1 hc7
        refine T_run 3 (79, 22, [some (.ref 20), some (.int x1), some (.int x2)], [.int x2, .int x1, .ref 20], (DB o i0 i1 ext), M4) rfl ?_
        refine T_callV (D' := (DB o i0 i1 ext)) rfl (CV_mono h (fun M8 h => ?_))
        refine T_run 1 (79, 24, [some (.ref 20), some (.int x1), some (.int x2)], [.ref 20], (DB o i0 i1 ext), M8) rfl ?_
        refine T_callI (D' := (DB o i0 i1 ext)) rfl (CI_mono h (fun v10 M9 h => ?_))
        exact T_ret rfl h
      · have h := h.2 hc7
        refine T_run 1 (79, 18, [some (.ref 20), some (.int x1), some (.int x2)], [.int (-(nI 2))], (DB o i0 i1 ext), M4) rfl ?_
        exact T_ret rfl h
set_option maxRecDepth 100000 in
theorem b_X5_say_0 {d : Nat} {Q : ARs → Prop} {o i0 i1 : Option Nat} {ext : ADd} {M : AMm} (x1 : Int32) (h : CI d 74 [.long x1.toInt64, .long (lN 33), .long (lN 126)] (DB o i0 i1 ext) M (DB o i0 i1 ext) (fun v2 M1 => (v2 = 0 → Q (some (.int (-(nI 2))), (DB o i0 i1 ext), M1)) ∧ (¬ v2 = 0 → ((M1 20 6) = (nI 40) → Q (some (.int (-(nI 4))), (DB o i0 i1 ext), M1)) ∧ (¬ (M1 20 6) = (nI 40) → (vp_in (M1 20 6) 40) ∧ (Q (some (.int ((M1 20 6) + (nI 1))), (DB o i0 i1 ext), (ms (ms M1 22 ((M1 20 6).toNatClampNeg) x1) 20 6 ((M1 20 6) + (nI 1))))))))) : T (d + 1) Q (ent 80 [.ref 20, .int x1] (DB o i0 i1 ext) M) := by
  refine T_run 4 (80, 4, [some (.ref 20), some (.int x1)], [.long (lN 126), .long (lN 33), .long x1.toInt64], (DB o i0 i1 ext), M) rfl ?_
  refine T_callI (D' := (DB o i0 i1 ext)) rfl (CI_mono h (fun v2 M1 h => ?_))
  refine T_br (v2 = 0) (80, 6, [some (.ref 20), some (.int x1)], [], (DB o i0 i1 ext), M1) (80, 8, [some (.ref 20), some (.int x1)], [], (DB o i0 i1 ext), M1) rfl (fun hc3 => ?_) (fun hc3 => ?_)
  · have h := h.1 hc3
    refine T_run 1 (80, 7, [some (.ref 20), some (.int x1)], [.int (-(nI 2))], (DB o i0 i1 ext), M1) rfl ?_
    exact T_ret rfl h
  · have h := h.2 hc3
    refine T_run 3 (80, 11, [some (.ref 20), some (.int x1)], [.int (nI 40), .int (M1 20 6)], (DB o i0 i1 ext), M1) rfl ?_
    refine T_br ((M1 20 6) = (nI 40)) (80, 12, [some (.ref 20), some (.int x1)], [], (DB o i0 i1 ext), M1) (80, 14, [some (.ref 20), some (.int x1)], [], (DB o i0 i1 ext), M1) rfl (fun hc4 => ?_) (fun hc4 => ?_)
    · have h := h.1 hc4
      refine T_run 1 (80, 13, [some (.ref 20), some (.int x1)], [.int (-(nI 4))], (DB o i0 i1 ext), M1) rfl ?_
      exact T_ret rfl h
    · have h := h.2 hc4
      refine T_run 5 (80, 19, [some (.ref 20), some (.int x1)], [.int x1, .int (M1 20 6), .ref 22], (DB o i0 i1 ext), M1) rfl ?_
      refine T_gd ((M1 20 6) < 0 ∨ 40 ≤ (M1 20 6).toNatClampNeg) (80, 20, [some (.ref 20), some (.int x1)], [], (DB o i0 i1 ext), (ms M1 22 ((M1 20 6).toNatClampNeg) x1)) rfl h.1 ?_
      have h := h.2
      refine T_run 8 (80, 28, [some (.ref 20), some (.int x1)], [.int ((M1 20 6) + (nI 1))], (DB o i0 i1 ext), (ms (ms M1 22 ((M1 20 6).toNatClampNeg) x1) 20 6 ((M1 20 6) + (nI 1)))) rfl ?_
      exact T_ret rfl h
set_option maxRecDepth 100000 in
theorem b_X5_wipe_0 {d : Nat} {Q : ARs → Prop} {o i0 i1 : Option Nat} {ext : ADd} {M : AMm}  (h : Q (some (.int (M 20 6)), (DB o i0 i1 ext), (ms M 20 6 (nI 0)))) : T d Q (ent 81 [.ref 20] (DB o i0 i1 ext) M) := by
  refine T_run 7 (81, 7, [some (.ref 20), some (.int (M 20 6))], [.int (M 20 6)], (DB o i0 i1 ext), (ms M 20 6 (nI 0))) rfl ?_
  exact T_ret rfl h
set_option maxRecDepth 100000 in
theorem b_X5_faultOfField_0 {d : Nat} {Q : ARs → Prop} {o i0 i1 : Option Nat} {ext : ADd} {M : AMm}  (h : T d Q (82, 2, [some (.ref 20), some (.int (nI 0))], [], (DB o i0 i1 ext), M)) : T d Q (ent 82 [.ref 20] (DB o i0 i1 ext) M) := by
  refine T_run 2 (82, 2, [some (.ref 20), some (.int (nI 0))], [], (DB o i0 i1 ext), M) rfl ?_
  exact h
set_option maxRecDepth 100000 in
theorem b_X5_faultOfField_2 {d : Nat} {Q : ARs → Prop} {o i0 i1 : Option Nat} {ext : ADd} {M : AMm} (x1 : Int32) (h : ((M 20 6) ≤ x1 → CI d 77 [.ref 20] (DB o i0 i1 ext) M (DB o i0 i1 ext) (fun v3 M2 => (v3 ≤ (M 20 6) → Q (some (.int (-(nI 6))), (DB o i0 i1 ext), M2)) ∧ (¬ v3 ≤ (M 20 6) → Q (some (.int (M2 20 6)), (DB o i0 i1 ext), M2)))) ∧ (¬ (M 20 6) ≤ x1 → CI d 77 [.ref 20] (DB o i0 i1 ext) M (DB o i0 i1 ext) (fun v6 M5 => (x1 = v6 → Q (some (.int x1), (DB o i0 i1 ext), M5)) ∧ (¬ x1 = v6 → (vp_in x1 40) ∧ (((M5 22 x1.toNatClampNeg) = (nI 35) → T (d + 1) Q (82, 2, [some (.ref 20), some (.int (x1 + (nI 1)))], [], (DB o i0 i1 ext), M5)) ∧ (¬ (M5 22 x1.toNatClampNeg) = (nI 35) → (vp_in x1 40) ∧ (CI d 74 [.long ((M5 22 x1.toNatClampNeg).toInt64), .long (lN 48), .long (lN 57)] (DB o i0 i1 ext) M5 (DB o i0 i1 ext) (fun v10 M9 => (v10 = 0 → Q (some (.int x1), (DB o i0 i1 ext), M9)) ∧ (¬ v10 = 0 → T (d + 1) Q (82, 2, [some (.ref 20), some (.int (x1 + (nI 1)))], [], (DB o i0 i1 ext), M9)))))))))) : T (d + 1) Q (82, 2, [some (.ref 20), some (.int x1)], [], (DB o i0 i1 ext), M) := by
  refine T_run 3 (82, 5, [some (.ref 20), some (.int x1)], [.int (M 20 6), .int x1], (DB o i0 i1 ext), M) rfl ?_
  refine T_br ((M 20 6) ≤ x1) (82, 29, [some (.ref 20), some (.int x1)], [], (DB o i0 i1 ext), M) (82, 6, [some (.ref 20), some (.int x1)], [], (DB o i0 i1 ext), M) rfl (fun hc1 => ?_) (fun hc1 => ?_)
  · have h := h.1 hc1
    refine T_run 3 (82, 32, [some (.ref 20), some (.int x1)], [.ref 20, .int (M 20 6)], (DB o i0 i1 ext), M) rfl ?_
    refine T_callI (D' := (DB o i0 i1 ext)) rfl (CI_mono h (fun v3 M2 h => ?_))
    refine T_br (v3 ≤ (M 20 6)) (82, 37, [some (.ref 20), some (.int x1)], [], (DB o i0 i1 ext), M2) (82, 34, [some (.ref 20), some (.int x1)], [], (DB o i0 i1 ext), M2) rfl (fun hc4 => ?_) (fun hc4 => ?_)
    · have h := h.1 hc4
      refine T_run 1 (82, 38, [some (.ref 20), some (.int x1)], [.int (-(nI 6))], (DB o i0 i1 ext), M2) rfl ?_
      exact T_ret rfl h
    · have h := h.2 hc4
      refine T_run 3 (82, 38, [some (.ref 20), some (.int x1)], [.int (M2 20 6)], (DB o i0 i1 ext), M2) rfl ?_
      exact T_ret rfl h
  · have h := h.2 hc1
    refine T_run 2 (82, 8, [some (.ref 20), some (.int x1)], [.ref 20, .int x1], (DB o i0 i1 ext), M) rfl ?_
    refine T_callI (D' := (DB o i0 i1 ext)) rfl (CI_mono h (fun v6 M5 h => ?_))
    refine T_br (x1 = v6) (82, 25, [some (.ref 20), some (.int x1)], [], (DB o i0 i1 ext), M5) (82, 10, [some (.ref 20), some (.int x1)], [], (DB o i0 i1 ext), M5) rfl (fun hc7 => ?_) (fun hc7 => ?_)
    · have h := h.1 hc7
      refine T_run 1 (82, 26, [some (.ref 20), some (.int x1)], [.int x1], (DB o i0 i1 ext), M5) rfl ?_
      exact T_ret rfl h
    · have h := h.2 hc7
      refine T_run 3 (82, 13, [some (.ref 20), some (.int x1)], [.int x1, .ref 22], (DB o i0 i1 ext), M5) rfl ?_
      refine T_gd (x1 < 0 ∨ 40 ≤ x1.toNatClampNeg) (82, 14, [some (.ref 20), some (.int x1)], [.int (M5 22 x1.toNatClampNeg)], (DB o i0 i1 ext), M5) rfl h.1 ?_
      have h := h.2
      refine T_run 1 (82, 15, [some (.ref 20), some (.int x1)], [.int (nI 35), .int (M5 22 x1.toNatClampNeg)], (DB o i0 i1 ext), M5) rfl ?_
      refine T_br ((M5 22 x1.toNatClampNeg) = (nI 35)) (82, 27, [some (.ref 20), some (.int x1)], [], (DB o i0 i1 ext), M5) (82, 16, [some (.ref 20), some (.int x1)], [], (DB o i0 i1 ext), M5) rfl (fun hc8 => ?_) (fun hc8 => ?_)
      · have h := h.1 hc8
        refine T_run 2 (82, 2, [some (.ref 20), some (.int (x1 + (nI 1)))], [], (DB o i0 i1 ext), M5) rfl ?_
        exact h
      · have h := h.2 hc8
        refine T_run 3 (82, 19, [some (.ref 20), some (.int x1)], [.int x1, .ref 22], (DB o i0 i1 ext), M5) rfl ?_
        refine T_gd (x1 < 0 ∨ 40 ≤ x1.toNatClampNeg) (82, 20, [some (.ref 20), some (.int x1)], [.int (M5 22 x1.toNatClampNeg)], (DB o i0 i1 ext), M5) rfl h.1 ?_
        have h := h.2
        refine T_run 3 (82, 23, [some (.ref 20), some (.int x1)], [.long (lN 57), .long (lN 48), .long ((M5 22 x1.toNatClampNeg).toInt64)], (DB o i0 i1 ext), M5) rfl ?_
        refine T_callI (D' := (DB o i0 i1 ext)) rfl (CI_mono h (fun v10 M9 h => ?_))
        refine T_br (v10 = 0) (82, 25, [some (.ref 20), some (.int x1)], [], (DB o i0 i1 ext), M9) (82, 27, [some (.ref 20), some (.int x1)], [], (DB o i0 i1 ext), M9) rfl (fun hc11 => ?_) (fun hc11 => ?_)
        · have h := h.1 hc11
          refine T_run 1 (82, 26, [some (.ref 20), some (.int x1)], [.int x1], (DB o i0 i1 ext), M9) rfl ?_
          exact T_ret rfl h
        · have h := h.2 hc11
          refine T_run 2 (82, 2, [some (.ref 20), some (.int (x1 + (nI 1)))], [], (DB o i0 i1 ext), M9) rfl ?_
          exact h
set_option maxRecDepth 100000 in
theorem b_X5_wayOf_0 {d : Nat} {Q : ARs → Prop} {o i0 i1 : Option Nat} {ext : ADd} {M : AMm} (x0 : Int32) (h : (x0 = (nI 110) → Q (some (.int (nI 0)), (DB o i0 i1 ext), M)) ∧ (¬ x0 = (nI 110) → (x0 = (nI 101) → Q (some (.int (nI 1)), (DB o i0 i1 ext), M)) ∧ (¬ x0 = (nI 101) → (x0 = (nI 115) → Q (some (.int (nI 2)), (DB o i0 i1 ext), M)) ∧ (¬ x0 = (nI 115) → (x0 = (nI 119) → Q (some (.int (nI 3)), (DB o i0 i1 ext), M)) ∧ (¬ x0 = (nI 119) → Q (some (.int (-(nI 6))), (DB o i0 i1 ext), M)))))) : T d Q (ent 83 [.int x0] (DB o i0 i1 ext) M) := by
  refine T_run 2 (83, 2, [some (.int x0)], [.int (nI 110), .int x0], (DB o i0 i1 ext), M) rfl ?_
  refine T_br (x0 = (nI 110)) (83, 3, [some (.int x0)], [], (DB o i0 i1 ext), M) (83, 5, [some (.int x0)], [], (DB o i0 i1 ext), M) rfl (fun hc1 => ?_) (fun hc1 => ?_)
  · have h := h.1 hc1
    refine T_run 2 (83, 21, [some (.int x0)], [.int (nI 0)], (DB o i0 i1 ext), M) rfl ?_
    exact T_ret rfl h
  · have h := h.2 hc1
    refine T_run 2 (83, 7, [some (.int x0)], [.int (nI 101), .int x0], (DB o i0 i1 ext), M) rfl ?_
    refine T_br (x0 = (nI 101)) (83, 8, [some (.int x0)], [], (DB o i0 i1 ext), M) (83, 10, [some (.int x0)], [], (DB o i0 i1 ext), M) rfl (fun hc2 => ?_) (fun hc2 => ?_)
    · have h := h.1 hc2
      refine T_run 2 (83, 21, [some (.int x0)], [.int (nI 1)], (DB o i0 i1 ext), M) rfl ?_
      exact T_ret rfl h
    · have h := h.2 hc2
      refine T_run 2 (83, 12, [some (.int x0)], [.int (nI 115), .int x0], (DB o i0 i1 ext), M) rfl ?_
      refine T_br (x0 = (nI 115)) (83, 13, [some (.int x0)], [], (DB o i0 i1 ext), M) (83, 15, [some (.int x0)], [], (DB o i0 i1 ext), M) rfl (fun hc3 => ?_) (fun hc3 => ?_)
      · have h := h.1 hc3
        refine T_run 2 (83, 21, [some (.int x0)], [.int (nI 2)], (DB o i0 i1 ext), M) rfl ?_
        exact T_ret rfl h
      · have h := h.2 hc3
        refine T_run 2 (83, 17, [some (.int x0)], [.int (nI 119), .int x0], (DB o i0 i1 ext), M) rfl ?_
        refine T_br (x0 = (nI 119)) (83, 18, [some (.int x0)], [], (DB o i0 i1 ext), M) (83, 20, [some (.int x0)], [], (DB o i0 i1 ext), M) rfl (fun hc4 => ?_) (fun hc4 => ?_)
        · have h := h.1 hc4
          refine T_run 2 (83, 21, [some (.int x0)], [.int (nI 3)], (DB o i0 i1 ext), M) rfl ?_
          exact T_ret rfl h
        · have h := h.2 hc4
          refine T_run 1 (83, 21, [some (.int x0)], [.int (-(nI 6))], (DB o i0 i1 ext), M) rfl ?_
          exact T_ret rfl h
set_option maxRecDepth 100000 in
theorem b_X5_signOf_0 {d : Nat} {Q : ARs → Prop} {o i0 i1 : Option Nat} {ext : ADd} {M : AMm} (x0 : Int32) (h : (x0 = 0 → Q (some (.int (nI 110)), (DB o i0 i1 ext), M)) ∧ (¬ x0 = 0 → (x0 = (nI 1) → Q (some (.int (nI 101)), (DB o i0 i1 ext), M)) ∧ (¬ x0 = (nI 1) → (x0 = (nI 2) → Q (some (.int (nI 115)), (DB o i0 i1 ext), M)) ∧ (¬ x0 = (nI 2) → Q (some (.int (nI 119)), (DB o i0 i1 ext), M))))) : T d Q (ent 84 [.int x0] (DB o i0 i1 ext) M) := by
  refine T_run 1 (84, 1, [some (.int x0)], [.int x0], (DB o i0 i1 ext), M) rfl ?_
  refine T_br (x0 = 0) (84, 2, [some (.int x0)], [], (DB o i0 i1 ext), M) (84, 4, [some (.int x0)], [], (DB o i0 i1 ext), M) rfl (fun hc1 => ?_) (fun hc1 => ?_)
  · have h := h.1 hc1
    refine T_run 2 (84, 15, [some (.int x0)], [.int (nI 110)], (DB o i0 i1 ext), M) rfl ?_
    exact T_ret rfl h
  · have h := h.2 hc1
    refine T_run 2 (84, 6, [some (.int x0)], [.int (nI 1), .int x0], (DB o i0 i1 ext), M) rfl ?_
    refine T_br (x0 = (nI 1)) (84, 7, [some (.int x0)], [], (DB o i0 i1 ext), M) (84, 9, [some (.int x0)], [], (DB o i0 i1 ext), M) rfl (fun hc2 => ?_) (fun hc2 => ?_)
    · have h := h.1 hc2
      refine T_run 2 (84, 15, [some (.int x0)], [.int (nI 101)], (DB o i0 i1 ext), M) rfl ?_
      exact T_ret rfl h
    · have h := h.2 hc2
      refine T_run 2 (84, 11, [some (.int x0)], [.int (nI 2), .int x0], (DB o i0 i1 ext), M) rfl ?_
      refine T_br (x0 = (nI 2)) (84, 12, [some (.int x0)], [], (DB o i0 i1 ext), M) (84, 14, [some (.int x0)], [], (DB o i0 i1 ext), M) rfl (fun hc3 => ?_) (fun hc3 => ?_)
      · have h := h.1 hc3
        refine T_run 2 (84, 15, [some (.int x0)], [.int (nI 115)], (DB o i0 i1 ext), M) rfl ?_
        exact T_ret rfl h
      · have h := h.2 hc3
        refine T_run 1 (84, 15, [some (.int x0)], [.int (nI 119)], (DB o i0 i1 ext), M) rfl ?_
        exact T_ret rfl h
set_option maxRecDepth 100000 in
theorem b_X5_faultOfWay_0 {d : Nat} {Q : ARs → Prop} {o i0 i1 : Option Nat} {ext : ADd} {M : AMm}  (h : T d Q (85, 2, [some (.ref 20), some (.int (nI 0))], [], (DB o i0 i1 ext), M)) : T d Q (ent 85 [.ref 20] (DB o i0 i1 ext) M) := by
  refine T_run 2 (85, 2, [some (.ref 20), some (.int (nI 0))], [], (DB o i0 i1 ext), M) rfl ?_
  exact h
set_option maxRecDepth 100000 in
theorem b_X5_faultOfWay_2 {d : Nat} {Q : ARs → Prop} {o i0 i1 : Option Nat} {ext : ADd} {M : AMm} (x1 : Int32) (h : ((M 20 6) ≤ x1 → Q (some (.int (-(nI 6))), (DB o i0 i1 ext), M)) ∧ (¬ (M 20 6) ≤ x1 → (vp_in x1 40) ∧ (CI d 83 [.int (M 22 x1.toNatClampNeg)] (DB o i0 i1 ext) M (DB o i0 i1 ext) (fun v3 M2 => (0 ≤ v3 → T (d + 1) Q (85, 2, [some (.ref 20), some (.int (x1 + (nI 1)))], [], (DB o i0 i1 ext), M2)) ∧ (¬ 0 ≤ v3 → Q (some (.int x1), (DB o i0 i1 ext), M2)))))) : T (d + 1) Q (85, 2, [some (.ref 20), some (.int x1)], [], (DB o i0 i1 ext), M) := by
  refine T_run 3 (85, 5, [some (.ref 20), some (.int x1)], [.int (M 20 6), .int x1], (DB o i0 i1 ext), M) rfl ?_
  refine T_br ((M 20 6) ≤ x1) (85, 16, [some (.ref 20), some (.int x1)], [], (DB o i0 i1 ext), M) (85, 6, [some (.ref 20), some (.int x1)], [], (DB o i0 i1 ext), M) rfl (fun hc1 => ?_) (fun hc1 => ?_)
  · have h := h.1 hc1
    refine T_run 1 (85, 17, [some (.ref 20), some (.int x1)], [.int (-(nI 6))], (DB o i0 i1 ext), M) rfl ?_
    exact T_ret rfl h
  · have h := h.2 hc1
    refine T_run 3 (85, 9, [some (.ref 20), some (.int x1)], [.int x1, .ref 22], (DB o i0 i1 ext), M) rfl ?_
    refine T_gd (x1 < 0 ∨ 40 ≤ x1.toNatClampNeg) (85, 10, [some (.ref 20), some (.int x1)], [.int (M 22 x1.toNatClampNeg)], (DB o i0 i1 ext), M) rfl h.1 ?_
    have h := h.2
    refine T_callI (D' := (DB o i0 i1 ext)) rfl (CI_mono h (fun v3 M2 h => ?_))
    refine T_br (0 ≤ v3) (85, 14, [some (.ref 20), some (.int x1)], [], (DB o i0 i1 ext), M2) (85, 12, [some (.ref 20), some (.int x1)], [], (DB o i0 i1 ext), M2) rfl (fun hc4 => ?_) (fun hc4 => ?_)
    · have h := h.1 hc4
      refine T_run 2 (85, 2, [some (.ref 20), some (.int (x1 + (nI 1)))], [], (DB o i0 i1 ext), M2) rfl ?_
      exact h
    · have h := h.2 hc4
      refine T_run 1 (85, 13, [some (.ref 20), some (.int x1)], [.int x1], (DB o i0 i1 ext), M2) rfl ?_
      exact T_ret rfl h
set_option maxRecDepth 100000 in
theorem b_X5_fault_0 {d : Nat} {Q : ARs → Prop} {o i0 i1 : Option Nat} {ext : ADd} {M : AMm} (x1 : Int32) (h : (x1 = 0 → CI d 82 [.ref 20] (DB o i0 i1 ext) M (DB o i0 i1 ext) (fun v3 M2 => Q (some (.int v3), (DB o i0 i1 ext), M2))) ∧ (¬ x1 = 0 → (x1 = (nI 1) → CI d 85 [.ref 20] (DB o i0 i1 ext) M (DB o i0 i1 ext) (fun v6 M5 => Q (some (.int v6), (DB o i0 i1 ext), M5))) ∧ (¬ x1 = (nI 1) → Q (some (.int (-(nI 2))), (DB o i0 i1 ext), M)))) : T (d + 1) Q (ent 86 [.ref 20, .int x1] (DB o i0 i1 ext) M) := by
  refine T_run 1 (86, 1, [some (.ref 20), some (.int x1)], [.int x1], (DB o i0 i1 ext), M) rfl ?_
  refine T_br (x1 = 0) (86, 2, [some (.ref 20), some (.int x1)], [], (DB o i0 i1 ext), M) (86, 5, [some (.ref 20), some (.int x1)], [], (DB o i0 i1 ext), M) rfl (fun hc1 => ?_) (fun hc1 => ?_)
  · have h := h.1 hc1
    refine T_run 1 (86, 3, [some (.ref 20), some (.int x1)], [.ref 20], (DB o i0 i1 ext), M) rfl ?_
    refine T_callI (D' := (DB o i0 i1 ext)) rfl (CI_mono h (fun v3 M2 h => ?_))
    refine T_run 1 (86, 12, [some (.ref 20), some (.int x1)], [.int v3], (DB o i0 i1 ext), M2) rfl ?_
    exact T_ret rfl h
  · have h := h.2 hc1
    refine T_run 2 (86, 7, [some (.ref 20), some (.int x1)], [.int (nI 1), .int x1], (DB o i0 i1 ext), M) rfl ?_
    refine T_br (x1 = (nI 1)) (86, 8, [some (.ref 20), some (.int x1)], [], (DB o i0 i1 ext), M) (86, 11, [some (.ref 20), some (.int x1)], [], (DB o i0 i1 ext), M) rfl (fun hc4 => ?_) (fun hc4 => ?_)
    · have h := h.1 hc4
      refine T_run 1 (86, 9, [some (.ref 20), some (.int x1)], [.ref 20], (DB o i0 i1 ext), M) rfl ?_
      refine T_callI (D' := (DB o i0 i1 ext)) rfl (CI_mono h (fun v6 M5 h => ?_))
      refine T_run 1 (86, 12, [some (.ref 20), some (.int x1)], [.int v6], (DB o i0 i1 ext), M5) rfl ?_
      exact T_ret rfl h
    · have h := h.2 hc4
      refine T_run 1 (86, 12, [some (.ref 20), some (.int x1)], [.int (-(nI 2))], (DB o i0 i1 ext), M) rfl ?_
      exact T_ret rfl h
set_option maxRecDepth 100000 in
theorem b_X5_open_0 {d : Nat} {Q : ARs → Prop} {o i0 i1 : Option Nat} {ext : ADd} {M : AMm}  (h : T d Q (87, 4, [some (.ref 20), some (.int (nI 0)), some (.int (nI 0))], [], (DB o i0 i1 ext), M)) : T d Q (ent 87 [.ref 20] (DB o i0 i1 ext) M) := by
  refine T_run 4 (87, 4, [some (.ref 20), some (.int (nI 0)), some (.int (nI 0))], [], (DB o i0 i1 ext), M) rfl ?_
  exact h
set_option maxRecDepth 100000 in
theorem b_X5_open_4 {d : Nat} {Q : ARs → Prop} {o i0 i1 : Option Nat} {ext : ADd} {M : AMm} (x1 : Int32) (x2 : Int32) (h : CI d 77 [.ref 20] (DB o i0 i1 ext) M (DB o i0 i1 ext) (fun v2 M1 => (v2 ≤ x2 → Q (some (.int x1), (DB o i0 i1 ext), M1)) ∧ (¬ v2 ≤ x2 → (vp_in x2 16) ∧ (((M1 21 x2.toNatClampNeg) = (-(nI 1)) → T (d + 1) Q (87, 4, [some (.ref 20), some (.int (x1 ||| (nI 0))), some (.int (x2 + (nI 1)))], [], (DB o i0 i1 ext), M1)) ∧ (¬ (M1 21 x2.toNatClampNeg) = (-(nI 1)) → T (d + 1) Q (87, 4, [some (.ref 20), some (.int (x1 ||| ((nI 1) <<< (x2 &&& 31)))), some (.int (x2 + (nI 1)))], [], (DB o i0 i1 ext), M1)))))) : T (d + 1) Q (87, 4, [some (.ref 20), some (.int x1), some (.int x2)], [], (DB o i0 i1 ext), M) := by
  refine T_run 2 (87, 6, [some (.ref 20), some (.int x1), some (.int x2)], [.ref 20, .int x2], (DB o i0 i1 ext), M) rfl ?_
  refine T_callI (D' := (DB o i0 i1 ext)) rfl (CI_mono h (fun v2 M1 h => ?_))
  refine T_br (v2 ≤ x2) (87, 24, [some (.ref 20), some (.int x1), some (.int x2)], [], (DB o i0 i1 ext), M1) (87, 8, [some (.ref 20), some (.int x1), some (.int x2)], [], (DB o i0 i1 ext), M1) rfl (fun hc3 => ?_) (fun hc3 => ?_)
  · have h := h.1 hc3
    refine T_run 1 (87, 25, [some (.ref 20), some (.int x1), some (.int x2)], [.int x1], (DB o i0 i1 ext), M1) rfl ?_
    exact T_ret rfl h
  · have h := h.2 hc3
    refine T_run 4 (87, 12, [some (.ref 20), some (.int x1), some (.int x2)], [.int x2, .ref 21, .int x1], (DB o i0 i1 ext), M1) rfl ?_
    refine T_gd (x2 < 0 ∨ 16 ≤ x2.toNatClampNeg) (87, 13, [some (.ref 20), some (.int x1), some (.int x2)], [.int (M1 21 x2.toNatClampNeg), .int x1], (DB o i0 i1 ext), M1) rfl h.1 ?_
    have h := h.2
    refine T_run 1 (87, 14, [some (.ref 20), some (.int x1), some (.int x2)], [.int (-(nI 1)), .int (M1 21 x2.toNatClampNeg), .int x1], (DB o i0 i1 ext), M1) rfl ?_
    refine T_br (_) (87, 15, [some (.ref 20), some (.int x1), some (.int x2)], [.int x1], (DB o i0 i1 ext), M1) (87, 17, [some (.ref 20), some (.int x1), some (.int x2)], [.int x1], (DB o i0 i1 ext), M1) rfl (fun hc4 => ?_) (fun hc4 => ?_)
    · have h := h.1 hc4
      refine T_run 6 (87, 4, [some (.ref 20), some (.int (x1 ||| (nI 0))), some (.int (x2 + (nI 1)))], [], (DB o i0 i1 ext), M1) rfl ?_
      exact h
    · have h := h.2 hc4
      refine T_run 7 (87, 4, [some (.ref 20), some (.int (x1 ||| ((nI 1) <<< (x2 &&& 31)))), some (.int (x2 + (nI 1)))], [], (DB o i0 i1 ext), M1) rfl ?_
      exact h
set_option maxRecDepth 100000 in
theorem b_X5_sow_0 {d : Nat} {Q : ARs → Prop} {o i0 i1 : Option Nat} {ext : ADd} {M : AMm}  (h : CI d 82 [.ref 20] (DB o i0 i1 ext) M (DB o i0 i1 ext) (fun v2 M1 => (v2 < 0 → CI d 77 [.ref 20] (DB o i0 i1 ext) M1 (DB o i0 i1 ext) (fun v5 M4 => T (d + 1) Q (88, 12, [some (.ref 20), some (.int (-(nI 6))), some (.int (v5 - (nI 1)))], [], (DB o i0 i1 ext), M4))) ∧ (¬ v2 < 0 → Q (some (.int (-(nI 5))), (DB o i0 i1 ext), M1)))) : T (d + 1) Q (ent 88 [.ref 20] (DB o i0 i1 ext) M) := by
  refine T_run 1 (88, 1, [some (.ref 20), none, none], [.ref 20], (DB o i0 i1 ext), M) rfl ?_
  refine T_callI (D' := (DB o i0 i1 ext)) rfl (CI_mono h (fun v2 M1 h => ?_))
  refine T_br (v2 < 0) (88, 5, [some (.ref 20), none, none], [], (DB o i0 i1 ext), M1) (88, 3, [some (.ref 20), none, none], [], (DB o i0 i1 ext), M1) rfl (fun hc3 => ?_) (fun hc3 => ?_)
  · have h := h.1 hc3
    refine T_run 3 (88, 8, [some (.ref 20), some (.int (-(nI 6))), none], [.ref 20], (DB o i0 i1 ext), M1) rfl ?_
    refine T_callI (D' := (DB o i0 i1 ext)) rfl (CI_mono h (fun v5 M4 h => ?_))
    refine T_run 3 (88, 12, [some (.ref 20), some (.int (-(nI 6))), some (.int (v5 - (nI 1)))], [], (DB o i0 i1 ext), M4) rfl ?_
    exact h
  · have h := h.2 hc3
    refine T_run 1 (88, 4, [some (.ref 20), none, none], [.int (-(nI 5))], (DB o i0 i1 ext), M1) rfl ?_
    exact T_ret rfl h
set_option maxRecDepth 100000 in
theorem b_X5_sow_12 {d : Nat} {Q : ARs → Prop} {o i0 i1 : Option Nat} {ext : ADd} {M : AMm} (x1 : Int32) (x2 : Int32) (h : (x2 < 0 → (0 ≤ x1 → T d Q (88, 32, [some (.ref 20), some (.int x1), some (.int (nI 0))], [], (DB o i0 i1 ext), M)) ∧ (¬ 0 ≤ x1 → Q (some (.int (-(nI 3))), (DB o i0 i1 ext), M))) ∧ (¬ x2 < 0 → (vp_in x2 40) ∧ (((M 22 x2.toNatClampNeg) = (nI 35) → T d Q (88, 12, [some (.ref 20), some (.int x1), some (.int (x2 + (-(nI 1))))], [], (DB o i0 i1 ext), M)) ∧ (¬ (M 22 x2.toNatClampNeg) = (nI 35) → T d Q (88, 12, [some (.ref 20), some (.int x2), some (.int (x2 + (-(nI 1))))], [], (DB o i0 i1 ext), M))))) : T d Q (88, 12, [some (.ref 20), some (.int x1), some (.int x2)], [], (DB o i0 i1 ext), M) := by
  refine T_run 1 (88, 13, [some (.ref 20), some (.int x1), some (.int x2)], [.int x2], (DB o i0 i1 ext), M) rfl ?_
  refine T_br (x2 < 0) (88, 26, [some (.ref 20), some (.int x1), some (.int x2)], [], (DB o i0 i1 ext), M) (88, 14, [some (.ref 20), some (.int x1), some (.int x2)], [], (DB o i0 i1 ext), M) rfl (fun hc1 => ?_) (fun hc1 => ?_)
  · have h := h.1 hc1
    refine T_run 1 (88, 27, [some (.ref 20), some (.int x1), some (.int x2)], [.int x1], (DB o i0 i1 ext), M) rfl ?_
    refine T_br (0 ≤ x1) (88, 30, [some (.ref 20), some (.int x1), some (.int x2)], [], (DB o i0 i1 ext), M) (88, 28, [some (.ref 20), some (.int x1), some (.int x2)], [], (DB o i0 i1 ext), M) rfl (fun hc2 => ?_) (fun hc2 => ?_)
    · have h := h.1 hc2
      refine T_run 2 (88, 32, [some (.ref 20), some (.int x1), some (.int (nI 0))], [], (DB o i0 i1 ext), M) rfl ?_
      exact h
    · have h := h.2 hc2
      refine T_run 1 (88, 29, [some (.ref 20), some (.int x1), some (.int x2)], [.int (-(nI 3))], (DB o i0 i1 ext), M) rfl ?_
      exact T_ret rfl h
  · have h := h.2 hc1
    refine T_run 3 (88, 17, [some (.ref 20), some (.int x1), some (.int x2)], [.int x2, .ref 22], (DB o i0 i1 ext), M) rfl ?_
    refine T_gd (x2 < 0 ∨ 40 ≤ x2.toNatClampNeg) (88, 18, [some (.ref 20), some (.int x1), some (.int x2)], [.int (M 22 x2.toNatClampNeg)], (DB o i0 i1 ext), M) rfl h.1 ?_
    have h := h.2
    refine T_run 1 (88, 19, [some (.ref 20), some (.int x1), some (.int x2)], [.int (nI 35), .int (M 22 x2.toNatClampNeg)], (DB o i0 i1 ext), M) rfl ?_
    refine T_br ((M 22 x2.toNatClampNeg) = (nI 35)) (88, 20, [some (.ref 20), some (.int x1), some (.int x2)], [], (DB o i0 i1 ext), M) (88, 22, [some (.ref 20), some (.int x1), some (.int x2)], [], (DB o i0 i1 ext), M) rfl (fun hc3 => ?_) (fun hc3 => ?_)
    · have h := h.1 hc3
      refine T_run 5 (88, 12, [some (.ref 20), some (.int x1), some (.int (x2 + (-(nI 1))))], [], (DB o i0 i1 ext), M) rfl ?_
      exact h
    · have h := h.2 hc3
      refine T_run 4 (88, 12, [some (.ref 20), some (.int x2), some (.int (x2 + (-(nI 1))))], [], (DB o i0 i1 ext), M) rfl ?_
      exact h
set_option maxRecDepth 100000 in
theorem b_X5_sow_32 {d : Nat} {Q : ARs → Prop} {o i0 i1 : Option Nat} {ext : ADd} {M : AMm} (x1 : Int32) (x2 : Int32) (h : CI d 77 [.ref 20] (DB o i0 i1 ext) M (DB o i0 i1 ext) (fun v2 M1 => (v2 ≤ x2 → CI d 87 [.ref 20] (DB o i0 i1 ext) (ms (ms M1 20 3 x1) 20 6 (nI 0)) (DB o i0 i1 ext) (fun v5 M4 => CI d 75 [.int v5] (DB o i0 i1 ext) M4 (DB o i0 i1 ext) (fun v7 M6 => Q (some (.int v7), (DB o i0 i1 ext), M6)))) ∧ (¬ v2 ≤ x2 → (vp_in x2 40) ∧ (((M1 22 x2.toNatClampNeg) = (nI 35) → (vp_in x2 16) ∧ (T (d + 1) Q (88, 32, [some (.ref 20), some (.int x1), some (.int (x2 + (nI 1)))], [], (DB o i0 i1 ext), (ms M1 21 x2.toNatClampNeg (-(nI 1)))))) ∧ (¬ (M1 22 x2.toNatClampNeg) = (nI 35) → (vp_in x2 40) ∧ ((vp_in x2 16) ∧ (T (d + 1) Q (88, 32, [some (.ref 20), some (.int x1), some (.int (x2 + (nI 1)))], [], (DB o i0 i1 ext), (ms M1 21 x2.toNatClampNeg ((M1 22 x2.toNatClampNeg) - (nI 48))))))))))) : T (d + 1) Q (88, 32, [some (.ref 20), some (.int x1), some (.int x2)], [], (DB o i0 i1 ext), M) := by
  refine T_run 2 (88, 34, [some (.ref 20), some (.int x1), some (.int x2)], [.ref 20, .int x2], (DB o i0 i1 ext), M) rfl ?_
  refine T_callI (D' := (DB o i0 i1 ext)) rfl (CI_mono h (fun v2 M1 h => ?_))
  refine T_br (v2 ≤ x2) (88, 56, [some (.ref 20), some (.int x1), some (.int x2)], [], (DB o i0 i1 ext), M1) (88, 36, [some (.ref 20), some (.int x1), some (.int x2)], [], (DB o i0 i1 ext), M1) rfl (fun hc3 => ?_) (fun hc3 => ?_)
  · have h := h.1 hc3
    refine T_run 7 (88, 63, [some (.ref 20), some (.int x1), some (.int x2)], [.ref 20], (DB o i0 i1 ext), (ms (ms M1 20 3 x1) 20 6 (nI 0))) rfl ?_
    refine T_callI (D' := (DB o i0 i1 ext)) rfl (CI_mono h (fun v5 M4 h => ?_))
    refine T_callI (D' := (DB o i0 i1 ext)) rfl (CI_mono h (fun v7 M6 h => ?_))
    exact T_ret rfl h
  · have h := h.2 hc3
    refine T_run 6 (88, 42, [some (.ref 20), some (.int x1), some (.int x2)], [.int x2, .ref 22, .int x2, .ref 21], (DB o i0 i1 ext), M1) rfl ?_
    refine T_gd (x2 < 0 ∨ 40 ≤ x2.toNatClampNeg) (88, 43, [some (.ref 20), some (.int x1), some (.int x2)], [.int (M1 22 x2.toNatClampNeg), .int x2, .ref 21], (DB o i0 i1 ext), M1) rfl h.1 ?_
    have h := h.2
    refine T_run 1 (88, 44, [some (.ref 20), some (.int x1), some (.int x2)], [.int (nI 35), .int (M1 22 x2.toNatClampNeg), .int x2, .ref 21], (DB o i0 i1 ext), M1) rfl ?_
    refine T_br ((M1 22 x2.toNatClampNeg) = (nI 35)) (88, 45, [some (.ref 20), some (.int x1), some (.int x2)], [.int x2, .ref 21], (DB o i0 i1 ext), M1) (88, 47, [some (.ref 20), some (.int x1), some (.int x2)], [.int x2, .ref 21], (DB o i0 i1 ext), M1) rfl (fun hc8 => ?_) (fun hc8 => ?_)
    · have h := h.1 hc8
      refine T_run 2 (88, 53, [some (.ref 20), some (.int x1), some (.int x2)], [.int (-(nI 1)), .int x2, .ref 21], (DB o i0 i1 ext), M1) rfl ?_
      refine T_gd (x2 < 0 ∨ 16 ≤ x2.toNatClampNeg) (88, 54, [some (.ref 20), some (.int x1), some (.int x2)], [], (DB o i0 i1 ext), (ms M1 21 x2.toNatClampNeg (-(nI 1)))) rfl h.1 ?_
      have h := h.2
      refine T_run 2 (88, 32, [some (.ref 20), some (.int x1), some (.int (x2 + (nI 1)))], [], (DB o i0 i1 ext), (ms M1 21 x2.toNatClampNeg (-(nI 1)))) rfl ?_
      exact h
    · have h := h.2 hc8
      refine T_run 3 (88, 50, [some (.ref 20), some (.int x1), some (.int x2)], [.int x2, .ref 22, .int x2, .ref 21], (DB o i0 i1 ext), M1) rfl ?_
      refine T_gd (x2 < 0 ∨ 40 ≤ x2.toNatClampNeg) (88, 51, [some (.ref 20), some (.int x1), some (.int x2)], [.int (M1 22 x2.toNatClampNeg), .int x2, .ref 21], (DB o i0 i1 ext), M1) rfl h.1 ?_
      have h := h.2
      refine T_run 2 (88, 53, [some (.ref 20), some (.int x1), some (.int x2)], [.int ((M1 22 x2.toNatClampNeg) - (nI 48)), .int x2, .ref 21], (DB o i0 i1 ext), M1) rfl ?_
      refine T_gd (x2 < 0 ∨ 16 ≤ x2.toNatClampNeg) (88, 54, [some (.ref 20), some (.int x1), some (.int x2)], [], (DB o i0 i1 ext), (ms M1 21 x2.toNatClampNeg ((M1 22 x2.toNatClampNeg) - (nI 48)))) rfl h.1 ?_
      have h := h.2
      refine T_run 2 (88, 32, [some (.ref 20), some (.int x1), some (.int (x2 + (nI 1)))], [], (DB o i0 i1 ext), (ms M1 21 x2.toNatClampNeg ((M1 22 x2.toNatClampNeg) - (nI 48)))) rfl ?_
      exact h
set_option maxRecDepth 100000 in
theorem b_X5_ears_0 {d : Nat} {Q : ARs → Prop} {o i0 i1 : Option Nat} {ext : ADd} {M : AMm} (x1 : Int32) (h : CI d 78 [.ref 20, .int x1] (DB o i0 i1 ext) M (DB o i0 i1 ext) (fun v2 M1 => (v2 = 0 → Q (some (.int (-(nI 1))), (DB o i0 i1 ext), M1)) ∧ (¬ v2 = 0 → (vp_in x1 16) ∧ (((M1 21 x1.toNatClampNeg) = (-(nI 1)) → Q (some (.int (-(nI 6))), (DB o i0 i1 ext), M1)) ∧ (¬ (M1 21 x1.toNatClampNeg) = (-(nI 1)) → (vp_in x1 16) ∧ (Q (some (.int (M1 21 x1.toNatClampNeg)), (DB o i0 i1 ext), M1))))))) : T (d + 1) Q (ent 89 [.ref 20, .int x1] (DB o i0 i1 ext) M) := by
  refine T_run 2 (89, 2, [some (.ref 20), some (.int x1)], [.int x1, .ref 20], (DB o i0 i1 ext), M) rfl ?_
  refine T_callI (D' := (DB o i0 i1 ext)) rfl (CI_mono h (fun v2 M1 h => ?_))
  refine T_br (v2 = 0) (89, 4, [some (.ref 20), some (.int x1)], [], (DB o i0 i1 ext), M1) (89, 6, [some (.ref 20), some (.int x1)], [], (DB o i0 i1 ext), M1) rfl (fun hc3 => ?_) (fun hc3 => ?_)
  · have h := h.1 hc3
    refine T_run 2 (89, 18, [some (.ref 20), some (.int x1)], [.int (-(nI 1))], (DB o i0 i1 ext), M1) rfl ?_
    exact T_ret rfl h
  · have h := h.2 hc3
    refine T_run 3 (89, 9, [some (.ref 20), some (.int x1)], [.int x1, .ref 21], (DB o i0 i1 ext), M1) rfl ?_
    refine T_gd (x1 < 0 ∨ 16 ≤ x1.toNatClampNeg) (89, 10, [some (.ref 20), some (.int x1)], [.int (M1 21 x1.toNatClampNeg)], (DB o i0 i1 ext), M1) rfl h.1 ?_
    have h := h.2
    refine T_run 1 (89, 11, [some (.ref 20), some (.int x1)], [.int (-(nI 1)), .int (M1 21 x1.toNatClampNeg)], (DB o i0 i1 ext), M1) rfl ?_
    refine T_br (_) (89, 12, [some (.ref 20), some (.int x1)], [], (DB o i0 i1 ext), M1) (89, 14, [some (.ref 20), some (.int x1)], [], (DB o i0 i1 ext), M1) rfl (fun hc4 => ?_) (fun hc4 => ?_)
    · have h := h.1 hc4
      refine T_run 2 (89, 18, [some (.ref 20), some (.int x1)], [.int (-(nI 6))], (DB o i0 i1 ext), M1) rfl ?_
      exact T_ret rfl h
    · have h := h.2 hc4
      refine T_run 3 (89, 17, [some (.ref 20), some (.int x1)], [.int x1, .ref 21], (DB o i0 i1 ext), M1) rfl ?_
      refine T_gd (x1 < 0 ∨ 16 ≤ x1.toNatClampNeg) (89, 18, [some (.ref 20), some (.int x1)], [.int (M1 21 x1.toNatClampNeg)], (DB o i0 i1 ext), M1) rfl h.1 ?_
      have h := h.2
      exact T_ret rfl h
set_option maxRecDepth 100000 in
theorem b_X5_begin_0 {d : Nat} {Q : ARs → Prop} {o i0 i1 : Option Nat} {ext : ADd} {M : AMm} (x1 : Int32) (h : CI d 78 [.ref 20, .int x1] (DB o i0 i1 ext) M (DB o i0 i1 ext) (fun v2 M1 => (v2 = 0 → Q (some (.int (-(nI 1))), (DB o i0 i1 ext), M1)) ∧ (¬ v2 = 0 → (vp_in x1 16) ∧ (((M1 21 x1.toNatClampNeg) = (-(nI 1)) → Q (some (.int (-(nI 3))), (DB o i0 i1 ext), M1)) ∧ (¬ (M1 21 x1.toNatClampNeg) = (-(nI 1)) → Q (some (.int (M1 20 3)), (DB o i0 i1 ext), (ms M1 20 3 x1))))))) : T (d + 1) Q (ent 90 [.ref 20, .int x1] (DB o i0 i1 ext) M) := by
  refine T_run 2 (90, 2, [some (.ref 20), some (.int x1), none], [.int x1, .ref 20], (DB o i0 i1 ext), M) rfl ?_
  refine T_callI (D' := (DB o i0 i1 ext)) rfl (CI_mono h (fun v2 M1 h => ?_))
  refine T_br (v2 = 0) (90, 4, [some (.ref 20), some (.int x1), none], [], (DB o i0 i1 ext), M1) (90, 6, [some (.ref 20), some (.int x1), none], [], (DB o i0 i1 ext), M1) rfl (fun hc3 => ?_) (fun hc3 => ?_)
  · have h := h.1 hc3
    refine T_run 1 (90, 5, [some (.ref 20), some (.int x1), none], [.int (-(nI 1))], (DB o i0 i1 ext), M1) rfl ?_
    exact T_ret rfl h
  · have h := h.2 hc3
    refine T_run 3 (90, 9, [some (.ref 20), some (.int x1), none], [.int x1, .ref 21], (DB o i0 i1 ext), M1) rfl ?_
    refine T_gd (x1 < 0 ∨ 16 ≤ x1.toNatClampNeg) (90, 10, [some (.ref 20), some (.int x1), none], [.int (M1 21 x1.toNatClampNeg)], (DB o i0 i1 ext), M1) rfl h.1 ?_
    have h := h.2
    refine T_run 1 (90, 11, [some (.ref 20), some (.int x1), none], [.int (-(nI 1)), .int (M1 21 x1.toNatClampNeg)], (DB o i0 i1 ext), M1) rfl ?_
    refine T_br (_) (90, 12, [some (.ref 20), some (.int x1), none], [], (DB o i0 i1 ext), M1) (90, 14, [some (.ref 20), some (.int x1), none], [], (DB o i0 i1 ext), M1) rfl (fun hc4 => ?_) (fun hc4 => ?_)
    · have h := h.1 hc4
      refine T_run 1 (90, 13, [some (.ref 20), some (.int x1), none], [.int (-(nI 3))], (DB o i0 i1 ext), M1) rfl ?_
      exact T_ret rfl h
    · have h := h.2 hc4
      refine T_run 7 (90, 21, [some (.ref 20), some (.int x1), some (.int (M1 20 3))], [.int (M1 20 3)], (DB o i0 i1 ext), (ms M1 20 3 x1)) rfl ?_
      exact T_ret rfl h
set_option maxRecDepth 100000 in
theorem b_X5_spill_0 {d : Nat} {Q : ARs → Prop} {o i0 i1 : Option Nat} {ext : ADd} {M : AMm} (x1 : Int32) (h : CI d 74 [.long x1.toInt64, .long (lN 0), .long (lN 9)] (DB o i0 i1 ext) M (DB o i0 i1 ext) (fun v2 M1 => (v2 = 0 → Q (some (.int (-(nI 2))), (DB o i0 i1 ext), M1)) ∧ (¬ v2 = 0 → Q (some (.int (M1 20 4)), (DB o i0 i1 ext), (ms M1 20 4 x1))))) : T (d + 1) Q (ent 91 [.ref 20, .int x1] (DB o i0 i1 ext) M) := by
  refine T_run 4 (91, 4, [some (.ref 20), some (.int x1), none], [.long (lN 9), .long (lN 0), .long x1.toInt64], (DB o i0 i1 ext), M) rfl ?_
  refine T_callI (D' := (DB o i0 i1 ext)) rfl (CI_mono h (fun v2 M1 h => ?_))
  refine T_br (v2 = 0) (91, 6, [some (.ref 20), some (.int x1), none], [], (DB o i0 i1 ext), M1) (91, 8, [some (.ref 20), some (.int x1), none], [], (DB o i0 i1 ext), M1) rfl (fun hc3 => ?_) (fun hc3 => ?_)
  · have h := h.1 hc3
    refine T_run 1 (91, 7, [some (.ref 20), some (.int x1), none], [.int (-(nI 2))], (DB o i0 i1 ext), M1) rfl ?_
    exact T_ret rfl h
  · have h := h.2 hc3
    refine T_run 7 (91, 15, [some (.ref 20), some (.int x1), some (.int (M1 20 4))], [.int (M1 20 4)], (DB o i0 i1 ext), (ms M1 20 4 x1)) rfl ?_
    exact T_ret rfl h
set_option maxRecDepth 100000 in
theorem b_X5_beside_0 {d : Nat} {Q : ARs → Prop} {o i0 i1 : Option Nat} {ext : ADd} {M : AMm} (x1 : Int32) (x2 : Int32) (h : (¬ (M 20 1) = 0) ∧ ((x2 = 0 → (¬ (M 20 1) = 0) ∧ ((x2 = (nI 1) → CI d 74 [.long (((x1 / (M 20 1)) + (-(nI 1))).toInt64), .long (lN 0), .long (((M 20 0) - (nI 1)).toInt64)] (DB o i0 i1 ext) M (DB o i0 i1 ext) (fun v4 M3 => (v4 = 0 → Q (some (.int (-(nI 6))), (DB o i0 i1 ext), M3)) ∧ (¬ v4 = 0 → CI d 74 [.long (((x1 - x1 / (M 20 1) * (M 20 1)) + (nI 1)).toInt64), .long (lN 0), .long (((M3 20 1) - (nI 1)).toInt64)] (DB o i0 i1 ext) M3 (DB o i0 i1 ext) (fun v7 M6 => (v7 = 0 → Q (some (.int (-(nI 6))), (DB o i0 i1 ext), M6)) ∧ (¬ v7 = 0 → Q (some (.int (((M6 20 1) * ((x1 / (M 20 1)) + (-(nI 1)))) + ((x1 - x1 / (M 20 1) * (M 20 1)) + (nI 1)))), (DB o i0 i1 ext), M6)))))) ∧ (¬ x2 = (nI 1) → (x2 = (nI 3) → CI d 74 [.long (((x1 / (M 20 1)) + (-(nI 1))).toInt64), .long (lN 0), .long (((M 20 0) - (nI 1)).toInt64)] (DB o i0 i1 ext) M (DB o i0 i1 ext) (fun v11 M10 => (v11 = 0 → Q (some (.int (-(nI 6))), (DB o i0 i1 ext), M10)) ∧ (¬ v11 = 0 → CI d 74 [.long (((x1 - x1 / (M 20 1) * (M 20 1)) + (-(nI 1))).toInt64), .long (lN 0), .long (((M10 20 1) - (nI 1)).toInt64)] (DB o i0 i1 ext) M10 (DB o i0 i1 ext) (fun v14 M13 => (v14 = 0 → Q (some (.int (-(nI 6))), (DB o i0 i1 ext), M13)) ∧ (¬ v14 = 0 → Q (some (.int (((M13 20 1) * ((x1 / (M 20 1)) + (-(nI 1)))) + ((x1 - x1 / (M 20 1) * (M 20 1)) + (-(nI 1))))), (DB o i0 i1 ext), M13)))))) ∧ (¬ x2 = (nI 3) → CI d 74 [.long (((x1 / (M 20 1)) + (-(nI 1))).toInt64), .long (lN 0), .long (((M 20 0) - (nI 1)).toInt64)] (DB o i0 i1 ext) M (DB o i0 i1 ext) (fun v17 M16 => (v17 = 0 → Q (some (.int (-(nI 6))), (DB o i0 i1 ext), M16)) ∧ (¬ v17 = 0 → CI d 74 [.long (((x1 - x1 / (M 20 1) * (M 20 1)) + (nI 0)).toInt64), .long (lN 0), .long (((M16 20 1) - (nI 1)).toInt64)] (DB o i0 i1 ext) M16 (DB o i0 i1 ext) (fun v20 M19 => (v20 = 0 → Q (some (.int (-(nI 6))), (DB o i0 i1 ext), M19)) ∧ (¬ v20 = 0 → Q (some (.int (((M19 20 1) * ((x1 / (M 20 1)) + (-(nI 1)))) + ((x1 - x1 / (M 20 1) * (M 20 1)) + (nI 0)))), (DB o i0 i1 ext), M19))))))))) ∧ (¬ x2 = 0 → (x2 = (nI 2) → (¬ (M 20 1) = 0) ∧ ((x2 = (nI 1) → CI d 74 [.long (((x1 / (M 20 1)) + (nI 1)).toInt64), .long (lN 0), .long (((M 20 0) - (nI 1)).toInt64)] (DB o i0 i1 ext) M (DB o i0 i1 ext) (fun v25 M24 => (v25 = 0 → Q (some (.int (-(nI 6))), (DB o i0 i1 ext), M24)) ∧ (¬ v25 = 0 → CI d 74 [.long (((x1 - x1 / (M 20 1) * (M 20 1)) + (nI 1)).toInt64), .long (lN 0), .long (((M24 20 1) - (nI 1)).toInt64)] (DB o i0 i1 ext) M24 (DB o i0 i1 ext) (fun v28 M27 => (v28 = 0 → Q (some (.int (-(nI 6))), (DB o i0 i1 ext), M27)) ∧ (¬ v28 = 0 → Q (some (.int (((M27 20 1) * ((x1 / (M 20 1)) + (nI 1))) + ((x1 - x1 / (M 20 1) * (M 20 1)) + (nI 1)))), (DB o i0 i1 ext), M27)))))) ∧ (¬ x2 = (nI 1) → (x2 = (nI 3) → CI d 74 [.long (((x1 / (M 20 1)) + (nI 1)).toInt64), .long (lN 0), .long (((M 20 0) - (nI 1)).toInt64)] (DB o i0 i1 ext) M (DB o i0 i1 ext) (fun v32 M31 => (v32 = 0 → Q (some (.int (-(nI 6))), (DB o i0 i1 ext), M31)) ∧ (¬ v32 = 0 → CI d 74 [.long (((x1 - x1 / (M 20 1) * (M 20 1)) + (-(nI 1))).toInt64), .long (lN 0), .long (((M31 20 1) - (nI 1)).toInt64)] (DB o i0 i1 ext) M31 (DB o i0 i1 ext) (fun v35 M34 => (v35 = 0 → Q (some (.int (-(nI 6))), (DB o i0 i1 ext), M34)) ∧ (¬ v35 = 0 → Q (some (.int (((M34 20 1) * ((x1 / (M 20 1)) + (nI 1))) + ((x1 - x1 / (M 20 1) * (M 20 1)) + (-(nI 1))))), (DB o i0 i1 ext), M34)))))) ∧ (¬ x2 = (nI 3) → CI d 74 [.long (((x1 / (M 20 1)) + (nI 1)).toInt64), .long (lN 0), .long (((M 20 0) - (nI 1)).toInt64)] (DB o i0 i1 ext) M (DB o i0 i1 ext) (fun v38 M37 => (v38 = 0 → Q (some (.int (-(nI 6))), (DB o i0 i1 ext), M37)) ∧ (¬ v38 = 0 → CI d 74 [.long (((x1 - x1 / (M 20 1) * (M 20 1)) + (nI 0)).toInt64), .long (lN 0), .long (((M37 20 1) - (nI 1)).toInt64)] (DB o i0 i1 ext) M37 (DB o i0 i1 ext) (fun v41 M40 => (v41 = 0 → Q (some (.int (-(nI 6))), (DB o i0 i1 ext), M40)) ∧ (¬ v41 = 0 → Q (some (.int (((M40 20 1) * ((x1 / (M 20 1)) + (nI 1))) + ((x1 - x1 / (M 20 1) * (M 20 1)) + (nI 0)))), (DB o i0 i1 ext), M40))))))))) ∧ (¬ x2 = (nI 2) → (¬ (M 20 1) = 0) ∧ ((x2 = (nI 1) → CI d 74 [.long (((x1 / (M 20 1)) + (nI 0)).toInt64), .long (lN 0), .long (((M 20 0) - (nI 1)).toInt64)] (DB o i0 i1 ext) M (DB o i0 i1 ext) (fun v45 M44 => (v45 = 0 → Q (some (.int (-(nI 6))), (DB o i0 i1 ext), M44)) ∧ (¬ v45 = 0 → CI d 74 [.long (((x1 - x1 / (M 20 1) * (M 20 1)) + (nI 1)).toInt64), .long (lN 0), .long (((M44 20 1) - (nI 1)).toInt64)] (DB o i0 i1 ext) M44 (DB o i0 i1 ext) (fun v48 M47 => (v48 = 0 → Q (some (.int (-(nI 6))), (DB o i0 i1 ext), M47)) ∧ (¬ v48 = 0 → Q (some (.int (((M47 20 1) * ((x1 / (M 20 1)) + (nI 0))) + ((x1 - x1 / (M 20 1) * (M 20 1)) + (nI 1)))), (DB o i0 i1 ext), M47)))))) ∧ (¬ x2 = (nI 1) → (x2 = (nI 3) → CI d 74 [.long (((x1 / (M 20 1)) + (nI 0)).toInt64), .long (lN 0), .long (((M 20 0) - (nI 1)).toInt64)] (DB o i0 i1 ext) M (DB o i0 i1 ext) (fun v52 M51 => (v52 = 0 → Q (some (.int (-(nI 6))), (DB o i0 i1 ext), M51)) ∧ (¬ v52 = 0 → CI d 74 [.long (((x1 - x1 / (M 20 1) * (M 20 1)) + (-(nI 1))).toInt64), .long (lN 0), .long (((M51 20 1) - (nI 1)).toInt64)] (DB o i0 i1 ext) M51 (DB o i0 i1 ext) (fun v55 M54 => (v55 = 0 → Q (some (.int (-(nI 6))), (DB o i0 i1 ext), M54)) ∧ (¬ v55 = 0 → Q (some (.int (((M54 20 1) * ((x1 / (M 20 1)) + (nI 0))) + ((x1 - x1 / (M 20 1) * (M 20 1)) + (-(nI 1))))), (DB o i0 i1 ext), M54)))))) ∧ (¬ x2 = (nI 3) → CI d 74 [.long (((x1 / (M 20 1)) + (nI 0)).toInt64), .long (lN 0), .long (((M 20 0) - (nI 1)).toInt64)] (DB o i0 i1 ext) M (DB o i0 i1 ext) (fun v58 M57 => (v58 = 0 → Q (some (.int (-(nI 6))), (DB o i0 i1 ext), M57)) ∧ (¬ v58 = 0 → CI d 74 [.long (((x1 - x1 / (M 20 1) * (M 20 1)) + (nI 0)).toInt64), .long (lN 0), .long (((M57 20 1) - (nI 1)).toInt64)] (DB o i0 i1 ext) M57 (DB o i0 i1 ext) (fun v61 M60 => (v61 = 0 → Q (some (.int (-(nI 6))), (DB o i0 i1 ext), M60)) ∧ (¬ v61 = 0 → Q (some (.int (((M60 20 1) * ((x1 / (M 20 1)) + (nI 0))) + ((x1 - x1 / (M 20 1) * (M 20 1)) + (nI 0)))), (DB o i0 i1 ext), M60)))))))))))) : T (d + 1) Q (ent 92 [.ref 20, .int x1, .int x2] (DB o i0 i1 ext) M) := by
  refine T_run 3 (92, 3, [some (.ref 20), some (.int x1), some (.int x2), none, none], [.int (M 20 1), .int x1], (DB o i0 i1 ext), M) rfl ?_
  refine T_gd ((M 20 1) = 0) (92, 4, [some (.ref 20), some (.int x1), some (.int x2), none, none], [.int (x1 / (M 20 1))], (DB o i0 i1 ext), M) rfl h.1 ?_
  have h := h.2
  refine T_run 1 (92, 5, [some (.ref 20), some (.int x1), some (.int x2), none, none], [.int x2, .int (x1 / (M 20 1))], (DB o i0 i1 ext), M) rfl ?_
  refine T_br (x2 = 0) (92, 6, [some (.ref 20), some (.int x1), some (.int x2), none, none], [.int (x1 / (M 20 1))], (DB o i0 i1 ext), M) (92, 8, [some (.ref 20), some (.int x1), some (.int x2), none, none], [.int (x1 / (M 20 1))], (DB o i0 i1 ext), M) rfl (fun hc1 => ?_) (fun hc1 => ?_)
  · have h := h.1 hc1
    refine T_run 7 (92, 19, [some (.ref 20), some (.int x1), some (.int x2), some (.int ((x1 / (M 20 1)) + (-(nI 1)))), none], [.int (M 20 1), .int x1], (DB o i0 i1 ext), M) rfl ?_
    refine T_gd ((M 20 1) = 0) (92, 20, [some (.ref 20), some (.int x1), some (.int x2), some (.int ((x1 / (M 20 1)) + (-(nI 1)))), none], [.int (x1 - x1 / (M 20 1) * (M 20 1))], (DB o i0 i1 ext), M) rfl h.1 ?_
    have h := h.2
    refine T_run 2 (92, 22, [some (.ref 20), some (.int x1), some (.int x2), some (.int ((x1 / (M 20 1)) + (-(nI 1)))), none], [.int (nI 1), .int x2, .int (x1 - x1 / (M 20 1) * (M 20 1))], (DB o i0 i1 ext), M) rfl ?_
    refine T_br (x2 = (nI 1)) (92, 23, [some (.ref 20), some (.int x1), some (.int x2), some (.int ((x1 / (M 20 1)) + (-(nI 1)))), none], [.int (x1 - x1 / (M 20 1) * (M 20 1))], (DB o i0 i1 ext), M) (92, 25, [some (.ref 20), some (.int x1), some (.int x2), some (.int ((x1 / (M 20 1)) + (-(nI 1)))), none], [.int (x1 - x1 / (M 20 1) * (M 20 1))], (DB o i0 i1 ext), M) rfl (fun hc2 => ?_) (fun hc2 => ?_)
    · have h := h.1 hc2
      refine T_run 12 (92, 41, [some (.ref 20), some (.int x1), some (.int x2), some (.int ((x1 / (M 20 1)) + (-(nI 1)))), some (.int ((x1 - x1 / (M 20 1) * (M 20 1)) + (nI 1)))], [.long (((M 20 0) - (nI 1)).toInt64), .long (lN 0), .long (((x1 / (M 20 1)) + (-(nI 1))).toInt64)], (DB o i0 i1 ext), M) rfl ?_
      refine T_callI (D' := (DB o i0 i1 ext)) rfl (CI_mono h (fun v4 M3 h => ?_))
      refine T_br (v4 = 0) (92, 60, [some (.ref 20), some (.int x1), some (.int x2), some (.int ((x1 / (M 20 1)) + (-(nI 1)))), some (.int ((x1 - x1 / (M 20 1) * (M 20 1)) + (nI 1)))], [], (DB o i0 i1 ext), M3) (92, 43, [some (.ref 20), some (.int x1), some (.int x2), some (.int ((x1 / (M 20 1)) + (-(nI 1)))), some (.int ((x1 - x1 / (M 20 1) * (M 20 1)) + (nI 1)))], [], (DB o i0 i1 ext), M3) rfl (fun hc5 => ?_) (fun hc5 => ?_)
      · have h := h.1 hc5
        refine T_run 1 (92, 61, [some (.ref 20), some (.int x1), some (.int x2), some (.int ((x1 / (M 20 1)) + (-(nI 1)))), some (.int ((x1 - x1 / (M 20 1) * (M 20 1)) + (nI 1)))], [.int (-(nI 6))], (DB o i0 i1 ext), M3) rfl ?_
        exact T_ret rfl h
      · have h := h.2 hc5
        refine T_run 8 (92, 51, [some (.ref 20), some (.int x1), some (.int x2), some (.int ((x1 / (M 20 1)) + (-(nI 1)))), some (.int ((x1 - x1 / (M 20 1) * (M 20 1)) + (nI 1)))], [.long (((M3 20 1) - (nI 1)).toInt64), .long (lN 0), .long (((x1 - x1 / (M 20 1) * (M 20 1)) + (nI 1)).toInt64)], (DB o i0 i1 ext), M3) rfl ?_
        refine T_callI (D' := (DB o i0 i1 ext)) rfl (CI_mono h (fun v7 M6 h => ?_))
        refine T_br (v7 = 0) (92, 60, [some (.ref 20), some (.int x1), some (.int x2), some (.int ((x1 / (M 20 1)) + (-(nI 1)))), some (.int ((x1 - x1 / (M 20 1) * (M 20 1)) + (nI 1)))], [], (DB o i0 i1 ext), M6) (92, 53, [some (.ref 20), some (.int x1), some (.int x2), some (.int ((x1 / (M 20 1)) + (-(nI 1)))), some (.int ((x1 - x1 / (M 20 1) * (M 20 1)) + (nI 1)))], [], (DB o i0 i1 ext), M6) rfl (fun hc8 => ?_) (fun hc8 => ?_)
        · have h := h.1 hc8
          refine T_run 1 (92, 61, [some (.ref 20), some (.int x1), some (.int x2), some (.int ((x1 / (M 20 1)) + (-(nI 1)))), some (.int ((x1 - x1 / (M 20 1) * (M 20 1)) + (nI 1)))], [.int (-(nI 6))], (DB o i0 i1 ext), M6) rfl ?_
          exact T_ret rfl h
        · have h := h.2 hc8
          refine T_run 7 (92, 61, [some (.ref 20), some (.int x1), some (.int x2), some (.int ((x1 / (M 20 1)) + (-(nI 1)))), some (.int ((x1 - x1 / (M 20 1) * (M 20 1)) + (nI 1)))], [.int (((M6 20 1) * ((x1 / (M 20 1)) + (-(nI 1)))) + ((x1 - x1 / (M 20 1) * (M 20 1)) + (nI 1)))], (DB o i0 i1 ext), M6) rfl ?_
          exact T_ret rfl h
    · have h := h.2 hc2
      refine T_run 2 (92, 27, [some (.ref 20), some (.int x1), some (.int x2), some (.int ((x1 / (M 20 1)) + (-(nI 1)))), none], [.int (nI 3), .int x2, .int (x1 - x1 / (M 20 1) * (M 20 1))], (DB o i0 i1 ext), M) rfl ?_
      refine T_br (x2 = (nI 3)) (92, 28, [some (.ref 20), some (.int x1), some (.int x2), some (.int ((x1 / (M 20 1)) + (-(nI 1)))), none], [.int (x1 - x1 / (M 20 1) * (M 20 1))], (DB o i0 i1 ext), M) (92, 30, [some (.ref 20), some (.int x1), some (.int x2), some (.int ((x1 / (M 20 1)) + (-(nI 1)))), none], [.int (x1 - x1 / (M 20 1) * (M 20 1))], (DB o i0 i1 ext), M) rfl (fun hc9 => ?_) (fun hc9 => ?_)
      · have h := h.1 hc9
        refine T_run 12 (92, 41, [some (.ref 20), some (.int x1), some (.int x2), some (.int ((x1 / (M 20 1)) + (-(nI 1)))), some (.int ((x1 - x1 / (M 20 1) * (M 20 1)) + (-(nI 1))))], [.long (((M 20 0) - (nI 1)).toInt64), .long (lN 0), .long (((x1 / (M 20 1)) + (-(nI 1))).toInt64)], (DB o i0 i1 ext), M) rfl ?_
        refine T_callI (D' := (DB o i0 i1 ext)) rfl (CI_mono h (fun v11 M10 h => ?_))
        refine T_br (v11 = 0) (92, 60, [some (.ref 20), some (.int x1), some (.int x2), some (.int ((x1 / (M 20 1)) + (-(nI 1)))), some (.int ((x1 - x1 / (M 20 1) * (M 20 1)) + (-(nI 1))))], [], (DB o i0 i1 ext), M10) (92, 43, [some (.ref 20), some (.int x1), some (.int x2), some (.int ((x1 / (M 20 1)) + (-(nI 1)))), some (.int ((x1 - x1 / (M 20 1) * (M 20 1)) + (-(nI 1))))], [], (DB o i0 i1 ext), M10) rfl (fun hc12 => ?_) (fun hc12 => ?_)
        · have h := h.1 hc12
          refine T_run 1 (92, 61, [some (.ref 20), some (.int x1), some (.int x2), some (.int ((x1 / (M 20 1)) + (-(nI 1)))), some (.int ((x1 - x1 / (M 20 1) * (M 20 1)) + (-(nI 1))))], [.int (-(nI 6))], (DB o i0 i1 ext), M10) rfl ?_
          exact T_ret rfl h
        · have h := h.2 hc12
          refine T_run 8 (92, 51, [some (.ref 20), some (.int x1), some (.int x2), some (.int ((x1 / (M 20 1)) + (-(nI 1)))), some (.int ((x1 - x1 / (M 20 1) * (M 20 1)) + (-(nI 1))))], [.long (((M10 20 1) - (nI 1)).toInt64), .long (lN 0), .long (((x1 - x1 / (M 20 1) * (M 20 1)) + (-(nI 1))).toInt64)], (DB o i0 i1 ext), M10) rfl ?_
          refine T_callI (D' := (DB o i0 i1 ext)) rfl (CI_mono h (fun v14 M13 h => ?_))
          refine T_br (v14 = 0) (92, 60, [some (.ref 20), some (.int x1), some (.int x2), some (.int ((x1 / (M 20 1)) + (-(nI 1)))), some (.int ((x1 - x1 / (M 20 1) * (M 20 1)) + (-(nI 1))))], [], (DB o i0 i1 ext), M13) (92, 53, [some (.ref 20), some (.int x1), some (.int x2), some (.int ((x1 / (M 20 1)) + (-(nI 1)))), some (.int ((x1 - x1 / (M 20 1) * (M 20 1)) + (-(nI 1))))], [], (DB o i0 i1 ext), M13) rfl (fun hc15 => ?_) (fun hc15 => ?_)
          · have h := h.1 hc15
            refine T_run 1 (92, 61, [some (.ref 20), some (.int x1), some (.int x2), some (.int ((x1 / (M 20 1)) + (-(nI 1)))), some (.int ((x1 - x1 / (M 20 1) * (M 20 1)) + (-(nI 1))))], [.int (-(nI 6))], (DB o i0 i1 ext), M13) rfl ?_
            exact T_ret rfl h
          · have h := h.2 hc15
            refine T_run 7 (92, 61, [some (.ref 20), some (.int x1), some (.int x2), some (.int ((x1 / (M 20 1)) + (-(nI 1)))), some (.int ((x1 - x1 / (M 20 1) * (M 20 1)) + (-(nI 1))))], [.int (((M13 20 1) * ((x1 / (M 20 1)) + (-(nI 1)))) + ((x1 - x1 / (M 20 1) * (M 20 1)) + (-(nI 1))))], (DB o i0 i1 ext), M13) rfl ?_
            exact T_ret rfl h
      · have h := h.2 hc9
        refine T_run 11 (92, 41, [some (.ref 20), some (.int x1), some (.int x2), some (.int ((x1 / (M 20 1)) + (-(nI 1)))), some (.int ((x1 - x1 / (M 20 1) * (M 20 1)) + (nI 0)))], [.long (((M 20 0) - (nI 1)).toInt64), .long (lN 0), .long (((x1 / (M 20 1)) + (-(nI 1))).toInt64)], (DB o i0 i1 ext), M) rfl ?_
        refine T_callI (D' := (DB o i0 i1 ext)) rfl (CI_mono h (fun v17 M16 h => ?_))
        refine T_br (v17 = 0) (92, 60, [some (.ref 20), some (.int x1), some (.int x2), some (.int ((x1 / (M 20 1)) + (-(nI 1)))), some (.int ((x1 - x1 / (M 20 1) * (M 20 1)) + (nI 0)))], [], (DB o i0 i1 ext), M16) (92, 43, [some (.ref 20), some (.int x1), some (.int x2), some (.int ((x1 / (M 20 1)) + (-(nI 1)))), some (.int ((x1 - x1 / (M 20 1) * (M 20 1)) + (nI 0)))], [], (DB o i0 i1 ext), M16) rfl (fun hc18 => ?_) (fun hc18 => ?_)
        · have h := h.1 hc18
          refine T_run 1 (92, 61, [some (.ref 20), some (.int x1), some (.int x2), some (.int ((x1 / (M 20 1)) + (-(nI 1)))), some (.int ((x1 - x1 / (M 20 1) * (M 20 1)) + (nI 0)))], [.int (-(nI 6))], (DB o i0 i1 ext), M16) rfl ?_
          exact T_ret rfl h
        · have h := h.2 hc18
          refine T_run 8 (92, 51, [some (.ref 20), some (.int x1), some (.int x2), some (.int ((x1 / (M 20 1)) + (-(nI 1)))), some (.int ((x1 - x1 / (M 20 1) * (M 20 1)) + (nI 0)))], [.long (((M16 20 1) - (nI 1)).toInt64), .long (lN 0), .long (((x1 - x1 / (M 20 1) * (M 20 1)) + (nI 0)).toInt64)], (DB o i0 i1 ext), M16) rfl ?_
          refine T_callI (D' := (DB o i0 i1 ext)) rfl (CI_mono h (fun v20 M19 h => ?_))
          refine T_br (v20 = 0) (92, 60, [some (.ref 20), some (.int x1), some (.int x2), some (.int ((x1 / (M 20 1)) + (-(nI 1)))), some (.int ((x1 - x1 / (M 20 1) * (M 20 1)) + (nI 0)))], [], (DB o i0 i1 ext), M19) (92, 53, [some (.ref 20), some (.int x1), some (.int x2), some (.int ((x1 / (M 20 1)) + (-(nI 1)))), some (.int ((x1 - x1 / (M 20 1) * (M 20 1)) + (nI 0)))], [], (DB o i0 i1 ext), M19) rfl (fun hc21 => ?_) (fun hc21 => ?_)
          · have h := h.1 hc21
            refine T_run 1 (92, 61, [some (.ref 20), some (.int x1), some (.int x2), some (.int ((x1 / (M 20 1)) + (-(nI 1)))), some (.int ((x1 - x1 / (M 20 1) * (M 20 1)) + (nI 0)))], [.int (-(nI 6))], (DB o i0 i1 ext), M19) rfl ?_
            exact T_ret rfl h
          · have h := h.2 hc21
            refine T_run 7 (92, 61, [some (.ref 20), some (.int x1), some (.int x2), some (.int ((x1 / (M 20 1)) + (-(nI 1)))), some (.int ((x1 - x1 / (M 20 1) * (M 20 1)) + (nI 0)))], [.int (((M19 20 1) * ((x1 / (M 20 1)) + (-(nI 1)))) + ((x1 - x1 / (M 20 1) * (M 20 1)) + (nI 0)))], (DB o i0 i1 ext), M19) rfl ?_
            exact T_ret rfl h
  · have h := h.2 hc1
    refine T_run 2 (92, 10, [some (.ref 20), some (.int x1), some (.int x2), none, none], [.int (nI 2), .int x2, .int (x1 / (M 20 1))], (DB o i0 i1 ext), M) rfl ?_
    refine T_br (x2 = (nI 2)) (92, 11, [some (.ref 20), some (.int x1), some (.int x2), none, none], [.int (x1 / (M 20 1))], (DB o i0 i1 ext), M) (92, 13, [some (.ref 20), some (.int x1), some (.int x2), none, none], [.int (x1 / (M 20 1))], (DB o i0 i1 ext), M) rfl (fun hc22 => ?_) (fun hc22 => ?_)
    · have h := h.1 hc22
      refine T_run 7 (92, 19, [some (.ref 20), some (.int x1), some (.int x2), some (.int ((x1 / (M 20 1)) + (nI 1))), none], [.int (M 20 1), .int x1], (DB o i0 i1 ext), M) rfl ?_
      refine T_gd ((M 20 1) = 0) (92, 20, [some (.ref 20), some (.int x1), some (.int x2), some (.int ((x1 / (M 20 1)) + (nI 1))), none], [.int (x1 - x1 / (M 20 1) * (M 20 1))], (DB o i0 i1 ext), M) rfl h.1 ?_
      have h := h.2
      refine T_run 2 (92, 22, [some (.ref 20), some (.int x1), some (.int x2), some (.int ((x1 / (M 20 1)) + (nI 1))), none], [.int (nI 1), .int x2, .int (x1 - x1 / (M 20 1) * (M 20 1))], (DB o i0 i1 ext), M) rfl ?_
      refine T_br (x2 = (nI 1)) (92, 23, [some (.ref 20), some (.int x1), some (.int x2), some (.int ((x1 / (M 20 1)) + (nI 1))), none], [.int (x1 - x1 / (M 20 1) * (M 20 1))], (DB o i0 i1 ext), M) (92, 25, [some (.ref 20), some (.int x1), some (.int x2), some (.int ((x1 / (M 20 1)) + (nI 1))), none], [.int (x1 - x1 / (M 20 1) * (M 20 1))], (DB o i0 i1 ext), M) rfl (fun hc23 => ?_) (fun hc23 => ?_)
      · have h := h.1 hc23
        refine T_run 12 (92, 41, [some (.ref 20), some (.int x1), some (.int x2), some (.int ((x1 / (M 20 1)) + (nI 1))), some (.int ((x1 - x1 / (M 20 1) * (M 20 1)) + (nI 1)))], [.long (((M 20 0) - (nI 1)).toInt64), .long (lN 0), .long (((x1 / (M 20 1)) + (nI 1)).toInt64)], (DB o i0 i1 ext), M) rfl ?_
        refine T_callI (D' := (DB o i0 i1 ext)) rfl (CI_mono h (fun v25 M24 h => ?_))
        refine T_br (v25 = 0) (92, 60, [some (.ref 20), some (.int x1), some (.int x2), some (.int ((x1 / (M 20 1)) + (nI 1))), some (.int ((x1 - x1 / (M 20 1) * (M 20 1)) + (nI 1)))], [], (DB o i0 i1 ext), M24) (92, 43, [some (.ref 20), some (.int x1), some (.int x2), some (.int ((x1 / (M 20 1)) + (nI 1))), some (.int ((x1 - x1 / (M 20 1) * (M 20 1)) + (nI 1)))], [], (DB o i0 i1 ext), M24) rfl (fun hc26 => ?_) (fun hc26 => ?_)
        · have h := h.1 hc26
          refine T_run 1 (92, 61, [some (.ref 20), some (.int x1), some (.int x2), some (.int ((x1 / (M 20 1)) + (nI 1))), some (.int ((x1 - x1 / (M 20 1) * (M 20 1)) + (nI 1)))], [.int (-(nI 6))], (DB o i0 i1 ext), M24) rfl ?_
          exact T_ret rfl h
        · have h := h.2 hc26
          refine T_run 8 (92, 51, [some (.ref 20), some (.int x1), some (.int x2), some (.int ((x1 / (M 20 1)) + (nI 1))), some (.int ((x1 - x1 / (M 20 1) * (M 20 1)) + (nI 1)))], [.long (((M24 20 1) - (nI 1)).toInt64), .long (lN 0), .long (((x1 - x1 / (M 20 1) * (M 20 1)) + (nI 1)).toInt64)], (DB o i0 i1 ext), M24) rfl ?_
          refine T_callI (D' := (DB o i0 i1 ext)) rfl (CI_mono h (fun v28 M27 h => ?_))
          refine T_br (v28 = 0) (92, 60, [some (.ref 20), some (.int x1), some (.int x2), some (.int ((x1 / (M 20 1)) + (nI 1))), some (.int ((x1 - x1 / (M 20 1) * (M 20 1)) + (nI 1)))], [], (DB o i0 i1 ext), M27) (92, 53, [some (.ref 20), some (.int x1), some (.int x2), some (.int ((x1 / (M 20 1)) + (nI 1))), some (.int ((x1 - x1 / (M 20 1) * (M 20 1)) + (nI 1)))], [], (DB o i0 i1 ext), M27) rfl (fun hc29 => ?_) (fun hc29 => ?_)
          · have h := h.1 hc29
            refine T_run 1 (92, 61, [some (.ref 20), some (.int x1), some (.int x2), some (.int ((x1 / (M 20 1)) + (nI 1))), some (.int ((x1 - x1 / (M 20 1) * (M 20 1)) + (nI 1)))], [.int (-(nI 6))], (DB o i0 i1 ext), M27) rfl ?_
            exact T_ret rfl h
          · have h := h.2 hc29
            refine T_run 7 (92, 61, [some (.ref 20), some (.int x1), some (.int x2), some (.int ((x1 / (M 20 1)) + (nI 1))), some (.int ((x1 - x1 / (M 20 1) * (M 20 1)) + (nI 1)))], [.int (((M27 20 1) * ((x1 / (M 20 1)) + (nI 1))) + ((x1 - x1 / (M 20 1) * (M 20 1)) + (nI 1)))], (DB o i0 i1 ext), M27) rfl ?_
            exact T_ret rfl h
      · have h := h.2 hc23
        refine T_run 2 (92, 27, [some (.ref 20), some (.int x1), some (.int x2), some (.int ((x1 / (M 20 1)) + (nI 1))), none], [.int (nI 3), .int x2, .int (x1 - x1 / (M 20 1) * (M 20 1))], (DB o i0 i1 ext), M) rfl ?_
        refine T_br (x2 = (nI 3)) (92, 28, [some (.ref 20), some (.int x1), some (.int x2), some (.int ((x1 / (M 20 1)) + (nI 1))), none], [.int (x1 - x1 / (M 20 1) * (M 20 1))], (DB o i0 i1 ext), M) (92, 30, [some (.ref 20), some (.int x1), some (.int x2), some (.int ((x1 / (M 20 1)) + (nI 1))), none], [.int (x1 - x1 / (M 20 1) * (M 20 1))], (DB o i0 i1 ext), M) rfl (fun hc30 => ?_) (fun hc30 => ?_)
        · have h := h.1 hc30
          refine T_run 12 (92, 41, [some (.ref 20), some (.int x1), some (.int x2), some (.int ((x1 / (M 20 1)) + (nI 1))), some (.int ((x1 - x1 / (M 20 1) * (M 20 1)) + (-(nI 1))))], [.long (((M 20 0) - (nI 1)).toInt64), .long (lN 0), .long (((x1 / (M 20 1)) + (nI 1)).toInt64)], (DB o i0 i1 ext), M) rfl ?_
          refine T_callI (D' := (DB o i0 i1 ext)) rfl (CI_mono h (fun v32 M31 h => ?_))
          refine T_br (v32 = 0) (92, 60, [some (.ref 20), some (.int x1), some (.int x2), some (.int ((x1 / (M 20 1)) + (nI 1))), some (.int ((x1 - x1 / (M 20 1) * (M 20 1)) + (-(nI 1))))], [], (DB o i0 i1 ext), M31) (92, 43, [some (.ref 20), some (.int x1), some (.int x2), some (.int ((x1 / (M 20 1)) + (nI 1))), some (.int ((x1 - x1 / (M 20 1) * (M 20 1)) + (-(nI 1))))], [], (DB o i0 i1 ext), M31) rfl (fun hc33 => ?_) (fun hc33 => ?_)
          · have h := h.1 hc33
            refine T_run 1 (92, 61, [some (.ref 20), some (.int x1), some (.int x2), some (.int ((x1 / (M 20 1)) + (nI 1))), some (.int ((x1 - x1 / (M 20 1) * (M 20 1)) + (-(nI 1))))], [.int (-(nI 6))], (DB o i0 i1 ext), M31) rfl ?_
            exact T_ret rfl h
          · have h := h.2 hc33
            refine T_run 8 (92, 51, [some (.ref 20), some (.int x1), some (.int x2), some (.int ((x1 / (M 20 1)) + (nI 1))), some (.int ((x1 - x1 / (M 20 1) * (M 20 1)) + (-(nI 1))))], [.long (((M31 20 1) - (nI 1)).toInt64), .long (lN 0), .long (((x1 - x1 / (M 20 1) * (M 20 1)) + (-(nI 1))).toInt64)], (DB o i0 i1 ext), M31) rfl ?_
            refine T_callI (D' := (DB o i0 i1 ext)) rfl (CI_mono h (fun v35 M34 h => ?_))
            refine T_br (v35 = 0) (92, 60, [some (.ref 20), some (.int x1), some (.int x2), some (.int ((x1 / (M 20 1)) + (nI 1))), some (.int ((x1 - x1 / (M 20 1) * (M 20 1)) + (-(nI 1))))], [], (DB o i0 i1 ext), M34) (92, 53, [some (.ref 20), some (.int x1), some (.int x2), some (.int ((x1 / (M 20 1)) + (nI 1))), some (.int ((x1 - x1 / (M 20 1) * (M 20 1)) + (-(nI 1))))], [], (DB o i0 i1 ext), M34) rfl (fun hc36 => ?_) (fun hc36 => ?_)
            · have h := h.1 hc36
              refine T_run 1 (92, 61, [some (.ref 20), some (.int x1), some (.int x2), some (.int ((x1 / (M 20 1)) + (nI 1))), some (.int ((x1 - x1 / (M 20 1) * (M 20 1)) + (-(nI 1))))], [.int (-(nI 6))], (DB o i0 i1 ext), M34) rfl ?_
              exact T_ret rfl h
            · have h := h.2 hc36
              refine T_run 7 (92, 61, [some (.ref 20), some (.int x1), some (.int x2), some (.int ((x1 / (M 20 1)) + (nI 1))), some (.int ((x1 - x1 / (M 20 1) * (M 20 1)) + (-(nI 1))))], [.int (((M34 20 1) * ((x1 / (M 20 1)) + (nI 1))) + ((x1 - x1 / (M 20 1) * (M 20 1)) + (-(nI 1))))], (DB o i0 i1 ext), M34) rfl ?_
              exact T_ret rfl h
        · have h := h.2 hc30
          refine T_run 11 (92, 41, [some (.ref 20), some (.int x1), some (.int x2), some (.int ((x1 / (M 20 1)) + (nI 1))), some (.int ((x1 - x1 / (M 20 1) * (M 20 1)) + (nI 0)))], [.long (((M 20 0) - (nI 1)).toInt64), .long (lN 0), .long (((x1 / (M 20 1)) + (nI 1)).toInt64)], (DB o i0 i1 ext), M) rfl ?_
          refine T_callI (D' := (DB o i0 i1 ext)) rfl (CI_mono h (fun v38 M37 h => ?_))
          refine T_br (v38 = 0) (92, 60, [some (.ref 20), some (.int x1), some (.int x2), some (.int ((x1 / (M 20 1)) + (nI 1))), some (.int ((x1 - x1 / (M 20 1) * (M 20 1)) + (nI 0)))], [], (DB o i0 i1 ext), M37) (92, 43, [some (.ref 20), some (.int x1), some (.int x2), some (.int ((x1 / (M 20 1)) + (nI 1))), some (.int ((x1 - x1 / (M 20 1) * (M 20 1)) + (nI 0)))], [], (DB o i0 i1 ext), M37) rfl (fun hc39 => ?_) (fun hc39 => ?_)
          · have h := h.1 hc39
            refine T_run 1 (92, 61, [some (.ref 20), some (.int x1), some (.int x2), some (.int ((x1 / (M 20 1)) + (nI 1))), some (.int ((x1 - x1 / (M 20 1) * (M 20 1)) + (nI 0)))], [.int (-(nI 6))], (DB o i0 i1 ext), M37) rfl ?_
            exact T_ret rfl h
          · have h := h.2 hc39
            refine T_run 8 (92, 51, [some (.ref 20), some (.int x1), some (.int x2), some (.int ((x1 / (M 20 1)) + (nI 1))), some (.int ((x1 - x1 / (M 20 1) * (M 20 1)) + (nI 0)))], [.long (((M37 20 1) - (nI 1)).toInt64), .long (lN 0), .long (((x1 - x1 / (M 20 1) * (M 20 1)) + (nI 0)).toInt64)], (DB o i0 i1 ext), M37) rfl ?_
            refine T_callI (D' := (DB o i0 i1 ext)) rfl (CI_mono h (fun v41 M40 h => ?_))
            refine T_br (v41 = 0) (92, 60, [some (.ref 20), some (.int x1), some (.int x2), some (.int ((x1 / (M 20 1)) + (nI 1))), some (.int ((x1 - x1 / (M 20 1) * (M 20 1)) + (nI 0)))], [], (DB o i0 i1 ext), M40) (92, 53, [some (.ref 20), some (.int x1), some (.int x2), some (.int ((x1 / (M 20 1)) + (nI 1))), some (.int ((x1 - x1 / (M 20 1) * (M 20 1)) + (nI 0)))], [], (DB o i0 i1 ext), M40) rfl (fun hc42 => ?_) (fun hc42 => ?_)
            · have h := h.1 hc42
              refine T_run 1 (92, 61, [some (.ref 20), some (.int x1), some (.int x2), some (.int ((x1 / (M 20 1)) + (nI 1))), some (.int ((x1 - x1 / (M 20 1) * (M 20 1)) + (nI 0)))], [.int (-(nI 6))], (DB o i0 i1 ext), M40) rfl ?_
              exact T_ret rfl h
            · have h := h.2 hc42
              refine T_run 7 (92, 61, [some (.ref 20), some (.int x1), some (.int x2), some (.int ((x1 / (M 20 1)) + (nI 1))), some (.int ((x1 - x1 / (M 20 1) * (M 20 1)) + (nI 0)))], [.int (((M40 20 1) * ((x1 / (M 20 1)) + (nI 1))) + ((x1 - x1 / (M 20 1) * (M 20 1)) + (nI 0)))], (DB o i0 i1 ext), M40) rfl ?_
              exact T_ret rfl h
    · have h := h.2 hc22
      refine T_run 6 (92, 19, [some (.ref 20), some (.int x1), some (.int x2), some (.int ((x1 / (M 20 1)) + (nI 0))), none], [.int (M 20 1), .int x1], (DB o i0 i1 ext), M) rfl ?_
      refine T_gd ((M 20 1) = 0) (92, 20, [some (.ref 20), some (.int x1), some (.int x2), some (.int ((x1 / (M 20 1)) + (nI 0))), none], [.int (x1 - x1 / (M 20 1) * (M 20 1))], (DB o i0 i1 ext), M) rfl h.1 ?_
      have h := h.2
      refine T_run 2 (92, 22, [some (.ref 20), some (.int x1), some (.int x2), some (.int ((x1 / (M 20 1)) + (nI 0))), none], [.int (nI 1), .int x2, .int (x1 - x1 / (M 20 1) * (M 20 1))], (DB o i0 i1 ext), M) rfl ?_
      refine T_br (x2 = (nI 1)) (92, 23, [some (.ref 20), some (.int x1), some (.int x2), some (.int ((x1 / (M 20 1)) + (nI 0))), none], [.int (x1 - x1 / (M 20 1) * (M 20 1))], (DB o i0 i1 ext), M) (92, 25, [some (.ref 20), some (.int x1), some (.int x2), some (.int ((x1 / (M 20 1)) + (nI 0))), none], [.int (x1 - x1 / (M 20 1) * (M 20 1))], (DB o i0 i1 ext), M) rfl (fun hc43 => ?_) (fun hc43 => ?_)
      · have h := h.1 hc43
        refine T_run 12 (92, 41, [some (.ref 20), some (.int x1), some (.int x2), some (.int ((x1 / (M 20 1)) + (nI 0))), some (.int ((x1 - x1 / (M 20 1) * (M 20 1)) + (nI 1)))], [.long (((M 20 0) - (nI 1)).toInt64), .long (lN 0), .long (((x1 / (M 20 1)) + (nI 0)).toInt64)], (DB o i0 i1 ext), M) rfl ?_
        refine T_callI (D' := (DB o i0 i1 ext)) rfl (CI_mono h (fun v45 M44 h => ?_))
        refine T_br (v45 = 0) (92, 60, [some (.ref 20), some (.int x1), some (.int x2), some (.int ((x1 / (M 20 1)) + (nI 0))), some (.int ((x1 - x1 / (M 20 1) * (M 20 1)) + (nI 1)))], [], (DB o i0 i1 ext), M44) (92, 43, [some (.ref 20), some (.int x1), some (.int x2), some (.int ((x1 / (M 20 1)) + (nI 0))), some (.int ((x1 - x1 / (M 20 1) * (M 20 1)) + (nI 1)))], [], (DB o i0 i1 ext), M44) rfl (fun hc46 => ?_) (fun hc46 => ?_)
        · have h := h.1 hc46
          refine T_run 1 (92, 61, [some (.ref 20), some (.int x1), some (.int x2), some (.int ((x1 / (M 20 1)) + (nI 0))), some (.int ((x1 - x1 / (M 20 1) * (M 20 1)) + (nI 1)))], [.int (-(nI 6))], (DB o i0 i1 ext), M44) rfl ?_
          exact T_ret rfl h
        · have h := h.2 hc46
          refine T_run 8 (92, 51, [some (.ref 20), some (.int x1), some (.int x2), some (.int ((x1 / (M 20 1)) + (nI 0))), some (.int ((x1 - x1 / (M 20 1) * (M 20 1)) + (nI 1)))], [.long (((M44 20 1) - (nI 1)).toInt64), .long (lN 0), .long (((x1 - x1 / (M 20 1) * (M 20 1)) + (nI 1)).toInt64)], (DB o i0 i1 ext), M44) rfl ?_
          refine T_callI (D' := (DB o i0 i1 ext)) rfl (CI_mono h (fun v48 M47 h => ?_))
          refine T_br (v48 = 0) (92, 60, [some (.ref 20), some (.int x1), some (.int x2), some (.int ((x1 / (M 20 1)) + (nI 0))), some (.int ((x1 - x1 / (M 20 1) * (M 20 1)) + (nI 1)))], [], (DB o i0 i1 ext), M47) (92, 53, [some (.ref 20), some (.int x1), some (.int x2), some (.int ((x1 / (M 20 1)) + (nI 0))), some (.int ((x1 - x1 / (M 20 1) * (M 20 1)) + (nI 1)))], [], (DB o i0 i1 ext), M47) rfl (fun hc49 => ?_) (fun hc49 => ?_)
          · have h := h.1 hc49
            refine T_run 1 (92, 61, [some (.ref 20), some (.int x1), some (.int x2), some (.int ((x1 / (M 20 1)) + (nI 0))), some (.int ((x1 - x1 / (M 20 1) * (M 20 1)) + (nI 1)))], [.int (-(nI 6))], (DB o i0 i1 ext), M47) rfl ?_
            exact T_ret rfl h
          · have h := h.2 hc49
            refine T_run 7 (92, 61, [some (.ref 20), some (.int x1), some (.int x2), some (.int ((x1 / (M 20 1)) + (nI 0))), some (.int ((x1 - x1 / (M 20 1) * (M 20 1)) + (nI 1)))], [.int (((M47 20 1) * ((x1 / (M 20 1)) + (nI 0))) + ((x1 - x1 / (M 20 1) * (M 20 1)) + (nI 1)))], (DB o i0 i1 ext), M47) rfl ?_
            exact T_ret rfl h
      · have h := h.2 hc43
        refine T_run 2 (92, 27, [some (.ref 20), some (.int x1), some (.int x2), some (.int ((x1 / (M 20 1)) + (nI 0))), none], [.int (nI 3), .int x2, .int (x1 - x1 / (M 20 1) * (M 20 1))], (DB o i0 i1 ext), M) rfl ?_
        refine T_br (x2 = (nI 3)) (92, 28, [some (.ref 20), some (.int x1), some (.int x2), some (.int ((x1 / (M 20 1)) + (nI 0))), none], [.int (x1 - x1 / (M 20 1) * (M 20 1))], (DB o i0 i1 ext), M) (92, 30, [some (.ref 20), some (.int x1), some (.int x2), some (.int ((x1 / (M 20 1)) + (nI 0))), none], [.int (x1 - x1 / (M 20 1) * (M 20 1))], (DB o i0 i1 ext), M) rfl (fun hc50 => ?_) (fun hc50 => ?_)
        · have h := h.1 hc50
          refine T_run 12 (92, 41, [some (.ref 20), some (.int x1), some (.int x2), some (.int ((x1 / (M 20 1)) + (nI 0))), some (.int ((x1 - x1 / (M 20 1) * (M 20 1)) + (-(nI 1))))], [.long (((M 20 0) - (nI 1)).toInt64), .long (lN 0), .long (((x1 / (M 20 1)) + (nI 0)).toInt64)], (DB o i0 i1 ext), M) rfl ?_
          refine T_callI (D' := (DB o i0 i1 ext)) rfl (CI_mono h (fun v52 M51 h => ?_))
          refine T_br (v52 = 0) (92, 60, [some (.ref 20), some (.int x1), some (.int x2), some (.int ((x1 / (M 20 1)) + (nI 0))), some (.int ((x1 - x1 / (M 20 1) * (M 20 1)) + (-(nI 1))))], [], (DB o i0 i1 ext), M51) (92, 43, [some (.ref 20), some (.int x1), some (.int x2), some (.int ((x1 / (M 20 1)) + (nI 0))), some (.int ((x1 - x1 / (M 20 1) * (M 20 1)) + (-(nI 1))))], [], (DB o i0 i1 ext), M51) rfl (fun hc53 => ?_) (fun hc53 => ?_)
          · have h := h.1 hc53
            refine T_run 1 (92, 61, [some (.ref 20), some (.int x1), some (.int x2), some (.int ((x1 / (M 20 1)) + (nI 0))), some (.int ((x1 - x1 / (M 20 1) * (M 20 1)) + (-(nI 1))))], [.int (-(nI 6))], (DB o i0 i1 ext), M51) rfl ?_
            exact T_ret rfl h
          · have h := h.2 hc53
            refine T_run 8 (92, 51, [some (.ref 20), some (.int x1), some (.int x2), some (.int ((x1 / (M 20 1)) + (nI 0))), some (.int ((x1 - x1 / (M 20 1) * (M 20 1)) + (-(nI 1))))], [.long (((M51 20 1) - (nI 1)).toInt64), .long (lN 0), .long (((x1 - x1 / (M 20 1) * (M 20 1)) + (-(nI 1))).toInt64)], (DB o i0 i1 ext), M51) rfl ?_
            refine T_callI (D' := (DB o i0 i1 ext)) rfl (CI_mono h (fun v55 M54 h => ?_))
            refine T_br (v55 = 0) (92, 60, [some (.ref 20), some (.int x1), some (.int x2), some (.int ((x1 / (M 20 1)) + (nI 0))), some (.int ((x1 - x1 / (M 20 1) * (M 20 1)) + (-(nI 1))))], [], (DB o i0 i1 ext), M54) (92, 53, [some (.ref 20), some (.int x1), some (.int x2), some (.int ((x1 / (M 20 1)) + (nI 0))), some (.int ((x1 - x1 / (M 20 1) * (M 20 1)) + (-(nI 1))))], [], (DB o i0 i1 ext), M54) rfl (fun hc56 => ?_) (fun hc56 => ?_)
            · have h := h.1 hc56
              refine T_run 1 (92, 61, [some (.ref 20), some (.int x1), some (.int x2), some (.int ((x1 / (M 20 1)) + (nI 0))), some (.int ((x1 - x1 / (M 20 1) * (M 20 1)) + (-(nI 1))))], [.int (-(nI 6))], (DB o i0 i1 ext), M54) rfl ?_
              exact T_ret rfl h
            · have h := h.2 hc56
              refine T_run 7 (92, 61, [some (.ref 20), some (.int x1), some (.int x2), some (.int ((x1 / (M 20 1)) + (nI 0))), some (.int ((x1 - x1 / (M 20 1) * (M 20 1)) + (-(nI 1))))], [.int (((M54 20 1) * ((x1 / (M 20 1)) + (nI 0))) + ((x1 - x1 / (M 20 1) * (M 20 1)) + (-(nI 1))))], (DB o i0 i1 ext), M54) rfl ?_
              exact T_ret rfl h
        · have h := h.2 hc50
          refine T_run 11 (92, 41, [some (.ref 20), some (.int x1), some (.int x2), some (.int ((x1 / (M 20 1)) + (nI 0))), some (.int ((x1 - x1 / (M 20 1) * (M 20 1)) + (nI 0)))], [.long (((M 20 0) - (nI 1)).toInt64), .long (lN 0), .long (((x1 / (M 20 1)) + (nI 0)).toInt64)], (DB o i0 i1 ext), M) rfl ?_
          refine T_callI (D' := (DB o i0 i1 ext)) rfl (CI_mono h (fun v58 M57 h => ?_))
          refine T_br (v58 = 0) (92, 60, [some (.ref 20), some (.int x1), some (.int x2), some (.int ((x1 / (M 20 1)) + (nI 0))), some (.int ((x1 - x1 / (M 20 1) * (M 20 1)) + (nI 0)))], [], (DB o i0 i1 ext), M57) (92, 43, [some (.ref 20), some (.int x1), some (.int x2), some (.int ((x1 / (M 20 1)) + (nI 0))), some (.int ((x1 - x1 / (M 20 1) * (M 20 1)) + (nI 0)))], [], (DB o i0 i1 ext), M57) rfl (fun hc59 => ?_) (fun hc59 => ?_)
          · have h := h.1 hc59
            refine T_run 1 (92, 61, [some (.ref 20), some (.int x1), some (.int x2), some (.int ((x1 / (M 20 1)) + (nI 0))), some (.int ((x1 - x1 / (M 20 1) * (M 20 1)) + (nI 0)))], [.int (-(nI 6))], (DB o i0 i1 ext), M57) rfl ?_
            exact T_ret rfl h
          · have h := h.2 hc59
            refine T_run 8 (92, 51, [some (.ref 20), some (.int x1), some (.int x2), some (.int ((x1 / (M 20 1)) + (nI 0))), some (.int ((x1 - x1 / (M 20 1) * (M 20 1)) + (nI 0)))], [.long (((M57 20 1) - (nI 1)).toInt64), .long (lN 0), .long (((x1 - x1 / (M 20 1) * (M 20 1)) + (nI 0)).toInt64)], (DB o i0 i1 ext), M57) rfl ?_
            refine T_callI (D' := (DB o i0 i1 ext)) rfl (CI_mono h (fun v61 M60 h => ?_))
            refine T_br (v61 = 0) (92, 60, [some (.ref 20), some (.int x1), some (.int x2), some (.int ((x1 / (M 20 1)) + (nI 0))), some (.int ((x1 - x1 / (M 20 1) * (M 20 1)) + (nI 0)))], [], (DB o i0 i1 ext), M60) (92, 53, [some (.ref 20), some (.int x1), some (.int x2), some (.int ((x1 / (M 20 1)) + (nI 0))), some (.int ((x1 - x1 / (M 20 1) * (M 20 1)) + (nI 0)))], [], (DB o i0 i1 ext), M60) rfl (fun hc62 => ?_) (fun hc62 => ?_)
            · have h := h.1 hc62
              refine T_run 1 (92, 61, [some (.ref 20), some (.int x1), some (.int x2), some (.int ((x1 / (M 20 1)) + (nI 0))), some (.int ((x1 - x1 / (M 20 1) * (M 20 1)) + (nI 0)))], [.int (-(nI 6))], (DB o i0 i1 ext), M60) rfl ?_
              exact T_ret rfl h
            · have h := h.2 hc62
              refine T_run 7 (92, 61, [some (.ref 20), some (.int x1), some (.int x2), some (.int ((x1 / (M 20 1)) + (nI 0))), some (.int ((x1 - x1 / (M 20 1) * (M 20 1)) + (nI 0)))], [.int (((M60 20 1) * ((x1 / (M 20 1)) + (nI 0))) + ((x1 - x1 / (M 20 1) * (M 20 1)) + (nI 0)))], (DB o i0 i1 ext), M60) rfl ?_
              exact T_ret rfl h
set_option maxRecDepth 100000 in
theorem b_X5_next_0 {d : Nat} {Q : ARs → Prop} {o i0 i1 : Option Nat} {ext : ADd} {M : AMm} (x1 : Int32) (x2 : Int32) (x3 : Int32) (h : CI d 92 [.ref 20, .int x2, .int x3] (DB o i0 i1 ext) M (DB o i0 i1 ext) (fun v2 M1 => (v2 < 0 → Q (some (.int (-(nI 6))), (DB o i0 i1 ext), M1)) ∧ (¬ v2 < 0 → (vp_in v2 16) ∧ (((M1 21 v2.toNatClampNeg) = (-(nI 1)) → Q (some (.int (-(nI 6))), (DB o i0 i1 ext), M1)) ∧ (¬ (M1 21 v2.toNatClampNeg) = (-(nI 1)) → (((x1 >>> (v2 &&& 31)) &&& (nI 1)) = 0 → Q (some (.int v2), (DB o i0 i1 ext), M1)) ∧ (¬ ((x1 >>> (v2 &&& 31)) &&& (nI 1)) = 0 → Q (some (.int (-(nI 6))), (DB o i0 i1 ext), M1))))))) : T (d + 1) Q (ent 93 [.ref 20, .int x1, .int x2, .int x3] (DB o i0 i1 ext) M) := by
  refine T_run 3 (93, 3, [some (.ref 20), some (.int x1), some (.int x2), some (.int x3), none], [.int x3, .int x2, .ref 20], (DB o i0 i1 ext), M) rfl ?_
  refine T_callI (D' := (DB o i0 i1 ext)) rfl (CI_mono h (fun v2 M1 h => ?_))
  refine T_run 2 (93, 6, [some (.ref 20), some (.int x1), some (.int x2), some (.int x3), some (.int v2)], [.int v2], (DB o i0 i1 ext), M1) rfl ?_
  refine T_br (v2 < 0) (93, 21, [some (.ref 20), some (.int x1), some (.int x2), some (.int x3), some (.int v2)], [], (DB o i0 i1 ext), M1) (93, 7, [some (.ref 20), some (.int x1), some (.int x2), some (.int x3), some (.int v2)], [], (DB o i0 i1 ext), M1) rfl (fun hc3 => ?_) (fun hc3 => ?_)
  · have h := h.1 hc3
    refine T_run 1 (93, 22, [some (.ref 20), some (.int x1), some (.int x2), some (.int x3), some (.int v2)], [.int (-(nI 6))], (DB o i0 i1 ext), M1) rfl ?_
    exact T_ret rfl h
  · have h := h.2 hc3
    refine T_run 3 (93, 10, [some (.ref 20), some (.int x1), some (.int x2), some (.int x3), some (.int v2)], [.int v2, .ref 21], (DB o i0 i1 ext), M1) rfl ?_
    refine T_gd (v2 < 0 ∨ 16 ≤ v2.toNatClampNeg) (93, 11, [some (.ref 20), some (.int x1), some (.int x2), some (.int x3), some (.int v2)], [.int (M1 21 v2.toNatClampNeg)], (DB o i0 i1 ext), M1) rfl h.1 ?_
    have h := h.2
    refine T_run 1 (93, 12, [some (.ref 20), some (.int x1), some (.int x2), some (.int x3), some (.int v2)], [.int (-(nI 1)), .int (M1 21 v2.toNatClampNeg)], (DB o i0 i1 ext), M1) rfl ?_
    refine T_br (_) (93, 21, [some (.ref 20), some (.int x1), some (.int x2), some (.int x3), some (.int v2)], [], (DB o i0 i1 ext), M1) (93, 13, [some (.ref 20), some (.int x1), some (.int x2), some (.int x3), some (.int v2)], [], (DB o i0 i1 ext), M1) rfl (fun hc4 => ?_) (fun hc4 => ?_)
    · have h := h.1 hc4
      refine T_run 1 (93, 22, [some (.ref 20), some (.int x1), some (.int x2), some (.int x3), some (.int v2)], [.int (-(nI 6))], (DB o i0 i1 ext), M1) rfl ?_
      exact T_ret rfl h
    · have h := h.2 hc4
      refine T_run 5 (93, 18, [some (.ref 20), some (.int x1), some (.int x2), some (.int x3), some (.int v2)], [.int ((x1 >>> (v2 &&& 31)) &&& (nI 1))], (DB o i0 i1 ext), M1) rfl ?_
      refine T_br (((x1 >>> (v2 &&& 31)) &&& (nI 1)) = 0) (93, 19, [some (.ref 20), some (.int x1), some (.int x2), some (.int x3), some (.int v2)], [], (DB o i0 i1 ext), M1) (93, 21, [some (.ref 20), some (.int x1), some (.int x2), some (.int x3), some (.int v2)], [], (DB o i0 i1 ext), M1) rfl (fun hc5 => ?_) (fun hc5 => ?_)
      · have h := h.1 hc5
        refine T_run 2 (93, 22, [some (.ref 20), some (.int x1), some (.int x2), some (.int x3), some (.int v2)], [.int v2], (DB o i0 i1 ext), M1) rfl ?_
        exact T_ret rfl h
      · have h := h.2 hc5
        refine T_run 1 (93, 22, [some (.ref 20), some (.int x1), some (.int x2), some (.int x3), some (.int v2)], [.int (-(nI 6))], (DB o i0 i1 ext), M1) rfl ?_
        exact T_ret rfl h
set_option maxRecDepth 100000 in
theorem b_X5_isBlind_0 {d : Nat} {Q : ARs → Prop} {o i0 i1 : Option Nat} {ext : ADd} {M : AMm} (x1 : Int32) (x2 : Int32) (h : CI d 93 [.ref 20, .int x1, .int x2, .int (nI 0)] (DB o i0 i1 ext) M (DB o i0 i1 ext) (fun v2 M1 => (0 ≤ v2 → Q (some (.int (nI 0)), (DB o i0 i1 ext), M1)) ∧ (¬ 0 ≤ v2 → CI d 93 [.ref 20, .int x1, .int x2, .int (nI 1)] (DB o i0 i1 ext) M1 (DB o i0 i1 ext) (fun v5 M4 => (0 ≤ v5 → Q (some (.int (nI 0)), (DB o i0 i1 ext), M4)) ∧ (¬ 0 ≤ v5 → CI d 93 [.ref 20, .int x1, .int x2, .int (nI 2)] (DB o i0 i1 ext) M4 (DB o i0 i1 ext) (fun v8 M7 => (0 ≤ v8 → Q (some (.int (nI 0)), (DB o i0 i1 ext), M7)) ∧ (¬ 0 ≤ v8 → CI d 93 [.ref 20, .int x1, .int x2, .int (nI 3)] (DB o i0 i1 ext) M7 (DB o i0 i1 ext) (fun v11 M10 => (0 ≤ v11 → Q (some (.int (nI 0)), (DB o i0 i1 ext), M10)) ∧ (¬ 0 ≤ v11 → Q (some (.int (nI 1)), (DB o i0 i1 ext), M10)))))))))) : T (d + 1) Q (ent 94 [.ref 20, .int x1, .int x2] (DB o i0 i1 ext) M) := by
  refine T_run 4 (94, 4, [some (.ref 20), some (.int x1), some (.int x2)], [.int (nI 0), .int x2, .int x1, .ref 20], (DB o i0 i1 ext), M) rfl ?_
  refine T_callI (D' := (DB o i0 i1 ext)) rfl (CI_mono h (fun v2 M1 h => ?_))
  refine T_br (0 ≤ v2) (94, 26, [some (.ref 20), some (.int x1), some (.int x2)], [], (DB o i0 i1 ext), M1) (94, 6, [some (.ref 20), some (.int x1), some (.int x2)], [], (DB o i0 i1 ext), M1) rfl (fun hc3 => ?_) (fun hc3 => ?_)
  · have h := h.1 hc3
    refine T_run 1 (94, 27, [some (.ref 20), some (.int x1), some (.int x2)], [.int (nI 0)], (DB o i0 i1 ext), M1) rfl ?_
    exact T_ret rfl h
  · have h := h.2 hc3
    refine T_run 4 (94, 10, [some (.ref 20), some (.int x1), some (.int x2)], [.int (nI 1), .int x2, .int x1, .ref 20], (DB o i0 i1 ext), M1) rfl ?_
    refine T_callI (D' := (DB o i0 i1 ext)) rfl (CI_mono h (fun v5 M4 h => ?_))
    refine T_br (0 ≤ v5) (94, 26, [some (.ref 20), some (.int x1), some (.int x2)], [], (DB o i0 i1 ext), M4) (94, 12, [some (.ref 20), some (.int x1), some (.int x2)], [], (DB o i0 i1 ext), M4) rfl (fun hc6 => ?_) (fun hc6 => ?_)
    · have h := h.1 hc6
      refine T_run 1 (94, 27, [some (.ref 20), some (.int x1), some (.int x2)], [.int (nI 0)], (DB o i0 i1 ext), M4) rfl ?_
      exact T_ret rfl h
    · have h := h.2 hc6
      refine T_run 4 (94, 16, [some (.ref 20), some (.int x1), some (.int x2)], [.int (nI 2), .int x2, .int x1, .ref 20], (DB o i0 i1 ext), M4) rfl ?_
      refine T_callI (D' := (DB o i0 i1 ext)) rfl (CI_mono h (fun v8 M7 h => ?_))
      refine T_br (0 ≤ v8) (94, 26, [some (.ref 20), some (.int x1), some (.int x2)], [], (DB o i0 i1 ext), M7) (94, 18, [some (.ref 20), some (.int x1), some (.int x2)], [], (DB o i0 i1 ext), M7) rfl (fun hc9 => ?_) (fun hc9 => ?_)
      · have h := h.1 hc9
        refine T_run 1 (94, 27, [some (.ref 20), some (.int x1), some (.int x2)], [.int (nI 0)], (DB o i0 i1 ext), M7) rfl ?_
        exact T_ret rfl h
      · have h := h.2 hc9
        refine T_run 4 (94, 22, [some (.ref 20), some (.int x1), some (.int x2)], [.int (nI 3), .int x2, .int x1, .ref 20], (DB o i0 i1 ext), M7) rfl ?_
        refine T_callI (D' := (DB o i0 i1 ext)) rfl (CI_mono h (fun v11 M10 h => ?_))
        refine T_br (0 ≤ v11) (94, 26, [some (.ref 20), some (.int x1), some (.int x2)], [], (DB o i0 i1 ext), M10) (94, 24, [some (.ref 20), some (.int x1), some (.int x2)], [], (DB o i0 i1 ext), M10) rfl (fun hc12 => ?_) (fun hc12 => ?_)
        · have h := h.1 hc12
          refine T_run 1 (94, 27, [some (.ref 20), some (.int x1), some (.int x2)], [.int (nI 0)], (DB o i0 i1 ext), M10) rfl ?_
          exact T_ret rfl h
        · have h := h.2 hc12
          refine T_run 2 (94, 27, [some (.ref 20), some (.int x1), some (.int x2)], [.int (nI 1)], (DB o i0 i1 ext), M10) rfl ?_
          exact T_ret rfl h
set_option maxRecDepth 100000 in
theorem b_X5_brings_0 {d : Nat} {Q : ARs → Prop} {o i0 i1 : Option Nat} {ext : ADd} {M : AMm} (x1 : Int32) (x2 : Int32) (h : (vp_in x1 16) ∧ ((((M 21 x1.toNatClampNeg) - ((M 20 4) * x2)) ≤ 0 → Q (some (.int (nI 0)), (DB o i0 i1 ext), M)) ∧ (¬ ((M 21 x1.toNatClampNeg) - ((M 20 4) * x2)) ≤ 0 → Q (some (.int ((M 21 x1.toNatClampNeg) - ((M 20 4) * x2))), (DB o i0 i1 ext), M)))) : T d Q (ent 95 [.ref 20, .int x1, .int x2] (DB o i0 i1 ext) M) := by
  refine T_run 3 (95, 3, [some (.ref 20), some (.int x1), some (.int x2), none], [.int x1, .ref 21], (DB o i0 i1 ext), M) rfl ?_
  refine T_gd (x1 < 0 ∨ 16 ≤ x1.toNatClampNeg) (95, 4, [some (.ref 20), some (.int x1), some (.int x2), none], [.int (M 21 x1.toNatClampNeg)], (DB o i0 i1 ext), M) rfl h.1 ?_
  have h := h.2
  refine T_run 7 (95, 11, [some (.ref 20), some (.int x1), some (.int x2), some (.int ((M 21 x1.toNatClampNeg) - ((M 20 4) * x2)))], [.int ((M 21 x1.toNatClampNeg) - ((M 20 4) * x2))], (DB o i0 i1 ext), M) rfl ?_
  refine T_br (((M 21 x1.toNatClampNeg) - ((M 20 4) * x2)) ≤ 0) (95, 14, [some (.ref 20), some (.int x1), some (.int x2), some (.int ((M 21 x1.toNatClampNeg) - ((M 20 4) * x2)))], [], (DB o i0 i1 ext), M) (95, 12, [some (.ref 20), some (.int x1), some (.int x2), some (.int ((M 21 x1.toNatClampNeg) - ((M 20 4) * x2)))], [], (DB o i0 i1 ext), M) rfl (fun hc1 => ?_) (fun hc1 => ?_)
  · have h := h.1 hc1
    refine T_run 1 (95, 15, [some (.ref 20), some (.int x1), some (.int x2), some (.int ((M 21 x1.toNatClampNeg) - ((M 20 4) * x2)))], [.int (nI 0)], (DB o i0 i1 ext), M) rfl ?_
    exact T_ret rfl h
  · have h := h.2 hc1
    refine T_run 2 (95, 15, [some (.ref 20), some (.int x1), some (.int x2), some (.int ((M 21 x1.toNatClampNeg) - ((M 20 4) * x2)))], [.int ((M 21 x1.toNatClampNeg) - ((M 20 4) * x2))], (DB o i0 i1 ext), M) rfl ?_
    exact T_ret rfl h
set_option maxRecDepth 100000 in
theorem b_X5_goWay_0 {d : Nat} {Q : ARs → Prop} {o i0 i1 : Option Nat} {ext : ADd} {M : AMm}  (h : (vp_in (M 20 3) 16) ∧ (T d Q (96, 25, [some (.ref 20), some (.int (nI 0)), none, none], [], (DB o i0 i1 ext), (ms (ms (ms (ms (ms M 20 7 ((nI 1) <<< ((M 20 3) &&& 31))) 20 8 (M 20 3)) 20 9 (M 21 ((M 20 3).toNatClampNeg))) 20 10 (-(nI 6))) 20 11 (-(nI 6)))))) : T d Q (ent 96 [.ref 20] (DB o i0 i1 ext) M) := by
  refine T_run 15 (96, 15, [some (.ref 20), none, none, none], [.int (M 20 3), .ref 21, .ref 20], (DB o i0 i1 ext), (ms (ms M 20 7 ((nI 1) <<< ((M 20 3) &&& 31))) 20 8 (M 20 3))) rfl ?_
  refine T_gd ((M 20 3) < 0 ∨ 16 ≤ (M 20 3).toNatClampNeg) (96, 16, [some (.ref 20), none, none, none], [.int (M 21 ((M 20 3).toNatClampNeg)), .ref 20], (DB o i0 i1 ext), (ms (ms M 20 7 ((nI 1) <<< ((M 20 3) &&& 31))) 20 8 (M 20 3))) rfl h.1 ?_
  have h := h.2
  refine T_run 9 (96, 25, [some (.ref 20), some (.int (nI 0)), none, none], [], (DB o i0 i1 ext), (ms (ms (ms (ms (ms M 20 7 ((nI 1) <<< ((M 20 3) &&& 31))) 20 8 (M 20 3)) 20 9 (M 21 ((M 20 3).toNatClampNeg))) 20 10 (-(nI 6))) 20 11 (-(nI 6)))) rfl ?_
  exact h
set_option maxRecDepth 100000 in
theorem b_X5_goWay_25 {d : Nat} {Q : ARs → Prop} {o i0 i1 : Option Nat} {ext : ADd} {M : AMm} (x1 : Int32) (h : ((M 20 6) ≤ x1 → Q (some (.int (nI 1)), (DB o i0 i1 ext), M)) ∧ (¬ (M 20 6) ≤ x1 → (vp_in x1 40) ∧ (CI d 83 [.int (M 22 x1.toNatClampNeg)] (DB o i0 i1 ext) M (DB o i0 i1 ext) (fun v3 M2 => CI d 92 [.ref 20, .int (M 20 8), .int v3] (DB o i0 i1 ext) M2 (DB o i0 i1 ext) (fun v5 M4 => (0 ≤ v5 → (vp_in v5 16) ∧ (((M4 21 v5.toNatClampNeg) = (-(nI 1)) → Q (some (.int (nI 0)), (DB o i0 i1 ext), (ms (ms M4 20 10 x1) 20 11 (nI 2)))) ∧ (¬ (M4 21 v5.toNatClampNeg) = (-(nI 1)) → ((((M4 20 7) >>> (v5 &&& 31)) &&& (nI 1)) = (nI 1) → Q (some (.int (nI 0)), (DB o i0 i1 ext), (ms (ms M4 20 10 x1) 20 11 (nI 3)))) ∧ (¬ (((M4 20 7) >>> (v5 &&& 31)) &&& (nI 1)) = (nI 1) → CI d 95 [.ref 20, .int v5, .int (x1 + (nI 1))] (DB o i0 i1 ext) (ms (ms M4 20 7 ((M4 20 7) ||| ((nI 1) <<< (v5 &&& 31)))) 20 8 v5) (DB o i0 i1 ext) (fun v10 M9 => T (d + 1) Q (96, 25, [some (.ref 20), some (.int (x1 + (nI 1))), none, none], [], (DB o i0 i1 ext), (ms M9 20 9 ((M4 20 9) + v10)))))))) ∧ (¬ 0 ≤ v5 → Q (some (.int (nI 0)), (DB o i0 i1 ext), (ms (ms M4 20 10 x1) 20 11 (nI 1))))))))) : T (d + 1) Q (96, 25, [some (.ref 20), some (.int x1), none, none], [], (DB o i0 i1 ext), M) := by
  refine T_run 3 (96, 28, [some (.ref 20), some (.int x1), none, none], [.int (M 20 6), .int x1], (DB o i0 i1 ext), M) rfl ?_
  refine T_br ((M 20 6) ≤ x1) (96, 97, [some (.ref 20), some (.int x1), none, none], [], (DB o i0 i1 ext), M) (96, 29, [some (.ref 20), some (.int x1), none, none], [], (DB o i0 i1 ext), M) rfl (fun hc1 => ?_) (fun hc1 => ?_)
  · have h := h.1 hc1
    refine T_run 1 (96, 98, [some (.ref 20), some (.int x1), none, none], [.int (nI 1)], (DB o i0 i1 ext), M) rfl ?_
    exact T_ret rfl h
  · have h := h.2 hc1
    refine T_run 6 (96, 35, [some (.ref 20), some (.int x1), none, none], [.int x1, .ref 22, .int (M 20 8), .ref 20], (DB o i0 i1 ext), M) rfl ?_
    refine T_gd (x1 < 0 ∨ 40 ≤ x1.toNatClampNeg) (96, 36, [some (.ref 20), some (.int x1), none, none], [.int (M 22 x1.toNatClampNeg), .int (M 20 8), .ref 20], (DB o i0 i1 ext), M) rfl h.1 ?_
    have h := h.2
    refine T_callI (D' := (DB o i0 i1 ext)) rfl (CI_mono h (fun v3 M2 h => ?_))
    refine T_callI (D' := (DB o i0 i1 ext)) rfl (CI_mono h (fun v5 M4 h => ?_))
    refine T_run 2 (96, 40, [some (.ref 20), some (.int x1), some (.int v5), none], [.int v5], (DB o i0 i1 ext), M4) rfl ?_
    refine T_br (0 ≤ v5) (96, 43, [some (.ref 20), some (.int x1), some (.int v5), none], [], (DB o i0 i1 ext), M4) (96, 41, [some (.ref 20), some (.int x1), some (.int v5), none], [], (DB o i0 i1 ext), M4) rfl (fun hc6 => ?_) (fun hc6 => ?_)
    · have h := h.1 hc6
      refine T_run 3 (96, 46, [some (.ref 20), some (.int x1), some (.int v5), none], [.int v5, .ref 21], (DB o i0 i1 ext), M4) rfl ?_
      refine T_gd (v5 < 0 ∨ 16 ≤ v5.toNatClampNeg) (96, 47, [some (.ref 20), some (.int x1), some (.int v5), none], [.int (M4 21 v5.toNatClampNeg)], (DB o i0 i1 ext), M4) rfl h.1 ?_
      have h := h.2
      refine T_run 1 (96, 48, [some (.ref 20), some (.int x1), some (.int v5), none], [.int (-(nI 1)), .int (M4 21 v5.toNatClampNeg)], (DB o i0 i1 ext), M4) rfl ?_
      refine T_br (_) (96, 49, [some (.ref 20), some (.int x1), some (.int v5), none], [], (DB o i0 i1 ext), M4) (96, 51, [some (.ref 20), some (.int x1), some (.int v5), none], [], (DB o i0 i1 ext), M4) rfl (fun hc7 => ?_) (fun hc7 => ?_)
      · have h := h.1 hc7
        refine T_run 12 (96, 72, [some (.ref 20), some (.int x1), some (.int v5), some (.int (nI 2))], [.int (nI 0)], (DB o i0 i1 ext), (ms (ms M4 20 10 x1) 20 11 (nI 2))) rfl ?_
        exact T_ret rfl h
      · have h := h.2 hc7
        refine T_run 7 (96, 58, [some (.ref 20), some (.int x1), some (.int v5), none], [.int (nI 1), .int (((M4 20 7) >>> (v5 &&& 31)) &&& (nI 1))], (DB o i0 i1 ext), M4) rfl ?_
        refine T_br ((((M4 20 7) >>> (v5 &&& 31)) &&& (nI 1)) = (nI 1)) (96, 59, [some (.ref 20), some (.int x1), some (.int v5), none], [], (DB o i0 i1 ext), M4) (96, 61, [some (.ref 20), some (.int x1), some (.int v5), none], [], (DB o i0 i1 ext), M4) rfl (fun hc8 => ?_) (fun hc8 => ?_)
        · have h := h.1 hc8
          refine T_run 12 (96, 72, [some (.ref 20), some (.int x1), some (.int v5), some (.int (nI 3))], [.int (nI 0)], (DB o i0 i1 ext), (ms (ms M4 20 10 x1) 20 11 (nI 3))) rfl ?_
          exact T_ret rfl h
        · have h := h.2 hc8
          refine T_run 23 (96, 92, [some (.ref 20), some (.int x1), some (.int v5), some (.int (-(nI 6)))], [.int (x1 + (nI 1)), .int v5, .ref 20, .int (M4 20 9), .ref 20], (DB o i0 i1 ext), (ms (ms M4 20 7 ((M4 20 7) ||| ((nI 1) <<< (v5 &&& 31)))) 20 8 v5)) rfl ?_
          refine T_callI (D' := (DB o i0 i1 ext)) rfl (CI_mono h (fun v10 M9 h => ?_))
          refine T_run 4 (96, 25, [some (.ref 20), some (.int (x1 + (nI 1))), some (.int v5), some (.int (-(nI 6)))], [], (DB o i0 i1 ext), (ms M9 20 9 ((M4 20 9) + v10))) rfl ?_
          exact T_le (a_le_1 (a_le_1 (a_le_2 rfl (a_le_2 rfl a_le_n)))) h
    · have h := h.2 hc6
      refine T_run 12 (96, 72, [some (.ref 20), some (.int x1), some (.int v5), some (.int (nI 1))], [.int (nI 0)], (DB o i0 i1 ext), (ms (ms M4 20 10 x1) 20 11 (nI 1))) rfl ?_
      exact T_ret rfl h
set_option maxRecDepth 100000 in
theorem b_X5_judge_0 {d : Nat} {Q : ARs → Prop} {o i0 i1 : Option Nat} {ext : ADd} {M : AMm} (x1 : Int32) (h : CI d 74 [.long x1.toInt64, .long (lN 0), .long (lN 1)] (DB o i0 i1 ext) M (DB o i0 i1 ext) (fun v2 M1 => (v2 = 0 → Q (some (.int (-(nI 2))), (DB o i0 i1 ext), M1)) ∧ (¬ v2 = 0 → CI d 85 [.ref 20] (DB o i0 i1 ext) M1 (DB o i0 i1 ext) (fun v5 M4 => (v5 < 0 → CI d 96 [.ref 20] (DB o i0 i1 ext) M4 (DB o i0 i1 ext) (fun v8 M7 => (x1 = 0 → Q (some (.int (M7 20 10)), (DB o i0 i1 ext), M7)) ∧ (¬ x1 = 0 → Q (some (.int (M7 20 11)), (DB o i0 i1 ext), M7)))) ∧ (¬ v5 < 0 → Q (some (.int (-(nI 5))), (DB o i0 i1 ext), M4)))))) : T (d + 1) Q (ent 97 [.ref 20, .int x1] (DB o i0 i1 ext) M) := by
  refine T_run 4 (97, 4, [some (.ref 20), some (.int x1)], [.long (lN 1), .long (lN 0), .long x1.toInt64], (DB o i0 i1 ext), M) rfl ?_
  refine T_callI (D' := (DB o i0 i1 ext)) rfl (CI_mono h (fun v2 M1 h => ?_))
  refine T_br (v2 = 0) (97, 6, [some (.ref 20), some (.int x1)], [], (DB o i0 i1 ext), M1) (97, 8, [some (.ref 20), some (.int x1)], [], (DB o i0 i1 ext), M1) rfl (fun hc3 => ?_) (fun hc3 => ?_)
  · have h := h.1 hc3
    refine T_run 1 (97, 7, [some (.ref 20), some (.int x1)], [.int (-(nI 2))], (DB o i0 i1 ext), M1) rfl ?_
    exact T_ret rfl h
  · have h := h.2 hc3
    refine T_run 1 (97, 9, [some (.ref 20), some (.int x1)], [.ref 20], (DB o i0 i1 ext), M1) rfl ?_
    refine T_callI (D' := (DB o i0 i1 ext)) rfl (CI_mono h (fun v5 M4 h => ?_))
    refine T_br (v5 < 0) (97, 13, [some (.ref 20), some (.int x1)], [], (DB o i0 i1 ext), M4) (97, 11, [some (.ref 20), some (.int x1)], [], (DB o i0 i1 ext), M4) rfl (fun hc6 => ?_) (fun hc6 => ?_)
    · have h := h.1 hc6
      refine T_run 1 (97, 14, [some (.ref 20), some (.int x1)], [.ref 20], (DB o i0 i1 ext), M4) rfl ?_
      refine T_callI (D' := (DB o i0 i1 ext)) rfl (CI_mono h (fun v8 M7 h => ?_))
      refine T_run 2 (97, 17, [some (.ref 20), some (.int x1)], [.int x1], (DB o i0 i1 ext), M7) rfl ?_
      refine T_br (x1 = 0) (97, 18, [some (.ref 20), some (.int x1)], [], (DB o i0 i1 ext), M7) (97, 21, [some (.ref 20), some (.int x1)], [], (DB o i0 i1 ext), M7) rfl (fun hc9 => ?_) (fun hc9 => ?_)
      · have h := h.1 hc9
        refine T_run 3 (97, 23, [some (.ref 20), some (.int x1)], [.int (M7 20 10)], (DB o i0 i1 ext), M7) rfl ?_
        exact T_ret rfl h
      · have h := h.2 hc9
        refine T_run 2 (97, 23, [some (.ref 20), some (.int x1)], [.int (M7 20 11)], (DB o i0 i1 ext), M7) rfl ?_
        exact T_ret rfl h
    · have h := h.2 hc6
      refine T_run 1 (97, 12, [some (.ref 20), some (.int x1)], [.int (-(nI 5))], (DB o i0 i1 ext), M4) rfl ?_
      exact T_ret rfl h
set_option maxRecDepth 100000 in
theorem b_X5_reachable_0 {d : Nat} {Q : ARs → Prop} {o i0 i1 : Option Nat} {ext : ADd} {M : AMm} (x1 : Int32) (x2 : Int32) (h : T d Q (98, 6, [some (.ref 20), some (.int x1), some (.int x2), some (.int ((nI 1) <<< (x2 &&& 31))), some (.int (nI 0)), none, none, none], [], (DB o i0 i1 ext), M)) : T d Q (ent 98 [.ref 20, .int x1, .int x2] (DB o i0 i1 ext) M) := by
  refine T_run 6 (98, 6, [some (.ref 20), some (.int x1), some (.int x2), some (.int ((nI 1) <<< (x2 &&& 31))), some (.int (nI 0)), none, none, none], [], (DB o i0 i1 ext), M) rfl ?_
  exact h
set_option maxRecDepth 100000 in
theorem b_X5_reachable_6 {d : Nat} {Q : ARs → Prop} {o i0 i1 : Option Nat} {ext : ADd} {M : AMm} (x1 : Int32) (x2 : Int32) (x3 : Int32) (x4 : Int32) (h : ((nI 16) ≤ x4 → Q (some (.int (x3 &&& (((nI 1) <<< (x2 &&& 31)) ^^^ (-(nI 1))))), (DB o i0 i1 ext), M)) ∧ (¬ (nI 16) ≤ x4 → T d Q (98, 11, [some (.ref 20), some (.int x1), some (.int x2), some (.int x3), some (.int x4), some (.int (nI 0)), none, none], [], (DB o i0 i1 ext), M))) : T d Q (98, 6, [some (.ref 20), some (.int x1), some (.int x2), some (.int x3), some (.int x4), none, none, none], [], (DB o i0 i1 ext), M) := by
  refine T_run 2 (98, 8, [some (.ref 20), some (.int x1), some (.int x2), some (.int x3), some (.int x4), none, none, none], [.int (nI 16), .int x4], (DB o i0 i1 ext), M) rfl ?_
  refine T_br ((nI 16) ≤ x4) (98, 49, [some (.ref 20), some (.int x1), some (.int x2), some (.int x3), some (.int x4), none, none, none], [], (DB o i0 i1 ext), M) (98, 9, [some (.ref 20), some (.int x1), some (.int x2), some (.int x3), some (.int x4), none, none, none], [], (DB o i0 i1 ext), M) rfl (fun hc1 => ?_) (fun hc1 => ?_)
  · have h := h.1 hc1
    refine T_run 7 (98, 56, [some (.ref 20), some (.int x1), some (.int x2), some (.int x3), some (.int x4), none, none, none], [.int (x3 &&& (((nI 1) <<< (x2 &&& 31)) ^^^ (-(nI 1))))], (DB o i0 i1 ext), M) rfl ?_
    exact T_ret rfl h
  · have h := h.2 hc1
    refine T_run 2 (98, 11, [some (.ref 20), some (.int x1), some (.int x2), some (.int x3), some (.int x4), some (.int (nI 0)), none, none], [], (DB o i0 i1 ext), M) rfl ?_
    exact h
set_option maxRecDepth 100000 in
theorem b_X5_reachable_11 {d : Nat} {Q : ARs → Prop} {o i0 i1 : Option Nat} {ext : ADd} {M : AMm} (x1 : Int32) (x2 : Int32) (x3 : Int32) (x4 : Int32) (x5 : Int32) (h : CI d 77 [.ref 20] (DB o i0 i1 ext) M (DB o i0 i1 ext) (fun v2 M1 => (v2 ≤ x5 → T (d + 1) Q (98, 6, [some (.ref 20), some (.int x1), some (.int x2), some (.int x3), some (.int (x4 + (nI 1))), none, none, none], [], (DB o i0 i1 ext), M1)) ∧ (¬ v2 ≤ x5 → T (d + 1) Q (98, 17, [some (.ref 20), some (.int x1), some (.int x2), some (.int x3), some (.int x4), some (.int x5), some (.int (nI 0)), none], [], (DB o i0 i1 ext), M1)))) : T (d + 1) Q (98, 11, [some (.ref 20), some (.int x1), some (.int x2), some (.int x3), some (.int x4), some (.int x5), none, none], [], (DB o i0 i1 ext), M) := by
  refine T_run 2 (98, 13, [some (.ref 20), some (.int x1), some (.int x2), some (.int x3), some (.int x4), some (.int x5), none, none], [.ref 20, .int x5], (DB o i0 i1 ext), M) rfl ?_
  refine T_callI (D' := (DB o i0 i1 ext)) rfl (CI_mono h (fun v2 M1 h => ?_))
  refine T_br (v2 ≤ x5) (98, 47, [some (.ref 20), some (.int x1), some (.int x2), some (.int x3), some (.int x4), some (.int x5), none, none], [], (DB o i0 i1 ext), M1) (98, 15, [some (.ref 20), some (.int x1), some (.int x2), some (.int x3), some (.int x4), some (.int x5), none, none], [], (DB o i0 i1 ext), M1) rfl (fun hc3 => ?_) (fun hc3 => ?_)
  · have h := h.1 hc3
    refine T_run 2 (98, 6, [some (.ref 20), some (.int x1), some (.int x2), some (.int x3), some (.int (x4 + (nI 1))), some (.int x5), none, none], [], (DB o i0 i1 ext), M1) rfl ?_
    exact T_le (a_le_1 (a_le_1 (a_le_1 (a_le_1 (a_le_1 (a_le_2 rfl (a_le_1 (a_le_1 a_le_n)))))))) h
  · have h := h.2 hc3
    refine T_run 2 (98, 17, [some (.ref 20), some (.int x1), some (.int x2), some (.int x3), some (.int x4), some (.int x5), some (.int (nI 0)), none], [], (DB o i0 i1 ext), M1) rfl ?_
    exact h
set_option maxRecDepth 100000 in
theorem b_X5_reachable_17 {d : Nat} {Q : ARs → Prop} {o i0 i1 : Option Nat} {ext : ADd} {M : AMm} (x1 : Int32) (x2 : Int32) (x3 : Int32) (x4 : Int32) (x5 : Int32) (x6 : Int32) (h : ((nI 4) ≤ x6 → T (d + 1) Q (98, 11, [some (.ref 20), some (.int x1), some (.int x2), some (.int x3), some (.int x4), some (.int (x5 + (nI 1))), none, none], [], (DB o i0 i1 ext), M)) ∧ (¬ (nI 4) ≤ x6 → CI d 93 [.ref 20, .int x1, .int x5, .int x6] (DB o i0 i1 ext) M (DB o i0 i1 ext) (fun v3 M2 => (((x3 >>> (x5 &&& 31)) &&& (nI 1)) = (nI 1) → (v3 < 0 → T (d + 1) Q (98, 17, [some (.ref 20), some (.int x1), some (.int x2), some (.int (x3 ||| (nI 0))), some (.int x4), some (.int x5), some (.int (x6 + (nI 1))), none], [], (DB o i0 i1 ext), M2)) ∧ (¬ v3 < 0 → T (d + 1) Q (98, 17, [some (.ref 20), some (.int x1), some (.int x2), some (.int (x3 ||| ((nI 1) <<< (v3 &&& 31)))), some (.int x4), some (.int x5), some (.int (x6 + (nI 1))), none], [], (DB o i0 i1 ext), M2))) ∧ (¬ ((x3 >>> (x5 &&& 31)) &&& (nI 1)) = (nI 1) → T (d + 1) Q (98, 17, [some (.ref 20), some (.int x1), some (.int x2), some (.int (x3 ||| (nI 0))), some (.int x4), some (.int x5), some (.int (x6 + (nI 1))), none], [], (DB o i0 i1 ext), M2))))) : T (d + 1) Q (98, 17, [some (.ref 20), some (.int x1), some (.int x2), some (.int x3), some (.int x4), some (.int x5), some (.int x6), none], [], (DB o i0 i1 ext), M) := by
  refine T_run 2 (98, 19, [some (.ref 20), some (.int x1), some (.int x2), some (.int x3), some (.int x4), some (.int x5), some (.int x6), none], [.int (nI 4), .int x6], (DB o i0 i1 ext), M) rfl ?_
  refine T_br ((nI 4) ≤ x6) (98, 45, [some (.ref 20), some (.int x1), some (.int x2), some (.int x3), some (.int x4), some (.int x5), some (.int x6), none], [], (DB o i0 i1 ext), M) (98, 20, [some (.ref 20), some (.int x1), some (.int x2), some (.int x3), some (.int x4), some (.int x5), some (.int x6), none], [], (DB o i0 i1 ext), M) rfl (fun hc1 => ?_) (fun hc1 => ?_)
  · have h := h.1 hc1
    refine T_run 2 (98, 11, [some (.ref 20), some (.int x1), some (.int x2), some (.int x3), some (.int x4), some (.int (x5 + (nI 1))), some (.int x6), none], [], (DB o i0 i1 ext), M) rfl ?_
    exact T_le (a_le_1 (a_le_1 (a_le_1 (a_le_1 (a_le_1 (a_le_1 (a_le_2 rfl (a_le_1 a_le_n)))))))) h
  · have h := h.2 hc1
    refine T_run 4 (98, 24, [some (.ref 20), some (.int x1), some (.int x2), some (.int x3), some (.int x4), some (.int x5), some (.int x6), none], [.int x6, .int x5, .int x1, .ref 20], (DB o i0 i1 ext), M) rfl ?_
    refine T_callI (D' := (DB o i0 i1 ext)) rfl (CI_mono h (fun v3 M2 h => ?_))
    refine T_run 8 (98, 33, [some (.ref 20), some (.int x1), some (.int x2), some (.int x3), some (.int x4), some (.int x5), some (.int x6), some (.int v3)], [.int (nI 1), .int ((x3 >>> (x5 &&& 31)) &&& (nI 1)), .int x3], (DB o i0 i1 ext), M2) rfl ?_
    refine T_br (((x3 >>> (x5 &&& 31)) &&& (nI 1)) = (nI 1)) (98, 34, [some (.ref 20), some (.int x1), some (.int x2), some (.int x3), some (.int x4), some (.int x5), some (.int x6), some (.int v3)], [.int x3], (DB o i0 i1 ext), M2) (98, 40, [some (.ref 20), some (.int x1), some (.int x2), some (.int x3), some (.int x4), some (.int x5), some (.int x6), some (.int v3)], [.int x3], (DB o i0 i1 ext), M2) rfl (fun hc4 => ?_) (fun hc4 => ?_)
    · have h := h.1 hc4
      refine T_run 1 (98, 35, [some (.ref 20), some (.int x1), some (.int x2), some (.int x3), some (.int x4), some (.int x5), some (.int x6), some (.int v3)], [.int v3, .int x3], (DB o i0 i1 ext), M2) rfl ?_
      refine T_br (v3 < 0) (98, 40, [some (.ref 20), some (.int x1), some (.int x2), some (.int x3), some (.int x4), some (.int x5), some (.int x6), some (.int v3)], [.int x3], (DB o i0 i1 ext), M2) (98, 36, [some (.ref 20), some (.int x1), some (.int x2), some (.int x3), some (.int x4), some (.int x5), some (.int x6), some (.int v3)], [.int x3], (DB o i0 i1 ext), M2) rfl (fun hc5 => ?_) (fun hc5 => ?_)
      · have h := h.1 hc5
        refine T_run 5 (98, 17, [some (.ref 20), some (.int x1), some (.int x2), some (.int (x3 ||| (nI 0))), some (.int x4), some (.int x5), some (.int (x6 + (nI 1))), some (.int v3)], [], (DB o i0 i1 ext), M2) rfl ?_
        exact T_le (a_le_1 (a_le_1 (a_le_1 (a_le_1 (a_le_1 (a_le_1 (a_le_1 (a_le_2 rfl a_le_n)))))))) h
      · have h := h.2 hc5
        refine T_run 8 (98, 17, [some (.ref 20), some (.int x1), some (.int x2), some (.int (x3 ||| ((nI 1) <<< (v3 &&& 31)))), some (.int x4), some (.int x5), some (.int (x6 + (nI 1))), some (.int v3)], [], (DB o i0 i1 ext), M2) rfl ?_
        exact T_le (a_le_1 (a_le_1 (a_le_1 (a_le_1 (a_le_1 (a_le_1 (a_le_1 (a_le_2 rfl a_le_n)))))))) h
    · have h := h.2 hc4
      refine T_run 5 (98, 17, [some (.ref 20), some (.int x1), some (.int x2), some (.int (x3 ||| (nI 0))), some (.int x4), some (.int x5), some (.int (x6 + (nI 1))), some (.int v3)], [], (DB o i0 i1 ext), M2) rfl ?_
      exact T_le (a_le_1 (a_le_1 (a_le_1 (a_le_1 (a_le_1 (a_le_1 (a_le_1 (a_le_2 rfl a_le_n)))))))) h
set_option maxRecDepth 100000 in
theorem b_X5_earsOf_0 {d : Nat} {Q : ARs → Prop} {o i0 i1 : Option Nat} {ext : ADd} {M : AMm} (x1 : Int32) (h : T d Q (99, 4, [some (.ref 20), some (.int x1), some (.int (nI 0)), some (.int (nI 0))], [], (DB o i0 i1 ext), M)) : T d Q (ent 99 [.ref 20, .int x1] (DB o i0 i1 ext) M) := by
  refine T_run 4 (99, 4, [some (.ref 20), some (.int x1), some (.int (nI 0)), some (.int (nI 0))], [], (DB o i0 i1 ext), M) rfl ?_
  exact h
set_option maxRecDepth 100000 in
theorem b_X5_earsOf_4 {d : Nat} {Q : ARs → Prop} {o i0 i1 : Option Nat} {ext : ADd} {M : AMm} (x1 : Int32) (x2 : Int32) (x3 : Int32) (h : CI d 77 [.ref 20] (DB o i0 i1 ext) M (DB o i0 i1 ext) (fun v2 M1 => (v2 ≤ x3 → Q (some (.int x2), (DB o i0 i1 ext), M1)) ∧ (¬ v2 ≤ x3 → (((x1 >>> (x3 &&& 31)) &&& (nI 1)) = (nI 1) → (vp_in x3 16) ∧ (T (d + 1) Q (99, 4, [some (.ref 20), some (.int x1), some (.int (x2 + (M1 21 x3.toNatClampNeg))), some (.int (x3 + (nI 1)))], [], (DB o i0 i1 ext), M1))) ∧ (¬ ((x1 >>> (x3 &&& 31)) &&& (nI 1)) = (nI 1) → T (d + 1) Q (99, 4, [some (.ref 20), some (.int x1), some (.int (x2 + (nI 0))), some (.int (x3 + (nI 1)))], [], (DB o i0 i1 ext), M1))))) : T (d + 1) Q (99, 4, [some (.ref 20), some (.int x1), some (.int x2), some (.int x3)], [], (DB o i0 i1 ext), M) := by
  refine T_run 2 (99, 6, [some (.ref 20), some (.int x1), some (.int x2), some (.int x3)], [.ref 20, .int x3], (DB o i0 i1 ext), M) rfl ?_
  refine T_callI (D' := (DB o i0 i1 ext)) rfl (CI_mono h (fun v2 M1 h => ?_))
  refine T_br (v2 ≤ x3) (99, 26, [some (.ref 20), some (.int x1), some (.int x2), some (.int x3)], [], (DB o i0 i1 ext), M1) (99, 8, [some (.ref 20), some (.int x1), some (.int x2), some (.int x3)], [], (DB o i0 i1 ext), M1) rfl (fun hc3 => ?_) (fun hc3 => ?_)
  · have h := h.1 hc3
    refine T_run 1 (99, 27, [some (.ref 20), some (.int x1), some (.int x2), some (.int x3)], [.int x2], (DB o i0 i1 ext), M1) rfl ?_
    exact T_ret rfl h
  · have h := h.2 hc3
    refine T_run 7 (99, 15, [some (.ref 20), some (.int x1), some (.int x2), some (.int x3)], [.int (nI 1), .int ((x1 >>> (x3 &&& 31)) &&& (nI 1)), .int x2], (DB o i0 i1 ext), M1) rfl ?_
    refine T_br (((x1 >>> (x3 &&& 31)) &&& (nI 1)) = (nI 1)) (99, 16, [some (.ref 20), some (.int x1), some (.int x2), some (.int x3)], [.int x2], (DB o i0 i1 ext), M1) (99, 21, [some (.ref 20), some (.int x1), some (.int x2), some (.int x3)], [.int x2], (DB o i0 i1 ext), M1) rfl (fun hc4 => ?_) (fun hc4 => ?_)
    · have h := h.1 hc4
      refine T_run 3 (99, 19, [some (.ref 20), some (.int x1), some (.int x2), some (.int x3)], [.int x3, .ref 21, .int x2], (DB o i0 i1 ext), M1) rfl ?_
      refine T_gd (x3 < 0 ∨ 16 ≤ x3.toNatClampNeg) (99, 20, [some (.ref 20), some (.int x1), some (.int x2), some (.int x3)], [.int (M1 21 x3.toNatClampNeg), .int x2], (DB o i0 i1 ext), M1) rfl h.1 ?_
      have h := h.2
      refine T_run 5 (99, 4, [some (.ref 20), some (.int x1), some (.int (x2 + (M1 21 x3.toNatClampNeg))), some (.int (x3 + (nI 1)))], [], (DB o i0 i1 ext), M1) rfl ?_
      exact h
    · have h := h.2 hc4
      refine T_run 5 (99, 4, [some (.ref 20), some (.int x1), some (.int (x2 + (nI 0))), some (.int (x3 + (nI 1)))], [], (DB o i0 i1 ext), M1) rfl ?_
      exact h
set_option maxRecDepth 100000 in
theorem b_X5_way_0 {d : Nat} {Q : ARs → Prop} {o i0 i1 : Option Nat} {ext : ADd} {M : AMm} (x1 : Int32) (h : CI d 74 [.long x1.toInt64, .long (lN 0), .long (lN 6)] (DB o i0 i1 ext) M (DB o i0 i1 ext) (fun v2 M1 => (v2 = 0 → Q (some (.int (-(nI 2))), (DB o i0 i1 ext), M1)) ∧ (¬ v2 = 0 → CI d 85 [.ref 20] (DB o i0 i1 ext) M1 (DB o i0 i1 ext) (fun v5 M4 => (v5 < 0 → CI d 96 [.ref 20] (DB o i0 i1 ext) M4 (DB o i0 i1 ext) (fun v8 M7 => (v8 = 0 → Q (some (.int (-(nI 3))), (DB o i0 i1 ext), M7)) ∧ (¬ v8 = 0 → (x1 = nI 0 → Q (some (.int (M7 20 8)), (DB o i0 i1 ext), M7)) ∧ (¬ x1 = nI 0 → (x1 = nI 1 → CI d 75 [.int (M7 20 7)] (DB o i0 i1 ext) M7 (DB o i0 i1 ext) (fun v11 M10 => Q (some (.int v11), (DB o i0 i1 ext), M10))) ∧ (¬ x1 = nI 1 → (x1 = nI 2 → CI d 99 [.ref 20, .int (M7 20 7)] (DB o i0 i1 ext) M7 (DB o i0 i1 ext) (fun v13 M12 => Q (some (.int v13), (DB o i0 i1 ext), M12))) ∧ (¬ x1 = nI 2 → (x1 = nI 3 → CI d 87 [.ref 20] (DB o i0 i1 ext) M7 (DB o i0 i1 ext) (fun v15 M14 => CI d 98 [.ref 20, .int (M14 20 7), .int (M14 20 8)] (DB o i0 i1 ext) M14 (DB o i0 i1 ext) (fun v17 M16 => Q (some (.int ((v15 &&& ((M14 20 7) ^^^ (-(nI 1)))) &&& (v17 ^^^ (-(nI 1))))), (DB o i0 i1 ext), M16)))) ∧ (¬ x1 = nI 3 → (x1 = nI 4 → CI d 94 [.ref 20, .int (M7 20 7), .int (M7 20 8)] (DB o i0 i1 ext) M7 (DB o i0 i1 ext) (fun v19 M18 => (v19 = 0 → Q (some (.int (nI 0)), (DB o i0 i1 ext), M18)) ∧ (¬ v19 = 0 → Q (some (.int (nI 1)), (DB o i0 i1 ext), M18)))) ∧ (¬ x1 = nI 4 → (x1 = nI 5 → Q (some (.int (M7 20 9)), (DB o i0 i1 ext), M7)) ∧ (¬ x1 = nI 5 → Q (some (.int (M7 20 7)), (DB o i0 i1 ext), M7)))))))))) ∧ (¬ v5 < 0 → Q (some (.int (-(nI 5))), (DB o i0 i1 ext), M4)))))) : T (d + 1) Q (ent 100 [.ref 20, .int x1] (DB o i0 i1 ext) M) := by
  refine T_run 4 (100, 4, [some (.ref 20), some (.int x1)], [.long (lN 6), .long (lN 0), .long x1.toInt64], (DB o i0 i1 ext), M) rfl ?_
  refine T_callI (D' := (DB o i0 i1 ext)) rfl (CI_mono h (fun v2 M1 h => ?_))
  refine T_br (v2 = 0) (100, 6, [some (.ref 20), some (.int x1)], [], (DB o i0 i1 ext), M1) (100, 8, [some (.ref 20), some (.int x1)], [], (DB o i0 i1 ext), M1) rfl (fun hc3 => ?_) (fun hc3 => ?_)
  · have h := h.1 hc3
    refine T_run 1 (100, 7, [some (.ref 20), some (.int x1)], [.int (-(nI 2))], (DB o i0 i1 ext), M1) rfl ?_
    exact T_ret rfl h
  · have h := h.2 hc3
    refine T_run 1 (100, 9, [some (.ref 20), some (.int x1)], [.ref 20], (DB o i0 i1 ext), M1) rfl ?_
    refine T_callI (D' := (DB o i0 i1 ext)) rfl (CI_mono h (fun v5 M4 h => ?_))
    refine T_br (v5 < 0) (100, 13, [some (.ref 20), some (.int x1)], [], (DB o i0 i1 ext), M4) (100, 11, [some (.ref 20), some (.int x1)], [], (DB o i0 i1 ext), M4) rfl (fun hc6 => ?_) (fun hc6 => ?_)
    · have h := h.1 hc6
      refine T_run 1 (100, 14, [some (.ref 20), some (.int x1)], [.ref 20], (DB o i0 i1 ext), M4) rfl ?_
      refine T_callI (D' := (DB o i0 i1 ext)) rfl (CI_mono h (fun v8 M7 h => ?_))
      refine T_br (v8 = 0) (100, 16, [some (.ref 20), some (.int x1)], [], (DB o i0 i1 ext), M7) (100, 18, [some (.ref 20), some (.int x1)], [], (DB o i0 i1 ext), M7) rfl (fun hc9 => ?_) (fun hc9 => ?_)
      · have h := h.1 hc9
        refine T_run 1 (100, 17, [some (.ref 20), some (.int x1)], [.int (-(nI 3))], (DB o i0 i1 ext), M7) rfl ?_
        exact T_ret rfl h
      · have h := h.2 hc9
        refine T_run 1 (100, 19, [some (.ref 20), some (.int x1)], [.int x1], (DB o i0 i1 ext), M7) rfl ?_
        by_cases hc0 : x1 = nI 0
        · have h := h.1 hc0
          refine T_ts (x := x1) rfl 0 20 hc0 rfl ?_
          refine T_run 2 (100, 22, [some (.ref 20), some (.int x1)], [.int (M7 20 8)], (DB o i0 i1 ext), M7) rfl ?_
          exact T_ret rfl h
        have h := h.2 hc0
        by_cases hc1 : x1 = nI 1
        · have h := h.1 hc1
          refine T_ts (x := x1) rfl 1 23 hc1 rfl ?_
          refine T_run 2 (100, 25, [some (.ref 20), some (.int x1)], [.int (M7 20 7)], (DB o i0 i1 ext), M7) rfl ?_
          refine T_callI (D' := (DB o i0 i1 ext)) rfl (CI_mono h (fun v11 M10 h => ?_))
          exact T_ret rfl h
        have h := h.2 hc1
        by_cases hc2 : x1 = nI 2
        · have h := h.1 hc2
          refine T_ts (x := x1) rfl 2 27 hc2 rfl ?_
          refine T_run 3 (100, 30, [some (.ref 20), some (.int x1)], [.int (M7 20 7), .ref 20], (DB o i0 i1 ext), M7) rfl ?_
          refine T_callI (D' := (DB o i0 i1 ext)) rfl (CI_mono h (fun v13 M12 h => ?_))
          exact T_ret rfl h
        have h := h.2 hc2
        by_cases hc3 : x1 = nI 3
        · have h := h.1 hc3
          refine T_ts (x := x1) rfl 3 32 hc3 rfl ?_
          refine T_run 1 (100, 33, [some (.ref 20), some (.int x1)], [.ref 20], (DB o i0 i1 ext), M7) rfl ?_
          refine T_callI (D' := (DB o i0 i1 ext)) rfl (CI_mono h (fun v15 M14 h => ?_))
          refine T_run 10 (100, 44, [some (.ref 20), some (.int x1)], [.int (M14 20 8), .int (M14 20 7), .ref 20, .int (v15 &&& ((M14 20 7) ^^^ (-(nI 1))))], (DB o i0 i1 ext), M14) rfl ?_
          refine T_callI (D' := (DB o i0 i1 ext)) rfl (CI_mono h (fun v17 M16 h => ?_))
          refine T_run 3 (100, 48, [some (.ref 20), some (.int x1)], [.int ((v15 &&& ((M14 20 7) ^^^ (-(nI 1)))) &&& (v17 ^^^ (-(nI 1))))], (DB o i0 i1 ext), M16) rfl ?_
          exact T_ret rfl h
        have h := h.2 hc3
        by_cases hc4 : x1 = nI 4
        · have h := h.1 hc4
          refine T_ts (x := x1) rfl 4 49 hc4 rfl ?_
          refine T_run 5 (100, 54, [some (.ref 20), some (.int x1)], [.int (M7 20 8), .int (M7 20 7), .ref 20], (DB o i0 i1 ext), M7) rfl ?_
          refine T_callI (D' := (DB o i0 i1 ext)) rfl (CI_mono h (fun v19 M18 h => ?_))
          refine T_br (v19 = 0) (100, 58, [some (.ref 20), some (.int x1)], [], (DB o i0 i1 ext), M18) (100, 56, [some (.ref 20), some (.int x1)], [], (DB o i0 i1 ext), M18) rfl (fun hc20 => ?_) (fun hc20 => ?_)
          · have h := h.1 hc20
            refine T_run 1 (100, 59, [some (.ref 20), some (.int x1)], [.int (nI 0)], (DB o i0 i1 ext), M18) rfl ?_
            exact T_ret rfl h
          · have h := h.2 hc20
            refine T_run 2 (100, 59, [some (.ref 20), some (.int x1)], [.int (nI 1)], (DB o i0 i1 ext), M18) rfl ?_
            exact T_ret rfl h
        have h := h.2 hc4
        by_cases hc5 : x1 = nI 5
        · have h := h.1 hc5
          refine T_ts (x := x1) rfl 5 60 hc5 rfl ?_
          refine T_run 2 (100, 62, [some (.ref 20), some (.int x1)], [.int (M7 20 9)], (DB o i0 i1 ext), M7) rfl ?_
          exact T_ret rfl h
        have h := h.2 hc5
        refine T_td (x := x1) rfl 6 rfl (by decide) (fun i hi => ?_) ?_
        · match i, hi with
          | 0, _ => exact hc0
          | 1, _ => exact hc1
          | 2, _ => exact hc2
          | 3, _ => exact hc3
          | 4, _ => exact hc4
          | 5, _ => exact hc5
          | i + 6, hi => exact absurd hi (by omega)
        refine T_run 2 (100, 65, [some (.ref 20), some (.int x1)], [.int (M7 20 7)], (DB o i0 i1 ext), M7) rfl ?_
        exact T_ret rfl h
    · have h := h.2 hc6
      refine T_run 1 (100, 12, [some (.ref 20), some (.int x1)], [.int (-(nI 5))], (DB o i0 i1 ext), M4) rfl ?_
      exact T_ret rfl h
set_option maxRecDepth 100000 in
theorem b_X5_at_0 {d : Nat} {Q : ARs → Prop} {o i0 i1 : Option Nat} {ext : ADd} {M : AMm} (x0 : Int32) (x1 : Int32) (h : Q (some (.int (((nI 16) * x0) + x1)), (DB o i0 i1 ext), M)) : T d Q (ent 101 [.int x0, .int x1] (DB o i0 i1 ext) M) := by
  refine T_run 5 (101, 5, [some (.int x0), some (.int x1)], [.int (((nI 16) * x0) + x1)], (DB o i0 i1 ext), M) rfl ?_
  exact T_ret rfl h
set_option maxRecDepth 100000 in
theorem b_X5_findLongest_0 {d : Nat} {Q : ARs → Prop} {o i0 i1 : Option Nat} {ext : ADd} {M : AMm}  (h : CI d 87 [.ref 20] (DB o i0 i1 ext) M (DB o i0 i1 ext) (fun v2 M1 => T (d + 1) Q (102, 5, [some (.ref 20), some (.int v2), some (.int v2), none, none, none, none, none], [], (DB o i0 i1 ext), M1))) : T (d + 1) Q (ent 102 [.ref 20] (DB o i0 i1 ext) M) := by
  refine T_run 1 (102, 1, [some (.ref 20), none, none, none, none, none, none, none], [.ref 20], (DB o i0 i1 ext), M) rfl ?_
  refine T_callI (D' := (DB o i0 i1 ext)) rfl (CI_mono h (fun v2 M1 h => ?_))
  refine T_run 3 (102, 5, [some (.ref 20), some (.int v2), some (.int v2), none, none, none, none, none], [], (DB o i0 i1 ext), M1) rfl ?_
  exact h
set_option maxRecDepth 100000 in
theorem b_X5_findLongest_5 {d : Nat} {Q : ARs → Prop} {o i0 i1 : Option Nat} {ext : ADd} {M : AMm} (x1 : Int32) (x2 : Int32) (h : (x2 ≤ 0 → Q (none, (DB o i0 i1 ext), M)) ∧ (¬ x2 ≤ 0 → T d Q (102, 9, [some (.ref 20), some (.int x1), some (.int x2), some (.int (nI 0)), none, none, none, none], [], (DB o i0 i1 ext), M))) : T d Q (102, 5, [some (.ref 20), some (.int x1), some (.int x2), none, none, none, none, none], [], (DB o i0 i1 ext), M) := by
  refine T_run 1 (102, 6, [some (.ref 20), some (.int x1), some (.int x2), none, none, none, none, none], [.int x2], (DB o i0 i1 ext), M) rfl ?_
  refine T_br (x2 ≤ 0) (102, 76, [some (.ref 20), some (.int x1), some (.int x2), none, none, none, none, none], [], (DB o i0 i1 ext), M) (102, 7, [some (.ref 20), some (.int x1), some (.int x2), none, none, none, none, none], [], (DB o i0 i1 ext), M) rfl (fun hc1 => ?_) (fun hc1 => ?_)
  · have h := h.1 hc1
    exact T_ret rfl h
  · have h := h.2 hc1
    refine T_run 2 (102, 9, [some (.ref 20), some (.int x1), some (.int x2), some (.int (nI 0)), none, none, none, none], [], (DB o i0 i1 ext), M) rfl ?_
    exact h
set_option maxRecDepth 100000 in
theorem b_X5_findLongest_9 {d : Nat} {Q : ARs → Prop} {o i0 i1 : Option Nat} {ext : ADd} {M : AMm} (x1 : Int32) (x2 : Int32) (x3 : Int32) (h : CI d 77 [.ref 20] (DB o i0 i1 ext) M (DB o i0 i1 ext) (fun v2 M1 => (v2 ≤ x3 → T (d + 1) Q (102, 5, [some (.ref 20), some (.int x1), some (.int (x2 + (-(nI 1)))), none, none, none, none, none], [], (DB o i0 i1 ext), M1)) ∧ (¬ v2 ≤ x3 → ((x2 &&& (x1 ^^^ (-(nI 1)))) = 0 → (((x2 >>> (x3 &&& 31)) &&& (nI 1)) = (nI 1) → T (d + 1) Q (102, 30, [some (.ref 20), some (.int x1), some (.int x2), some (.int x3), some (.int (nI 0)), some (.int (nI 0)), none, none], [], (DB o i0 i1 ext), M1)) ∧ (¬ ((x2 >>> (x3 &&& 31)) &&& (nI 1)) = (nI 1) → T (d + 1) Q (102, 9, [some (.ref 20), some (.int x1), some (.int x2), some (.int (x3 + (nI 1))), none, none, none, none], [], (DB o i0 i1 ext), M1))) ∧ (¬ (x2 &&& (x1 ^^^ (-(nI 1)))) = 0 → T (d + 1) Q (102, 5, [some (.ref 20), some (.int x1), some (.int (x2 + (-(nI 1)))), none, none, none, none, none], [], (DB o i0 i1 ext), M1))))) : T (d + 1) Q (102, 9, [some (.ref 20), some (.int x1), some (.int x2), some (.int x3), none, none, none, none], [], (DB o i0 i1 ext), M) := by
  refine T_run 2 (102, 11, [some (.ref 20), some (.int x1), some (.int x2), some (.int x3), none, none, none, none], [.ref 20, .int x3], (DB o i0 i1 ext), M) rfl ?_
  refine T_callI (D' := (DB o i0 i1 ext)) rfl (CI_mono h (fun v2 M1 h => ?_))
  refine T_br (v2 ≤ x3) (102, 74, [some (.ref 20), some (.int x1), some (.int x2), some (.int x3), none, none, none, none], [], (DB o i0 i1 ext), M1) (102, 13, [some (.ref 20), some (.int x1), some (.int x2), some (.int x3), none, none, none, none], [], (DB o i0 i1 ext), M1) rfl (fun hc3 => ?_) (fun hc3 => ?_)
  · have h := h.1 hc3
    refine T_run 2 (102, 5, [some (.ref 20), some (.int x1), some (.int (x2 + (-(nI 1)))), some (.int x3), none, none, none, none], [], (DB o i0 i1 ext), M1) rfl ?_
    exact T_le (a_le_1 (a_le_1 (a_le_1 (a_le_2 rfl (a_le_1 (a_le_1 (a_le_1 (a_le_1 a_le_n)))))))) h
  · have h := h.2 hc3
    refine T_run 5 (102, 18, [some (.ref 20), some (.int x1), some (.int x2), some (.int x3), none, none, none, none], [.int (x2 &&& (x1 ^^^ (-(nI 1))))], (DB o i0 i1 ext), M1) rfl ?_
    refine T_br (_) (102, 19, [some (.ref 20), some (.int x1), some (.int x2), some (.int x3), none, none, none, none], [], (DB o i0 i1 ext), M1) (102, 74, [some (.ref 20), some (.int x1), some (.int x2), some (.int x3), none, none, none, none], [], (DB o i0 i1 ext), M1) rfl (fun hc4 => ?_) (fun hc4 => ?_)
    · have h := h.1 hc4
      refine T_run 6 (102, 25, [some (.ref 20), some (.int x1), some (.int x2), some (.int x3), none, none, none, none], [.int (nI 1), .int ((x2 >>> (x3 &&& 31)) &&& (nI 1))], (DB o i0 i1 ext), M1) rfl ?_
      refine T_br (((x2 >>> (x3 &&& 31)) &&& (nI 1)) = (nI 1)) (102, 26, [some (.ref 20), some (.int x1), some (.int x2), some (.int x3), none, none, none, none], [], (DB o i0 i1 ext), M1) (102, 72, [some (.ref 20), some (.int x1), some (.int x2), some (.int x3), none, none, none, none], [], (DB o i0 i1 ext), M1) rfl (fun hc5 => ?_) (fun hc5 => ?_)
      · have h := h.1 hc5
        refine T_run 4 (102, 30, [some (.ref 20), some (.int x1), some (.int x2), some (.int x3), some (.int (nI 0)), some (.int (nI 0)), none, none], [], (DB o i0 i1 ext), M1) rfl ?_
        exact h
      · have h := h.2 hc5
        refine T_run 2 (102, 9, [some (.ref 20), some (.int x1), some (.int x2), some (.int (x3 + (nI 1))), none, none, none, none], [], (DB o i0 i1 ext), M1) rfl ?_
        exact h
    · have h := h.2 hc4
      refine T_run 2 (102, 5, [some (.ref 20), some (.int x1), some (.int (x2 + (-(nI 1)))), some (.int x3), none, none, none, none], [], (DB o i0 i1 ext), M1) rfl ?_
      exact T_le (a_le_1 (a_le_1 (a_le_1 (a_le_2 rfl (a_le_1 (a_le_1 (a_le_1 (a_le_1 a_le_n)))))))) h
set_option maxRecDepth 100000 in
theorem b_X5_findLongest_30 {d : Nat} {Q : ARs → Prop} {o i0 i1 : Option Nat} {ext : ADd} {M : AMm} (x1 : Int32) (x2 : Int32) (x3 : Int32) (x4 : Int32) (x5 : Int32) (h : ((nI 4) ≤ x5 → CI d 101 [.int x2, .int x3] (DB o i0 i1 ext) M (DB o i0 i1 ext) (fun v3 M2 => (vp_in v3 1179648) ∧ (T (d + 1) Q (102, 9, [some (.ref 20), some (.int x1), some (.int x2), some (.int (x3 + (nI 1))), none, none, none, none], [], (DB o i0 i1 ext), (ms M2 23 v3.toNatClampNeg x4))))) ∧ (¬ (nI 4) ≤ x5 → CI d 93 [.ref 20, .int x2, .int x3, .int x5] (DB o i0 i1 ext) M (DB o i0 i1 ext) (fun v5 M4 => (0 ≤ v5 → CI d 101 [.int (x2 ||| ((nI 1) <<< (v5 &&& 31))), .int v5] (DB o i0 i1 ext) M4 (DB o i0 i1 ext) (fun v8 M7 => (vp_in v8 1179648) ∧ ((((nI 1) + (M7 23 v8.toNatClampNeg)) ≤ x4 → T (d + 1) Q (102, 30, [some (.ref 20), some (.int x1), some (.int x2), some (.int x3), some (.int x4), some (.int (x5 + (nI 1))), none, none], [], (DB o i0 i1 ext), M7)) ∧ (¬ ((nI 1) + (M7 23 v8.toNatClampNeg)) ≤ x4 → T (d + 1) Q (102, 30, [some (.ref 20), some (.int x1), some (.int x2), some (.int x3), some (.int ((nI 1) + (M7 23 v8.toNatClampNeg))), some (.int (x5 + (nI 1))), none, none], [], (DB o i0 i1 ext), M7))))) ∧ (¬ 0 ≤ v5 → ((nI 0) ≤ x4 → T (d + 1) Q (102, 30, [some (.ref 20), some (.int x1), some (.int x2), some (.int x3), some (.int x4), some (.int (x5 + (nI 1))), none, none], [], (DB o i0 i1 ext), M4)) ∧ (¬ (nI 0) ≤ x4 → T (d + 1) Q (102, 30, [some (.ref 20), some (.int x1), some (.int x2), some (.int x3), some (.int (nI 0)), some (.int (x5 + (nI 1))), none, none], [], (DB o i0 i1 ext), M4)))))) : T (d + 1) Q (102, 30, [some (.ref 20), some (.int x1), some (.int x2), some (.int x3), some (.int x4), some (.int x5), none, none], [], (DB o i0 i1 ext), M) := by
  refine T_run 2 (102, 32, [some (.ref 20), some (.int x1), some (.int x2), some (.int x3), some (.int x4), some (.int x5), none, none], [.int (nI 4), .int x5], (DB o i0 i1 ext), M) rfl ?_
  refine T_br ((nI 4) ≤ x5) (102, 65, [some (.ref 20), some (.int x1), some (.int x2), some (.int x3), some (.int x4), some (.int x5), none, none], [], (DB o i0 i1 ext), M) (102, 33, [some (.ref 20), some (.int x1), some (.int x2), some (.int x3), some (.int x4), some (.int x5), none, none], [], (DB o i0 i1 ext), M) rfl (fun hc1 => ?_) (fun hc1 => ?_)
  · have h := h.1 hc1
    refine T_run 4 (102, 69, [some (.ref 20), some (.int x1), some (.int x2), some (.int x3), some (.int x4), some (.int x5), none, none], [.int x3, .int x2, .ref 23], (DB o i0 i1 ext), M) rfl ?_
    refine T_callI (D' := (DB o i0 i1 ext)) rfl (CI_mono h (fun v3 M2 h => ?_))
    refine T_run 1 (102, 71, [some (.ref 20), some (.int x1), some (.int x2), some (.int x3), some (.int x4), some (.int x5), none, none], [.int x4, .int v3, .ref 23], (DB o i0 i1 ext), M2) rfl ?_
    refine T_gd (v3 < 0 ∨ 1179648 ≤ v3.toNatClampNeg) (102, 72, [some (.ref 20), some (.int x1), some (.int x2), some (.int x3), some (.int x4), some (.int x5), none, none], [], (DB o i0 i1 ext), (ms M2 23 v3.toNatClampNeg x4)) rfl h.1 ?_
    have h := h.2
    refine T_run 2 (102, 9, [some (.ref 20), some (.int x1), some (.int x2), some (.int (x3 + (nI 1))), some (.int x4), some (.int x5), none, none], [], (DB o i0 i1 ext), (ms M2 23 v3.toNatClampNeg x4)) rfl ?_
    exact T_le (a_le_1 (a_le_1 (a_le_1 (a_le_1 (a_le_2 rfl (a_le_2 rfl (a_le_1 (a_le_1 a_le_n)))))))) h
  · have h := h.2 hc1
    refine T_run 4 (102, 37, [some (.ref 20), some (.int x1), some (.int x2), some (.int x3), some (.int x4), some (.int x5), none, none], [.int x5, .int x3, .int x2, .ref 20], (DB o i0 i1 ext), M) rfl ?_
    refine T_callI (D' := (DB o i0 i1 ext)) rfl (CI_mono h (fun v5 M4 h => ?_))
    refine T_run 2 (102, 40, [some (.ref 20), some (.int x1), some (.int x2), some (.int x3), some (.int x4), some (.int x5), some (.int v5), none], [.int v5], (DB o i0 i1 ext), M4) rfl ?_
    refine T_br (0 ≤ v5) (102, 43, [some (.ref 20), some (.int x1), some (.int x2), some (.int x3), some (.int x4), some (.int x5), some (.int v5), none], [], (DB o i0 i1 ext), M4) (102, 41, [some (.ref 20), some (.int x1), some (.int x2), some (.int x3), some (.int x4), some (.int x5), some (.int v5), none], [], (DB o i0 i1 ext), M4) rfl (fun hc6 => ?_) (fun hc6 => ?_)
    · have h := h.1 hc6
      refine T_run 9 (102, 52, [some (.ref 20), some (.int x1), some (.int x2), some (.int x3), some (.int x4), some (.int x5), some (.int v5), none], [.int v5, .int (x2 ||| ((nI 1) <<< (v5 &&& 31))), .ref 23, .int (nI 1)], (DB o i0 i1 ext), M4) rfl ?_
      refine T_callI (D' := (DB o i0 i1 ext)) rfl (CI_mono h (fun v8 M7 h => ?_))
      refine T_gd (v8 < 0 ∨ 1179648 ≤ v8.toNatClampNeg) (102, 54, [some (.ref 20), some (.int x1), some (.int x2), some (.int x3), some (.int x4), some (.int x5), some (.int v5), none], [.int (M7 23 v8.toNatClampNeg), .int (nI 1)], (DB o i0 i1 ext), M7) rfl h.1 ?_
      have h := h.2
      refine T_run 4 (102, 58, [some (.ref 20), some (.int x1), some (.int x2), some (.int x3), some (.int x4), some (.int x5), some (.int v5), some (.int ((nI 1) + (M7 23 v8.toNatClampNeg)))], [.int x4, .int ((nI 1) + (M7 23 v8.toNatClampNeg))], (DB o i0 i1 ext), M7) rfl ?_
      refine T_br (((nI 1) + (M7 23 v8.toNatClampNeg)) ≤ x4) (102, 61, [some (.ref 20), some (.int x1), some (.int x2), some (.int x3), some (.int x4), some (.int x5), some (.int v5), some (.int ((nI 1) + (M7 23 v8.toNatClampNeg)))], [], (DB o i0 i1 ext), M7) (102, 59, [some (.ref 20), some (.int x1), some (.int x2), some (.int x3), some (.int x4), some (.int x5), some (.int v5), some (.int ((nI 1) + (M7 23 v8.toNatClampNeg)))], [], (DB o i0 i1 ext), M7) rfl (fun hc9 => ?_) (fun hc9 => ?_)
      · have h := h.1 hc9
        refine T_run 4 (102, 30, [some (.ref 20), some (.int x1), some (.int x2), some (.int x3), some (.int x4), some (.int (x5 + (nI 1))), some (.int v5), some (.int ((nI 1) + (M7 23 v8.toNatClampNeg)))], [], (DB o i0 i1 ext), M7) rfl ?_
        exact T_le (a_le_1 (a_le_1 (a_le_1 (a_le_1 (a_le_1 (a_le_1 (a_le_2 rfl (a_le_2 rfl a_le_n)))))))) h
      · have h := h.2 hc9
        refine T_run 5 (102, 30, [some (.ref 20), some (.int x1), some (.int x2), some (.int x3), some (.int ((nI 1) + (M7 23 v8.toNatClampNeg))), some (.int (x5 + (nI 1))), some (.int v5), some (.int ((nI 1) + (M7 23 v8.toNatClampNeg)))], [], (DB o i0 i1 ext), M7) rfl ?_
        exact T_le (a_le_1 (a_le_1 (a_le_1 (a_le_1 (a_le_1 (a_le_1 (a_le_2 rfl (a_le_2 rfl a_le_n)))))))) h
    · have h := h.2 hc6
      refine T_run 5 (102, 58, [some (.ref 20), some (.int x1), some (.int x2), some (.int x3), some (.int x4), some (.int x5), some (.int v5), some (.int (nI 0))], [.int x4, .int (nI 0)], (DB o i0 i1 ext), M4) rfl ?_
      refine T_br ((nI 0) ≤ x4) (102, 61, [some (.ref 20), some (.int x1), some (.int x2), some (.int x3), some (.int x4), some (.int x5), some (.int v5), some (.int (nI 0))], [], (DB o i0 i1 ext), M4) (102, 59, [some (.ref 20), some (.int x1), some (.int x2), some (.int x3), some (.int x4), some (.int x5), some (.int v5), some (.int (nI 0))], [], (DB o i0 i1 ext), M4) rfl (fun hc10 => ?_) (fun hc10 => ?_)
      · have h := h.1 hc10
        refine T_run 4 (102, 30, [some (.ref 20), some (.int x1), some (.int x2), some (.int x3), some (.int x4), some (.int (x5 + (nI 1))), some (.int v5), some (.int (nI 0))], [], (DB o i0 i1 ext), M4) rfl ?_
        exact T_le (a_le_1 (a_le_1 (a_le_1 (a_le_1 (a_le_1 (a_le_1 (a_le_2 rfl (a_le_2 rfl a_le_n)))))))) h
      · have h := h.2 hc10
        refine T_run 5 (102, 30, [some (.ref 20), some (.int x1), some (.int x2), some (.int x3), some (.int (nI 0)), some (.int (x5 + (nI 1))), some (.int v5), some (.int (nI 0))], [], (DB o i0 i1 ext), M4) rfl ?_
        exact T_le (a_le_1 (a_le_1 (a_le_1 (a_le_1 (a_le_1 (a_le_1 (a_le_2 rfl (a_le_2 rfl a_le_n)))))))) h
set_option maxRecDepth 100000 in
theorem b_X5_longest_0 {d : Nat} {Q : ARs → Prop} {o i0 i1 : Option Nat} {ext : ADd} {M : AMm} (x1 : Int32) (h : CV d 102 [.ref 20] (DB o i0 i1 ext) M (DB o i0 i1 ext) (fun M1 => CI d 101 [.int ((nI 1) <<< ((M1 20 3) &&& 31)), .int (M1 20 3)] (DB o i0 i1 ext) M1 (DB o i0 i1 ext) (fun v3 M2 => (vp_in v3 1179648) ∧ ((x1 = (-(nI 1)) → Q (some (.int ((M2 23 v3.toNatClampNeg) + (nI 1))), (DB o i0 i1 ext), M2)) ∧ (¬ x1 = (-(nI 1)) → CI d 74 [.long x1.toInt64, .long (lN 0), .long (((M2 23 v3.toNatClampNeg) - (nI 1)).toInt64)] (DB o i0 i1 ext) M2 (DB o i0 i1 ext) (fun v6 M5 => (v6 = 0 → Q (some (.int (-(nI 6))), (DB o i0 i1 ext), M5)) ∧ (¬ v6 = 0 → T (d + 1) Q (103, 39, [some (.ref 20), some (.int x1), some (.int ((nI 1) <<< ((M1 20 3) &&& 31))), some (.int (M1 20 3)), some (.int (M2 23 v3.toNatClampNeg)), some (.int (nI 0)), some (.int (nI 0)), none], [], (DB o i0 i1 ext), M5)))))))) : T (d + 1) Q (ent 103 [.ref 20, .int x1] (DB o i0 i1 ext) M) := by
  refine T_run 1 (103, 1, [some (.ref 20), some (.int x1), none, none, none, none, none, none], [.ref 20], (DB o i0 i1 ext), M) rfl ?_
  refine T_callV (D' := (DB o i0 i1 ext)) rfl (CV_mono h (fun M1 h => ?_))
  refine T_run 12 (103, 14, [some (.ref 20), some (.int x1), some (.int ((nI 1) <<< ((M1 20 3) &&& 31))), some (.int (M1 20 3)), none, none, none, none], [.int (M1 20 3), .int ((nI 1) <<< ((M1 20 3) &&& 31)), .ref 23], (DB o i0 i1 ext), M1) rfl ?_
  refine T_callI (D' := (DB o i0 i1 ext)) rfl (CI_mono h (fun v3 M2 h => ?_))
  refine T_gd (v3 < 0 ∨ 1179648 ≤ v3.toNatClampNeg) (103, 16, [some (.ref 20), some (.int x1), some (.int ((nI 1) <<< ((M1 20 3) &&& 31))), some (.int (M1 20 3)), none, none, none, none], [.int (M2 23 v3.toNatClampNeg)], (DB o i0 i1 ext), M2) rfl h.1 ?_
  have h := h.2
  refine T_run 3 (103, 19, [some (.ref 20), some (.int x1), some (.int ((nI 1) <<< ((M1 20 3) &&& 31))), some (.int (M1 20 3)), some (.int (M2 23 v3.toNatClampNeg)), none, none, none], [.int (-(nI 1)), .int x1], (DB o i0 i1 ext), M2) rfl ?_
  refine T_br (_) (103, 20, [some (.ref 20), some (.int x1), some (.int ((nI 1) <<< ((M1 20 3) &&& 31))), some (.int (M1 20 3)), some (.int (M2 23 v3.toNatClampNeg)), none, none, none], [], (DB o i0 i1 ext), M2) (103, 24, [some (.ref 20), some (.int x1), some (.int ((nI 1) <<< ((M1 20 3) &&& 31))), some (.int (M1 20 3)), some (.int (M2 23 v3.toNatClampNeg)), none, none, none], [], (DB o i0 i1 ext), M2) rfl (fun hc4 => ?_) (fun hc4 => ?_)
  · have h := h.1 hc4
    refine T_run 3 (103, 23, [some (.ref 20), some (.int x1), some (.int ((nI 1) <<< ((M1 20 3) &&& 31))), some (.int (M1 20 3)), some (.int (M2 23 v3.toNatClampNeg)), none, none, none], [.int ((M2 23 v3.toNatClampNeg) + (nI 1))], (DB o i0 i1 ext), M2) rfl ?_
    exact T_ret rfl h
  · have h := h.2 hc4
    refine T_run 7 (103, 31, [some (.ref 20), some (.int x1), some (.int ((nI 1) <<< ((M1 20 3) &&& 31))), some (.int (M1 20 3)), some (.int (M2 23 v3.toNatClampNeg)), none, none, none], [.long (((M2 23 v3.toNatClampNeg) - (nI 1)).toInt64), .long (lN 0), .long x1.toInt64], (DB o i0 i1 ext), M2) rfl ?_
    refine T_callI (D' := (DB o i0 i1 ext)) rfl (CI_mono h (fun v6 M5 h => ?_))
    refine T_br (v6 = 0) (103, 33, [some (.ref 20), some (.int x1), some (.int ((nI 1) <<< ((M1 20 3) &&& 31))), some (.int (M1 20 3)), some (.int (M2 23 v3.toNatClampNeg)), none, none, none], [], (DB o i0 i1 ext), M5) (103, 35, [some (.ref 20), some (.int x1), some (.int ((nI 1) <<< ((M1 20 3) &&& 31))), some (.int (M1 20 3)), some (.int (M2 23 v3.toNatClampNeg)), none, none, none], [], (DB o i0 i1 ext), M5) rfl (fun hc7 => ?_) (fun hc7 => ?_)
    · have h := h.1 hc7
      refine T_run 1 (103, 34, [some (.ref 20), some (.int x1), some (.int ((nI 1) <<< ((M1 20 3) &&& 31))), some (.int (M1 20 3)), some (.int (M2 23 v3.toNatClampNeg)), none, none, none], [.int (-(nI 6))], (DB o i0 i1 ext), M5) rfl ?_
      exact T_ret rfl h
    · have h := h.2 hc7
      refine T_run 4 (103, 39, [some (.ref 20), some (.int x1), some (.int ((nI 1) <<< ((M1 20 3) &&& 31))), some (.int (M1 20 3)), some (.int (M2 23 v3.toNatClampNeg)), some (.int (nI 0)), some (.int (nI 0)), none], [], (DB o i0 i1 ext), M5) rfl ?_
      exact h
set_option maxRecDepth 100000 in
theorem b_X5_longest_39 {d : Nat} {Q : ARs → Prop} {o i0 i1 : Option Nat} {ext : ADd} {M : AMm} (x1 : Int32) (x2 : Int32) (x3 : Int32) (x4 : Int32) (x5 : Int32) (x6 : Int32) (h : (x1 < x6 → CI d 84 [.int x5] (DB o i0 i1 ext) M (DB o i0 i1 ext) (fun v3 M2 => Q (some (.int v3), (DB o i0 i1 ext), M2))) ∧ (¬ x1 < x6 → CI d 93 [.ref 20, .int x2, .int x3, .int (nI 0)] (DB o i0 i1 ext) M (DB o i0 i1 ext) (fun v5 M4 => T (d + 1) Q (103, 50, [some (.ref 20), some (.int x1), some (.int x2), some (.int x3), some (.int x4), some (.int (nI 0)), some (.int x6), some (.int v5)], [], (DB o i0 i1 ext), M4)))) : T (d + 1) Q (103, 39, [some (.ref 20), some (.int x1), some (.int x2), some (.int x3), some (.int x4), some (.int x5), some (.int x6), none], [], (DB o i0 i1 ext), M) := by
  refine T_run 2 (103, 41, [some (.ref 20), some (.int x1), some (.int x2), some (.int x3), some (.int x4), some (.int x5), some (.int x6), none], [.int x1, .int x6], (DB o i0 i1 ext), M) rfl ?_
  refine T_br (x1 < x6) (103, 85, [some (.ref 20), some (.int x1), some (.int x2), some (.int x3), some (.int x4), some (.int x5), some (.int x6), none], [], (DB o i0 i1 ext), M) (103, 42, [some (.ref 20), some (.int x1), some (.int x2), some (.int x3), some (.int x4), some (.int x5), some (.int x6), none], [], (DB o i0 i1 ext), M) rfl (fun hc1 => ?_) (fun hc1 => ?_)
  · have h := h.1 hc1
    refine T_run 1 (103, 86, [some (.ref 20), some (.int x1), some (.int x2), some (.int x3), some (.int x4), some (.int x5), some (.int x6), none], [.int x5], (DB o i0 i1 ext), M) rfl ?_
    refine T_callI (D' := (DB o i0 i1 ext)) rfl (CI_mono h (fun v3 M2 h => ?_))
    exact T_ret rfl h
  · have h := h.2 hc1
    refine T_run 6 (103, 48, [some (.ref 20), some (.int x1), some (.int x2), some (.int x3), some (.int x4), some (.int (nI 0)), some (.int x6), none], [.int (nI 0), .int x3, .int x2, .ref 20], (DB o i0 i1 ext), M) rfl ?_
    refine T_callI (D' := (DB o i0 i1 ext)) rfl (CI_mono h (fun v5 M4 h => ?_))
    refine T_run 1 (103, 50, [some (.ref 20), some (.int x1), some (.int x2), some (.int x3), some (.int x4), some (.int (nI 0)), some (.int x6), some (.int v5)], [], (DB o i0 i1 ext), M4) rfl ?_
    exact h
set_option maxRecDepth 100000 in
theorem b_X5_longest_50 {d : Nat} {Q : ARs → Prop} {o i0 i1 : Option Nat} {ext : ADd} {M : AMm} (x1 : Int32) (x2 : Int32) (x3 : Int32) (x4 : Int32) (x5 : Int32) (x6 : Int32) (x7 : Int32) (h : (x7 < 0 → CI d 93 [.ref 20, .int x2, .int x3, .int (x5 + (nI 1))] (DB o i0 i1 ext) M (DB o i0 i1 ext) (fun v3 M2 => T (d + 1) Q (103, 50, [some (.ref 20), some (.int x1), some (.int x2), some (.int x3), some (.int x4), some (.int (x5 + (nI 1))), some (.int x6), some (.int v3)], [], (DB o i0 i1 ext), M2))) ∧ (¬ x7 < 0 → CI d 101 [.int (x2 ||| ((nI 1) <<< (x7 &&& 31))), .int x7] (DB o i0 i1 ext) M (DB o i0 i1 ext) (fun v5 M4 => (vp_in v5 1179648) ∧ (((M4 23 v5.toNatClampNeg) = (x4 - (nI 1)) → T (d + 1) Q (103, 39, [some (.ref 20), some (.int x1), some (.int (x2 ||| ((nI 1) <<< (x7 &&& 31)))), some (.int x7), some (.int (x4 + (-(nI 1)))), some (.int x5), some (.int (x6 + (nI 1))), none], [], (DB o i0 i1 ext), M4)) ∧ (¬ (M4 23 v5.toNatClampNeg) = (x4 - (nI 1)) → CI d 93 [.ref 20, .int x2, .int x3, .int (x5 + (nI 1))] (DB o i0 i1 ext) M4 (DB o i0 i1 ext) (fun v8 M7 => T (d + 1) Q (103, 50, [some (.ref 20), some (.int x1), some (.int x2), some (.int x3), some (.int x4), some (.int (x5 + (nI 1))), some (.int x6), some (.int v8)], [], (DB o i0 i1 ext), M7))))))) : T (d + 1) Q (103, 50, [some (.ref 20), some (.int x1), some (.int x2), some (.int x3), some (.int x4), some (.int x5), some (.int x6), some (.int x7)], [], (DB o i0 i1 ext), M) := by
  refine T_run 1 (103, 51, [some (.ref 20), some (.int x1), some (.int x2), some (.int x3), some (.int x4), some (.int x5), some (.int x6), some (.int x7)], [.int x7], (DB o i0 i1 ext), M) rfl ?_
  refine T_br (x7 < 0) (103, 66, [some (.ref 20), some (.int x1), some (.int x2), some (.int x3), some (.int x4), some (.int x5), some (.int x6), some (.int x7)], [], (DB o i0 i1 ext), M) (103, 52, [some (.ref 20), some (.int x1), some (.int x2), some (.int x3), some (.int x4), some (.int x5), some (.int x6), some (.int x7)], [], (DB o i0 i1 ext), M) rfl (fun hc1 => ?_) (fun hc1 => ?_)
  · have h := h.1 hc1
    refine T_run 5 (103, 71, [some (.ref 20), some (.int x1), some (.int x2), some (.int x3), some (.int x4), some (.int (x5 + (nI 1))), some (.int x6), some (.int x7)], [.int (x5 + (nI 1)), .int x3, .int x2, .ref 20], (DB o i0 i1 ext), M) rfl ?_
    refine T_callI (D' := (DB o i0 i1 ext)) rfl (CI_mono h (fun v3 M2 h => ?_))
    refine T_run 2 (103, 50, [some (.ref 20), some (.int x1), some (.int x2), some (.int x3), some (.int x4), some (.int (x5 + (nI 1))), some (.int x6), some (.int v3)], [], (DB o i0 i1 ext), M2) rfl ?_
    exact h
  · have h := h.2 hc1
    refine T_run 8 (103, 60, [some (.ref 20), some (.int x1), some (.int x2), some (.int x3), some (.int x4), some (.int x5), some (.int x6), some (.int x7)], [.int x7, .int (x2 ||| ((nI 1) <<< (x7 &&& 31))), .ref 23], (DB o i0 i1 ext), M) rfl ?_
    refine T_callI (D' := (DB o i0 i1 ext)) rfl (CI_mono h (fun v5 M4 h => ?_))
    refine T_gd (v5 < 0 ∨ 1179648 ≤ v5.toNatClampNeg) (103, 62, [some (.ref 20), some (.int x1), some (.int x2), some (.int x3), some (.int x4), some (.int x5), some (.int x6), some (.int x7)], [.int (M4 23 v5.toNatClampNeg)], (DB o i0 i1 ext), M4) rfl h.1 ?_
    have h := h.2
    refine T_run 3 (103, 65, [some (.ref 20), some (.int x1), some (.int x2), some (.int x3), some (.int x4), some (.int x5), some (.int x6), some (.int x7)], [.int (x4 - (nI 1)), .int (M4 23 v5.toNatClampNeg)], (DB o i0 i1 ext), M4) rfl ?_
    refine T_br ((M4 23 v5.toNatClampNeg) = (x4 - (nI 1))) (103, 74, [some (.ref 20), some (.int x1), some (.int x2), some (.int x3), some (.int x4), some (.int x5), some (.int x6), some (.int x7)], [], (DB o i0 i1 ext), M4) (103, 66, [some (.ref 20), some (.int x1), some (.int x2), some (.int x3), some (.int x4), some (.int x5), some (.int x6), some (.int x7)], [], (DB o i0 i1 ext), M4) rfl (fun hc6 => ?_) (fun hc6 => ?_)
    · have h := h.1 hc6
      refine T_run 11 (103, 39, [some (.ref 20), some (.int x1), some (.int (x2 ||| ((nI 1) <<< (x7 &&& 31)))), some (.int x7), some (.int (x4 + (-(nI 1)))), some (.int x5), some (.int (x6 + (nI 1))), some (.int x7)], [], (DB o i0 i1 ext), M4) rfl ?_
      exact T_le (a_le_1 (a_le_1 (a_le_1 (a_le_1 (a_le_1 (a_le_1 (a_le_1 (a_le_2 rfl a_le_n)))))))) h
    · have h := h.2 hc6
      refine T_run 5 (103, 71, [some (.ref 20), some (.int x1), some (.int x2), some (.int x3), some (.int x4), some (.int (x5 + (nI 1))), some (.int x6), some (.int x7)], [.int (x5 + (nI 1)), .int x3, .int x2, .ref 20], (DB o i0 i1 ext), M4) rfl ?_
      refine T_callI (D' := (DB o i0 i1 ext)) rfl (CI_mono h (fun v8 M7 h => ?_))
      refine T_run 2 (103, 50, [some (.ref 20), some (.int x1), some (.int x2), some (.int x3), some (.int x4), some (.int (x5 + (nI 1))), some (.int x6), some (.int v8)], [], (DB o i0 i1 ext), M7) rfl ?_
      exact h
set_option maxRecDepth 100000 in
theorem b_X5_findWays_0 {d : Nat} {Q : ARs → Prop} {o i0 i1 : Option Nat} {ext : ADd} {M : AMm} (x1 : Int32) (x2 : Int32) (h : CI d 87 [.ref 20] (DB o i0 i1 ext) M (DB o i0 i1 ext) (fun v2 M1 => T (d + 1) Q (104, 5, [some (.ref 20), some (.int x1), some (.int x2), some (.int v2), some (.int x1), none, none, none, none], [], (DB o i0 i1 ext), M1))) : T (d + 1) Q (ent 104 [.ref 20, .int x1, .int x2] (DB o i0 i1 ext) M) := by
  refine T_run 1 (104, 1, [some (.ref 20), some (.int x1), some (.int x2), none, none, none, none, none, none], [.ref 20], (DB o i0 i1 ext), M) rfl ?_
  refine T_callI (D' := (DB o i0 i1 ext)) rfl (CI_mono h (fun v2 M1 h => ?_))
  refine T_run 3 (104, 5, [some (.ref 20), some (.int x1), some (.int x2), some (.int v2), some (.int x1), none, none, none, none], [], (DB o i0 i1 ext), M1) rfl ?_
  exact h
set_option maxRecDepth 100000 in
theorem b_X5_findWays_5 {d : Nat} {Q : ARs → Prop} {o i0 i1 : Option Nat} {ext : ADd} {M : AMm} (x1 : Int32) (x2 : Int32) (x3 : Int32) (x4 : Int32) (h : (x3 < x4 → T d Q (104, 34, [some (.ref 20), none, none, some (.int x3), some (.int x1), none, none, none, none], [], (DB o i0 i1 ext), M)) ∧ (¬ x3 < x4 → T d Q (104, 10, [some (.ref 20), some (.int x1), some (.int x2), some (.int x3), some (.int x4), some (.int (nI 0)), none, none, none], [], (DB o i0 i1 ext), M))) : T d Q (104, 5, [some (.ref 20), some (.int x1), some (.int x2), some (.int x3), some (.int x4), none, none, none, none], [], (DB o i0 i1 ext), M) := by
  refine T_run 2 (104, 7, [some (.ref 20), some (.int x1), some (.int x2), some (.int x3), some (.int x4), none, none, none, none], [.int x3, .int x4], (DB o i0 i1 ext), M) rfl ?_
  refine T_br (x3 < x4) (104, 32, [some (.ref 20), some (.int x1), some (.int x2), some (.int x3), some (.int x4), none, none, none, none], [], (DB o i0 i1 ext), M) (104, 8, [some (.ref 20), some (.int x1), some (.int x2), some (.int x3), some (.int x4), none, none, none, none], [], (DB o i0 i1 ext), M) rfl (fun hc1 => ?_) (fun hc1 => ?_)
  · have h := h.1 hc1
    refine T_run 2 (104, 34, [some (.ref 20), some (.int x1), some (.int x2), some (.int x3), some (.int x1), none, none, none, none], [], (DB o i0 i1 ext), M) rfl ?_
    exact T_le (a_le_1 (a_le_2 rfl (a_le_2 rfl (a_le_1 (a_le_1 (a_le_1 (a_le_1 (a_le_1 (a_le_1 a_le_n))))))))) h
  · have h := h.2 hc1
    refine T_run 2 (104, 10, [some (.ref 20), some (.int x1), some (.int x2), some (.int x3), some (.int x4), some (.int (nI 0)), none, none, none], [], (DB o i0 i1 ext), M) rfl ?_
    exact h
set_option maxRecDepth 100000 in
theorem b_X5_findWays_10 {d : Nat} {Q : ARs → Prop} {o i0 i1 : Option Nat} {ext : ADd} {M : AMm} (x1 : Int32) (x2 : Int32) (x3 : Int32) (x4 : Int32) (x5 : Int32) (h : ((nI 16) ≤ x5 → T (d + 1) Q (104, 5, [some (.ref 20), some (.int x1), some (.int x2), some (.int x3), some (.int (x4 + (nI 1))), none, none, none, none], [], (DB o i0 i1 ext), M)) ∧ (¬ (nI 16) ≤ x5 → CI d 101 [.int x4, .int x5] (DB o i0 i1 ext) M (DB o i0 i1 ext) (fun v3 M2 => (x4 = x1 → (x5 = x2 → (vp_in v3 1048576) ∧ (T (d + 1) Q (104, 10, [some (.ref 20), some (.int x1), some (.int x2), some (.int x3), some (.int x4), some (.int (x5 + (nI 1))), none, none, none], [], (DB o i0 i1 ext), (ms M2 24 v3.toNatClampNeg (nI 1))))) ∧ (¬ x5 = x2 → (vp_in v3 1048576) ∧ (T (d + 1) Q (104, 10, [some (.ref 20), some (.int x1), some (.int x2), some (.int x3), some (.int x4), some (.int (x5 + (nI 1))), none, none, none], [], (DB o i0 i1 ext), (ms M2 24 v3.toNatClampNeg (nI 0)))))) ∧ (¬ x4 = x1 → (vp_in v3 1048576) ∧ (T (d + 1) Q (104, 10, [some (.ref 20), some (.int x1), some (.int x2), some (.int x3), some (.int x4), some (.int (x5 + (nI 1))), none, none, none], [], (DB o i0 i1 ext), (ms M2 24 v3.toNatClampNeg (nI 0)))))))) : T (d + 1) Q (104, 10, [some (.ref 20), some (.int x1), some (.int x2), some (.int x3), some (.int x4), some (.int x5), none, none, none], [], (DB o i0 i1 ext), M) := by
  refine T_run 2 (104, 12, [some (.ref 20), some (.int x1), some (.int x2), some (.int x3), some (.int x4), some (.int x5), none, none, none], [.int (nI 16), .int x5], (DB o i0 i1 ext), M) rfl ?_
  refine T_br ((nI 16) ≤ x5) (104, 30, [some (.ref 20), some (.int x1), some (.int x2), some (.int x3), some (.int x4), some (.int x5), none, none, none], [], (DB o i0 i1 ext), M) (104, 13, [some (.ref 20), some (.int x1), some (.int x2), some (.int x3), some (.int x4), some (.int x5), none, none, none], [], (DB o i0 i1 ext), M) rfl (fun hc1 => ?_) (fun hc1 => ?_)
  · have h := h.1 hc1
    refine T_run 2 (104, 5, [some (.ref 20), some (.int x1), some (.int x2), some (.int x3), some (.int (x4 + (nI 1))), some (.int x5), none, none, none], [], (DB o i0 i1 ext), M) rfl ?_
    exact T_le (a_le_1 (a_le_1 (a_le_1 (a_le_1 (a_le_1 (a_le_2 rfl (a_le_1 (a_le_1 (a_le_1 a_le_n))))))))) h
  · have h := h.2 hc1
    refine T_run 4 (104, 17, [some (.ref 20), some (.int x1), some (.int x2), some (.int x3), some (.int x4), some (.int x5), none, none, none], [.int x5, .int x4, .ref 24], (DB o i0 i1 ext), M) rfl ?_
    refine T_callI (D' := (DB o i0 i1 ext)) rfl (CI_mono h (fun v3 M2 h => ?_))
    refine T_run 2 (104, 20, [some (.ref 20), some (.int x1), some (.int x2), some (.int x3), some (.int x4), some (.int x5), none, none, none], [.int x1, .int x4, .int v3, .ref 24], (DB o i0 i1 ext), M2) rfl ?_
    refine T_br (x4 = x1) (104, 21, [some (.ref 20), some (.int x1), some (.int x2), some (.int x3), some (.int x4), some (.int x5), none, none, none], [.int v3, .ref 24], (DB o i0 i1 ext), M2) (104, 26, [some (.ref 20), some (.int x1), some (.int x2), some (.int x3), some (.int x4), some (.int x5), none, none, none], [.int v3, .ref 24], (DB o i0 i1 ext), M2) rfl (fun hc4 => ?_) (fun hc4 => ?_)
    · have h := h.1 hc4
      refine T_run 2 (104, 23, [some (.ref 20), some (.int x1), some (.int x2), some (.int x3), some (.int x4), some (.int x5), none, none, none], [.int x2, .int x5, .int v3, .ref 24], (DB o i0 i1 ext), M2) rfl ?_
      refine T_br (x5 = x2) (104, 24, [some (.ref 20), some (.int x1), some (.int x2), some (.int x3), some (.int x4), some (.int x5), none, none, none], [.int v3, .ref 24], (DB o i0 i1 ext), M2) (104, 26, [some (.ref 20), some (.int x1), some (.int x2), some (.int x3), some (.int x4), some (.int x5), none, none, none], [.int v3, .ref 24], (DB o i0 i1 ext), M2) rfl (fun hc5 => ?_) (fun hc5 => ?_)
      · have h := h.1 hc5
        refine T_run 2 (104, 27, [some (.ref 20), some (.int x1), some (.int x2), some (.int x3), some (.int x4), some (.int x5), none, none, none], [.int (nI 1), .int v3, .ref 24], (DB o i0 i1 ext), M2) rfl ?_
        refine T_gd (v3 < 0 ∨ 1048576 ≤ v3.toNatClampNeg) (104, 28, [some (.ref 20), some (.int x1), some (.int x2), some (.int x3), some (.int x4), some (.int x5), none, none, none], [], (DB o i0 i1 ext), (ms M2 24 v3.toNatClampNeg (nI 1))) rfl h.1 ?_
        have h := h.2
        refine T_run 2 (104, 10, [some (.ref 20), some (.int x1), some (.int x2), some (.int x3), some (.int x4), some (.int (x5 + (nI 1))), none, none, none], [], (DB o i0 i1 ext), (ms M2 24 v3.toNatClampNeg (nI 1))) rfl ?_
        exact h
      · have h := h.2 hc5
        refine T_run 1 (104, 27, [some (.ref 20), some (.int x1), some (.int x2), some (.int x3), some (.int x4), some (.int x5), none, none, none], [.int (nI 0), .int v3, .ref 24], (DB o i0 i1 ext), M2) rfl ?_
        refine T_gd (v3 < 0 ∨ 1048576 ≤ v3.toNatClampNeg) (104, 28, [some (.ref 20), some (.int x1), some (.int x2), some (.int x3), some (.int x4), some (.int x5), none, none, none], [], (DB o i0 i1 ext), (ms M2 24 v3.toNatClampNeg (nI 0))) rfl h.1 ?_
        have h := h.2
        refine T_run 2 (104, 10, [some (.ref 20), some (.int x1), some (.int x2), some (.int x3), some (.int x4), some (.int (x5 + (nI 1))), none, none, none], [], (DB o i0 i1 ext), (ms M2 24 v3.toNatClampNeg (nI 0))) rfl ?_
        exact h
    · have h := h.2 hc4
      refine T_run 1 (104, 27, [some (.ref 20), some (.int x1), some (.int x2), some (.int x3), some (.int x4), some (.int x5), none, none, none], [.int (nI 0), .int v3, .ref 24], (DB o i0 i1 ext), M2) rfl ?_
      refine T_gd (v3 < 0 ∨ 1048576 ≤ v3.toNatClampNeg) (104, 28, [some (.ref 20), some (.int x1), some (.int x2), some (.int x3), some (.int x4), some (.int x5), none, none, none], [], (DB o i0 i1 ext), (ms M2 24 v3.toNatClampNeg (nI 0))) rfl h.1 ?_
      have h := h.2
      refine T_run 2 (104, 10, [some (.ref 20), some (.int x1), some (.int x2), some (.int x3), some (.int x4), some (.int (x5 + (nI 1))), none, none, none], [], (DB o i0 i1 ext), (ms M2 24 v3.toNatClampNeg (nI 0))) rfl ?_
      exact h
set_option maxRecDepth 100000 in
theorem b_X5_findWays_34 {d : Nat} {Q : ARs → Prop} {o i0 i1 : Option Nat} {ext : ADd} {M : AMm} (x3 : Int32) (x4 : Int32) (h : (x3 < x4 → Q (none, (DB o i0 i1 ext), M)) ∧ (¬ x3 < x4 → T d Q (104, 39, [some (.ref 20), none, none, some (.int x3), some (.int x4), some (.int (nI 0)), none, none, none], [], (DB o i0 i1 ext), M))) : T d Q (104, 34, [some (.ref 20), none, none, some (.int x3), some (.int x4), none, none, none, none], [], (DB o i0 i1 ext), M) := by
  refine T_run 2 (104, 36, [some (.ref 20), none, none, some (.int x3), some (.int x4), none, none, none, none], [.int x3, .int x4], (DB o i0 i1 ext), M) rfl ?_
  refine T_br (x3 < x4) (104, 91, [some (.ref 20), none, none, some (.int x3), some (.int x4), none, none, none, none], [], (DB o i0 i1 ext), M) (104, 37, [some (.ref 20), none, none, some (.int x3), some (.int x4), none, none, none, none], [], (DB o i0 i1 ext), M) rfl (fun hc1 => ?_) (fun hc1 => ?_)
  · have h := h.1 hc1
    exact T_ret rfl h
  · have h := h.2 hc1
    refine T_run 2 (104, 39, [some (.ref 20), none, none, some (.int x3), some (.int x4), some (.int (nI 0)), none, none, none], [], (DB o i0 i1 ext), M) rfl ?_
    exact h
set_option maxRecDepth 100000 in
theorem b_X5_findWays_39 {d : Nat} {Q : ARs → Prop} {o i0 i1 : Option Nat} {ext : ADd} {M : AMm} (x3 : Int32) (x4 : Int32) (x5 : Int32) (h : CI d 77 [.ref 20] (DB o i0 i1 ext) M (DB o i0 i1 ext) (fun v2 M1 => (v2 ≤ x5 → T (d + 1) Q (104, 34, [some (.ref 20), none, none, some (.int x3), some (.int (x4 + (nI 1))), none, none, none, none], [], (DB o i0 i1 ext), M1)) ∧ (¬ v2 ≤ x5 → ((x4 &&& (x3 ^^^ (-(nI 1)))) = 0 → CI d 101 [.int x4, .int x5] (DB o i0 i1 ext) M1 (DB o i0 i1 ext) (fun v6 M5 => (vp_in v6 1048576) ∧ (T (d + 1) Q (104, 58, [some (.ref 20), none, none, some (.int x3), some (.int x4), some (.int x5), some (.int (M5 24 v6.toNatClampNeg)), some (.int (nI 0)), none], [], (DB o i0 i1 ext), M5)))) ∧ (¬ (x4 &&& (x3 ^^^ (-(nI 1)))) = 0 → T (d + 1) Q (104, 34, [some (.ref 20), none, none, some (.int x3), some (.int (x4 + (nI 1))), none, none, none, none], [], (DB o i0 i1 ext), M1))))) : T (d + 1) Q (104, 39, [some (.ref 20), none, none, some (.int x3), some (.int x4), some (.int x5), none, none, none], [], (DB o i0 i1 ext), M) := by
  refine T_run 2 (104, 41, [some (.ref 20), none, none, some (.int x3), some (.int x4), some (.int x5), none, none, none], [.ref 20, .int x5], (DB o i0 i1 ext), M) rfl ?_
  refine T_callI (D' := (DB o i0 i1 ext)) rfl (CI_mono h (fun v2 M1 h => ?_))
  refine T_br (v2 ≤ x5) (104, 89, [some (.ref 20), none, none, some (.int x3), some (.int x4), some (.int x5), none, none, none], [], (DB o i0 i1 ext), M1) (104, 43, [some (.ref 20), none, none, some (.int x3), some (.int x4), some (.int x5), none, none, none], [], (DB o i0 i1 ext), M1) rfl (fun hc3 => ?_) (fun hc3 => ?_)
  · have h := h.1 hc3
    refine T_run 2 (104, 34, [some (.ref 20), none, none, some (.int x3), some (.int (x4 + (nI 1))), some (.int x5), none, none, none], [], (DB o i0 i1 ext), M1) rfl ?_
    exact T_le (a_le_1 (a_le_1 (a_le_1 (a_le_1 (a_le_1 (a_le_2 rfl (a_le_1 (a_le_1 (a_le_1 a_le_n))))))))) h
  · have h := h.2 hc3
    refine T_run 5 (104, 48, [some (.ref 20), none, none, some (.int x3), some (.int x4), some (.int x5), none, none, none], [.int (x4 &&& (x3 ^^^ (-(nI 1))))], (DB o i0 i1 ext), M1) rfl ?_
    refine T_br (_) (104, 49, [some (.ref 20), none, none, some (.int x3), some (.int x4), some (.int x5), none, none, none], [], (DB o i0 i1 ext), M1) (104, 89, [some (.ref 20), none, none, some (.int x3), some (.int x4), some (.int x5), none, none, none], [], (DB o i0 i1 ext), M1) rfl (fun hc4 => ?_) (fun hc4 => ?_)
    · have h := h.1 hc4
      refine T_run 4 (104, 53, [some (.ref 20), none, none, some (.int x3), some (.int x4), some (.int x5), none, none, none], [.int x5, .int x4, .ref 24], (DB o i0 i1 ext), M1) rfl ?_
      refine T_callI (D' := (DB o i0 i1 ext)) rfl (CI_mono h (fun v6 M5 h => ?_))
      refine T_gd (v6 < 0 ∨ 1048576 ≤ v6.toNatClampNeg) (104, 55, [some (.ref 20), none, none, some (.int x3), some (.int x4), some (.int x5), none, none, none], [.int (M5 24 v6.toNatClampNeg)], (DB o i0 i1 ext), M5) rfl h.1 ?_
      have h := h.2
      refine T_run 3 (104, 58, [some (.ref 20), none, none, some (.int x3), some (.int x4), some (.int x5), some (.int (M5 24 v6.toNatClampNeg)), some (.int (nI 0)), none], [], (DB o i0 i1 ext), M5) rfl ?_
      exact h
    · have h := h.2 hc4
      refine T_run 2 (104, 34, [some (.ref 20), none, none, some (.int x3), some (.int (x4 + (nI 1))), some (.int x5), none, none, none], [], (DB o i0 i1 ext), M1) rfl ?_
      exact T_le (a_le_1 (a_le_1 (a_le_1 (a_le_1 (a_le_1 (a_le_2 rfl (a_le_1 (a_le_1 (a_le_1 a_le_n))))))))) h
set_option maxRecDepth 100000 in
theorem b_X5_findWays_58 {d : Nat} {Q : ARs → Prop} {o i0 i1 : Option Nat} {ext : ADd} {M : AMm} (x3 : Int32) (x4 : Int32) (x5 : Int32) (x6 : Int32) (x7 : Int32) (h : ((nI 4) ≤ x7 → T (d + 1) Q (104, 39, [some (.ref 20), none, none, some (.int x3), some (.int x4), some (.int (x5 + (nI 1))), none, none, none], [], (DB o i0 i1 ext), M)) ∧ (¬ (nI 4) ≤ x7 → (x6 ≤ 0 → T (d + 1) Q (104, 39, [some (.ref 20), none, none, some (.int x3), some (.int x4), some (.int (x5 + (nI 1))), none, none, none], [], (DB o i0 i1 ext), M)) ∧ (¬ x6 ≤ 0 → CI d 93 [.ref 20, .int x4, .int x5, .int x7] (DB o i0 i1 ext) M (DB o i0 i1 ext) (fun v4 M3 => (v4 < 0 → T (d + 1) Q (104, 58, [some (.ref 20), none, none, some (.int x3), some (.int x4), some (.int x5), some (.int x6), some (.int (x7 + (nI 1))), none], [], (DB o i0 i1 ext), M3)) ∧ (¬ v4 < 0 → CI d 101 [.int (x4 ||| ((nI 1) <<< (v4 &&& 31))), .int v4] (DB o i0 i1 ext) M3 (DB o i0 i1 ext) (fun v7 M6 => (vp_in v7 1048576) ∧ ((vp_in v7 1048576) ∧ (T (d + 1) Q (104, 58, [some (.ref 20), none, none, some (.int x3), some (.int x4), some (.int x5), some (.int x6), some (.int (x7 + (nI 1))), none], [], (DB o i0 i1 ext), (ms M6 24 v7.toNatClampNeg ((M6 24 v7.toNatClampNeg) + x6))))))))))) : T (d + 1) Q (104, 58, [some (.ref 20), none, none, some (.int x3), some (.int x4), some (.int x5), some (.int x6), some (.int x7), none], [], (DB o i0 i1 ext), M) := by
  refine T_run 2 (104, 60, [some (.ref 20), none, none, some (.int x3), some (.int x4), some (.int x5), some (.int x6), some (.int x7), none], [.int (nI 4), .int x7], (DB o i0 i1 ext), M) rfl ?_
  refine T_br ((nI 4) ≤ x7) (104, 87, [some (.ref 20), none, none, some (.int x3), some (.int x4), some (.int x5), some (.int x6), some (.int x7), none], [], (DB o i0 i1 ext), M) (104, 61, [some (.ref 20), none, none, some (.int x3), some (.int x4), some (.int x5), some (.int x6), some (.int x7), none], [], (DB o i0 i1 ext), M) rfl (fun hc1 => ?_) (fun hc1 => ?_)
  · have h := h.1 hc1
    refine T_run 2 (104, 39, [some (.ref 20), none, none, some (.int x3), some (.int x4), some (.int (x5 + (nI 1))), some (.int x6), some (.int x7), none], [], (DB o i0 i1 ext), M) rfl ?_
    exact T_le (a_le_1 (a_le_1 (a_le_1 (a_le_1 (a_le_1 (a_le_1 (a_le_2 rfl (a_le_2 rfl (a_le_1 a_le_n))))))))) h
  · have h := h.2 hc1
    refine T_run 1 (104, 62, [some (.ref 20), none, none, some (.int x3), some (.int x4), some (.int x5), some (.int x6), some (.int x7), none], [.int x6], (DB o i0 i1 ext), M) rfl ?_
    refine T_br (x6 ≤ 0) (104, 87, [some (.ref 20), none, none, some (.int x3), some (.int x4), some (.int x5), some (.int x6), some (.int x7), none], [], (DB o i0 i1 ext), M) (104, 63, [some (.ref 20), none, none, some (.int x3), some (.int x4), some (.int x5), some (.int x6), some (.int x7), none], [], (DB o i0 i1 ext), M) rfl (fun hc2 => ?_) (fun hc2 => ?_)
    · have h := h.1 hc2
      refine T_run 2 (104, 39, [some (.ref 20), none, none, some (.int x3), some (.int x4), some (.int (x5 + (nI 1))), some (.int x6), some (.int x7), none], [], (DB o i0 i1 ext), M) rfl ?_
      exact T_le (a_le_1 (a_le_1 (a_le_1 (a_le_1 (a_le_1 (a_le_1 (a_le_2 rfl (a_le_2 rfl (a_le_1 a_le_n))))))))) h
    · have h := h.2 hc2
      refine T_run 4 (104, 67, [some (.ref 20), none, none, some (.int x3), some (.int x4), some (.int x5), some (.int x6), some (.int x7), none], [.int x7, .int x5, .int x4, .ref 20], (DB o i0 i1 ext), M) rfl ?_
      refine T_callI (D' := (DB o i0 i1 ext)) rfl (CI_mono h (fun v4 M3 h => ?_))
      refine T_run 2 (104, 70, [some (.ref 20), none, none, some (.int x3), some (.int x4), some (.int x5), some (.int x6), some (.int x7), some (.int v4)], [.int v4], (DB o i0 i1 ext), M3) rfl ?_
      refine T_br (v4 < 0) (104, 85, [some (.ref 20), none, none, some (.int x3), some (.int x4), some (.int x5), some (.int x6), some (.int x7), some (.int v4)], [], (DB o i0 i1 ext), M3) (104, 71, [some (.ref 20), none, none, some (.int x3), some (.int x4), some (.int x5), some (.int x6), some (.int x7), some (.int v4)], [], (DB o i0 i1 ext), M3) rfl (fun hc5 => ?_) (fun hc5 => ?_)
      · have h := h.1 hc5
        refine T_run 2 (104, 58, [some (.ref 20), none, none, some (.int x3), some (.int x4), some (.int x5), some (.int x6), some (.int (x7 + (nI 1))), some (.int v4)], [], (DB o i0 i1 ext), M3) rfl ?_
        exact T_le (a_le_1 (a_le_1 (a_le_1 (a_le_1 (a_le_1 (a_le_1 (a_le_1 (a_le_1 (a_le_2 rfl a_le_n))))))))) h
      · have h := h.2 hc5
        refine T_run 8 (104, 79, [some (.ref 20), none, none, some (.int x3), some (.int x4), some (.int x5), some (.int x6), some (.int x7), some (.int v4)], [.int v4, .int (x4 ||| ((nI 1) <<< (v4 &&& 31))), .ref 24], (DB o i0 i1 ext), M3) rfl ?_
        refine T_callI (D' := (DB o i0 i1 ext)) rfl (CI_mono h (fun v7 M6 h => ?_))
        refine T_run 1 (104, 81, [some (.ref 20), none, none, some (.int x3), some (.int x4), some (.int x5), some (.int x6), some (.int x7), some (.int v4)], [.int v7, .ref 24, .int v7, .ref 24], (DB o i0 i1 ext), M6) rfl ?_
        refine T_gd (v7 < 0 ∨ 1048576 ≤ v7.toNatClampNeg) (104, 82, [some (.ref 20), none, none, some (.int x3), some (.int x4), some (.int x5), some (.int x6), some (.int x7), some (.int v4)], [.int (M6 24 v7.toNatClampNeg), .int v7, .ref 24], (DB o i0 i1 ext), M6) rfl h.1 ?_
        have h := h.2
        refine T_run 2 (104, 84, [some (.ref 20), none, none, some (.int x3), some (.int x4), some (.int x5), some (.int x6), some (.int x7), some (.int v4)], [.int ((M6 24 v7.toNatClampNeg) + x6), .int v7, .ref 24], (DB o i0 i1 ext), M6) rfl ?_
        refine T_gd (v7 < 0 ∨ 1048576 ≤ v7.toNatClampNeg) (104, 85, [some (.ref 20), none, none, some (.int x3), some (.int x4), some (.int x5), some (.int x6), some (.int x7), some (.int v4)], [], (DB o i0 i1 ext), (ms M6 24 v7.toNatClampNeg ((M6 24 v7.toNatClampNeg) + x6))) rfl h.1 ?_
        have h := h.2
        refine T_run 2 (104, 58, [some (.ref 20), none, none, some (.int x3), some (.int x4), some (.int x5), some (.int x6), some (.int (x7 + (nI 1))), some (.int v4)], [], (DB o i0 i1 ext), (ms M6 24 v7.toNatClampNeg ((M6 24 v7.toNatClampNeg) + x6))) rfl ?_
        exact T_le (a_le_1 (a_le_1 (a_le_1 (a_le_1 (a_le_1 (a_le_1 (a_le_1 (a_le_1 (a_le_2 rfl a_le_n))))))))) h
set_option maxRecDepth 100000 in
theorem b_X5_all_0 {d : Nat} {Q : ARs → Prop} {o i0 i1 : Option Nat} {ext : ADd} {M : AMm} (x1 : Int32) (h : (x1 = (-(nI 1)) → CV d 104 [.ref 20, .int ((nI 1) <<< ((M 20 3) &&& 31)), .int (M 20 3)] (DB o i0 i1 ext) M (DB o i0 i1 ext) (fun M2 => T (d + 1) Q (105, 21, [some (.ref 20), some (.int x1), some (.int (nI 0)), some (.int (nI 0))], [], (DB o i0 i1 ext), M2))) ∧ (¬ x1 = (-(nI 1)) → CI d 78 [.ref 20, .int x1] (DB o i0 i1 ext) M (DB o i0 i1 ext) (fun v4 M3 => (v4 = 0 → Q (some (.int (-(nI 1))), (DB o i0 i1 ext), M3)) ∧ (¬ v4 = 0 → CV d 104 [.ref 20, .int ((nI 1) <<< ((M3 20 3) &&& 31)), .int (M3 20 3)] (DB o i0 i1 ext) M3 (DB o i0 i1 ext) (fun M6 => T (d + 1) Q (105, 21, [some (.ref 20), some (.int x1), some (.int (nI 0)), some (.int (nI 0))], [], (DB o i0 i1 ext), M6)))))) : T (d + 1) Q (ent 105 [.ref 20, .int x1] (DB o i0 i1 ext) M) := by
  refine T_run 2 (105, 2, [some (.ref 20), some (.int x1), none, none], [.int (-(nI 1)), .int x1], (DB o i0 i1 ext), M) rfl ?_
  refine T_br (_) (105, 9, [some (.ref 20), some (.int x1), none, none], [], (DB o i0 i1 ext), M) (105, 3, [some (.ref 20), some (.int x1), none, none], [], (DB o i0 i1 ext), M) rfl (fun hc1 => ?_) (fun hc1 => ?_)
  · have h := h.1 hc1
    refine T_run 7 (105, 16, [some (.ref 20), some (.int x1), none, none], [.int (M 20 3), .int ((nI 1) <<< ((M 20 3) &&& 31)), .ref 20], (DB o i0 i1 ext), M) rfl ?_
    refine T_callV (D' := (DB o i0 i1 ext)) rfl (CV_mono h (fun M2 h => ?_))
    refine T_run 4 (105, 21, [some (.ref 20), some (.int x1), some (.int (nI 0)), some (.int (nI 0))], [], (DB o i0 i1 ext), M2) rfl ?_
    exact h
  · have h := h.2 hc1
    refine T_run 2 (105, 5, [some (.ref 20), some (.int x1), none, none], [.int x1, .ref 20], (DB o i0 i1 ext), M) rfl ?_
    refine T_callI (D' := (DB o i0 i1 ext)) rfl (CI_mono h (fun v4 M3 h => ?_))
    refine T_br (v4 = 0) (105, 7, [some (.ref 20), some (.int x1), none, none], [], (DB o i0 i1 ext), M3) (105, 9, [some (.ref 20), some (.int x1), none, none], [], (DB o i0 i1 ext), M3) rfl (fun hc5 => ?_) (fun hc5 => ?_)
    · have h := h.1 hc5
      refine T_run 1 (105, 8, [some (.ref 20), some (.int x1), none, none], [.int (-(nI 1))], (DB o i0 i1 ext), M3) rfl ?_
      exact T_ret rfl h
    · have h := h.2 hc5
      refine T_run 7 (105, 16, [some (.ref 20), some (.int x1), none, none], [.int (M3 20 3), .int ((nI 1) <<< ((M3 20 3) &&& 31)), .ref 20], (DB o i0 i1 ext), M3) rfl ?_
      refine T_callV (D' := (DB o i0 i1 ext)) rfl (CV_mono h (fun M6 h => ?_))
      refine T_run 4 (105, 21, [some (.ref 20), some (.int x1), some (.int (nI 0)), some (.int (nI 0))], [], (DB o i0 i1 ext), M6) rfl ?_
      exact h
set_option maxRecDepth 100000 in
theorem b_X5_all_21 {d : Nat} {Q : ARs → Prop} {o i0 i1 : Option Nat} {ext : ADd} {M : AMm} (x1 : Int32) (x2 : Int32) (x3 : Int32) (h : CI d 77 [.ref 20] (DB o i0 i1 ext) M (DB o i0 i1 ext) (fun v2 M1 => (v2 ≤ x3 → Q (some (.int x2), (DB o i0 i1 ext), M1)) ∧ (¬ v2 ≤ x3 → (x1 = (-(nI 1)) → CI d 87 [.ref 20] (DB o i0 i1 ext) M1 (DB o i0 i1 ext) (fun v6 M5 => CI d 101 [.int v6, .int x3] (DB o i0 i1 ext) M5 (DB o i0 i1 ext) (fun v8 M7 => (vp_in v8 1048576) ∧ (T (d + 1) Q (105, 21, [some (.ref 20), some (.int x1), some (.int (x2 + (M7 24 v8.toNatClampNeg))), some (.int (x3 + (nI 1)))], [], (DB o i0 i1 ext), M7))))) ∧ (¬ x1 = (-(nI 1)) → (x1 = x3 → CI d 87 [.ref 20] (DB o i0 i1 ext) M1 (DB o i0 i1 ext) (fun v11 M10 => CI d 101 [.int v11, .int x3] (DB o i0 i1 ext) M10 (DB o i0 i1 ext) (fun v13 M12 => (vp_in v13 1048576) ∧ (T (d + 1) Q (105, 21, [some (.ref 20), some (.int x1), some (.int (x2 + (M12 24 v13.toNatClampNeg))), some (.int (x3 + (nI 1)))], [], (DB o i0 i1 ext), M12))))) ∧ (¬ x1 = x3 → T (d + 1) Q (105, 21, [some (.ref 20), some (.int x1), some (.int (x2 + (nI 0))), some (.int (x3 + (nI 1)))], [], (DB o i0 i1 ext), M1)))))) : T (d + 1) Q (105, 21, [some (.ref 20), some (.int x1), some (.int x2), some (.int x3)], [], (DB o i0 i1 ext), M) := by
  refine T_run 2 (105, 23, [some (.ref 20), some (.int x1), some (.int x2), some (.int x3)], [.ref 20, .int x3], (DB o i0 i1 ext), M) rfl ?_
  refine T_callI (D' := (DB o i0 i1 ext)) rfl (CI_mono h (fun v2 M1 h => ?_))
  refine T_br (v2 ≤ x3) (105, 45, [some (.ref 20), some (.int x1), some (.int x2), some (.int x3)], [], (DB o i0 i1 ext), M1) (105, 25, [some (.ref 20), some (.int x1), some (.int x2), some (.int x3)], [], (DB o i0 i1 ext), M1) rfl (fun hc3 => ?_) (fun hc3 => ?_)
  · have h := h.1 hc3
    refine T_run 1 (105, 46, [some (.ref 20), some (.int x1), some (.int x2), some (.int x3)], [.int x2], (DB o i0 i1 ext), M1) rfl ?_
    exact T_ret rfl h
  · have h := h.2 hc3
    refine T_run 3 (105, 28, [some (.ref 20), some (.int x1), some (.int x2), some (.int x3)], [.int (-(nI 1)), .int x1, .int x2], (DB o i0 i1 ext), M1) rfl ?_
    refine T_br (_) (105, 32, [some (.ref 20), some (.int x1), some (.int x2), some (.int x3)], [.int x2], (DB o i0 i1 ext), M1) (105, 29, [some (.ref 20), some (.int x1), some (.int x2), some (.int x3)], [.int x2], (DB o i0 i1 ext), M1) rfl (fun hc4 => ?_) (fun hc4 => ?_)
    · have h := h.1 hc4
      refine T_run 3 (105, 35, [some (.ref 20), some (.int x1), some (.int x2), some (.int x3)], [.ref 20, .ref 24, .int x2], (DB o i0 i1 ext), M1) rfl ?_
      refine T_callI (D' := (DB o i0 i1 ext)) rfl (CI_mono h (fun v6 M5 h => ?_))
      refine T_run 1 (105, 37, [some (.ref 20), some (.int x1), some (.int x2), some (.int x3)], [.int x3, .int v6, .ref 24, .int x2], (DB o i0 i1 ext), M5) rfl ?_
      refine T_callI (D' := (DB o i0 i1 ext)) rfl (CI_mono h (fun v8 M7 h => ?_))
      refine T_gd (v8 < 0 ∨ 1048576 ≤ v8.toNatClampNeg) (105, 39, [some (.ref 20), some (.int x1), some (.int x2), some (.int x3)], [.int (M7 24 v8.toNatClampNeg), .int x2], (DB o i0 i1 ext), M7) rfl h.1 ?_
      have h := h.2
      refine T_run 5 (105, 21, [some (.ref 20), some (.int x1), some (.int (x2 + (M7 24 v8.toNatClampNeg))), some (.int (x3 + (nI 1)))], [], (DB o i0 i1 ext), M7) rfl ?_
      exact h
    · have h := h.2 hc4
      refine T_run 2 (105, 31, [some (.ref 20), some (.int x1), some (.int x2), some (.int x3)], [.int x3, .int x1, .int x2], (DB o i0 i1 ext), M1) rfl ?_
      refine T_br (x1 = x3) (105, 32, [some (.ref 20), some (.int x1), some (.int x2), some (.int x3)], [.int x2], (DB o i0 i1 ext), M1) (105, 40, [some (.ref 20), some (.int x1), some (.int x2), some (.int x3)], [.int x2], (DB o i0 i1 ext), M1) rfl (fun hc9 => ?_) (fun hc9 => ?_)
      · have h := h.1 hc9
        refine T_run 3 (105, 35, [some (.ref 20), some (.int x1), some (.int x2), some (.int x3)], [.ref 20, .ref 24, .int x2], (DB o i0 i1 ext), M1) rfl ?_
        refine T_callI (D' := (DB o i0 i1 ext)) rfl (CI_mono h (fun v11 M10 h => ?_))
        refine T_run 1 (105, 37, [some (.ref 20), some (.int x1), some (.int x2), some (.int x3)], [.int x3, .int v11, .ref 24, .int x2], (DB o i0 i1 ext), M10) rfl ?_
        refine T_callI (D' := (DB o i0 i1 ext)) rfl (CI_mono h (fun v13 M12 h => ?_))
        refine T_gd (v13 < 0 ∨ 1048576 ≤ v13.toNatClampNeg) (105, 39, [some (.ref 20), some (.int x1), some (.int x2), some (.int x3)], [.int (M12 24 v13.toNatClampNeg), .int x2], (DB o i0 i1 ext), M12) rfl h.1 ?_
        have h := h.2
        refine T_run 5 (105, 21, [some (.ref 20), some (.int x1), some (.int (x2 + (M12 24 v13.toNatClampNeg))), some (.int (x3 + (nI 1)))], [], (DB o i0 i1 ext), M12) rfl ?_
        exact h
      · have h := h.2 hc9
        refine T_run 5 (105, 21, [some (.ref 20), some (.int x1), some (.int (x2 + (nI 0))), some (.int (x3 + (nI 1)))], [], (DB o i0 i1 ext), M1) rfl ?_
        exact h
set_option maxRecDepth 100000 in
theorem b_X5_bound_0 {d : Nat} {Q : ARs → Prop} {o i0 i1 : Option Nat} {ext : ADd} {M : AMm}  (h : CI d 98 [.ref 20, .int ((nI 1) <<< ((M 20 3) &&& 31)), .int (M 20 3)] (DB o i0 i1 ext) M (DB o i0 i1 ext) (fun v2 M1 => (¬ (M1 20 1) = 0) ∧ ((¬ (M1 20 1) = 0) ∧ (T (d + 1) Q (106, 34, [some (.ref 20), some (.int (v2 ||| ((nI 1) <<< ((M1 20 3) &&& 31)))), some (.int (nI 0)), some (.int (nI 0)), some (.int ((((M1 20 3) / (M1 20 1)) + ((M1 20 3) - (M1 20 3) / (M1 20 1) * (M1 20 1))) - (((M1 20 3) / (M1 20 1)) + ((M1 20 3) - (M1 20 3) / (M1 20 1) * (M1 20 1))) / (nI 2) * (nI 2))), some (.int (nI 0)), none], [], (DB o i0 i1 ext), M1))))) : T (d + 1) Q (ent 106 [.ref 20] (DB o i0 i1 ext) M) := by
  refine T_run 7 (106, 7, [some (.ref 20), none, none, none, none, none, none], [.int (M 20 3), .int ((nI 1) <<< ((M 20 3) &&& 31)), .ref 20], (DB o i0 i1 ext), M) rfl ?_
  refine T_callI (D' := (DB o i0 i1 ext)) rfl (CI_mono h (fun v2 M1 h => ?_))
  refine T_run 14 (106, 22, [some (.ref 20), some (.int (v2 ||| ((nI 1) <<< ((M1 20 3) &&& 31)))), some (.int (nI 0)), some (.int (nI 0)), none, none, none], [.int (M1 20 1), .int (M1 20 3)], (DB o i0 i1 ext), M1) rfl ?_
  refine T_gd ((M1 20 1) = 0) (106, 23, [some (.ref 20), some (.int (v2 ||| ((nI 1) <<< ((M1 20 3) &&& 31)))), some (.int (nI 0)), some (.int (nI 0)), none, none, none], [.int ((M1 20 3) / (M1 20 1))], (DB o i0 i1 ext), M1) rfl h.1 ?_
  have h := h.2
  refine T_run 4 (106, 27, [some (.ref 20), some (.int (v2 ||| ((nI 1) <<< ((M1 20 3) &&& 31)))), some (.int (nI 0)), some (.int (nI 0)), none, none, none], [.int (M1 20 1), .int (M1 20 3), .int ((M1 20 3) / (M1 20 1))], (DB o i0 i1 ext), M1) rfl ?_
  refine T_gd ((M1 20 1) = 0) (106, 28, [some (.ref 20), some (.int (v2 ||| ((nI 1) <<< ((M1 20 3) &&& 31)))), some (.int (nI 0)), some (.int (nI 0)), none, none, none], [.int ((M1 20 3) - (M1 20 3) / (M1 20 1) * (M1 20 1)), .int ((M1 20 3) / (M1 20 1))], (DB o i0 i1 ext), M1) rfl h.1 ?_
  have h := h.2
  refine T_run 2 (106, 30, [some (.ref 20), some (.int (v2 ||| ((nI 1) <<< ((M1 20 3) &&& 31)))), some (.int (nI 0)), some (.int (nI 0)), none, none, none], [.int (nI 2), .int (((M1 20 3) / (M1 20 1)) + ((M1 20 3) - (M1 20 3) / (M1 20 1) * (M1 20 1)))], (DB o i0 i1 ext), M1) rfl ?_
  refine T_gd ((nI 2) = 0) (106, 31, [some (.ref 20), some (.int (v2 ||| ((nI 1) <<< ((M1 20 3) &&& 31)))), some (.int (nI 0)), some (.int (nI 0)), none, none, none], [.int ((((M1 20 3) / (M1 20 1)) + ((M1 20 3) - (M1 20 3) / (M1 20 1) * (M1 20 1))) - (((M1 20 3) / (M1 20 1)) + ((M1 20 3) - (M1 20 3) / (M1 20 1) * (M1 20 1))) / (nI 2) * (nI 2))], (DB o i0 i1 ext), M1) rfl (by decide) ?_
  refine T_run 3 (106, 34, [some (.ref 20), some (.int (v2 ||| ((nI 1) <<< ((M1 20 3) &&& 31)))), some (.int (nI 0)), some (.int (nI 0)), some (.int ((((M1 20 3) / (M1 20 1)) + ((M1 20 3) - (M1 20 3) / (M1 20 1) * (M1 20 1))) - (((M1 20 3) / (M1 20 1)) + ((M1 20 3) - (M1 20 3) / (M1 20 1) * (M1 20 1))) / (nI 2) * (nI 2))), some (.int (nI 0)), none], [], (DB o i0 i1 ext), M1) rfl ?_
  exact h
set_option maxRecDepth 100000 in
theorem b_X5_bound_34 {d : Nat} {Q : ARs → Prop} {o i0 i1 : Option Nat} {ext : ADd} {M : AMm} (x1 : Int32) (x2 : Int32) (x3 : Int32) (x4 : Int32) (x5 : Int32) (h : CI d 77 [.ref 20] (DB o i0 i1 ext) M (DB o i0 i1 ext) (fun v2 M1 => (v2 ≤ x5 → (x3 < x2 → Q (some (.int (((nI 2) * x3) + (nI 1))), (DB o i0 i1 ext), M1)) ∧ (¬ x3 < x2 → Q (some (.int ((nI 2) * x2)), (DB o i0 i1 ext), M1))) ∧ (¬ v2 ≤ x5 → (¬ (M1 20 1) = 0) ∧ ((¬ (M1 20 1) = 0) ∧ (((((x5 / (M1 20 1)) + (x5 - x5 / (M1 20 1) * (M1 20 1))) - ((x5 / (M1 20 1)) + (x5 - x5 / (M1 20 1) * (M1 20 1))) / (nI 2) * (nI 2)) = x4 → (((x1 >>> (x5 &&& 31)) &&& (nI 1)) = (nI 1) → T (d + 1) Q (106, 34, [some (.ref 20), some (.int x1), some (.int (x2 + (nI 1))), some (.int (x3 + (nI 0))), some (.int x4), some (.int (x5 + (nI 1))), none], [], (DB o i0 i1 ext), M1)) ∧ (¬ ((x1 >>> (x5 &&& 31)) &&& (nI 1)) = (nI 1) → T (d + 1) Q (106, 34, [some (.ref 20), some (.int x1), some (.int (x2 + (nI 0))), some (.int (x3 + (nI 0))), some (.int x4), some (.int (x5 + (nI 1))), none], [], (DB o i0 i1 ext), M1))) ∧ (¬ (((x5 / (M1 20 1)) + (x5 - x5 / (M1 20 1) * (M1 20 1))) - ((x5 / (M1 20 1)) + (x5 - x5 / (M1 20 1) * (M1 20 1))) / (nI 2) * (nI 2)) = x4 → (((x1 >>> (x5 &&& 31)) &&& (nI 1)) = (nI 1) → T (d + 1) Q (106, 34, [some (.ref 20), some (.int x1), some (.int (x2 + (nI 0))), some (.int (x3 + (nI 1))), some (.int x4), some (.int (x5 + (nI 1))), none], [], (DB o i0 i1 ext), M1)) ∧ (¬ ((x1 >>> (x5 &&& 31)) &&& (nI 1)) = (nI 1) → T (d + 1) Q (106, 34, [some (.ref 20), some (.int x1), some (.int (x2 + (nI 0))), some (.int (x3 + (nI 0))), some (.int x4), some (.int (x5 + (nI 1))), none], [], (DB o i0 i1 ext), M1)))))))) : T (d + 1) Q (106, 34, [some (.ref 20), some (.int x1), some (.int x2), some (.int x3), some (.int x4), some (.int x5), none], [], (DB o i0 i1 ext), M) := by
  refine T_run 2 (106, 36, [some (.ref 20), some (.int x1), some (.int x2), some (.int x3), some (.int x4), some (.int x5), none], [.ref 20, .int x5], (DB o i0 i1 ext), M) rfl ?_
  refine T_callI (D' := (DB o i0 i1 ext)) rfl (CI_mono h (fun v2 M1 h => ?_))
  refine T_br (v2 ≤ x5) (106, 87, [some (.ref 20), some (.int x1), some (.int x2), some (.int x3), some (.int x4), some (.int x5), none], [], (DB o i0 i1 ext), M1) (106, 38, [some (.ref 20), some (.int x1), some (.int x2), some (.int x3), some (.int x4), some (.int x5), none], [], (DB o i0 i1 ext), M1) rfl (fun hc3 => ?_) (fun hc3 => ?_)
  · have h := h.1 hc3
    refine T_run 2 (106, 89, [some (.ref 20), some (.int x1), some (.int x2), some (.int x3), some (.int x4), some (.int x5), none], [.int x3, .int x2], (DB o i0 i1 ext), M1) rfl ?_
    refine T_br (x3 < x2) (106, 94, [some (.ref 20), some (.int x1), some (.int x2), some (.int x3), some (.int x4), some (.int x5), none], [], (DB o i0 i1 ext), M1) (106, 90, [some (.ref 20), some (.int x1), some (.int x2), some (.int x3), some (.int x4), some (.int x5), none], [], (DB o i0 i1 ext), M1) rfl (fun hc4 => ?_) (fun hc4 => ?_)
    · have h := h.1 hc4
      refine T_run 5 (106, 99, [some (.ref 20), some (.int x1), some (.int x2), some (.int x3), some (.int x4), some (.int x5), none], [.int (((nI 2) * x3) + (nI 1))], (DB o i0 i1 ext), M1) rfl ?_
      exact T_ret rfl h
    · have h := h.2 hc4
      refine T_run 4 (106, 99, [some (.ref 20), some (.int x1), some (.int x2), some (.int x3), some (.int x4), some (.int x5), none], [.int ((nI 2) * x2)], (DB o i0 i1 ext), M1) rfl ?_
      exact T_ret rfl h
  · have h := h.2 hc3
    refine T_run 3 (106, 41, [some (.ref 20), some (.int x1), some (.int x2), some (.int x3), some (.int x4), some (.int x5), none], [.int (M1 20 1), .int x5], (DB o i0 i1 ext), M1) rfl ?_
    refine T_gd ((M1 20 1) = 0) (106, 42, [some (.ref 20), some (.int x1), some (.int x2), some (.int x3), some (.int x4), some (.int x5), none], [.int (x5 / (M1 20 1))], (DB o i0 i1 ext), M1) rfl h.1 ?_
    have h := h.2
    refine T_run 3 (106, 45, [some (.ref 20), some (.int x1), some (.int x2), some (.int x3), some (.int x4), some (.int x5), none], [.int (M1 20 1), .int x5, .int (x5 / (M1 20 1))], (DB o i0 i1 ext), M1) rfl ?_
    refine T_gd ((M1 20 1) = 0) (106, 46, [some (.ref 20), some (.int x1), some (.int x2), some (.int x3), some (.int x4), some (.int x5), none], [.int (x5 - x5 / (M1 20 1) * (M1 20 1)), .int (x5 / (M1 20 1))], (DB o i0 i1 ext), M1) rfl h.1 ?_
    have h := h.2
    refine T_run 2 (106, 48, [some (.ref 20), some (.int x1), some (.int x2), some (.int x3), some (.int x4), some (.int x5), none], [.int (nI 2), .int ((x5 / (M1 20 1)) + (x5 - x5 / (M1 20 1) * (M1 20 1)))], (DB o i0 i1 ext), M1) rfl ?_
    refine T_gd ((nI 2) = 0) (106, 49, [some (.ref 20), some (.int x1), some (.int x2), some (.int x3), some (.int x4), some (.int x5), none], [.int (((x5 / (M1 20 1)) + (x5 - x5 / (M1 20 1) * (M1 20 1))) - ((x5 / (M1 20 1)) + (x5 - x5 / (M1 20 1) * (M1 20 1))) / (nI 2) * (nI 2))], (DB o i0 i1 ext), M1) rfl (by decide) ?_
    refine T_run 1 (106, 50, [some (.ref 20), some (.int x1), some (.int x2), some (.int x3), some (.int x4), some (.int x5), none], [.int x4, .int (((x5 / (M1 20 1)) + (x5 - x5 / (M1 20 1) * (M1 20 1))) - ((x5 / (M1 20 1)) + (x5 - x5 / (M1 20 1) * (M1 20 1))) / (nI 2) * (nI 2))], (DB o i0 i1 ext), M1) rfl ?_
    refine T_br ((((x5 / (M1 20 1)) + (x5 - x5 / (M1 20 1) * (M1 20 1))) - ((x5 / (M1 20 1)) + (x5 - x5 / (M1 20 1) * (M1 20 1))) / (nI 2) * (nI 2)) = x4) (106, 51, [some (.ref 20), some (.int x1), some (.int x2), some (.int x3), some (.int x4), some (.int x5), none], [], (DB o i0 i1 ext), M1) (106, 53, [some (.ref 20), some (.int x1), some (.int x2), some (.int x3), some (.int x4), some (.int x5), none], [], (DB o i0 i1 ext), M1) rfl (fun hc5 => ?_) (fun hc5 => ?_)
    · have h := h.1 hc5
      refine T_run 10 (106, 62, [some (.ref 20), some (.int x1), some (.int x2), some (.int x3), some (.int x4), some (.int x5), some (.int (nI 1))], [.int (nI 1), .int ((x1 >>> (x5 &&& 31)) &&& (nI 1)), .int x2], (DB o i0 i1 ext), M1) rfl ?_
      refine T_br (((x1 >>> (x5 &&& 31)) &&& (nI 1)) = (nI 1)) (106, 63, [some (.ref 20), some (.int x1), some (.int x2), some (.int x3), some (.int x4), some (.int x5), some (.int (nI 1))], [.int x2], (DB o i0 i1 ext), M1) (106, 67, [some (.ref 20), some (.int x1), some (.int x2), some (.int x3), some (.int x4), some (.int x5), some (.int (nI 1))], [.int x2], (DB o i0 i1 ext), M1) rfl (fun hc6 => ?_) (fun hc6 => ?_)
      · have h := h.1 hc6
        refine T_run 13 (106, 77, [some (.ref 20), some (.int x1), some (.int (x2 + (nI 1))), some (.int x3), some (.int x4), some (.int x5), some (.int (nI 1))], [.int (nI 1), .int ((x1 >>> (x5 &&& 31)) &&& (nI 1)), .int x3], (DB o i0 i1 ext), M1) rfl ?_
        refine T_br (((x1 >>> (x5 &&& 31)) &&& (nI 1)) = (nI 1)) (106, 78, [some (.ref 20), some (.int x1), some (.int (x2 + (nI 1))), some (.int x3), some (.int x4), some (.int x5), some (.int (nI 1))], [.int x3], (DB o i0 i1 ext), M1) (106, 82, [some (.ref 20), some (.int x1), some (.int (x2 + (nI 1))), some (.int x3), some (.int x4), some (.int x5), some (.int (nI 1))], [.int x3], (DB o i0 i1 ext), M1) rfl (fun _ => ?_) (fun hz => absurd hc6 hz)
        refine T_run 7 (106, 34, [some (.ref 20), some (.int x1), some (.int (x2 + (nI 1))), some (.int (x3 + (nI 0))), some (.int x4), some (.int (x5 + (nI 1))), some (.int (nI 1))], [], (DB o i0 i1 ext), M1) rfl ?_
        exact T_le (a_le_1 (a_le_1 (a_le_1 (a_le_1 (a_le_1 (a_le_1 (a_le_2 rfl a_le_n))))))) h
      · have h := h.2 hc6
        refine T_run 10 (106, 77, [some (.ref 20), some (.int x1), some (.int (x2 + (nI 0))), some (.int x3), some (.int x4), some (.int x5), some (.int (nI 1))], [.int (nI 1), .int ((x1 >>> (x5 &&& 31)) &&& (nI 1)), .int x3], (DB o i0 i1 ext), M1) rfl ?_
        refine T_br (((x1 >>> (x5 &&& 31)) &&& (nI 1)) = (nI 1)) (106, 78, [some (.ref 20), some (.int x1), some (.int (x2 + (nI 0))), some (.int x3), some (.int x4), some (.int x5), some (.int (nI 1))], [.int x3], (DB o i0 i1 ext), M1) (106, 82, [some (.ref 20), some (.int x1), some (.int (x2 + (nI 0))), some (.int x3), some (.int x4), some (.int x5), some (.int (nI 1))], [.int x3], (DB o i0 i1 ext), M1) rfl (fun hz => absurd hz hc6) (fun _ => ?_)
        refine T_run 5 (106, 34, [some (.ref 20), some (.int x1), some (.int (x2 + (nI 0))), some (.int (x3 + (nI 0))), some (.int x4), some (.int (x5 + (nI 1))), some (.int (nI 1))], [], (DB o i0 i1 ext), M1) rfl ?_
        exact T_le (a_le_1 (a_le_1 (a_le_1 (a_le_1 (a_le_1 (a_le_1 (a_le_2 rfl a_le_n))))))) h
    · have h := h.2 hc5
      refine T_run 9 (106, 62, [some (.ref 20), some (.int x1), some (.int x2), some (.int x3), some (.int x4), some (.int x5), some (.int (nI 0))], [.int (nI 1), .int ((x1 >>> (x5 &&& 31)) &&& (nI 1)), .int x2], (DB o i0 i1 ext), M1) rfl ?_
      refine T_br (((x1 >>> (x5 &&& 31)) &&& (nI 1)) = (nI 1)) (106, 63, [some (.ref 20), some (.int x1), some (.int x2), some (.int x3), some (.int x4), some (.int x5), some (.int (nI 0))], [.int x2], (DB o i0 i1 ext), M1) (106, 67, [some (.ref 20), some (.int x1), some (.int x2), some (.int x3), some (.int x4), some (.int x5), some (.int (nI 0))], [.int x2], (DB o i0 i1 ext), M1) rfl (fun hc7 => ?_) (fun hc7 => ?_)
      · have h := h.1 hc7
        refine T_run 12 (106, 77, [some (.ref 20), some (.int x1), some (.int (x2 + (nI 0))), some (.int x3), some (.int x4), some (.int x5), some (.int (nI 0))], [.int (nI 1), .int ((x1 >>> (x5 &&& 31)) &&& (nI 1)), .int x3], (DB o i0 i1 ext), M1) rfl ?_
        refine T_br (((x1 >>> (x5 &&& 31)) &&& (nI 1)) = (nI 1)) (106, 78, [some (.ref 20), some (.int x1), some (.int (x2 + (nI 0))), some (.int x3), some (.int x4), some (.int x5), some (.int (nI 0))], [.int x3], (DB o i0 i1 ext), M1) (106, 82, [some (.ref 20), some (.int x1), some (.int (x2 + (nI 0))), some (.int x3), some (.int x4), some (.int x5), some (.int (nI 0))], [.int x3], (DB o i0 i1 ext), M1) rfl (fun _ => ?_) (fun hz => absurd hc7 hz)
        refine T_run 8 (106, 34, [some (.ref 20), some (.int x1), some (.int (x2 + (nI 0))), some (.int (x3 + (nI 1))), some (.int x4), some (.int (x5 + (nI 1))), some (.int (nI 0))], [], (DB o i0 i1 ext), M1) rfl ?_
        exact T_le (a_le_1 (a_le_1 (a_le_1 (a_le_1 (a_le_1 (a_le_1 (a_le_2 rfl a_le_n))))))) h
      · have h := h.2 hc7
        refine T_run 10 (106, 77, [some (.ref 20), some (.int x1), some (.int (x2 + (nI 0))), some (.int x3), some (.int x4), some (.int x5), some (.int (nI 0))], [.int (nI 1), .int ((x1 >>> (x5 &&& 31)) &&& (nI 1)), .int x3], (DB o i0 i1 ext), M1) rfl ?_
        refine T_br (((x1 >>> (x5 &&& 31)) &&& (nI 1)) = (nI 1)) (106, 78, [some (.ref 20), some (.int x1), some (.int (x2 + (nI 0))), some (.int x3), some (.int x4), some (.int x5), some (.int (nI 0))], [.int x3], (DB o i0 i1 ext), M1) (106, 82, [some (.ref 20), some (.int x1), some (.int (x2 + (nI 0))), some (.int x3), some (.int x4), some (.int x5), some (.int (nI 0))], [.int x3], (DB o i0 i1 ext), M1) rfl (fun hz => absurd hz hc7) (fun _ => ?_)
        refine T_run 5 (106, 34, [some (.ref 20), some (.int x1), some (.int (x2 + (nI 0))), some (.int (x3 + (nI 0))), some (.int x4), some (.int (x5 + (nI 1))), some (.int (nI 0))], [], (DB o i0 i1 ext), M1) rfl ?_
        exact T_le (a_le_1 (a_le_1 (a_le_1 (a_le_1 (a_le_1 (a_le_1 (a_le_2 rfl a_le_n))))))) h
set_option maxRecDepth 100000 in
theorem b_X5_findBest_0 {d : Nat} {Q : ARs → Prop} {o i0 i1 : Option Nat} {ext : ADd} {M : AMm} (x1 : Int32) (h : CI d 87 [.ref 20] (DB o i0 i1 ext) M (DB o i0 i1 ext) (fun v2 M1 => T (d + 1) Q (107, 5, [some (.ref 20), some (.int x1), some (.int v2), some (.int v2), none, none, none, none, none, none], [], (DB o i0 i1 ext), M1))) : T (d + 1) Q (ent 107 [.ref 20, .int x1] (DB o i0 i1 ext) M) := by
  refine T_run 1 (107, 1, [some (.ref 20), some (.int x1), none, none, none, none, none, none, none, none], [.ref 20], (DB o i0 i1 ext), M) rfl ?_
  refine T_callI (D' := (DB o i0 i1 ext)) rfl (CI_mono h (fun v2 M1 h => ?_))
  refine T_run 3 (107, 5, [some (.ref 20), some (.int x1), some (.int v2), some (.int v2), none, none, none, none, none, none], [], (DB o i0 i1 ext), M1) rfl ?_
  exact h
set_option maxRecDepth 100000 in
theorem b_X5_findBest_5 {d : Nat} {Q : ARs → Prop} {o i0 i1 : Option Nat} {ext : ADd} {M : AMm} (x1 : Int32) (x2 : Int32) (x3 : Int32) (h : (x3 ≤ 0 → Q (none, (DB o i0 i1 ext), M)) ∧ (¬ x3 ≤ 0 → CI d 75 [.int x3] (DB o i0 i1 ext) M (DB o i0 i1 ext) (fun v3 M2 => T (d + 1) Q (107, 12, [some (.ref 20), some (.int x1), some (.int x2), some (.int x3), some (.int v3), some (.int (nI 0)), none, none, none, none], [], (DB o i0 i1 ext), M2)))) : T (d + 1) Q (107, 5, [some (.ref 20), some (.int x1), some (.int x2), some (.int x3), none, none, none, none, none, none], [], (DB o i0 i1 ext), M) := by
  refine T_run 1 (107, 6, [some (.ref 20), some (.int x1), some (.int x2), some (.int x3), none, none, none, none, none, none], [.int x3], (DB o i0 i1 ext), M) rfl ?_
  refine T_br (x3 ≤ 0) (107, 91, [some (.ref 20), some (.int x1), some (.int x2), some (.int x3), none, none, none, none, none, none], [], (DB o i0 i1 ext), M) (107, 7, [some (.ref 20), some (.int x1), some (.int x2), some (.int x3), none, none, none, none, none, none], [], (DB o i0 i1 ext), M) rfl (fun hc1 => ?_) (fun hc1 => ?_)
  · have h := h.1 hc1
    exact T_ret rfl h
  · have h := h.2 hc1
    refine T_run 1 (107, 8, [some (.ref 20), some (.int x1), some (.int x2), some (.int x3), none, none, none, none, none, none], [.int x3], (DB o i0 i1 ext), M) rfl ?_
    refine T_callI (D' := (DB o i0 i1 ext)) rfl (CI_mono h (fun v3 M2 h => ?_))
    refine T_run 3 (107, 12, [some (.ref 20), some (.int x1), some (.int x2), some (.int x3), some (.int v3), some (.int (nI 0)), none, none, none, none], [], (DB o i0 i1 ext), M2) rfl ?_
    exact h
set_option maxRecDepth 100000 in
theorem b_X5_findBest_12 {d : Nat} {Q : ARs → Prop} {o i0 i1 : Option Nat} {ext : ADd} {M : AMm} (x1 : Int32) (x2 : Int32) (x3 : Int32) (x4 : Int32) (x5 : Int32) (h : CI d 77 [.ref 20] (DB o i0 i1 ext) M (DB o i0 i1 ext) (fun v2 M1 => (v2 ≤ x5 → T (d + 1) Q (107, 5, [some (.ref 20), some (.int x1), some (.int x2), some (.int (x3 + (-(nI 1)))), none, none, none, none, none, none], [], (DB o i0 i1 ext), M1)) ∧ (¬ v2 ≤ x5 → ((x3 &&& (x2 ^^^ (-(nI 1)))) = 0 → T (d + 1) Q (107, 26, [some (.ref 20), some (.int x1), some (.int x2), some (.int x3), some (.int x4), some (.int x5), some (.int (nI 0)), some (.int (nI 0)), none, none], [], (DB o i0 i1 ext), M1)) ∧ (¬ (x3 &&& (x2 ^^^ (-(nI 1)))) = 0 → T (d + 1) Q (107, 5, [some (.ref 20), some (.int x1), some (.int x2), some (.int (x3 + (-(nI 1)))), none, none, none, none, none, none], [], (DB o i0 i1 ext), M1))))) : T (d + 1) Q (107, 12, [some (.ref 20), some (.int x1), some (.int x2), some (.int x3), some (.int x4), some (.int x5), none, none, none, none], [], (DB o i0 i1 ext), M) := by
  refine T_run 2 (107, 14, [some (.ref 20), some (.int x1), some (.int x2), some (.int x3), some (.int x4), some (.int x5), none, none, none, none], [.ref 20, .int x5], (DB o i0 i1 ext), M) rfl ?_
  refine T_callI (D' := (DB o i0 i1 ext)) rfl (CI_mono h (fun v2 M1 h => ?_))
  refine T_br (v2 ≤ x5) (107, 89, [some (.ref 20), some (.int x1), some (.int x2), some (.int x3), some (.int x4), some (.int x5), none, none, none, none], [], (DB o i0 i1 ext), M1) (107, 16, [some (.ref 20), some (.int x1), some (.int x2), some (.int x3), some (.int x4), some (.int x5), none, none, none, none], [], (DB o i0 i1 ext), M1) rfl (fun hc3 => ?_) (fun hc3 => ?_)
  · have h := h.1 hc3
    refine T_run 2 (107, 5, [some (.ref 20), some (.int x1), some (.int x2), some (.int (x3 + (-(nI 1)))), some (.int x4), some (.int x5), none, none, none, none], [], (DB o i0 i1 ext), M1) rfl ?_
    exact T_le (a_le_1 (a_le_1 (a_le_1 (a_le_1 (a_le_2 rfl (a_le_2 rfl (a_le_1 (a_le_1 (a_le_1 (a_le_1 a_le_n)))))))))) h
  · have h := h.2 hc3
    refine T_run 5 (107, 21, [some (.ref 20), some (.int x1), some (.int x2), some (.int x3), some (.int x4), some (.int x5), none, none, none, none], [.int (x3 &&& (x2 ^^^ (-(nI 1))))], (DB o i0 i1 ext), M1) rfl ?_
    refine T_br (_) (107, 22, [some (.ref 20), some (.int x1), some (.int x2), some (.int x3), some (.int x4), some (.int x5), none, none, none, none], [], (DB o i0 i1 ext), M1) (107, 89, [some (.ref 20), some (.int x1), some (.int x2), some (.int x3), some (.int x4), some (.int x5), none, none, none, none], [], (DB o i0 i1 ext), M1) rfl (fun hc4 => ?_) (fun hc4 => ?_)
    · have h := h.1 hc4
      refine T_run 4 (107, 26, [some (.ref 20), some (.int x1), some (.int x2), some (.int x3), some (.int x4), some (.int x5), some (.int (nI 0)), some (.int (nI 0)), none, none], [], (DB o i0 i1 ext), M1) rfl ?_
      exact h
    · have h := h.2 hc4
      refine T_run 2 (107, 5, [some (.ref 20), some (.int x1), some (.int x2), some (.int (x3 + (-(nI 1)))), some (.int x4), some (.int x5), none, none, none, none], [], (DB o i0 i1 ext), M1) rfl ?_
      exact T_le (a_le_1 (a_le_1 (a_le_1 (a_le_1 (a_le_2 rfl (a_le_2 rfl (a_le_1 (a_le_1 (a_le_1 (a_le_1 a_le_n)))))))))) h
set_option maxRecDepth 100000 in
theorem b_X5_findBest_26 {d : Nat} {Q : ARs → Prop} {o i0 i1 : Option Nat} {ext : ADd} {M : AMm} (x1 : Int32) (x2 : Int32) (x3 : Int32) (x4 : Int32) (x5 : Int32) (x6 : Int32) (x7 : Int32) (h : ((nI 4) ≤ x7 → CI d 101 [.int x3, .int x5] (DB o i0 i1 ext) M (DB o i0 i1 ext) (fun v3 M2 => (vp_in v3 1179648) ∧ (T (d + 1) Q (107, 12, [some (.ref 20), some (.int x1), some (.int x2), some (.int x3), some (.int x4), some (.int (x5 + (nI 1))), none, none, none, none], [], (DB o i0 i1 ext), (ms M2 23 v3.toNatClampNeg x6))))) ∧ (¬ (nI 4) ≤ x7 → (x1 ≤ x4 → CI d 101 [.int x3, .int x5] (DB o i0 i1 ext) M (DB o i0 i1 ext) (fun v6 M5 => (vp_in v6 1179648) ∧ (T (d + 1) Q (107, 12, [some (.ref 20), some (.int x1), some (.int x2), some (.int x3), some (.int x4), some (.int (x5 + (nI 1))), none, none, none, none], [], (DB o i0 i1 ext), (ms M5 23 v6.toNatClampNeg x6))))) ∧ (¬ x1 ≤ x4 → (((x3 >>> (x5 &&& 31)) &&& (nI 1)) = (nI 1) → CI d 93 [.ref 20, .int x3, .int x5, .int x7] (DB o i0 i1 ext) M (DB o i0 i1 ext) (fun v9 M8 => (0 ≤ v9 → CI d 95 [.ref 20, .int v9, .int x4] (DB o i0 i1 ext) M8 (DB o i0 i1 ext) (fun v12 M11 => CI d 101 [.int (x3 ||| ((nI 1) <<< (v9 &&& 31))), .int v9] (DB o i0 i1 ext) M11 (DB o i0 i1 ext) (fun v14 M13 => (vp_in v14 1179648) ∧ ((((((nI 32) * v12) - (nI 1)) + (M13 23 v14.toNatClampNeg)) ≤ x6 → T (d + 1) Q (107, 26, [some (.ref 20), some (.int x1), some (.int x2), some (.int x3), some (.int x4), some (.int x5), some (.int x6), some (.int (x7 + (nI 1))), none, none], [], (DB o i0 i1 ext), M13)) ∧ (¬ ((((nI 32) * v12) - (nI 1)) + (M13 23 v14.toNatClampNeg)) ≤ x6 → T (d + 1) Q (107, 26, [some (.ref 20), some (.int x1), some (.int x2), some (.int x3), some (.int x4), some (.int x5), some (.int ((((nI 32) * v12) - (nI 1)) + (M13 23 v14.toNatClampNeg))), some (.int (x7 + (nI 1))), none, none], [], (DB o i0 i1 ext), M13)))))) ∧ (¬ 0 ≤ v9 → ((nI 0) ≤ x6 → T (d + 1) Q (107, 26, [some (.ref 20), some (.int x1), some (.int x2), some (.int x3), some (.int x4), some (.int x5), some (.int x6), some (.int (x7 + (nI 1))), none, none], [], (DB o i0 i1 ext), M8)) ∧ (¬ (nI 0) ≤ x6 → T (d + 1) Q (107, 26, [some (.ref 20), some (.int x1), some (.int x2), some (.int x3), some (.int x4), some (.int x5), some (.int (nI 0)), some (.int (x7 + (nI 1))), none, none], [], (DB o i0 i1 ext), M8))))) ∧ (¬ ((x3 >>> (x5 &&& 31)) &&& (nI 1)) = (nI 1) → ((nI 0) ≤ x6 → T (d + 1) Q (107, 26, [some (.ref 20), some (.int x1), some (.int x2), some (.int x3), some (.int x4), some (.int x5), some (.int x6), some (.int (x7 + (nI 1))), none, none], [], (DB o i0 i1 ext), M)) ∧ (¬ (nI 0) ≤ x6 → T (d + 1) Q (107, 26, [some (.ref 20), some (.int x1), some (.int x2), some (.int x3), some (.int x4), some (.int x5), some (.int (nI 0)), some (.int (x7 + (nI 1))), none, none], [], (DB o i0 i1 ext), M)))))) : T (d + 1) Q (107, 26, [some (.ref 20), some (.int x1), some (.int x2), some (.int x3), some (.int x4), some (.int x5), some (.int x6), some (.int x7), none, none], [], (DB o i0 i1 ext), M) := by
  refine T_run 2 (107, 28, [some (.ref 20), some (.int x1), some (.int x2), some (.int x3), some (.int x4), some (.int x5), some (.int x6), some (.int x7), none, none], [.int (nI 4), .int x7], (DB o i0 i1 ext), M) rfl ?_
  refine T_br ((nI 4) ≤ x7) (107, 80, [some (.ref 20), some (.int x1), some (.int x2), some (.int x3), some (.int x4), some (.int x5), some (.int x6), some (.int x7), none, none], [], (DB o i0 i1 ext), M) (107, 29, [some (.ref 20), some (.int x1), some (.int x2), some (.int x3), some (.int x4), some (.int x5), some (.int x6), some (.int x7), none, none], [], (DB o i0 i1 ext), M) rfl (fun hc1 => ?_) (fun hc1 => ?_)
  · have h := h.1 hc1
    refine T_run 4 (107, 84, [some (.ref 20), some (.int x1), some (.int x2), some (.int x3), some (.int x4), some (.int x5), some (.int x6), some (.int x7), none, none], [.int x5, .int x3, .ref 23], (DB o i0 i1 ext), M) rfl ?_
    refine T_callI (D' := (DB o i0 i1 ext)) rfl (CI_mono h (fun v3 M2 h => ?_))
    refine T_run 1 (107, 86, [some (.ref 20), some (.int x1), some (.int x2), some (.int x3), some (.int x4), some (.int x5), some (.int x6), some (.int x7), none, none], [.int x6, .int v3, .ref 23], (DB o i0 i1 ext), M2) rfl ?_
    refine T_gd (v3 < 0 ∨ 1179648 ≤ v3.toNatClampNeg) (107, 87, [some (.ref 20), some (.int x1), some (.int x2), some (.int x3), some (.int x4), some (.int x5), some (.int x6), some (.int x7), none, none], [], (DB o i0 i1 ext), (ms M2 23 v3.toNatClampNeg x6)) rfl h.1 ?_
    have h := h.2
    refine T_run 2 (107, 12, [some (.ref 20), some (.int x1), some (.int x2), some (.int x3), some (.int x4), some (.int (x5 + (nI 1))), some (.int x6), some (.int x7), none, none], [], (DB o i0 i1 ext), (ms M2 23 v3.toNatClampNeg x6)) rfl ?_
    exact T_le (a_le_1 (a_le_1 (a_le_1 (a_le_1 (a_le_1 (a_le_1 (a_le_2 rfl (a_le_2 rfl (a_le_1 (a_le_1 a_le_n)))))))))) h
  · have h := h.2 hc1
    refine T_run 2 (107, 31, [some (.ref 20), some (.int x1), some (.int x2), some (.int x3), some (.int x4), some (.int x5), some (.int x6), some (.int x7), none, none], [.int x1, .int x4], (DB o i0 i1 ext), M) rfl ?_
    refine T_br (x1 ≤ x4) (107, 80, [some (.ref 20), some (.int x1), some (.int x2), some (.int x3), some (.int x4), some (.int x5), some (.int x6), some (.int x7), none, none], [], (DB o i0 i1 ext), M) (107, 32, [some (.ref 20), some (.int x1), some (.int x2), some (.int x3), some (.int x4), some (.int x5), some (.int x6), some (.int x7), none, none], [], (DB o i0 i1 ext), M) rfl (fun hc4 => ?_) (fun hc4 => ?_)
    · have h := h.1 hc4
      refine T_run 4 (107, 84, [some (.ref 20), some (.int x1), some (.int x2), some (.int x3), some (.int x4), some (.int x5), some (.int x6), some (.int x7), none, none], [.int x5, .int x3, .ref 23], (DB o i0 i1 ext), M) rfl ?_
      refine T_callI (D' := (DB o i0 i1 ext)) rfl (CI_mono h (fun v6 M5 h => ?_))
      refine T_run 1 (107, 86, [some (.ref 20), some (.int x1), some (.int x2), some (.int x3), some (.int x4), some (.int x5), some (.int x6), some (.int x7), none, none], [.int x6, .int v6, .ref 23], (DB o i0 i1 ext), M5) rfl ?_
      refine T_gd (v6 < 0 ∨ 1179648 ≤ v6.toNatClampNeg) (107, 87, [some (.ref 20), some (.int x1), some (.int x2), some (.int x3), some (.int x4), some (.int x5), some (.int x6), some (.int x7), none, none], [], (DB o i0 i1 ext), (ms M5 23 v6.toNatClampNeg x6)) rfl h.1 ?_
      have h := h.2
      refine T_run 2 (107, 12, [some (.ref 20), some (.int x1), some (.int x2), some (.int x3), some (.int x4), some (.int (x5 + (nI 1))), some (.int x6), some (.int x7), none, none], [], (DB o i0 i1 ext), (ms M5 23 v6.toNatClampNeg x6)) rfl ?_
      exact T_le (a_le_1 (a_le_1 (a_le_1 (a_le_1 (a_le_1 (a_le_1 (a_le_2 rfl (a_le_2 rfl (a_le_1 (a_le_1 a_le_n)))))))))) h
    · have h := h.2 hc4
      refine T_run 6 (107, 38, [some (.ref 20), some (.int x1), some (.int x2), some (.int x3), some (.int x4), some (.int x5), some (.int x6), some (.int x7), none, none], [.int (nI 1), .int ((x3 >>> (x5 &&& 31)) &&& (nI 1))], (DB o i0 i1 ext), M) rfl ?_
      refine T_br (((x3 >>> (x5 &&& 31)) &&& (nI 1)) = (nI 1)) (107, 39, [some (.ref 20), some (.int x1), some (.int x2), some (.int x3), some (.int x4), some (.int x5), some (.int x6), some (.int x7), none, none], [], (DB o i0 i1 ext), M) (107, 45, [some (.ref 20), some (.int x1), some (.int x2), some (.int x3), some (.int x4), some (.int x5), some (.int x6), some (.int x7), none, none], [], (DB o i0 i1 ext), M) rfl (fun hc7 => ?_) (fun hc7 => ?_)
      · have h := h.1 hc7
        refine T_run 4 (107, 43, [some (.ref 20), some (.int x1), some (.int x2), some (.int x3), some (.int x4), some (.int x5), some (.int x6), some (.int x7), none, none], [.int x7, .int x5, .int x3, .ref 20], (DB o i0 i1 ext), M) rfl ?_
        refine T_callI (D' := (DB o i0 i1 ext)) rfl (CI_mono h (fun v9 M8 h => ?_))
        refine T_run 3 (107, 48, [some (.ref 20), some (.int x1), some (.int x2), some (.int x3), some (.int x4), some (.int x5), some (.int x6), some (.int x7), some (.int v9), none], [.int v9], (DB o i0 i1 ext), M8) rfl ?_
        refine T_br (0 ≤ v9) (107, 51, [some (.ref 20), some (.int x1), some (.int x2), some (.int x3), some (.int x4), some (.int x5), some (.int x6), some (.int x7), some (.int v9), none], [], (DB o i0 i1 ext), M8) (107, 49, [some (.ref 20), some (.int x1), some (.int x2), some (.int x3), some (.int x4), some (.int x5), some (.int x6), some (.int x7), some (.int v9), none], [], (DB o i0 i1 ext), M8) rfl (fun hc10 => ?_) (fun hc10 => ?_)
        · have h := h.1 hc10
          refine T_run 4 (107, 55, [some (.ref 20), some (.int x1), some (.int x2), some (.int x3), some (.int x4), some (.int x5), some (.int x6), some (.int x7), some (.int v9), none], [.int x4, .int v9, .ref 20, .int (nI 32)], (DB o i0 i1 ext), M8) rfl ?_
          refine T_callI (D' := (DB o i0 i1 ext)) rfl (CI_mono h (fun v12 M11 h => ?_))
          refine T_run 11 (107, 67, [some (.ref 20), some (.int x1), some (.int x2), some (.int x3), some (.int x4), some (.int x5), some (.int x6), some (.int x7), some (.int v9), none], [.int v9, .int (x3 ||| ((nI 1) <<< (v9 &&& 31))), .ref 23, .int (((nI 32) * v12) - (nI 1))], (DB o i0 i1 ext), M11) rfl ?_
          refine T_callI (D' := (DB o i0 i1 ext)) rfl (CI_mono h (fun v14 M13 h => ?_))
          refine T_gd (v14 < 0 ∨ 1179648 ≤ v14.toNatClampNeg) (107, 69, [some (.ref 20), some (.int x1), some (.int x2), some (.int x3), some (.int x4), some (.int x5), some (.int x6), some (.int x7), some (.int v9), none], [.int (M13 23 v14.toNatClampNeg), .int (((nI 32) * v12) - (nI 1))], (DB o i0 i1 ext), M13) rfl h.1 ?_
          have h := h.2
          refine T_run 4 (107, 73, [some (.ref 20), some (.int x1), some (.int x2), some (.int x3), some (.int x4), some (.int x5), some (.int x6), some (.int x7), some (.int v9), some (.int ((((nI 32) * v12) - (nI 1)) + (M13 23 v14.toNatClampNeg)))], [.int x6, .int ((((nI 32) * v12) - (nI 1)) + (M13 23 v14.toNatClampNeg))], (DB o i0 i1 ext), M13) rfl ?_
          refine T_br (((((nI 32) * v12) - (nI 1)) + (M13 23 v14.toNatClampNeg)) ≤ x6) (107, 76, [some (.ref 20), some (.int x1), some (.int x2), some (.int x3), some (.int x4), some (.int x5), some (.int x6), some (.int x7), some (.int v9), some (.int ((((nI 32) * v12) - (nI 1)) + (M13 23 v14.toNatClampNeg)))], [], (DB o i0 i1 ext), M13) (107, 74, [some (.ref 20), some (.int x1), some (.int x2), some (.int x3), some (.int x4), some (.int x5), some (.int x6), some (.int x7), some (.int v9), some (.int ((((nI 32) * v12) - (nI 1)) + (M13 23 v14.toNatClampNeg)))], [], (DB o i0 i1 ext), M13) rfl (fun hc15 => ?_) (fun hc15 => ?_)
          · have h := h.1 hc15
            refine T_run 4 (107, 26, [some (.ref 20), some (.int x1), some (.int x2), some (.int x3), some (.int x4), some (.int x5), some (.int x6), some (.int (x7 + (nI 1))), some (.int v9), some (.int ((((nI 32) * v12) - (nI 1)) + (M13 23 v14.toNatClampNeg)))], [], (DB o i0 i1 ext), M13) rfl ?_
            exact T_le (a_le_1 (a_le_1 (a_le_1 (a_le_1 (a_le_1 (a_le_1 (a_le_1 (a_le_1 (a_le_2 rfl (a_le_2 rfl a_le_n)))))))))) h
          · have h := h.2 hc15
            refine T_run 5 (107, 26, [some (.ref 20), some (.int x1), some (.int x2), some (.int x3), some (.int x4), some (.int x5), some (.int ((((nI 32) * v12) - (nI 1)) + (M13 23 v14.toNatClampNeg))), some (.int (x7 + (nI 1))), some (.int v9), some (.int ((((nI 32) * v12) - (nI 1)) + (M13 23 v14.toNatClampNeg)))], [], (DB o i0 i1 ext), M13) rfl ?_
            exact T_le (a_le_1 (a_le_1 (a_le_1 (a_le_1 (a_le_1 (a_le_1 (a_le_1 (a_le_1 (a_le_2 rfl (a_le_2 rfl a_le_n)))))))))) h
        · have h := h.2 hc10
          refine T_run 5 (107, 73, [some (.ref 20), some (.int x1), some (.int x2), some (.int x3), some (.int x4), some (.int x5), some (.int x6), some (.int x7), some (.int v9), some (.int (nI 0))], [.int x6, .int (nI 0)], (DB o i0 i1 ext), M8) rfl ?_
          refine T_br ((nI 0) ≤ x6) (107, 76, [some (.ref 20), some (.int x1), some (.int x2), some (.int x3), some (.int x4), some (.int x5), some (.int x6), some (.int x7), some (.int v9), some (.int (nI 0))], [], (DB o i0 i1 ext), M8) (107, 74, [some (.ref 20), some (.int x1), some (.int x2), some (.int x3), some (.int x4), some (.int x5), some (.int x6), some (.int x7), some (.int v9), some (.int (nI 0))], [], (DB o i0 i1 ext), M8) rfl (fun hc16 => ?_) (fun hc16 => ?_)
          · have h := h.1 hc16
            refine T_run 4 (107, 26, [some (.ref 20), some (.int x1), some (.int x2), some (.int x3), some (.int x4), some (.int x5), some (.int x6), some (.int (x7 + (nI 1))), some (.int v9), some (.int (nI 0))], [], (DB o i0 i1 ext), M8) rfl ?_
            exact T_le (a_le_1 (a_le_1 (a_le_1 (a_le_1 (a_le_1 (a_le_1 (a_le_1 (a_le_1 (a_le_2 rfl (a_le_2 rfl a_le_n)))))))))) h
          · have h := h.2 hc16
            refine T_run 5 (107, 26, [some (.ref 20), some (.int x1), some (.int x2), some (.int x3), some (.int x4), some (.int x5), some (.int (nI 0)), some (.int (x7 + (nI 1))), some (.int v9), some (.int (nI 0))], [], (DB o i0 i1 ext), M8) rfl ?_
            exact T_le (a_le_1 (a_le_1 (a_le_1 (a_le_1 (a_le_1 (a_le_1 (a_le_1 (a_le_1 (a_le_2 rfl (a_le_2 rfl a_le_n)))))))))) h
      · have h := h.2 hc7
        refine T_run 9 (107, 73, [some (.ref 20), some (.int x1), some (.int x2), some (.int x3), some (.int x4), some (.int x5), some (.int x6), some (.int x7), some (.int (-(nI 6))), some (.int (nI 0))], [.int x6, .int (nI 0)], (DB o i0 i1 ext), M) rfl ?_
        refine T_br ((nI 0) ≤ x6) (107, 76, [some (.ref 20), some (.int x1), some (.int x2), some (.int x3), some (.int x4), some (.int x5), some (.int x6), some (.int x7), some (.int (-(nI 6))), some (.int (nI 0))], [], (DB o i0 i1 ext), M) (107, 74, [some (.ref 20), some (.int x1), some (.int x2), some (.int x3), some (.int x4), some (.int x5), some (.int x6), some (.int x7), some (.int (-(nI 6))), some (.int (nI 0))], [], (DB o i0 i1 ext), M) rfl (fun hc17 => ?_) (fun hc17 => ?_)
        · have h := h.1 hc17
          refine T_run 4 (107, 26, [some (.ref 20), some (.int x1), some (.int x2), some (.int x3), some (.int x4), some (.int x5), some (.int x6), some (.int (x7 + (nI 1))), some (.int (-(nI 6))), some (.int (nI 0))], [], (DB o i0 i1 ext), M) rfl ?_
          exact T_le (a_le_1 (a_le_1 (a_le_1 (a_le_1 (a_le_1 (a_le_1 (a_le_1 (a_le_1 (a_le_2 rfl (a_le_2 rfl a_le_n)))))))))) h
        · have h := h.2 hc17
          refine T_run 5 (107, 26, [some (.ref 20), some (.int x1), some (.int x2), some (.int x3), some (.int x4), some (.int x5), some (.int (nI 0)), some (.int (x7 + (nI 1))), some (.int (-(nI 6))), some (.int (nI 0))], [], (DB o i0 i1 ext), M) rfl ?_
          exact T_le (a_le_1 (a_le_1 (a_le_1 (a_le_1 (a_le_1 (a_le_1 (a_le_1 (a_le_1 (a_le_2 rfl (a_le_2 rfl a_le_n)))))))))) h
set_option maxRecDepth 100000 in
theorem b_X5_bestWay_0 {d : Nat} {Q : ARs → Prop} {o i0 i1 : Option Nat} {ext : ADd} {M : AMm} (x1 : Int32) (x2 : Int32) (h : CI d 101 [.int x1, .int x2] (DB o i0 i1 ext) M (DB o i0 i1 ext) (fun v2 M1 => (vp_in v2 1179648) ∧ (T (d + 1) Q (108, 9, [some (.ref 20), some (.int x1), some (.int x2), some (.int (M1 23 v2.toNatClampNeg)), some (.int (nI 0)), none], [], (DB o i0 i1 ext), M1)))) : T (d + 1) Q (ent 108 [.ref 20, .int x1, .int x2] (DB o i0 i1 ext) M) := by
  refine T_run 4 (108, 4, [some (.ref 20), some (.int x1), some (.int x2), none, none, none], [.int x2, .int x1, .ref 23], (DB o i0 i1 ext), M) rfl ?_
  refine T_callI (D' := (DB o i0 i1 ext)) rfl (CI_mono h (fun v2 M1 h => ?_))
  refine T_gd (v2 < 0 ∨ 1179648 ≤ v2.toNatClampNeg) (108, 6, [some (.ref 20), some (.int x1), some (.int x2), none, none, none], [.int (M1 23 v2.toNatClampNeg)], (DB o i0 i1 ext), M1) rfl h.1 ?_
  have h := h.2
  refine T_run 3 (108, 9, [some (.ref 20), some (.int x1), some (.int x2), some (.int (M1 23 v2.toNatClampNeg)), some (.int (nI 0)), none], [], (DB o i0 i1 ext), M1) rfl ?_
  exact h
set_option maxRecDepth 100000 in
theorem b_X5_bestWay_9 {d : Nat} {Q : ARs → Prop} {o i0 i1 : Option Nat} {ext : ADd} {M : AMm} (x1 : Int32) (x2 : Int32) (x3 : Int32) (x4 : Int32) (h : ((nI 4) ≤ x4 → Q (some (.int (-(nI 6))), (DB o i0 i1 ext), M)) ∧ (¬ (nI 4) ≤ x4 → (x3 ≤ 0 → Q (some (.int (-(nI 6))), (DB o i0 i1 ext), M)) ∧ (¬ x3 ≤ 0 → CI d 93 [.ref 20, .int x1, .int x2, .int x4] (DB o i0 i1 ext) M (DB o i0 i1 ext) (fun v4 M3 => (v4 < 0 → T (d + 1) Q (108, 9, [some (.ref 20), some (.int x1), some (.int x2), some (.int x3), some (.int (x4 + (nI 1))), none], [], (DB o i0 i1 ext), M3)) ∧ (¬ v4 < 0 → CI d 75 [.int x1] (DB o i0 i1 ext) M3 (DB o i0 i1 ext) (fun v7 M6 => CI d 95 [.ref 20, .int v4, .int v7] (DB o i0 i1 ext) M6 (DB o i0 i1 ext) (fun v9 M8 => CI d 101 [.int (x1 ||| ((nI 1) <<< (v4 &&& 31))), .int v4] (DB o i0 i1 ext) M8 (DB o i0 i1 ext) (fun v11 M10 => (vp_in v11 1179648) ∧ ((((((nI 32) * v9) - (nI 1)) + (M10 23 v11.toNatClampNeg)) = x3 → Q (some (.int x4), (DB o i0 i1 ext), M10)) ∧ (¬ ((((nI 32) * v9) - (nI 1)) + (M10 23 v11.toNatClampNeg)) = x3 → T (d + 1) Q (108, 9, [some (.ref 20), some (.int x1), some (.int x2), some (.int x3), some (.int (x4 + (nI 1))), none], [], (DB o i0 i1 ext), M10))))))))))) : T (d + 1) Q (108, 9, [some (.ref 20), some (.int x1), some (.int x2), some (.int x3), some (.int x4), none], [], (DB o i0 i1 ext), M) := by
  refine T_run 2 (108, 11, [some (.ref 20), some (.int x1), some (.int x2), some (.int x3), some (.int x4), none], [.int (nI 4), .int x4], (DB o i0 i1 ext), M) rfl ?_
  refine T_br ((nI 4) ≤ x4) (108, 48, [some (.ref 20), some (.int x1), some (.int x2), some (.int x3), some (.int x4), none], [], (DB o i0 i1 ext), M) (108, 12, [some (.ref 20), some (.int x1), some (.int x2), some (.int x3), some (.int x4), none], [], (DB o i0 i1 ext), M) rfl (fun hc1 => ?_) (fun hc1 => ?_)
  · have h := h.1 hc1
    refine T_run 1 (108, 49, [some (.ref 20), some (.int x1), some (.int x2), some (.int x3), some (.int x4), none], [.int (-(nI 6))], (DB o i0 i1 ext), M) rfl ?_
    exact T_ret rfl h
  · have h := h.2 hc1
    refine T_run 1 (108, 13, [some (.ref 20), some (.int x1), some (.int x2), some (.int x3), some (.int x4), none], [.int x3], (DB o i0 i1 ext), M) rfl ?_
    refine T_br (x3 ≤ 0) (108, 48, [some (.ref 20), some (.int x1), some (.int x2), some (.int x3), some (.int x4), none], [], (DB o i0 i1 ext), M) (108, 14, [some (.ref 20), some (.int x1), some (.int x2), some (.int x3), some (.int x4), none], [], (DB o i0 i1 ext), M) rfl (fun hc2 => ?_) (fun hc2 => ?_)
    · have h := h.1 hc2
      refine T_run 1 (108, 49, [some (.ref 20), some (.int x1), some (.int x2), some (.int x3), some (.int x4), none], [.int (-(nI 6))], (DB o i0 i1 ext), M) rfl ?_
      exact T_ret rfl h
    · have h := h.2 hc2
      refine T_run 4 (108, 18, [some (.ref 20), some (.int x1), some (.int x2), some (.int x3), some (.int x4), none], [.int x4, .int x2, .int x1, .ref 20], (DB o i0 i1 ext), M) rfl ?_
      refine T_callI (D' := (DB o i0 i1 ext)) rfl (CI_mono h (fun v4 M3 h => ?_))
      refine T_run 2 (108, 21, [some (.ref 20), some (.int x1), some (.int x2), some (.int x3), some (.int x4), some (.int v4)], [.int v4], (DB o i0 i1 ext), M3) rfl ?_
      refine T_br (v4 < 0) (108, 46, [some (.ref 20), some (.int x1), some (.int x2), some (.int x3), some (.int x4), some (.int v4)], [], (DB o i0 i1 ext), M3) (108, 22, [some (.ref 20), some (.int x1), some (.int x2), some (.int x3), some (.int x4), some (.int v4)], [], (DB o i0 i1 ext), M3) rfl (fun hc5 => ?_) (fun hc5 => ?_)
      · have h := h.1 hc5
        refine T_run 2 (108, 9, [some (.ref 20), some (.int x1), some (.int x2), some (.int x3), some (.int (x4 + (nI 1))), some (.int v4)], [], (DB o i0 i1 ext), M3) rfl ?_
        exact T_le (a_le_1 (a_le_1 (a_le_1 (a_le_1 (a_le_1 (a_le_2 rfl a_le_n)))))) h
      · have h := h.2 hc5
        refine T_run 4 (108, 26, [some (.ref 20), some (.int x1), some (.int x2), some (.int x3), some (.int x4), some (.int v4)], [.int x1, .int v4, .ref 20, .int (nI 32)], (DB o i0 i1 ext), M3) rfl ?_
        refine T_callI (D' := (DB o i0 i1 ext)) rfl (CI_mono h (fun v7 M6 h => ?_))
        refine T_callI (D' := (DB o i0 i1 ext)) rfl (CI_mono h (fun v9 M8 h => ?_))
        refine T_run 11 (108, 39, [some (.ref 20), some (.int x1), some (.int x2), some (.int x3), some (.int x4), some (.int v4)], [.int v4, .int (x1 ||| ((nI 1) <<< (v4 &&& 31))), .ref 23, .int (((nI 32) * v9) - (nI 1))], (DB o i0 i1 ext), M8) rfl ?_
        refine T_callI (D' := (DB o i0 i1 ext)) rfl (CI_mono h (fun v11 M10 h => ?_))
        refine T_gd (v11 < 0 ∨ 1179648 ≤ v11.toNatClampNeg) (108, 41, [some (.ref 20), some (.int x1), some (.int x2), some (.int x3), some (.int x4), some (.int v4)], [.int (M10 23 v11.toNatClampNeg), .int (((nI 32) * v9) - (nI 1))], (DB o i0 i1 ext), M10) rfl h.1 ?_
        have h := h.2
        refine T_run 2 (108, 43, [some (.ref 20), some (.int x1), some (.int x2), some (.int x3), some (.int x4), some (.int v4)], [.int x3, .int ((((nI 32) * v9) - (nI 1)) + (M10 23 v11.toNatClampNeg))], (DB o i0 i1 ext), M10) rfl ?_
        refine T_br (((((nI 32) * v9) - (nI 1)) + (M10 23 v11.toNatClampNeg)) = x3) (108, 44, [some (.ref 20), some (.int x1), some (.int x2), some (.int x3), some (.int x4), some (.int v4)], [], (DB o i0 i1 ext), M10) (108, 46, [some (.ref 20), some (.int x1), some (.int x2), some (.int x3), some (.int x4), some (.int v4)], [], (DB o i0 i1 ext), M10) rfl (fun hc12 => ?_) (fun hc12 => ?_)
        · have h := h.1 hc12
          refine T_run 1 (108, 45, [some (.ref 20), some (.int x1), some (.int x2), some (.int x3), some (.int x4), some (.int v4)], [.int x4], (DB o i0 i1 ext), M10) rfl ?_
          exact T_ret rfl h
        · have h := h.2 hc12
          refine T_run 2 (108, 9, [some (.ref 20), some (.int x1), some (.int x2), some (.int x3), some (.int (x4 + (nI 1))), some (.int v4)], [], (DB o i0 i1 ext), M10) rfl ?_
          exact T_le (a_le_1 (a_le_1 (a_le_1 (a_le_1 (a_le_1 (a_le_2 rfl a_le_n)))))) h
set_option maxRecDepth 100000 in
theorem b_X5_bestFrom_0 {d : Nat} {Q : ARs → Prop} {o i0 i1 : Option Nat} {ext : ADd} {M : AMm} (x1 : Int32) (x2 : Int32) (h : CI d 101 [.int x1, .int x2] (DB o i0 i1 ext) M (DB o i0 i1 ext) (fun v2 M1 => (vp_in v2 1179648) ∧ (Q (some (.int ((((M1 23 v2.toNatClampNeg) + (nI 32)) - (nI 1)) / (nI 32))), (DB o i0 i1 ext), M1)))) : T (d + 1) Q (ent 109 [.ref 20, .int x1, .int x2] (DB o i0 i1 ext) M) := by
  refine T_run 4 (109, 4, [some (.ref 20), some (.int x1), some (.int x2)], [.int x2, .int x1, .ref 23], (DB o i0 i1 ext), M) rfl ?_
  refine T_callI (D' := (DB o i0 i1 ext)) rfl (CI_mono h (fun v2 M1 h => ?_))
  refine T_gd (v2 < 0 ∨ 1179648 ≤ v2.toNatClampNeg) (109, 6, [some (.ref 20), some (.int x1), some (.int x2)], [.int (M1 23 v2.toNatClampNeg)], (DB o i0 i1 ext), M1) rfl h.1 ?_
  have h := h.2
  refine T_run 5 (109, 11, [some (.ref 20), some (.int x1), some (.int x2)], [.int (nI 32), .int (((M1 23 v2.toNatClampNeg) + (nI 32)) - (nI 1))], (DB o i0 i1 ext), M1) rfl ?_
  refine T_gd ((nI 32) = 0) (109, 12, [some (.ref 20), some (.int x1), some (.int x2)], [.int ((((M1 23 v2.toNatClampNeg) + (nI 32)) - (nI 1)) / (nI 32))], (DB o i0 i1 ext), M1) rfl (by decide) ?_
  exact T_ret rfl h
set_option maxRecDepth 100000 in
theorem b_X5_best_0 {d : Nat} {Q : ARs → Prop} {o i0 i1 : Option Nat} {ext : ADd} {M : AMm} (x1 : Int32) (h : CV d 107 [.ref 20, .int (nI 16)] (DB o i0 i1 ext) M (DB o i0 i1 ext) (fun M1 => (x1 = (-(nI 1)) → (vp_in (M1 20 3) 16) ∧ (CI d 109 [.ref 20, .int ((nI 1) <<< ((M1 20 3) &&& 31)), .int (M1 20 3)] (DB o i0 i1 ext) M1 (DB o i0 i1 ext) (fun v4 M3 => Q (some (.int ((M1 21 ((M1 20 3).toNatClampNeg)) + v4)), (DB o i0 i1 ext), M3)))) ∧ (¬ x1 = (-(nI 1)) → (0 ≤ x1 → CI d 108 [.ref 20, .int ((nI 1) <<< ((M1 20 3) &&& 31)), .int (M1 20 3)] (DB o i0 i1 ext) M1 (DB o i0 i1 ext) (fun v7 M6 => T (d + 1) Q (110, 35, [some (.ref 20), some (.int x1), some (.int ((nI 1) <<< ((M1 20 3) &&& 31))), some (.int (M1 20 3)), some (.int v7), some (.int (nI 0))], [], (DB o i0 i1 ext), M6))) ∧ (¬ 0 ≤ x1 → T (d + 1) Q (110, 35, [some (.ref 20), some (.int x1), some (.int ((nI 1) <<< ((M1 20 3) &&& 31))), some (.int (M1 20 3)), some (.int (-(nI 6))), some (.int (nI 0))], [], (DB o i0 i1 ext), M1))))) : T (d + 1) Q (ent 110 [.ref 20, .int x1] (DB o i0 i1 ext) M) := by
  refine T_run 2 (110, 2, [some (.ref 20), some (.int x1), none, none, none, none], [.int (nI 16), .ref 20], (DB o i0 i1 ext), M) rfl ?_
  refine T_callV (D' := (DB o i0 i1 ext)) rfl (CV_mono h (fun M1 h => ?_))
  refine T_run 10 (110, 13, [some (.ref 20), some (.int x1), some (.int ((nI 1) <<< ((M1 20 3) &&& 31))), some (.int (M1 20 3)), none, none], [.int (-(nI 1)), .int x1], (DB o i0 i1 ext), M1) rfl ?_
  refine T_br (_) (110, 14, [some (.ref 20), some (.int x1), some (.int ((nI 1) <<< ((M1 20 3) &&& 31))), some (.int (M1 20 3)), none, none], [], (DB o i0 i1 ext), M1) (110, 24, [some (.ref 20), some (.int x1), some (.int ((nI 1) <<< ((M1 20 3) &&& 31))), some (.int (M1 20 3)), none, none], [], (DB o i0 i1 ext), M1) rfl (fun hc2 => ?_) (fun hc2 => ?_)
  · have h := h.1 hc2
    refine T_run 3 (110, 17, [some (.ref 20), some (.int x1), some (.int ((nI 1) <<< ((M1 20 3) &&& 31))), some (.int (M1 20 3)), none, none], [.int (M1 20 3), .ref 21], (DB o i0 i1 ext), M1) rfl ?_
    refine T_gd ((M1 20 3) < 0 ∨ 16 ≤ (M1 20 3).toNatClampNeg) (110, 18, [some (.ref 20), some (.int x1), some (.int ((nI 1) <<< ((M1 20 3) &&& 31))), some (.int (M1 20 3)), none, none], [.int (M1 21 ((M1 20 3).toNatClampNeg))], (DB o i0 i1 ext), M1) rfl h.1 ?_
    have h := h.2
    refine T_run 3 (110, 21, [some (.ref 20), some (.int x1), some (.int ((nI 1) <<< ((M1 20 3) &&& 31))), some (.int (M1 20 3)), none, none], [.int (M1 20 3), .int ((nI 1) <<< ((M1 20 3) &&& 31)), .ref 20, .int (M1 21 ((M1 20 3).toNatClampNeg))], (DB o i0 i1 ext), M1) rfl ?_
    refine T_callI (D' := (DB o i0 i1 ext)) rfl (CI_mono h (fun v4 M3 h => ?_))
    refine T_run 1 (110, 23, [some (.ref 20), some (.int x1), some (.int ((nI 1) <<< ((M1 20 3) &&& 31))), some (.int (M1 20 3)), none, none], [.int ((M1 21 ((M1 20 3).toNatClampNeg)) + v4)], (DB o i0 i1 ext), M3) rfl ?_
    exact T_ret rfl h
  · have h := h.2 hc2
    refine T_run 1 (110, 25, [some (.ref 20), some (.int x1), some (.int ((nI 1) <<< ((M1 20 3) &&& 31))), some (.int (M1 20 3)), none, none], [.int x1], (DB o i0 i1 ext), M1) rfl ?_
    refine T_br (0 ≤ x1) (110, 28, [some (.ref 20), some (.int x1), some (.int ((nI 1) <<< ((M1 20 3) &&& 31))), some (.int (M1 20 3)), none, none], [], (DB o i0 i1 ext), M1) (110, 26, [some (.ref 20), some (.int x1), some (.int ((nI 1) <<< ((M1 20 3) &&& 31))), some (.int (M1 20 3)), none, none], [], (DB o i0 i1 ext), M1) rfl (fun hc5 => ?_) (fun hc5 => ?_)
    · have h := h.1 hc5
      refine T_run 3 (110, 31, [some (.ref 20), some (.int x1), some (.int ((nI 1) <<< ((M1 20 3) &&& 31))), some (.int (M1 20 3)), none, none], [.int (M1 20 3), .int ((nI 1) <<< ((M1 20 3) &&& 31)), .ref 20], (DB o i0 i1 ext), M1) rfl ?_
      refine T_callI (D' := (DB o i0 i1 ext)) rfl (CI_mono h (fun v7 M6 h => ?_))
      refine T_run 3 (110, 35, [some (.ref 20), some (.int x1), some (.int ((nI 1) <<< ((M1 20 3) &&& 31))), some (.int (M1 20 3)), some (.int v7), some (.int (nI 0))], [], (DB o i0 i1 ext), M6) rfl ?_
      exact h
    · have h := h.2 hc5
      refine T_run 5 (110, 35, [some (.ref 20), some (.int x1), some (.int ((nI 1) <<< ((M1 20 3) &&& 31))), some (.int (M1 20 3)), some (.int (-(nI 6))), some (.int (nI 0))], [], (DB o i0 i1 ext), M1) rfl ?_
      exact h
set_option maxRecDepth 100000 in
theorem b_X5_best_35 {d : Nat} {Q : ARs → Prop} {o i0 i1 : Option Nat} {ext : ADd} {M : AMm} (x1 : Int32) (x2 : Int32) (x3 : Int32) (x4 : Int32) (x5 : Int32) (h : (x1 ≤ x5 → (0 ≤ x4 → CI d 84 [.int x4] (DB o i0 i1 ext) M (DB o i0 i1 ext) (fun v4 M3 => Q (some (.int v4), (DB o i0 i1 ext), M3))) ∧ (¬ 0 ≤ x4 → Q (some (.int (-(nI 6))), (DB o i0 i1 ext), M))) ∧ (¬ x1 ≤ x5 → (x4 < 0 → (0 ≤ x4 → CI d 84 [.int x4] (DB o i0 i1 ext) M (DB o i0 i1 ext) (fun v8 M7 => Q (some (.int v8), (DB o i0 i1 ext), M7))) ∧ (¬ 0 ≤ x4 → Q (some (.int (-(nI 6))), (DB o i0 i1 ext), M))) ∧ (¬ x4 < 0 → CI d 93 [.ref 20, .int x2, .int x3, .int x4] (DB o i0 i1 ext) M (DB o i0 i1 ext) (fun v10 M9 => CI d 108 [.ref 20, .int (x2 ||| ((nI 1) <<< (v10 &&& 31))), .int v10] (DB o i0 i1 ext) M9 (DB o i0 i1 ext) (fun v12 M11 => T (d + 1) Q (110, 35, [some (.ref 20), some (.int x1), some (.int (x2 ||| ((nI 1) <<< (v10 &&& 31)))), some (.int v10), some (.int v12), some (.int (x5 + (nI 1)))], [], (DB o i0 i1 ext), M11)))))) : T (d + 1) Q (110, 35, [some (.ref 20), some (.int x1), some (.int x2), some (.int x3), some (.int x4), some (.int x5)], [], (DB o i0 i1 ext), M) := by
  refine T_run 2 (110, 37, [some (.ref 20), some (.int x1), some (.int x2), some (.int x3), some (.int x4), some (.int x5)], [.int x1, .int x5], (DB o i0 i1 ext), M) rfl ?_
  refine T_br (x1 ≤ x5) (110, 59, [some (.ref 20), some (.int x1), some (.int x2), some (.int x3), some (.int x4), some (.int x5)], [], (DB o i0 i1 ext), M) (110, 38, [some (.ref 20), some (.int x1), some (.int x2), some (.int x3), some (.int x4), some (.int x5)], [], (DB o i0 i1 ext), M) rfl (fun hc1 => ?_) (fun hc1 => ?_)
  · have h := h.1 hc1
    refine T_run 1 (110, 60, [some (.ref 20), some (.int x1), some (.int x2), some (.int x3), some (.int x4), some (.int x5)], [.int x4], (DB o i0 i1 ext), M) rfl ?_
    refine T_br (0 ≤ x4) (110, 63, [some (.ref 20), some (.int x1), some (.int x2), some (.int x3), some (.int x4), some (.int x5)], [], (DB o i0 i1 ext), M) (110, 61, [some (.ref 20), some (.int x1), some (.int x2), some (.int x3), some (.int x4), some (.int x5)], [], (DB o i0 i1 ext), M) rfl (fun hc2 => ?_) (fun hc2 => ?_)
    · have h := h.1 hc2
      refine T_run 1 (110, 64, [some (.ref 20), some (.int x1), some (.int x2), some (.int x3), some (.int x4), some (.int x5)], [.int x4], (DB o i0 i1 ext), M) rfl ?_
      refine T_callI (D' := (DB o i0 i1 ext)) rfl (CI_mono h (fun v4 M3 h => ?_))
      exact T_ret rfl h
    · have h := h.2 hc2
      refine T_run 2 (110, 65, [some (.ref 20), some (.int x1), some (.int x2), some (.int x3), some (.int x4), some (.int x5)], [.int (-(nI 6))], (DB o i0 i1 ext), M) rfl ?_
      exact T_ret rfl h
  · have h := h.2 hc1
    refine T_run 1 (110, 39, [some (.ref 20), some (.int x1), some (.int x2), some (.int x3), some (.int x4), some (.int x5)], [.int x4], (DB o i0 i1 ext), M) rfl ?_
    refine T_br (x4 < 0) (110, 59, [some (.ref 20), some (.int x1), some (.int x2), some (.int x3), some (.int x4), some (.int x5)], [], (DB o i0 i1 ext), M) (110, 40, [some (.ref 20), some (.int x1), some (.int x2), some (.int x3), some (.int x4), some (.int x5)], [], (DB o i0 i1 ext), M) rfl (fun hc5 => ?_) (fun hc5 => ?_)
    · have h := h.1 hc5
      refine T_run 1 (110, 60, [some (.ref 20), some (.int x1), some (.int x2), some (.int x3), some (.int x4), some (.int x5)], [.int x4], (DB o i0 i1 ext), M) rfl ?_
      refine T_br (0 ≤ x4) (110, 63, [some (.ref 20), some (.int x1), some (.int x2), some (.int x3), some (.int x4), some (.int x5)], [], (DB o i0 i1 ext), M) (110, 61, [some (.ref 20), some (.int x1), some (.int x2), some (.int x3), some (.int x4), some (.int x5)], [], (DB o i0 i1 ext), M) rfl (fun hc6 => ?_) (fun hc6 => ?_)
      · have h := h.1 hc6
        refine T_run 1 (110, 64, [some (.ref 20), some (.int x1), some (.int x2), some (.int x3), some (.int x4), some (.int x5)], [.int x4], (DB o i0 i1 ext), M) rfl ?_
        refine T_callI (D' := (DB o i0 i1 ext)) rfl (CI_mono h (fun v8 M7 h => ?_))
        exact T_ret rfl h
      · have h := h.2 hc6
        refine T_run 2 (110, 65, [some (.ref 20), some (.int x1), some (.int x2), some (.int x3), some (.int x4), some (.int x5)], [.int (-(nI 6))], (DB o i0 i1 ext), M) rfl ?_
        exact T_ret rfl h
    · have h := h.2 hc5
      refine T_run 4 (110, 44, [some (.ref 20), some (.int x1), some (.int x2), some (.int x3), some (.int x4), some (.int x5)], [.int x4, .int x3, .int x2, .ref 20], (DB o i0 i1 ext), M) rfl ?_
      refine T_callI (D' := (DB o i0 i1 ext)) rfl (CI_mono h (fun v10 M9 h => ?_))
      refine T_run 10 (110, 55, [some (.ref 20), some (.int x1), some (.int (x2 ||| ((nI 1) <<< (v10 &&& 31)))), some (.int v10), some (.int x4), some (.int x5)], [.int v10, .int (x2 ||| ((nI 1) <<< (v10 &&& 31))), .ref 20], (DB o i0 i1 ext), M9) rfl ?_
      refine T_callI (D' := (DB o i0 i1 ext)) rfl (CI_mono h (fun v12 M11 h => ?_))
      refine T_run 3 (110, 35, [some (.ref 20), some (.int x1), some (.int (x2 ||| ((nI 1) <<< (v10 &&& 31)))), some (.int v10), some (.int v12), some (.int (x5 + (nI 1)))], [], (DB o i0 i1 ext), M11) rfl ?_
      exact h
set_option maxRecDepth 100000 in
theorem b_X5_storm_0 {d : Nat} {Q : ARs → Prop} {o i0 i1 : Option Nat} {ext : ADd} {M : AMm} (x1 : Int32) (x2 : Int32) (h : CI d 74 [.long x1.toInt64, .long (lN 0), .long (lN 20)] (DB o i0 i1 ext) M (DB o i0 i1 ext) (fun v2 M1 => (v2 = 0 → Q (some (.int (-(nI 2))), (DB o i0 i1 ext), M1)) ∧ (¬ v2 = 0 → CI d 74 [.long x2.toInt64, .long (lN 0), .long (lN 1)] (DB o i0 i1 ext) M1 (DB o i0 i1 ext) (fun v5 M4 => (v5 = 0 → Q (some (.int (-(nI 2))), (DB o i0 i1 ext), M4)) ∧ (¬ v5 = 0 → CI d 85 [.ref 20] (DB o i0 i1 ext) M4 (DB o i0 i1 ext) (fun v8 M7 => (v8 < 0 → CI d 96 [.ref 20] (DB o i0 i1 ext) M7 (DB o i0 i1 ext) (fun v11 M10 => (v11 = 0 → Q (some (.int (-(nI 3))), (DB o i0 i1 ext), M10)) ∧ (¬ v11 = 0 → CI d 75 [.int (M10 20 7)] (DB o i0 i1 ext) M10 (DB o i0 i1 ext) (fun v14 M13 => CV d 107 [.ref 20, .int (v14 + x1)] (DB o i0 i1 ext) M13 (DB o i0 i1 ext) (fun M15 => (x2 = 0 → CI d 109 [.ref 20, .int (M15 20 7), .int (M15 20 8)] (DB o i0 i1 ext) M15 (DB o i0 i1 ext) (fun v18 M17 => Q (some (.int ((M15 20 9) + v18)), (DB o i0 i1 ext), M17))) ∧ (¬ x2 = 0 → CI d 108 [.ref 20, .int (M15 20 7), .int (M15 20 8)] (DB o i0 i1 ext) M15 (DB o i0 i1 ext) (fun v20 M19 => (0 ≤ v20 → CI d 84 [.int v20] (DB o i0 i1 ext) M19 (DB o i0 i1 ext) (fun v23 M22 => Q (some (.int v23), (DB o i0 i1 ext), M22))) ∧ (¬ 0 ≤ v20 → Q (some (.int (-(nI 6))), (DB o i0 i1 ext), M19))))))))) ∧ (¬ v8 < 0 → Q (some (.int (-(nI 5))), (DB o i0 i1 ext), M7)))))))) : T (d + 1) Q (ent 111 [.ref 20, .int x1, .int x2] (DB o i0 i1 ext) M) := by
  refine T_run 4 (111, 4, [some (.ref 20), some (.int x1), some (.int x2), none], [.long (lN 20), .long (lN 0), .long x1.toInt64], (DB o i0 i1 ext), M) rfl ?_
  refine T_callI (D' := (DB o i0 i1 ext)) rfl (CI_mono h (fun v2 M1 h => ?_))
  refine T_br (v2 = 0) (111, 12, [some (.ref 20), some (.int x1), some (.int x2), none], [], (DB o i0 i1 ext), M1) (111, 6, [some (.ref 20), some (.int x1), some (.int x2), none], [], (DB o i0 i1 ext), M1) rfl (fun hc3 => ?_) (fun hc3 => ?_)
  · have h := h.1 hc3
    refine T_run 1 (111, 13, [some (.ref 20), some (.int x1), some (.int x2), none], [.int (-(nI 2))], (DB o i0 i1 ext), M1) rfl ?_
    exact T_ret rfl h
  · have h := h.2 hc3
    refine T_run 4 (111, 10, [some (.ref 20), some (.int x1), some (.int x2), none], [.long (lN 1), .long (lN 0), .long x2.toInt64], (DB o i0 i1 ext), M1) rfl ?_
    refine T_callI (D' := (DB o i0 i1 ext)) rfl (CI_mono h (fun v5 M4 h => ?_))
    refine T_br (v5 = 0) (111, 12, [some (.ref 20), some (.int x1), some (.int x2), none], [], (DB o i0 i1 ext), M4) (111, 14, [some (.ref 20), some (.int x1), some (.int x2), none], [], (DB o i0 i1 ext), M4) rfl (fun hc6 => ?_) (fun hc6 => ?_)
    · have h := h.1 hc6
      refine T_run 1 (111, 13, [some (.ref 20), some (.int x1), some (.int x2), none], [.int (-(nI 2))], (DB o i0 i1 ext), M4) rfl ?_
      exact T_ret rfl h
    · have h := h.2 hc6
      refine T_run 1 (111, 15, [some (.ref 20), some (.int x1), some (.int x2), none], [.ref 20], (DB o i0 i1 ext), M4) rfl ?_
      refine T_callI (D' := (DB o i0 i1 ext)) rfl (CI_mono h (fun v8 M7 h => ?_))
      refine T_br (v8 < 0) (111, 19, [some (.ref 20), some (.int x1), some (.int x2), none], [], (DB o i0 i1 ext), M7) (111, 17, [some (.ref 20), some (.int x1), some (.int x2), none], [], (DB o i0 i1 ext), M7) rfl (fun hc9 => ?_) (fun hc9 => ?_)
      · have h := h.1 hc9
        refine T_run 1 (111, 20, [some (.ref 20), some (.int x1), some (.int x2), none], [.ref 20], (DB o i0 i1 ext), M7) rfl ?_
        refine T_callI (D' := (DB o i0 i1 ext)) rfl (CI_mono h (fun v11 M10 h => ?_))
        refine T_br (v11 = 0) (111, 22, [some (.ref 20), some (.int x1), some (.int x2), none], [], (DB o i0 i1 ext), M10) (111, 24, [some (.ref 20), some (.int x1), some (.int x2), none], [], (DB o i0 i1 ext), M10) rfl (fun hc12 => ?_) (fun hc12 => ?_)
        · have h := h.1 hc12
          refine T_run 1 (111, 23, [some (.ref 20), some (.int x1), some (.int x2), none], [.int (-(nI 3))], (DB o i0 i1 ext), M10) rfl ?_
          exact T_ret rfl h
        · have h := h.2 hc12
          refine T_run 3 (111, 27, [some (.ref 20), some (.int x1), some (.int x2), none], [.int (M10 20 7), .ref 20], (DB o i0 i1 ext), M10) rfl ?_
          refine T_callI (D' := (DB o i0 i1 ext)) rfl (CI_mono h (fun v14 M13 h => ?_))
          refine T_run 2 (111, 30, [some (.ref 20), some (.int x1), some (.int x2), none], [.int (v14 + x1), .ref 20], (DB o i0 i1 ext), M13) rfl ?_
          refine T_callV (D' := (DB o i0 i1 ext)) rfl (CV_mono h (fun M15 h => ?_))
          refine T_run 1 (111, 32, [some (.ref 20), some (.int x1), some (.int x2), none], [.int x2], (DB o i0 i1 ext), M15) rfl ?_
          refine T_br (x2 = 0) (111, 33, [some (.ref 20), some (.int x1), some (.int x2), none], [], (DB o i0 i1 ext), M15) (111, 43, [some (.ref 20), some (.int x1), some (.int x2), none], [], (DB o i0 i1 ext), M15) rfl (fun hc16 => ?_) (fun hc16 => ?_)
          · have h := h.1 hc16
            refine T_run 7 (111, 40, [some (.ref 20), some (.int x1), some (.int x2), none], [.int (M15 20 8), .int (M15 20 7), .ref 20, .int (M15 20 9)], (DB o i0 i1 ext), M15) rfl ?_
            refine T_callI (D' := (DB o i0 i1 ext)) rfl (CI_mono h (fun v18 M17 h => ?_))
            refine T_run 1 (111, 42, [some (.ref 20), some (.int x1), some (.int x2), none], [.int ((M15 20 9) + v18)], (DB o i0 i1 ext), M17) rfl ?_
            exact T_ret rfl h
          · have h := h.2 hc16
            refine T_run 5 (111, 48, [some (.ref 20), some (.int x1), some (.int x2), none], [.int (M15 20 8), .int (M15 20 7), .ref 20], (DB o i0 i1 ext), M15) rfl ?_
            refine T_callI (D' := (DB o i0 i1 ext)) rfl (CI_mono h (fun v20 M19 h => ?_))
            refine T_run 2 (111, 51, [some (.ref 20), some (.int x1), some (.int x2), some (.int v20)], [.int v20], (DB o i0 i1 ext), M19) rfl ?_
            refine T_br (0 ≤ v20) (111, 54, [some (.ref 20), some (.int x1), some (.int x2), some (.int v20)], [], (DB o i0 i1 ext), M19) (111, 52, [some (.ref 20), some (.int x1), some (.int x2), some (.int v20)], [], (DB o i0 i1 ext), M19) rfl (fun hc21 => ?_) (fun hc21 => ?_)
            · have h := h.1 hc21
              refine T_run 1 (111, 55, [some (.ref 20), some (.int x1), some (.int x2), some (.int v20)], [.int v20], (DB o i0 i1 ext), M19) rfl ?_
              refine T_callI (D' := (DB o i0 i1 ext)) rfl (CI_mono h (fun v23 M22 h => ?_))
              exact T_ret rfl h
            · have h := h.2 hc21
              refine T_run 2 (111, 56, [some (.ref 20), some (.int x1), some (.int x2), some (.int v20)], [.int (-(nI 6))], (DB o i0 i1 ext), M19) rfl ?_
              exact T_ret rfl h
      · have h := h.2 hc9
        refine T_run 1 (111, 18, [some (.ref 20), some (.int x1), some (.int x2), none], [.int (-(nI 5))], (DB o i0 i1 ext), M7) rfl ?_
        exact T_ret rfl h
set_option maxRecDepth 100000 in
theorem b_X5_areFew_0 {d : Nat} {Q : ARs → Prop} {o i0 i1 : Option Nat} {ext : ADd} {M : AMm}  (h : CI d 87 [.ref 20] (DB o i0 i1 ext) (ms M 20 16 (nI 0)) (DB o i0 i1 ext) (fun v2 M1 => CI d 75 [.int v2] (DB o i0 i1 ext) M1 (DB o i0 i1 ext) (fun v4 M3 => (v4 ≤ (nI 12) → T (d + 1) Q (112, 14, [some (.ref 20), some (.int v2), some (.int (nI 0))], [], (DB o i0 i1 ext), M3)) ∧ (¬ v4 ≤ (nI 12) → Q (some (.int (nI 0)), (DB o i0 i1 ext), M3))))) : T (d + 1) Q (ent 112 [.ref 20] (DB o i0 i1 ext) M) := by
  refine T_run 4 (112, 4, [some (.ref 20), none, none], [.ref 20], (DB o i0 i1 ext), (ms M 20 16 (nI 0))) rfl ?_
  refine T_callI (D' := (DB o i0 i1 ext)) rfl (CI_mono h (fun v2 M1 h => ?_))
  refine T_run 2 (112, 7, [some (.ref 20), some (.int v2), none], [.int v2], (DB o i0 i1 ext), M1) rfl ?_
  refine T_callI (D' := (DB o i0 i1 ext)) rfl (CI_mono h (fun v4 M3 h => ?_))
  refine T_run 1 (112, 9, [some (.ref 20), some (.int v2), none], [.int (nI 12), .int v4], (DB o i0 i1 ext), M3) rfl ?_
  refine T_br (v4 ≤ (nI 12)) (112, 12, [some (.ref 20), some (.int v2), none], [], (DB o i0 i1 ext), M3) (112, 10, [some (.ref 20), some (.int v2), none], [], (DB o i0 i1 ext), M3) rfl (fun hc5 => ?_) (fun hc5 => ?_)
  · have h := h.1 hc5
    refine T_run 2 (112, 14, [some (.ref 20), some (.int v2), some (.int (nI 0))], [], (DB o i0 i1 ext), M3) rfl ?_
    exact h
  · have h := h.2 hc5
    refine T_run 1 (112, 11, [some (.ref 20), some (.int v2), none], [.int (nI 0)], (DB o i0 i1 ext), M3) rfl ?_
    exact T_ret rfl h
set_option maxRecDepth 100000 in
theorem b_X5_areFew_14 {d : Nat} {Q : ARs → Prop} {o i0 i1 : Option Nat} {ext : ADd} {M : AMm} (x1 : Int32) (x2 : Int32) (h : CI d 77 [.ref 20] (DB o i0 i1 ext) M (DB o i0 i1 ext) (fun v2 M1 => (v2 ≤ x2 → Q (some (.int (nI 1)), (DB o i0 i1 ext), M1)) ∧ (¬ v2 ≤ x2 → (((x1 >>> (x2 &&& 31)) &&& (nI 1)) = (nI 1) → (vp_in x2 16) ∧ ((vp_in (M1 20 16) 12) ∧ (T (d + 1) Q (112, 14, [some (.ref 20), some (.int x1), some (.int (x2 + (nI 1)))], [], (DB o i0 i1 ext), (ms (ms (ms M1 25 x2.toNatClampNeg (M1 20 16)) 26 ((M1 20 16).toNatClampNeg) x2) 20 16 ((M1 20 16) + (nI 1))))))) ∧ (¬ ((x1 >>> (x2 &&& 31)) &&& (nI 1)) = (nI 1) → T (d + 1) Q (112, 14, [some (.ref 20), some (.int x1), some (.int (x2 + (nI 1)))], [], (DB o i0 i1 ext), M1))))) : T (d + 1) Q (112, 14, [some (.ref 20), some (.int x1), some (.int x2)], [], (DB o i0 i1 ext), M) := by
  refine T_run 2 (112, 16, [some (.ref 20), some (.int x1), some (.int x2)], [.ref 20, .int x2], (DB o i0 i1 ext), M) rfl ?_
  refine T_callI (D' := (DB o i0 i1 ext)) rfl (CI_mono h (fun v2 M1 h => ?_))
  refine T_br (v2 ≤ x2) (112, 45, [some (.ref 20), some (.int x1), some (.int x2)], [], (DB o i0 i1 ext), M1) (112, 18, [some (.ref 20), some (.int x1), some (.int x2)], [], (DB o i0 i1 ext), M1) rfl (fun hc3 => ?_) (fun hc3 => ?_)
  · have h := h.1 hc3
    refine T_run 1 (112, 46, [some (.ref 20), some (.int x1), some (.int x2)], [.int (nI 1)], (DB o i0 i1 ext), M1) rfl ?_
    exact T_ret rfl h
  · have h := h.2 hc3
    refine T_run 6 (112, 24, [some (.ref 20), some (.int x1), some (.int x2)], [.int (nI 1), .int ((x1 >>> (x2 &&& 31)) &&& (nI 1))], (DB o i0 i1 ext), M1) rfl ?_
    refine T_br (((x1 >>> (x2 &&& 31)) &&& (nI 1)) = (nI 1)) (112, 25, [some (.ref 20), some (.int x1), some (.int x2)], [], (DB o i0 i1 ext), M1) (112, 43, [some (.ref 20), some (.int x1), some (.int x2)], [], (DB o i0 i1 ext), M1) rfl (fun hc4 => ?_) (fun hc4 => ?_)
    · have h := h.1 hc4
      refine T_run 5 (112, 30, [some (.ref 20), some (.int x1), some (.int x2)], [.int (M1 20 16), .int x2, .ref 25], (DB o i0 i1 ext), M1) rfl ?_
      refine T_gd (x2 < 0 ∨ 16 ≤ x2.toNatClampNeg) (112, 31, [some (.ref 20), some (.int x1), some (.int x2)], [], (DB o i0 i1 ext), (ms M1 25 x2.toNatClampNeg (M1 20 16))) rfl h.1 ?_
      have h := h.2
      refine T_run 5 (112, 36, [some (.ref 20), some (.int x1), some (.int x2)], [.int x2, .int (M1 20 16), .ref 26], (DB o i0 i1 ext), (ms M1 25 x2.toNatClampNeg (M1 20 16))) rfl ?_
      refine T_gd ((M1 20 16) < 0 ∨ 12 ≤ (M1 20 16).toNatClampNeg) (112, 37, [some (.ref 20), some (.int x1), some (.int x2)], [], (DB o i0 i1 ext), (ms (ms M1 25 x2.toNatClampNeg (M1 20 16)) 26 ((M1 20 16).toNatClampNeg) x2)) rfl h.1 ?_
      have h := h.2
      refine T_run 8 (112, 14, [some (.ref 20), some (.int x1), some (.int (x2 + (nI 1)))], [], (DB o i0 i1 ext), (ms (ms (ms M1 25 x2.toNatClampNeg (M1 20 16)) 26 ((M1 20 16).toNatClampNeg) x2) 20 16 ((M1 20 16) + (nI 1)))) rfl ?_
      exact h
    · have h := h.2 hc4
      refine T_run 2 (112, 14, [some (.ref 20), some (.int x1), some (.int (x2 + (nI 1)))], [], (DB o i0 i1 ext), M1) rfl ?_
      exact h
set_option maxRecDepth 100000 in
theorem b_X5_stand_0 {d : Nat} {Q : ARs → Prop} {o i0 i1 : Option Nat} {ext : ADd} {M : AMm} (x0 : Int32) (x1 : Int32) (x2 : Int32) (x3 : Int32) (h : Q (some (.int ((((((x0 * (nI 12)) + x1) * (nI 12)) + x2) * (nI 2)) + x3)), (DB o i0 i1 ext), M)) : T d Q (ent 113 [.int x0, .int x1, .int x2, .int x3] (DB o i0 i1 ext) M) := by
  refine T_run 13 (113, 13, [some (.int x0), some (.int x1), some (.int x2), some (.int x3)], [.int ((((((x0 * (nI 12)) + x1) * (nI 12)) + x2) * (nI 2)) + x3)], (DB o i0 i1 ext), M) rfl ?_
  exact T_ret rfl h
set_option maxRecDepth 100000 in
theorem b_X5_nextFew_0 {d : Nat} {Q : ARs → Prop} {o i0 i1 : Option Nat} {ext : ADd} {M : AMm} (x1 : Int32) (x2 : Int32) (x3 : Int32) (h : (vp_in x2 12) ∧ (CI d 92 [.ref 20, .int (M 26 x2.toNatClampNeg), .int x3] (DB o i0 i1 ext) M (DB o i0 i1 ext) (fun v2 M1 => (v2 < 0 → Q (some (.int (-(nI 6))), (DB o i0 i1 ext), M1)) ∧ (¬ v2 < 0 → (vp_in v2 16) ∧ (((M1 21 v2.toNatClampNeg) = (-(nI 1)) → Q (some (.int (-(nI 6))), (DB o i0 i1 ext), M1)) ∧ (¬ (M1 21 v2.toNatClampNeg) = (-(nI 1)) → (vp_in v2 16) ∧ ((((x1 >>> ((M1 25 v2.toNatClampNeg) &&& 31)) &&& (nI 1)) = 0 → (vp_in v2 16) ∧ (Q (some (.int (M1 25 v2.toNatClampNeg)), (DB o i0 i1 ext), M1))) ∧ (¬ ((x1 >>> ((M1 25 v2.toNatClampNeg) &&& 31)) &&& (nI 1)) = 0 → Q (some (.int (-(nI 6))), (DB o i0 i1 ext), M1))))))))) : T (d + 1) Q (ent 114 [.ref 20, .int x1, .int x2, .int x3] (DB o i0 i1 ext) M) := by
  refine T_run 4 (114, 4, [some (.ref 20), some (.int x1), some (.int x2), some (.int x3), none], [.int x2, .ref 26, .ref 20], (DB o i0 i1 ext), M) rfl ?_
  refine T_gd (x2 < 0 ∨ 12 ≤ x2.toNatClampNeg) (114, 5, [some (.ref 20), some (.int x1), some (.int x2), some (.int x3), none], [.int (M 26 x2.toNatClampNeg), .ref 20], (DB o i0 i1 ext), M) rfl h.1 ?_
  have h := h.2
  refine T_run 1 (114, 6, [some (.ref 20), some (.int x1), some (.int x2), some (.int x3), none], [.int x3, .int (M 26 x2.toNatClampNeg), .ref 20], (DB o i0 i1 ext), M) rfl ?_
  refine T_callI (D' := (DB o i0 i1 ext)) rfl (CI_mono h (fun v2 M1 h => ?_))
  refine T_run 2 (114, 9, [some (.ref 20), some (.int x1), some (.int x2), some (.int x3), some (.int v2)], [.int v2], (DB o i0 i1 ext), M1) rfl ?_
  refine T_br (v2 < 0) (114, 16, [some (.ref 20), some (.int x1), some (.int x2), some (.int x3), some (.int v2)], [], (DB o i0 i1 ext), M1) (114, 10, [some (.ref 20), some (.int x1), some (.int x2), some (.int x3), some (.int v2)], [], (DB o i0 i1 ext), M1) rfl (fun hc3 => ?_) (fun hc3 => ?_)
  · have h := h.1 hc3
    refine T_run 1 (114, 17, [some (.ref 20), some (.int x1), some (.int x2), some (.int x3), some (.int v2)], [.int (-(nI 6))], (DB o i0 i1 ext), M1) rfl ?_
    exact T_ret rfl h
  · have h := h.2 hc3
    refine T_run 3 (114, 13, [some (.ref 20), some (.int x1), some (.int x2), some (.int x3), some (.int v2)], [.int v2, .ref 21], (DB o i0 i1 ext), M1) rfl ?_
    refine T_gd (v2 < 0 ∨ 16 ≤ v2.toNatClampNeg) (114, 14, [some (.ref 20), some (.int x1), some (.int x2), some (.int x3), some (.int v2)], [.int (M1 21 v2.toNatClampNeg)], (DB o i0 i1 ext), M1) rfl h.1 ?_
    have h := h.2
    refine T_run 1 (114, 15, [some (.ref 20), some (.int x1), some (.int x2), some (.int x3), some (.int v2)], [.int (-(nI 1)), .int (M1 21 v2.toNatClampNeg)], (DB o i0 i1 ext), M1) rfl ?_
    refine T_br (_) (114, 16, [some (.ref 20), some (.int x1), some (.int x2), some (.int x3), some (.int v2)], [], (DB o i0 i1 ext), M1) (114, 18, [some (.ref 20), some (.int x1), some (.int x2), some (.int x3), some (.int v2)], [], (DB o i0 i1 ext), M1) rfl (fun hc4 => ?_) (fun hc4 => ?_)
    · have h := h.1 hc4
      refine T_run 1 (114, 17, [some (.ref 20), some (.int x1), some (.int x2), some (.int x3), some (.int v2)], [.int (-(nI 6))], (DB o i0 i1 ext), M1) rfl ?_
      exact T_ret rfl h
    · have h := h.2 hc4
      refine T_run 4 (114, 22, [some (.ref 20), some (.int x1), some (.int x2), some (.int x3), some (.int v2)], [.int v2, .ref 25, .int x1], (DB o i0 i1 ext), M1) rfl ?_
      refine T_gd (v2 < 0 ∨ 16 ≤ v2.toNatClampNeg) (114, 23, [some (.ref 20), some (.int x1), some (.int x2), some (.int x3), some (.int v2)], [.int (M1 25 v2.toNatClampNeg), .int x1], (DB o i0 i1 ext), M1) rfl h.1 ?_
      have h := h.2
      refine T_run 3 (114, 26, [some (.ref 20), some (.int x1), some (.int x2), some (.int x3), some (.int v2)], [.int ((x1 >>> ((M1 25 v2.toNatClampNeg) &&& 31)) &&& (nI 1))], (DB o i0 i1 ext), M1) rfl ?_
      refine T_br (((x1 >>> ((M1 25 v2.toNatClampNeg) &&& 31)) &&& (nI 1)) = 0) (114, 27, [some (.ref 20), some (.int x1), some (.int x2), some (.int x3), some (.int v2)], [], (DB o i0 i1 ext), M1) (114, 32, [some (.ref 20), some (.int x1), some (.int x2), some (.int x3), some (.int v2)], [], (DB o i0 i1 ext), M1) rfl (fun hc5 => ?_) (fun hc5 => ?_)
      · have h := h.1 hc5
        refine T_run 3 (114, 30, [some (.ref 20), some (.int x1), some (.int x2), some (.int x3), some (.int v2)], [.int v2, .ref 25], (DB o i0 i1 ext), M1) rfl ?_
        refine T_gd (v2 < 0 ∨ 16 ≤ v2.toNatClampNeg) (114, 31, [some (.ref 20), some (.int x1), some (.int x2), some (.int x3), some (.int v2)], [.int (M1 25 v2.toNatClampNeg)], (DB o i0 i1 ext), M1) rfl h.1 ?_
        have h := h.2
        refine T_run 1 (114, 33, [some (.ref 20), some (.int x1), some (.int x2), some (.int x3), some (.int v2)], [.int (M1 25 v2.toNatClampNeg)], (DB o i0 i1 ext), M1) rfl ?_
        exact T_ret rfl h
      · have h := h.2 hc5
        refine T_run 1 (114, 33, [some (.ref 20), some (.int x1), some (.int x2), some (.int x3), some (.int v2)], [.int (-(nI 6))], (DB o i0 i1 ext), M1) rfl ?_
        exact T_ret rfl h
set_option maxRecDepth 100000 in
theorem b_X5_bestStep00_0 {d : Nat} {Q : ARs → Prop} {o i0 i1 : Option Nat} {ext : ADd} {M : AMm} (x1 : Int32) (x2 : Int32) (x3 : Int32) (h : T d Q (115, 6, [some (.ref 20), some (.int x1), some (.int x2), some (.int x3), some (.int (nI 0)), some (.int (nI 0)), some (.int (nI 0)), some (.int (nI 0)), some (.int (nI 0)), none, none, none, none], [], (DB o i0 i1 ext), M)) : T d Q (ent 115 [.ref 20, .int x1, .int x2, .int x3, .int (nI 0), .int (nI 0)] (DB o i0 i1 ext) M) := by
  refine T_run 6 (115, 6, [some (.ref 20), some (.int x1), some (.int x2), some (.int x3), some (.int (nI 0)), some (.int (nI 0)), some (.int (nI 0)), some (.int (nI 0)), some (.int (nI 0)), none, none, none, none], [], (DB o i0 i1 ext), M) rfl ?_
  exact h
set_option maxRecDepth 100000 in
theorem b_X5_bestStep00_6 {d : Nat} {Q : ARs → Prop} {o i0 i1 : Option Nat} {ext : ADd} {M : AMm} (x1 : Int32) (x2 : Int32) (x3 : Int32) (x6 : Int32) (x7 : Int32) (x8 : Int32) (h : ((nI 4) ≤ x8 → (x6 = 0 → Q (some (.int (-(nI 1000))), (DB o i0 i1 ext), M)) ∧ (¬ x6 = 0 → Q (some (.int x7), (DB o i0 i1 ext), M))) ∧ (¬ (nI 4) ≤ x8 → CI d 114 [.ref 20, .int x1, .int x2, .int x8] (DB o i0 i1 ext) M (DB o i0 i1 ext) (fun v4 M3 => (v4 < 0 → T (d + 1) Q (115, 6, [some (.ref 20), some (.int x1), some (.int x2), some (.int x3), some (.int (nI 0)), some (.int (nI 0)), some (.int x6), some (.int x7), some (.int (x8 + (nI 1))), none, none, none, none], [], (DB o i0 i1 ext), M3)) ∧ (¬ v4 < 0 → CI d 113 [.int (x1 ||| ((nI 1) <<< (v4 &&& 31))), .int v4, .int x3, .int ((nI 1) - (nI 0))] (DB o i0 i1 ext) M3 (DB o i0 i1 ext) (fun v7 M6 => (vp_in v7 1179648) ∧ (T (d + 1) Q (115, 55, [some (.ref 20), some (.int x1), some (.int x2), some (.int x3), some (.int (nI 0)), some (.int (nI 0)), some (.int x6), some (.int x7), some (.int x8), none, none, some (.int ((M6 23 v7.toNatClampNeg) + (nI 1))), none], [], (DB o i0 i1 ext), M6))))))) : T (d + 1) Q (115, 6, [some (.ref 20), some (.int x1), some (.int x2), some (.int x3), some (.int (nI 0)), some (.int (nI 0)), some (.int x6), some (.int x7), some (.int x8), none, none, none, none], [], (DB o i0 i1 ext), M) := by
  refine T_run 2 (115, 8, [some (.ref 20), some (.int x1), some (.int x2), some (.int x3), some (.int (nI 0)), some (.int (nI 0)), some (.int x6), some (.int x7), some (.int x8), none, none, none, none], [.int (nI 4), .int x8], (DB o i0 i1 ext), M) rfl ?_
  refine T_br ((nI 4) ≤ x8) (115, 86, [some (.ref 20), some (.int x1), some (.int x2), some (.int x3), some (.int (nI 0)), some (.int (nI 0)), some (.int x6), some (.int x7), some (.int x8), none, none, none, none], [], (DB o i0 i1 ext), M) (115, 9, [some (.ref 20), some (.int x1), some (.int x2), some (.int x3), some (.int (nI 0)), some (.int (nI 0)), some (.int x6), some (.int x7), some (.int x8), none, none, none, none], [], (DB o i0 i1 ext), M) rfl (fun hc1 => ?_) (fun hc1 => ?_)
  · have h := h.1 hc1
    refine T_run 1 (115, 87, [some (.ref 20), some (.int x1), some (.int x2), some (.int x3), some (.int (nI 0)), some (.int (nI 0)), some (.int x6), some (.int x7), some (.int x8), none, none, none, none], [.int x6], (DB o i0 i1 ext), M) rfl ?_
    refine T_br (x6 = 0) (115, 90, [some (.ref 20), some (.int x1), some (.int x2), some (.int x3), some (.int (nI 0)), some (.int (nI 0)), some (.int x6), some (.int x7), some (.int x8), none, none, none, none], [], (DB o i0 i1 ext), M) (115, 88, [some (.ref 20), some (.int x1), some (.int x2), some (.int x3), some (.int (nI 0)), some (.int (nI 0)), some (.int x6), some (.int x7), some (.int x8), none, none, none, none], [], (DB o i0 i1 ext), M) rfl (fun hc2 => ?_) (fun hc2 => ?_)
    · have h := h.1 hc2
      refine T_run 1 (115, 91, [some (.ref 20), some (.int x1), some (.int x2), some (.int x3), some (.int (nI 0)), some (.int (nI 0)), some (.int x6), some (.int x7), some (.int x8), none, none, none, none], [.int (-(nI 1000))], (DB o i0 i1 ext), M) rfl ?_
      exact T_ret rfl h
    · have h := h.2 hc2
      refine T_run 2 (115, 91, [some (.ref 20), some (.int x1), some (.int x2), some (.int x3), some (.int (nI 0)), some (.int (nI 0)), some (.int x6), some (.int x7), some (.int x8), none, none, none, none], [.int x7], (DB o i0 i1 ext), M) rfl ?_
      exact T_ret rfl h
  · have h := h.2 hc1
    refine T_run 7 (115, 17, [some (.ref 20), some (.int x1), some (.int x2), some (.int x3), some (.int (nI 0)), some (.int (nI 0)), some (.int x6), some (.int x7), some (.int x8), none, none, none, none], [.int x8, .int x2, .int x1, .ref 20], (DB o i0 i1 ext), M) rfl ?_
    refine T_callI (D' := (DB o i0 i1 ext)) rfl (CI_mono h (fun v4 M3 h => ?_))
    refine T_run 2 (115, 20, [some (.ref 20), some (.int x1), some (.int x2), some (.int x3), some (.int (nI 0)), some (.int (nI 0)), some (.int x6), some (.int x7), some (.int x8), some (.int v4), none, none, none], [.int v4], (DB o i0 i1 ext), M3) rfl ?_
    refine T_br (v4 < 0) (115, 84, [some (.ref 20), some (.int x1), some (.int x2), some (.int x3), some (.int (nI 0)), some (.int (nI 0)), some (.int x6), some (.int x7), some (.int x8), some (.int v4), none, none, none], [], (DB o i0 i1 ext), M3) (115, 21, [some (.ref 20), some (.int x1), some (.int x2), some (.int x3), some (.int (nI 0)), some (.int (nI 0)), some (.int x6), some (.int x7), some (.int x8), some (.int v4), none, none, none], [], (DB o i0 i1 ext), M3) rfl (fun hc5 => ?_) (fun hc5 => ?_)
    · have h := h.1 hc5
      refine T_run 2 (115, 6, [some (.ref 20), some (.int x1), some (.int x2), some (.int x3), some (.int (nI 0)), some (.int (nI 0)), some (.int x6), some (.int x7), some (.int (x8 + (nI 1))), some (.int v4), none, none, none], [], (DB o i0 i1 ext), M3) rfl ?_
      exact T_le (a_le_1 (a_le_1 (a_le_1 (a_le_1 (a_le_1 (a_le_1 (a_le_1 (a_le_1 (a_le_1 (a_le_2 rfl (a_le_1 (a_le_1 (a_le_1 a_le_n))))))))))))) h
    · have h := h.2 hc5
      refine T_run 18 (115, 41, [some (.ref 20), some (.int x1), some (.int x2), some (.int x3), some (.int (nI 0)), some (.int (nI 0)), some (.int x6), some (.int x7), some (.int x8), some (.int v4), none, none, none], [.int ((nI 1) - (nI 0)), .int x3, .int v4, .int (x1 ||| ((nI 1) <<< (v4 &&& 31))), .ref 23], (DB o i0 i1 ext), M3) rfl ?_
      refine T_callI (D' := (DB o i0 i1 ext)) rfl (CI_mono h (fun v7 M6 h => ?_))
      refine T_gd (v7 < 0 ∨ 1179648 ≤ v7.toNatClampNeg) (115, 43, [some (.ref 20), some (.int x1), some (.int x2), some (.int x3), some (.int (nI 0)), some (.int (nI 0)), some (.int x6), some (.int x7), some (.int x8), some (.int v4), none, none, none], [.int (M6 23 v7.toNatClampNeg)], (DB o i0 i1 ext), M6) rfl h.1 ?_
      have h := h.2
      refine T_run 7 (115, 55, [some (.ref 20), some (.int x1), some (.int x2), some (.int x3), some (.int (nI 0)), some (.int (nI 0)), some (.int x6), some (.int x7), some (.int x8), some (.int v4), some (.int (M6 23 v7.toNatClampNeg)), some (.int ((M6 23 v7.toNatClampNeg) + (nI 1))), none], [], (DB o i0 i1 ext), M6) rfl ?_
      exact T_le (a_le_1 (a_le_1 (a_le_1 (a_le_1 (a_le_1 (a_le_1 (a_le_1 (a_le_1 (a_le_1 (a_le_2 rfl (a_le_2 rfl (a_le_1 (a_le_1 a_le_n))))))))))))) h
set_option maxRecDepth 100000 in
theorem b_X5_bestStep00_55 {d : Nat} {Q : ARs → Prop} {o i0 i1 : Option Nat} {ext : ADd} {M : AMm} (x1 : Int32) (x2 : Int32) (x3 : Int32) (x6 : Int32) (x7 : Int32) (x8 : Int32) (x11 : Int32) (h : (x11 ≤ x7 → (x6 = 0 → T d Q (115, 6, [some (.ref 20), some (.int x1), some (.int x2), some (.int x3), some (.int (nI 0)), some (.int (nI 0)), some (.int (nI 1)), some (.int x11), some (.int (x8 + (nI 1))), none, none, none, none], [], (DB o i0 i1 ext), M)) ∧ (¬ x6 = 0 → T d Q (115, 6, [some (.ref 20), some (.int x1), some (.int x2), some (.int x3), some (.int (nI 0)), some (.int (nI 0)), some (.int (nI 1)), some (.int x7), some (.int (x8 + (nI 1))), none, none, none, none], [], (DB o i0 i1 ext), M))) ∧ (¬ x11 ≤ x7 → (x6 = 0 → T d Q (115, 6, [some (.ref 20), some (.int x1), some (.int x2), some (.int x3), some (.int (nI 0)), some (.int (nI 0)), some (.int (nI 1)), some (.int x11), some (.int (x8 + (nI 1))), none, none, none, none], [], (DB o i0 i1 ext), M)) ∧ (¬ x6 = 0 → T d Q (115, 6, [some (.ref 20), some (.int x1), some (.int x2), some (.int x3), some (.int (nI 0)), some (.int (nI 0)), some (.int (nI 1)), some (.int x11), some (.int (x8 + (nI 1))), none, none, none, none], [], (DB o i0 i1 ext), M)))) : T d Q (115, 55, [some (.ref 20), some (.int x1), some (.int x2), some (.int x3), some (.int (nI 0)), some (.int (nI 0)), some (.int x6), some (.int x7), some (.int x8), none, none, some (.int x11), none], [], (DB o i0 i1 ext), M) := by
  refine T_run 4 (115, 69, [some (.ref 20), some (.int x1), some (.int x2), some (.int x3), some (.int (nI 0)), some (.int (nI 0)), some (.int x6), some (.int x7), some (.int x8), none, none, some (.int x11), none], [.int x7, .int x11], (DB o i0 i1 ext), M) rfl ?_
  refine T_br (x11 ≤ x7) (115, 72, [some (.ref 20), some (.int x1), some (.int x2), some (.int x3), some (.int (nI 0)), some (.int (nI 0)), some (.int x6), some (.int x7), some (.int x8), none, none, some (.int x11), none], [], (DB o i0 i1 ext), M) (115, 70, [some (.ref 20), some (.int x1), some (.int x2), some (.int x3), some (.int (nI 0)), some (.int (nI 0)), some (.int x6), some (.int x7), some (.int x8), none, none, some (.int x11), none], [], (DB o i0 i1 ext), M) rfl (fun hc1 => ?_) (fun hc1 => ?_)
  · have h := h.1 hc1
    refine T_run 3 (115, 75, [some (.ref 20), some (.int x1), some (.int x2), some (.int x3), some (.int (nI 0)), some (.int (nI 0)), some (.int x6), some (.int x7), some (.int x8), none, none, some (.int x11), some (.int (nI 0))], [.int x6], (DB o i0 i1 ext), M) rfl ?_
    refine T_br (x6 = 0) (115, 78, [some (.ref 20), some (.int x1), some (.int x2), some (.int x3), some (.int (nI 0)), some (.int (nI 0)), some (.int x6), some (.int x7), some (.int x8), none, none, some (.int x11), some (.int (nI 0))], [], (DB o i0 i1 ext), M) (115, 76, [some (.ref 20), some (.int x1), some (.int x2), some (.int x3), some (.int (nI 0)), some (.int (nI 0)), some (.int x6), some (.int x7), some (.int x8), none, none, some (.int x11), some (.int (nI 0))], [], (DB o i0 i1 ext), M) rfl (fun hc2 => ?_) (fun hc2 => ?_)
    · have h := h.1 hc2
      refine T_run 7 (115, 6, [some (.ref 20), some (.int x1), some (.int x2), some (.int x3), some (.int (nI 0)), some (.int (nI 0)), some (.int (nI 1)), some (.int x11), some (.int (x8 + (nI 1))), none, none, some (.int x11), some (.int (nI 0))], [], (DB o i0 i1 ext), M) rfl ?_
      exact T_le (a_le_1 (a_le_1 (a_le_1 (a_le_1 (a_le_1 (a_le_1 (a_le_1 (a_le_1 (a_le_1 (a_le_1 (a_le_1 (a_le_2 rfl (a_le_2 rfl a_le_n))))))))))))) h
    · have h := h.2 hc2
      refine T_run 8 (115, 6, [some (.ref 20), some (.int x1), some (.int x2), some (.int x3), some (.int (nI 0)), some (.int (nI 0)), some (.int (nI 1)), some (.int x7), some (.int (x8 + (nI 1))), none, none, some (.int x11), some (.int (nI 0))], [], (DB o i0 i1 ext), M) rfl ?_
      exact T_le (a_le_1 (a_le_1 (a_le_1 (a_le_1 (a_le_1 (a_le_1 (a_le_1 (a_le_1 (a_le_1 (a_le_1 (a_le_1 (a_le_2 rfl (a_le_2 rfl a_le_n))))))))))))) h
  · have h := h.2 hc1
    refine T_run 4 (115, 75, [some (.ref 20), some (.int x1), some (.int x2), some (.int x3), some (.int (nI 0)), some (.int (nI 0)), some (.int x6), some (.int x7), some (.int x8), none, none, some (.int x11), some (.int (nI 1))], [.int x6], (DB o i0 i1 ext), M) rfl ?_
    refine T_br (x6 = 0) (115, 78, [some (.ref 20), some (.int x1), some (.int x2), some (.int x3), some (.int (nI 0)), some (.int (nI 0)), some (.int x6), some (.int x7), some (.int x8), none, none, some (.int x11), some (.int (nI 1))], [], (DB o i0 i1 ext), M) (115, 76, [some (.ref 20), some (.int x1), some (.int x2), some (.int x3), some (.int (nI 0)), some (.int (nI 0)), some (.int x6), some (.int x7), some (.int x8), none, none, some (.int x11), some (.int (nI 1))], [], (DB o i0 i1 ext), M) rfl (fun hc3 => ?_) (fun hc3 => ?_)
    · have h := h.1 hc3
      refine T_run 7 (115, 6, [some (.ref 20), some (.int x1), some (.int x2), some (.int x3), some (.int (nI 0)), some (.int (nI 0)), some (.int (nI 1)), some (.int x11), some (.int (x8 + (nI 1))), none, none, some (.int x11), some (.int (nI 1))], [], (DB o i0 i1 ext), M) rfl ?_
      exact T_le (a_le_1 (a_le_1 (a_le_1 (a_le_1 (a_le_1 (a_le_1 (a_le_1 (a_le_1 (a_le_1 (a_le_1 (a_le_1 (a_le_2 rfl (a_le_2 rfl a_le_n))))))))))))) h
    · have h := h.2 hc3
      refine T_run 9 (115, 6, [some (.ref 20), some (.int x1), some (.int x2), some (.int x3), some (.int (nI 0)), some (.int (nI 0)), some (.int (nI 1)), some (.int x11), some (.int (x8 + (nI 1))), none, none, some (.int x11), some (.int (nI 1))], [], (DB o i0 i1 ext), M) rfl ?_
      exact T_le (a_le_1 (a_le_1 (a_le_1 (a_le_1 (a_le_1 (a_le_1 (a_le_1 (a_le_1 (a_le_1 (a_le_1 (a_le_1 (a_le_2 rfl (a_le_2 rfl a_le_n))))))))))))) h
set_option maxRecDepth 100000 in
theorem b_X5_bestStep01_0 {d : Nat} {Q : ARs → Prop} {o i0 i1 : Option Nat} {ext : ADd} {M : AMm} (x1 : Int32) (x2 : Int32) (x3 : Int32) (h : T d Q (115, 6, [some (.ref 20), some (.int x1), some (.int x2), some (.int x3), some (.int (nI 0)), some (.int (nI 1)), some (.int (nI 0)), some (.int (nI 0)), some (.int (nI 0)), none, none, none, none], [], (DB o i0 i1 ext), M)) : T d Q (ent 115 [.ref 20, .int x1, .int x2, .int x3, .int (nI 0), .int (nI 1)] (DB o i0 i1 ext) M) := by
  refine T_run 6 (115, 6, [some (.ref 20), some (.int x1), some (.int x2), some (.int x3), some (.int (nI 0)), some (.int (nI 1)), some (.int (nI 0)), some (.int (nI 0)), some (.int (nI 0)), none, none, none, none], [], (DB o i0 i1 ext), M) rfl ?_
  exact h
set_option maxRecDepth 100000 in
theorem b_X5_bestStep01_6 {d : Nat} {Q : ARs → Prop} {o i0 i1 : Option Nat} {ext : ADd} {M : AMm} (x1 : Int32) (x2 : Int32) (x3 : Int32) (x6 : Int32) (x7 : Int32) (x8 : Int32) (h : ((nI 4) ≤ x8 → (x6 = 0 → Q (some (.int (-(nI 1000))), (DB o i0 i1 ext), M)) ∧ (¬ x6 = 0 → Q (some (.int x7), (DB o i0 i1 ext), M))) ∧ (¬ (nI 4) ≤ x8 → CI d 114 [.ref 20, .int x1, .int x2, .int x8] (DB o i0 i1 ext) M (DB o i0 i1 ext) (fun v4 M3 => (v4 < 0 → T (d + 1) Q (115, 6, [some (.ref 20), some (.int x1), some (.int x2), some (.int x3), some (.int (nI 0)), some (.int (nI 1)), some (.int x6), some (.int x7), some (.int (x8 + (nI 1))), none, none, none, none], [], (DB o i0 i1 ext), M3)) ∧ (¬ v4 < 0 → CI d 113 [.int (x1 ||| ((nI 1) <<< (v4 &&& 31))), .int v4, .int x3, .int ((nI 1) - (nI 0))] (DB o i0 i1 ext) M3 (DB o i0 i1 ext) (fun v7 M6 => (vp_in v7 1179648) ∧ (T (d + 1) Q (115, 55, [some (.ref 20), some (.int x1), some (.int x2), some (.int x3), some (.int (nI 0)), some (.int (nI 1)), some (.int x6), some (.int x7), some (.int x8), none, none, some (.int ((M6 23 v7.toNatClampNeg) + (nI 1))), none], [], (DB o i0 i1 ext), M6))))))) : T (d + 1) Q (115, 6, [some (.ref 20), some (.int x1), some (.int x2), some (.int x3), some (.int (nI 0)), some (.int (nI 1)), some (.int x6), some (.int x7), some (.int x8), none, none, none, none], [], (DB o i0 i1 ext), M) := by
  refine T_run 2 (115, 8, [some (.ref 20), some (.int x1), some (.int x2), some (.int x3), some (.int (nI 0)), some (.int (nI 1)), some (.int x6), some (.int x7), some (.int x8), none, none, none, none], [.int (nI 4), .int x8], (DB o i0 i1 ext), M) rfl ?_
  refine T_br ((nI 4) ≤ x8) (115, 86, [some (.ref 20), some (.int x1), some (.int x2), some (.int x3), some (.int (nI 0)), some (.int (nI 1)), some (.int x6), some (.int x7), some (.int x8), none, none, none, none], [], (DB o i0 i1 ext), M) (115, 9, [some (.ref 20), some (.int x1), some (.int x2), some (.int x3), some (.int (nI 0)), some (.int (nI 1)), some (.int x6), some (.int x7), some (.int x8), none, none, none, none], [], (DB o i0 i1 ext), M) rfl (fun hc1 => ?_) (fun hc1 => ?_)
  · have h := h.1 hc1
    refine T_run 1 (115, 87, [some (.ref 20), some (.int x1), some (.int x2), some (.int x3), some (.int (nI 0)), some (.int (nI 1)), some (.int x6), some (.int x7), some (.int x8), none, none, none, none], [.int x6], (DB o i0 i1 ext), M) rfl ?_
    refine T_br (x6 = 0) (115, 90, [some (.ref 20), some (.int x1), some (.int x2), some (.int x3), some (.int (nI 0)), some (.int (nI 1)), some (.int x6), some (.int x7), some (.int x8), none, none, none, none], [], (DB o i0 i1 ext), M) (115, 88, [some (.ref 20), some (.int x1), some (.int x2), some (.int x3), some (.int (nI 0)), some (.int (nI 1)), some (.int x6), some (.int x7), some (.int x8), none, none, none, none], [], (DB o i0 i1 ext), M) rfl (fun hc2 => ?_) (fun hc2 => ?_)
    · have h := h.1 hc2
      refine T_run 1 (115, 91, [some (.ref 20), some (.int x1), some (.int x2), some (.int x3), some (.int (nI 0)), some (.int (nI 1)), some (.int x6), some (.int x7), some (.int x8), none, none, none, none], [.int (-(nI 1000))], (DB o i0 i1 ext), M) rfl ?_
      exact T_ret rfl h
    · have h := h.2 hc2
      refine T_run 2 (115, 91, [some (.ref 20), some (.int x1), some (.int x2), some (.int x3), some (.int (nI 0)), some (.int (nI 1)), some (.int x6), some (.int x7), some (.int x8), none, none, none, none], [.int x7], (DB o i0 i1 ext), M) rfl ?_
      exact T_ret rfl h
  · have h := h.2 hc1
    refine T_run 7 (115, 17, [some (.ref 20), some (.int x1), some (.int x2), some (.int x3), some (.int (nI 0)), some (.int (nI 1)), some (.int x6), some (.int x7), some (.int x8), none, none, none, none], [.int x8, .int x2, .int x1, .ref 20], (DB o i0 i1 ext), M) rfl ?_
    refine T_callI (D' := (DB o i0 i1 ext)) rfl (CI_mono h (fun v4 M3 h => ?_))
    refine T_run 2 (115, 20, [some (.ref 20), some (.int x1), some (.int x2), some (.int x3), some (.int (nI 0)), some (.int (nI 1)), some (.int x6), some (.int x7), some (.int x8), some (.int v4), none, none, none], [.int v4], (DB o i0 i1 ext), M3) rfl ?_
    refine T_br (v4 < 0) (115, 84, [some (.ref 20), some (.int x1), some (.int x2), some (.int x3), some (.int (nI 0)), some (.int (nI 1)), some (.int x6), some (.int x7), some (.int x8), some (.int v4), none, none, none], [], (DB o i0 i1 ext), M3) (115, 21, [some (.ref 20), some (.int x1), some (.int x2), some (.int x3), some (.int (nI 0)), some (.int (nI 1)), some (.int x6), some (.int x7), some (.int x8), some (.int v4), none, none, none], [], (DB o i0 i1 ext), M3) rfl (fun hc5 => ?_) (fun hc5 => ?_)
    · have h := h.1 hc5
      refine T_run 2 (115, 6, [some (.ref 20), some (.int x1), some (.int x2), some (.int x3), some (.int (nI 0)), some (.int (nI 1)), some (.int x6), some (.int x7), some (.int (x8 + (nI 1))), some (.int v4), none, none, none], [], (DB o i0 i1 ext), M3) rfl ?_
      exact T_le (a_le_1 (a_le_1 (a_le_1 (a_le_1 (a_le_1 (a_le_1 (a_le_1 (a_le_1 (a_le_1 (a_le_2 rfl (a_le_1 (a_le_1 (a_le_1 a_le_n))))))))))))) h
    · have h := h.2 hc5
      refine T_run 18 (115, 41, [some (.ref 20), some (.int x1), some (.int x2), some (.int x3), some (.int (nI 0)), some (.int (nI 1)), some (.int x6), some (.int x7), some (.int x8), some (.int v4), none, none, none], [.int ((nI 1) - (nI 0)), .int x3, .int v4, .int (x1 ||| ((nI 1) <<< (v4 &&& 31))), .ref 23], (DB o i0 i1 ext), M3) rfl ?_
      refine T_callI (D' := (DB o i0 i1 ext)) rfl (CI_mono h (fun v7 M6 h => ?_))
      refine T_gd (v7 < 0 ∨ 1179648 ≤ v7.toNatClampNeg) (115, 43, [some (.ref 20), some (.int x1), some (.int x2), some (.int x3), some (.int (nI 0)), some (.int (nI 1)), some (.int x6), some (.int x7), some (.int x8), some (.int v4), none, none, none], [.int (M6 23 v7.toNatClampNeg)], (DB o i0 i1 ext), M6) rfl h.1 ?_
      have h := h.2
      refine T_run 10 (115, 55, [some (.ref 20), some (.int x1), some (.int x2), some (.int x3), some (.int (nI 0)), some (.int (nI 1)), some (.int x6), some (.int x7), some (.int x8), some (.int v4), some (.int (M6 23 v7.toNatClampNeg)), some (.int ((M6 23 v7.toNatClampNeg) + (nI 1))), none], [], (DB o i0 i1 ext), M6) rfl ?_
      exact T_le (a_le_1 (a_le_1 (a_le_1 (a_le_1 (a_le_1 (a_le_1 (a_le_1 (a_le_1 (a_le_1 (a_le_2 rfl (a_le_2 rfl (a_le_1 (a_le_1 a_le_n))))))))))))) h
set_option maxRecDepth 100000 in
theorem b_X5_bestStep01_55 {d : Nat} {Q : ARs → Prop} {o i0 i1 : Option Nat} {ext : ADd} {M : AMm} (x1 : Int32) (x2 : Int32) (x3 : Int32) (x6 : Int32) (x7 : Int32) (x8 : Int32) (x11 : Int32) (h : (x11 ≤ x7 → (x6 = 0 → T d Q (115, 6, [some (.ref 20), some (.int x1), some (.int x2), some (.int x3), some (.int (nI 0)), some (.int (nI 1)), some (.int (nI 1)), some (.int x11), some (.int (x8 + (nI 1))), none, none, none, none], [], (DB o i0 i1 ext), M)) ∧ (¬ x6 = 0 → T d Q (115, 6, [some (.ref 20), some (.int x1), some (.int x2), some (.int x3), some (.int (nI 0)), some (.int (nI 1)), some (.int (nI 1)), some (.int x7), some (.int (x8 + (nI 1))), none, none, none, none], [], (DB o i0 i1 ext), M))) ∧ (¬ x11 ≤ x7 → (x6 = 0 → T d Q (115, 6, [some (.ref 20), some (.int x1), some (.int x2), some (.int x3), some (.int (nI 0)), some (.int (nI 1)), some (.int (nI 1)), some (.int x11), some (.int (x8 + (nI 1))), none, none, none, none], [], (DB o i0 i1 ext), M)) ∧ (¬ x6 = 0 → T d Q (115, 6, [some (.ref 20), some (.int x1), some (.int x2), some (.int x3), some (.int (nI 0)), some (.int (nI 1)), some (.int (nI 1)), some (.int x11), some (.int (x8 + (nI 1))), none, none, none, none], [], (DB o i0 i1 ext), M)))) : T d Q (115, 55, [some (.ref 20), some (.int x1), some (.int x2), some (.int x3), some (.int (nI 0)), some (.int (nI 1)), some (.int x6), some (.int x7), some (.int x8), none, none, some (.int x11), none], [], (DB o i0 i1 ext), M) := by
  refine T_run 7 (115, 69, [some (.ref 20), some (.int x1), some (.int x2), some (.int x3), some (.int (nI 0)), some (.int (nI 1)), some (.int x6), some (.int x7), some (.int x8), none, none, some (.int x11), none], [.int x7, .int x11], (DB o i0 i1 ext), M) rfl ?_
  refine T_br (x11 ≤ x7) (115, 72, [some (.ref 20), some (.int x1), some (.int x2), some (.int x3), some (.int (nI 0)), some (.int (nI 1)), some (.int x6), some (.int x7), some (.int x8), none, none, some (.int x11), none], [], (DB o i0 i1 ext), M) (115, 70, [some (.ref 20), some (.int x1), some (.int x2), some (.int x3), some (.int (nI 0)), some (.int (nI 1)), some (.int x6), some (.int x7), some (.int x8), none, none, some (.int x11), none], [], (DB o i0 i1 ext), M) rfl (fun hc1 => ?_) (fun hc1 => ?_)
  · have h := h.1 hc1
    refine T_run 3 (115, 75, [some (.ref 20), some (.int x1), some (.int x2), some (.int x3), some (.int (nI 0)), some (.int (nI 1)), some (.int x6), some (.int x7), some (.int x8), none, none, some (.int x11), some (.int (nI 0))], [.int x6], (DB o i0 i1 ext), M) rfl ?_
    refine T_br (x6 = 0) (115, 78, [some (.ref 20), some (.int x1), some (.int x2), some (.int x3), some (.int (nI 0)), some (.int (nI 1)), some (.int x6), some (.int x7), some (.int x8), none, none, some (.int x11), some (.int (nI 0))], [], (DB o i0 i1 ext), M) (115, 76, [some (.ref 20), some (.int x1), some (.int x2), some (.int x3), some (.int (nI 0)), some (.int (nI 1)), some (.int x6), some (.int x7), some (.int x8), none, none, some (.int x11), some (.int (nI 0))], [], (DB o i0 i1 ext), M) rfl (fun hc2 => ?_) (fun hc2 => ?_)
    · have h := h.1 hc2
      refine T_run 7 (115, 6, [some (.ref 20), some (.int x1), some (.int x2), some (.int x3), some (.int (nI 0)), some (.int (nI 1)), some (.int (nI 1)), some (.int x11), some (.int (x8 + (nI 1))), none, none, some (.int x11), some (.int (nI 0))], [], (DB o i0 i1 ext), M) rfl ?_
      exact T_le (a_le_1 (a_le_1 (a_le_1 (a_le_1 (a_le_1 (a_le_1 (a_le_1 (a_le_1 (a_le_1 (a_le_1 (a_le_1 (a_le_2 rfl (a_le_2 rfl a_le_n))))))))))))) h
    · have h := h.2 hc2
      refine T_run 8 (115, 6, [some (.ref 20), some (.int x1), some (.int x2), some (.int x3), some (.int (nI 0)), some (.int (nI 1)), some (.int (nI 1)), some (.int x7), some (.int (x8 + (nI 1))), none, none, some (.int x11), some (.int (nI 0))], [], (DB o i0 i1 ext), M) rfl ?_
      exact T_le (a_le_1 (a_le_1 (a_le_1 (a_le_1 (a_le_1 (a_le_1 (a_le_1 (a_le_1 (a_le_1 (a_le_1 (a_le_1 (a_le_2 rfl (a_le_2 rfl a_le_n))))))))))))) h
  · have h := h.2 hc1
    refine T_run 4 (115, 75, [some (.ref 20), some (.int x1), some (.int x2), some (.int x3), some (.int (nI 0)), some (.int (nI 1)), some (.int x6), some (.int x7), some (.int x8), none, none, some (.int x11), some (.int (nI 1))], [.int x6], (DB o i0 i1 ext), M) rfl ?_
    refine T_br (x6 = 0) (115, 78, [some (.ref 20), some (.int x1), some (.int x2), some (.int x3), some (.int (nI 0)), some (.int (nI 1)), some (.int x6), some (.int x7), some (.int x8), none, none, some (.int x11), some (.int (nI 1))], [], (DB o i0 i1 ext), M) (115, 76, [some (.ref 20), some (.int x1), some (.int x2), some (.int x3), some (.int (nI 0)), some (.int (nI 1)), some (.int x6), some (.int x7), some (.int x8), none, none, some (.int x11), some (.int (nI 1))], [], (DB o i0 i1 ext), M) rfl (fun hc3 => ?_) (fun hc3 => ?_)
    · have h := h.1 hc3
      refine T_run 7 (115, 6, [some (.ref 20), some (.int x1), some (.int x2), some (.int x3), some (.int (nI 0)), some (.int (nI 1)), some (.int (nI 1)), some (.int x11), some (.int (x8 + (nI 1))), none, none, some (.int x11), some (.int (nI 1))], [], (DB o i0 i1 ext), M) rfl ?_
      exact T_le (a_le_1 (a_le_1 (a_le_1 (a_le_1 (a_le_1 (a_le_1 (a_le_1 (a_le_1 (a_le_1 (a_le_1 (a_le_1 (a_le_2 rfl (a_le_2 rfl a_le_n))))))))))))) h
    · have h := h.2 hc3
      refine T_run 9 (115, 6, [some (.ref 20), some (.int x1), some (.int x2), some (.int x3), some (.int (nI 0)), some (.int (nI 1)), some (.int (nI 1)), some (.int x11), some (.int (x8 + (nI 1))), none, none, some (.int x11), some (.int (nI 1))], [], (DB o i0 i1 ext), M) rfl ?_
      exact T_le (a_le_1 (a_le_1 (a_le_1 (a_le_1 (a_le_1 (a_le_1 (a_le_1 (a_le_1 (a_le_1 (a_le_1 (a_le_1 (a_le_2 rfl (a_le_2 rfl a_le_n))))))))))))) h
set_option maxRecDepth 100000 in
theorem b_X5_bestStep10_0 {d : Nat} {Q : ARs → Prop} {o i0 i1 : Option Nat} {ext : ADd} {M : AMm} (x1 : Int32) (x2 : Int32) (x3 : Int32) (h : T d Q (115, 6, [some (.ref 20), some (.int x1), some (.int x2), some (.int x3), some (.int (nI 1)), some (.int (nI 0)), some (.int (nI 0)), some (.int (nI 0)), some (.int (nI 0)), none, none, none, none], [], (DB o i0 i1 ext), M)) : T d Q (ent 115 [.ref 20, .int x1, .int x2, .int x3, .int (nI 1), .int (nI 0)] (DB o i0 i1 ext) M) := by
  refine T_run 6 (115, 6, [some (.ref 20), some (.int x1), some (.int x2), some (.int x3), some (.int (nI 1)), some (.int (nI 0)), some (.int (nI 0)), some (.int (nI 0)), some (.int (nI 0)), none, none, none, none], [], (DB o i0 i1 ext), M) rfl ?_
  exact h
set_option maxRecDepth 100000 in
theorem b_X5_bestStep10_6 {d : Nat} {Q : ARs → Prop} {o i0 i1 : Option Nat} {ext : ADd} {M : AMm} (x1 : Int32) (x2 : Int32) (x3 : Int32) (x6 : Int32) (x7 : Int32) (x8 : Int32) (h : ((nI 4) ≤ x8 → (x6 = 0 → Q (some (.int (-(nI 1000))), (DB o i0 i1 ext), M)) ∧ (¬ x6 = 0 → Q (some (.int x7), (DB o i0 i1 ext), M))) ∧ (¬ (nI 4) ≤ x8 → CI d 114 [.ref 20, .int x1, .int x3, .int x8] (DB o i0 i1 ext) M (DB o i0 i1 ext) (fun v4 M3 => (v4 < 0 → T (d + 1) Q (115, 6, [some (.ref 20), some (.int x1), some (.int x2), some (.int x3), some (.int (nI 1)), some (.int (nI 0)), some (.int x6), some (.int x7), some (.int (x8 + (nI 1))), none, none, none, none], [], (DB o i0 i1 ext), M3)) ∧ (¬ v4 < 0 → CI d 113 [.int (x1 ||| ((nI 1) <<< (v4 &&& 31))), .int x2, .int v4, .int ((nI 1) - (nI 1))] (DB o i0 i1 ext) M3 (DB o i0 i1 ext) (fun v7 M6 => (vp_in v7 1179648) ∧ (T (d + 1) Q (115, 55, [some (.ref 20), some (.int x1), some (.int x2), some (.int x3), some (.int (nI 1)), some (.int (nI 0)), some (.int x6), some (.int x7), some (.int x8), none, none, some (.int ((M6 23 v7.toNatClampNeg) + (nI 1))), none], [], (DB o i0 i1 ext), M6))))))) : T (d + 1) Q (115, 6, [some (.ref 20), some (.int x1), some (.int x2), some (.int x3), some (.int (nI 1)), some (.int (nI 0)), some (.int x6), some (.int x7), some (.int x8), none, none, none, none], [], (DB o i0 i1 ext), M) := by
  refine T_run 2 (115, 8, [some (.ref 20), some (.int x1), some (.int x2), some (.int x3), some (.int (nI 1)), some (.int (nI 0)), some (.int x6), some (.int x7), some (.int x8), none, none, none, none], [.int (nI 4), .int x8], (DB o i0 i1 ext), M) rfl ?_
  refine T_br ((nI 4) ≤ x8) (115, 86, [some (.ref 20), some (.int x1), some (.int x2), some (.int x3), some (.int (nI 1)), some (.int (nI 0)), some (.int x6), some (.int x7), some (.int x8), none, none, none, none], [], (DB o i0 i1 ext), M) (115, 9, [some (.ref 20), some (.int x1), some (.int x2), some (.int x3), some (.int (nI 1)), some (.int (nI 0)), some (.int x6), some (.int x7), some (.int x8), none, none, none, none], [], (DB o i0 i1 ext), M) rfl (fun hc1 => ?_) (fun hc1 => ?_)
  · have h := h.1 hc1
    refine T_run 1 (115, 87, [some (.ref 20), some (.int x1), some (.int x2), some (.int x3), some (.int (nI 1)), some (.int (nI 0)), some (.int x6), some (.int x7), some (.int x8), none, none, none, none], [.int x6], (DB o i0 i1 ext), M) rfl ?_
    refine T_br (x6 = 0) (115, 90, [some (.ref 20), some (.int x1), some (.int x2), some (.int x3), some (.int (nI 1)), some (.int (nI 0)), some (.int x6), some (.int x7), some (.int x8), none, none, none, none], [], (DB o i0 i1 ext), M) (115, 88, [some (.ref 20), some (.int x1), some (.int x2), some (.int x3), some (.int (nI 1)), some (.int (nI 0)), some (.int x6), some (.int x7), some (.int x8), none, none, none, none], [], (DB o i0 i1 ext), M) rfl (fun hc2 => ?_) (fun hc2 => ?_)
    · have h := h.1 hc2
      refine T_run 1 (115, 91, [some (.ref 20), some (.int x1), some (.int x2), some (.int x3), some (.int (nI 1)), some (.int (nI 0)), some (.int x6), some (.int x7), some (.int x8), none, none, none, none], [.int (-(nI 1000))], (DB o i0 i1 ext), M) rfl ?_
      exact T_ret rfl h
    · have h := h.2 hc2
      refine T_run 2 (115, 91, [some (.ref 20), some (.int x1), some (.int x2), some (.int x3), some (.int (nI 1)), some (.int (nI 0)), some (.int x6), some (.int x7), some (.int x8), none, none, none, none], [.int x7], (DB o i0 i1 ext), M) rfl ?_
      exact T_ret rfl h
  · have h := h.2 hc1
    refine T_run 6 (115, 17, [some (.ref 20), some (.int x1), some (.int x2), some (.int x3), some (.int (nI 1)), some (.int (nI 0)), some (.int x6), some (.int x7), some (.int x8), none, none, none, none], [.int x8, .int x3, .int x1, .ref 20], (DB o i0 i1 ext), M) rfl ?_
    refine T_callI (D' := (DB o i0 i1 ext)) rfl (CI_mono h (fun v4 M3 h => ?_))
    refine T_run 2 (115, 20, [some (.ref 20), some (.int x1), some (.int x2), some (.int x3), some (.int (nI 1)), some (.int (nI 0)), some (.int x6), some (.int x7), some (.int x8), some (.int v4), none, none, none], [.int v4], (DB o i0 i1 ext), M3) rfl ?_
    refine T_br (v4 < 0) (115, 84, [some (.ref 20), some (.int x1), some (.int x2), some (.int x3), some (.int (nI 1)), some (.int (nI 0)), some (.int x6), some (.int x7), some (.int x8), some (.int v4), none, none, none], [], (DB o i0 i1 ext), M3) (115, 21, [some (.ref 20), some (.int x1), some (.int x2), some (.int x3), some (.int (nI 1)), some (.int (nI 0)), some (.int x6), some (.int x7), some (.int x8), some (.int v4), none, none, none], [], (DB o i0 i1 ext), M3) rfl (fun hc5 => ?_) (fun hc5 => ?_)
    · have h := h.1 hc5
      refine T_run 2 (115, 6, [some (.ref 20), some (.int x1), some (.int x2), some (.int x3), some (.int (nI 1)), some (.int (nI 0)), some (.int x6), some (.int x7), some (.int (x8 + (nI 1))), some (.int v4), none, none, none], [], (DB o i0 i1 ext), M3) rfl ?_
      exact T_le (a_le_1 (a_le_1 (a_le_1 (a_le_1 (a_le_1 (a_le_1 (a_le_1 (a_le_1 (a_le_1 (a_le_2 rfl (a_le_1 (a_le_1 (a_le_1 a_le_n))))))))))))) h
    · have h := h.2 hc5
      refine T_run 16 (115, 41, [some (.ref 20), some (.int x1), some (.int x2), some (.int x3), some (.int (nI 1)), some (.int (nI 0)), some (.int x6), some (.int x7), some (.int x8), some (.int v4), none, none, none], [.int ((nI 1) - (nI 1)), .int v4, .int x2, .int (x1 ||| ((nI 1) <<< (v4 &&& 31))), .ref 23], (DB o i0 i1 ext), M3) rfl ?_
      refine T_callI (D' := (DB o i0 i1 ext)) rfl (CI_mono h (fun v7 M6 h => ?_))
      refine T_gd (v7 < 0 ∨ 1179648 ≤ v7.toNatClampNeg) (115, 43, [some (.ref 20), some (.int x1), some (.int x2), some (.int x3), some (.int (nI 1)), some (.int (nI 0)), some (.int x6), some (.int x7), some (.int x8), some (.int v4), none, none, none], [.int (M6 23 v7.toNatClampNeg)], (DB o i0 i1 ext), M6) rfl h.1 ?_
      have h := h.2
      refine T_run 7 (115, 55, [some (.ref 20), some (.int x1), some (.int x2), some (.int x3), some (.int (nI 1)), some (.int (nI 0)), some (.int x6), some (.int x7), some (.int x8), some (.int v4), some (.int (M6 23 v7.toNatClampNeg)), some (.int ((M6 23 v7.toNatClampNeg) + (nI 1))), none], [], (DB o i0 i1 ext), M6) rfl ?_
      exact T_le (a_le_1 (a_le_1 (a_le_1 (a_le_1 (a_le_1 (a_le_1 (a_le_1 (a_le_1 (a_le_1 (a_le_2 rfl (a_le_2 rfl (a_le_1 (a_le_1 a_le_n))))))))))))) h
set_option maxRecDepth 100000 in
theorem b_X5_bestStep10_55 {d : Nat} {Q : ARs → Prop} {o i0 i1 : Option Nat} {ext : ADd} {M : AMm} (x1 : Int32) (x2 : Int32) (x3 : Int32) (x6 : Int32) (x7 : Int32) (x8 : Int32) (x11 : Int32) (h : (x11 ≤ x7 → (x6 = 0 → T d Q (115, 6, [some (.ref 20), some (.int x1), some (.int x2), some (.int x3), some (.int (nI 1)), some (.int (nI 0)), some (.int (nI 1)), some (.int x11), some (.int (x8 + (nI 1))), none, none, none, none], [], (DB o i0 i1 ext), M)) ∧ (¬ x6 = 0 → T d Q (115, 6, [some (.ref 20), some (.int x1), some (.int x2), some (.int x3), some (.int (nI 1)), some (.int (nI 0)), some (.int (nI 1)), some (.int x7), some (.int (x8 + (nI 1))), none, none, none, none], [], (DB o i0 i1 ext), M))) ∧ (¬ x11 ≤ x7 → (x6 = 0 → T d Q (115, 6, [some (.ref 20), some (.int x1), some (.int x2), some (.int x3), some (.int (nI 1)), some (.int (nI 0)), some (.int (nI 1)), some (.int x11), some (.int (x8 + (nI 1))), none, none, none, none], [], (DB o i0 i1 ext), M)) ∧ (¬ x6 = 0 → T d Q (115, 6, [some (.ref 20), some (.int x1), some (.int x2), some (.int x3), some (.int (nI 1)), some (.int (nI 0)), some (.int (nI 1)), some (.int x11), some (.int (x8 + (nI 1))), none, none, none, none], [], (DB o i0 i1 ext), M)))) : T d Q (115, 55, [some (.ref 20), some (.int x1), some (.int x2), some (.int x3), some (.int (nI 1)), some (.int (nI 0)), some (.int x6), some (.int x7), some (.int x8), none, none, some (.int x11), none], [], (DB o i0 i1 ext), M) := by
  refine T_run 4 (115, 69, [some (.ref 20), some (.int x1), some (.int x2), some (.int x3), some (.int (nI 1)), some (.int (nI 0)), some (.int x6), some (.int x7), some (.int x8), none, none, some (.int x11), none], [.int x7, .int x11], (DB o i0 i1 ext), M) rfl ?_
  refine T_br (x11 ≤ x7) (115, 72, [some (.ref 20), some (.int x1), some (.int x2), some (.int x3), some (.int (nI 1)), some (.int (nI 0)), some (.int x6), some (.int x7), some (.int x8), none, none, some (.int x11), none], [], (DB o i0 i1 ext), M) (115, 70, [some (.ref 20), some (.int x1), some (.int x2), some (.int x3), some (.int (nI 1)), some (.int (nI 0)), some (.int x6), some (.int x7), some (.int x8), none, none, some (.int x11), none], [], (DB o i0 i1 ext), M) rfl (fun hc1 => ?_) (fun hc1 => ?_)
  · have h := h.1 hc1
    refine T_run 3 (115, 75, [some (.ref 20), some (.int x1), some (.int x2), some (.int x3), some (.int (nI 1)), some (.int (nI 0)), some (.int x6), some (.int x7), some (.int x8), none, none, some (.int x11), some (.int (nI 0))], [.int x6], (DB o i0 i1 ext), M) rfl ?_
    refine T_br (x6 = 0) (115, 78, [some (.ref 20), some (.int x1), some (.int x2), some (.int x3), some (.int (nI 1)), some (.int (nI 0)), some (.int x6), some (.int x7), some (.int x8), none, none, some (.int x11), some (.int (nI 0))], [], (DB o i0 i1 ext), M) (115, 76, [some (.ref 20), some (.int x1), some (.int x2), some (.int x3), some (.int (nI 1)), some (.int (nI 0)), some (.int x6), some (.int x7), some (.int x8), none, none, some (.int x11), some (.int (nI 0))], [], (DB o i0 i1 ext), M) rfl (fun hc2 => ?_) (fun hc2 => ?_)
    · have h := h.1 hc2
      refine T_run 7 (115, 6, [some (.ref 20), some (.int x1), some (.int x2), some (.int x3), some (.int (nI 1)), some (.int (nI 0)), some (.int (nI 1)), some (.int x11), some (.int (x8 + (nI 1))), none, none, some (.int x11), some (.int (nI 0))], [], (DB o i0 i1 ext), M) rfl ?_
      exact T_le (a_le_1 (a_le_1 (a_le_1 (a_le_1 (a_le_1 (a_le_1 (a_le_1 (a_le_1 (a_le_1 (a_le_1 (a_le_1 (a_le_2 rfl (a_le_2 rfl a_le_n))))))))))))) h
    · have h := h.2 hc2
      refine T_run 8 (115, 6, [some (.ref 20), some (.int x1), some (.int x2), some (.int x3), some (.int (nI 1)), some (.int (nI 0)), some (.int (nI 1)), some (.int x7), some (.int (x8 + (nI 1))), none, none, some (.int x11), some (.int (nI 0))], [], (DB o i0 i1 ext), M) rfl ?_
      exact T_le (a_le_1 (a_le_1 (a_le_1 (a_le_1 (a_le_1 (a_le_1 (a_le_1 (a_le_1 (a_le_1 (a_le_1 (a_le_1 (a_le_2 rfl (a_le_2 rfl a_le_n))))))))))))) h
  · have h := h.2 hc1
    refine T_run 4 (115, 75, [some (.ref 20), some (.int x1), some (.int x2), some (.int x3), some (.int (nI 1)), some (.int (nI 0)), some (.int x6), some (.int x7), some (.int x8), none, none, some (.int x11), some (.int (nI 1))], [.int x6], (DB o i0 i1 ext), M) rfl ?_
    refine T_br (x6 = 0) (115, 78, [some (.ref 20), some (.int x1), some (.int x2), some (.int x3), some (.int (nI 1)), some (.int (nI 0)), some (.int x6), some (.int x7), some (.int x8), none, none, some (.int x11), some (.int (nI 1))], [], (DB o i0 i1 ext), M) (115, 76, [some (.ref 20), some (.int x1), some (.int x2), some (.int x3), some (.int (nI 1)), some (.int (nI 0)), some (.int x6), some (.int x7), some (.int x8), none, none, some (.int x11), some (.int (nI 1))], [], (DB o i0 i1 ext), M) rfl (fun hc3 => ?_) (fun hc3 => ?_)
    · have h := h.1 hc3
      refine T_run 7 (115, 6, [some (.ref 20), some (.int x1), some (.int x2), some (.int x3), some (.int (nI 1)), some (.int (nI 0)), some (.int (nI 1)), some (.int x11), some (.int (x8 + (nI 1))), none, none, some (.int x11), some (.int (nI 1))], [], (DB o i0 i1 ext), M) rfl ?_
      exact T_le (a_le_1 (a_le_1 (a_le_1 (a_le_1 (a_le_1 (a_le_1 (a_le_1 (a_le_1 (a_le_1 (a_le_1 (a_le_1 (a_le_2 rfl (a_le_2 rfl a_le_n))))))))))))) h
    · have h := h.2 hc3
      refine T_run 9 (115, 6, [some (.ref 20), some (.int x1), some (.int x2), some (.int x3), some (.int (nI 1)), some (.int (nI 0)), some (.int (nI 1)), some (.int x11), some (.int (x8 + (nI 1))), none, none, some (.int x11), some (.int (nI 1))], [], (DB o i0 i1 ext), M) rfl ?_
      exact T_le (a_le_1 (a_le_1 (a_le_1 (a_le_1 (a_le_1 (a_le_1 (a_le_1 (a_le_1 (a_le_1 (a_le_1 (a_le_1 (a_le_2 rfl (a_le_2 rfl a_le_n))))))))))))) h
set_option maxRecDepth 100000 in
theorem b_X5_bestStep11_0 {d : Nat} {Q : ARs → Prop} {o i0 i1 : Option Nat} {ext : ADd} {M : AMm} (x1 : Int32) (x2 : Int32) (x3 : Int32) (h : T d Q (115, 6, [some (.ref 20), some (.int x1), some (.int x2), some (.int x3), some (.int (nI 1)), some (.int (nI 1)), some (.int (nI 0)), some (.int (nI 0)), some (.int (nI 0)), none, none, none, none], [], (DB o i0 i1 ext), M)) : T d Q (ent 115 [.ref 20, .int x1, .int x2, .int x3, .int (nI 1), .int (nI 1)] (DB o i0 i1 ext) M) := by
  refine T_run 6 (115, 6, [some (.ref 20), some (.int x1), some (.int x2), some (.int x3), some (.int (nI 1)), some (.int (nI 1)), some (.int (nI 0)), some (.int (nI 0)), some (.int (nI 0)), none, none, none, none], [], (DB o i0 i1 ext), M) rfl ?_
  exact h
set_option maxRecDepth 100000 in
theorem b_X5_bestStep11_6 {d : Nat} {Q : ARs → Prop} {o i0 i1 : Option Nat} {ext : ADd} {M : AMm} (x1 : Int32) (x2 : Int32) (x3 : Int32) (x6 : Int32) (x7 : Int32) (x8 : Int32) (h : ((nI 4) ≤ x8 → (x6 = 0 → Q (some (.int (-(nI 1000))), (DB o i0 i1 ext), M)) ∧ (¬ x6 = 0 → Q (some (.int x7), (DB o i0 i1 ext), M))) ∧ (¬ (nI 4) ≤ x8 → CI d 114 [.ref 20, .int x1, .int x3, .int x8] (DB o i0 i1 ext) M (DB o i0 i1 ext) (fun v4 M3 => (v4 < 0 → T (d + 1) Q (115, 6, [some (.ref 20), some (.int x1), some (.int x2), some (.int x3), some (.int (nI 1)), some (.int (nI 1)), some (.int x6), some (.int x7), some (.int (x8 + (nI 1))), none, none, none, none], [], (DB o i0 i1 ext), M3)) ∧ (¬ v4 < 0 → CI d 113 [.int (x1 ||| ((nI 1) <<< (v4 &&& 31))), .int x2, .int v4, .int ((nI 1) - (nI 1))] (DB o i0 i1 ext) M3 (DB o i0 i1 ext) (fun v7 M6 => (vp_in v7 1179648) ∧ (T (d + 1) Q (115, 55, [some (.ref 20), some (.int x1), some (.int x2), some (.int x3), some (.int (nI 1)), some (.int (nI 1)), some (.int x6), some (.int x7), some (.int x8), none, none, some (.int ((M6 23 v7.toNatClampNeg) + (-(nI 1)))), none], [], (DB o i0 i1 ext), M6))))))) : T (d + 1) Q (115, 6, [some (.ref 20), some (.int x1), some (.int x2), some (.int x3), some (.int (nI 1)), some (.int (nI 1)), some (.int x6), some (.int x7), some (.int x8), none, none, none, none], [], (DB o i0 i1 ext), M) := by
  refine T_run 2 (115, 8, [some (.ref 20), some (.int x1), some (.int x2), some (.int x3), some (.int (nI 1)), some (.int (nI 1)), some (.int x6), some (.int x7), some (.int x8), none, none, none, none], [.int (nI 4), .int x8], (DB o i0 i1 ext), M) rfl ?_
  refine T_br ((nI 4) ≤ x8) (115, 86, [some (.ref 20), some (.int x1), some (.int x2), some (.int x3), some (.int (nI 1)), some (.int (nI 1)), some (.int x6), some (.int x7), some (.int x8), none, none, none, none], [], (DB o i0 i1 ext), M) (115, 9, [some (.ref 20), some (.int x1), some (.int x2), some (.int x3), some (.int (nI 1)), some (.int (nI 1)), some (.int x6), some (.int x7), some (.int x8), none, none, none, none], [], (DB o i0 i1 ext), M) rfl (fun hc1 => ?_) (fun hc1 => ?_)
  · have h := h.1 hc1
    refine T_run 1 (115, 87, [some (.ref 20), some (.int x1), some (.int x2), some (.int x3), some (.int (nI 1)), some (.int (nI 1)), some (.int x6), some (.int x7), some (.int x8), none, none, none, none], [.int x6], (DB o i0 i1 ext), M) rfl ?_
    refine T_br (x6 = 0) (115, 90, [some (.ref 20), some (.int x1), some (.int x2), some (.int x3), some (.int (nI 1)), some (.int (nI 1)), some (.int x6), some (.int x7), some (.int x8), none, none, none, none], [], (DB o i0 i1 ext), M) (115, 88, [some (.ref 20), some (.int x1), some (.int x2), some (.int x3), some (.int (nI 1)), some (.int (nI 1)), some (.int x6), some (.int x7), some (.int x8), none, none, none, none], [], (DB o i0 i1 ext), M) rfl (fun hc2 => ?_) (fun hc2 => ?_)
    · have h := h.1 hc2
      refine T_run 1 (115, 91, [some (.ref 20), some (.int x1), some (.int x2), some (.int x3), some (.int (nI 1)), some (.int (nI 1)), some (.int x6), some (.int x7), some (.int x8), none, none, none, none], [.int (-(nI 1000))], (DB o i0 i1 ext), M) rfl ?_
      exact T_ret rfl h
    · have h := h.2 hc2
      refine T_run 2 (115, 91, [some (.ref 20), some (.int x1), some (.int x2), some (.int x3), some (.int (nI 1)), some (.int (nI 1)), some (.int x6), some (.int x7), some (.int x8), none, none, none, none], [.int x7], (DB o i0 i1 ext), M) rfl ?_
      exact T_ret rfl h
  · have h := h.2 hc1
    refine T_run 6 (115, 17, [some (.ref 20), some (.int x1), some (.int x2), some (.int x3), some (.int (nI 1)), some (.int (nI 1)), some (.int x6), some (.int x7), some (.int x8), none, none, none, none], [.int x8, .int x3, .int x1, .ref 20], (DB o i0 i1 ext), M) rfl ?_
    refine T_callI (D' := (DB o i0 i1 ext)) rfl (CI_mono h (fun v4 M3 h => ?_))
    refine T_run 2 (115, 20, [some (.ref 20), some (.int x1), some (.int x2), some (.int x3), some (.int (nI 1)), some (.int (nI 1)), some (.int x6), some (.int x7), some (.int x8), some (.int v4), none, none, none], [.int v4], (DB o i0 i1 ext), M3) rfl ?_
    refine T_br (v4 < 0) (115, 84, [some (.ref 20), some (.int x1), some (.int x2), some (.int x3), some (.int (nI 1)), some (.int (nI 1)), some (.int x6), some (.int x7), some (.int x8), some (.int v4), none, none, none], [], (DB o i0 i1 ext), M3) (115, 21, [some (.ref 20), some (.int x1), some (.int x2), some (.int x3), some (.int (nI 1)), some (.int (nI 1)), some (.int x6), some (.int x7), some (.int x8), some (.int v4), none, none, none], [], (DB o i0 i1 ext), M3) rfl (fun hc5 => ?_) (fun hc5 => ?_)
    · have h := h.1 hc5
      refine T_run 2 (115, 6, [some (.ref 20), some (.int x1), some (.int x2), some (.int x3), some (.int (nI 1)), some (.int (nI 1)), some (.int x6), some (.int x7), some (.int (x8 + (nI 1))), some (.int v4), none, none, none], [], (DB o i0 i1 ext), M3) rfl ?_
      exact T_le (a_le_1 (a_le_1 (a_le_1 (a_le_1 (a_le_1 (a_le_1 (a_le_1 (a_le_1 (a_le_1 (a_le_2 rfl (a_le_1 (a_le_1 (a_le_1 a_le_n))))))))))))) h
    · have h := h.2 hc5
      refine T_run 16 (115, 41, [some (.ref 20), some (.int x1), some (.int x2), some (.int x3), some (.int (nI 1)), some (.int (nI 1)), some (.int x6), some (.int x7), some (.int x8), some (.int v4), none, none, none], [.int ((nI 1) - (nI 1)), .int v4, .int x2, .int (x1 ||| ((nI 1) <<< (v4 &&& 31))), .ref 23], (DB o i0 i1 ext), M3) rfl ?_
      refine T_callI (D' := (DB o i0 i1 ext)) rfl (CI_mono h (fun v7 M6 h => ?_))
      refine T_gd (v7 < 0 ∨ 1179648 ≤ v7.toNatClampNeg) (115, 43, [some (.ref 20), some (.int x1), some (.int x2), some (.int x3), some (.int (nI 1)), some (.int (nI 1)), some (.int x6), some (.int x7), some (.int x8), some (.int v4), none, none, none], [.int (M6 23 v7.toNatClampNeg)], (DB o i0 i1 ext), M6) rfl h.1 ?_
      have h := h.2
      refine T_run 11 (115, 55, [some (.ref 20), some (.int x1), some (.int x2), some (.int x3), some (.int (nI 1)), some (.int (nI 1)), some (.int x6), some (.int x7), some (.int x8), some (.int v4), some (.int (M6 23 v7.toNatClampNeg)), some (.int ((M6 23 v7.toNatClampNeg) + (-(nI 1)))), none], [], (DB o i0 i1 ext), M6) rfl ?_
      exact T_le (a_le_1 (a_le_1 (a_le_1 (a_le_1 (a_le_1 (a_le_1 (a_le_1 (a_le_1 (a_le_1 (a_le_2 rfl (a_le_2 rfl (a_le_1 (a_le_1 a_le_n))))))))))))) h
set_option maxRecDepth 100000 in
theorem b_X5_bestStep11_55 {d : Nat} {Q : ARs → Prop} {o i0 i1 : Option Nat} {ext : ADd} {M : AMm} (x1 : Int32) (x2 : Int32) (x3 : Int32) (x6 : Int32) (x7 : Int32) (x8 : Int32) (x11 : Int32) (h : (x7 ≤ x11 → (x6 = 0 → T d Q (115, 6, [some (.ref 20), some (.int x1), some (.int x2), some (.int x3), some (.int (nI 1)), some (.int (nI 1)), some (.int (nI 1)), some (.int x11), some (.int (x8 + (nI 1))), none, none, none, none], [], (DB o i0 i1 ext), M)) ∧ (¬ x6 = 0 → T d Q (115, 6, [some (.ref 20), some (.int x1), some (.int x2), some (.int x3), some (.int (nI 1)), some (.int (nI 1)), some (.int (nI 1)), some (.int x7), some (.int (x8 + (nI 1))), none, none, none, none], [], (DB o i0 i1 ext), M))) ∧ (¬ x7 ≤ x11 → (x6 = 0 → T d Q (115, 6, [some (.ref 20), some (.int x1), some (.int x2), some (.int x3), some (.int (nI 1)), some (.int (nI 1)), some (.int (nI 1)), some (.int x11), some (.int (x8 + (nI 1))), none, none, none, none], [], (DB o i0 i1 ext), M)) ∧ (¬ x6 = 0 → T d Q (115, 6, [some (.ref 20), some (.int x1), some (.int x2), some (.int x3), some (.int (nI 1)), some (.int (nI 1)), some (.int (nI 1)), some (.int x11), some (.int (x8 + (nI 1))), none, none, none, none], [], (DB o i0 i1 ext), M)))) : T d Q (115, 55, [some (.ref 20), some (.int x1), some (.int x2), some (.int x3), some (.int (nI 1)), some (.int (nI 1)), some (.int x6), some (.int x7), some (.int x8), none, none, some (.int x11), none], [], (DB o i0 i1 ext), M) := by
  refine T_run 7 (115, 62, [some (.ref 20), some (.int x1), some (.int x2), some (.int x3), some (.int (nI 1)), some (.int (nI 1)), some (.int x6), some (.int x7), some (.int x8), none, none, some (.int x11), none], [.int x7, .int x11], (DB o i0 i1 ext), M) rfl ?_
  refine T_br (x7 ≤ x11) (115, 65, [some (.ref 20), some (.int x1), some (.int x2), some (.int x3), some (.int (nI 1)), some (.int (nI 1)), some (.int x6), some (.int x7), some (.int x8), none, none, some (.int x11), none], [], (DB o i0 i1 ext), M) (115, 63, [some (.ref 20), some (.int x1), some (.int x2), some (.int x3), some (.int (nI 1)), some (.int (nI 1)), some (.int x6), some (.int x7), some (.int x8), none, none, some (.int x11), none], [], (DB o i0 i1 ext), M) rfl (fun hc1 => ?_) (fun hc1 => ?_)
  · have h := h.1 hc1
    refine T_run 4 (115, 75, [some (.ref 20), some (.int x1), some (.int x2), some (.int x3), some (.int (nI 1)), some (.int (nI 1)), some (.int x6), some (.int x7), some (.int x8), none, none, some (.int x11), some (.int (nI 0))], [.int x6], (DB o i0 i1 ext), M) rfl ?_
    refine T_br (x6 = 0) (115, 78, [some (.ref 20), some (.int x1), some (.int x2), some (.int x3), some (.int (nI 1)), some (.int (nI 1)), some (.int x6), some (.int x7), some (.int x8), none, none, some (.int x11), some (.int (nI 0))], [], (DB o i0 i1 ext), M) (115, 76, [some (.ref 20), some (.int x1), some (.int x2), some (.int x3), some (.int (nI 1)), some (.int (nI 1)), some (.int x6), some (.int x7), some (.int x8), none, none, some (.int x11), some (.int (nI 0))], [], (DB o i0 i1 ext), M) rfl (fun hc2 => ?_) (fun hc2 => ?_)
    · have h := h.1 hc2
      refine T_run 7 (115, 6, [some (.ref 20), some (.int x1), some (.int x2), some (.int x3), some (.int (nI 1)), some (.int (nI 1)), some (.int (nI 1)), some (.int x11), some (.int (x8 + (nI 1))), none, none, some (.int x11), some (.int (nI 0))], [], (DB o i0 i1 ext), M) rfl ?_
      exact T_le (a_le_1 (a_le_1 (a_le_1 (a_le_1 (a_le_1 (a_le_1 (a_le_1 (a_le_1 (a_le_1 (a_le_1 (a_le_1 (a_le_2 rfl (a_le_2 rfl a_le_n))))))))))))) h
    · have h := h.2 hc2
      refine T_run 8 (115, 6, [some (.ref 20), some (.int x1), some (.int x2), some (.int x3), some (.int (nI 1)), some (.int (nI 1)), some (.int (nI 1)), some (.int x7), some (.int (x8 + (nI 1))), none, none, some (.int x11), some (.int (nI 0))], [], (DB o i0 i1 ext), M) rfl ?_
      exact T_le (a_le_1 (a_le_1 (a_le_1 (a_le_1 (a_le_1 (a_le_1 (a_le_1 (a_le_1 (a_le_1 (a_le_1 (a_le_1 (a_le_2 rfl (a_le_2 rfl a_le_n))))))))))))) h
  · have h := h.2 hc1
    refine T_run 4 (115, 75, [some (.ref 20), some (.int x1), some (.int x2), some (.int x3), some (.int (nI 1)), some (.int (nI 1)), some (.int x6), some (.int x7), some (.int x8), none, none, some (.int x11), some (.int (nI 1))], [.int x6], (DB o i0 i1 ext), M) rfl ?_
    refine T_br (x6 = 0) (115, 78, [some (.ref 20), some (.int x1), some (.int x2), some (.int x3), some (.int (nI 1)), some (.int (nI 1)), some (.int x6), some (.int x7), some (.int x8), none, none, some (.int x11), some (.int (nI 1))], [], (DB o i0 i1 ext), M) (115, 76, [some (.ref 20), some (.int x1), some (.int x2), some (.int x3), some (.int (nI 1)), some (.int (nI 1)), some (.int x6), some (.int x7), some (.int x8), none, none, some (.int x11), some (.int (nI 1))], [], (DB o i0 i1 ext), M) rfl (fun hc3 => ?_) (fun hc3 => ?_)
    · have h := h.1 hc3
      refine T_run 7 (115, 6, [some (.ref 20), some (.int x1), some (.int x2), some (.int x3), some (.int (nI 1)), some (.int (nI 1)), some (.int (nI 1)), some (.int x11), some (.int (x8 + (nI 1))), none, none, some (.int x11), some (.int (nI 1))], [], (DB o i0 i1 ext), M) rfl ?_
      exact T_le (a_le_1 (a_le_1 (a_le_1 (a_le_1 (a_le_1 (a_le_1 (a_le_1 (a_le_1 (a_le_1 (a_le_1 (a_le_1 (a_le_2 rfl (a_le_2 rfl a_le_n))))))))))))) h
    · have h := h.2 hc3
      refine T_run 9 (115, 6, [some (.ref 20), some (.int x1), some (.int x2), some (.int x3), some (.int (nI 1)), some (.int (nI 1)), some (.int (nI 1)), some (.int x11), some (.int (x8 + (nI 1))), none, none, some (.int x11), some (.int (nI 1))], [], (DB o i0 i1 ext), M) rfl ?_
      exact T_le (a_le_1 (a_le_1 (a_le_1 (a_le_1 (a_le_1 (a_le_1 (a_le_1 (a_le_1 (a_le_1 (a_le_1 (a_le_1 (a_le_2 rfl (a_le_2 rfl a_le_n))))))))))))) h
set_option maxRecDepth 100000 in
theorem b_X5_goTwo0_0 {d : Nat} {Q : ARs → Prop} {o i0 i1 : Option Nat} {ext : ADd} {M : AMm}  (h : T d Q (116, 7, [some (.ref 20), some (.int (nI 0)), some (.int (((nI 1) <<< ((M 20 16) &&& 31)) - (nI 1))), none, none, none, none], [], (DB o i0 i1 ext), M)) : T d Q (ent 116 [.ref 20, .int (nI 0)] (DB o i0 i1 ext) M) := by
  refine T_run 7 (116, 7, [some (.ref 20), some (.int (nI 0)), some (.int (((nI 1) <<< ((M 20 16) &&& 31)) - (nI 1))), none, none, none, none], [], (DB o i0 i1 ext), M) rfl ?_
  exact h
set_option maxRecDepth 100000 in
theorem b_X5_goTwo0_7 {d : Nat} {Q : ARs → Prop} {o i0 i1 : Option Nat} {ext : ADd} {M : AMm} (x2 : Int32) (h : (x2 ≤ 0 → (vp_in (M 20 3) 16) ∧ (CI d 113 [.int ((nI 1) <<< ((M 25 ((M 20 3).toNatClampNeg)) &&& 31)), .int (M 25 ((M 20 3).toNatClampNeg)), .int (M 25 ((M 20 3).toNatClampNeg)), .int (nI 0)] (DB o i0 i1 ext) M (DB o i0 i1 ext) (fun v3 M2 => (vp_in v3 1179648) ∧ (Q (some (.int (M2 23 v3.toNatClampNeg)), (DB o i0 i1 ext), M2))))) ∧ (¬ x2 ≤ 0 → T (d + 1) Q (116, 11, [some (.ref 20), some (.int (nI 0)), some (.int x2), some (.int (nI 0)), none, none, none], [], (DB o i0 i1 ext), M))) : T (d + 1) Q (116, 7, [some (.ref 20), some (.int (nI 0)), some (.int x2), none, none, none, none], [], (DB o i0 i1 ext), M) := by
  refine T_run 1 (116, 8, [some (.ref 20), some (.int (nI 0)), some (.int x2), none, none, none, none], [.int x2], (DB o i0 i1 ext), M) rfl ?_
  refine T_br (x2 ≤ 0) (116, 95, [some (.ref 20), some (.int (nI 0)), some (.int x2), none, none, none, none], [], (DB o i0 i1 ext), M) (116, 9, [some (.ref 20), some (.int (nI 0)), some (.int x2), none, none, none, none], [], (DB o i0 i1 ext), M) rfl (fun hc1 => ?_) (fun hc1 => ?_)
  · have h := h.1 hc1
    refine T_run 4 (116, 99, [some (.ref 20), some (.int (nI 0)), some (.int x2), none, none, none, none], [.int (M 20 3), .ref 25], (DB o i0 i1 ext), M) rfl ?_
    refine T_gd ((M 20 3) < 0 ∨ 16 ≤ (M 20 3).toNatClampNeg) (116, 100, [some (.ref 20), some (.int (nI 0)), some (.int x2), none, none, none, none], [.int (M 25 ((M 20 3).toNatClampNeg))], (DB o i0 i1 ext), M) rfl h.1 ?_
    have h := h.2
    refine T_run 9 (116, 109, [some (.ref 20), some (.int (nI 0)), some (.int (M 25 ((M 20 3).toNatClampNeg))), none, none, none, none], [.int (nI 0), .int (M 25 ((M 20 3).toNatClampNeg)), .int (M 25 ((M 20 3).toNatClampNeg)), .int ((nI 1) <<< ((M 25 ((M 20 3).toNatClampNeg)) &&& 31)), .ref 23], (DB o i0 i1 ext), M) rfl ?_
    refine T_callI (D' := (DB o i0 i1 ext)) rfl (CI_mono h (fun v3 M2 h => ?_))
    refine T_gd (v3 < 0 ∨ 1179648 ≤ v3.toNatClampNeg) (116, 111, [some (.ref 20), some (.int (nI 0)), some (.int (M 25 ((M 20 3).toNatClampNeg))), none, none, none, none], [.int (M2 23 v3.toNatClampNeg)], (DB o i0 i1 ext), M2) rfl h.1 ?_
    have h := h.2
    exact T_ret rfl h
  · have h := h.2 hc1
    refine T_run 2 (116, 11, [some (.ref 20), some (.int (nI 0)), some (.int x2), some (.int (nI 0)), none, none, none], [], (DB o i0 i1 ext), M) rfl ?_
    exact h
set_option maxRecDepth 100000 in
theorem b_X5_goTwo0_11 {d : Nat} {Q : ARs → Prop} {o i0 i1 : Option Nat} {ext : ADd} {M : AMm} (x2 : Int32) (x3 : Int32) (h : ((M 20 16) ≤ x3 → T d Q (116, 7, [some (.ref 20), some (.int (nI 0)), some (.int (x2 + (-(nI 1)))), none, none, none, none], [], (DB o i0 i1 ext), M)) ∧ (¬ (M 20 16) ≤ x3 → T d Q (116, 17, [some (.ref 20), some (.int (nI 0)), some (.int x2), some (.int x3), some (.int (nI 0)), none, none], [], (DB o i0 i1 ext), M))) : T d Q (116, 11, [some (.ref 20), some (.int (nI 0)), some (.int x2), some (.int x3), none, none, none], [], (DB o i0 i1 ext), M) := by
  refine T_run 3 (116, 14, [some (.ref 20), some (.int (nI 0)), some (.int x2), some (.int x3), none, none, none], [.int (M 20 16), .int x3], (DB o i0 i1 ext), M) rfl ?_
  refine T_br ((M 20 16) ≤ x3) (116, 93, [some (.ref 20), some (.int (nI 0)), some (.int x2), some (.int x3), none, none, none], [], (DB o i0 i1 ext), M) (116, 15, [some (.ref 20), some (.int (nI 0)), some (.int x2), some (.int x3), none, none, none], [], (DB o i0 i1 ext), M) rfl (fun hc1 => ?_) (fun hc1 => ?_)
  · have h := h.1 hc1
    refine T_run 2 (116, 7, [some (.ref 20), some (.int (nI 0)), some (.int (x2 + (-(nI 1)))), some (.int x3), none, none, none], [], (DB o i0 i1 ext), M) rfl ?_
    exact T_le (a_le_1 (a_le_1 (a_le_1 (a_le_2 rfl (a_le_1 (a_le_1 (a_le_1 a_le_n))))))) h
  · have h := h.2 hc1
    refine T_run 2 (116, 17, [some (.ref 20), some (.int (nI 0)), some (.int x2), some (.int x3), some (.int (nI 0)), none, none], [], (DB o i0 i1 ext), M) rfl ?_
    exact h
set_option maxRecDepth 100000 in
theorem b_X5_goTwo0_17 {d : Nat} {Q : ARs → Prop} {o i0 i1 : Option Nat} {ext : ADd} {M : AMm} (x2 : Int32) (x3 : Int32) (x4 : Int32) (h : ((M 20 16) ≤ x4 → T (d + 1) Q (116, 11, [some (.ref 20), some (.int (nI 0)), some (.int x2), some (.int (x3 + (nI 1))), none, none, none], [], (DB o i0 i1 ext), M)) ∧ (¬ (M 20 16) ≤ x4 → (((x2 >>> (x3 &&& 31)) &&& (nI 1)) = (nI 1) → (((x2 >>> (x4 &&& 31)) &&& (nI 1)) = (nI 1) → CI d 115 [.ref 20, .int x2, .int x3, .int x4, .int (nI 0), .int (nI 0)] (DB o i0 i1 ext) M (DB o i0 i1 ext) (fun v5 M4 => CI d 115 [.ref 20, .int x2, .int x3, .int x4, .int (nI 1), .int (nI 0)] (DB o i0 i1 ext) M4 (DB o i0 i1 ext) (fun v7 M6 => CI d 113 [.int x2, .int x3, .int x4, .int (nI 0)] (DB o i0 i1 ext) M6 (DB o i0 i1 ext) (fun v9 M8 => (v5 ≤ (-(nI 1000)) → (v7 ≤ (-(nI 1000)) → (vp_in v9 1179648) ∧ (CI d 113 [.int x2, .int x3, .int x4, .int (nI 1)] (DB o i0 i1 ext) (ms M8 23 v9.toNatClampNeg (nI 0)) (DB o i0 i1 ext) (fun v13 M12 => (vp_in v13 1179648) ∧ (T (d + 1) Q (116, 17, [some (.ref 20), some (.int (nI 0)), some (.int x2), some (.int x3), some (.int (x4 + (nI 1))), none, none], [], (DB o i0 i1 ext), (ms M12 23 v13.toNatClampNeg (nI 0))))))) ∧ (¬ v7 ≤ (-(nI 1000)) → (vp_in v9 1179648) ∧ (CI d 113 [.int x2, .int x3, .int x4, .int (nI 1)] (DB o i0 i1 ext) (ms M8 23 v9.toNatClampNeg v7) (DB o i0 i1 ext) (fun v15 M14 => (vp_in v15 1179648) ∧ (T (d + 1) Q (116, 17, [some (.ref 20), some (.int (nI 0)), some (.int x2), some (.int x3), some (.int (x4 + (nI 1))), none, none], [], (DB o i0 i1 ext), (ms M14 23 v15.toNatClampNeg v7))))))) ∧ (¬ v5 ≤ (-(nI 1000)) → (vp_in v9 1179648) ∧ (CI d 113 [.int x2, .int x3, .int x4, .int (nI 1)] (DB o i0 i1 ext) (ms M8 23 v9.toNatClampNeg v5) (DB o i0 i1 ext) (fun v17 M16 => (v7 ≤ (-(nI 1000)) → (vp_in v17 1179648) ∧ (T (d + 1) Q (116, 17, [some (.ref 20), some (.int (nI 0)), some (.int x2), some (.int x3), some (.int (x4 + (nI 1))), none, none], [], (DB o i0 i1 ext), (ms M16 23 v17.toNatClampNeg v5)))) ∧ (¬ v7 ≤ (-(nI 1000)) → (vp_in v17 1179648) ∧ (T (d + 1) Q (116, 17, [some (.ref 20), some (.int (nI 0)), some (.int x2), some (.int x3), some (.int (x4 + (nI 1))), none, none], [], (DB o i0 i1 ext), (ms M16 23 v17.toNatClampNeg v7))))))))))) ∧ (¬ ((x2 >>> (x4 &&& 31)) &&& (nI 1)) = (nI 1) → T (d + 1) Q (116, 17, [some (.ref 20), some (.int (nI 0)), some (.int x2), some (.int x3), some (.int (x4 + (nI 1))), none, none], [], (DB o i0 i1 ext), M))) ∧ (¬ ((x2 >>> (x3 &&& 31)) &&& (nI 1)) = (nI 1) → T (d + 1) Q (116, 17, [some (.ref 20), some (.int (nI 0)), some (.int x2), some (.int x3), some (.int (x4 + (nI 1))), none, none], [], (DB o i0 i1 ext), M)))) : T (d + 1) Q (116, 17, [some (.ref 20), some (.int (nI 0)), some (.int x2), some (.int x3), some (.int x4), none, none], [], (DB o i0 i1 ext), M) := by
  refine T_run 3 (116, 20, [some (.ref 20), some (.int (nI 0)), some (.int x2), some (.int x3), some (.int x4), none, none], [.int (M 20 16), .int x4], (DB o i0 i1 ext), M) rfl ?_
  refine T_br ((M 20 16) ≤ x4) (116, 91, [some (.ref 20), some (.int (nI 0)), some (.int x2), some (.int x3), some (.int x4), none, none], [], (DB o i0 i1 ext), M) (116, 21, [some (.ref 20), some (.int (nI 0)), some (.int x2), some (.int x3), some (.int x4), none, none], [], (DB o i0 i1 ext), M) rfl (fun hc1 => ?_) (fun hc1 => ?_)
  · have h := h.1 hc1
    refine T_run 2 (116, 11, [some (.ref 20), some (.int (nI 0)), some (.int x2), some (.int (x3 + (nI 1))), some (.int x4), none, none], [], (DB o i0 i1 ext), M) rfl ?_
    exact T_le (a_le_1 (a_le_1 (a_le_1 (a_le_1 (a_le_2 rfl (a_le_1 (a_le_1 a_le_n))))))) h
  · have h := h.2 hc1
    refine T_run 6 (116, 27, [some (.ref 20), some (.int (nI 0)), some (.int x2), some (.int x3), some (.int x4), none, none], [.int (nI 1), .int ((x2 >>> (x3 &&& 31)) &&& (nI 1))], (DB o i0 i1 ext), M) rfl ?_
    refine T_br (((x2 >>> (x3 &&& 31)) &&& (nI 1)) = (nI 1)) (116, 28, [some (.ref 20), some (.int (nI 0)), some (.int x2), some (.int x3), some (.int x4), none, none], [], (DB o i0 i1 ext), M) (116, 89, [some (.ref 20), some (.int (nI 0)), some (.int x2), some (.int x3), some (.int x4), none, none], [], (DB o i0 i1 ext), M) rfl (fun hc2 => ?_) (fun hc2 => ?_)
    · have h := h.1 hc2
      refine T_run 6 (116, 34, [some (.ref 20), some (.int (nI 0)), some (.int x2), some (.int x3), some (.int x4), none, none], [.int (nI 1), .int ((x2 >>> (x4 &&& 31)) &&& (nI 1))], (DB o i0 i1 ext), M) rfl ?_
      refine T_br (((x2 >>> (x4 &&& 31)) &&& (nI 1)) = (nI 1)) (116, 35, [some (.ref 20), some (.int (nI 0)), some (.int x2), some (.int x3), some (.int x4), none, none], [], (DB o i0 i1 ext), M) (116, 89, [some (.ref 20), some (.int (nI 0)), some (.int x2), some (.int x3), some (.int x4), none, none], [], (DB o i0 i1 ext), M) rfl (fun hc3 => ?_) (fun hc3 => ?_)
      · have h := h.1 hc3
        refine T_run 6 (116, 41, [some (.ref 20), some (.int (nI 0)), some (.int x2), some (.int x3), some (.int x4), none, none], [.int (nI 0), .int (nI 0), .int x4, .int x3, .int x2, .ref 20], (DB o i0 i1 ext), M) rfl ?_
        refine T_callI (D' := (DB o i0 i1 ext)) rfl (CI_mono h (fun v5 M4 h => ?_))
        refine T_run 7 (116, 49, [some (.ref 20), some (.int (nI 0)), some (.int x2), some (.int x3), some (.int x4), some (.int v5), none], [.int (nI 0), .int (nI 1), .int x4, .int x3, .int x2, .ref 20], (DB o i0 i1 ext), M4) rfl ?_
        refine T_callI (D' := (DB o i0 i1 ext)) rfl (CI_mono h (fun v7 M6 h => ?_))
        refine T_run 7 (116, 57, [some (.ref 20), some (.int (nI 0)), some (.int x2), some (.int x3), some (.int x4), some (.int v5), some (.int v7)], [.int (nI 0), .int x4, .int x3, .int x2, .ref 23], (DB o i0 i1 ext), M6) rfl ?_
        refine T_callI (D' := (DB o i0 i1 ext)) rfl (CI_mono h (fun v9 M8 h => ?_))
        refine T_run 2 (116, 60, [some (.ref 20), some (.int (nI 0)), some (.int x2), some (.int x3), some (.int x4), some (.int v5), some (.int v7)], [.int (-(nI 1000)), .int v5, .int v9, .ref 23], (DB o i0 i1 ext), M8) rfl ?_
        refine T_br (_) (116, 63, [some (.ref 20), some (.int (nI 0)), some (.int x2), some (.int x3), some (.int x4), some (.int v5), some (.int v7)], [.int v9, .ref 23], (DB o i0 i1 ext), M8) (116, 61, [some (.ref 20), some (.int (nI 0)), some (.int x2), some (.int x3), some (.int x4), some (.int v5), some (.int v7)], [.int v9, .ref 23], (DB o i0 i1 ext), M8) rfl (fun hc10 => ?_) (fun hc10 => ?_)
        · have h := h.1 hc10
          refine T_run 2 (116, 65, [some (.ref 20), some (.int (nI 0)), some (.int x2), some (.int x3), some (.int x4), some (.int v5), some (.int v7)], [.int (-(nI 1000)), .int v7, .int v9, .ref 23], (DB o i0 i1 ext), M8) rfl ?_
          refine T_br (_) (116, 68, [some (.ref 20), some (.int (nI 0)), some (.int x2), some (.int x3), some (.int x4), some (.int v5), some (.int v7)], [.int v9, .ref 23], (DB o i0 i1 ext), M8) (116, 66, [some (.ref 20), some (.int (nI 0)), some (.int x2), some (.int x3), some (.int x4), some (.int v5), some (.int v7)], [.int v9, .ref 23], (DB o i0 i1 ext), M8) rfl (fun hc11 => ?_) (fun hc11 => ?_)
          · have h := h.1 hc11
            refine T_run 1 (116, 69, [some (.ref 20), some (.int (nI 0)), some (.int x2), some (.int x3), some (.int x4), some (.int v5), some (.int v7)], [.int (nI 0), .int v9, .ref 23], (DB o i0 i1 ext), M8) rfl ?_
            refine T_gd (v9 < 0 ∨ 1179648 ≤ v9.toNatClampNeg) (116, 70, [some (.ref 20), some (.int (nI 0)), some (.int x2), some (.int x3), some (.int x4), some (.int v5), some (.int v7)], [], (DB o i0 i1 ext), (ms M8 23 v9.toNatClampNeg (nI 0))) rfl h.1 ?_
            have h := h.2
            refine T_run 6 (116, 76, [some (.ref 20), some (.int (nI 0)), some (.int x2), some (.int x3), some (.int x4), some (.int v5), some (.int v7)], [.int (nI 1), .int x4, .int x3, .int x2, .ref 23], (DB o i0 i1 ext), (ms M8 23 v9.toNatClampNeg (nI 0))) rfl ?_
            refine T_callI (D' := (DB o i0 i1 ext)) rfl (CI_mono h (fun v13 M12 h => ?_))
            refine T_run 2 (116, 79, [some (.ref 20), some (.int (nI 0)), some (.int x2), some (.int x3), some (.int x4), some (.int v5), some (.int v7)], [.int (-(nI 1000)), .int v7, .int v13, .ref 23], (DB o i0 i1 ext), M12) rfl ?_
            refine T_br (v7 ≤ (-(nI 1000))) (116, 82, [some (.ref 20), some (.int (nI 0)), some (.int x2), some (.int x3), some (.int x4), some (.int v5), some (.int v7)], [.int v13, .ref 23], (DB o i0 i1 ext), M12) (116, 80, [some (.ref 20), some (.int (nI 0)), some (.int x2), some (.int x3), some (.int x4), some (.int v5), some (.int v7)], [.int v13, .ref 23], (DB o i0 i1 ext), M12) rfl (fun _ => ?_) (fun hz => absurd hc11 hz)
            refine T_run 2 (116, 84, [some (.ref 20), some (.int (nI 0)), some (.int x2), some (.int x3), some (.int x4), some (.int v5), some (.int v7)], [.int (-(nI 1000)), .int v5, .int v13, .ref 23], (DB o i0 i1 ext), M12) rfl ?_
            refine T_br (v5 ≤ (-(nI 1000))) (116, 87, [some (.ref 20), some (.int (nI 0)), some (.int x2), some (.int x3), some (.int x4), some (.int v5), some (.int v7)], [.int v13, .ref 23], (DB o i0 i1 ext), M12) (116, 85, [some (.ref 20), some (.int (nI 0)), some (.int x2), some (.int x3), some (.int x4), some (.int v5), some (.int v7)], [.int v13, .ref 23], (DB o i0 i1 ext), M12) rfl (fun _ => ?_) (fun hz => absurd hc10 hz)
            refine T_run 1 (116, 88, [some (.ref 20), some (.int (nI 0)), some (.int x2), some (.int x3), some (.int x4), some (.int v5), some (.int v7)], [.int (nI 0), .int v13, .ref 23], (DB o i0 i1 ext), M12) rfl ?_
            refine T_gd (v13 < 0 ∨ 1179648 ≤ v13.toNatClampNeg) (116, 89, [some (.ref 20), some (.int (nI 0)), some (.int x2), some (.int x3), some (.int x4), some (.int v5), some (.int v7)], [], (DB o i0 i1 ext), (ms M12 23 v13.toNatClampNeg (nI 0))) rfl h.1 ?_
            have h := h.2
            refine T_run 2 (116, 17, [some (.ref 20), some (.int (nI 0)), some (.int x2), some (.int x3), some (.int (x4 + (nI 1))), some (.int v5), some (.int v7)], [], (DB o i0 i1 ext), (ms M12 23 v13.toNatClampNeg (nI 0))) rfl ?_
            exact T_le (a_le_1 (a_le_1 (a_le_1 (a_le_1 (a_le_1 (a_le_2 rfl (a_le_2 rfl a_le_n))))))) h
          · have h := h.2 hc11
            refine T_run 2 (116, 69, [some (.ref 20), some (.int (nI 0)), some (.int x2), some (.int x3), some (.int x4), some (.int v5), some (.int v7)], [.int v7, .int v9, .ref 23], (DB o i0 i1 ext), M8) rfl ?_
            refine T_gd (v9 < 0 ∨ 1179648 ≤ v9.toNatClampNeg) (116, 70, [some (.ref 20), some (.int (nI 0)), some (.int x2), some (.int x3), some (.int x4), some (.int v5), some (.int v7)], [], (DB o i0 i1 ext), (ms M8 23 v9.toNatClampNeg v7)) rfl h.1 ?_
            have h := h.2
            refine T_run 6 (116, 76, [some (.ref 20), some (.int (nI 0)), some (.int x2), some (.int x3), some (.int x4), some (.int v5), some (.int v7)], [.int (nI 1), .int x4, .int x3, .int x2, .ref 23], (DB o i0 i1 ext), (ms M8 23 v9.toNatClampNeg v7)) rfl ?_
            refine T_callI (D' := (DB o i0 i1 ext)) rfl (CI_mono h (fun v15 M14 h => ?_))
            refine T_run 2 (116, 79, [some (.ref 20), some (.int (nI 0)), some (.int x2), some (.int x3), some (.int x4), some (.int v5), some (.int v7)], [.int (-(nI 1000)), .int v7, .int v15, .ref 23], (DB o i0 i1 ext), M14) rfl ?_
            refine T_br (v7 ≤ (-(nI 1000))) (116, 82, [some (.ref 20), some (.int (nI 0)), some (.int x2), some (.int x3), some (.int x4), some (.int v5), some (.int v7)], [.int v15, .ref 23], (DB o i0 i1 ext), M14) (116, 80, [some (.ref 20), some (.int (nI 0)), some (.int x2), some (.int x3), some (.int x4), some (.int v5), some (.int v7)], [.int v15, .ref 23], (DB o i0 i1 ext), M14) rfl (fun hz => absurd hz hc11) (fun _ => ?_)
            refine T_run 2 (116, 88, [some (.ref 20), some (.int (nI 0)), some (.int x2), some (.int x3), some (.int x4), some (.int v5), some (.int v7)], [.int v7, .int v15, .ref 23], (DB o i0 i1 ext), M14) rfl ?_
            refine T_gd (v15 < 0 ∨ 1179648 ≤ v15.toNatClampNeg) (116, 89, [some (.ref 20), some (.int (nI 0)), some (.int x2), some (.int x3), some (.int x4), some (.int v5), some (.int v7)], [], (DB o i0 i1 ext), (ms M14 23 v15.toNatClampNeg v7)) rfl h.1 ?_
            have h := h.2
            refine T_run 2 (116, 17, [some (.ref 20), some (.int (nI 0)), some (.int x2), some (.int x3), some (.int (x4 + (nI 1))), some (.int v5), some (.int v7)], [], (DB o i0 i1 ext), (ms M14 23 v15.toNatClampNeg v7)) rfl ?_
            exact T_le (a_le_1 (a_le_1 (a_le_1 (a_le_1 (a_le_1 (a_le_2 rfl (a_le_2 rfl a_le_n))))))) h
        · have h := h.2 hc10
          refine T_run 2 (116, 69, [some (.ref 20), some (.int (nI 0)), some (.int x2), some (.int x3), some (.int x4), some (.int v5), some (.int v7)], [.int v5, .int v9, .ref 23], (DB o i0 i1 ext), M8) rfl ?_
          refine T_gd (v9 < 0 ∨ 1179648 ≤ v9.toNatClampNeg) (116, 70, [some (.ref 20), some (.int (nI 0)), some (.int x2), some (.int x3), some (.int x4), some (.int v5), some (.int v7)], [], (DB o i0 i1 ext), (ms M8 23 v9.toNatClampNeg v5)) rfl h.1 ?_
          have h := h.2
          refine T_run 6 (116, 76, [some (.ref 20), some (.int (nI 0)), some (.int x2), some (.int x3), some (.int x4), some (.int v5), some (.int v7)], [.int (nI 1), .int x4, .int x3, .int x2, .ref 23], (DB o i0 i1 ext), (ms M8 23 v9.toNatClampNeg v5)) rfl ?_
          refine T_callI (D' := (DB o i0 i1 ext)) rfl (CI_mono h (fun v17 M16 h => ?_))
          refine T_run 2 (116, 79, [some (.ref 20), some (.int (nI 0)), some (.int x2), some (.int x3), some (.int x4), some (.int v5), some (.int v7)], [.int (-(nI 1000)), .int v7, .int v17, .ref 23], (DB o i0 i1 ext), M16) rfl ?_
          refine T_br (_) (116, 82, [some (.ref 20), some (.int (nI 0)), some (.int x2), some (.int x3), some (.int x4), some (.int v5), some (.int v7)], [.int v17, .ref 23], (DB o i0 i1 ext), M16) (116, 80, [some (.ref 20), some (.int (nI 0)), some (.int x2), some (.int x3), some (.int x4), some (.int v5), some (.int v7)], [.int v17, .ref 23], (DB o i0 i1 ext), M16) rfl (fun hc18 => ?_) (fun hc18 => ?_)
          · have h := h.1 hc18
            refine T_run 2 (116, 84, [some (.ref 20), some (.int (nI 0)), some (.int x2), some (.int x3), some (.int x4), some (.int v5), some (.int v7)], [.int (-(nI 1000)), .int v5, .int v17, .ref 23], (DB o i0 i1 ext), M16) rfl ?_
            refine T_br (v5 ≤ (-(nI 1000))) (116, 87, [some (.ref 20), some (.int (nI 0)), some (.int x2), some (.int x3), some (.int x4), some (.int v5), some (.int v7)], [.int v17, .ref 23], (DB o i0 i1 ext), M16) (116, 85, [some (.ref 20), some (.int (nI 0)), some (.int x2), some (.int x3), some (.int x4), some (.int v5), some (.int v7)], [.int v17, .ref 23], (DB o i0 i1 ext), M16) rfl (fun hz => absurd hz hc10) (fun _ => ?_)
            refine T_run 2 (116, 88, [some (.ref 20), some (.int (nI 0)), some (.int x2), some (.int x3), some (.int x4), some (.int v5), some (.int v7)], [.int v5, .int v17, .ref 23], (DB o i0 i1 ext), M16) rfl ?_
            refine T_gd (v17 < 0 ∨ 1179648 ≤ v17.toNatClampNeg) (116, 89, [some (.ref 20), some (.int (nI 0)), some (.int x2), some (.int x3), some (.int x4), some (.int v5), some (.int v7)], [], (DB o i0 i1 ext), (ms M16 23 v17.toNatClampNeg v5)) rfl h.1 ?_
            have h := h.2
            refine T_run 2 (116, 17, [some (.ref 20), some (.int (nI 0)), some (.int x2), some (.int x3), some (.int (x4 + (nI 1))), some (.int v5), some (.int v7)], [], (DB o i0 i1 ext), (ms M16 23 v17.toNatClampNeg v5)) rfl ?_
            exact T_le (a_le_1 (a_le_1 (a_le_1 (a_le_1 (a_le_1 (a_le_2 rfl (a_le_2 rfl a_le_n))))))) h
          · have h := h.2 hc18
            refine T_run 2 (116, 88, [some (.ref 20), some (.int (nI 0)), some (.int x2), some (.int x3), some (.int x4), some (.int v5), some (.int v7)], [.int v7, .int v17, .ref 23], (DB o i0 i1 ext), M16) rfl ?_
            refine T_gd (v17 < 0 ∨ 1179648 ≤ v17.toNatClampNeg) (116, 89, [some (.ref 20), some (.int (nI 0)), some (.int x2), some (.int x3), some (.int x4), some (.int v5), some (.int v7)], [], (DB o i0 i1 ext), (ms M16 23 v17.toNatClampNeg v7)) rfl h.1 ?_
            have h := h.2
            refine T_run 2 (116, 17, [some (.ref 20), some (.int (nI 0)), some (.int x2), some (.int x3), some (.int (x4 + (nI 1))), some (.int v5), some (.int v7)], [], (DB o i0 i1 ext), (ms M16 23 v17.toNatClampNeg v7)) rfl ?_
            exact T_le (a_le_1 (a_le_1 (a_le_1 (a_le_1 (a_le_1 (a_le_2 rfl (a_le_2 rfl a_le_n))))))) h
      · have h := h.2 hc3
        refine T_run 2 (116, 17, [some (.ref 20), some (.int (nI 0)), some (.int x2), some (.int x3), some (.int (x4 + (nI 1))), none, none], [], (DB o i0 i1 ext), M) rfl ?_
        exact h
    · have h := h.2 hc2
      refine T_run 2 (116, 17, [some (.ref 20), some (.int (nI 0)), some (.int x2), some (.int x3), some (.int (x4 + (nI 1))), none, none], [], (DB o i0 i1 ext), M) rfl ?_
      exact h
set_option maxRecDepth 100000 in
theorem b_X5_goTwo1_0 {d : Nat} {Q : ARs → Prop} {o i0 i1 : Option Nat} {ext : ADd} {M : AMm}  (h : T d Q (116, 7, [some (.ref 20), some (.int (nI 1)), some (.int (((nI 1) <<< ((M 20 16) &&& 31)) - (nI 1))), none, none, none, none], [], (DB o i0 i1 ext), M)) : T d Q (ent 116 [.ref 20, .int (nI 1)] (DB o i0 i1 ext) M) := by
  refine T_run 7 (116, 7, [some (.ref 20), some (.int (nI 1)), some (.int (((nI 1) <<< ((M 20 16) &&& 31)) - (nI 1))), none, none, none, none], [], (DB o i0 i1 ext), M) rfl ?_
  exact h
set_option maxRecDepth 100000 in
theorem b_X5_goTwo1_7 {d : Nat} {Q : ARs → Prop} {o i0 i1 : Option Nat} {ext : ADd} {M : AMm} (x2 : Int32) (h : (x2 ≤ 0 → (vp_in (M 20 3) 16) ∧ (CI d 113 [.int ((nI 1) <<< ((M 25 ((M 20 3).toNatClampNeg)) &&& 31)), .int (M 25 ((M 20 3).toNatClampNeg)), .int (M 25 ((M 20 3).toNatClampNeg)), .int (nI 0)] (DB o i0 i1 ext) M (DB o i0 i1 ext) (fun v3 M2 => (vp_in v3 1179648) ∧ (Q (some (.int (M2 23 v3.toNatClampNeg)), (DB o i0 i1 ext), M2))))) ∧ (¬ x2 ≤ 0 → T (d + 1) Q (116, 11, [some (.ref 20), some (.int (nI 1)), some (.int x2), some (.int (nI 0)), none, none, none], [], (DB o i0 i1 ext), M))) : T (d + 1) Q (116, 7, [some (.ref 20), some (.int (nI 1)), some (.int x2), none, none, none, none], [], (DB o i0 i1 ext), M) := by
  refine T_run 1 (116, 8, [some (.ref 20), some (.int (nI 1)), some (.int x2), none, none, none, none], [.int x2], (DB o i0 i1 ext), M) rfl ?_
  refine T_br (x2 ≤ 0) (116, 95, [some (.ref 20), some (.int (nI 1)), some (.int x2), none, none, none, none], [], (DB o i0 i1 ext), M) (116, 9, [some (.ref 20), some (.int (nI 1)), some (.int x2), none, none, none, none], [], (DB o i0 i1 ext), M) rfl (fun hc1 => ?_) (fun hc1 => ?_)
  · have h := h.1 hc1
    refine T_run 4 (116, 99, [some (.ref 20), some (.int (nI 1)), some (.int x2), none, none, none, none], [.int (M 20 3), .ref 25], (DB o i0 i1 ext), M) rfl ?_
    refine T_gd ((M 20 3) < 0 ∨ 16 ≤ (M 20 3).toNatClampNeg) (116, 100, [some (.ref 20), some (.int (nI 1)), some (.int x2), none, none, none, none], [.int (M 25 ((M 20 3).toNatClampNeg))], (DB o i0 i1 ext), M) rfl h.1 ?_
    have h := h.2
    refine T_run 9 (116, 109, [some (.ref 20), some (.int (nI 1)), some (.int (M 25 ((M 20 3).toNatClampNeg))), none, none, none, none], [.int (nI 0), .int (M 25 ((M 20 3).toNatClampNeg)), .int (M 25 ((M 20 3).toNatClampNeg)), .int ((nI 1) <<< ((M 25 ((M 20 3).toNatClampNeg)) &&& 31)), .ref 23], (DB o i0 i1 ext), M) rfl ?_
    refine T_callI (D' := (DB o i0 i1 ext)) rfl (CI_mono h (fun v3 M2 h => ?_))
    refine T_gd (v3 < 0 ∨ 1179648 ≤ v3.toNatClampNeg) (116, 111, [some (.ref 20), some (.int (nI 1)), some (.int (M 25 ((M 20 3).toNatClampNeg))), none, none, none, none], [.int (M2 23 v3.toNatClampNeg)], (DB o i0 i1 ext), M2) rfl h.1 ?_
    have h := h.2
    exact T_ret rfl h
  · have h := h.2 hc1
    refine T_run 2 (116, 11, [some (.ref 20), some (.int (nI 1)), some (.int x2), some (.int (nI 0)), none, none, none], [], (DB o i0 i1 ext), M) rfl ?_
    exact h
set_option maxRecDepth 100000 in
theorem b_X5_goTwo1_11 {d : Nat} {Q : ARs → Prop} {o i0 i1 : Option Nat} {ext : ADd} {M : AMm} (x2 : Int32) (x3 : Int32) (h : ((M 20 16) ≤ x3 → T d Q (116, 7, [some (.ref 20), some (.int (nI 1)), some (.int (x2 + (-(nI 1)))), none, none, none, none], [], (DB o i0 i1 ext), M)) ∧ (¬ (M 20 16) ≤ x3 → T d Q (116, 17, [some (.ref 20), some (.int (nI 1)), some (.int x2), some (.int x3), some (.int (nI 0)), none, none], [], (DB o i0 i1 ext), M))) : T d Q (116, 11, [some (.ref 20), some (.int (nI 1)), some (.int x2), some (.int x3), none, none, none], [], (DB o i0 i1 ext), M) := by
  refine T_run 3 (116, 14, [some (.ref 20), some (.int (nI 1)), some (.int x2), some (.int x3), none, none, none], [.int (M 20 16), .int x3], (DB o i0 i1 ext), M) rfl ?_
  refine T_br ((M 20 16) ≤ x3) (116, 93, [some (.ref 20), some (.int (nI 1)), some (.int x2), some (.int x3), none, none, none], [], (DB o i0 i1 ext), M) (116, 15, [some (.ref 20), some (.int (nI 1)), some (.int x2), some (.int x3), none, none, none], [], (DB o i0 i1 ext), M) rfl (fun hc1 => ?_) (fun hc1 => ?_)
  · have h := h.1 hc1
    refine T_run 2 (116, 7, [some (.ref 20), some (.int (nI 1)), some (.int (x2 + (-(nI 1)))), some (.int x3), none, none, none], [], (DB o i0 i1 ext), M) rfl ?_
    exact T_le (a_le_1 (a_le_1 (a_le_1 (a_le_2 rfl (a_le_1 (a_le_1 (a_le_1 a_le_n))))))) h
  · have h := h.2 hc1
    refine T_run 2 (116, 17, [some (.ref 20), some (.int (nI 1)), some (.int x2), some (.int x3), some (.int (nI 0)), none, none], [], (DB o i0 i1 ext), M) rfl ?_
    exact h
set_option maxRecDepth 100000 in
theorem b_X5_goTwo1_17 {d : Nat} {Q : ARs → Prop} {o i0 i1 : Option Nat} {ext : ADd} {M : AMm} (x2 : Int32) (x3 : Int32) (x4 : Int32) (h : ((M 20 16) ≤ x4 → T (d + 1) Q (116, 11, [some (.ref 20), some (.int (nI 1)), some (.int x2), some (.int (x3 + (nI 1))), none, none, none], [], (DB o i0 i1 ext), M)) ∧ (¬ (M 20 16) ≤ x4 → (((x2 >>> (x3 &&& 31)) &&& (nI 1)) = (nI 1) → (((x2 >>> (x4 &&& 31)) &&& (nI 1)) = (nI 1) → CI d 115 [.ref 20, .int x2, .int x3, .int x4, .int (nI 0), .int (nI 1)] (DB o i0 i1 ext) M (DB o i0 i1 ext) (fun v5 M4 => CI d 115 [.ref 20, .int x2, .int x3, .int x4, .int (nI 1), .int (nI 1)] (DB o i0 i1 ext) M4 (DB o i0 i1 ext) (fun v7 M6 => CI d 113 [.int x2, .int x3, .int x4, .int (nI 0)] (DB o i0 i1 ext) M6 (DB o i0 i1 ext) (fun v9 M8 => (v5 ≤ (-(nI 1000)) → (v7 ≤ (-(nI 1000)) → (vp_in v9 1179648) ∧ (CI d 113 [.int x2, .int x3, .int x4, .int (nI 1)] (DB o i0 i1 ext) (ms M8 23 v9.toNatClampNeg (nI 0)) (DB o i0 i1 ext) (fun v13 M12 => (vp_in v13 1179648) ∧ (T (d + 1) Q (116, 17, [some (.ref 20), some (.int (nI 1)), some (.int x2), some (.int x3), some (.int (x4 + (nI 1))), none, none], [], (DB o i0 i1 ext), (ms M12 23 v13.toNatClampNeg (nI 0))))))) ∧ (¬ v7 ≤ (-(nI 1000)) → (vp_in v9 1179648) ∧ (CI d 113 [.int x2, .int x3, .int x4, .int (nI 1)] (DB o i0 i1 ext) (ms M8 23 v9.toNatClampNeg v7) (DB o i0 i1 ext) (fun v15 M14 => (vp_in v15 1179648) ∧ (T (d + 1) Q (116, 17, [some (.ref 20), some (.int (nI 1)), some (.int x2), some (.int x3), some (.int (x4 + (nI 1))), none, none], [], (DB o i0 i1 ext), (ms M14 23 v15.toNatClampNeg v7))))))) ∧ (¬ v5 ≤ (-(nI 1000)) → (vp_in v9 1179648) ∧ (CI d 113 [.int x2, .int x3, .int x4, .int (nI 1)] (DB o i0 i1 ext) (ms M8 23 v9.toNatClampNeg v5) (DB o i0 i1 ext) (fun v17 M16 => (v7 ≤ (-(nI 1000)) → (vp_in v17 1179648) ∧ (T (d + 1) Q (116, 17, [some (.ref 20), some (.int (nI 1)), some (.int x2), some (.int x3), some (.int (x4 + (nI 1))), none, none], [], (DB o i0 i1 ext), (ms M16 23 v17.toNatClampNeg v5)))) ∧ (¬ v7 ≤ (-(nI 1000)) → (vp_in v17 1179648) ∧ (T (d + 1) Q (116, 17, [some (.ref 20), some (.int (nI 1)), some (.int x2), some (.int x3), some (.int (x4 + (nI 1))), none, none], [], (DB o i0 i1 ext), (ms M16 23 v17.toNatClampNeg v7))))))))))) ∧ (¬ ((x2 >>> (x4 &&& 31)) &&& (nI 1)) = (nI 1) → T (d + 1) Q (116, 17, [some (.ref 20), some (.int (nI 1)), some (.int x2), some (.int x3), some (.int (x4 + (nI 1))), none, none], [], (DB o i0 i1 ext), M))) ∧ (¬ ((x2 >>> (x3 &&& 31)) &&& (nI 1)) = (nI 1) → T (d + 1) Q (116, 17, [some (.ref 20), some (.int (nI 1)), some (.int x2), some (.int x3), some (.int (x4 + (nI 1))), none, none], [], (DB o i0 i1 ext), M)))) : T (d + 1) Q (116, 17, [some (.ref 20), some (.int (nI 1)), some (.int x2), some (.int x3), some (.int x4), none, none], [], (DB o i0 i1 ext), M) := by
  refine T_run 3 (116, 20, [some (.ref 20), some (.int (nI 1)), some (.int x2), some (.int x3), some (.int x4), none, none], [.int (M 20 16), .int x4], (DB o i0 i1 ext), M) rfl ?_
  refine T_br ((M 20 16) ≤ x4) (116, 91, [some (.ref 20), some (.int (nI 1)), some (.int x2), some (.int x3), some (.int x4), none, none], [], (DB o i0 i1 ext), M) (116, 21, [some (.ref 20), some (.int (nI 1)), some (.int x2), some (.int x3), some (.int x4), none, none], [], (DB o i0 i1 ext), M) rfl (fun hc1 => ?_) (fun hc1 => ?_)
  · have h := h.1 hc1
    refine T_run 2 (116, 11, [some (.ref 20), some (.int (nI 1)), some (.int x2), some (.int (x3 + (nI 1))), some (.int x4), none, none], [], (DB o i0 i1 ext), M) rfl ?_
    exact T_le (a_le_1 (a_le_1 (a_le_1 (a_le_1 (a_le_2 rfl (a_le_1 (a_le_1 a_le_n))))))) h
  · have h := h.2 hc1
    refine T_run 6 (116, 27, [some (.ref 20), some (.int (nI 1)), some (.int x2), some (.int x3), some (.int x4), none, none], [.int (nI 1), .int ((x2 >>> (x3 &&& 31)) &&& (nI 1))], (DB o i0 i1 ext), M) rfl ?_
    refine T_br (((x2 >>> (x3 &&& 31)) &&& (nI 1)) = (nI 1)) (116, 28, [some (.ref 20), some (.int (nI 1)), some (.int x2), some (.int x3), some (.int x4), none, none], [], (DB o i0 i1 ext), M) (116, 89, [some (.ref 20), some (.int (nI 1)), some (.int x2), some (.int x3), some (.int x4), none, none], [], (DB o i0 i1 ext), M) rfl (fun hc2 => ?_) (fun hc2 => ?_)
    · have h := h.1 hc2
      refine T_run 6 (116, 34, [some (.ref 20), some (.int (nI 1)), some (.int x2), some (.int x3), some (.int x4), none, none], [.int (nI 1), .int ((x2 >>> (x4 &&& 31)) &&& (nI 1))], (DB o i0 i1 ext), M) rfl ?_
      refine T_br (((x2 >>> (x4 &&& 31)) &&& (nI 1)) = (nI 1)) (116, 35, [some (.ref 20), some (.int (nI 1)), some (.int x2), some (.int x3), some (.int x4), none, none], [], (DB o i0 i1 ext), M) (116, 89, [some (.ref 20), some (.int (nI 1)), some (.int x2), some (.int x3), some (.int x4), none, none], [], (DB o i0 i1 ext), M) rfl (fun hc3 => ?_) (fun hc3 => ?_)
      · have h := h.1 hc3
        refine T_run 6 (116, 41, [some (.ref 20), some (.int (nI 1)), some (.int x2), some (.int x3), some (.int x4), none, none], [.int (nI 1), .int (nI 0), .int x4, .int x3, .int x2, .ref 20], (DB o i0 i1 ext), M) rfl ?_
        refine T_callI (D' := (DB o i0 i1 ext)) rfl (CI_mono h (fun v5 M4 h => ?_))
        refine T_run 7 (116, 49, [some (.ref 20), some (.int (nI 1)), some (.int x2), some (.int x3), some (.int x4), some (.int v5), none], [.int (nI 1), .int (nI 1), .int x4, .int x3, .int x2, .ref 20], (DB o i0 i1 ext), M4) rfl ?_
        refine T_callI (D' := (DB o i0 i1 ext)) rfl (CI_mono h (fun v7 M6 h => ?_))
        refine T_run 7 (116, 57, [some (.ref 20), some (.int (nI 1)), some (.int x2), some (.int x3), some (.int x4), some (.int v5), some (.int v7)], [.int (nI 0), .int x4, .int x3, .int x2, .ref 23], (DB o i0 i1 ext), M6) rfl ?_
        refine T_callI (D' := (DB o i0 i1 ext)) rfl (CI_mono h (fun v9 M8 h => ?_))
        refine T_run 2 (116, 60, [some (.ref 20), some (.int (nI 1)), some (.int x2), some (.int x3), some (.int x4), some (.int v5), some (.int v7)], [.int (-(nI 1000)), .int v5, .int v9, .ref 23], (DB o i0 i1 ext), M8) rfl ?_
        refine T_br (_) (116, 63, [some (.ref 20), some (.int (nI 1)), some (.int x2), some (.int x3), some (.int x4), some (.int v5), some (.int v7)], [.int v9, .ref 23], (DB o i0 i1 ext), M8) (116, 61, [some (.ref 20), some (.int (nI 1)), some (.int x2), some (.int x3), some (.int x4), some (.int v5), some (.int v7)], [.int v9, .ref 23], (DB o i0 i1 ext), M8) rfl (fun hc10 => ?_) (fun hc10 => ?_)
        · have h := h.1 hc10
          refine T_run 2 (116, 65, [some (.ref 20), some (.int (nI 1)), some (.int x2), some (.int x3), some (.int x4), some (.int v5), some (.int v7)], [.int (-(nI 1000)), .int v7, .int v9, .ref 23], (DB o i0 i1 ext), M8) rfl ?_
          refine T_br (_) (116, 68, [some (.ref 20), some (.int (nI 1)), some (.int x2), some (.int x3), some (.int x4), some (.int v5), some (.int v7)], [.int v9, .ref 23], (DB o i0 i1 ext), M8) (116, 66, [some (.ref 20), some (.int (nI 1)), some (.int x2), some (.int x3), some (.int x4), some (.int v5), some (.int v7)], [.int v9, .ref 23], (DB o i0 i1 ext), M8) rfl (fun hc11 => ?_) (fun hc11 => ?_)
          · have h := h.1 hc11
            refine T_run 1 (116, 69, [some (.ref 20), some (.int (nI 1)), some (.int x2), some (.int x3), some (.int x4), some (.int v5), some (.int v7)], [.int (nI 0), .int v9, .ref 23], (DB o i0 i1 ext), M8) rfl ?_
            refine T_gd (v9 < 0 ∨ 1179648 ≤ v9.toNatClampNeg) (116, 70, [some (.ref 20), some (.int (nI 1)), some (.int x2), some (.int x3), some (.int x4), some (.int v5), some (.int v7)], [], (DB o i0 i1 ext), (ms M8 23 v9.toNatClampNeg (nI 0))) rfl h.1 ?_
            have h := h.2
            refine T_run 6 (116, 76, [some (.ref 20), some (.int (nI 1)), some (.int x2), some (.int x3), some (.int x4), some (.int v5), some (.int v7)], [.int (nI 1), .int x4, .int x3, .int x2, .ref 23], (DB o i0 i1 ext), (ms M8 23 v9.toNatClampNeg (nI 0))) rfl ?_
            refine T_callI (D' := (DB o i0 i1 ext)) rfl (CI_mono h (fun v13 M12 h => ?_))
            refine T_run 2 (116, 79, [some (.ref 20), some (.int (nI 1)), some (.int x2), some (.int x3), some (.int x4), some (.int v5), some (.int v7)], [.int (-(nI 1000)), .int v7, .int v13, .ref 23], (DB o i0 i1 ext), M12) rfl ?_
            refine T_br (v7 ≤ (-(nI 1000))) (116, 82, [some (.ref 20), some (.int (nI 1)), some (.int x2), some (.int x3), some (.int x4), some (.int v5), some (.int v7)], [.int v13, .ref 23], (DB o i0 i1 ext), M12) (116, 80, [some (.ref 20), some (.int (nI 1)), some (.int x2), some (.int x3), some (.int x4), some (.int v5), some (.int v7)], [.int v13, .ref 23], (DB o i0 i1 ext), M12) rfl (fun _ => ?_) (fun hz => absurd hc11 hz)
            refine T_run 2 (116, 84, [some (.ref 20), some (.int (nI 1)), some (.int x2), some (.int x3), some (.int x4), some (.int v5), some (.int v7)], [.int (-(nI 1000)), .int v5, .int v13, .ref 23], (DB o i0 i1 ext), M12) rfl ?_
            refine T_br (v5 ≤ (-(nI 1000))) (116, 87, [some (.ref 20), some (.int (nI 1)), some (.int x2), some (.int x3), some (.int x4), some (.int v5), some (.int v7)], [.int v13, .ref 23], (DB o i0 i1 ext), M12) (116, 85, [some (.ref 20), some (.int (nI 1)), some (.int x2), some (.int x3), some (.int x4), some (.int v5), some (.int v7)], [.int v13, .ref 23], (DB o i0 i1 ext), M12) rfl (fun _ => ?_) (fun hz => absurd hc10 hz)
            refine T_run 1 (116, 88, [some (.ref 20), some (.int (nI 1)), some (.int x2), some (.int x3), some (.int x4), some (.int v5), some (.int v7)], [.int (nI 0), .int v13, .ref 23], (DB o i0 i1 ext), M12) rfl ?_
            refine T_gd (v13 < 0 ∨ 1179648 ≤ v13.toNatClampNeg) (116, 89, [some (.ref 20), some (.int (nI 1)), some (.int x2), some (.int x3), some (.int x4), some (.int v5), some (.int v7)], [], (DB o i0 i1 ext), (ms M12 23 v13.toNatClampNeg (nI 0))) rfl h.1 ?_
            have h := h.2
            refine T_run 2 (116, 17, [some (.ref 20), some (.int (nI 1)), some (.int x2), some (.int x3), some (.int (x4 + (nI 1))), some (.int v5), some (.int v7)], [], (DB o i0 i1 ext), (ms M12 23 v13.toNatClampNeg (nI 0))) rfl ?_
            exact T_le (a_le_1 (a_le_1 (a_le_1 (a_le_1 (a_le_1 (a_le_2 rfl (a_le_2 rfl a_le_n))))))) h
          · have h := h.2 hc11
            refine T_run 2 (116, 69, [some (.ref 20), some (.int (nI 1)), some (.int x2), some (.int x3), some (.int x4), some (.int v5), some (.int v7)], [.int v7, .int v9, .ref 23], (DB o i0 i1 ext), M8) rfl ?_
            refine T_gd (v9 < 0 ∨ 1179648 ≤ v9.toNatClampNeg) (116, 70, [some (.ref 20), some (.int (nI 1)), some (.int x2), some (.int x3), some (.int x4), some (.int v5), some (.int v7)], [], (DB o i0 i1 ext), (ms M8 23 v9.toNatClampNeg v7)) rfl h.1 ?_
            have h := h.2
            refine T_run 6 (116, 76, [some (.ref 20), some (.int (nI 1)), some (.int x2), some (.int x3), some (.int x4), some (.int v5), some (.int v7)], [.int (nI 1), .int x4, .int x3, .int x2, .ref 23], (DB o i0 i1 ext), (ms M8 23 v9.toNatClampNeg v7)) rfl ?_
            refine T_callI (D' := (DB o i0 i1 ext)) rfl (CI_mono h (fun v15 M14 h => ?_))
            refine T_run 2 (116, 79, [some (.ref 20), some (.int (nI 1)), some (.int x2), some (.int x3), some (.int x4), some (.int v5), some (.int v7)], [.int (-(nI 1000)), .int v7, .int v15, .ref 23], (DB o i0 i1 ext), M14) rfl ?_
            refine T_br (v7 ≤ (-(nI 1000))) (116, 82, [some (.ref 20), some (.int (nI 1)), some (.int x2), some (.int x3), some (.int x4), some (.int v5), some (.int v7)], [.int v15, .ref 23], (DB o i0 i1 ext), M14) (116, 80, [some (.ref 20), some (.int (nI 1)), some (.int x2), some (.int x3), some (.int x4), some (.int v5), some (.int v7)], [.int v15, .ref 23], (DB o i0 i1 ext), M14) rfl (fun hz => absurd hz hc11) (fun _ => ?_)
            refine T_run 2 (116, 88, [some (.ref 20), some (.int (nI 1)), some (.int x2), some (.int x3), some (.int x4), some (.int v5), some (.int v7)], [.int v7, .int v15, .ref 23], (DB o i0 i1 ext), M14) rfl ?_
            refine T_gd (v15 < 0 ∨ 1179648 ≤ v15.toNatClampNeg) (116, 89, [some (.ref 20), some (.int (nI 1)), some (.int x2), some (.int x3), some (.int x4), some (.int v5), some (.int v7)], [], (DB o i0 i1 ext), (ms M14 23 v15.toNatClampNeg v7)) rfl h.1 ?_
            have h := h.2
            refine T_run 2 (116, 17, [some (.ref 20), some (.int (nI 1)), some (.int x2), some (.int x3), some (.int (x4 + (nI 1))), some (.int v5), some (.int v7)], [], (DB o i0 i1 ext), (ms M14 23 v15.toNatClampNeg v7)) rfl ?_
            exact T_le (a_le_1 (a_le_1 (a_le_1 (a_le_1 (a_le_1 (a_le_2 rfl (a_le_2 rfl a_le_n))))))) h
        · have h := h.2 hc10
          refine T_run 2 (116, 69, [some (.ref 20), some (.int (nI 1)), some (.int x2), some (.int x3), some (.int x4), some (.int v5), some (.int v7)], [.int v5, .int v9, .ref 23], (DB o i0 i1 ext), M8) rfl ?_
          refine T_gd (v9 < 0 ∨ 1179648 ≤ v9.toNatClampNeg) (116, 70, [some (.ref 20), some (.int (nI 1)), some (.int x2), some (.int x3), some (.int x4), some (.int v5), some (.int v7)], [], (DB o i0 i1 ext), (ms M8 23 v9.toNatClampNeg v5)) rfl h.1 ?_
          have h := h.2
          refine T_run 6 (116, 76, [some (.ref 20), some (.int (nI 1)), some (.int x2), some (.int x3), some (.int x4), some (.int v5), some (.int v7)], [.int (nI 1), .int x4, .int x3, .int x2, .ref 23], (DB o i0 i1 ext), (ms M8 23 v9.toNatClampNeg v5)) rfl ?_
          refine T_callI (D' := (DB o i0 i1 ext)) rfl (CI_mono h (fun v17 M16 h => ?_))
          refine T_run 2 (116, 79, [some (.ref 20), some (.int (nI 1)), some (.int x2), some (.int x3), some (.int x4), some (.int v5), some (.int v7)], [.int (-(nI 1000)), .int v7, .int v17, .ref 23], (DB o i0 i1 ext), M16) rfl ?_
          refine T_br (_) (116, 82, [some (.ref 20), some (.int (nI 1)), some (.int x2), some (.int x3), some (.int x4), some (.int v5), some (.int v7)], [.int v17, .ref 23], (DB o i0 i1 ext), M16) (116, 80, [some (.ref 20), some (.int (nI 1)), some (.int x2), some (.int x3), some (.int x4), some (.int v5), some (.int v7)], [.int v17, .ref 23], (DB o i0 i1 ext), M16) rfl (fun hc18 => ?_) (fun hc18 => ?_)
          · have h := h.1 hc18
            refine T_run 2 (116, 84, [some (.ref 20), some (.int (nI 1)), some (.int x2), some (.int x3), some (.int x4), some (.int v5), some (.int v7)], [.int (-(nI 1000)), .int v5, .int v17, .ref 23], (DB o i0 i1 ext), M16) rfl ?_
            refine T_br (v5 ≤ (-(nI 1000))) (116, 87, [some (.ref 20), some (.int (nI 1)), some (.int x2), some (.int x3), some (.int x4), some (.int v5), some (.int v7)], [.int v17, .ref 23], (DB o i0 i1 ext), M16) (116, 85, [some (.ref 20), some (.int (nI 1)), some (.int x2), some (.int x3), some (.int x4), some (.int v5), some (.int v7)], [.int v17, .ref 23], (DB o i0 i1 ext), M16) rfl (fun hz => absurd hz hc10) (fun _ => ?_)
            refine T_run 2 (116, 88, [some (.ref 20), some (.int (nI 1)), some (.int x2), some (.int x3), some (.int x4), some (.int v5), some (.int v7)], [.int v5, .int v17, .ref 23], (DB o i0 i1 ext), M16) rfl ?_
            refine T_gd (v17 < 0 ∨ 1179648 ≤ v17.toNatClampNeg) (116, 89, [some (.ref 20), some (.int (nI 1)), some (.int x2), some (.int x3), some (.int x4), some (.int v5), some (.int v7)], [], (DB o i0 i1 ext), (ms M16 23 v17.toNatClampNeg v5)) rfl h.1 ?_
            have h := h.2
            refine T_run 2 (116, 17, [some (.ref 20), some (.int (nI 1)), some (.int x2), some (.int x3), some (.int (x4 + (nI 1))), some (.int v5), some (.int v7)], [], (DB o i0 i1 ext), (ms M16 23 v17.toNatClampNeg v5)) rfl ?_
            exact T_le (a_le_1 (a_le_1 (a_le_1 (a_le_1 (a_le_1 (a_le_2 rfl (a_le_2 rfl a_le_n))))))) h
          · have h := h.2 hc18
            refine T_run 2 (116, 88, [some (.ref 20), some (.int (nI 1)), some (.int x2), some (.int x3), some (.int x4), some (.int v5), some (.int v7)], [.int v7, .int v17, .ref 23], (DB o i0 i1 ext), M16) rfl ?_
            refine T_gd (v17 < 0 ∨ 1179648 ≤ v17.toNatClampNeg) (116, 89, [some (.ref 20), some (.int (nI 1)), some (.int x2), some (.int x3), some (.int x4), some (.int v5), some (.int v7)], [], (DB o i0 i1 ext), (ms M16 23 v17.toNatClampNeg v7)) rfl h.1 ?_
            have h := h.2
            refine T_run 2 (116, 17, [some (.ref 20), some (.int (nI 1)), some (.int x2), some (.int x3), some (.int (x4 + (nI 1))), some (.int v5), some (.int v7)], [], (DB o i0 i1 ext), (ms M16 23 v17.toNatClampNeg v7)) rfl ?_
            exact T_le (a_le_1 (a_le_1 (a_le_1 (a_le_1 (a_le_1 (a_le_2 rfl (a_le_2 rfl a_le_n))))))) h
      · have h := h.2 hc3
        refine T_run 2 (116, 17, [some (.ref 20), some (.int (nI 1)), some (.int x2), some (.int x3), some (.int (x4 + (nI 1))), none, none], [], (DB o i0 i1 ext), M) rfl ?_
        exact h
    · have h := h.2 hc2
      refine T_run 2 (116, 17, [some (.ref 20), some (.int (nI 1)), some (.int x2), some (.int x3), some (.int (x4 + (nI 1))), none, none], [], (DB o i0 i1 ext), M) rfl ?_
      exact h
set_option maxRecDepth 100000 in
theorem b_X5_two_0 {d : Nat} {Q : ARs → Prop} {o i0 i1 : Option Nat} {ext : ADd} {M : AMm}  (h : CI d 112 [.ref 20] (DB o i0 i1 ext) M (DB o i0 i1 ext) (fun v2 M1 => (v2 = 0 → Q (some (.int (-(nI 4))), (DB o i0 i1 ext), M1)) ∧ (¬ v2 = 0 → CI d 116 [.ref 20, .int (nI 0)] (DB o i0 i1 ext) M1 (DB o i0 i1 ext) (fun v5 M4 => Q (some (.int ((nI 1) + v5)), (DB o i0 i1 ext), M4))))) : T (d + 1) Q (ent 117 [.ref 20] (DB o i0 i1 ext) M) := by
  refine T_run 1 (117, 1, [some (.ref 20)], [.ref 20], (DB o i0 i1 ext), M) rfl ?_
  refine T_callI (D' := (DB o i0 i1 ext)) rfl (CI_mono h (fun v2 M1 h => ?_))
  refine T_br (v2 = 0) (117, 9, [some (.ref 20)], [], (DB o i0 i1 ext), M1) (117, 3, [some (.ref 20)], [], (DB o i0 i1 ext), M1) rfl (fun hc3 => ?_) (fun hc3 => ?_)
  · have h := h.1 hc3
    refine T_run 1 (117, 10, [some (.ref 20)], [.int (-(nI 4))], (DB o i0 i1 ext), M1) rfl ?_
    exact T_ret rfl h
  · have h := h.2 hc3
    refine T_run 3 (117, 6, [some (.ref 20)], [.int (nI 0), .ref 20, .int (nI 1)], (DB o i0 i1 ext), M1) rfl ?_
    refine T_callI (D' := (DB o i0 i1 ext)) rfl (CI_mono h (fun v5 M4 h => ?_))
    refine T_run 2 (117, 10, [some (.ref 20)], [.int ((nI 1) + v5)], (DB o i0 i1 ext), M4) rfl ?_
    exact T_ret rfl h
set_option maxRecDepth 100000 in
theorem b_X5_game_0 {d : Nat} {Q : ARs → Prop} {o i0 i1 : Option Nat} {ext : ADd} {M : AMm}  (h : CI d 112 [.ref 20] (DB o i0 i1 ext) M (DB o i0 i1 ext) (fun v2 M1 => (v2 = 0 → Q (some (.int (-(nI 4))), (DB o i0 i1 ext), M1)) ∧ (¬ v2 = 0 → CI d 116 [.ref 20, .int (nI 1)] (DB o i0 i1 ext) M1 (DB o i0 i1 ext) (fun v5 M4 => Q (some (.int ((nI 1000) + v5)), (DB o i0 i1 ext), M4))))) : T (d + 1) Q (ent 118 [.ref 20] (DB o i0 i1 ext) M) := by
  refine T_run 1 (118, 1, [some (.ref 20)], [.ref 20], (DB o i0 i1 ext), M) rfl ?_
  refine T_callI (D' := (DB o i0 i1 ext)) rfl (CI_mono h (fun v2 M1 h => ?_))
  refine T_br (v2 = 0) (118, 9, [some (.ref 20)], [], (DB o i0 i1 ext), M1) (118, 3, [some (.ref 20)], [], (DB o i0 i1 ext), M1) rfl (fun hc3 => ?_) (fun hc3 => ?_)
  · have h := h.1 hc3
    refine T_run 1 (118, 10, [some (.ref 20)], [.int (-(nI 4))], (DB o i0 i1 ext), M1) rfl ?_
    exact T_ret rfl h
  · have h := h.2 hc3
    refine T_run 3 (118, 6, [some (.ref 20)], [.int (nI 1), .ref 20, .int (nI 1000)], (DB o i0 i1 ext), M1) rfl ?_
    refine T_callI (D' := (DB o i0 i1 ext)) rfl (CI_mono h (fun v5 M4 h => ?_))
    refine T_run 2 (118, 10, [some (.ref 20)], [.int ((nI 1000) + v5)], (DB o i0 i1 ext), M4) rfl ?_
    exact T_ret rfl h
set_option maxRecDepth 100000 in
theorem b_X5_where_0 {d : Nat} {Q : ARs → Prop} {o i0 i1 : Option Nat} {ext : ADd} {M : AMm} (x1 : Int32) (h : CI d 74 [.long x1.toInt64, .long (lN 0), .long (lN 1)] (DB o i0 i1 ext) M (DB o i0 i1 ext) (fun v2 M1 => (v2 = 0 → Q (some (.int (-(nI 2))), (DB o i0 i1 ext), M1)) ∧ (¬ v2 = 0 → CV d 102 [.ref 20] (DB o i0 i1 ext) M1 (DB o i0 i1 ext) (fun M4 => T (d + 1) Q (119, 16, [some (.ref 20), some (.int x1), some (.int (-(nI 6))), some (.int (nI 0)), some (.int (nI 0)), none], [], (DB o i0 i1 ext), M4))))) : T (d + 1) Q (ent 119 [.ref 20, .int x1] (DB o i0 i1 ext) M) := by
  refine T_run 4 (119, 4, [some (.ref 20), some (.int x1), none, none, none, none], [.long (lN 1), .long (lN 0), .long x1.toInt64], (DB o i0 i1 ext), M) rfl ?_
  refine T_callI (D' := (DB o i0 i1 ext)) rfl (CI_mono h (fun v2 M1 h => ?_))
  refine T_br (v2 = 0) (119, 6, [some (.ref 20), some (.int x1), none, none, none, none], [], (DB o i0 i1 ext), M1) (119, 8, [some (.ref 20), some (.int x1), none, none, none, none], [], (DB o i0 i1 ext), M1) rfl (fun hc3 => ?_) (fun hc3 => ?_)
  · have h := h.1 hc3
    refine T_run 1 (119, 7, [some (.ref 20), some (.int x1), none, none, none, none], [.int (-(nI 2))], (DB o i0 i1 ext), M1) rfl ?_
    exact T_ret rfl h
  · have h := h.2 hc3
    refine T_run 1 (119, 9, [some (.ref 20), some (.int x1), none, none, none, none], [.ref 20], (DB o i0 i1 ext), M1) rfl ?_
    refine T_callV (D' := (DB o i0 i1 ext)) rfl (CV_mono h (fun M4 h => ?_))
    refine T_run 6 (119, 16, [some (.ref 20), some (.int x1), some (.int (-(nI 6))), some (.int (nI 0)), some (.int (nI 0)), none], [], (DB o i0 i1 ext), M4) rfl ?_
    exact h
set_option maxRecDepth 100000 in
theorem b_X5_where_16 {d : Nat} {Q : ARs → Prop} {o i0 i1 : Option Nat} {ext : ADd} {M : AMm} (x1 : Int32) (x2 : Int32) (x3 : Int32) (x4 : Int32) (h : CI d 77 [.ref 20] (DB o i0 i1 ext) M (DB o i0 i1 ext) (fun v2 M1 => (v2 ≤ x4 → (x1 = 0 → Q (some (.int x2), (DB o i0 i1 ext), M1)) ∧ (¬ x1 = 0 → Q (some (.int x3), (DB o i0 i1 ext), M1))) ∧ (¬ v2 ≤ x4 → (vp_in x4 16) ∧ (((M1 21 x4.toNatClampNeg) = (-(nI 1)) → ((nI 0) ≤ x3 → T (d + 1) Q (119, 16, [some (.ref 20), some (.int x1), some (.int x2), some (.int x3), some (.int (x4 + (nI 1))), none], [], (DB o i0 i1 ext), M1)) ∧ (¬ (nI 0) ≤ x3 → T (d + 1) Q (119, 16, [some (.ref 20), some (.int x1), some (.int x4), some (.int (nI 0)), some (.int (x4 + (nI 1))), none], [], (DB o i0 i1 ext), M1))) ∧ (¬ (M1 21 x4.toNatClampNeg) = (-(nI 1)) → CI d 101 [.int ((nI 1) <<< (x4 &&& 31)), .int x4] (DB o i0 i1 ext) M1 (DB o i0 i1 ext) (fun v8 M7 => (vp_in v8 1179648) ∧ ((((nI 1) + (M7 23 v8.toNatClampNeg)) ≤ x3 → T (d + 1) Q (119, 16, [some (.ref 20), some (.int x1), some (.int x2), some (.int x3), some (.int (x4 + (nI 1))), none], [], (DB o i0 i1 ext), M7)) ∧ (¬ ((nI 1) + (M7 23 v8.toNatClampNeg)) ≤ x3 → T (d + 1) Q (119, 16, [some (.ref 20), some (.int x1), some (.int x4), some (.int ((nI 1) + (M7 23 v8.toNatClampNeg))), some (.int (x4 + (nI 1))), none], [], (DB o i0 i1 ext), M7))))))))) : T (d + 1) Q (119, 16, [some (.ref 20), some (.int x1), some (.int x2), some (.int x3), some (.int x4), none], [], (DB o i0 i1 ext), M) := by
  refine T_run 2 (119, 18, [some (.ref 20), some (.int x1), some (.int x2), some (.int x3), some (.int x4), none], [.ref 20, .int x4], (DB o i0 i1 ext), M) rfl ?_
  refine T_callI (D' := (DB o i0 i1 ext)) rfl (CI_mono h (fun v2 M1 h => ?_))
  refine T_br (v2 ≤ x4) (119, 55, [some (.ref 20), some (.int x1), some (.int x2), some (.int x3), some (.int x4), none], [], (DB o i0 i1 ext), M1) (119, 20, [some (.ref 20), some (.int x1), some (.int x2), some (.int x3), some (.int x4), none], [], (DB o i0 i1 ext), M1) rfl (fun hc3 => ?_) (fun hc3 => ?_)
  · have h := h.1 hc3
    refine T_run 1 (119, 56, [some (.ref 20), some (.int x1), some (.int x2), some (.int x3), some (.int x4), none], [.int x1], (DB o i0 i1 ext), M1) rfl ?_
    refine T_br (x1 = 0) (119, 57, [some (.ref 20), some (.int x1), some (.int x2), some (.int x3), some (.int x4), none], [], (DB o i0 i1 ext), M1) (119, 59, [some (.ref 20), some (.int x1), some (.int x2), some (.int x3), some (.int x4), none], [], (DB o i0 i1 ext), M1) rfl (fun hc4 => ?_) (fun hc4 => ?_)
    · have h := h.1 hc4
      refine T_run 2 (119, 60, [some (.ref 20), some (.int x1), some (.int x2), some (.int x3), some (.int x4), none], [.int x2], (DB o i0 i1 ext), M1) rfl ?_
      exact T_ret rfl h
    · have h := h.2 hc4
      refine T_run 1 (119, 60, [some (.ref 20), some (.int x1), some (.int x2), some (.int x3), some (.int x4), none], [.int x3], (DB o i0 i1 ext), M1) rfl ?_
      exact T_ret rfl h
  · have h := h.2 hc3
    refine T_run 3 (119, 23, [some (.ref 20), some (.int x1), some (.int x2), some (.int x3), some (.int x4), none], [.int x4, .ref 21], (DB o i0 i1 ext), M1) rfl ?_
    refine T_gd (x4 < 0 ∨ 16 ≤ x4.toNatClampNeg) (119, 24, [some (.ref 20), some (.int x1), some (.int x2), some (.int x3), some (.int x4), none], [.int (M1 21 x4.toNatClampNeg)], (DB o i0 i1 ext), M1) rfl h.1 ?_
    have h := h.2
    refine T_run 1 (119, 25, [some (.ref 20), some (.int x1), some (.int x2), some (.int x3), some (.int x4), none], [.int (-(nI 1)), .int (M1 21 x4.toNatClampNeg)], (DB o i0 i1 ext), M1) rfl ?_
    refine T_br (_) (119, 26, [some (.ref 20), some (.int x1), some (.int x2), some (.int x3), some (.int x4), none], [], (DB o i0 i1 ext), M1) (119, 28, [some (.ref 20), some (.int x1), some (.int x2), some (.int x3), some (.int x4), none], [], (DB o i0 i1 ext), M1) rfl (fun hc5 => ?_) (fun hc5 => ?_)
    · have h := h.1 hc5
      refine T_run 5 (119, 41, [some (.ref 20), some (.int x1), some (.int x2), some (.int x3), some (.int x4), some (.int (nI 0))], [.int x3, .int (nI 0)], (DB o i0 i1 ext), M1) rfl ?_
      refine T_br ((nI 0) ≤ x3) (119, 44, [some (.ref 20), some (.int x1), some (.int x2), some (.int x3), some (.int x4), some (.int (nI 0))], [], (DB o i0 i1 ext), M1) (119, 42, [some (.ref 20), some (.int x1), some (.int x2), some (.int x3), some (.int x4), some (.int (nI 0))], [], (DB o i0 i1 ext), M1) rfl (fun hc6 => ?_) (fun hc6 => ?_)
      · have h := h.1 hc6
        refine T_run 4 (119, 48, [some (.ref 20), some (.int x1), some (.int x2), some (.int x3), some (.int x4), some (.int (nI 0))], [.int x3, .int (nI 0)], (DB o i0 i1 ext), M1) rfl ?_
        refine T_br ((nI 0) ≤ x3) (119, 51, [some (.ref 20), some (.int x1), some (.int x2), some (.int x3), some (.int x4), some (.int (nI 0))], [], (DB o i0 i1 ext), M1) (119, 49, [some (.ref 20), some (.int x1), some (.int x2), some (.int x3), some (.int x4), some (.int (nI 0))], [], (DB o i0 i1 ext), M1) rfl (fun _ => ?_) (fun hz => absurd hc6 hz)
        refine T_run 4 (119, 16, [some (.ref 20), some (.int x1), some (.int x2), some (.int x3), some (.int (x4 + (nI 1))), some (.int (nI 0))], [], (DB o i0 i1 ext), M1) rfl ?_
        exact T_le (a_le_1 (a_le_1 (a_le_1 (a_le_1 (a_le_1 (a_le_2 rfl a_le_n)))))) h
      · have h := h.2 hc6
        refine T_run 5 (119, 48, [some (.ref 20), some (.int x1), some (.int x4), some (.int x3), some (.int x4), some (.int (nI 0))], [.int x3, .int (nI 0)], (DB o i0 i1 ext), M1) rfl ?_
        refine T_br ((nI 0) ≤ x3) (119, 51, [some (.ref 20), some (.int x1), some (.int x4), some (.int x3), some (.int x4), some (.int (nI 0))], [], (DB o i0 i1 ext), M1) (119, 49, [some (.ref 20), some (.int x1), some (.int x4), some (.int x3), some (.int x4), some (.int (nI 0))], [], (DB o i0 i1 ext), M1) rfl (fun hz => absurd hz hc6) (fun _ => ?_)
        refine T_run 5 (119, 16, [some (.ref 20), some (.int x1), some (.int x4), some (.int (nI 0)), some (.int (x4 + (nI 1))), some (.int (nI 0))], [], (DB o i0 i1 ext), M1) rfl ?_
        exact T_le (a_le_1 (a_le_1 (a_le_1 (a_le_1 (a_le_1 (a_le_2 rfl a_le_n)))))) h
    · have h := h.2 hc5
      refine T_run 7 (119, 35, [some (.ref 20), some (.int x1), some (.int x2), some (.int x3), some (.int x4), none], [.int x4, .int ((nI 1) <<< (x4 &&& 31)), .ref 23, .int (nI 1)], (DB o i0 i1 ext), M1) rfl ?_
      refine T_callI (D' := (DB o i0 i1 ext)) rfl (CI_mono h (fun v8 M7 h => ?_))
      refine T_gd (v8 < 0 ∨ 1179648 ≤ v8.toNatClampNeg) (119, 37, [some (.ref 20), some (.int x1), some (.int x2), some (.int x3), some (.int x4), none], [.int (M7 23 v8.toNatClampNeg), .int (nI 1)], (DB o i0 i1 ext), M7) rfl h.1 ?_
      have h := h.2
      refine T_run 4 (119, 41, [some (.ref 20), some (.int x1), some (.int x2), some (.int x3), some (.int x4), some (.int ((nI 1) + (M7 23 v8.toNatClampNeg)))], [.int x3, .int ((nI 1) + (M7 23 v8.toNatClampNeg))], (DB o i0 i1 ext), M7) rfl ?_
      refine T_br (((nI 1) + (M7 23 v8.toNatClampNeg)) ≤ x3) (119, 44, [some (.ref 20), some (.int x1), some (.int x2), some (.int x3), some (.int x4), some (.int ((nI 1) + (M7 23 v8.toNatClampNeg)))], [], (DB o i0 i1 ext), M7) (119, 42, [some (.ref 20), some (.int x1), some (.int x2), some (.int x3), some (.int x4), some (.int ((nI 1) + (M7 23 v8.toNatClampNeg)))], [], (DB o i0 i1 ext), M7) rfl (fun hc9 => ?_) (fun hc9 => ?_)
      · have h := h.1 hc9
        refine T_run 4 (119, 48, [some (.ref 20), some (.int x1), some (.int x2), some (.int x3), some (.int x4), some (.int ((nI 1) + (M7 23 v8.toNatClampNeg)))], [.int x3, .int ((nI 1) + (M7 23 v8.toNatClampNeg))], (DB o i0 i1 ext), M7) rfl ?_
        refine T_br (((nI 1) + (M7 23 v8.toNatClampNeg)) ≤ x3) (119, 51, [some (.ref 20), some (.int x1), some (.int x2), some (.int x3), some (.int x4), some (.int ((nI 1) + (M7 23 v8.toNatClampNeg)))], [], (DB o i0 i1 ext), M7) (119, 49, [some (.ref 20), some (.int x1), some (.int x2), some (.int x3), some (.int x4), some (.int ((nI 1) + (M7 23 v8.toNatClampNeg)))], [], (DB o i0 i1 ext), M7) rfl (fun _ => ?_) (fun hz => absurd hc9 hz)
        refine T_run 4 (119, 16, [some (.ref 20), some (.int x1), some (.int x2), some (.int x3), some (.int (x4 + (nI 1))), some (.int ((nI 1) + (M7 23 v8.toNatClampNeg)))], [], (DB o i0 i1 ext), M7) rfl ?_
        exact T_le (a_le_1 (a_le_1 (a_le_1 (a_le_1 (a_le_1 (a_le_2 rfl a_le_n)))))) h
      · have h := h.2 hc9
        refine T_run 5 (119, 48, [some (.ref 20), some (.int x1), some (.int x4), some (.int x3), some (.int x4), some (.int ((nI 1) + (M7 23 v8.toNatClampNeg)))], [.int x3, .int ((nI 1) + (M7 23 v8.toNatClampNeg))], (DB o i0 i1 ext), M7) rfl ?_
        refine T_br (((nI 1) + (M7 23 v8.toNatClampNeg)) ≤ x3) (119, 51, [some (.ref 20), some (.int x1), some (.int x4), some (.int x3), some (.int x4), some (.int ((nI 1) + (M7 23 v8.toNatClampNeg)))], [], (DB o i0 i1 ext), M7) (119, 49, [some (.ref 20), some (.int x1), some (.int x4), some (.int x3), some (.int x4), some (.int ((nI 1) + (M7 23 v8.toNatClampNeg)))], [], (DB o i0 i1 ext), M7) rfl (fun hz => absurd hz hc9) (fun _ => ?_)
        refine T_run 5 (119, 16, [some (.ref 20), some (.int x1), some (.int x4), some (.int ((nI 1) + (M7 23 v8.toNatClampNeg))), some (.int (x4 + (nI 1))), some (.int ((nI 1) + (M7 23 v8.toNatClampNeg)))], [], (DB o i0 i1 ext), M7) rfl ?_
        exact T_le (a_le_1 (a_le_1 (a_le_1 (a_le_1 (a_le_1 (a_le_2 rfl a_le_n)))))) h
set_option maxRecDepth 100000 in
theorem b_X5_last_0 {d : Nat} {Q : ARs → Prop} {o i0 i1 : Option Nat} {ext : ADd} {M : AMm}  (h : CV d 104 [.ref 20, .int ((nI 1) <<< ((M 20 3) &&& 31)), .int (M 20 3)] (DB o i0 i1 ext) M (DB o i0 i1 ext) (fun M1 => T (d + 1) Q (120, 12, [some (.ref 20), some (.int (nI 0)), some (.int (nI 0))], [], (DB o i0 i1 ext), M1))) : T (d + 1) Q (ent 120 [.ref 20] (DB o i0 i1 ext) M) := by
  refine T_run 7 (120, 7, [some (.ref 20), none, none], [.int (M 20 3), .int ((nI 1) <<< ((M 20 3) &&& 31)), .ref 20], (DB o i0 i1 ext), M) rfl ?_
  refine T_callV (D' := (DB o i0 i1 ext)) rfl (CV_mono h (fun M1 h => ?_))
  refine T_run 4 (120, 12, [some (.ref 20), some (.int (nI 0)), some (.int (nI 0))], [], (DB o i0 i1 ext), M1) rfl ?_
  exact h
set_option maxRecDepth 100000 in
theorem b_X5_last_12 {d : Nat} {Q : ARs → Prop} {o i0 i1 : Option Nat} {ext : ADd} {M : AMm} (x1 : Int32) (x2 : Int32) (h : CI d 77 [.ref 20] (DB o i0 i1 ext) M (DB o i0 i1 ext) (fun v2 M1 => (v2 ≤ x2 → Q (some (.int x1), (DB o i0 i1 ext), M1)) ∧ (¬ v2 ≤ x2 → CI d 87 [.ref 20] (DB o i0 i1 ext) M1 (DB o i0 i1 ext) (fun v5 M4 => CI d 101 [.int v5, .int x2] (DB o i0 i1 ext) M4 (DB o i0 i1 ext) (fun v7 M6 => (vp_in v7 1048576) ∧ (((M6 24 v7.toNatClampNeg) ≤ 0 → T (d + 1) Q (120, 12, [some (.ref 20), some (.int (x1 ||| (nI 0))), some (.int (x2 + (nI 1)))], [], (DB o i0 i1 ext), M6)) ∧ (¬ (M6 24 v7.toNatClampNeg) ≤ 0 → T (d + 1) Q (120, 12, [some (.ref 20), some (.int (x1 ||| ((nI 1) <<< (x2 &&& 31)))), some (.int (x2 + (nI 1)))], [], (DB o i0 i1 ext), M6)))))))) : T (d + 1) Q (120, 12, [some (.ref 20), some (.int x1), some (.int x2)], [], (DB o i0 i1 ext), M) := by
  refine T_run 2 (120, 14, [some (.ref 20), some (.int x1), some (.int x2)], [.ref 20, .int x2], (DB o i0 i1 ext), M) rfl ?_
  refine T_callI (D' := (DB o i0 i1 ext)) rfl (CI_mono h (fun v2 M1 h => ?_))
  refine T_br (v2 ≤ x2) (120, 34, [some (.ref 20), some (.int x1), some (.int x2)], [], (DB o i0 i1 ext), M1) (120, 16, [some (.ref 20), some (.int x1), some (.int x2)], [], (DB o i0 i1 ext), M1) rfl (fun hc3 => ?_) (fun hc3 => ?_)
  · have h := h.1 hc3
    refine T_run 1 (120, 35, [some (.ref 20), some (.int x1), some (.int x2)], [.int x1], (DB o i0 i1 ext), M1) rfl ?_
    exact T_ret rfl h
  · have h := h.2 hc3
    refine T_run 4 (120, 20, [some (.ref 20), some (.int x1), some (.int x2)], [.ref 20, .ref 24, .int x1], (DB o i0 i1 ext), M1) rfl ?_
    refine T_callI (D' := (DB o i0 i1 ext)) rfl (CI_mono h (fun v5 M4 h => ?_))
    refine T_run 1 (120, 22, [some (.ref 20), some (.int x1), some (.int x2)], [.int x2, .int v5, .ref 24, .int x1], (DB o i0 i1 ext), M4) rfl ?_
    refine T_callI (D' := (DB o i0 i1 ext)) rfl (CI_mono h (fun v7 M6 h => ?_))
    refine T_gd (v7 < 0 ∨ 1048576 ≤ v7.toNatClampNeg) (120, 24, [some (.ref 20), some (.int x1), some (.int x2)], [.int (M6 24 v7.toNatClampNeg), .int x1], (DB o i0 i1 ext), M6) rfl h.1 ?_
    have h := h.2
    refine T_br ((M6 24 v7.toNatClampNeg) ≤ 0) (120, 29, [some (.ref 20), some (.int x1), some (.int x2)], [.int x1], (DB o i0 i1 ext), M6) (120, 25, [some (.ref 20), some (.int x1), some (.int x2)], [.int x1], (DB o i0 i1 ext), M6) rfl (fun hc8 => ?_) (fun hc8 => ?_)
    · have h := h.1 hc8
      refine T_run 5 (120, 12, [some (.ref 20), some (.int (x1 ||| (nI 0))), some (.int (x2 + (nI 1)))], [], (DB o i0 i1 ext), M6) rfl ?_
      exact h
    · have h := h.2 hc8
      refine T_run 8 (120, 12, [some (.ref 20), some (.int (x1 ||| ((nI 1) <<< (x2 &&& 31)))), some (.int (x2 + (nI 1)))], [], (DB o i0 i1 ext), M6) rfl ?_
      exact h
set_option maxRecDepth 100000 in
theorem b_X5_goesOn_0 {d : Nat} {Q : ARs → Prop} {o i0 i1 : Option Nat} {ext : ADd} {M : AMm} (x1 : Int32) (h : CI d 74 [.long x1.toInt64, .long (lN 0), .long (lN 12)] (DB o i0 i1 ext) M (DB o i0 i1 ext) (fun v2 M1 => (v2 = 0 → Q (some (.int (-(nI 2))), (DB o i0 i1 ext), M1)) ∧ (¬ v2 = 0 → CI d 85 [.ref 20] (DB o i0 i1 ext) M1 (DB o i0 i1 ext) (fun v5 M4 => (v5 < 0 → CI d 96 [.ref 20] (DB o i0 i1 ext) M4 (DB o i0 i1 ext) (fun v8 M7 => (v8 = 0 → Q (some (.int (-(nI 3))), (DB o i0 i1 ext), M7)) ∧ (¬ v8 = 0 → CV d 104 [.ref 20, .int (M7 20 7), .int (M7 20 8)] (DB o i0 i1 ext) M7 (DB o i0 i1 ext) (fun M10 => CI d 87 [.ref 20] (DB o i0 i1 ext) M10 (DB o i0 i1 ext) (fun v12 M11 => CI d 75 [.int (M11 20 7)] (DB o i0 i1 ext) M11 (DB o i0 i1 ext) (fun v14 M13 => T (d + 1) Q (121, 38, [some (.ref 20), none, some (.int v12), some (.int (v14 + x1)), some (.int (nI 0)), some (.int (M13 20 7)), none], [], (DB o i0 i1 ext), M13))))))) ∧ (¬ v5 < 0 → Q (some (.int (-(nI 5))), (DB o i0 i1 ext), M4)))))) : T (d + 1) Q (ent 121 [.ref 20, .int x1] (DB o i0 i1 ext) M) := by
  refine T_run 4 (121, 4, [some (.ref 20), some (.int x1), none, none, none, none, none], [.long (lN 12), .long (lN 0), .long x1.toInt64], (DB o i0 i1 ext), M) rfl ?_
  refine T_callI (D' := (DB o i0 i1 ext)) rfl (CI_mono h (fun v2 M1 h => ?_))
  refine T_br (v2 = 0) (121, 6, [some (.ref 20), some (.int x1), none, none, none, none, none], [], (DB o i0 i1 ext), M1) (121, 8, [some (.ref 20), some (.int x1), none, none, none, none, none], [], (DB o i0 i1 ext), M1) rfl (fun hc3 => ?_) (fun hc3 => ?_)
  · have h := h.1 hc3
    refine T_run 1 (121, 7, [some (.ref 20), some (.int x1), none, none, none, none, none], [.int (-(nI 2))], (DB o i0 i1 ext), M1) rfl ?_
    exact T_ret rfl h
  · have h := h.2 hc3
    refine T_run 1 (121, 9, [some (.ref 20), some (.int x1), none, none, none, none, none], [.ref 20], (DB o i0 i1 ext), M1) rfl ?_
    refine T_callI (D' := (DB o i0 i1 ext)) rfl (CI_mono h (fun v5 M4 h => ?_))
    refine T_br (v5 < 0) (121, 13, [some (.ref 20), some (.int x1), none, none, none, none, none], [], (DB o i0 i1 ext), M4) (121, 11, [some (.ref 20), some (.int x1), none, none, none, none, none], [], (DB o i0 i1 ext), M4) rfl (fun hc6 => ?_) (fun hc6 => ?_)
    · have h := h.1 hc6
      refine T_run 1 (121, 14, [some (.ref 20), some (.int x1), none, none, none, none, none], [.ref 20], (DB o i0 i1 ext), M4) rfl ?_
      refine T_callI (D' := (DB o i0 i1 ext)) rfl (CI_mono h (fun v8 M7 h => ?_))
      refine T_br (v8 = 0) (121, 16, [some (.ref 20), some (.int x1), none, none, none, none, none], [], (DB o i0 i1 ext), M7) (121, 18, [some (.ref 20), some (.int x1), none, none, none, none, none], [], (DB o i0 i1 ext), M7) rfl (fun hc9 => ?_) (fun hc9 => ?_)
      · have h := h.1 hc9
        refine T_run 1 (121, 17, [some (.ref 20), some (.int x1), none, none, none, none, none], [.int (-(nI 3))], (DB o i0 i1 ext), M7) rfl ?_
        exact T_ret rfl h
      · have h := h.2 hc9
        refine T_run 5 (121, 23, [some (.ref 20), some (.int x1), none, none, none, none, none], [.int (M7 20 8), .int (M7 20 7), .ref 20], (DB o i0 i1 ext), M7) rfl ?_
        refine T_callV (D' := (DB o i0 i1 ext)) rfl (CV_mono h (fun M10 h => ?_))
        refine T_run 1 (121, 25, [some (.ref 20), some (.int x1), none, none, none, none, none], [.ref 20], (DB o i0 i1 ext), M10) rfl ?_
        refine T_callI (D' := (DB o i0 i1 ext)) rfl (CI_mono h (fun v12 M11 h => ?_))
        refine T_run 3 (121, 29, [some (.ref 20), some (.int x1), some (.int v12), none, none, none, none], [.int (M11 20 7)], (DB o i0 i1 ext), M11) rfl ?_
        refine T_callI (D' := (DB o i0 i1 ext)) rfl (CI_mono h (fun v14 M13 h => ?_))
        refine T_run 8 (121, 38, [some (.ref 20), some (.int x1), some (.int v12), some (.int (v14 + x1)), some (.int (nI 0)), some (.int (M13 20 7)), none], [], (DB o i0 i1 ext), M13) rfl ?_
        exact T_le (a_le_1 (a_le_2 rfl (a_le_1 (a_le_1 (a_le_1 (a_le_1 (a_le_1 a_le_n))))))) h
    · have h := h.2 hc6
      refine T_run 1 (121, 12, [some (.ref 20), some (.int x1), none, none, none, none, none], [.int (-(nI 5))], (DB o i0 i1 ext), M4) rfl ?_
      exact T_ret rfl h
set_option maxRecDepth 100000 in
theorem b_X5_goesOn_38 {d : Nat} {Q : ARs → Prop} {o i0 i1 : Option Nat} {ext : ADd} {M : AMm} (x2 : Int32) (x3 : Int32) (x4 : Int32) (x5 : Int32) (h : (x2 < x5 → Q (some (.int x4), (DB o i0 i1 ext), M)) ∧ (¬ x2 < x5 → ((x5 &&& (x2 ^^^ (-(nI 1)))) = 0 → CI d 75 [.int x5] (DB o i0 i1 ext) M (DB o i0 i1 ext) (fun v4 M3 => (v4 = x3 → T (d + 1) Q (121, 53, [some (.ref 20), none, some (.int x2), some (.int x3), some (.int x4), some (.int x5), some (.int (nI 0))], [], (DB o i0 i1 ext), M3)) ∧ (¬ v4 = x3 → T (d + 1) Q (121, 38, [some (.ref 20), none, some (.int x2), some (.int x3), some (.int x4), some (.int (x5 + (nI 1))), none], [], (DB o i0 i1 ext), M3)))) ∧ (¬ (x5 &&& (x2 ^^^ (-(nI 1)))) = 0 → T (d + 1) Q (121, 38, [some (.ref 20), none, some (.int x2), some (.int x3), some (.int x4), some (.int (x5 + (nI 1))), none], [], (DB o i0 i1 ext), M)))) : T (d + 1) Q (121, 38, [some (.ref 20), none, some (.int x2), some (.int x3), some (.int x4), some (.int x5), none], [], (DB o i0 i1 ext), M) := by
  refine T_run 2 (121, 40, [some (.ref 20), none, some (.int x2), some (.int x3), some (.int x4), some (.int x5), none], [.int x2, .int x5], (DB o i0 i1 ext), M) rfl ?_
  refine T_br (x2 < x5) (121, 70, [some (.ref 20), none, some (.int x2), some (.int x3), some (.int x4), some (.int x5), none], [], (DB o i0 i1 ext), M) (121, 41, [some (.ref 20), none, some (.int x2), some (.int x3), some (.int x4), some (.int x5), none], [], (DB o i0 i1 ext), M) rfl (fun hc1 => ?_) (fun hc1 => ?_)
  · have h := h.1 hc1
    refine T_run 1 (121, 71, [some (.ref 20), none, some (.int x2), some (.int x3), some (.int x4), some (.int x5), none], [.int x4], (DB o i0 i1 ext), M) rfl ?_
    exact T_ret rfl h
  · have h := h.2 hc1
    refine T_run 5 (121, 46, [some (.ref 20), none, some (.int x2), some (.int x3), some (.int x4), some (.int x5), none], [.int (x5 &&& (x2 ^^^ (-(nI 1))))], (DB o i0 i1 ext), M) rfl ?_
    refine T_br (_) (121, 47, [some (.ref 20), none, some (.int x2), some (.int x3), some (.int x4), some (.int x5), none], [], (DB o i0 i1 ext), M) (121, 68, [some (.ref 20), none, some (.int x2), some (.int x3), some (.int x4), some (.int x5), none], [], (DB o i0 i1 ext), M) rfl (fun hc2 => ?_) (fun hc2 => ?_)
    · have h := h.1 hc2
      refine T_run 1 (121, 48, [some (.ref 20), none, some (.int x2), some (.int x3), some (.int x4), some (.int x5), none], [.int x5], (DB o i0 i1 ext), M) rfl ?_
      refine T_callI (D' := (DB o i0 i1 ext)) rfl (CI_mono h (fun v4 M3 h => ?_))
      refine T_run 1 (121, 50, [some (.ref 20), none, some (.int x2), some (.int x3), some (.int x4), some (.int x5), none], [.int x3, .int v4], (DB o i0 i1 ext), M3) rfl ?_
      refine T_br (v4 = x3) (121, 51, [some (.ref 20), none, some (.int x2), some (.int x3), some (.int x4), some (.int x5), none], [], (DB o i0 i1 ext), M3) (121, 68, [some (.ref 20), none, some (.int x2), some (.int x3), some (.int x4), some (.int x5), none], [], (DB o i0 i1 ext), M3) rfl (fun hc5 => ?_) (fun hc5 => ?_)
      · have h := h.1 hc5
        refine T_run 2 (121, 53, [some (.ref 20), none, some (.int x2), some (.int x3), some (.int x4), some (.int x5), some (.int (nI 0))], [], (DB o i0 i1 ext), M3) rfl ?_
        exact h
      · have h := h.2 hc5
        refine T_run 2 (121, 38, [some (.ref 20), none, some (.int x2), some (.int x3), some (.int x4), some (.int (x5 + (nI 1))), none], [], (DB o i0 i1 ext), M3) rfl ?_
        exact h
    · have h := h.2 hc2
      refine T_run 2 (121, 38, [some (.ref 20), none, some (.int x2), some (.int x3), some (.int x4), some (.int (x5 + (nI 1))), none], [], (DB o i0 i1 ext), M) rfl ?_
      exact h
set_option maxRecDepth 100000 in
theorem b_X5_goesOn_53 {d : Nat} {Q : ARs → Prop} {o i0 i1 : Option Nat} {ext : ADd} {M : AMm} (x2 : Int32) (x3 : Int32) (x4 : Int32) (x5 : Int32) (x6 : Int32) (h : CI d 77 [.ref 20] (DB o i0 i1 ext) M (DB o i0 i1 ext) (fun v2 M1 => (v2 ≤ x6 → T (d + 1) Q (121, 38, [some (.ref 20), none, some (.int x2), some (.int x3), some (.int x4), some (.int (x5 + (nI 1))), none], [], (DB o i0 i1 ext), M1)) ∧ (¬ v2 ≤ x6 → CI d 101 [.int x5, .int x6] (DB o i0 i1 ext) M1 (DB o i0 i1 ext) (fun v5 M4 => (vp_in v5 1048576) ∧ (T (d + 1) Q (121, 53, [some (.ref 20), none, some (.int x2), some (.int x3), some (.int (x4 + (M4 24 v5.toNatClampNeg))), some (.int x5), some (.int (x6 + (nI 1)))], [], (DB o i0 i1 ext), M4)))))) : T (d + 1) Q (121, 53, [some (.ref 20), none, some (.int x2), some (.int x3), some (.int x4), some (.int x5), some (.int x6)], [], (DB o i0 i1 ext), M) := by
  refine T_run 2 (121, 55, [some (.ref 20), none, some (.int x2), some (.int x3), some (.int x4), some (.int x5), some (.int x6)], [.ref 20, .int x6], (DB o i0 i1 ext), M) rfl ?_
  refine T_callI (D' := (DB o i0 i1 ext)) rfl (CI_mono h (fun v2 M1 h => ?_))
  refine T_br (v2 ≤ x6) (121, 68, [some (.ref 20), none, some (.int x2), some (.int x3), some (.int x4), some (.int x5), some (.int x6)], [], (DB o i0 i1 ext), M1) (121, 57, [some (.ref 20), none, some (.int x2), some (.int x3), some (.int x4), some (.int x5), some (.int x6)], [], (DB o i0 i1 ext), M1) rfl (fun hc3 => ?_) (fun hc3 => ?_)
  · have h := h.1 hc3
    refine T_run 2 (121, 38, [some (.ref 20), none, some (.int x2), some (.int x3), some (.int x4), some (.int (x5 + (nI 1))), some (.int x6)], [], (DB o i0 i1 ext), M1) rfl ?_
    exact T_le (a_le_1 (a_le_1 (a_le_1 (a_le_1 (a_le_1 (a_le_1 (a_le_2 rfl a_le_n))))))) h
  · have h := h.2 hc3
    refine T_run 5 (121, 62, [some (.ref 20), none, some (.int x2), some (.int x3), some (.int x4), some (.int x5), some (.int x6)], [.int x6, .int x5, .ref 24, .int x4], (DB o i0 i1 ext), M1) rfl ?_
    refine T_callI (D' := (DB o i0 i1 ext)) rfl (CI_mono h (fun v5 M4 h => ?_))
    refine T_gd (v5 < 0 ∨ 1048576 ≤ v5.toNatClampNeg) (121, 64, [some (.ref 20), none, some (.int x2), some (.int x3), some (.int x4), some (.int x5), some (.int x6)], [.int (M4 24 v5.toNatClampNeg), .int x4], (DB o i0 i1 ext), M4) rfl h.1 ?_
    have h := h.2
    refine T_run 4 (121, 53, [some (.ref 20), none, some (.int x2), some (.int x3), some (.int (x4 + (M4 24 v5.toNatClampNeg))), some (.int x5), some (.int (x6 + (nI 1)))], [], (DB o i0 i1 ext), M4) rfl ?_
    exact h
set_option maxRecDepth 100000 in
theorem b_X5_drawn_0 {d : Nat} {Q : ARs → Prop} {o i0 i1 : Option Nat} {ext : ADd} {M : AMm} (x1 : Int32) (x2 : Int32) (h : CI d 74 [.long x1.toInt64, .long (lN 0), .long (lN 9999)] (DB o i0 i1 ext) M (DB o i0 i1 ext) (fun v2 M1 => (v2 = 0 → Q (some (.int (-(nI 2))), (DB o i0 i1 ext), M1)) ∧ (¬ v2 = 0 → CI d 74 [.long x2.toInt64, .long (lN 0), .long (lN 1)] (DB o i0 i1 ext) M1 (DB o i0 i1 ext) (fun v5 M4 => (v5 = 0 → Q (some (.int (-(nI 2))), (DB o i0 i1 ext), M4)) ∧ (¬ v5 = 0 → T (d + 1) Q (122, 24, [some (.ref 20), none, some (.int x2), some (.int ((nI 1) <<< ((M4 20 3) &&& 31))), some (.int (M4 20 3)), some (.int x1), none, none, none], [], (DB o i0 i1 ext), M4)))))) : T (d + 1) Q (ent 122 [.ref 20, .int x1, .int x2] (DB o i0 i1 ext) M) := by
  refine T_run 4 (122, 4, [some (.ref 20), some (.int x1), some (.int x2), none, none, none, none, none, none], [.long (lN 9999), .long (lN 0), .long x1.toInt64], (DB o i0 i1 ext), M) rfl ?_
  refine T_callI (D' := (DB o i0 i1 ext)) rfl (CI_mono h (fun v2 M1 h => ?_))
  refine T_br (v2 = 0) (122, 12, [some (.ref 20), some (.int x1), some (.int x2), none, none, none, none, none, none], [], (DB o i0 i1 ext), M1) (122, 6, [some (.ref 20), some (.int x1), some (.int x2), none, none, none, none, none, none], [], (DB o i0 i1 ext), M1) rfl (fun hc3 => ?_) (fun hc3 => ?_)
  · have h := h.1 hc3
    refine T_run 1 (122, 13, [some (.ref 20), some (.int x1), some (.int x2), none, none, none, none, none, none], [.int (-(nI 2))], (DB o i0 i1 ext), M1) rfl ?_
    exact T_ret rfl h
  · have h := h.2 hc3
    refine T_run 4 (122, 10, [some (.ref 20), some (.int x1), some (.int x2), none, none, none, none, none, none], [.long (lN 1), .long (lN 0), .long x2.toInt64], (DB o i0 i1 ext), M1) rfl ?_
    refine T_callI (D' := (DB o i0 i1 ext)) rfl (CI_mono h (fun v5 M4 h => ?_))
    refine T_br (v5 = 0) (122, 12, [some (.ref 20), some (.int x1), some (.int x2), none, none, none, none, none, none], [], (DB o i0 i1 ext), M4) (122, 14, [some (.ref 20), some (.int x1), some (.int x2), none, none, none, none, none, none], [], (DB o i0 i1 ext), M4) rfl (fun hc6 => ?_) (fun hc6 => ?_)
    · have h := h.1 hc6
      refine T_run 1 (122, 13, [some (.ref 20), some (.int x1), some (.int x2), none, none, none, none, none, none], [.int (-(nI 2))], (DB o i0 i1 ext), M4) rfl ?_
      exact T_ret rfl h
    · have h := h.2 hc6
      refine T_run 10 (122, 24, [some (.ref 20), some (.int x1), some (.int x2), some (.int ((nI 1) <<< ((M4 20 3) &&& 31))), some (.int (M4 20 3)), some (.int x1), none, none, none], [], (DB o i0 i1 ext), M4) rfl ?_
      exact T_le (a_le_1 (a_le_2 rfl (a_le_1 (a_le_1 (a_le_1 (a_le_1 (a_le_1 (a_le_1 (a_le_1 a_le_n))))))))) h
set_option maxRecDepth 100000 in
theorem b_X5_drawn_24 {d : Nat} {Q : ARs → Prop} {o i0 i1 : Option Nat} {ext : ADd} {M : AMm} (x2 : Int32) (x3 : Int32) (x4 : Int32) (x5 : Int32) (h : CI d 94 [.ref 20, .int x3, .int x4] (DB o i0 i1 ext) M (DB o i0 i1 ext) (fun v2 M1 => (v2 = 0 → T (d + 1) Q (122, 43, [some (.ref 20), none, some (.int x2), some (.int x3), some (.int x4), some (.int (((((lN 75) * x5.toInt64) + (lN 74)) - (((lN 75) * x5.toInt64) + (lN 74)) / (lN 65537) * (lN 65537)).toInt32)), some (.int (nI 0)), some (.int (nI 0)), none], [], (DB o i0 i1 ext), M1)) ∧ (¬ v2 = 0 → (x2 = 0 → CI d 75 [.int x3] (DB o i0 i1 ext) M1 (DB o i0 i1 ext) (fun v6 M5 => Q (some (.int v6), (DB o i0 i1 ext), M5))) ∧ (¬ x2 = 0 → Q (some (.int x4), (DB o i0 i1 ext), M1))))) : T (d + 1) Q (122, 24, [some (.ref 20), none, some (.int x2), some (.int x3), some (.int x4), some (.int x5), none, none, none], [], (DB o i0 i1 ext), M) := by
  refine T_run 3 (122, 27, [some (.ref 20), none, some (.int x2), some (.int x3), some (.int x4), some (.int x5), none, none, none], [.int x4, .int x3, .ref 20], (DB o i0 i1 ext), M) rfl ?_
  refine T_callI (D' := (DB o i0 i1 ext)) rfl (CI_mono h (fun v2 M1 h => ?_))
  refine T_br (v2 = 0) (122, 29, [some (.ref 20), none, some (.int x2), some (.int x3), some (.int x4), some (.int x5), none, none, none], [], (DB o i0 i1 ext), M1) (122, 101, [some (.ref 20), none, some (.int x2), some (.int x3), some (.int x4), some (.int x5), none, none, none], [], (DB o i0 i1 ext), M1) rfl (fun hc3 => ?_) (fun hc3 => ?_)
  · have h := h.1 hc3
    refine T_run 7 (122, 36, [some (.ref 20), none, some (.int x2), some (.int x3), some (.int x4), some (.int x5), none, none, none], [.long (lN 65537), .long (((lN 75) * x5.toInt64) + (lN 74))], (DB o i0 i1 ext), M1) rfl ?_
    refine T_gd ((lN 65537) = 0) (122, 37, [some (.ref 20), none, some (.int x2), some (.int x3), some (.int x4), some (.int x5), none, none, none], [.long ((((lN 75) * x5.toInt64) + (lN 74)) - (((lN 75) * x5.toInt64) + (lN 74)) / (lN 65537) * (lN 65537))], (DB o i0 i1 ext), M1) rfl (by decide) ?_
    refine T_run 6 (122, 43, [some (.ref 20), none, some (.int x2), some (.int x3), some (.int x4), some (.int (((((lN 75) * x5.toInt64) + (lN 74)) - (((lN 75) * x5.toInt64) + (lN 74)) / (lN 65537) * (lN 65537)).toInt32)), some (.int (nI 0)), some (.int (nI 0)), none], [], (DB o i0 i1 ext), M1) rfl ?_
    exact h
  · have h := h.2 hc3
    refine T_run 1 (122, 102, [some (.ref 20), none, some (.int x2), some (.int x3), some (.int x4), some (.int x5), none, none, none], [.int x2], (DB o i0 i1 ext), M1) rfl ?_
    refine T_br (x2 = 0) (122, 103, [some (.ref 20), none, some (.int x2), some (.int x3), some (.int x4), some (.int x5), none, none, none], [], (DB o i0 i1 ext), M1) (122, 106, [some (.ref 20), none, some (.int x2), some (.int x3), some (.int x4), some (.int x5), none, none, none], [], (DB o i0 i1 ext), M1) rfl (fun hc4 => ?_) (fun hc4 => ?_)
    · have h := h.1 hc4
      refine T_run 1 (122, 104, [some (.ref 20), none, some (.int x2), some (.int x3), some (.int x4), some (.int x5), none, none, none], [.int x3], (DB o i0 i1 ext), M1) rfl ?_
      refine T_callI (D' := (DB o i0 i1 ext)) rfl (CI_mono h (fun v6 M5 h => ?_))
      refine T_run 1 (122, 107, [some (.ref 20), none, some (.int x2), some (.int x3), some (.int x4), some (.int x5), none, none, none], [.int v6], (DB o i0 i1 ext), M5) rfl ?_
      exact T_ret rfl h
    · have h := h.2 hc4
      refine T_run 1 (122, 107, [some (.ref 20), none, some (.int x2), some (.int x3), some (.int x4), some (.int x5), none, none, none], [.int x4], (DB o i0 i1 ext), M1) rfl ?_
      exact T_ret rfl h
set_option maxRecDepth 100000 in
theorem b_X5_drawn_43 {d : Nat} {Q : ARs → Prop} {o i0 i1 : Option Nat} {ext : ADd} {M : AMm} (x2 : Int32) (x3 : Int32) (x4 : Int32) (x5 : Int32) (x6 : Int32) (x7 : Int32) (h : ((nI 4) ≤ x7 → (¬ x6 = 0) ∧ (T (d + 1) Q (122, 66, [some (.ref 20), none, some (.int x2), some (.int x3), some (.int x4), some (.int x5), none, some (.int (x5 - x5 / x6 * x6)), some (.int (nI 0))], [], (DB o i0 i1 ext), M))) ∧ (¬ (nI 4) ≤ x7 → CI d 93 [.ref 20, .int x3, .int x4, .int x7] (DB o i0 i1 ext) M (DB o i0 i1 ext) (fun v3 M2 => (v3 < 0 → T (d + 1) Q (122, 43, [some (.ref 20), none, some (.int x2), some (.int x3), some (.int x4), some (.int x5), some (.int (x6 + (nI 0))), some (.int (x7 + (nI 1))), none], [], (DB o i0 i1 ext), M2)) ∧ (¬ v3 < 0 → T (d + 1) Q (122, 43, [some (.ref 20), none, some (.int x2), some (.int x3), some (.int x4), some (.int x5), some (.int (x6 + (nI 1))), some (.int (x7 + (nI 1))), none], [], (DB o i0 i1 ext), M2))))) : T (d + 1) Q (122, 43, [some (.ref 20), none, some (.int x2), some (.int x3), some (.int x4), some (.int x5), some (.int x6), some (.int x7), none], [], (DB o i0 i1 ext), M) := by
  refine T_run 2 (122, 45, [some (.ref 20), none, some (.int x2), some (.int x3), some (.int x4), some (.int x5), some (.int x6), some (.int x7), none], [.int (nI 4), .int x7], (DB o i0 i1 ext), M) rfl ?_
  refine T_br ((nI 4) ≤ x7) (122, 60, [some (.ref 20), none, some (.int x2), some (.int x3), some (.int x4), some (.int x5), some (.int x6), some (.int x7), none], [], (DB o i0 i1 ext), M) (122, 46, [some (.ref 20), none, some (.int x2), some (.int x3), some (.int x4), some (.int x5), some (.int x6), some (.int x7), none], [], (DB o i0 i1 ext), M) rfl (fun hc1 => ?_) (fun hc1 => ?_)
  · have h := h.1 hc1
    refine T_run 2 (122, 62, [some (.ref 20), none, some (.int x2), some (.int x3), some (.int x4), some (.int x5), some (.int x6), some (.int x7), none], [.int x6, .int x5], (DB o i0 i1 ext), M) rfl ?_
    refine T_gd (x6 = 0) (122, 63, [some (.ref 20), none, some (.int x2), some (.int x3), some (.int x4), some (.int x5), some (.int x6), some (.int x7), none], [.int (x5 - x5 / x6 * x6)], (DB o i0 i1 ext), M) rfl h.1 ?_
    have h := h.2
    refine T_run 3 (122, 66, [some (.ref 20), none, some (.int x2), some (.int x3), some (.int x4), some (.int x5), some (.int x6), some (.int (x5 - x5 / x6 * x6)), some (.int (nI 0))], [], (DB o i0 i1 ext), M) rfl ?_
    exact T_le (a_le_1 (a_le_1 (a_le_1 (a_le_1 (a_le_1 (a_le_1 (a_le_2 rfl (a_le_1 (a_le_1 a_le_n))))))))) h
  · have h := h.2 hc1
    refine T_run 5 (122, 51, [some (.ref 20), none, some (.int x2), some (.int x3), some (.int x4), some (.int x5), some (.int x6), some (.int x7), none], [.int x7, .int x4, .int x3, .ref 20, .int x6], (DB o i0 i1 ext), M) rfl ?_
    refine T_callI (D' := (DB o i0 i1 ext)) rfl (CI_mono h (fun v3 M2 h => ?_))
    refine T_br (v3 < 0) (122, 55, [some (.ref 20), none, some (.int x2), some (.int x3), some (.int x4), some (.int x5), some (.int x6), some (.int x7), none], [.int x6], (DB o i0 i1 ext), M2) (122, 53, [some (.ref 20), none, some (.int x2), some (.int x3), some (.int x4), some (.int x5), some (.int x6), some (.int x7), none], [.int x6], (DB o i0 i1 ext), M2) rfl (fun hc4 => ?_) (fun hc4 => ?_)
    · have h := h.1 hc4
      refine T_run 5 (122, 43, [some (.ref 20), none, some (.int x2), some (.int x3), some (.int x4), some (.int x5), some (.int (x6 + (nI 0))), some (.int (x7 + (nI 1))), none], [], (DB o i0 i1 ext), M2) rfl ?_
      exact h
    · have h := h.2 hc4
      refine T_run 6 (122, 43, [some (.ref 20), none, some (.int x2), some (.int x3), some (.int x4), some (.int x5), some (.int (x6 + (nI 1))), some (.int (x7 + (nI 1))), none], [], (DB o i0 i1 ext), M2) rfl ?_
      exact h
set_option maxRecDepth 100000 in
theorem b_X5_drawn_66 {d : Nat} {Q : ARs → Prop} {o i0 i1 : Option Nat} {ext : ADd} {M : AMm} (x2 : Int32) (x3 : Int32) (x4 : Int32) (x5 : Int32) (x7 : Int32) (x8 : Int32) (h : CI d 93 [.ref 20, .int x3, .int x4, .int x8] (DB o i0 i1 ext) M (DB o i0 i1 ext) (fun v2 M1 => (v2 < 0 → CI d 93 [.ref 20, .int x3, .int x4, .int x8] (DB o i0 i1 ext) M1 (DB o i0 i1 ext) (fun v5 M4 => (v5 < 0 → T (d + 1) Q (122, 66, [some (.ref 20), none, some (.int x2), some (.int x3), some (.int x4), some (.int x5), none, some (.int (x7 - (nI 0))), some (.int (x8 + (nI 1)))], [], (DB o i0 i1 ext), M4)) ∧ (¬ v5 < 0 → T (d + 1) Q (122, 66, [some (.ref 20), none, some (.int x2), some (.int x3), some (.int x4), some (.int x5), none, some (.int (x7 - (nI 1))), some (.int (x8 + (nI 1)))], [], (DB o i0 i1 ext), M4)))) ∧ (¬ v2 < 0 → (x7 ≤ 0 → CI d 93 [.ref 20, .int x3, .int x4, .int x8] (DB o i0 i1 ext) M1 (DB o i0 i1 ext) (fun v9 M8 => T (d + 1) Q (122, 24, [some (.ref 20), none, some (.int x2), some (.int (x3 ||| ((nI 1) <<< (v9 &&& 31)))), some (.int v9), some (.int x5), none, none, none], [], (DB o i0 i1 ext), M8))) ∧ (¬ x7 ≤ 0 → CI d 93 [.ref 20, .int x3, .int x4, .int x8] (DB o i0 i1 ext) M1 (DB o i0 i1 ext) (fun v11 M10 => (v11 < 0 → T (d + 1) Q (122, 66, [some (.ref 20), none, some (.int x2), some (.int x3), some (.int x4), some (.int x5), none, some (.int (x7 - (nI 0))), some (.int (x8 + (nI 1)))], [], (DB o i0 i1 ext), M10)) ∧ (¬ v11 < 0 → T (d + 1) Q (122, 66, [some (.ref 20), none, some (.int x2), some (.int x3), some (.int x4), some (.int x5), none, some (.int (x7 - (nI 1))), some (.int (x8 + (nI 1)))], [], (DB o i0 i1 ext), M10))))))) : T (d + 1) Q (122, 66, [some (.ref 20), none, some (.int x2), some (.int x3), some (.int x4), some (.int x5), none, some (.int x7), some (.int x8)], [], (DB o i0 i1 ext), M) := by
  refine T_run 4 (122, 70, [some (.ref 20), none, some (.int x2), some (.int x3), some (.int x4), some (.int x5), none, some (.int x7), some (.int x8)], [.int x8, .int x4, .int x3, .ref 20], (DB o i0 i1 ext), M) rfl ?_
  refine T_callI (D' := (DB o i0 i1 ext)) rfl (CI_mono h (fun v2 M1 h => ?_))
  refine T_br (v2 < 0) (122, 74, [some (.ref 20), none, some (.int x2), some (.int x3), some (.int x4), some (.int x5), none, some (.int x7), some (.int x8)], [], (DB o i0 i1 ext), M1) (122, 72, [some (.ref 20), none, some (.int x2), some (.int x3), some (.int x4), some (.int x5), none, some (.int x7), some (.int x8)], [], (DB o i0 i1 ext), M1) rfl (fun hc3 => ?_) (fun hc3 => ?_)
  · have h := h.1 hc3
    refine T_run 5 (122, 79, [some (.ref 20), none, some (.int x2), some (.int x3), some (.int x4), some (.int x5), none, some (.int x7), some (.int x8)], [.int x8, .int x4, .int x3, .ref 20, .int x7], (DB o i0 i1 ext), M1) rfl ?_
    refine T_callI (D' := (DB o i0 i1 ext)) rfl (CI_mono h (fun v5 M4 h => ?_))
    refine T_br (v5 < 0) (122, 83, [some (.ref 20), none, some (.int x2), some (.int x3), some (.int x4), some (.int x5), none, some (.int x7), some (.int x8)], [.int x7], (DB o i0 i1 ext), M4) (122, 81, [some (.ref 20), none, some (.int x2), some (.int x3), some (.int x4), some (.int x5), none, some (.int x7), some (.int x8)], [.int x7], (DB o i0 i1 ext), M4) rfl (fun hc6 => ?_) (fun hc6 => ?_)
    · have h := h.1 hc6
      refine T_run 5 (122, 66, [some (.ref 20), none, some (.int x2), some (.int x3), some (.int x4), some (.int x5), none, some (.int (x7 - (nI 0))), some (.int (x8 + (nI 1)))], [], (DB o i0 i1 ext), M4) rfl ?_
      exact h
    · have h := h.2 hc6
      refine T_run 6 (122, 66, [some (.ref 20), none, some (.int x2), some (.int x3), some (.int x4), some (.int x5), none, some (.int (x7 - (nI 1))), some (.int (x8 + (nI 1)))], [], (DB o i0 i1 ext), M4) rfl ?_
      exact h
  · have h := h.2 hc3
    refine T_run 1 (122, 73, [some (.ref 20), none, some (.int x2), some (.int x3), some (.int x4), some (.int x5), none, some (.int x7), some (.int x8)], [.int x7], (DB o i0 i1 ext), M1) rfl ?_
    refine T_br (x7 ≤ 0) (122, 88, [some (.ref 20), none, some (.int x2), some (.int x3), some (.int x4), some (.int x5), none, some (.int x7), some (.int x8)], [], (DB o i0 i1 ext), M1) (122, 74, [some (.ref 20), none, some (.int x2), some (.int x3), some (.int x4), some (.int x5), none, some (.int x7), some (.int x8)], [], (DB o i0 i1 ext), M1) rfl (fun hc7 => ?_) (fun hc7 => ?_)
    · have h := h.1 hc7
      refine T_run 4 (122, 92, [some (.ref 20), none, some (.int x2), some (.int x3), some (.int x4), some (.int x5), none, some (.int x7), some (.int x8)], [.int x8, .int x4, .int x3, .ref 20], (DB o i0 i1 ext), M1) rfl ?_
      refine T_callI (D' := (DB o i0 i1 ext)) rfl (CI_mono h (fun v9 M8 h => ?_))
      refine T_run 8 (122, 24, [some (.ref 20), none, some (.int x2), some (.int (x3 ||| ((nI 1) <<< (v9 &&& 31)))), some (.int v9), some (.int x5), none, some (.int x7), some (.int x8)], [], (DB o i0 i1 ext), M8) rfl ?_
      exact T_le (a_le_1 (a_le_1 (a_le_1 (a_le_1 (a_le_1 (a_le_1 (a_le_1 (a_le_2 rfl (a_le_2 rfl a_le_n))))))))) h
    · have h := h.2 hc7
      refine T_run 5 (122, 79, [some (.ref 20), none, some (.int x2), some (.int x3), some (.int x4), some (.int x5), none, some (.int x7), some (.int x8)], [.int x8, .int x4, .int x3, .ref 20, .int x7], (DB o i0 i1 ext), M1) rfl ?_
      refine T_callI (D' := (DB o i0 i1 ext)) rfl (CI_mono h (fun v11 M10 h => ?_))
      refine T_br (v11 < 0) (122, 83, [some (.ref 20), none, some (.int x2), some (.int x3), some (.int x4), some (.int x5), none, some (.int x7), some (.int x8)], [.int x7], (DB o i0 i1 ext), M10) (122, 81, [some (.ref 20), none, some (.int x2), some (.int x3), some (.int x4), some (.int x5), none, some (.int x7), some (.int x8)], [.int x7], (DB o i0 i1 ext), M10) rfl (fun hc12 => ?_) (fun hc12 => ?_)
      · have h := h.1 hc12
        refine T_run 5 (122, 66, [some (.ref 20), none, some (.int x2), some (.int x3), some (.int x4), some (.int x5), none, some (.int (x7 - (nI 0))), some (.int (x8 + (nI 1)))], [], (DB o i0 i1 ext), M10) rfl ?_
        exact h
      · have h := h.2 hc12
        refine T_run 6 (122, 66, [some (.ref 20), none, some (.int x2), some (.int x3), some (.int x4), some (.int x5), none, some (.int (x7 - (nI 1))), some (.int (x8 + (nI 1)))], [], (DB o i0 i1 ext), M10) rfl ?_
        exact h
set_option maxRecDepth 100000 in
theorem b_X5_pass_0 {d : Nat} {Q : ARs → Prop} {o i0 i1 : Option Nat} {ext : ADd} {M : AMm} (x1 : Int32) (h : ((M 20 20) = 0 → (vp_in (M 20 19) 60) ∧ ((vp_in (M 20 19) 60) ∧ (Q (some (.int (M 27 ((M 20 19).toNatClampNeg))), (DB o i0 i1 ext), (ms (ms M 27 ((M 20 19).toNatClampNeg) (M 27 ((M 20 19).toNatClampNeg))) 20 19 ((M 20 19) + (nI 1))))))) ∧ (¬ (M 20 20) = 0 → (vp_in (M 20 19) 60) ∧ (Q (some (.int x1), (DB o i0 i1 ext), (ms (ms M 27 ((M 20 19).toNatClampNeg) x1) 20 19 ((M 20 19) + (nI 1))))))) : T d Q (ent 123 [.ref 20, .int x1] (DB o i0 i1 ext) M) := by
  refine T_run 2 (123, 2, [some (.ref 20), some (.int x1), none], [.int (M 20 20)], (DB o i0 i1 ext), M) rfl ?_
  refine T_br ((M 20 20) = 0) (123, 5, [some (.ref 20), some (.int x1), none], [], (DB o i0 i1 ext), M) (123, 3, [some (.ref 20), some (.int x1), none], [], (DB o i0 i1 ext), M) rfl (fun hc1 => ?_) (fun hc1 => ?_)
  · have h := h.1 hc1
    refine T_run 4 (123, 9, [some (.ref 20), some (.int x1), none], [.int (M 20 19), .ref 27], (DB o i0 i1 ext), M) rfl ?_
    refine T_gd ((M 20 19) < 0 ∨ 60 ≤ (M 20 19).toNatClampNeg) (123, 10, [some (.ref 20), some (.int x1), none], [.int (M 27 ((M 20 19).toNatClampNeg))], (DB o i0 i1 ext), M) rfl h.1 ?_
    have h := h.2
    refine T_run 6 (123, 16, [some (.ref 20), some (.int x1), some (.int (M 27 ((M 20 19).toNatClampNeg)))], [.int (M 27 ((M 20 19).toNatClampNeg)), .int (M 20 19), .ref 27], (DB o i0 i1 ext), M) rfl ?_
    refine T_gd ((M 20 19) < 0 ∨ 60 ≤ (M 20 19).toNatClampNeg) (123, 17, [some (.ref 20), some (.int x1), some (.int (M 27 ((M 20 19).toNatClampNeg)))], [], (DB o i0 i1 ext), (ms M 27 ((M 20 19).toNatClampNeg) (M 27 ((M 20 19).toNatClampNeg)))) rfl h.1 ?_
    have h := h.2
    refine T_run 7 (123, 24, [some (.ref 20), some (.int x1), some (.int (M 27 ((M 20 19).toNatClampNeg)))], [.int (M 27 ((M 20 19).toNatClampNeg))], (DB o i0 i1 ext), (ms (ms M 27 ((M 20 19).toNatClampNeg) (M 27 ((M 20 19).toNatClampNeg))) 20 19 ((M 20 19) + (nI 1)))) rfl ?_
    exact T_ret rfl h
  · have h := h.2 hc1
    refine T_run 8 (123, 16, [some (.ref 20), some (.int x1), some (.int x1)], [.int x1, .int (M 20 19), .ref 27], (DB o i0 i1 ext), M) rfl ?_
    refine T_gd ((M 20 19) < 0 ∨ 60 ≤ (M 20 19).toNatClampNeg) (123, 17, [some (.ref 20), some (.int x1), some (.int x1)], [], (DB o i0 i1 ext), (ms M 27 ((M 20 19).toNatClampNeg) x1)) rfl h.1 ?_
    have h := h.2
    refine T_run 7 (123, 24, [some (.ref 20), some (.int x1), some (.int x1)], [.int x1], (DB o i0 i1 ext), (ms (ms M 27 ((M 20 19).toNatClampNeg) x1) 20 19 ((M 20 19) + (nI 1)))) rfl ?_
    exact T_ret rfl h
set_option maxRecDepth 100000 in
theorem b_X5_passAll_0 {d : Nat} {Q : ARs → Prop} {o i0 i1 : Option Nat} {ext : ADd} {M : AMm}  (h : CI d 123 [.ref 20, .int (M 20 0)] (DB o i0 i1 ext) M (DB o i0 i1 ext) (fun v2 M1 => CI d 123 [.ref 20, .int (M1 20 1)] (DB o i0 i1 ext) (ms M1 20 0 v2) (DB o i0 i1 ext) (fun v4 M3 => CI d 123 [.ref 20, .int (M3 20 3)] (DB o i0 i1 ext) (ms M3 20 1 v4) (DB o i0 i1 ext) (fun v6 M5 => CI d 123 [.ref 20, .int (M5 20 4)] (DB o i0 i1 ext) (ms M5 20 3 v6) (DB o i0 i1 ext) (fun v8 M7 => T (d + 1) Q (124, 26, [some (.ref 20), some (.int (nI 0))], [], (DB o i0 i1 ext), (ms M7 20 4 v8))))))) : T (d + 1) Q (ent 124 [.ref 20] (DB o i0 i1 ext) M) := by
  refine T_run 4 (124, 4, [some (.ref 20), none], [.int (M 20 0), .ref 20, .ref 20], (DB o i0 i1 ext), M) rfl ?_
  refine T_callI (D' := (DB o i0 i1 ext)) rfl (CI_mono h (fun v2 M1 h => ?_))
  refine T_run 5 (124, 10, [some (.ref 20), none], [.int (M1 20 1), .ref 20, .ref 20], (DB o i0 i1 ext), (ms M1 20 0 v2)) rfl ?_
  refine T_callI (D' := (DB o i0 i1 ext)) rfl (CI_mono h (fun v4 M3 h => ?_))
  refine T_run 5 (124, 16, [some (.ref 20), none], [.int (M3 20 3), .ref 20, .ref 20], (DB o i0 i1 ext), (ms M3 20 1 v4)) rfl ?_
  refine T_callI (D' := (DB o i0 i1 ext)) rfl (CI_mono h (fun v6 M5 h => ?_))
  refine T_run 5 (124, 22, [some (.ref 20), none], [.int (M5 20 4), .ref 20, .ref 20], (DB o i0 i1 ext), (ms M5 20 3 v6)) rfl ?_
  refine T_callI (D' := (DB o i0 i1 ext)) rfl (CI_mono h (fun v8 M7 h => ?_))
  refine T_run 3 (124, 26, [some (.ref 20), some (.int (nI 0))], [], (DB o i0 i1 ext), (ms M7 20 4 v8)) rfl ?_
  exact h
set_option maxRecDepth 100000 in
theorem b_X5_passAll_26 {d : Nat} {Q : ARs → Prop} {o i0 i1 : Option Nat} {ext : ADd} {M : AMm} (x1 : Int32) (h : ((nI 16) ≤ x1 → Q (none, (DB o i0 i1 ext), M)) ∧ (¬ (nI 16) ≤ x1 → (vp_in x1 16) ∧ (CI d 123 [.ref 20, .int (M 21 x1.toNatClampNeg)] (DB o i0 i1 ext) M (DB o i0 i1 ext) (fun v3 M2 => (vp_in x1 16) ∧ (T (d + 1) Q (124, 26, [some (.ref 20), some (.int (x1 + (nI 1)))], [], (DB o i0 i1 ext), (ms M2 21 x1.toNatClampNeg v3))))))) : T (d + 1) Q (124, 26, [some (.ref 20), some (.int x1)], [], (DB o i0 i1 ext), M) := by
  refine T_run 2 (124, 28, [some (.ref 20), some (.int x1)], [.int (nI 16), .int x1], (DB o i0 i1 ext), M) rfl ?_
  refine T_br ((nI 16) ≤ x1) (124, 41, [some (.ref 20), some (.int x1)], [], (DB o i0 i1 ext), M) (124, 29, [some (.ref 20), some (.int x1)], [], (DB o i0 i1 ext), M) rfl (fun hc1 => ?_) (fun hc1 => ?_)
  · have h := h.1 hc1
    exact T_ret rfl h
  · have h := h.2 hc1
    refine T_run 7 (124, 36, [some (.ref 20), some (.int x1)], [.int x1, .ref 21, .ref 20, .int x1, .ref 21], (DB o i0 i1 ext), M) rfl ?_
    refine T_gd (x1 < 0 ∨ 16 ≤ x1.toNatClampNeg) (124, 37, [some (.ref 20), some (.int x1)], [.int (M 21 x1.toNatClampNeg), .ref 20, .int x1, .ref 21], (DB o i0 i1 ext), M) rfl h.1 ?_
    have h := h.2
    refine T_callI (D' := (DB o i0 i1 ext)) rfl (CI_mono h (fun v3 M2 h => ?_))
    refine T_gd (x1 < 0 ∨ 16 ≤ x1.toNatClampNeg) (124, 39, [some (.ref 20), some (.int x1)], [], (DB o i0 i1 ext), (ms M2 21 x1.toNatClampNeg v3)) rfl h.1 ?_
    have h := h.2
    refine T_run 2 (124, 26, [some (.ref 20), some (.int (x1 + (nI 1)))], [], (DB o i0 i1 ext), (ms M2 21 x1.toNatClampNeg v3)) rfl ?_
    exact h
set_option maxRecDepth 100000 in
theorem b_X5_image_0 {d : Nat} {Q : ARs → Prop} {o i0 i1 : Option Nat} {ext : ADd} {M : AMm} (x1 : Int32) (h : CI d 74 [.long x1.toInt64, .long (lN 0), .long (lN 1)] (DB o i0 i1 ext) M (DB o i0 i1 ext) (fun v2 M1 => (v2 = 0 → Q (some (.int (-(nI 2))), (DB o i0 i1 ext), M1)) ∧ (¬ v2 = 0 → CV d 124 [.ref 20] (DB o i0 i1 ext) (ms (ms M1 20 19 ((nI 30) * x1)) 20 20 (nI 1)) (DB o i0 i1 ext) (fun M4 => (vp_in x1 2) ∧ (Q (some (.int (nI 1)), (DB o i0 i1 ext), (ms M4 28 x1.toNatClampNeg (nI 1)))))))) : T (d + 1) Q (ent 125 [.ref 20, .int x1] (DB o i0 i1 ext) M) := by
  refine T_run 4 (125, 4, [some (.ref 20), some (.int x1)], [.long (lN 1), .long (lN 0), .long x1.toInt64], (DB o i0 i1 ext), M) rfl ?_
  refine T_callI (D' := (DB o i0 i1 ext)) rfl (CI_mono h (fun v2 M1 h => ?_))
  refine T_br (v2 = 0) (125, 6, [some (.ref 20), some (.int x1)], [], (DB o i0 i1 ext), M1) (125, 8, [some (.ref 20), some (.int x1)], [], (DB o i0 i1 ext), M1) rfl (fun hc3 => ?_) (fun hc3 => ?_)
  · have h := h.1 hc3
    refine T_run 1 (125, 7, [some (.ref 20), some (.int x1)], [.int (-(nI 2))], (DB o i0 i1 ext), M1) rfl ?_
    exact T_ret rfl h
  · have h := h.2 hc3
    refine T_run 9 (125, 17, [some (.ref 20), some (.int x1)], [.ref 20], (DB o i0 i1 ext), (ms (ms M1 20 19 ((nI 30) * x1)) 20 20 (nI 1))) rfl ?_
    refine T_callV (D' := (DB o i0 i1 ext)) rfl (CV_mono h (fun M4 h => ?_))
    refine T_run 4 (125, 22, [some (.ref 20), some (.int x1)], [.int (nI 1), .int x1, .ref 28], (DB o i0 i1 ext), M4) rfl ?_
    refine T_gd (x1 < 0 ∨ 2 ≤ x1.toNatClampNeg) (125, 23, [some (.ref 20), some (.int x1)], [], (DB o i0 i1 ext), (ms M4 28 x1.toNatClampNeg (nI 1))) rfl h.1 ?_
    have h := h.2
    refine T_run 1 (125, 24, [some (.ref 20), some (.int x1)], [.int (nI 1)], (DB o i0 i1 ext), (ms M4 28 x1.toNatClampNeg (nI 1))) rfl ?_
    exact T_ret rfl h
set_option maxRecDepth 100000 in
theorem b_X5_restore_0 {d : Nat} {Q : ARs → Prop} {o i0 i1 : Option Nat} {ext : ADd} {M : AMm} (x1 : Int32) (h : CI d 74 [.long x1.toInt64, .long (lN 0), .long (lN 1)] (DB o i0 i1 ext) M (DB o i0 i1 ext) (fun v2 M1 => (v2 = 0 → Q (some (.int (-(nI 2))), (DB o i0 i1 ext), M1)) ∧ (¬ v2 = 0 → (vp_in x1 2) ∧ (((M1 28 x1.toNatClampNeg) = 0 → Q (some (.int (-(nI 3))), (DB o i0 i1 ext), M1)) ∧ (¬ (M1 28 x1.toNatClampNeg) = 0 → CV d 124 [.ref 20] (DB o i0 i1 ext) (ms (ms M1 20 19 ((nI 30) * x1)) 20 20 (nI 0)) (DB o i0 i1 ext) (fun M5 => Q (some (.int (nI 1)), (DB o i0 i1 ext), M5))))))) : T (d + 1) Q (ent 126 [.ref 20, .int x1] (DB o i0 i1 ext) M) := by
  refine T_run 4 (126, 4, [some (.ref 20), some (.int x1)], [.long (lN 1), .long (lN 0), .long x1.toInt64], (DB o i0 i1 ext), M) rfl ?_
  refine T_callI (D' := (DB o i0 i1 ext)) rfl (CI_mono h (fun v2 M1 h => ?_))
  refine T_br (v2 = 0) (126, 6, [some (.ref 20), some (.int x1)], [], (DB o i0 i1 ext), M1) (126, 8, [some (.ref 20), some (.int x1)], [], (DB o i0 i1 ext), M1) rfl (fun hc3 => ?_) (fun hc3 => ?_)
  · have h := h.1 hc3
    refine T_run 1 (126, 7, [some (.ref 20), some (.int x1)], [.int (-(nI 2))], (DB o i0 i1 ext), M1) rfl ?_
    exact T_ret rfl h
  · have h := h.2 hc3
    refine T_run 3 (126, 11, [some (.ref 20), some (.int x1)], [.int x1, .ref 28], (DB o i0 i1 ext), M1) rfl ?_
    refine T_gd (x1 < 0 ∨ 2 ≤ x1.toNatClampNeg) (126, 12, [some (.ref 20), some (.int x1)], [.int (M1 28 x1.toNatClampNeg)], (DB o i0 i1 ext), M1) rfl h.1 ?_
    have h := h.2
    refine T_br ((M1 28 x1.toNatClampNeg) = 0) (126, 13, [some (.ref 20), some (.int x1)], [], (DB o i0 i1 ext), M1) (126, 15, [some (.ref 20), some (.int x1)], [], (DB o i0 i1 ext), M1) rfl (fun hc4 => ?_) (fun hc4 => ?_)
    · have h := h.1 hc4
      refine T_run 1 (126, 14, [some (.ref 20), some (.int x1)], [.int (-(nI 3))], (DB o i0 i1 ext), M1) rfl ?_
      exact T_ret rfl h
    · have h := h.2 hc4
      refine T_run 9 (126, 24, [some (.ref 20), some (.int x1)], [.ref 20], (DB o i0 i1 ext), (ms (ms M1 20 19 ((nI 30) * x1)) 20 20 (nI 0))) rfl ?_
      refine T_callV (D' := (DB o i0 i1 ext)) rfl (CV_mono h (fun M5 h => ?_))
      refine T_run 1 (126, 26, [some (.ref 20), some (.int x1)], [.int (nI 1)], (DB o i0 i1 ext), M5) rfl ?_
      exact T_ret rfl h
set_option maxRecDepth 100000 in
theorem b_X5_told_0 {d : Nat} {Q : ARs → Prop} {o i0 i1 : Option Nat} {ext : ADd} {M : AMm} (x1 : Int32) (h : (x1 = 0 → Q (some (.int (M 20 6)), (DB o i0 i1 ext), M)) ∧ (¬ x1 = 0 → (x1 = (nI 1) → Q (some (.int (M 20 0)), (DB o i0 i1 ext), M)) ∧ (¬ x1 = (nI 1) → (x1 = (nI 2) → Q (some (.int (M 20 1)), (DB o i0 i1 ext), M)) ∧ (¬ x1 = (nI 2) → (x1 = (nI 3) → CI d 87 [.ref 20] (DB o i0 i1 ext) M (DB o i0 i1 ext) (fun v6 M5 => CI d 75 [.int v6] (DB o i0 i1 ext) M5 (DB o i0 i1 ext) (fun v8 M7 => Q (some (.int v8), (DB o i0 i1 ext), M7)))) ∧ (¬ x1 = (nI 3) → (x1 = (nI 4) → Q (some (.int (M 20 3)), (DB o i0 i1 ext), M)) ∧ (¬ x1 = (nI 4) → (x1 = (nI 5) → Q (some (.int (M 20 4)), (DB o i0 i1 ext), M)) ∧ (¬ x1 = (nI 5) → Q (some (.int (-(nI 2))), (DB o i0 i1 ext), M)))))))) : T (d + 1) Q (ent 127 [.ref 20, .int x1] (DB o i0 i1 ext) M) := by
  refine T_run 1 (127, 1, [some (.ref 20), some (.int x1)], [.int x1], (DB o i0 i1 ext), M) rfl ?_
  refine T_br (x1 = 0) (127, 2, [some (.ref 20), some (.int x1)], [], (DB o i0 i1 ext), M) (127, 5, [some (.ref 20), some (.int x1)], [], (DB o i0 i1 ext), M) rfl (fun hc1 => ?_) (fun hc1 => ?_)
  · have h := h.1 hc1
    refine T_run 3 (127, 37, [some (.ref 20), some (.int x1)], [.int (M 20 6)], (DB o i0 i1 ext), M) rfl ?_
    exact T_ret rfl h
  · have h := h.2 hc1
    refine T_run 2 (127, 7, [some (.ref 20), some (.int x1)], [.int (nI 1), .int x1], (DB o i0 i1 ext), M) rfl ?_
    refine T_br (x1 = (nI 1)) (127, 8, [some (.ref 20), some (.int x1)], [], (DB o i0 i1 ext), M) (127, 11, [some (.ref 20), some (.int x1)], [], (DB o i0 i1 ext), M) rfl (fun hc2 => ?_) (fun hc2 => ?_)
    · have h := h.1 hc2
      refine T_run 3 (127, 37, [some (.ref 20), some (.int x1)], [.int (M 20 0)], (DB o i0 i1 ext), M) rfl ?_
      exact T_ret rfl h
    · have h := h.2 hc2
      refine T_run 2 (127, 13, [some (.ref 20), some (.int x1)], [.int (nI 2), .int x1], (DB o i0 i1 ext), M) rfl ?_
      refine T_br (x1 = (nI 2)) (127, 14, [some (.ref 20), some (.int x1)], [], (DB o i0 i1 ext), M) (127, 17, [some (.ref 20), some (.int x1)], [], (DB o i0 i1 ext), M) rfl (fun hc3 => ?_) (fun hc3 => ?_)
      · have h := h.1 hc3
        refine T_run 3 (127, 37, [some (.ref 20), some (.int x1)], [.int (M 20 1)], (DB o i0 i1 ext), M) rfl ?_
        exact T_ret rfl h
      · have h := h.2 hc3
        refine T_run 2 (127, 19, [some (.ref 20), some (.int x1)], [.int (nI 3), .int x1], (DB o i0 i1 ext), M) rfl ?_
        refine T_br (x1 = (nI 3)) (127, 20, [some (.ref 20), some (.int x1)], [], (DB o i0 i1 ext), M) (127, 24, [some (.ref 20), some (.int x1)], [], (DB o i0 i1 ext), M) rfl (fun hc4 => ?_) (fun hc4 => ?_)
        · have h := h.1 hc4
          refine T_run 1 (127, 21, [some (.ref 20), some (.int x1)], [.ref 20], (DB o i0 i1 ext), M) rfl ?_
          refine T_callI (D' := (DB o i0 i1 ext)) rfl (CI_mono h (fun v6 M5 h => ?_))
          refine T_callI (D' := (DB o i0 i1 ext)) rfl (CI_mono h (fun v8 M7 h => ?_))
          refine T_run 1 (127, 37, [some (.ref 20), some (.int x1)], [.int v8], (DB o i0 i1 ext), M7) rfl ?_
          exact T_ret rfl h
        · have h := h.2 hc4
          refine T_run 2 (127, 26, [some (.ref 20), some (.int x1)], [.int (nI 4), .int x1], (DB o i0 i1 ext), M) rfl ?_
          refine T_br (x1 = (nI 4)) (127, 27, [some (.ref 20), some (.int x1)], [], (DB o i0 i1 ext), M) (127, 30, [some (.ref 20), some (.int x1)], [], (DB o i0 i1 ext), M) rfl (fun hc9 => ?_) (fun hc9 => ?_)
          · have h := h.1 hc9
            refine T_run 3 (127, 37, [some (.ref 20), some (.int x1)], [.int (M 20 3)], (DB o i0 i1 ext), M) rfl ?_
            exact T_ret rfl h
          · have h := h.2 hc9
            refine T_run 2 (127, 32, [some (.ref 20), some (.int x1)], [.int (nI 5), .int x1], (DB o i0 i1 ext), M) rfl ?_
            refine T_br (x1 = (nI 5)) (127, 33, [some (.ref 20), some (.int x1)], [], (DB o i0 i1 ext), M) (127, 36, [some (.ref 20), some (.int x1)], [], (DB o i0 i1 ext), M) rfl (fun hc10 => ?_) (fun hc10 => ?_)
            · have h := h.1 hc10
              refine T_run 3 (127, 37, [some (.ref 20), some (.int x1)], [.int (M 20 4)], (DB o i0 i1 ext), M) rfl ?_
              exact T_ret rfl h
            · have h := h.2 hc10
              refine T_run 1 (127, 37, [some (.ref 20), some (.int x1)], [.int (-(nI 2))], (DB o i0 i1 ext), M) rfl ?_
              exact T_ret rfl h
