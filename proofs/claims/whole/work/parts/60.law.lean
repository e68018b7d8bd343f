-- THE LAW: blocks
theorem OC_mono {d k : Nat} {as : List Value} {D : ADd} {M : AMm} {K K' : Int32 → Option Nat → Option Nat → Option Nat → ADd → AMm → Prop} (h : OC d k as D M K) (hK : ∀ v o i0 i1 ext M', K v o i0 i1 ext M' → K' v o i0 i1 ext M') : OC d k as D M K' := T_mono h (Nat.le_refl _) (fun r hr => by obtain ⟨v, o, i0, i1, ext, M', e, q⟩ := hr; exact ⟨v, o, i0, i1, ext, M', e, hK v o i0 i1 ext M' q⟩)
theorem T_callO {d : Nat} {Q : ARs → Prop} {s : ASt} {k : Nat} {as rest : List Value} (h : stp s = some (.inr (.inr (k, as, rest)))) (hc : OC d k as s.2.2.2.2.1 s.2.2.2.2.2 (fun v o i0 i1 ext M' => T (d + 1) Q (s.1, s.2.1 + 1, s.2.2.1, .int v :: rest, DB o i0 i1 ext, M'))) : T (d + 1) Q s := by
  refine T_call h (T_mono hc (Nat.le_refl _) (fun r hr => ?_))
  obtain ⟨v, o, i0, i1, ext, M', rfl, q⟩ := hr
  exact q
set_option maxRecDepth 100000 in
theorem b_L_law_10 {d : Nat} {Q : ARs → Prop} {o i0 i1 : Option Nat} {ext : ADd} {M : AMm} (x3 : Int32) (h : (((M 1000004 0) - (nI 3)) < x3 → Q (some (.int (nI 1)), (DB o i0 i1 ext), M)) ∧ (¬ ((M 1000004 0) - (nI 3)) < x3 → (vp_in x3 (a_roL M 0)) ∧ ((((M 1000000 x3.toNatClampNeg) &&& (nI 31)) = nI 0 → (vp_in (x3 + (nI 1)) (a_roL M 0)) ∧ ((vp_in (x3 + (nI 2)) (a_roL M 0)) ∧ (OC d 37 [.ref 0, .int (M 1000000 ((x3 + (nI 1)).toNatClampNeg)), .int (M 1000000 ((x3 + (nI 2)).toNatClampNeg))] (DB o i0 i1 ext) M (fun v2 o2 ia2 ib2 e2 M2 => (vp_in (x3 + (nI 1)) (a_roL M2 0)) ∧ ((vp_in (x3 + (nI 2)) (a_roL M2 0)) ∧ (CI d 79 [.ref 20, .int (M2 1000000 ((x3 + (nI 1)).toNatClampNeg)), .int (M2 1000000 ((x3 + (nI 2)).toNatClampNeg))] (DB o2 ia2 ib2 e2) M2 (DB o2 ia2 ib2 e2) (fun v4 M3 => (v2 = v4 → T (d + 1) Q (128, 10, [some (.ref 1000000), some (.ref 0), some (.ref 20), some (.int (x3 + (nI 3)))], [], (DB o2 ia2 ib2 e2), M3)) ∧ (¬ v2 = v4 → Q (some (.int (nI 0)), (DB o2 ia2 ib2 e2), M3))))))))) ∧ (¬ ((M 1000000 x3.toNatClampNeg) &&& (nI 31)) = nI 0 → (((M 1000000 x3.toNatClampNeg) &&& (nI 31)) = nI 1 → (vp_in (x3 + (nI 1)) (a_roL M 0)) ∧ (OC d 38 [.ref 0, .int (M 1000000 ((x3 + (nI 1)).toNatClampNeg))] (DB o i0 i1 ext) M (fun v6 o6 ia6 ib6 e6 M6 => (vp_in (x3 + (nI 1)) (a_roL M6 0)) ∧ (CI d 80 [.ref 20, .int (M6 1000000 ((x3 + (nI 1)).toNatClampNeg))] (DB o6 ia6 ib6 e6) M6 (DB o6 ia6 ib6 e6) (fun v8 M7 => (v6 = v8 → T (d + 1) Q (128, 10, [some (.ref 1000000), some (.ref 0), some (.ref 20), some (.int (x3 + (nI 3)))], [], (DB o6 ia6 ib6 e6), M7)) ∧ (¬ v6 = v8 → Q (some (.int (nI 0)), (DB o6 ia6 ib6 e6), M7))))))) ∧ (¬ ((M 1000000 x3.toNatClampNeg) &&& (nI 31)) = nI 1 → (((M 1000000 x3.toNatClampNeg) &&& (nI 31)) = nI 2 → OC d 39 [.ref 0] (DB o i0 i1 ext) M (fun v10 o10 ia10 ib10 e10 M10 => CI d 81 [.ref 20] (DB o10 ia10 ib10 e10) M10 (DB o10 ia10 ib10 e10) (fun v12 M11 => (v10 = v12 → T (d + 1) Q (128, 10, [some (.ref 1000000), some (.ref 0), some (.ref 20), some (.int (x3 + (nI 3)))], [], (DB o10 ia10 ib10 e10), M11)) ∧ (¬ v10 = v12 → Q (some (.int (nI 0)), (DB o10 ia10 ib10 e10), M11))))) ∧ (¬ ((M 1000000 x3.toNatClampNeg) &&& (nI 31)) = nI 2 → (((M 1000000 x3.toNatClampNeg) &&& (nI 31)) = nI 3 → (vp_in (x3 + (nI 1)) (a_roL M 0)) ∧ (OC d 40 [.ref 0, .int (M 1000000 ((x3 + (nI 1)).toNatClampNeg))] (DB o i0 i1 ext) M (fun v14 o14 ia14 ib14 e14 M14 => (vp_in (x3 + (nI 1)) (a_roL M14 0)) ∧ (CI d 86 [.ref 20, .int (M14 1000000 ((x3 + (nI 1)).toNatClampNeg))] (DB o14 ia14 ib14 e14) M14 (DB o14 ia14 ib14 e14) (fun v16 M15 => (v14 = v16 → T (d + 1) Q (128, 10, [some (.ref 1000000), some (.ref 0), some (.ref 20), some (.int (x3 + (nI 3)))], [], (DB o14 ia14 ib14 e14), M15)) ∧ (¬ v14 = v16 → Q (some (.int (nI 0)), (DB o14 ia14 ib14 e14), M15))))))) ∧ (¬ ((M 1000000 x3.toNatClampNeg) &&& (nI 31)) = nI 3 → (((M 1000000 x3.toNatClampNeg) &&& (nI 31)) = nI 4 → OC d 41 [.ref 0] (DB o i0 i1 ext) M (fun v18 o18 ia18 ib18 e18 M18 => CI d 88 [.ref 20] (DB o18 ia18 ib18 e18) M18 (DB o18 ia18 ib18 e18) (fun v20 M19 => (v18 = v20 → T (d + 1) Q (128, 10, [some (.ref 1000000), some (.ref 0), some (.ref 20), some (.int (x3 + (nI 3)))], [], (DB o18 ia18 ib18 e18), M19)) ∧ (¬ v18 = v20 → Q (some (.int (nI 0)), (DB o18 ia18 ib18 e18), M19))))) ∧ (¬ ((M 1000000 x3.toNatClampNeg) &&& (nI 31)) = nI 4 → (((M 1000000 x3.toNatClampNeg) &&& (nI 31)) = nI 5 → (vp_in (x3 + (nI 1)) (a_roL M 0)) ∧ (OC d 42 [.ref 0, .int (M 1000000 ((x3 + (nI 1)).toNatClampNeg))] (DB o i0 i1 ext) M (fun v22 o22 ia22 ib22 e22 M22 => (vp_in (x3 + (nI 1)) (a_roL M22 0)) ∧ (CI d 89 [.ref 20, .int (M22 1000000 ((x3 + (nI 1)).toNatClampNeg))] (DB o22 ia22 ib22 e22) M22 (DB o22 ia22 ib22 e22) (fun v24 M23 => (v22 = v24 → T (d + 1) Q (128, 10, [some (.ref 1000000), some (.ref 0), some (.ref 20), some (.int (x3 + (nI 3)))], [], (DB o22 ia22 ib22 e22), M23)) ∧ (¬ v22 = v24 → Q (some (.int (nI 0)), (DB o22 ia22 ib22 e22), M23))))))) ∧ (¬ ((M 1000000 x3.toNatClampNeg) &&& (nI 31)) = nI 5 → (((M 1000000 x3.toNatClampNeg) &&& (nI 31)) = nI 6 → (vp_in (x3 + (nI 1)) (a_roL M 0)) ∧ (OC d 43 [.ref 0, .int (M 1000000 ((x3 + (nI 1)).toNatClampNeg))] (DB o i0 i1 ext) M (fun v26 o26 ia26 ib26 e26 M26 => (vp_in (x3 + (nI 1)) (a_roL M26 0)) ∧ (CI d 90 [.ref 20, .int (M26 1000000 ((x3 + (nI 1)).toNatClampNeg))] (DB o26 ia26 ib26 e26) M26 (DB o26 ia26 ib26 e26) (fun v28 M27 => (v26 = v28 → T (d + 1) Q (128, 10, [some (.ref 1000000), some (.ref 0), some (.ref 20), some (.int (x3 + (nI 3)))], [], (DB o26 ia26 ib26 e26), M27)) ∧ (¬ v26 = v28 → Q (some (.int (nI 0)), (DB o26 ia26 ib26 e26), M27))))))) ∧ (¬ ((M 1000000 x3.toNatClampNeg) &&& (nI 31)) = nI 6 → (((M 1000000 x3.toNatClampNeg) &&& (nI 31)) = nI 7 → (vp_in (x3 + (nI 1)) (a_roL M 0)) ∧ (OC d 44 [.ref 0, .int (M 1000000 ((x3 + (nI 1)).toNatClampNeg))] (DB o i0 i1 ext) M (fun v30 o30 ia30 ib30 e30 M30 => (vp_in (x3 + (nI 1)) (a_roL M30 0)) ∧ (CI d 91 [.ref 20, .int (M30 1000000 ((x3 + (nI 1)).toNatClampNeg))] (DB o30 ia30 ib30 e30) M30 (DB o30 ia30 ib30 e30) (fun v32 M31 => (v30 = v32 → T (d + 1) Q (128, 10, [some (.ref 1000000), some (.ref 0), some (.ref 20), some (.int (x3 + (nI 3)))], [], (DB o30 ia30 ib30 e30), M31)) ∧ (¬ v30 = v32 → Q (some (.int (nI 0)), (DB o30 ia30 ib30 e30), M31))))))) ∧ (¬ ((M 1000000 x3.toNatClampNeg) &&& (nI 31)) = nI 7 → (((M 1000000 x3.toNatClampNeg) &&& (nI 31)) = nI 8 → (vp_in (x3 + (nI 1)) (a_roL M 0)) ∧ (OC d 45 [.ref 0, .int (M 1000000 ((x3 + (nI 1)).toNatClampNeg))] (DB o i0 i1 ext) M (fun v34 o34 ia34 ib34 e34 M34 => (vp_in (x3 + (nI 1)) (a_roL M34 0)) ∧ (CI d 97 [.ref 20, .int (M34 1000000 ((x3 + (nI 1)).toNatClampNeg))] (DB o34 ia34 ib34 e34) M34 (DB o34 ia34 ib34 e34) (fun v36 M35 => (v34 = v36 → T (d + 1) Q (128, 10, [some (.ref 1000000), some (.ref 0), some (.ref 20), some (.int (x3 + (nI 3)))], [], (DB o34 ia34 ib34 e34), M35)) ∧ (¬ v34 = v36 → Q (some (.int (nI 0)), (DB o34 ia34 ib34 e34), M35))))))) ∧ (¬ ((M 1000000 x3.toNatClampNeg) &&& (nI 31)) = nI 8 → (((M 1000000 x3.toNatClampNeg) &&& (nI 31)) = nI 9 → (vp_in (x3 + (nI 1)) (a_roL M 0)) ∧ (OC d 46 [.ref 0, .int (M 1000000 ((x3 + (nI 1)).toNatClampNeg))] (DB o i0 i1 ext) M (fun v38 o38 ia38 ib38 e38 M38 => (vp_in (x3 + (nI 1)) (a_roL M38 0)) ∧ (CI d 100 [.ref 20, .int (M38 1000000 ((x3 + (nI 1)).toNatClampNeg))] (DB o38 ia38 ib38 e38) M38 (DB o38 ia38 ib38 e38) (fun v40 M39 => (v38 = v40 → T (d + 1) Q (128, 10, [some (.ref 1000000), some (.ref 0), some (.ref 20), some (.int (x3 + (nI 3)))], [], (DB o38 ia38 ib38 e38), M39)) ∧ (¬ v38 = v40 → Q (some (.int (nI 0)), (DB o38 ia38 ib38 e38), M39))))))) ∧ (¬ ((M 1000000 x3.toNatClampNeg) &&& (nI 31)) = nI 9 → (((M 1000000 x3.toNatClampNeg) &&& (nI 31)) = nI 10 → (vp_in (x3 + (nI 1)) (a_roL M 0)) ∧ (OC d 47 [.ref 0, .int (M 1000000 ((x3 + (nI 1)).toNatClampNeg))] (DB o i0 i1 ext) M (fun v42 o42 ia42 ib42 e42 M42 => (vp_in (x3 + (nI 1)) (a_roL M42 0)) ∧ (CI d 103 [.ref 20, .int (M42 1000000 ((x3 + (nI 1)).toNatClampNeg))] (DB o42 ia42 ib42 e42) M42 (DB o42 ia42 ib42 e42) (fun v44 M43 => (v42 = v44 → T (d + 1) Q (128, 10, [some (.ref 1000000), some (.ref 0), some (.ref 20), some (.int (x3 + (nI 3)))], [], (DB o42 ia42 ib42 e42), M43)) ∧ (¬ v42 = v44 → Q (some (.int (nI 0)), (DB o42 ia42 ib42 e42), M43))))))) ∧ (¬ ((M 1000000 x3.toNatClampNeg) &&& (nI 31)) = nI 10 → (((M 1000000 x3.toNatClampNeg) &&& (nI 31)) = nI 11 → (vp_in (x3 + (nI 1)) (a_roL M 0)) ∧ (OC d 48 [.ref 0, .int (M 1000000 ((x3 + (nI 1)).toNatClampNeg))] (DB o i0 i1 ext) M (fun v46 o46 ia46 ib46 e46 M46 => (vp_in (x3 + (nI 1)) (a_roL M46 0)) ∧ (CI d 105 [.ref 20, .int (M46 1000000 ((x3 + (nI 1)).toNatClampNeg))] (DB o46 ia46 ib46 e46) M46 (DB o46 ia46 ib46 e46) (fun v48 M47 => (v46 = v48 → T (d + 1) Q (128, 10, [some (.ref 1000000), some (.ref 0), some (.ref 20), some (.int (x3 + (nI 3)))], [], (DB o46 ia46 ib46 e46), M47)) ∧ (¬ v46 = v48 → Q (some (.int (nI 0)), (DB o46 ia46 ib46 e46), M47))))))) ∧ (¬ ((M 1000000 x3.toNatClampNeg) &&& (nI 31)) = nI 11 → (((M 1000000 x3.toNatClampNeg) &&& (nI 31)) = nI 12 → OC d 49 [.ref 0] (DB o i0 i1 ext) M (fun v50 o50 ia50 ib50 e50 M50 => CI d 106 [.ref 20] (DB o50 ia50 ib50 e50) M50 (DB o50 ia50 ib50 e50) (fun v52 M51 => (v50 = v52 → T (d + 1) Q (128, 10, [some (.ref 1000000), some (.ref 0), some (.ref 20), some (.int (x3 + (nI 3)))], [], (DB o50 ia50 ib50 e50), M51)) ∧ (¬ v50 = v52 → Q (some (.int (nI 0)), (DB o50 ia50 ib50 e50), M51))))) ∧ (¬ ((M 1000000 x3.toNatClampNeg) &&& (nI 31)) = nI 12 → (((M 1000000 x3.toNatClampNeg) &&& (nI 31)) = nI 13 → (vp_in (x3 + (nI 1)) (a_roL M 0)) ∧ (OC d 50 [.ref 0, .int (M 1000000 ((x3 + (nI 1)).toNatClampNeg))] (DB o i0 i1 ext) M (fun v54 o54 ia54 ib54 e54 M54 => (vp_in (x3 + (nI 1)) (a_roL M54 0)) ∧ (CI d 110 [.ref 20, .int (M54 1000000 ((x3 + (nI 1)).toNatClampNeg))] (DB o54 ia54 ib54 e54) M54 (DB o54 ia54 ib54 e54) (fun v56 M55 => (v54 = v56 → T (d + 1) Q (128, 10, [some (.ref 1000000), some (.ref 0), some (.ref 20), some (.int (x3 + (nI 3)))], [], (DB o54 ia54 ib54 e54), M55)) ∧ (¬ v54 = v56 → Q (some (.int (nI 0)), (DB o54 ia54 ib54 e54), M55))))))) ∧ (¬ ((M 1000000 x3.toNatClampNeg) &&& (nI 31)) = nI 13 → (((M 1000000 x3.toNatClampNeg) &&& (nI 31)) = nI 14 → (vp_in (x3 + (nI 1)) (a_roL M 0)) ∧ ((vp_in (x3 + (nI 2)) (a_roL M 0)) ∧ (OC d 51 [.ref 0, .int (M 1000000 ((x3 + (nI 1)).toNatClampNeg)), .int (M 1000000 ((x3 + (nI 2)).toNatClampNeg))] (DB o i0 i1 ext) M (fun v58 o58 ia58 ib58 e58 M58 => (vp_in (x3 + (nI 1)) (a_roL M58 0)) ∧ ((vp_in (x3 + (nI 2)) (a_roL M58 0)) ∧ (CI d 111 [.ref 20, .int (M58 1000000 ((x3 + (nI 1)).toNatClampNeg)), .int (M58 1000000 ((x3 + (nI 2)).toNatClampNeg))] (DB o58 ia58 ib58 e58) M58 (DB o58 ia58 ib58 e58) (fun v60 M59 => (v58 = v60 → T (d + 1) Q (128, 10, [some (.ref 1000000), some (.ref 0), some (.ref 20), some (.int (x3 + (nI 3)))], [], (DB o58 ia58 ib58 e58), M59)) ∧ (¬ v58 = v60 → Q (some (.int (nI 0)), (DB o58 ia58 ib58 e58), M59))))))))) ∧ (¬ ((M 1000000 x3.toNatClampNeg) &&& (nI 31)) = nI 14 → (((M 1000000 x3.toNatClampNeg) &&& (nI 31)) = nI 15 → OC d 52 [.ref 0] (DB o i0 i1 ext) M (fun v62 o62 ia62 ib62 e62 M62 => CI d 117 [.ref 20] (DB o62 ia62 ib62 e62) M62 (DB o62 ia62 ib62 e62) (fun v64 M63 => (v62 = v64 → T (d + 1) Q (128, 10, [some (.ref 1000000), some (.ref 0), some (.ref 20), some (.int (x3 + (nI 3)))], [], (DB o62 ia62 ib62 e62), M63)) ∧ (¬ v62 = v64 → Q (some (.int (nI 0)), (DB o62 ia62 ib62 e62), M63))))) ∧ (¬ ((M 1000000 x3.toNatClampNeg) &&& (nI 31)) = nI 15 → (((M 1000000 x3.toNatClampNeg) &&& (nI 31)) = nI 16 → OC d 53 [.ref 0] (DB o i0 i1 ext) M (fun v66 o66 ia66 ib66 e66 M66 => CI d 118 [.ref 20] (DB o66 ia66 ib66 e66) M66 (DB o66 ia66 ib66 e66) (fun v68 M67 => (v66 = v68 → T (d + 1) Q (128, 10, [some (.ref 1000000), some (.ref 0), some (.ref 20), some (.int (x3 + (nI 3)))], [], (DB o66 ia66 ib66 e66), M67)) ∧ (¬ v66 = v68 → Q (some (.int (nI 0)), (DB o66 ia66 ib66 e66), M67))))) ∧ (¬ ((M 1000000 x3.toNatClampNeg) &&& (nI 31)) = nI 16 → (((M 1000000 x3.toNatClampNeg) &&& (nI 31)) = nI 17 → (vp_in (x3 + (nI 1)) (a_roL M 0)) ∧ (OC d 54 [.ref 0, .int (M 1000000 ((x3 + (nI 1)).toNatClampNeg))] (DB o i0 i1 ext) M (fun v70 o70 ia70 ib70 e70 M70 => (vp_in (x3 + (nI 1)) (a_roL M70 0)) ∧ (CI d 119 [.ref 20, .int (M70 1000000 ((x3 + (nI 1)).toNatClampNeg))] (DB o70 ia70 ib70 e70) M70 (DB o70 ia70 ib70 e70) (fun v72 M71 => (v70 = v72 → T (d + 1) Q (128, 10, [some (.ref 1000000), some (.ref 0), some (.ref 20), some (.int (x3 + (nI 3)))], [], (DB o70 ia70 ib70 e70), M71)) ∧ (¬ v70 = v72 → Q (some (.int (nI 0)), (DB o70 ia70 ib70 e70), M71))))))) ∧ (¬ ((M 1000000 x3.toNatClampNeg) &&& (nI 31)) = nI 17 → (((M 1000000 x3.toNatClampNeg) &&& (nI 31)) = nI 18 → OC d 55 [.ref 0] (DB o i0 i1 ext) M (fun v74 o74 ia74 ib74 e74 M74 => CI d 120 [.ref 20] (DB o74 ia74 ib74 e74) M74 (DB o74 ia74 ib74 e74) (fun v76 M75 => (v74 = v76 → T (d + 1) Q (128, 10, [some (.ref 1000000), some (.ref 0), some (.ref 20), some (.int (x3 + (nI 3)))], [], (DB o74 ia74 ib74 e74), M75)) ∧ (¬ v74 = v76 → Q (some (.int (nI 0)), (DB o74 ia74 ib74 e74), M75))))) ∧ (¬ ((M 1000000 x3.toNatClampNeg) &&& (nI 31)) = nI 18 → (((M 1000000 x3.toNatClampNeg) &&& (nI 31)) = nI 19 → (vp_in (x3 + (nI 1)) (a_roL M 0)) ∧ (OC d 56 [.ref 0, .int (M 1000000 ((x3 + (nI 1)).toNatClampNeg))] (DB o i0 i1 ext) M (fun v78 o78 ia78 ib78 e78 M78 => (vp_in (x3 + (nI 1)) (a_roL M78 0)) ∧ (CI d 121 [.ref 20, .int (M78 1000000 ((x3 + (nI 1)).toNatClampNeg))] (DB o78 ia78 ib78 e78) M78 (DB o78 ia78 ib78 e78) (fun v80 M79 => (v78 = v80 → T (d + 1) Q (128, 10, [some (.ref 1000000), some (.ref 0), some (.ref 20), some (.int (x3 + (nI 3)))], [], (DB o78 ia78 ib78 e78), M79)) ∧ (¬ v78 = v80 → Q (some (.int (nI 0)), (DB o78 ia78 ib78 e78), M79))))))) ∧ (¬ ((M 1000000 x3.toNatClampNeg) &&& (nI 31)) = nI 19 → (((M 1000000 x3.toNatClampNeg) &&& (nI 31)) = nI 20 → (vp_in (x3 + (nI 1)) (a_roL M 0)) ∧ ((vp_in (x3 + (nI 2)) (a_roL M 0)) ∧ (OC d 57 [.ref 0, .int (M 1000000 ((x3 + (nI 1)).toNatClampNeg)), .int (M 1000000 ((x3 + (nI 2)).toNatClampNeg))] (DB o i0 i1 ext) M (fun v82 o82 ia82 ib82 e82 M82 => (vp_in (x3 + (nI 1)) (a_roL M82 0)) ∧ ((vp_in (x3 + (nI 2)) (a_roL M82 0)) ∧ (CI d 122 [.ref 20, .int (M82 1000000 ((x3 + (nI 1)).toNatClampNeg)), .int (M82 1000000 ((x3 + (nI 2)).toNatClampNeg))] (DB o82 ia82 ib82 e82) M82 (DB o82 ia82 ib82 e82) (fun v84 M83 => (v82 = v84 → T (d + 1) Q (128, 10, [some (.ref 1000000), some (.ref 0), some (.ref 20), some (.int (x3 + (nI 3)))], [], (DB o82 ia82 ib82 e82), M83)) ∧ (¬ v82 = v84 → Q (some (.int (nI 0)), (DB o82 ia82 ib82 e82), M83))))))))) ∧ (¬ ((M 1000000 x3.toNatClampNeg) &&& (nI 31)) = nI 20 → (((M 1000000 x3.toNatClampNeg) &&& (nI 31)) = nI 21 → (vp_in (x3 + (nI 1)) (a_roL M 0)) ∧ (OC d 58 [.ref 0, .int (M 1000000 ((x3 + (nI 1)).toNatClampNeg))] (DB o i0 i1 ext) M (fun v86 o86 ia86 ib86 e86 M86 => (vp_in (x3 + (nI 1)) (a_roL M86 0)) ∧ (CI d 125 [.ref 20, .int (M86 1000000 ((x3 + (nI 1)).toNatClampNeg))] (DB o86 ia86 ib86 e86) M86 (DB o86 ia86 ib86 e86) (fun v88 M87 => (v86 = v88 → T (d + 1) Q (128, 10, [some (.ref 1000000), some (.ref 0), some (.ref 20), some (.int (x3 + (nI 3)))], [], (DB o86 ia86 ib86 e86), M87)) ∧ (¬ v86 = v88 → Q (some (.int (nI 0)), (DB o86 ia86 ib86 e86), M87))))))) ∧ (¬ ((M 1000000 x3.toNatClampNeg) &&& (nI 31)) = nI 21 → (((M 1000000 x3.toNatClampNeg) &&& (nI 31)) = nI 22 → (vp_in (x3 + (nI 1)) (a_roL M 0)) ∧ (OC d 59 [.ref 0, .int (M 1000000 ((x3 + (nI 1)).toNatClampNeg))] (DB o i0 i1 ext) M (fun v90 o90 ia90 ib90 e90 M90 => (vp_in (x3 + (nI 1)) (a_roL M90 0)) ∧ (CI d 126 [.ref 20, .int (M90 1000000 ((x3 + (nI 1)).toNatClampNeg))] (DB o90 ia90 ib90 e90) M90 (DB o90 ia90 ib90 e90) (fun v92 M91 => (v90 = v92 → T (d + 1) Q (128, 10, [some (.ref 1000000), some (.ref 0), some (.ref 20), some (.int (x3 + (nI 3)))], [], (DB o90 ia90 ib90 e90), M91)) ∧ (¬ v90 = v92 → Q (some (.int (nI 0)), (DB o90 ia90 ib90 e90), M91))))))) ∧ (¬ ((M 1000000 x3.toNatClampNeg) &&& (nI 31)) = nI 22 → (((M 1000000 x3.toNatClampNeg) &&& (nI 31)) = nI 23 → (vp_in (x3 + (nI 1)) (a_roL M 0)) ∧ (OC d 60 [.ref 0, .int (M 1000000 ((x3 + (nI 1)).toNatClampNeg))] (DB o i0 i1 ext) M (fun v94 o94 ia94 ib94 e94 M94 => (vp_in (x3 + (nI 1)) (a_roL M94 0)) ∧ (CI d 127 [.ref 20, .int (M94 1000000 ((x3 + (nI 1)).toNatClampNeg))] (DB o94 ia94 ib94 e94) M94 (DB o94 ia94 ib94 e94) (fun v96 M95 => (v94 = v96 → T (d + 1) Q (128, 10, [some (.ref 1000000), some (.ref 0), some (.ref 20), some (.int (x3 + (nI 3)))], [], (DB o94 ia94 ib94 e94), M95)) ∧ (¬ v94 = v96 → Q (some (.int (nI 0)), (DB o94 ia94 ib94 e94), M95))))))) ∧ (¬ ((M 1000000 x3.toNatClampNeg) &&& (nI 31)) = nI 23 → T (d + 1) Q (128, 10, [some (.ref 1000000), some (.ref 0), some (.ref 20), some (.int (x3 + (nI 3)))], [], (DB o i0 i1 ext), M)))))))))))))))))))))))))))) : T (d + 1) Q (128, 10, [some (.ref 1000000), some (.ref 0), some (.ref 20), some (.int x3)], [], (DB o i0 i1 ext), M) := by
  refine T_run 5 (128, 15, [some (.ref 1000000), some (.ref 0), some (.ref 20), some (.int x3)], [.int ((M 1000004 0) - (nI 3)), .int x3], (DB o i0 i1 ext), M) rfl ?_
  refine T_br (((M 1000004 0) - (nI 3)) < x3) (128, 402, [some (.ref 1000000), some (.ref 0), some (.ref 20), some (.int x3)], [], (DB o i0 i1 ext), M) (128, 16, [some (.ref 1000000), some (.ref 0), some (.ref 20), some (.int x3)], [], (DB o i0 i1 ext), M) rfl (fun hc1 => ?_) (fun hc1 => ?_)
  · have h := h.1 hc1
    refine T_run 1 (128, 403, [some (.ref 1000000), some (.ref 0), some (.ref 20), some (.int x3)], [.int (nI 1)], (DB o i0 i1 ext), M) rfl ?_
    exact T_ret rfl h
  · have h := h.2 hc1
    refine T_run 2 (128, 18, [some (.ref 1000000), some (.ref 0), some (.ref 20), some (.int x3)], [.int x3, .ref 1000000], (DB o i0 i1 ext), M) rfl ?_
    refine T_gd (x3 < 0 ∨ (a_roL M 0) ≤ x3.toNatClampNeg) (128, 19, [some (.ref 1000000), some (.ref 0), some (.ref 20), some (.int x3)], [.int (M 1000000 x3.toNatClampNeg)], (DB o i0 i1 ext), M) rfl h.1 ?_
    have h := h.2
    refine T_run 2 (128, 21, [some (.ref 1000000), some (.ref 0), some (.ref 20), some (.int x3)], [.int ((M 1000000 x3.toNatClampNeg) &&& (nI 31))], (DB o i0 i1 ext), M) rfl ?_
    by_cases hc0 : ((M 1000000 x3.toNatClampNeg) &&& (nI 31)) = nI 0
    · have h := h.1 hc0
      refine T_ts (x := ((M 1000000 x3.toNatClampNeg) &&& (nI 31))) rfl 0 22 hc0 rfl ?_
      refine T_run 5 (128, 27, [some (.ref 1000000), some (.ref 0), some (.ref 20), some (.int x3)], [.int (x3 + (nI 1)), .ref 1000000, .ref 0], (DB o i0 i1 ext), M) rfl ?_
      refine T_gd ((x3 + (nI 1)) < 0 ∨ (a_roL M 0) ≤ (x3 + (nI 1)).toNatClampNeg) (128, 28, [some (.ref 1000000), some (.ref 0), some (.ref 20), some (.int x3)], [.int (M 1000000 ((x3 + (nI 1)).toNatClampNeg)), .ref 0], (DB o i0 i1 ext), M) rfl h.1 ?_
      have h := h.2
      refine T_run 4 (128, 32, [some (.ref 1000000), some (.ref 0), some (.ref 20), some (.int x3)], [.int (x3 + (nI 2)), .ref 1000000, .int (M 1000000 ((x3 + (nI 1)).toNatClampNeg)), .ref 0], (DB o i0 i1 ext), M) rfl ?_
      refine T_gd ((x3 + (nI 2)) < 0 ∨ (a_roL M 0) ≤ (x3 + (nI 2)).toNatClampNeg) (128, 33, [some (.ref 1000000), some (.ref 0), some (.ref 20), some (.int x3)], [.int (M 1000000 ((x3 + (nI 2)).toNatClampNeg)), .int (M 1000000 ((x3 + (nI 1)).toNatClampNeg)), .ref 0], (DB o i0 i1 ext), M) rfl h.1 ?_
      have h := h.2
      refine T_callO rfl (OC_mono h (fun v2 o2 ia2 ib2 e2 M2 h => ?_))
      refine T_run 5 (128, 39, [some (.ref 1000000), some (.ref 0), some (.ref 20), some (.int x3)], [.int (x3 + (nI 1)), .ref 1000000, .ref 20, .int v2], (DB o2 ia2 ib2 e2), M2) rfl ?_
      refine T_gd ((x3 + (nI 1)) < 0 ∨ (a_roL M2 0) ≤ (x3 + (nI 1)).toNatClampNeg) (128, 40, [some (.ref 1000000), some (.ref 0), some (.ref 20), some (.int x3)], [.int (M2 1000000 ((x3 + (nI 1)).toNatClampNeg)), .ref 20, .int v2], (DB o2 ia2 ib2 e2), M2) rfl h.1 ?_
      have h := h.2
      refine T_run 4 (128, 44, [some (.ref 1000000), some (.ref 0), some (.ref 20), some (.int x3)], [.int (x3 + (nI 2)), .ref 1000000, .int (M2 1000000 ((x3 + (nI 1)).toNatClampNeg)), .ref 20, .int v2], (DB o2 ia2 ib2 e2), M2) rfl ?_
      refine T_gd ((x3 + (nI 2)) < 0 ∨ (a_roL M2 0) ≤ (x3 + (nI 2)).toNatClampNeg) (128, 45, [some (.ref 1000000), some (.ref 0), some (.ref 20), some (.int x3)], [.int (M2 1000000 ((x3 + (nI 2)).toNatClampNeg)), .int (M2 1000000 ((x3 + (nI 1)).toNatClampNeg)), .ref 20, .int v2], (DB o2 ia2 ib2 e2), M2) rfl h.1 ?_
      have h := h.2
      refine T_callI (D' := (DB o2 ia2 ib2 e2)) rfl (CI_mono h (fun v4 M3 h => ?_))
      refine T_br (v2 = v4) (128, 400, [some (.ref 1000000), some (.ref 0), some (.ref 20), some (.int x3)], [], (DB o2 ia2 ib2 e2), M3) (128, 47, [some (.ref 1000000), some (.ref 0), some (.ref 20), some (.int x3)], [], (DB o2 ia2 ib2 e2), M3) rfl (fun hc5 => ?_) (fun hc5 => ?_)
      · have h := h.1 hc5
        refine T_run 2 (128, 10, [some (.ref 1000000), some (.ref 0), some (.ref 20), some (.int (x3 + (nI 3)))], [], (DB o2 ia2 ib2 e2), M3) rfl ?_
        exact h
      · have h := h.2 hc5
        refine T_run 1 (128, 48, [some (.ref 1000000), some (.ref 0), some (.ref 20), some (.int x3)], [.int (nI 0)], (DB o2 ia2 ib2 e2), M3) rfl ?_
        exact T_ret rfl h
    have h := h.2 hc0
    by_cases hc1 : ((M 1000000 x3.toNatClampNeg) &&& (nI 31)) = nI 1
    · have h := h.1 hc1
      refine T_ts (x := ((M 1000000 x3.toNatClampNeg) &&& (nI 31))) rfl 1 49 hc1 rfl ?_
      refine T_run 5 (128, 54, [some (.ref 1000000), some (.ref 0), some (.ref 20), some (.int x3)], [.int (x3 + (nI 1)), .ref 1000000, .ref 0], (DB o i0 i1 ext), M) rfl ?_
      refine T_gd ((x3 + (nI 1)) < 0 ∨ (a_roL M 0) ≤ (x3 + (nI 1)).toNatClampNeg) (128, 55, [some (.ref 1000000), some (.ref 0), some (.ref 20), some (.int x3)], [.int (M 1000000 ((x3 + (nI 1)).toNatClampNeg)), .ref 0], (DB o i0 i1 ext), M) rfl h.1 ?_
      have h := h.2
      refine T_callO rfl (OC_mono h (fun v6 o6 ia6 ib6 e6 M6 h => ?_))
      refine T_run 5 (128, 61, [some (.ref 1000000), some (.ref 0), some (.ref 20), some (.int x3)], [.int (x3 + (nI 1)), .ref 1000000, .ref 20, .int v6], (DB o6 ia6 ib6 e6), M6) rfl ?_
      refine T_gd ((x3 + (nI 1)) < 0 ∨ (a_roL M6 0) ≤ (x3 + (nI 1)).toNatClampNeg) (128, 62, [some (.ref 1000000), some (.ref 0), some (.ref 20), some (.int x3)], [.int (M6 1000000 ((x3 + (nI 1)).toNatClampNeg)), .ref 20, .int v6], (DB o6 ia6 ib6 e6), M6) rfl h.1 ?_
      have h := h.2
      refine T_callI (D' := (DB o6 ia6 ib6 e6)) rfl (CI_mono h (fun v8 M7 h => ?_))
      refine T_br (v6 = v8) (128, 400, [some (.ref 1000000), some (.ref 0), some (.ref 20), some (.int x3)], [], (DB o6 ia6 ib6 e6), M7) (128, 64, [some (.ref 1000000), some (.ref 0), some (.ref 20), some (.int x3)], [], (DB o6 ia6 ib6 e6), M7) rfl (fun hc9 => ?_) (fun hc9 => ?_)
      · have h := h.1 hc9
        refine T_run 2 (128, 10, [some (.ref 1000000), some (.ref 0), some (.ref 20), some (.int (x3 + (nI 3)))], [], (DB o6 ia6 ib6 e6), M7) rfl ?_
        exact h
      · have h := h.2 hc9
        refine T_run 1 (128, 65, [some (.ref 1000000), some (.ref 0), some (.ref 20), some (.int x3)], [.int (nI 0)], (DB o6 ia6 ib6 e6), M7) rfl ?_
        exact T_ret rfl h
    have h := h.2 hc1
    by_cases hc2 : ((M 1000000 x3.toNatClampNeg) &&& (nI 31)) = nI 2
    · have h := h.1 hc2
      refine T_ts (x := ((M 1000000 x3.toNatClampNeg) &&& (nI 31))) rfl 2 66 hc2 rfl ?_
      refine T_run 1 (128, 67, [some (.ref 1000000), some (.ref 0), some (.ref 20), some (.int x3)], [.ref 0], (DB o i0 i1 ext), M) rfl ?_
      refine T_callO rfl (OC_mono h (fun v10 o10 ia10 ib10 e10 M10 h => ?_))
      refine T_run 1 (128, 69, [some (.ref 1000000), some (.ref 0), some (.ref 20), some (.int x3)], [.ref 20, .int v10], (DB o10 ia10 ib10 e10), M10) rfl ?_
      refine T_callI (D' := (DB o10 ia10 ib10 e10)) rfl (CI_mono h (fun v12 M11 h => ?_))
      refine T_br (v10 = v12) (128, 400, [some (.ref 1000000), some (.ref 0), some (.ref 20), some (.int x3)], [], (DB o10 ia10 ib10 e10), M11) (128, 71, [some (.ref 1000000), some (.ref 0), some (.ref 20), some (.int x3)], [], (DB o10 ia10 ib10 e10), M11) rfl (fun hc13 => ?_) (fun hc13 => ?_)
      · have h := h.1 hc13
        refine T_run 2 (128, 10, [some (.ref 1000000), some (.ref 0), some (.ref 20), some (.int (x3 + (nI 3)))], [], (DB o10 ia10 ib10 e10), M11) rfl ?_
        exact h
      · have h := h.2 hc13
        refine T_run 1 (128, 72, [some (.ref 1000000), some (.ref 0), some (.ref 20), some (.int x3)], [.int (nI 0)], (DB o10 ia10 ib10 e10), M11) rfl ?_
        exact T_ret rfl h
    have h := h.2 hc2
    by_cases hc3 : ((M 1000000 x3.toNatClampNeg) &&& (nI 31)) = nI 3
    · have h := h.1 hc3
      refine T_ts (x := ((M 1000000 x3.toNatClampNeg) &&& (nI 31))) rfl 3 73 hc3 rfl ?_
      refine T_run 5 (128, 78, [some (.ref 1000000), some (.ref 0), some (.ref 20), some (.int x3)], [.int (x3 + (nI 1)), .ref 1000000, .ref 0], (DB o i0 i1 ext), M) rfl ?_
      refine T_gd ((x3 + (nI 1)) < 0 ∨ (a_roL M 0) ≤ (x3 + (nI 1)).toNatClampNeg) (128, 79, [some (.ref 1000000), some (.ref 0), some (.ref 20), some (.int x3)], [.int (M 1000000 ((x3 + (nI 1)).toNatClampNeg)), .ref 0], (DB o i0 i1 ext), M) rfl h.1 ?_
      have h := h.2
      refine T_callO rfl (OC_mono h (fun v14 o14 ia14 ib14 e14 M14 h => ?_))
      refine T_run 5 (128, 85, [some (.ref 1000000), some (.ref 0), some (.ref 20), some (.int x3)], [.int (x3 + (nI 1)), .ref 1000000, .ref 20, .int v14], (DB o14 ia14 ib14 e14), M14) rfl ?_
      refine T_gd ((x3 + (nI 1)) < 0 ∨ (a_roL M14 0) ≤ (x3 + (nI 1)).toNatClampNeg) (128, 86, [some (.ref 1000000), some (.ref 0), some (.ref 20), some (.int x3)], [.int (M14 1000000 ((x3 + (nI 1)).toNatClampNeg)), .ref 20, .int v14], (DB o14 ia14 ib14 e14), M14) rfl h.1 ?_
      have h := h.2
      refine T_callI (D' := (DB o14 ia14 ib14 e14)) rfl (CI_mono h (fun v16 M15 h => ?_))
      refine T_br (v14 = v16) (128, 400, [some (.ref 1000000), some (.ref 0), some (.ref 20), some (.int x3)], [], (DB o14 ia14 ib14 e14), M15) (128, 88, [some (.ref 1000000), some (.ref 0), some (.ref 20), some (.int x3)], [], (DB o14 ia14 ib14 e14), M15) rfl (fun hc17 => ?_) (fun hc17 => ?_)
      · have h := h.1 hc17
        refine T_run 2 (128, 10, [some (.ref 1000000), some (.ref 0), some (.ref 20), some (.int (x3 + (nI 3)))], [], (DB o14 ia14 ib14 e14), M15) rfl ?_
        exact h
      · have h := h.2 hc17
        refine T_run 1 (128, 89, [some (.ref 1000000), some (.ref 0), some (.ref 20), some (.int x3)], [.int (nI 0)], (DB o14 ia14 ib14 e14), M15) rfl ?_
        exact T_ret rfl h
    have h := h.2 hc3
    by_cases hc4 : ((M 1000000 x3.toNatClampNeg) &&& (nI 31)) = nI 4
    · have h := h.1 hc4
      refine T_ts (x := ((M 1000000 x3.toNatClampNeg) &&& (nI 31))) rfl 4 90 hc4 rfl ?_
      refine T_run 1 (128, 91, [some (.ref 1000000), some (.ref 0), some (.ref 20), some (.int x3)], [.ref 0], (DB o i0 i1 ext), M) rfl ?_
      refine T_callO rfl (OC_mono h (fun v18 o18 ia18 ib18 e18 M18 h => ?_))
      refine T_run 1 (128, 93, [some (.ref 1000000), some (.ref 0), some (.ref 20), some (.int x3)], [.ref 20, .int v18], (DB o18 ia18 ib18 e18), M18) rfl ?_
      refine T_callI (D' := (DB o18 ia18 ib18 e18)) rfl (CI_mono h (fun v20 M19 h => ?_))
      refine T_br (v18 = v20) (128, 400, [some (.ref 1000000), some (.ref 0), some (.ref 20), some (.int x3)], [], (DB o18 ia18 ib18 e18), M19) (128, 95, [some (.ref 1000000), some (.ref 0), some (.ref 20), some (.int x3)], [], (DB o18 ia18 ib18 e18), M19) rfl (fun hc21 => ?_) (fun hc21 => ?_)
      · have h := h.1 hc21
        refine T_run 2 (128, 10, [some (.ref 1000000), some (.ref 0), some (.ref 20), some (.int (x3 + (nI 3)))], [], (DB o18 ia18 ib18 e18), M19) rfl ?_
        exact h
      · have h := h.2 hc21
        refine T_run 1 (128, 96, [some (.ref 1000000), some (.ref 0), some (.ref 20), some (.int x3)], [.int (nI 0)], (DB o18 ia18 ib18 e18), M19) rfl ?_
        exact T_ret rfl h
    have h := h.2 hc4
    by_cases hc5 : ((M 1000000 x3.toNatClampNeg) &&& (nI 31)) = nI 5
    · have h := h.1 hc5
      refine T_ts (x := ((M 1000000 x3.toNatClampNeg) &&& (nI 31))) rfl 5 97 hc5 rfl ?_
      refine T_run 5 (128, 102, [some (.ref 1000000), some (.ref 0), some (.ref 20), some (.int x3)], [.int (x3 + (nI 1)), .ref 1000000, .ref 0], (DB o i0 i1 ext), M) rfl ?_
      refine T_gd ((x3 + (nI 1)) < 0 ∨ (a_roL M 0) ≤ (x3 + (nI 1)).toNatClampNeg) (128, 103, [some (.ref 1000000), some (.ref 0), some (.ref 20), some (.int x3)], [.int (M 1000000 ((x3 + (nI 1)).toNatClampNeg)), .ref 0], (DB o i0 i1 ext), M) rfl h.1 ?_
      have h := h.2
      refine T_callO rfl (OC_mono h (fun v22 o22 ia22 ib22 e22 M22 h => ?_))
      refine T_run 5 (128, 109, [some (.ref 1000000), some (.ref 0), some (.ref 20), some (.int x3)], [.int (x3 + (nI 1)), .ref 1000000, .ref 20, .int v22], (DB o22 ia22 ib22 e22), M22) rfl ?_
      refine T_gd ((x3 + (nI 1)) < 0 ∨ (a_roL M22 0) ≤ (x3 + (nI 1)).toNatClampNeg) (128, 110, [some (.ref 1000000), some (.ref 0), some (.ref 20), some (.int x3)], [.int (M22 1000000 ((x3 + (nI 1)).toNatClampNeg)), .ref 20, .int v22], (DB o22 ia22 ib22 e22), M22) rfl h.1 ?_
      have h := h.2
      refine T_callI (D' := (DB o22 ia22 ib22 e22)) rfl (CI_mono h (fun v24 M23 h => ?_))
      refine T_br (v22 = v24) (128, 400, [some (.ref 1000000), some (.ref 0), some (.ref 20), some (.int x3)], [], (DB o22 ia22 ib22 e22), M23) (128, 112, [some (.ref 1000000), some (.ref 0), some (.ref 20), some (.int x3)], [], (DB o22 ia22 ib22 e22), M23) rfl (fun hc25 => ?_) (fun hc25 => ?_)
      · have h := h.1 hc25
        refine T_run 2 (128, 10, [some (.ref 1000000), some (.ref 0), some (.ref 20), some (.int (x3 + (nI 3)))], [], (DB o22 ia22 ib22 e22), M23) rfl ?_
        exact h
      · have h := h.2 hc25
        refine T_run 1 (128, 113, [some (.ref 1000000), some (.ref 0), some (.ref 20), some (.int x3)], [.int (nI 0)], (DB o22 ia22 ib22 e22), M23) rfl ?_
        exact T_ret rfl h
    have h := h.2 hc5
    by_cases hc6 : ((M 1000000 x3.toNatClampNeg) &&& (nI 31)) = nI 6
    · have h := h.1 hc6
      refine T_ts (x := ((M 1000000 x3.toNatClampNeg) &&& (nI 31))) rfl 6 114 hc6 rfl ?_
      refine T_run 5 (128, 119, [some (.ref 1000000), some (.ref 0), some (.ref 20), some (.int x3)], [.int (x3 + (nI 1)), .ref 1000000, .ref 0], (DB o i0 i1 ext), M) rfl ?_
      refine T_gd ((x3 + (nI 1)) < 0 ∨ (a_roL M 0) ≤ (x3 + (nI 1)).toNatClampNeg) (128, 120, [some (.ref 1000000), some (.ref 0), some (.ref 20), some (.int x3)], [.int (M 1000000 ((x3 + (nI 1)).toNatClampNeg)), .ref 0], (DB o i0 i1 ext), M) rfl h.1 ?_
      have h := h.2
      refine T_callO rfl (OC_mono h (fun v26 o26 ia26 ib26 e26 M26 h => ?_))
      refine T_run 5 (128, 126, [some (.ref 1000000), some (.ref 0), some (.ref 20), some (.int x3)], [.int (x3 + (nI 1)), .ref 1000000, .ref 20, .int v26], (DB o26 ia26 ib26 e26), M26) rfl ?_
      refine T_gd ((x3 + (nI 1)) < 0 ∨ (a_roL M26 0) ≤ (x3 + (nI 1)).toNatClampNeg) (128, 127, [some (.ref 1000000), some (.ref 0), some (.ref 20), some (.int x3)], [.int (M26 1000000 ((x3 + (nI 1)).toNatClampNeg)), .ref 20, .int v26], (DB o26 ia26 ib26 e26), M26) rfl h.1 ?_
      have h := h.2
      refine T_callI (D' := (DB o26 ia26 ib26 e26)) rfl (CI_mono h (fun v28 M27 h => ?_))
      refine T_br (v26 = v28) (128, 400, [some (.ref 1000000), some (.ref 0), some (.ref 20), some (.int x3)], [], (DB o26 ia26 ib26 e26), M27) (128, 129, [some (.ref 1000000), some (.ref 0), some (.ref 20), some (.int x3)], [], (DB o26 ia26 ib26 e26), M27) rfl (fun hc29 => ?_) (fun hc29 => ?_)
      · have h := h.1 hc29
        refine T_run 2 (128, 10, [some (.ref 1000000), some (.ref 0), some (.ref 20), some (.int (x3 + (nI 3)))], [], (DB o26 ia26 ib26 e26), M27) rfl ?_
        exact h
      · have h := h.2 hc29
        refine T_run 1 (128, 130, [some (.ref 1000000), some (.ref 0), some (.ref 20), some (.int x3)], [.int (nI 0)], (DB o26 ia26 ib26 e26), M27) rfl ?_
        exact T_ret rfl h
    have h := h.2 hc6
    by_cases hc7 : ((M 1000000 x3.toNatClampNeg) &&& (nI 31)) = nI 7
    · have h := h.1 hc7
      refine T_ts (x := ((M 1000000 x3.toNatClampNeg) &&& (nI 31))) rfl 7 131 hc7 rfl ?_
      refine T_run 5 (128, 136, [some (.ref 1000000), some (.ref 0), some (.ref 20), some (.int x3)], [.int (x3 + (nI 1)), .ref 1000000, .ref 0], (DB o i0 i1 ext), M) rfl ?_
      refine T_gd ((x3 + (nI 1)) < 0 ∨ (a_roL M 0) ≤ (x3 + (nI 1)).toNatClampNeg) (128, 137, [some (.ref 1000000), some (.ref 0), some (.ref 20), some (.int x3)], [.int (M 1000000 ((x3 + (nI 1)).toNatClampNeg)), .ref 0], (DB o i0 i1 ext), M) rfl h.1 ?_
      have h := h.2
      refine T_callO rfl (OC_mono h (fun v30 o30 ia30 ib30 e30 M30 h => ?_))
      refine T_run 5 (128, 143, [some (.ref 1000000), some (.ref 0), some (.ref 20), some (.int x3)], [.int (x3 + (nI 1)), .ref 1000000, .ref 20, .int v30], (DB o30 ia30 ib30 e30), M30) rfl ?_
      refine T_gd ((x3 + (nI 1)) < 0 ∨ (a_roL M30 0) ≤ (x3 + (nI 1)).toNatClampNeg) (128, 144, [some (.ref 1000000), some (.ref 0), some (.ref 20), some (.int x3)], [.int (M30 1000000 ((x3 + (nI 1)).toNatClampNeg)), .ref 20, .int v30], (DB o30 ia30 ib30 e30), M30) rfl h.1 ?_
      have h := h.2
      refine T_callI (D' := (DB o30 ia30 ib30 e30)) rfl (CI_mono h (fun v32 M31 h => ?_))
      refine T_br (v30 = v32) (128, 400, [some (.ref 1000000), some (.ref 0), some (.ref 20), some (.int x3)], [], (DB o30 ia30 ib30 e30), M31) (128, 146, [some (.ref 1000000), some (.ref 0), some (.ref 20), some (.int x3)], [], (DB o30 ia30 ib30 e30), M31) rfl (fun hc33 => ?_) (fun hc33 => ?_)
      · have h := h.1 hc33
        refine T_run 2 (128, 10, [some (.ref 1000000), some (.ref 0), some (.ref 20), some (.int (x3 + (nI 3)))], [], (DB o30 ia30 ib30 e30), M31) rfl ?_
        exact h
      · have h := h.2 hc33
        refine T_run 1 (128, 147, [some (.ref 1000000), some (.ref 0), some (.ref 20), some (.int x3)], [.int (nI 0)], (DB o30 ia30 ib30 e30), M31) rfl ?_
        exact T_ret rfl h
    have h := h.2 hc7
    by_cases hc8 : ((M 1000000 x3.toNatClampNeg) &&& (nI 31)) = nI 8
    · have h := h.1 hc8
      refine T_ts (x := ((M 1000000 x3.toNatClampNeg) &&& (nI 31))) rfl 8 148 hc8 rfl ?_
      refine T_run 5 (128, 153, [some (.ref 1000000), some (.ref 0), some (.ref 20), some (.int x3)], [.int (x3 + (nI 1)), .ref 1000000, .ref 0], (DB o i0 i1 ext), M) rfl ?_
      refine T_gd ((x3 + (nI 1)) < 0 ∨ (a_roL M 0) ≤ (x3 + (nI 1)).toNatClampNeg) (128, 154, [some (.ref 1000000), some (.ref 0), some (.ref 20), some (.int x3)], [.int (M 1000000 ((x3 + (nI 1)).toNatClampNeg)), .ref 0], (DB o i0 i1 ext), M) rfl h.1 ?_
      have h := h.2
      refine T_callO rfl (OC_mono h (fun v34 o34 ia34 ib34 e34 M34 h => ?_))
      refine T_run 5 (128, 160, [some (.ref 1000000), some (.ref 0), some (.ref 20), some (.int x3)], [.int (x3 + (nI 1)), .ref 1000000, .ref 20, .int v34], (DB o34 ia34 ib34 e34), M34) rfl ?_
      refine T_gd ((x3 + (nI 1)) < 0 ∨ (a_roL M34 0) ≤ (x3 + (nI 1)).toNatClampNeg) (128, 161, [some (.ref 1000000), some (.ref 0), some (.ref 20), some (.int x3)], [.int (M34 1000000 ((x3 + (nI 1)).toNatClampNeg)), .ref 20, .int v34], (DB o34 ia34 ib34 e34), M34) rfl h.1 ?_
      have h := h.2
      refine T_callI (D' := (DB o34 ia34 ib34 e34)) rfl (CI_mono h (fun v36 M35 h => ?_))
      refine T_br (v34 = v36) (128, 400, [some (.ref 1000000), some (.ref 0), some (.ref 20), some (.int x3)], [], (DB o34 ia34 ib34 e34), M35) (128, 163, [some (.ref 1000000), some (.ref 0), some (.ref 20), some (.int x3)], [], (DB o34 ia34 ib34 e34), M35) rfl (fun hc37 => ?_) (fun hc37 => ?_)
      · have h := h.1 hc37
        refine T_run 2 (128, 10, [some (.ref 1000000), some (.ref 0), some (.ref 20), some (.int (x3 + (nI 3)))], [], (DB o34 ia34 ib34 e34), M35) rfl ?_
        exact h
      · have h := h.2 hc37
        refine T_run 1 (128, 164, [some (.ref 1000000), some (.ref 0), some (.ref 20), some (.int x3)], [.int (nI 0)], (DB o34 ia34 ib34 e34), M35) rfl ?_
        exact T_ret rfl h
    have h := h.2 hc8
    by_cases hc9 : ((M 1000000 x3.toNatClampNeg) &&& (nI 31)) = nI 9
    · have h := h.1 hc9
      refine T_ts (x := ((M 1000000 x3.toNatClampNeg) &&& (nI 31))) rfl 9 165 hc9 rfl ?_
      refine T_run 5 (128, 170, [some (.ref 1000000), some (.ref 0), some (.ref 20), some (.int x3)], [.int (x3 + (nI 1)), .ref 1000000, .ref 0], (DB o i0 i1 ext), M) rfl ?_
      refine T_gd ((x3 + (nI 1)) < 0 ∨ (a_roL M 0) ≤ (x3 + (nI 1)).toNatClampNeg) (128, 171, [some (.ref 1000000), some (.ref 0), some (.ref 20), some (.int x3)], [.int (M 1000000 ((x3 + (nI 1)).toNatClampNeg)), .ref 0], (DB o i0 i1 ext), M) rfl h.1 ?_
      have h := h.2
      refine T_callO rfl (OC_mono h (fun v38 o38 ia38 ib38 e38 M38 h => ?_))
      refine T_run 5 (128, 177, [some (.ref 1000000), some (.ref 0), some (.ref 20), some (.int x3)], [.int (x3 + (nI 1)), .ref 1000000, .ref 20, .int v38], (DB o38 ia38 ib38 e38), M38) rfl ?_
      refine T_gd ((x3 + (nI 1)) < 0 ∨ (a_roL M38 0) ≤ (x3 + (nI 1)).toNatClampNeg) (128, 178, [some (.ref 1000000), some (.ref 0), some (.ref 20), some (.int x3)], [.int (M38 1000000 ((x3 + (nI 1)).toNatClampNeg)), .ref 20, .int v38], (DB o38 ia38 ib38 e38), M38) rfl h.1 ?_
      have h := h.2
      refine T_callI (D' := (DB o38 ia38 ib38 e38)) rfl (CI_mono h (fun v40 M39 h => ?_))
      refine T_br (v38 = v40) (128, 400, [some (.ref 1000000), some (.ref 0), some (.ref 20), some (.int x3)], [], (DB o38 ia38 ib38 e38), M39) (128, 180, [some (.ref 1000000), some (.ref 0), some (.ref 20), some (.int x3)], [], (DB o38 ia38 ib38 e38), M39) rfl (fun hc41 => ?_) (fun hc41 => ?_)
      · have h := h.1 hc41
        refine T_run 2 (128, 10, [some (.ref 1000000), some (.ref 0), some (.ref 20), some (.int (x3 + (nI 3)))], [], (DB o38 ia38 ib38 e38), M39) rfl ?_
        exact h
      · have h := h.2 hc41
        refine T_run 1 (128, 181, [some (.ref 1000000), some (.ref 0), some (.ref 20), some (.int x3)], [.int (nI 0)], (DB o38 ia38 ib38 e38), M39) rfl ?_
        exact T_ret rfl h
    have h := h.2 hc9
    by_cases hc10 : ((M 1000000 x3.toNatClampNeg) &&& (nI 31)) = nI 10
    · have h := h.1 hc10
      refine T_ts (x := ((M 1000000 x3.toNatClampNeg) &&& (nI 31))) rfl 10 182 hc10 rfl ?_
      refine T_run 5 (128, 187, [some (.ref 1000000), some (.ref 0), some (.ref 20), some (.int x3)], [.int (x3 + (nI 1)), .ref 1000000, .ref 0], (DB o i0 i1 ext), M) rfl ?_
      refine T_gd ((x3 + (nI 1)) < 0 ∨ (a_roL M 0) ≤ (x3 + (nI 1)).toNatClampNeg) (128, 188, [some (.ref 1000000), some (.ref 0), some (.ref 20), some (.int x3)], [.int (M 1000000 ((x3 + (nI 1)).toNatClampNeg)), .ref 0], (DB o i0 i1 ext), M) rfl h.1 ?_
      have h := h.2
      refine T_callO rfl (OC_mono h (fun v42 o42 ia42 ib42 e42 M42 h => ?_))
      refine T_run 5 (128, 194, [some (.ref 1000000), some (.ref 0), some (.ref 20), some (.int x3)], [.int (x3 + (nI 1)), .ref 1000000, .ref 20, .int v42], (DB o42 ia42 ib42 e42), M42) rfl ?_
      refine T_gd ((x3 + (nI 1)) < 0 ∨ (a_roL M42 0) ≤ (x3 + (nI 1)).toNatClampNeg) (128, 195, [some (.ref 1000000), some (.ref 0), some (.ref 20), some (.int x3)], [.int (M42 1000000 ((x3 + (nI 1)).toNatClampNeg)), .ref 20, .int v42], (DB o42 ia42 ib42 e42), M42) rfl h.1 ?_
      have h := h.2
      refine T_callI (D' := (DB o42 ia42 ib42 e42)) rfl (CI_mono h (fun v44 M43 h => ?_))
      refine T_br (v42 = v44) (128, 400, [some (.ref 1000000), some (.ref 0), some (.ref 20), some (.int x3)], [], (DB o42 ia42 ib42 e42), M43) (128, 197, [some (.ref 1000000), some (.ref 0), some (.ref 20), some (.int x3)], [], (DB o42 ia42 ib42 e42), M43) rfl (fun hc45 => ?_) (fun hc45 => ?_)
      · have h := h.1 hc45
        refine T_run 2 (128, 10, [some (.ref 1000000), some (.ref 0), some (.ref 20), some (.int (x3 + (nI 3)))], [], (DB o42 ia42 ib42 e42), M43) rfl ?_
        exact h
      · have h := h.2 hc45
        refine T_run 1 (128, 198, [some (.ref 1000000), some (.ref 0), some (.ref 20), some (.int x3)], [.int (nI 0)], (DB o42 ia42 ib42 e42), M43) rfl ?_
        exact T_ret rfl h
    have h := h.2 hc10
    by_cases hc11 : ((M 1000000 x3.toNatClampNeg) &&& (nI 31)) = nI 11
    · have h := h.1 hc11
      refine T_ts (x := ((M 1000000 x3.toNatClampNeg) &&& (nI 31))) rfl 11 199 hc11 rfl ?_
      refine T_run 5 (128, 204, [some (.ref 1000000), some (.ref 0), some (.ref 20), some (.int x3)], [.int (x3 + (nI 1)), .ref 1000000, .ref 0], (DB o i0 i1 ext), M) rfl ?_
      refine T_gd ((x3 + (nI 1)) < 0 ∨ (a_roL M 0) ≤ (x3 + (nI 1)).toNatClampNeg) (128, 205, [some (.ref 1000000), some (.ref 0), some (.ref 20), some (.int x3)], [.int (M 1000000 ((x3 + (nI 1)).toNatClampNeg)), .ref 0], (DB o i0 i1 ext), M) rfl h.1 ?_
      have h := h.2
      refine T_callO rfl (OC_mono h (fun v46 o46 ia46 ib46 e46 M46 h => ?_))
      refine T_run 5 (128, 211, [some (.ref 1000000), some (.ref 0), some (.ref 20), some (.int x3)], [.int (x3 + (nI 1)), .ref 1000000, .ref 20, .int v46], (DB o46 ia46 ib46 e46), M46) rfl ?_
      refine T_gd ((x3 + (nI 1)) < 0 ∨ (a_roL M46 0) ≤ (x3 + (nI 1)).toNatClampNeg) (128, 212, [some (.ref 1000000), some (.ref 0), some (.ref 20), some (.int x3)], [.int (M46 1000000 ((x3 + (nI 1)).toNatClampNeg)), .ref 20, .int v46], (DB o46 ia46 ib46 e46), M46) rfl h.1 ?_
      have h := h.2
      refine T_callI (D' := (DB o46 ia46 ib46 e46)) rfl (CI_mono h (fun v48 M47 h => ?_))
      refine T_br (v46 = v48) (128, 400, [some (.ref 1000000), some (.ref 0), some (.ref 20), some (.int x3)], [], (DB o46 ia46 ib46 e46), M47) (128, 214, [some (.ref 1000000), some (.ref 0), some (.ref 20), some (.int x3)], [], (DB o46 ia46 ib46 e46), M47) rfl (fun hc49 => ?_) (fun hc49 => ?_)
      · have h := h.1 hc49
        refine T_run 2 (128, 10, [some (.ref 1000000), some (.ref 0), some (.ref 20), some (.int (x3 + (nI 3)))], [], (DB o46 ia46 ib46 e46), M47) rfl ?_
        exact h
      · have h := h.2 hc49
        refine T_run 1 (128, 215, [some (.ref 1000000), some (.ref 0), some (.ref 20), some (.int x3)], [.int (nI 0)], (DB o46 ia46 ib46 e46), M47) rfl ?_
        exact T_ret rfl h
    have h := h.2 hc11
    by_cases hc12 : ((M 1000000 x3.toNatClampNeg) &&& (nI 31)) = nI 12
    · have h := h.1 hc12
      refine T_ts (x := ((M 1000000 x3.toNatClampNeg) &&& (nI 31))) rfl 12 216 hc12 rfl ?_
      refine T_run 1 (128, 217, [some (.ref 1000000), some (.ref 0), some (.ref 20), some (.int x3)], [.ref 0], (DB o i0 i1 ext), M) rfl ?_
      refine T_callO rfl (OC_mono h (fun v50 o50 ia50 ib50 e50 M50 h => ?_))
      refine T_run 1 (128, 219, [some (.ref 1000000), some (.ref 0), some (.ref 20), some (.int x3)], [.ref 20, .int v50], (DB o50 ia50 ib50 e50), M50) rfl ?_
      refine T_callI (D' := (DB o50 ia50 ib50 e50)) rfl (CI_mono h (fun v52 M51 h => ?_))
      refine T_br (v50 = v52) (128, 400, [some (.ref 1000000), some (.ref 0), some (.ref 20), some (.int x3)], [], (DB o50 ia50 ib50 e50), M51) (128, 221, [some (.ref 1000000), some (.ref 0), some (.ref 20), some (.int x3)], [], (DB o50 ia50 ib50 e50), M51) rfl (fun hc53 => ?_) (fun hc53 => ?_)
      · have h := h.1 hc53
        refine T_run 2 (128, 10, [some (.ref 1000000), some (.ref 0), some (.ref 20), some (.int (x3 + (nI 3)))], [], (DB o50 ia50 ib50 e50), M51) rfl ?_
        exact h
      · have h := h.2 hc53
        refine T_run 1 (128, 222, [some (.ref 1000000), some (.ref 0), some (.ref 20), some (.int x3)], [.int (nI 0)], (DB o50 ia50 ib50 e50), M51) rfl ?_
        exact T_ret rfl h
    have h := h.2 hc12
    by_cases hc13 : ((M 1000000 x3.toNatClampNeg) &&& (nI 31)) = nI 13
    · have h := h.1 hc13
      refine T_ts (x := ((M 1000000 x3.toNatClampNeg) &&& (nI 31))) rfl 13 223 hc13 rfl ?_
      refine T_run 5 (128, 228, [some (.ref 1000000), some (.ref 0), some (.ref 20), some (.int x3)], [.int (x3 + (nI 1)), .ref 1000000, .ref 0], (DB o i0 i1 ext), M) rfl ?_
      refine T_gd ((x3 + (nI 1)) < 0 ∨ (a_roL M 0) ≤ (x3 + (nI 1)).toNatClampNeg) (128, 229, [some (.ref 1000000), some (.ref 0), some (.ref 20), some (.int x3)], [.int (M 1000000 ((x3 + (nI 1)).toNatClampNeg)), .ref 0], (DB o i0 i1 ext), M) rfl h.1 ?_
      have h := h.2
      refine T_callO rfl (OC_mono h (fun v54 o54 ia54 ib54 e54 M54 h => ?_))
      refine T_run 5 (128, 235, [some (.ref 1000000), some (.ref 0), some (.ref 20), some (.int x3)], [.int (x3 + (nI 1)), .ref 1000000, .ref 20, .int v54], (DB o54 ia54 ib54 e54), M54) rfl ?_
      refine T_gd ((x3 + (nI 1)) < 0 ∨ (a_roL M54 0) ≤ (x3 + (nI 1)).toNatClampNeg) (128, 236, [some (.ref 1000000), some (.ref 0), some (.ref 20), some (.int x3)], [.int (M54 1000000 ((x3 + (nI 1)).toNatClampNeg)), .ref 20, .int v54], (DB o54 ia54 ib54 e54), M54) rfl h.1 ?_
      have h := h.2
      refine T_callI (D' := (DB o54 ia54 ib54 e54)) rfl (CI_mono h (fun v56 M55 h => ?_))
      refine T_br (v54 = v56) (128, 400, [some (.ref 1000000), some (.ref 0), some (.ref 20), some (.int x3)], [], (DB o54 ia54 ib54 e54), M55) (128, 238, [some (.ref 1000000), some (.ref 0), some (.ref 20), some (.int x3)], [], (DB o54 ia54 ib54 e54), M55) rfl (fun hc57 => ?_) (fun hc57 => ?_)
      · have h := h.1 hc57
        refine T_run 2 (128, 10, [some (.ref 1000000), some (.ref 0), some (.ref 20), some (.int (x3 + (nI 3)))], [], (DB o54 ia54 ib54 e54), M55) rfl ?_
        exact h
      · have h := h.2 hc57
        refine T_run 1 (128, 239, [some (.ref 1000000), some (.ref 0), some (.ref 20), some (.int x3)], [.int (nI 0)], (DB o54 ia54 ib54 e54), M55) rfl ?_
        exact T_ret rfl h
    have h := h.2 hc13
    by_cases hc14 : ((M 1000000 x3.toNatClampNeg) &&& (nI 31)) = nI 14
    · have h := h.1 hc14
      refine T_ts (x := ((M 1000000 x3.toNatClampNeg) &&& (nI 31))) rfl 14 240 hc14 rfl ?_
      refine T_run 5 (128, 245, [some (.ref 1000000), some (.ref 0), some (.ref 20), some (.int x3)], [.int (x3 + (nI 1)), .ref 1000000, .ref 0], (DB o i0 i1 ext), M) rfl ?_
      refine T_gd ((x3 + (nI 1)) < 0 ∨ (a_roL M 0) ≤ (x3 + (nI 1)).toNatClampNeg) (128, 246, [some (.ref 1000000), some (.ref 0), some (.ref 20), some (.int x3)], [.int (M 1000000 ((x3 + (nI 1)).toNatClampNeg)), .ref 0], (DB o i0 i1 ext), M) rfl h.1 ?_
      have h := h.2
      refine T_run 4 (128, 250, [some (.ref 1000000), some (.ref 0), some (.ref 20), some (.int x3)], [.int (x3 + (nI 2)), .ref 1000000, .int (M 1000000 ((x3 + (nI 1)).toNatClampNeg)), .ref 0], (DB o i0 i1 ext), M) rfl ?_
      refine T_gd ((x3 + (nI 2)) < 0 ∨ (a_roL M 0) ≤ (x3 + (nI 2)).toNatClampNeg) (128, 251, [some (.ref 1000000), some (.ref 0), some (.ref 20), some (.int x3)], [.int (M 1000000 ((x3 + (nI 2)).toNatClampNeg)), .int (M 1000000 ((x3 + (nI 1)).toNatClampNeg)), .ref 0], (DB o i0 i1 ext), M) rfl h.1 ?_
      have h := h.2
      refine T_callO rfl (OC_mono h (fun v58 o58 ia58 ib58 e58 M58 h => ?_))
      refine T_run 5 (128, 257, [some (.ref 1000000), some (.ref 0), some (.ref 20), some (.int x3)], [.int (x3 + (nI 1)), .ref 1000000, .ref 20, .int v58], (DB o58 ia58 ib58 e58), M58) rfl ?_
      refine T_gd ((x3 + (nI 1)) < 0 ∨ (a_roL M58 0) ≤ (x3 + (nI 1)).toNatClampNeg) (128, 258, [some (.ref 1000000), some (.ref 0), some (.ref 20), some (.int x3)], [.int (M58 1000000 ((x3 + (nI 1)).toNatClampNeg)), .ref 20, .int v58], (DB o58 ia58 ib58 e58), M58) rfl h.1 ?_
      have h := h.2
      refine T_run 4 (128, 262, [some (.ref 1000000), some (.ref 0), some (.ref 20), some (.int x3)], [.int (x3 + (nI 2)), .ref 1000000, .int (M58 1000000 ((x3 + (nI 1)).toNatClampNeg)), .ref 20, .int v58], (DB o58 ia58 ib58 e58), M58) rfl ?_
      refine T_gd ((x3 + (nI 2)) < 0 ∨ (a_roL M58 0) ≤ (x3 + (nI 2)).toNatClampNeg) (128, 263, [some (.ref 1000000), some (.ref 0), some (.ref 20), some (.int x3)], [.int (M58 1000000 ((x3 + (nI 2)).toNatClampNeg)), .int (M58 1000000 ((x3 + (nI 1)).toNatClampNeg)), .ref 20, .int v58], (DB o58 ia58 ib58 e58), M58) rfl h.1 ?_
      have h := h.2
      refine T_callI (D' := (DB o58 ia58 ib58 e58)) rfl (CI_mono h (fun v60 M59 h => ?_))
      refine T_br (v58 = v60) (128, 400, [some (.ref 1000000), some (.ref 0), some (.ref 20), some (.int x3)], [], (DB o58 ia58 ib58 e58), M59) (128, 265, [some (.ref 1000000), some (.ref 0), some (.ref 20), some (.int x3)], [], (DB o58 ia58 ib58 e58), M59) rfl (fun hc61 => ?_) (fun hc61 => ?_)
      · have h := h.1 hc61
        refine T_run 2 (128, 10, [some (.ref 1000000), some (.ref 0), some (.ref 20), some (.int (x3 + (nI 3)))], [], (DB o58 ia58 ib58 e58), M59) rfl ?_
        exact h
      · have h := h.2 hc61
        refine T_run 1 (128, 266, [some (.ref 1000000), some (.ref 0), some (.ref 20), some (.int x3)], [.int (nI 0)], (DB o58 ia58 ib58 e58), M59) rfl ?_
        exact T_ret rfl h
    have h := h.2 hc14
    by_cases hc15 : ((M 1000000 x3.toNatClampNeg) &&& (nI 31)) = nI 15
    · have h := h.1 hc15
      refine T_ts (x := ((M 1000000 x3.toNatClampNeg) &&& (nI 31))) rfl 15 267 hc15 rfl ?_
      refine T_run 1 (128, 268, [some (.ref 1000000), some (.ref 0), some (.ref 20), some (.int x3)], [.ref 0], (DB o i0 i1 ext), M) rfl ?_
      refine T_callO rfl (OC_mono h (fun v62 o62 ia62 ib62 e62 M62 h => ?_))
      refine T_run 1 (128, 270, [some (.ref 1000000), some (.ref 0), some (.ref 20), some (.int x3)], [.ref 20, .int v62], (DB o62 ia62 ib62 e62), M62) rfl ?_
      refine T_callI (D' := (DB o62 ia62 ib62 e62)) rfl (CI_mono h (fun v64 M63 h => ?_))
      refine T_br (v62 = v64) (128, 400, [some (.ref 1000000), some (.ref 0), some (.ref 20), some (.int x3)], [], (DB o62 ia62 ib62 e62), M63) (128, 272, [some (.ref 1000000), some (.ref 0), some (.ref 20), some (.int x3)], [], (DB o62 ia62 ib62 e62), M63) rfl (fun hc65 => ?_) (fun hc65 => ?_)
      · have h := h.1 hc65
        refine T_run 2 (128, 10, [some (.ref 1000000), some (.ref 0), some (.ref 20), some (.int (x3 + (nI 3)))], [], (DB o62 ia62 ib62 e62), M63) rfl ?_
        exact h
      · have h := h.2 hc65
        refine T_run 1 (128, 273, [some (.ref 1000000), some (.ref 0), some (.ref 20), some (.int x3)], [.int (nI 0)], (DB o62 ia62 ib62 e62), M63) rfl ?_
        exact T_ret rfl h
    have h := h.2 hc15
    by_cases hc16 : ((M 1000000 x3.toNatClampNeg) &&& (nI 31)) = nI 16
    · have h := h.1 hc16
      refine T_ts (x := ((M 1000000 x3.toNatClampNeg) &&& (nI 31))) rfl 16 274 hc16 rfl ?_
      refine T_run 1 (128, 275, [some (.ref 1000000), some (.ref 0), some (.ref 20), some (.int x3)], [.ref 0], (DB o i0 i1 ext), M) rfl ?_
      refine T_callO rfl (OC_mono h (fun v66 o66 ia66 ib66 e66 M66 h => ?_))
      refine T_run 1 (128, 277, [some (.ref 1000000), some (.ref 0), some (.ref 20), some (.int x3)], [.ref 20, .int v66], (DB o66 ia66 ib66 e66), M66) rfl ?_
      refine T_callI (D' := (DB o66 ia66 ib66 e66)) rfl (CI_mono h (fun v68 M67 h => ?_))
      refine T_br (v66 = v68) (128, 400, [some (.ref 1000000), some (.ref 0), some (.ref 20), some (.int x3)], [], (DB o66 ia66 ib66 e66), M67) (128, 279, [some (.ref 1000000), some (.ref 0), some (.ref 20), some (.int x3)], [], (DB o66 ia66 ib66 e66), M67) rfl (fun hc69 => ?_) (fun hc69 => ?_)
      · have h := h.1 hc69
        refine T_run 2 (128, 10, [some (.ref 1000000), some (.ref 0), some (.ref 20), some (.int (x3 + (nI 3)))], [], (DB o66 ia66 ib66 e66), M67) rfl ?_
        exact h
      · have h := h.2 hc69
        refine T_run 1 (128, 280, [some (.ref 1000000), some (.ref 0), some (.ref 20), some (.int x3)], [.int (nI 0)], (DB o66 ia66 ib66 e66), M67) rfl ?_
        exact T_ret rfl h
    have h := h.2 hc16
    by_cases hc17 : ((M 1000000 x3.toNatClampNeg) &&& (nI 31)) = nI 17
    · have h := h.1 hc17
      refine T_ts (x := ((M 1000000 x3.toNatClampNeg) &&& (nI 31))) rfl 17 281 hc17 rfl ?_
      refine T_run 5 (128, 286, [some (.ref 1000000), some (.ref 0), some (.ref 20), some (.int x3)], [.int (x3 + (nI 1)), .ref 1000000, .ref 0], (DB o i0 i1 ext), M) rfl ?_
      refine T_gd ((x3 + (nI 1)) < 0 ∨ (a_roL M 0) ≤ (x3 + (nI 1)).toNatClampNeg) (128, 287, [some (.ref 1000000), some (.ref 0), some (.ref 20), some (.int x3)], [.int (M 1000000 ((x3 + (nI 1)).toNatClampNeg)), .ref 0], (DB o i0 i1 ext), M) rfl h.1 ?_
      have h := h.2
      refine T_callO rfl (OC_mono h (fun v70 o70 ia70 ib70 e70 M70 h => ?_))
      refine T_run 5 (128, 293, [some (.ref 1000000), some (.ref 0), some (.ref 20), some (.int x3)], [.int (x3 + (nI 1)), .ref 1000000, .ref 20, .int v70], (DB o70 ia70 ib70 e70), M70) rfl ?_
      refine T_gd ((x3 + (nI 1)) < 0 ∨ (a_roL M70 0) ≤ (x3 + (nI 1)).toNatClampNeg) (128, 294, [some (.ref 1000000), some (.ref 0), some (.ref 20), some (.int x3)], [.int (M70 1000000 ((x3 + (nI 1)).toNatClampNeg)), .ref 20, .int v70], (DB o70 ia70 ib70 e70), M70) rfl h.1 ?_
      have h := h.2
      refine T_callI (D' := (DB o70 ia70 ib70 e70)) rfl (CI_mono h (fun v72 M71 h => ?_))
      refine T_br (v70 = v72) (128, 400, [some (.ref 1000000), some (.ref 0), some (.ref 20), some (.int x3)], [], (DB o70 ia70 ib70 e70), M71) (128, 296, [some (.ref 1000000), some (.ref 0), some (.ref 20), some (.int x3)], [], (DB o70 ia70 ib70 e70), M71) rfl (fun hc73 => ?_) (fun hc73 => ?_)
      · have h := h.1 hc73
        refine T_run 2 (128, 10, [some (.ref 1000000), some (.ref 0), some (.ref 20), some (.int (x3 + (nI 3)))], [], (DB o70 ia70 ib70 e70), M71) rfl ?_
        exact h
      · have h := h.2 hc73
        refine T_run 1 (128, 297, [some (.ref 1000000), some (.ref 0), some (.ref 20), some (.int x3)], [.int (nI 0)], (DB o70 ia70 ib70 e70), M71) rfl ?_
        exact T_ret rfl h
    have h := h.2 hc17
    by_cases hc18 : ((M 1000000 x3.toNatClampNeg) &&& (nI 31)) = nI 18
    · have h := h.1 hc18
      refine T_ts (x := ((M 1000000 x3.toNatClampNeg) &&& (nI 31))) rfl 18 298 hc18 rfl ?_
      refine T_run 1 (128, 299, [some (.ref 1000000), some (.ref 0), some (.ref 20), some (.int x3)], [.ref 0], (DB o i0 i1 ext), M) rfl ?_
      refine T_callO rfl (OC_mono h (fun v74 o74 ia74 ib74 e74 M74 h => ?_))
      refine T_run 1 (128, 301, [some (.ref 1000000), some (.ref 0), some (.ref 20), some (.int x3)], [.ref 20, .int v74], (DB o74 ia74 ib74 e74), M74) rfl ?_
      refine T_callI (D' := (DB o74 ia74 ib74 e74)) rfl (CI_mono h (fun v76 M75 h => ?_))
      refine T_br (v74 = v76) (128, 400, [some (.ref 1000000), some (.ref 0), some (.ref 20), some (.int x3)], [], (DB o74 ia74 ib74 e74), M75) (128, 303, [some (.ref 1000000), some (.ref 0), some (.ref 20), some (.int x3)], [], (DB o74 ia74 ib74 e74), M75) rfl (fun hc77 => ?_) (fun hc77 => ?_)
      · have h := h.1 hc77
        refine T_run 2 (128, 10, [some (.ref 1000000), some (.ref 0), some (.ref 20), some (.int (x3 + (nI 3)))], [], (DB o74 ia74 ib74 e74), M75) rfl ?_
        exact h
      · have h := h.2 hc77
        refine T_run 1 (128, 304, [some (.ref 1000000), some (.ref 0), some (.ref 20), some (.int x3)], [.int (nI 0)], (DB o74 ia74 ib74 e74), M75) rfl ?_
        exact T_ret rfl h
    have h := h.2 hc18
    by_cases hc19 : ((M 1000000 x3.toNatClampNeg) &&& (nI 31)) = nI 19
    · have h := h.1 hc19
      refine T_ts (x := ((M 1000000 x3.toNatClampNeg) &&& (nI 31))) rfl 19 305 hc19 rfl ?_
      refine T_run 5 (128, 310, [some (.ref 1000000), some (.ref 0), some (.ref 20), some (.int x3)], [.int (x3 + (nI 1)), .ref 1000000, .ref 0], (DB o i0 i1 ext), M) rfl ?_
      refine T_gd ((x3 + (nI 1)) < 0 ∨ (a_roL M 0) ≤ (x3 + (nI 1)).toNatClampNeg) (128, 311, [some (.ref 1000000), some (.ref 0), some (.ref 20), some (.int x3)], [.int (M 1000000 ((x3 + (nI 1)).toNatClampNeg)), .ref 0], (DB o i0 i1 ext), M) rfl h.1 ?_
      have h := h.2
      refine T_callO rfl (OC_mono h (fun v78 o78 ia78 ib78 e78 M78 h => ?_))
      refine T_run 5 (128, 317, [some (.ref 1000000), some (.ref 0), some (.ref 20), some (.int x3)], [.int (x3 + (nI 1)), .ref 1000000, .ref 20, .int v78], (DB o78 ia78 ib78 e78), M78) rfl ?_
      refine T_gd ((x3 + (nI 1)) < 0 ∨ (a_roL M78 0) ≤ (x3 + (nI 1)).toNatClampNeg) (128, 318, [some (.ref 1000000), some (.ref 0), some (.ref 20), some (.int x3)], [.int (M78 1000000 ((x3 + (nI 1)).toNatClampNeg)), .ref 20, .int v78], (DB o78 ia78 ib78 e78), M78) rfl h.1 ?_
      have h := h.2
      refine T_callI (D' := (DB o78 ia78 ib78 e78)) rfl (CI_mono h (fun v80 M79 h => ?_))
      refine T_br (v78 = v80) (128, 400, [some (.ref 1000000), some (.ref 0), some (.ref 20), some (.int x3)], [], (DB o78 ia78 ib78 e78), M79) (128, 320, [some (.ref 1000000), some (.ref 0), some (.ref 20), some (.int x3)], [], (DB o78 ia78 ib78 e78), M79) rfl (fun hc81 => ?_) (fun hc81 => ?_)
      · have h := h.1 hc81
        refine T_run 2 (128, 10, [some (.ref 1000000), some (.ref 0), some (.ref 20), some (.int (x3 + (nI 3)))], [], (DB o78 ia78 ib78 e78), M79) rfl ?_
        exact h
      · have h := h.2 hc81
        refine T_run 1 (128, 321, [some (.ref 1000000), some (.ref 0), some (.ref 20), some (.int x3)], [.int (nI 0)], (DB o78 ia78 ib78 e78), M79) rfl ?_
        exact T_ret rfl h
    have h := h.2 hc19
    by_cases hc20 : ((M 1000000 x3.toNatClampNeg) &&& (nI 31)) = nI 20
    · have h := h.1 hc20
      refine T_ts (x := ((M 1000000 x3.toNatClampNeg) &&& (nI 31))) rfl 20 322 hc20 rfl ?_
      refine T_run 5 (128, 327, [some (.ref 1000000), some (.ref 0), some (.ref 20), some (.int x3)], [.int (x3 + (nI 1)), .ref 1000000, .ref 0], (DB o i0 i1 ext), M) rfl ?_
      refine T_gd ((x3 + (nI 1)) < 0 ∨ (a_roL M 0) ≤ (x3 + (nI 1)).toNatClampNeg) (128, 328, [some (.ref 1000000), some (.ref 0), some (.ref 20), some (.int x3)], [.int (M 1000000 ((x3 + (nI 1)).toNatClampNeg)), .ref 0], (DB o i0 i1 ext), M) rfl h.1 ?_
      have h := h.2
      refine T_run 4 (128, 332, [some (.ref 1000000), some (.ref 0), some (.ref 20), some (.int x3)], [.int (x3 + (nI 2)), .ref 1000000, .int (M 1000000 ((x3 + (nI 1)).toNatClampNeg)), .ref 0], (DB o i0 i1 ext), M) rfl ?_
      refine T_gd ((x3 + (nI 2)) < 0 ∨ (a_roL M 0) ≤ (x3 + (nI 2)).toNatClampNeg) (128, 333, [some (.ref 1000000), some (.ref 0), some (.ref 20), some (.int x3)], [.int (M 1000000 ((x3 + (nI 2)).toNatClampNeg)), .int (M 1000000 ((x3 + (nI 1)).toNatClampNeg)), .ref 0], (DB o i0 i1 ext), M) rfl h.1 ?_
      have h := h.2
      refine T_callO rfl (OC_mono h (fun v82 o82 ia82 ib82 e82 M82 h => ?_))
      refine T_run 5 (128, 339, [some (.ref 1000000), some (.ref 0), some (.ref 20), some (.int x3)], [.int (x3 + (nI 1)), .ref 1000000, .ref 20, .int v82], (DB o82 ia82 ib82 e82), M82) rfl ?_
      refine T_gd ((x3 + (nI 1)) < 0 ∨ (a_roL M82 0) ≤ (x3 + (nI 1)).toNatClampNeg) (128, 340, [some (.ref 1000000), some (.ref 0), some (.ref 20), some (.int x3)], [.int (M82 1000000 ((x3 + (nI 1)).toNatClampNeg)), .ref 20, .int v82], (DB o82 ia82 ib82 e82), M82) rfl h.1 ?_
      have h := h.2
      refine T_run 4 (128, 344, [some (.ref 1000000), some (.ref 0), some (.ref 20), some (.int x3)], [.int (x3 + (nI 2)), .ref 1000000, .int (M82 1000000 ((x3 + (nI 1)).toNatClampNeg)), .ref 20, .int v82], (DB o82 ia82 ib82 e82), M82) rfl ?_
      refine T_gd ((x3 + (nI 2)) < 0 ∨ (a_roL M82 0) ≤ (x3 + (nI 2)).toNatClampNeg) (128, 345, [some (.ref 1000000), some (.ref 0), some (.ref 20), some (.int x3)], [.int (M82 1000000 ((x3 + (nI 2)).toNatClampNeg)), .int (M82 1000000 ((x3 + (nI 1)).toNatClampNeg)), .ref 20, .int v82], (DB o82 ia82 ib82 e82), M82) rfl h.1 ?_
      have h := h.2
      refine T_callI (D' := (DB o82 ia82 ib82 e82)) rfl (CI_mono h (fun v84 M83 h => ?_))
      refine T_br (v82 = v84) (128, 400, [some (.ref 1000000), some (.ref 0), some (.ref 20), some (.int x3)], [], (DB o82 ia82 ib82 e82), M83) (128, 347, [some (.ref 1000000), some (.ref 0), some (.ref 20), some (.int x3)], [], (DB o82 ia82 ib82 e82), M83) rfl (fun hc85 => ?_) (fun hc85 => ?_)
      · have h := h.1 hc85
        refine T_run 2 (128, 10, [some (.ref 1000000), some (.ref 0), some (.ref 20), some (.int (x3 + (nI 3)))], [], (DB o82 ia82 ib82 e82), M83) rfl ?_
        exact h
      · have h := h.2 hc85
        refine T_run 1 (128, 348, [some (.ref 1000000), some (.ref 0), some (.ref 20), some (.int x3)], [.int (nI 0)], (DB o82 ia82 ib82 e82), M83) rfl ?_
        exact T_ret rfl h
    have h := h.2 hc20
    by_cases hc21 : ((M 1000000 x3.toNatClampNeg) &&& (nI 31)) = nI 21
    · have h := h.1 hc21
      refine T_ts (x := ((M 1000000 x3.toNatClampNeg) &&& (nI 31))) rfl 21 349 hc21 rfl ?_
      refine T_run 5 (128, 354, [some (.ref 1000000), some (.ref 0), some (.ref 20), some (.int x3)], [.int (x3 + (nI 1)), .ref 1000000, .ref 0], (DB o i0 i1 ext), M) rfl ?_
      refine T_gd ((x3 + (nI 1)) < 0 ∨ (a_roL M 0) ≤ (x3 + (nI 1)).toNatClampNeg) (128, 355, [some (.ref 1000000), some (.ref 0), some (.ref 20), some (.int x3)], [.int (M 1000000 ((x3 + (nI 1)).toNatClampNeg)), .ref 0], (DB o i0 i1 ext), M) rfl h.1 ?_
      have h := h.2
      refine T_callO rfl (OC_mono h (fun v86 o86 ia86 ib86 e86 M86 h => ?_))
      refine T_run 5 (128, 361, [some (.ref 1000000), some (.ref 0), some (.ref 20), some (.int x3)], [.int (x3 + (nI 1)), .ref 1000000, .ref 20, .int v86], (DB o86 ia86 ib86 e86), M86) rfl ?_
      refine T_gd ((x3 + (nI 1)) < 0 ∨ (a_roL M86 0) ≤ (x3 + (nI 1)).toNatClampNeg) (128, 362, [some (.ref 1000000), some (.ref 0), some (.ref 20), some (.int x3)], [.int (M86 1000000 ((x3 + (nI 1)).toNatClampNeg)), .ref 20, .int v86], (DB o86 ia86 ib86 e86), M86) rfl h.1 ?_
      have h := h.2
      refine T_callI (D' := (DB o86 ia86 ib86 e86)) rfl (CI_mono h (fun v88 M87 h => ?_))
      refine T_br (v86 = v88) (128, 400, [some (.ref 1000000), some (.ref 0), some (.ref 20), some (.int x3)], [], (DB o86 ia86 ib86 e86), M87) (128, 364, [some (.ref 1000000), some (.ref 0), some (.ref 20), some (.int x3)], [], (DB o86 ia86 ib86 e86), M87) rfl (fun hc89 => ?_) (fun hc89 => ?_)
      · have h := h.1 hc89
        refine T_run 2 (128, 10, [some (.ref 1000000), some (.ref 0), some (.ref 20), some (.int (x3 + (nI 3)))], [], (DB o86 ia86 ib86 e86), M87) rfl ?_
        exact h
      · have h := h.2 hc89
        refine T_run 1 (128, 365, [some (.ref 1000000), some (.ref 0), some (.ref 20), some (.int x3)], [.int (nI 0)], (DB o86 ia86 ib86 e86), M87) rfl ?_
        exact T_ret rfl h
    have h := h.2 hc21
    by_cases hc22 : ((M 1000000 x3.toNatClampNeg) &&& (nI 31)) = nI 22
    · have h := h.1 hc22
      refine T_ts (x := ((M 1000000 x3.toNatClampNeg) &&& (nI 31))) rfl 22 366 hc22 rfl ?_
      refine T_run 5 (128, 371, [some (.ref 1000000), some (.ref 0), some (.ref 20), some (.int x3)], [.int (x3 + (nI 1)), .ref 1000000, .ref 0], (DB o i0 i1 ext), M) rfl ?_
      refine T_gd ((x3 + (nI 1)) < 0 ∨ (a_roL M 0) ≤ (x3 + (nI 1)).toNatClampNeg) (128, 372, [some (.ref 1000000), some (.ref 0), some (.ref 20), some (.int x3)], [.int (M 1000000 ((x3 + (nI 1)).toNatClampNeg)), .ref 0], (DB o i0 i1 ext), M) rfl h.1 ?_
      have h := h.2
      refine T_callO rfl (OC_mono h (fun v90 o90 ia90 ib90 e90 M90 h => ?_))
      refine T_run 5 (128, 378, [some (.ref 1000000), some (.ref 0), some (.ref 20), some (.int x3)], [.int (x3 + (nI 1)), .ref 1000000, .ref 20, .int v90], (DB o90 ia90 ib90 e90), M90) rfl ?_
      refine T_gd ((x3 + (nI 1)) < 0 ∨ (a_roL M90 0) ≤ (x3 + (nI 1)).toNatClampNeg) (128, 379, [some (.ref 1000000), some (.ref 0), some (.ref 20), some (.int x3)], [.int (M90 1000000 ((x3 + (nI 1)).toNatClampNeg)), .ref 20, .int v90], (DB o90 ia90 ib90 e90), M90) rfl h.1 ?_
      have h := h.2
      refine T_callI (D' := (DB o90 ia90 ib90 e90)) rfl (CI_mono h (fun v92 M91 h => ?_))
      refine T_br (v90 = v92) (128, 400, [some (.ref 1000000), some (.ref 0), some (.ref 20), some (.int x3)], [], (DB o90 ia90 ib90 e90), M91) (128, 381, [some (.ref 1000000), some (.ref 0), some (.ref 20), some (.int x3)], [], (DB o90 ia90 ib90 e90), M91) rfl (fun hc93 => ?_) (fun hc93 => ?_)
      · have h := h.1 hc93
        refine T_run 2 (128, 10, [some (.ref 1000000), some (.ref 0), some (.ref 20), some (.int (x3 + (nI 3)))], [], (DB o90 ia90 ib90 e90), M91) rfl ?_
        exact h
      · have h := h.2 hc93
        refine T_run 1 (128, 382, [some (.ref 1000000), some (.ref 0), some (.ref 20), some (.int x3)], [.int (nI 0)], (DB o90 ia90 ib90 e90), M91) rfl ?_
        exact T_ret rfl h
    have h := h.2 hc22
    by_cases hc23 : ((M 1000000 x3.toNatClampNeg) &&& (nI 31)) = nI 23
    · have h := h.1 hc23
      refine T_ts (x := ((M 1000000 x3.toNatClampNeg) &&& (nI 31))) rfl 23 383 hc23 rfl ?_
      refine T_run 5 (128, 388, [some (.ref 1000000), some (.ref 0), some (.ref 20), some (.int x3)], [.int (x3 + (nI 1)), .ref 1000000, .ref 0], (DB o i0 i1 ext), M) rfl ?_
      refine T_gd ((x3 + (nI 1)) < 0 ∨ (a_roL M 0) ≤ (x3 + (nI 1)).toNatClampNeg) (128, 389, [some (.ref 1000000), some (.ref 0), some (.ref 20), some (.int x3)], [.int (M 1000000 ((x3 + (nI 1)).toNatClampNeg)), .ref 0], (DB o i0 i1 ext), M) rfl h.1 ?_
      have h := h.2
      refine T_callO rfl (OC_mono h (fun v94 o94 ia94 ib94 e94 M94 h => ?_))
      refine T_run 5 (128, 395, [some (.ref 1000000), some (.ref 0), some (.ref 20), some (.int x3)], [.int (x3 + (nI 1)), .ref 1000000, .ref 20, .int v94], (DB o94 ia94 ib94 e94), M94) rfl ?_
      refine T_gd ((x3 + (nI 1)) < 0 ∨ (a_roL M94 0) ≤ (x3 + (nI 1)).toNatClampNeg) (128, 396, [some (.ref 1000000), some (.ref 0), some (.ref 20), some (.int x3)], [.int (M94 1000000 ((x3 + (nI 1)).toNatClampNeg)), .ref 20, .int v94], (DB o94 ia94 ib94 e94), M94) rfl h.1 ?_
      have h := h.2
      refine T_callI (D' := (DB o94 ia94 ib94 e94)) rfl (CI_mono h (fun v96 M95 h => ?_))
      refine T_br (v94 = v96) (128, 400, [some (.ref 1000000), some (.ref 0), some (.ref 20), some (.int x3)], [], (DB o94 ia94 ib94 e94), M95) (128, 398, [some (.ref 1000000), some (.ref 0), some (.ref 20), some (.int x3)], [], (DB o94 ia94 ib94 e94), M95) rfl (fun hc97 => ?_) (fun hc97 => ?_)
      · have h := h.1 hc97
        refine T_run 2 (128, 10, [some (.ref 1000000), some (.ref 0), some (.ref 20), some (.int (x3 + (nI 3)))], [], (DB o94 ia94 ib94 e94), M95) rfl ?_
        exact h
      · have h := h.2 hc97
        refine T_run 1 (128, 399, [some (.ref 1000000), some (.ref 0), some (.ref 20), some (.int x3)], [.int (nI 0)], (DB o94 ia94 ib94 e94), M95) rfl ?_
        exact T_ret rfl h
    have h := h.2 hc23
    refine T_td (x := ((M 1000000 x3.toNatClampNeg) &&& (nI 31))) rfl 24 rfl (by decide) (fun i hi => ?_) ?_
    · match i, hi with
      | 0, _ => exact hc0
      | 1, _ => exact hc1
      | 2, _ => exact hc2
      | 3, _ => exact hc3
      | 4, _ => exact hc4
      | 5, _ => exact hc5
      | 6, _ => exact hc6
      | 7, _ => exact hc7
      | 8, _ => exact hc8
      | 9, _ => exact hc9
      | 10, _ => exact hc10
      | 11, _ => exact hc11
      | 12, _ => exact hc12
      | 13, _ => exact hc13
      | 14, _ => exact hc14
      | 15, _ => exact hc15
      | 16, _ => exact hc16
      | 17, _ => exact hc17
      | 18, _ => exact hc18
      | 19, _ => exact hc19
      | 20, _ => exact hc20
      | 21, _ => exact hc21
      | 22, _ => exact hc22
      | 23, _ => exact hc23
      | i + 24, hi => exact absurd hi (by omega)
    refine T_run 2 (128, 10, [some (.ref 1000000), some (.ref 0), some (.ref 20), some (.int (x3 + (nI 3)))], [], (DB o i0 i1 ext), M) rfl ?_
    exact h
theorem b_L_law_0 {d : Nat} {Q : ARs → Prop} {M : AMm} (h : CV d 36 [.ref 0] [(.inl (4, [some none, none, some none, some none, some none, some none, some none, none, some none, some none, some none, none, none, none, none, none, none, none]) : ADc)] (mr M 0 (fun _ => 0)) D20 (fun M1 => CV d 73 [.ref 20] [(.inl (4, [some (some 1), none, some (some 2), some (some 6), some (some 7), some (some 8), some (some 13), none, some (some 15), some (some 17), some (some 19), none, none, none, none, none, none, none]) : ADc), (.inr (.inl (0, 40)) : ADc), (.inl (1, [none, none, none, none, none, none, some (some 3), some (some 4), some (some 5)]) : ADc), (.inr (.inl (0, 16)) : ADc), (.inr (.inl (0, 64)) : ADc), (.inr (.inl (0, 16)) : ADc), (.inr (.inr [none, none]) : ADc), (.inl (2, [none, none, none, none, none]) : ADc), (.inl (3, [some none, none, none, none, none, some (some 9), some (some 10), some (some 11), some (some 12)]) : ADc), (.inr (.inl (0, 16)) : ADc), (.inr (.inl (0, 16)) : ADc), (.inr (.inl (0, 16)) : ADc), (.inr (.inl (0, 16)) : ADc), (.inl (0, [none, none, some (some 14)]) : ADc), (.inr (.inl (0, 16)) : ADc), (.inl (0, [none, none, some (some 16)]) : ADc), (.inr (.inl (0, 16)) : ADc), (.inl (0, [none, none, some (some 18)]) : ADc), (.inr (.inl (0, 16)) : ADc), (.inr (.inl (0, 16)) : ADc), (.inl (5, [none, none, some none, none, none, some none, none, none, none, none, none, none, some none, some none, some none, some none, none, some none, some none, none, none]) : ADc)] (mr M1 20 (fun _ => 0)) (DB none none none []) (fun M2 => T (d + 1) Q (128, 10, [some (.ref 1000000), some (.ref 0), some (.ref 20), some (.int (nI 0))], [], (DB none none none []), M2)))) : T (d + 1) Q (ent 128 [.ref 1000000] [] M) := by
  refine T_run 2 (128, 2, [some (.ref 1000000), none, none, none], [.ref 0, .ref 0], [(.inl (4, [some none, none, some none, some none, some none, some none, some none, none, some none, some none, some none, none, none, none, none, none, none, none]) : ADc)], mr M 0 (fun _ => 0)) rfl ?_
  refine T_callV (D' := D20) rfl (CV_mono h (fun M1 h => ?_))
  refine T_run 3 (128, 6, [some (.ref 1000000), some (.ref 0), none, none], [.ref 20, .ref 20], [(.inl (4, [some (some 1), none, some (some 2), some (some 6), some (some 7), some (some 8), some (some 13), none, some (some 15), some (some 17), some (some 19), none, none, none, none, none, none, none]) : ADc), (.inr (.inl (0, 40)) : ADc), (.inl (1, [none, none, none, none, none, none, some (some 3), some (some 4), some (some 5)]) : ADc), (.inr (.inl (0, 16)) : ADc), (.inr (.inl (0, 64)) : ADc), (.inr (.inl (0, 16)) : ADc), (.inr (.inr [none, none]) : ADc), (.inl (2, [none, none, none, none, none]) : ADc), (.inl (3, [some none, none, none, none, none, some (some 9), some (some 10), some (some 11), some (some 12)]) : ADc), (.inr (.inl (0, 16)) : ADc), (.inr (.inl (0, 16)) : ADc), (.inr (.inl (0, 16)) : ADc), (.inr (.inl (0, 16)) : ADc), (.inl (0, [none, none, some (some 14)]) : ADc), (.inr (.inl (0, 16)) : ADc), (.inl (0, [none, none, some (some 16)]) : ADc), (.inr (.inl (0, 16)) : ADc), (.inl (0, [none, none, some (some 18)]) : ADc), (.inr (.inl (0, 16)) : ADc), (.inr (.inl (0, 16)) : ADc), (.inl (5, [none, none, some none, none, none, some none, none, none, none, none, none, none, some none, some none, some none, some none, none, some none, some none, none, none]) : ADc)], mr M1 20 (fun _ => 0)) rfl ?_
  refine T_callV (D' := DB none none none []) rfl (CV_mono h (fun M2 h => ?_))
  refine T_run 3 (128, 10, [some (.ref 1000000), some (.ref 0), some (.ref 20), some (.int (nI 0))], [], (DB none none none []), M2) rfl ?_
  exact h
