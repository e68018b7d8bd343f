-- THE LAW: class and model answer alike
section L1
variable {o i0 i1 : Option Nat} {ext : ADd} {M M' : AMm} {R C bg sp pn : Nat} {er pd : Nat → Int32} {j0 j1 : Option Fld}
theorem CS.out (h : CS R C er bg sp pn pd j0 j1 o i0 i1 ext M) (hm : FO M M') : CS R C er bg sp pn pd j0 j1 o i0 i1 ext M' := by
  obtain ⟨h1, h2, h3, h4, h5, h6⟩ := h
  exact ⟨h1.of (fun a ha => hm a (by omega)), h2.of (hm _ (by omega)) (hm _ (by omega)) (hm _ (by omega)) (hm _ (by omega)), h3, h4.of (by rw [hm 0 (by omega)]) (hm _ (by omega)), h5.of (Or.inl rfl) (fun b => by rw [hm 0 (by omega)]) (fun a z1 z2 => hm a (by omega)), h6.of (fun a z1 z2 => hm a (by omega))⟩
theorem MS.out (h : MS R C er bg sp pn pd j0 j1 M) (hm : ∀ a, ((20 ≤ a ∧ a ≤ 28) ∨ 36 < a) → M' a = M a) : MS R C er bg sp pn pd j0 j1 M' := ⟨h.1.of (fun b _ => by rw [hm 20 (by omega)]) (hm 21 (by omega)), h.2.1.of (fun b _ => by rw [hm 20 (by omega)]) (hm 22 (by omega)), h.2.2.1.of (hm 27 (by omega)) (hm 28 (by omega)), h.2.2.2.of (hm 27 (by omega)) (hm 28 (by omega))⟩
theorem IM.w0 (h : IM j0 j1 i0 i1 ext M) : ∀ f, j0 = some f → WFl f := by
  rcases h with ⟨a1, a2, a3, a4, a5⟩ | ⟨f, a1, a2, a3, a4, a5, a6, a7⟩ | ⟨f, a1, a2, a3, a4, a5, a6, a7⟩ | ⟨f, g, a1, a2, a3, a4, a5, a6, a7, a8, a9⟩ | ⟨f, g, a1, a2, a3, a4, a5, a6, a7, a8, a9⟩ <;> intro f' hf <;> rw [a1] at hf <;> cases hf <;> assumption
theorem IM.w1 (h : IM j0 j1 i0 i1 ext M) : ∀ f, j1 = some f → WFl f := by
  rcases h with ⟨a1, a2, a3, a4, a5⟩ | ⟨f, a1, a2, a3, a4, a5, a6, a7⟩ | ⟨f, a1, a2, a3, a4, a5, a6, a7⟩ | ⟨f, g, a1, a2, a3, a4, a5, a6, a7, a8, a9⟩ | ⟨f, g, a1, a2, a3, a4, a5, a6, a7, a8, a9⟩ <;> intro f' hf <;> rw [a2] at hf <;> cases hf <;> assumption
/-- what holds between two calls -/
def LI (xs : Nat → Int32) (L : Nat) (o i0 i1 : Option Nat) (ext : ADd) (M : AMm) : Prop := ∃ R C er bg sp pn pd j0 j1, CS R C er bg sp pn pd j0 j1 o i0 i1 ext M ∧ MS R C er bg sp pn pd j0 j1 M ∧ M 1000000 = xs ∧ M 1000004 0 = nI L
theorem LI_of {xs : Nat → Int32} {L : Nat} (hC : CS R C er bg sp pn pd j0 j1 o i0 i1 ext M) (hS : MS R C er bg sp pn pd j0 j1 M') (hO : FO M M') (e1 : M 1000000 = xs) (e2 : M 1000004 0 = nI L) : LI xs L o i0 i1 ext M' := ⟨R, C, er, bg, sp, pn, pd, j0, j1, hC.out hO, hS, by rw [hO 1000000 (by omega)]; exact e1, by rw [hO 1000004 (by omega)]; exact e2⟩
theorem ro_in {L j : Nat} (h : M 1000004 0 = nI L) (hL : L ≤ 1536) (hj : j < L) : vp_in (nI j) (a_roL M 0) := by
  have e : a_roL M 0 = L := by
    show (M 1000004 0).toNatClampNeg = L
    rw [h, n_cl (by omega)]
  rw [e]
  exact n_in hj (by omega)
theorem ro_cl {L i : Nat} (h : L < 2000) (hL : ¬ (nI L - nI 3) < nI i) (hi : i < 2000) : i + 3 ≤ L := by
  apply Classical.byContradiction
  intro hn
  apply hL
  rcases Nat.lt_or_ge L 3 with z | z
  · have h1 : nI L - nI 3 < 0 := pk_sneg (by decide) z
    have h2 : ¬ nI i < 0 := nI_pos (by omega)
    rw [fa_lt] at h1 h2 ⊢
    omega
  · rw [pk_sub z, n_lt (by omega) (by omega)]
    omega
theorem ext_fit (h : IM j0 j1 i0 i1 ext M) : (DB o i0 i1 ext).length ≤ 600000 ∧ a_szs (DB o i0 i1 ext) ≤ 7302250 := by
  rcases h with ⟨a1, a2, a3, a4, a5⟩ | ⟨f, a1, a2, a3, a4, a5, a6, a7⟩ | ⟨f, a1, a2, a3, a4, a5, a6, a7⟩ | ⟨f, g, a1, a2, a3, a4, a5, a6, a7, a8, a9⟩ | ⟨f, g, a1, a2, a3, a4, a5, a6, a7, a8, a9⟩ <;> subst a5 <;> exact ⟨by simp [DB, EI], by simp [DB, EI, a_szs, a_sz]⟩
end L1
theorem law_step {Q : ARs → Prop} {xs : Nat → Int32} {L i : Nat} {o i0 i1 : Option Nat} {ext : ADd} {M : AMm} (hL : L ≤ 1536) (hi : i ≤ 1536) (hI : LI xs L o i0 i1 ext M) (hq : (nI L - nI 3) < nI i → Q (some (.int (nI 1)), DB o i0 i1 ext, M)) (nxt : i + 3 ≤ L → ∀ o i0 i1 ext M, LI xs L o i0 i1 ext M → T (59 + 1) Q (128, 10, [some (.ref 1000000), some (.ref 0), some (.ref 20), some (.int (nI (i + 3)))], [], (DB o i0 i1 ext), M)) : T (59 + 1) Q (128, 10, [some (.ref 1000000), some (.ref 0), some (.ref 20), some (.int (nI i))], [], (DB o i0 i1 ext), M) := by
  have hI0 := hI
  obtain ⟨R, C, er, bg, sp, pn, pd, j0, j1, hC, hS, hX, hN⟩ := hI
  refine b_L_law_10 _ ?_
  rw [hN, hX, nI_add, nI_add, nI_add, n_cl (show i < 2 ^ 31 by omega), n_cl (show i + 1 < 2 ^ 31 by omega), n_cl (show i + 2 < 2 ^ 31 by omega)]
  refine ⟨hq, fun hlt => ?_⟩
  have h3 : i + 3 ≤ L := ro_cl (by omega) hlt (by omega)
  have nxt := nxt h3
  refine ⟨ro_in hN hL (by omega), ?_⟩
  refine ⟨fun _ => ?_, fun _ => ⟨fun _ => ?_, fun _ => ⟨fun _ => ?_, fun _ => ⟨fun _ => ?_, fun _ => ⟨fun _ => ?_, fun _ => ⟨fun _ => ?_, fun _ => ⟨fun _ => ?_, fun _ => ⟨fun _ => ?_, fun _ => ⟨fun _ => ?_, fun _ => ⟨fun _ => ?_, fun _ => ⟨fun _ => ?_, fun _ => ⟨fun _ => ?_, fun _ => ⟨fun _ => ?_, fun _ => ⟨fun _ => ?_, fun _ => ⟨fun _ => ?_, fun _ => ⟨fun _ => ?_, fun _ => ⟨fun _ => ?_, fun _ => ⟨fun _ => ?_, fun _ => ⟨fun _ => ?_, fun _ => ⟨fun _ => ?_, fun _ => ⟨fun _ => ?_, fun _ => ⟨fun _ => ?_, fun _ => ⟨fun _ => ?_, fun _ => ⟨fun _ => ?_, fun _ => nxt _ _ _ _ M hI0⟩⟩⟩⟩⟩⟩⟩⟩⟩⟩⟩⟩⟩⟩⟩⟩⟩⟩⟩⟩⟩⟩⟩⟩
  · refine ⟨ro_in hN hL (by omega), ro_in hN hL (by omega), OC_mono (q_field (d := 54) hC _ _) (fun v o1 ia ib e M1 hc => ?_)⟩
    rcases hc with ⟨hnf, hc⟩ | ⟨R', C', hd, ex, ey, hc⟩
    · obtain ⟨rfl, hC1, hfr⟩ := hc
      have e1 : M1 1000000 = xs := (hfr 1000000 (by omega)).trans hX
      have e2 : M1 1000004 0 = nI L := by rw [hfr 1000004 (by omega)]; exact hN
      have hS1 := hS.out hfr
      rw [e1]
      exact ⟨ro_in e2 hL (by omega), ro_in e2 hL (by omega), k_field (d := 54) hS1 _ _ (fun _ => ⟨fun _ => nxt _ _ _ _ M1 (LI_of hC1 hS1 FO.rf e1 e2), fun z => absurd rfl z⟩) (fun R' C' hd ex ey => absurd (by rw [ex, ey]; exact fok_n hd) hnf)⟩
    · obtain ⟨rfl, hC1, hfr⟩ := hc
      have e1 : M1 1000000 = xs := (hfr 1000000 (by omega)).trans hX
      have e2 : M1 1000004 0 = nI L := by rw [hfr 1000004 (by omega)]; exact hN
      have hS1 := hS.out hfr
      rw [e1]
      refine ⟨ro_in e2 hL (by omega), ro_in e2 hL (by omega), k_field (d := 54) hS1 _ _ (fun hnf => absurd (by rw [ex, ey]; exact fok_n hd) hnf) (fun R2 C2 hd2 ex2 ey2 M2 hO hS2 => ?_)⟩
      have eR : R' = R2 := (n_eq (by have := hd.2.1; omega) (by have := hd2.2.1; omega)).mp (ex.symm.trans ex2)
      have eC : C' = C2 := (n_eq (by have := hd.2.2.2.1; omega) (by have := hd2.2.2.2.1; omega)).mp (ey.symm.trans ey2)
      subst eR eC
      exact ⟨fun _ => nxt _ _ _ _ M2 (LI_of hC1 hS2 hO e1 e2), fun z => absurd rfl z⟩
  · refine ⟨ro_in hN hL (by omega), OC_mono (q_say (d := 54) hC _) (fun v o1 ia ib e M1 hc => ?_)⟩
    by_cases c1 : xs (i + 1) < nI 33 ∨ nI 126 < xs (i + 1)
    · rw [if_pos c1] at hc
      obtain ⟨rfl, hC1, hfr⟩ := hc
      have e1 : M1 1000000 = xs := (hfr 1000000 (by omega)).trans hX
      have e2 : M1 1000004 0 = nI L := by rw [hfr 1000004 (by omega)]; exact hN
      have hS1 := hS.out hfr
      rw [e1]
      refine ⟨ro_in e2 hL (by omega), k_say (d := 54) hS1 _ (fun v M2 hO hv => ?_)⟩
      rw [if_pos c1] at hv
      exact ⟨fun _ => nxt _ _ _ _ M2 (LI_of hC1 hv.2 hO e1 e2), fun z => absurd hv.1.symm z⟩
    · rw [if_neg c1] at hc
      by_cases c2 : pn = 40
      · rw [if_pos c2] at hc
        obtain ⟨rfl, hC1, hfr⟩ := hc
        have e1 : M1 1000000 = xs := (hfr 1000000 (by omega)).trans hX
        have e2 : M1 1000004 0 = nI L := by rw [hfr 1000004 (by omega)]; exact hN
        have hS1 := hS.out hfr
        rw [e1]
        refine ⟨ro_in e2 hL (by omega), k_say (d := 54) hS1 _ (fun v M2 hO hv => ?_)⟩
        rw [if_neg c1, if_pos c2] at hv
        exact ⟨fun _ => nxt _ _ _ _ M2 (LI_of hC1 hv.2 hO e1 e2), fun z => absurd hv.1.symm z⟩
      · rw [if_neg c2] at hc
        obtain ⟨rfl, hC1, hfr⟩ := hc
        have e1 : M1 1000000 = xs := (hfr 1000000 (by omega)).trans hX
        have e2 : M1 1000004 0 = nI L := by rw [hfr 1000004 (by omega)]; exact hN
        have hS1 := hS.out hfr
        rw [e1]
        refine ⟨ro_in e2 hL (by omega), k_say (d := 54) hS1 _ (fun v M2 hO hv => ?_)⟩
        rw [if_neg c1, if_neg c2] at hv
        exact ⟨fun _ => nxt _ _ _ _ M2 (LI_of hC1 hv.2 hO e1 e2), fun z => absurd hv.1.symm z⟩
  · refine OC_mono (q_wipe (d := 54) hC) (fun v o1 ia ib e M1 hc => ?_)
    obtain ⟨rfl, hC1, hfr⟩ := hc
    have e1 : M1 1000000 = xs := (hfr 1000000 (by omega)).trans hX
    have e2 : M1 1000004 0 = nI L := by rw [hfr 1000004 (by omega)]; exact hN
    have hS1 := hS.out hfr
    exact k_wipe (d := 54) hS1 (fun M2 hO hS2 => ⟨fun _ => nxt _ _ _ _ M2 (LI_of hC1 hS2 hO e1 e2), fun z => absurd rfl z⟩)
  · refine ⟨ro_in hN hL (by omega), OC_mono (q_fault (d := 54) hC _) (fun v o1 ia ib e M1 hc => ?_)⟩
    obtain ⟨rfl, hC1, hfr⟩ := hc
    have e1 : M1 1000000 = xs := (hfr 1000000 (by omega)).trans hX
    have e2 : M1 1000004 0 = nI L := by rw [hfr 1000004 (by omega)]; exact hN
    have hS1 := hS.out hfr
    rw [e1]
    exact ⟨ro_in e2 hL (by omega), k_fault (d := 54) hS1.1 hC1.2.2.1 hS1.2.1 _ (fun M2 hM2 => ⟨fun _ => nxt _ _ _ _ M2 (LI_of hC1 (hS1.fm hM2) hM2.fo e1 e2), fun z => absurd rfl z⟩)⟩
  · refine OC_mono (q_sow (d := 54) hC) (fun v o1 ia ib e M1 hc => ?_)
    by_cases c1 : ff (R * C) pd pn 0 ≠ none
    · rw [if_pos c1] at hc
      obtain ⟨rfl, hC1, hfr⟩ := hc
      have e1 : M1 1000000 = xs := (hfr 1000000 (by omega)).trans hX
      have e2 : M1 1000004 0 = nI L := by rw [hfr 1000004 (by omega)]; exact hN
      have hS1 := hS.out hfr
      exact k_sow (d := 54) hS1 hC1.2.2.1 (fun _ => ⟨fun _ => nxt _ _ _ _ M1 (LI_of hC1 hS1 FO.rf e1 e2), fun z => absurd rfl z⟩) (fun z => absurd z c1) (fun z => absurd z c1)
    · rw [if_neg c1] at hc
      rcases hc with ⟨c2, hc⟩ | ⟨c2, -, -, hc⟩
      · obtain ⟨rfl, hC1, hfr⟩ := hc
        have e1 : M1 1000000 = xs := (hfr 1000000 (by omega)).trans hX
        have e2 : M1 1000004 0 = nI L := by rw [hfr 1000004 (by omega)]; exact hN
        have hS1 := hS.out hfr
        exact k_sow (d := 54) hS1 hC1.2.2.1 (fun z => absurd z c1) (fun _ _ => ⟨fun _ => nxt _ _ _ _ M1 (LI_of hC1 hS1 FO.rf e1 e2), fun z => absurd rfl z⟩) (fun _ z => absurd c2 z)
      · obtain ⟨rfl, hC1, hfr⟩ := hc
        have e1 : M1 1000000 = xs := (hfr 1000000 (by omega)).trans hX
        have e2 : M1 1000004 0 = nI L := by rw [hfr 1000004 (by omega)]; exact hN
        have hS1 := hS.out hfr
        exact k_sow (d := 54) hS1 hC.2.2.1 (fun z => absurd z c1) (fun _ z => absurd z c2) (fun _ _ M2 hO hS2 => ⟨fun _ => nxt _ _ _ _ M2 (LI_of hC1 hS2 hO e1 e2), fun z => absurd rfl z⟩)
  · refine ⟨ro_in hN hL (by omega), OC_mono (q_ears (d := 54) hC _) (fun v o1 ia ib e M1 hc => ?_)⟩
    obtain ⟨rfl, hC1, hfr⟩ := hc
    have e1 : M1 1000000 = xs := (hfr 1000000 (by omega)).trans hX
    have e2 : M1 1000004 0 = nI L := by rw [hfr 1000004 (by omega)]; exact hN
    have hS1 := hS.out hfr
    rw [e1]
    exact ⟨ro_in e2 hL (by omega), k_ears (d := 54) hS1.1 hC1.2.2.1 _ (fun M2 hM2 => ⟨fun _ => nxt _ _ _ _ M2 (LI_of hC1 (hS1.fm hM2) hM2.fo e1 e2), fun z => absurd rfl z⟩)⟩
  · refine ⟨ro_in hN hL (by omega), OC_mono (q_begin (d := 54) hC _) (fun v o1 ia ib e M1 hc => ?_)⟩
    by_cases c1 : xs (i + 1) < 0 ∨ nI (R * C) ≤ xs (i + 1)
    · rw [if_pos c1] at hc
      obtain ⟨rfl, hC1, hfr⟩ := hc
      have e1 : M1 1000000 = xs := (hfr 1000000 (by omega)).trans hX
      have e2 : M1 1000004 0 = nI L := by rw [hfr 1000004 (by omega)]; exact hN
      have hS1 := hS.out hfr
      rw [e1]
      refine ⟨ro_in e2 hL (by omega), k_begin (d := 54) hS1 hC.2.2.1 _ (fun v M2 hO hv => ?_)⟩
      rw [if_pos c1] at hv
      exact ⟨fun _ => nxt _ _ _ _ M2 (LI_of hC1 hv.2 hO e1 e2), fun z => absurd hv.1.symm z⟩
    · rw [if_neg c1] at hc
      by_cases c2 : er (xs (i + 1)).toNatClampNeg = -(nI 1)
      · rw [if_pos c2] at hc
        obtain ⟨rfl, hC1, hfr⟩ := hc
        have e1 : M1 1000000 = xs := (hfr 1000000 (by omega)).trans hX
        have e2 : M1 1000004 0 = nI L := by rw [hfr 1000004 (by omega)]; exact hN
        have hS1 := hS.out hfr
        rw [e1]
        refine ⟨ro_in e2 hL (by omega), k_begin (d := 54) hS1 hC.2.2.1 _ (fun v M2 hO hv => ?_)⟩
        rw [if_neg c1, if_pos c2] at hv
        exact ⟨fun _ => nxt _ _ _ _ M2 (LI_of hC1 hv.2 hO e1 e2), fun z => absurd hv.1.symm z⟩
      · rw [if_neg c2] at hc
        obtain ⟨rfl, hC1, hfr⟩ := hc
        have e1 : M1 1000000 = xs := (hfr 1000000 (by omega)).trans hX
        have e2 : M1 1000004 0 = nI L := by rw [hfr 1000004 (by omega)]; exact hN
        have hS1 := hS.out hfr
        rw [e1]
        refine ⟨ro_in e2 hL (by omega), k_begin (d := 54) hS1 hC.2.2.1 _ (fun v M2 hO hv => ?_)⟩
        rw [if_neg c1, if_neg c2] at hv
        exact ⟨fun _ => nxt _ _ _ _ M2 (LI_of hC1 hv.2 hO e1 e2), fun z => absurd hv.1.symm z⟩
  · refine ⟨ro_in hN hL (by omega), OC_mono (q_spill (d := 54) hC _) (fun v o1 ia ib e M1 hc => ?_)⟩
    by_cases c1 : xs (i + 1) < 0 ∨ nI 9 < xs (i + 1)
    · rw [if_pos c1] at hc
      obtain ⟨rfl, hC1, hfr⟩ := hc
      have e1 : M1 1000000 = xs := (hfr 1000000 (by omega)).trans hX
      have e2 : M1 1000004 0 = nI L := by rw [hfr 1000004 (by omega)]; exact hN
      have hS1 := hS.out hfr
      rw [e1]
      refine ⟨ro_in e2 hL (by omega), k_spill (d := 54) hS1 _ (fun v M2 hO hv => ?_)⟩
      rw [if_pos c1] at hv
      exact ⟨fun _ => nxt _ _ _ _ M2 (LI_of hC1 hv.2 hO e1 e2), fun z => absurd hv.1.symm z⟩
    · rw [if_neg c1] at hc
      obtain ⟨rfl, hC1, hfr⟩ := hc
      have e1 : M1 1000000 = xs := (hfr 1000000 (by omega)).trans hX
      have e2 : M1 1000004 0 = nI L := by rw [hfr 1000004 (by omega)]; exact hN
      have hS1 := hS.out hfr
      rw [e1]
      refine ⟨ro_in e2 hL (by omega), k_spill (d := 54) hS1 _ (fun v M2 hO hv => ?_)⟩
      rw [if_neg c1] at hv
      exact ⟨fun _ => nxt _ _ _ _ M2 (LI_of hC1 hv.2 hO e1 e2), fun z => absurd hv.1.symm z⟩
  · refine ⟨ro_in hN hL (by omega), OC_mono (q_judge (d := 54) hC _) (fun v o1 ia ib e M1 hc => ?_)⟩
    obtain ⟨rfl, hC1, hfr⟩ := hc
    have e1 : M1 1000000 = xs := (hfr 1000000 (by omega)).trans hX
    have e2 : M1 1000004 0 = nI L := by rw [hfr 1000004 (by omega)]; exact hN
    have hS1 := hS.out hfr
    rw [e1]
    exact ⟨ro_in e2 hL (by omega), k_judge (d := 54) hS1.1 hC1.2.2.1 hS1.2.1 _ (fun M2 hM2 => ⟨fun _ => nxt _ _ _ _ M2 (LI_of hC1 (hS1.fm hM2) hM2.fo e1 e2), fun z => absurd rfl z⟩)⟩
  · refine ⟨ro_in hN hL (by omega), OC_mono (q_way (d := 54) hC _) (fun v o1 ia ib e M1 hc => ?_)⟩
    obtain ⟨rfl, hC1, hfr⟩ := hc
    have e1 : M1 1000000 = xs := (hfr 1000000 (by omega)).trans hX
    have e2 : M1 1000004 0 = nI L := by rw [hfr 1000004 (by omega)]; exact hN
    have hS1 := hS.out hfr
    rw [e1]
    exact ⟨ro_in e2 hL (by omega), k_way (d := 54) hS1.1 hC1.2.2.1 hS1.2.1 _ (fun M2 hM2 => ⟨fun _ => nxt _ _ _ _ M2 (LI_of hC1 (hS1.fm hM2) hM2.fo e1 e2), fun z => absurd rfl z⟩)⟩
  · refine ⟨ro_in hN hL (by omega), OC_mono (q_longest (d := 54) hC _) (fun v o1 ia ib e M1 hc => ?_)⟩
    obtain ⟨rfl, hC1, hfr⟩ := hc
    have e1 : M1 1000000 = xs := (hfr 1000000 (by omega)).trans hX
    have e2 : M1 1000004 0 = nI L := by rw [hfr 1000004 (by omega)]; exact hN
    have hS1 := hS.out hfr
    rw [e1]
    exact ⟨ro_in e2 hL (by omega), k_longest (d := 54) hS1.1 hC1.2.2.1 _ (fun M2 hM2 => ⟨fun _ => nxt _ _ _ _ M2 (LI_of hC1 (hS1.fm hM2) hM2.fo e1 e2), fun z => absurd rfl z⟩)⟩
  · refine ⟨ro_in hN hL (by omega), OC_mono (q_all (d := 54) hC _) (fun v o1 ia ib e M1 hc => ?_)⟩
    obtain ⟨rfl, hC1, hfr⟩ := hc
    have e1 : M1 1000000 = xs := (hfr 1000000 (by omega)).trans hX
    have e2 : M1 1000004 0 = nI L := by rw [hfr 1000004 (by omega)]; exact hN
    have hS1 := hS.out hfr
    rw [e1]
    exact ⟨ro_in e2 hL (by omega), k_all (d := 54) hS1.1 hC1.2.2.1 _ (fun M2 hM2 => ⟨fun _ => nxt _ _ _ _ M2 (LI_of hC1 (hS1.fm hM2) hM2.fo e1 e2), fun z => absurd rfl z⟩)⟩
  · refine OC_mono (q_bound (d := 54) hC) (fun v o1 ia ib e M1 hc => ?_)
    obtain ⟨rfl, hC1, hfr⟩ := hc
    have e1 : M1 1000000 = xs := (hfr 1000000 (by omega)).trans hX
    have e2 : M1 1000004 0 = nI L := by rw [hfr 1000004 (by omega)]; exact hN
    have hS1 := hS.out hfr
    exact k_bound (d := 54) hS1.1 hC1.2.2.1 (fun M2 hM2 => ⟨fun _ => nxt _ _ _ _ M2 (LI_of hC1 (hS1.fm hM2) hM2.fo e1 e2), fun z => absurd rfl z⟩)
  · refine ⟨ro_in hN hL (by omega), OC_mono (q_best (d := 54) hC _) (fun v o1 ia ib e M1 hc => ?_)⟩
    obtain ⟨rfl, hC1, hfr⟩ := hc
    have e1 : M1 1000000 = xs := (hfr 1000000 (by omega)).trans hX
    have e2 : M1 1000004 0 = nI L := by rw [hfr 1000004 (by omega)]; exact hN
    have hS1 := hS.out hfr
    rw [e1]
    exact ⟨ro_in e2 hL (by omega), k_best (d := 54) hS1.1 hC1.2.2.1 _ (fun M2 hM2 => ⟨fun _ => nxt _ _ _ _ M2 (LI_of hC1 (hS1.fm hM2) hM2.fo e1 e2), fun z => absurd rfl z⟩)⟩
  · refine ⟨ro_in hN hL (by omega), ro_in hN hL (by omega), OC_mono (q_storm (d := 54) hC _ _) (fun v o1 ia ib e M1 hc => ?_)⟩
    obtain ⟨rfl, hC1, hfr⟩ := hc
    have e1 : M1 1000000 = xs := (hfr 1000000 (by omega)).trans hX
    have e2 : M1 1000004 0 = nI L := by rw [hfr 1000004 (by omega)]; exact hN
    have hS1 := hS.out hfr
    rw [e1]
    exact ⟨ro_in e2 hL (by omega), ro_in e2 hL (by omega), k_storm (d := 54) hS1.1 hC1.2.2.1 hS1.2.1 _ _ (fun M2 hM2 => ⟨fun _ => nxt _ _ _ _ M2 (LI_of hC1 (hS1.fm hM2) hM2.fo e1 e2), fun z => absurd rfl z⟩)⟩
  · refine OC_mono (q_two (d := 29) hC) (fun v o1 ia ib e M1 hc => ?_)
    obtain ⟨rfl, hC1, hfr⟩ := hc
    have e1 : M1 1000000 = xs := (hfr 1000000 (by omega)).trans hX
    have e2 : M1 1000004 0 = nI L := by rw [hfr 1000004 (by omega)]; exact hN
    have hS1 := hS.out hfr
    exact k_two (d := 54) hS1.1 hC1.2.2.1 (fun M2 hM2 => ⟨fun _ => nxt _ _ _ _ M2 (LI_of hC1 (hS1.fm hM2) hM2.fo e1 e2), fun z => absurd rfl z⟩)
  · refine OC_mono (q_game (d := 29) hC) (fun v o1 ia ib e M1 hc => ?_)
    obtain ⟨rfl, hC1, hfr⟩ := hc
    have e1 : M1 1000000 = xs := (hfr 1000000 (by omega)).trans hX
    have e2 : M1 1000004 0 = nI L := by rw [hfr 1000004 (by omega)]; exact hN
    have hS1 := hS.out hfr
    exact k_game (d := 54) hS1.1 hC1.2.2.1 (fun M2 hM2 => ⟨fun _ => nxt _ _ _ _ M2 (LI_of hC1 (hS1.fm hM2) hM2.fo e1 e2), fun z => absurd rfl z⟩)
  · refine ⟨ro_in hN hL (by omega), OC_mono (q_where (d := 53) hC _) (fun v o1 ia ib e M1 hc => ?_)⟩
    obtain ⟨rfl, hC1, hfr⟩ := hc
    have e1 : M1 1000000 = xs := (hfr 1000000 (by omega)).trans hX
    have e2 : M1 1000004 0 = nI L := by rw [hfr 1000004 (by omega)]; exact hN
    have hS1 := hS.out hfr
    rw [e1]
    exact ⟨ro_in e2 hL (by omega), k_where (d := 54) hS1.1 hC1.2.2.1 _ (fun M2 hM2 => ⟨fun _ => nxt _ _ _ _ M2 (LI_of hC1 (hS1.fm hM2) hM2.fo e1 e2), fun z => absurd rfl z⟩)⟩
  · refine OC_mono (q_last (d := 54) hC) (fun v o1 ia ib e M1 hc => ?_)
    obtain ⟨rfl, hC1, hfr⟩ := hc
    have e1 : M1 1000000 = xs := (hfr 1000000 (by omega)).trans hX
    have e2 : M1 1000004 0 = nI L := by rw [hfr 1000004 (by omega)]; exact hN
    have hS1 := hS.out hfr
    exact k_last (d := 54) hS1.1 hC1.2.2.1 (fun M2 hM2 => ⟨fun _ => nxt _ _ _ _ M2 (LI_of hC1 (hS1.fm hM2) hM2.fo e1 e2), fun z => absurd rfl z⟩)
  · refine ⟨ro_in hN hL (by omega), OC_mono (q_goesOn (d := 54) hC _) (fun v o1 ia ib e M1 hc => ?_)⟩
    obtain ⟨rfl, hC1, hfr⟩ := hc
    have e1 : M1 1000000 = xs := (hfr 1000000 (by omega)).trans hX
    have e2 : M1 1000004 0 = nI L := by rw [hfr 1000004 (by omega)]; exact hN
    have hS1 := hS.out hfr
    rw [e1]
    exact ⟨ro_in e2 hL (by omega), k_goesOn (d := 54) hS1.1 hC1.2.2.1 hS1.2.1 _ (fun M2 hM2 => ⟨fun _ => nxt _ _ _ _ M2 (LI_of hC1 (hS1.fm hM2) hM2.fo e1 e2), fun z => absurd rfl z⟩)⟩
  · refine ⟨ro_in hN hL (by omega), ro_in hN hL (by omega), OC_mono (q_drawn (d := 54) hC _ _) (fun v o1 ia ib e M1 hc => ?_)⟩
    obtain ⟨rfl, hC1, hfr⟩ := hc
    have e1 : M1 1000000 = xs := (hfr 1000000 (by omega)).trans hX
    have e2 : M1 1000004 0 = nI L := by rw [hfr 1000004 (by omega)]; exact hN
    have hS1 := hS.out hfr
    rw [e1]
    exact ⟨ro_in e2 hL (by omega), ro_in e2 hL (by omega), k_drawn (d := 54) hS1.1 hC1.2.2.1 _ _ (fun M2 hM2 => ⟨fun _ => nxt _ _ _ _ M2 (LI_of hC1 (hS1.fm hM2) hM2.fo e1 e2), fun z => absurd rfl z⟩)⟩
  · refine ⟨ro_in hN hL (by omega), OC_mono (q_image (d := 54) hC _) (fun v o1 ia ib e M1 hc => ?_)⟩
    have w0 := hC.2.2.2.2.2.w0
    have w1 := hC.2.2.2.2.2.w1
    rcases hc with ⟨c1, hc⟩ | ⟨c1, hc⟩ | ⟨c1, hc⟩
    · obtain ⟨rfl, hC1, hfr⟩ := hc
      have e1 : M1 1000000 = xs := (hfr 1000000 (by omega)).trans hX
      have e2 : M1 1000004 0 = nI L := by rw [hfr 1000004 (by omega)]; exact hN
      have hS1 := hS.out hfr
      rw [e1]
      refine ⟨ro_in e2 hL (by omega), k_image (d := 54) hS1 hC1.2.2.1 w0 w1 _ (fun _ => ⟨fun _ => nxt _ _ _ _ M1 (LI_of hC1 hS1 FO.rf e1 e2), fun z => absurd rfl z⟩) (fun z => ?_) (fun z => ?_)⟩
      · rw [z] at c1; exact absurd c1 (by decide)
      · rw [z] at c1; exact absurd c1 (by decide)
    · obtain ⟨rfl, hC1, hfr⟩ := hc
      have e1 : M1 1000000 = xs := (hfr 1000000 (by omega)).trans hX
      have e2 : M1 1000004 0 = nI L := by rw [hfr 1000004 (by omega)]; exact hN
      have hS1 := hS.out hfr
      rw [e1]
      refine ⟨ro_in e2 hL (by omega), k_image (d := 54) hS1 hC1.2.2.1 w0 w1 _ (fun z => ?_) (fun _ M2 hO hS2 => ⟨fun _ => nxt _ _ _ _ M2 (LI_of hC1 hS2 hO e1 e2), fun z => absurd rfl z⟩) (fun z => ?_)⟩
      · rw [c1] at z; exact absurd z (by decide)
      · rw [c1] at z; exact absurd z (by decide)
    · obtain ⟨rfl, hC1, hfr⟩ := hc
      have e1 : M1 1000000 = xs := (hfr 1000000 (by omega)).trans hX
      have e2 : M1 1000004 0 = nI L := by rw [hfr 1000004 (by omega)]; exact hN
      have hS1 := hS.out hfr
      rw [e1]
      refine ⟨ro_in e2 hL (by omega), k_image (d := 54) hS1 hC1.2.2.1 w0 w1 _ (fun z => ?_) (fun z => ?_) (fun _ M2 hO hS2 => ⟨fun _ => nxt _ _ _ _ M2 (LI_of hC1 hS2 hO e1 e2), fun z => absurd rfl z⟩)⟩
      · rw [c1] at z; exact absurd z (by decide)
      · rw [c1] at z; exact absurd z (by decide)
  · refine ⟨ro_in hN hL (by omega), OC_mono (q_restore (d := 54) hC _) (fun v o1 ia ib e M1 hc => ?_)⟩
    have w0 := hC.2.2.2.2.2.w0
    have w1 := hC.2.2.2.2.2.w1
    have dj : ∀ {x : Int32}, x = nI 0 → x = nI 1 → False := fun h1 h2 => absurd (h1.symm.trans h2) (by decide)
    rcases hc with ⟨c1, hc⟩ | ⟨c1, hc⟩ | ⟨f, c1, hc⟩
    · obtain ⟨rfl, hC1, hfr⟩ := hc
      have e1 : M1 1000000 = xs := (hfr 1000000 (by omega)).trans hX
      have e2 : M1 1000004 0 = nI L := by rw [hfr 1000004 (by omega)]; exact hN
      have hS1 := hS.out hfr
      rw [e1]
      refine ⟨ro_in e2 hL (by omega), k_restore (d := 54) hS1 w0 w1 _ (fun _ => ⟨fun _ => nxt _ _ _ _ M1 (LI_of hC1 hS1 FO.rf e1 e2), fun z => absurd rfl z⟩) (fun z => ?_) (fun f z => ?_)⟩
      · rcases z with ⟨z, -⟩ | ⟨z, -⟩ <;> rw [z] at c1 <;> exact absurd c1 (by decide)
      · rcases z with ⟨z, -⟩ | ⟨z, -⟩ <;> rw [z] at c1 <;> exact absurd c1 (by decide)
    · obtain ⟨rfl, hC1, hfr⟩ := hc
      have e1 : M1 1000000 = xs := (hfr 1000000 (by omega)).trans hX
      have e2 : M1 1000004 0 = nI L := by rw [hfr 1000004 (by omega)]; exact hN
      have hS1 := hS.out hfr
      rw [e1]
      refine ⟨ro_in e2 hL (by omega), k_restore (d := 54) hS1 w0 w1 _ (fun z => ?_) (fun _ => ⟨fun _ => nxt _ _ _ _ M1 (LI_of hC1 hS1 FO.rf e1 e2), fun z => absurd rfl z⟩) (fun f z => ?_)⟩
      · rcases c1 with ⟨c1, -⟩ | ⟨c1, -⟩ <;> rw [c1] at z <;> exact absurd z (by decide)
      · rcases c1 with ⟨c1, c2⟩ | ⟨c1, c2⟩ <;> rcases z with ⟨z, z2⟩ | ⟨z, z2⟩
        · rw [c2] at z2; cases z2
        · exact (dj c1 z).elim
        · exact (dj z c1).elim
        · rw [c2] at z2; cases z2
    · obtain ⟨rfl, hC1, hfr⟩ := hc
      have e1 : M1 1000000 = xs := (hfr 1000000 (by omega)).trans hX
      have e2 : M1 1000004 0 = nI L := by rw [hfr 1000004 (by omega)]; exact hN
      have hS1 := hS.out hfr
      rw [e1]
      refine ⟨ro_in e2 hL (by omega), k_restore (d := 54) hS1 w0 w1 _ (fun z => ?_) (fun z => ?_) (fun f2 z M2 hO hS2 => ?_)⟩
      · rcases c1 with ⟨c1, -⟩ | ⟨c1, -⟩ <;> rw [c1] at z <;> exact absurd z (by decide)
      · rcases c1 with ⟨c1, c2⟩ | ⟨c1, c2⟩ <;> rcases z with ⟨z, z2⟩ | ⟨z, z2⟩
        · rw [c2] at z2; cases z2
        · exact (dj c1 z).elim
        · exact (dj z c1).elim
        · rw [c2] at z2; cases z2
      · have ef : f = f2 := by
          rcases c1 with ⟨c1, c2⟩ | ⟨c1, c2⟩ <;> rcases z with ⟨z, z2⟩ | ⟨z, z2⟩
          · exact Option.some.inj (c2.symm.trans z2)
          · exact (dj c1 z).elim
          · exact (dj z c1).elim
          · exact Option.some.inj (c2.symm.trans z2)
        subst ef
        exact ⟨fun _ => nxt _ _ _ _ M2 (LI_of hC1 hS2 hO e1 e2), fun z => absurd rfl z⟩
  · refine ⟨ro_in hN hL (by omega), OC_mono (q_told (d := 54) hC _) (fun v o1 ia ib e M1 hc => ?_)⟩
    obtain ⟨rfl, hC1, hfr⟩ := hc
    have e1 : M1 1000000 = xs := (hfr 1000000 (by omega)).trans hX
    have e2 : M1 1000004 0 = nI L := by rw [hfr 1000004 (by omega)]; exact hN
    have hS1 := hS.out hfr
    rw [e1]
    exact ⟨ro_in e2 hL (by omega), k_told (d := 54) hS1.1 hC1.2.2.1 hS1.2.1 _ (fun M2 hM2 => ⟨fun _ => nxt _ _ _ _ M2 (LI_of hC1 (hS1.fm hM2) hM2.fo e1 e2), fun z => absurd rfl z⟩)⟩
