-- THE MODEL: goesOn
section Q3
variable {d : Nat} {o i0 i1 : Option Nat} {ext : ADd} {M : AMm} {R C bg sp pn : Nat} {er pd : Nat → Int32} {K : Int32 → AMm → Prop}
theorem gw_end (hw : WF R C er bg sp) {F p t b w : Nat} (h : gw0 R C er bg sp pn pd = (F, p, t, b, w)) : (opn er (R * C)).testBit p = true := by
  have inv : ∀ (n i F p t b : Nat), (opn er (R * C)).testBit p = true → Sub F (opn er (R * C)) → ∀ F' p' t' b' w', gw R C er sp pd n i F p t b = (F', p', t', b', w') → (opn er (R * C)).testBit p' = true := by
    intro n
    induction n with
    | zero => intro i F p t b h1 hs F' p' t' b' w' h; cases h; exact h1
    | succ n ih =>
      intro i F p t b h1 hs F' p' t' b' w' h
      unfold gw at h
      split at h
      · cases h; exact h1
      · rename_i q hq
        split at h
        · rename_i hb
          exact ih _ _ _ _ _ (hs q hb) (fun i hi => by rw [cb_t, Bool.and_eq_true] at hi; exact hs i hi.1) _ _ _ _ _ h
        · cases h; exact h1
  exact inv pn 0 _ bg 0 _ (bgo hw) (fun i hi => by rw [cb_t, Bool.and_eq_true] at hi; exact hi.1) _ _ _ _ _ h
theorem k_goesOn (hF : MF M R C er bg sp) (hw : WF R C er bg sp) (hP : MP M pn pd) (x : Int32) (h : ∀ M', FM M M' → K (an_goes R C er bg sp pn pd x) M') : CI (d + 5) 121 [.ref 20, .int x] (DB o i0 i1 ext) M (DB o i0 i1 ext) K := by
  have hl := hw.1.le
  have hA := opn_lt (er := er) hl
  unfold an_goes at h
  refine b_X5_goesOn_0 _ (m_in (by decide) (by decide) (fun e => ⟨fun _ => ?_, fun z => absurd rfl z⟩) (fun e => ⟨fun z => absurd z (by decide), fun _ => m_faultW hP ?_⟩))
  · rw [if_pos (show x < 0 ∨ nI 12 < x from e)] at h; exact ⟨_, _, rfl, h M FM.rf⟩
  · rw [if_neg (show ¬ (x < 0 ∨ nI 12 < x) from e)] at h
    obtain ⟨k, hk, rfl⟩ := nI_of (fun z => e (Or.inl z))
    have hk12 : k ≤ 12 := by
      have : ¬ nI 12 < nI k := fun z => e (Or.inr z)
      rw [n_lt (by decide) hk] at this; omega
    rw [en6_neg (fun q hq => wf6 q hq hP.2.1)]
    refine ⟨fun e3 => ?_, fun e3 => ?_⟩
    · rw [if_neg (show ¬ wft pd pn 0 ≠ none from fun z => z e3)] at h
      refine m_goWay hF hw hP e3 (fun F p t b w M' g1 g2 g3 g4 g5 g6 g7 => ?_)
      rw [g1, n_cl hk] at h
      obtain ⟨u1, u2, u3, u4, u5, u6⟩ := gw0_ok hw g1
      by_cases hz : w = 0
      · rw [if_pos hz]
        rw [if_neg (fun z => z hz)] at h
        refine ⟨fun z => absurd z (by decide), fun _ => ?_⟩
        have hsub := mi_sub (opn er (R * C)) F
        have hend : (mi (opn er (R * C)) F).testBit p = true := by rw [mi_t, u4, gw_end hw g1]; rfl
        have hmm := mi_mi u3
        have hfl := mi_lt (b := F) hA
        rw [g2, g3]
        refine m_fw (hF.fm g7) hw hsub u1 hend (fun M2 hM2 h20 hT => ?_)
        have h := h M2 (g7.tr hM2)
        have hF2 := hF.fm (g7.tr hM2)
        have h : K (nI (WW R C k [(F, p)]).length) M2 := h
        rw [← hmm] at h
        refine m_open hF2 hw.1 ?_
        rw [h20 7, g2]
        refine m_ones hfl ?_
        rw [nI_add, h20 7, g2]
        generalize mi (opn er (R * C)) F = f at hsub hend hfl hT h ⊢
        have hfA := Sub_le hsub
        have hple := pc_le f
        -- counting
        have plc : ∀ n q c, R * C - q = n → q ≤ R * C → Sub c (opn er (R * C)) → f ≤ c → pc c = pc f + k → T (d + 5) (fun r => ∃ v M', r = (some (.int v), DB o i0 i1 ext, M') ∧ K v M') (121, 38, [some (.ref 20), none, some (.int (nI (opn er (R * C)))), some (.int (nI (pc f + k))), some (.int (nI ((WW R C k [(mi (opn er (R * C)) f, p)]).countP (prd (opn er (R * C)) (c + 1) 0)))), some (.int (nI (c + 1))), none], [], (DB o i0 i1 ext), M2) → T (d + 5) (fun r => ∃ v M', r = (some (.int v), DB o i0 i1 ext, M') ∧ K v M') (121, 53, [some (.ref 20), none, some (.int (nI (opn er (R * C)))), some (.int (nI (pc f + k))), some (.int (nI ((WW R C k [(mi (opn er (R * C)) f, p)]).countP (prd (opn er (R * C)) c q)))), some (.int (nI c)), some (.int (nI q))], [], (DB o i0 i1 ext), M2) := by
          intro n
          induction n with
          | zero =>
            intro q c h0 hq hs hfc hpc hN
            obtain rfl : q = R * C := by omega
            refine b_X5_goesOn_53 _ _ _ _ _ (m_places hF2 ⟨fun _ => ?_, fun z => absurd (nI_le (Nat.le_refl _) (by omega)) z⟩)
            rw [nI_add]
            rw [show (WW R C k [(mi (opn er (R * C)) f, p)]).countP (prd (opn er (R * C)) c (R * C)) = (WW R C k [(mi (opn er (R * C)) f, p)]).countP (prd (opn er (R * C)) (c + 1) 0) from List.countP_congr (fun x hx => by
              rw [show prd (opn er (R * C)) c (R * C) x = prd (opn er (R * C)) (c + 1) 0 x from prd_next (x1 := x.1) (x2 := x.2) (w_inv hw.1 hA hsub u1 hend hx).1])]
            exact hN
          | succ n ih =>
            intro q c h0 hq hs hfc hpc hN
            have hcA := Sub_le hs
            have e2 := ih (q + 1) c (by omega) (by omega) hs hfc hpc hN
            refine b_X5_goesOn_53 _ _ _ _ _ (m_places hF2 ⟨fun z => ?_, fun _ => m_at ⟨n_in (by omega) (by decide), ?_⟩⟩)
            · rw [n_le (by omega) (by omega)] at z; omega
            · rw [n_cl (by omega), hT c q hs hfc (by omega), nI_add, nI_add]
              have hsum : (WW R C k [(mi (opn er (R * C)) f, p)]).countP (prd (opn er (R * C)) c (q + 1)) = (WW R C k [(mi (opn er (R * C)) f, p)]).countP (prd (opn er (R * C)) c q) + nn R C (opn er (R * C)) f p c q := by
                unfold nn
                rw [show pc c - pc f = k by omega]
                refine ct_or (fun x hx => ?_)
                obtain ⟨w1, w2, w3, w4, w5⟩ := w_inv hw.1 hA hsub u1 hend hx
                have ex : x = (mi (opn er (R * C)) c, q) ↔ mi (opn er (R * C)) x.1 = c ∧ x.2 = q := by
                  constructor
                  · intro y; rw [y]; exact ⟨mi_mi hs, rfl⟩
                  · rintro ⟨y1, y2⟩
                    have : x.1 = mi (opn er (R * C)) c := by rw [← y1, mi_mi w2]
                    rw [← this, ← y2]
                simp only [decide_eq_true_eq, prd, ex]
                constructor
                · constructor
                  · intro y; omega
                  · intro y; omega
                · intro y; omega
              rw [hsum] at e2
              exact e2
        have cut : ∀ n c, opn er (R * C) + 1 - c = n → c ≤ opn er (R * C) + 1 → f ≤ c → T (d + 5) (fun r => ∃ v M', r = (some (.int v), DB o i0 i1 ext, M') ∧ K v M') (121, 38, [some (.ref 20), none, some (.int (nI (opn er (R * C)))), some (.int (nI (pc f + k))), some (.int (nI ((WW R C k [(mi (opn er (R * C)) f, p)]).countP (prd (opn er (R * C)) c 0)))), some (.int (nI c)), none], [], (DB o i0 i1 ext), M2) := by
          intro n
          induction n with
          | zero =>
            intro c h0 hc hfc
            obtain rfl : c = opn er (R * C) + 1 := by omega
            refine b_X5_goesOn_38 _ _ _ _ ⟨fun _ => ⟨_, _, rfl, ?_⟩, fun z => absurd (nI_lt (by omega) (by omega)) z⟩
            rw [show (WW R C k [(mi (opn er (R * C)) f, p)]).countP (prd (opn er (R * C)) (opn er (R * C) + 1) 0) = (WW R C k [(mi (opn er (R * C)) f, p)]).length from by
              rw [List.countP_eq_length]
              intro x hx
              have := Sub_le (mi_sub (opn er (R * C)) x.1)
              exact decide_eq_true (Or.inl (by omega))]
            exact h
          | succ n ih =>
            intro c h0 hc hfc
            have e2 := ih (c + 1) (by omega) (by omega) (by omega)
            have hcl : c < 65536 := by omega
            -- no way ends at this cut
            have skip : (∀ x ∈ WW R C k [(mi (opn er (R * C)) f, p)], mi (opn er (R * C)) x.1 ≠ c) → T (d + 5) (fun r => ∃ v M', r = (some (.int v), DB o i0 i1 ext, M') ∧ K v M') (121, 38, [some (.ref 20), none, some (.int (nI (opn er (R * C)))), some (.int (nI (pc f + k))), some (.int (nI ((WW R C k [(mi (opn er (R * C)) f, p)]).countP (prd (opn er (R * C)) c 0)))), some (.int (nI (c + 1))), none], [], (DB o i0 i1 ext), M2) := by
              intro hno
              rw [show (WW R C k [(mi (opn er (R * C)) f, p)]).countP (prd (opn er (R * C)) c 0) = (WW R C k [(mi (opn er (R * C)) f, p)]).countP (prd (opn er (R * C)) (c + 1) 0) from List.countP_congr (fun x hx => by
                have := hno x hx
                unfold prd
                rw [decide_eq_true_eq, decide_eq_true_eq]
                omega)]
              exact e2
            refine b_X5_goesOn_38 _ _ _ _ ⟨fun z => ?_, fun _ => ?_⟩
            · rw [n_lt (by omega) (by omega)] at z; omega
            · rw [n_andn, show c ^^^ c &&& opn er (R * C) = mi c (opn er (R * C)) from rfl, n_e0 (Nat.lt_trans (mi_lt hcl) (by decide)), Sub_mi, nI_add]
              refine ⟨fun hs => m_ones hcl ?_, fun hs => skip (fun x _ q => hs (q ▸ mi_sub _ _))⟩
              have := pc_le c
              rw [n_eq (by omega) (by omega)]
              refine ⟨fun z => plc (R * C) 0 c (by omega) (by omega) hs hfc z e2, fun z => skip (fun x hx q => ?_)⟩
              have := (w_inv hw.1 hA hsub u1 hend hx).2.2.1
              rw [q] at this
              exact z this
        have start := cut _ f rfl (by omega) (Nat.le_refl _)
        rw [show (WW R C k [(mi (opn er (R * C)) f, p)]).countP (prd (opn er (R * C)) f 0) = 0 from by
          rw [List.countP_eq_zero]
          intro x hx
          have := (w_inv hw.1 hA hsub u1 hend hx).2.2.2.1
          unfold prd
          rw [decide_eq_true_eq]
          omega] at start
        exact start
      · rw [if_neg hz]
        rw [if_pos hz] at h
        exact ⟨fun _ => ⟨_, _, rfl, h M' g7⟩, fun z => absurd rfl z⟩
    · rw [if_pos (show wft pd pn 0 ≠ none from e3)] at h; exact ⟨_, _, rfl, h M FM.rf⟩
end Q3
