-- THE MODEL: how many ways: all, last, goesOn
/-- the table of ways, when the stands ahead of (c', p') are done with -/
def WT (M : AMm) (R C A f pl c' p' : Nat) : Prop := ∀ c z, Sub c A → f ≤ c → z < 16 → M 24 (16 * c + z) = nI (vv R C A f pl c' p' c z)
section Q2
variable {d : Nat} {o i0 i1 : Option Nat} {ext : ADd} {M : AMm} {R C bg sp pn : Nat} {er pd : Nat → Int32}
theorem m_fw {K : AMm → Prop} (hF : MF M R C er bg sp) (hw : WF R C er bg sp) {f pl : Nat} (hf : Sub f (opn er (R * C))) (hpl : pl < R * C) (hfp : f.testBit pl = true) (h : ∀ M', FM M M' → (∀ b, M' 20 b = M 20 b) → (∀ c p, Sub c (opn er (R * C)) → f ≤ c → p < R * C → M' 24 (16 * c + p) = nI (nn R C (opn er (R * C)) f pl c p)) → K M') : CV (d + 3) 104 [.ref 20, .int (nI f), .int (nI pl)] (DB o i0 i1 ext) M (DB o i0 i1 ext) K := by
  have hl := hw.1.le
  have hA := opn_lt (er := er) hl
  have hfA := Sub_le hf
  have hAb : ∀ i, (opn er (R * C)).testBit i = true → i < R * C := fun i hi => ((opn_t er _ i).mp hi).1
  have fin : ∀ M', WT M' R C (opn er (R * C)) f pl (opn er (R * C) + 1) 0 → ∀ c p, Sub c (opn er (R * C)) → f ≤ c → p < R * C → M' 24 (16 * c + p) = nI (nn R C (opn er (R * C)) f pl c p) := by
    intro M' hT c p hc hfc hp
    rw [hT c p hc hfc (by omega), ← vv_read hw.1 hA hf hpl hfp hc hfc]
    unfold vv
    split
    · rfl
    · congr 1
      refine List.countP_congr (fun x hx => ?_)
      obtain ⟨w1, w2, w3, w4, w5⟩ := w_inv hw.1 hA hf hpl hfp hx
      rw [Bool.and_eq_true, Bool.and_eq_true]
      have h1 := Sub_le (mi_sub (opn er (R * C)) x.1)
      constructor
      · rintro ⟨-, q⟩
        obtain ⟨h2, h3, -, -⟩ := su_cut hw.1 w1 w2 hc (of_decide_eq_true q)
        have := sb_gt h3
        exact ⟨decide_eq_true (Or.inl (by rw [h2]; exact this)), q⟩
      · rintro ⟨-, q⟩
        exact ⟨decide_eq_true (Or.inl (by omega)), q⟩
  have f20 : ∀ {M1 : AMm} {i : Nat} {v : Int32}, (∀ b, M1 20 b = M 20 b) → ∀ b, (ms M1 24 i v) 20 b = M 20 b := fun h b => by rw [ms_a (by decide)]; exact h b
  -- the steps of a stand
  have stp : ∀ n k c' p' (M1 : AMm), 4 - k = n → k ≤ 4 → c' < 65536 → Sub c' (opn er (R * C)) → f ≤ c' → p' < R * C → FM M M1 → (∀ b, M1 20 b = M 20 b) → (∀ c z, Sub c (opn er (R * C)) → f ≤ c → z < 16 → M1 24 (16 * c + z) = nI (vv R C (opn er (R * C)) f pl c' p' c z + (if (∃ j, j < k ∧ nf R C (mi (opn er (R * C)) c') p' j = some z) ∧ c = sb c' z then nn R C (opn er (R * C)) f pl c' p' else 0))) → (∀ M', FM M M' → (∀ b, M' 20 b = M 20 b) → WT M' R C (opn er (R * C)) f pl c' (p' + 1) → T (d + 3) (fun r => ∃ M', r = (none, DB o i0 i1 ext, M') ∧ K M') (104, 39, [some (.ref 20), none, none, some (.int (nI (opn er (R * C)))), some (.int (nI c')), some (.int (nI (p' + 1))), none, none, none], [], (DB o i0 i1 ext), M')) → T (d + 3) (fun r => ∃ M', r = (none, DB o i0 i1 ext, M') ∧ K M') (104, 58, [some (.ref 20), none, none, some (.int (nI (opn er (R * C)))), some (.int (nI c')), some (.int (nI p')), some (.int (nI (nn R C (opn er (R * C)) f pl c' p'))), some (.int (nI k)), none], [], (DB o i0 i1 ext), M1) := by
    intro n
    induction n with
    | zero =>
      intro k c' p' M1 h0 hk hc hs hfc hp hM h20 hT hN
      obtain rfl : k = 4 := by omega
      refine b_X5_findWays_58 _ _ _ _ _ ⟨fun _ => ?_, fun z => absurd (nI_le (Nat.le_refl _) (by decide)) z⟩
      rw [nI_add]
      refine hN M1 hM h20 (fun c z hc2 hfc2 hz => ?_)
      rw [hT c z hc2 hfc2 hz, vv_step hw.1 hA hf hpl hfp hs hfc hp hc2]
      congr 2
      have e : ((∃ j, j < 4 ∧ nf R C (mi (opn er (R * C)) c') p' j = some z) ∧ c = sb c' z) ↔ (mi (opn er (R * C)) c, z) ∈ su R C (mi (opn er (R * C)) c', p') := by
        rw [su_mem]
        constructor
        · rintro ⟨⟨j, hj, hn⟩, rfl⟩
          exact ⟨j, hj, hn, (mi_sb _ _ _).symm⟩
        · intro hm
          obtain ⟨j, hj, hn, e⟩ := hm
          refine ⟨⟨j, hj, hn⟩, ?_⟩
          have hn' := (nf_some.mp hn).2
          have e : mi (opn er (R * C)) c = cb (mi (opn er (R * C)) c') z := e
          rw [mi_sb] at e
          have hn' : (mi (opn er (R * C)) c').testBit z = true := hn'
          rw [mi_t, Bool.and_eq_true] at hn'
          exact mi_inj hc2 (Sub_sb hs hn'.1) e
      by_cases q : (∃ j, j < 4 ∧ nf R C (mi (opn er (R * C)) c') p' j = some z) ∧ c = sb c' z
      · rw [if_pos q, if_pos (e.mp q)]
      · rw [if_neg q, if_neg (fun y => q (e.mpr y))]
    | succ n ih =>
      intro k c' p' M1 h0 hk hc hs hfc hp hM h20 hT hN
      have hns := nn_small hw.1 hAb hpl hfp c' p'
      refine b_X5_findWays_58 _ _ _ _ _ ⟨fun z => ?_, fun _ => ⟨fun z => ?_, fun z => m_next (hF.fm hM) hw.1 hc hp (by omega) ?_⟩⟩
      · rw [n_le (by decide) (by omega)] at z; omega
      · rw [← nI_0, n_le (by omega) (by decide)] at z
        have hz : nn R C (opn er (R * C)) f pl c' p' = 0 := by omega
        rw [nI_add]
        refine hN M1 hM h20 (fun c z2 hc2 hfc2 hz2 => ?_)
        rw [hT c z2 hc2 hfc2 hz2, vv_step hw.1 hA hf hpl hfp hs hfc hp hc2, hz]
        congr 2
        rw [ite_self, ite_self]
      · rw [en6_neg (nf_b hw.1 hp (by omega)), nI_add]
        cases hq : nf R C (mi (opn er (R * C)) c') p' k with
        | none =>
          refine ⟨fun _ => ih (k + 1) c' p' M1 (by omega) (by omega) hc hs hfc hp hM h20 (fun c z2 hc2 hfc2 hz2 => ?_) hN, fun y => absurd rfl y⟩
          rw [hT c z2 hc2 hfc2 hz2]
          congr 2
          have e : ((∃ j, j < k ∧ nf R C (mi (opn er (R * C)) c') p' j = some z2) ∧ c = sb c' z2) ↔ ((∃ j, j < k + 1 ∧ nf R C (mi (opn er (R * C)) c') p' j = some z2) ∧ c = sb c' z2) := by
            constructor
            · rintro ⟨⟨j, hj, hn⟩, e⟩; exact ⟨⟨j, by omega, hn⟩, e⟩
            · rintro ⟨⟨j, hj, hn⟩, e⟩
              refine ⟨⟨j, ?_, hn⟩, e⟩
              rcases Nat.lt_or_ge j k with y | y
              · exact y
              · obtain rfl : j = k := by omega
                rw [hq] at hn; cases hn
          by_cases q : (∃ j, j < k ∧ nf R C (mi (opn er (R * C)) c') p' j = some z2) ∧ c = sb c' z2
          · rw [if_pos q, if_pos (e.mp q)]
          · rw [if_neg q, if_neg (fun y => q (e.mpr y))]
        | some q =>
          obtain ⟨a, b⟩ := nf_some.mp hq
          have hq2 := (nb_ok hw.1 hp (by omega) a).1
          rw [mi_t, Bool.and_eq_true] at b
          have hcq : c'.testBit q = false := by simpa using b.2
          have hsl := sb_lt hc (show q < 16 by omega)
          have hss := Sub_sb hs b.1
          have hgt := sb_gt hcq
          refine ⟨fun y => (by cases y), fun _ => ?_⟩
          show CI _ 101 [.int (nI c' ||| ((nI 1) <<< (nI q &&& 31))), .int (nI q)] _ _ _ _
          rw [n_sb (by omega)]
          refine m_at ⟨n_in (by omega) (by decide), n_in (by omega) (by decide), ?_⟩
          rw [n_cl (by omega), hT (sb c' q) q hss (by omega) (by omega), nI_add]
          refine ih (k + 1) c' p' _ (by omega) (by omega) hc hs hfc hp (hM.ms (by omega)) (f20 h20) (fun c z2 hc2 hfc2 hz2 => ?_) hN
          by_cases ec : c = sb c' q ∧ z2 = q
          · obtain ⟨rfl, rfl⟩ := ec
            rw [ms_s, if_neg, if_pos ⟨⟨k, by omega, hq⟩, rfl⟩, Nat.add_zero]
            rintro ⟨⟨j, hj, hn⟩, -⟩
            have := nb_inj hw.1 hp (by omega) (by omega) (nf_some.mp hn).1 a
            omega
          · rw [ms_b (by omega), hT c z2 hc2 hfc2 hz2]
            congr 2
            have e : ((∃ j, j < k ∧ nf R C (mi (opn er (R * C)) c') p' j = some z2) ∧ c = sb c' z2) ↔ ((∃ j, j < k + 1 ∧ nf R C (mi (opn er (R * C)) c') p' j = some z2) ∧ c = sb c' z2) := by
              constructor
              · rintro ⟨⟨j, hj, hn⟩, e⟩; exact ⟨⟨j, by omega, hn⟩, e⟩
              · rintro ⟨⟨j, hj, hn⟩, e⟩
                refine ⟨⟨j, ?_, hn⟩, e⟩
                rcases Nat.lt_or_ge j k with y | y
                · exact y
                · obtain rfl : j = k := by omega
                  rw [hq] at hn
                  obtain rfl := Option.some.inj hn
                  exact absurd ⟨e, rfl⟩ ec
            by_cases q' : (∃ j, j < k ∧ nf R C (mi (opn er (R * C)) c') p' j = some z2) ∧ c = sb c' z2
            · rw [if_pos q', if_pos (e.mp q')]
            · rw [if_neg q', if_neg (fun y => q' (e.mpr y))]
  have plc : ∀ n p' c' (M1 : AMm), R * C - p' = n → p' ≤ R * C → f ≤ c' → c' ≤ opn er (R * C) → FM M M1 → (∀ b, M1 20 b = M 20 b) → WT M1 R C (opn er (R * C)) f pl c' p' → (∀ M', FM M M' → (∀ b, M' 20 b = M 20 b) → WT M' R C (opn er (R * C)) f pl (c' + 1) 0 → T (d + 3) (fun r => ∃ M', r = (none, DB o i0 i1 ext, M') ∧ K M') (104, 34, [some (.ref 20), none, none, some (.int (nI (opn er (R * C)))), some (.int (nI (c' + 1))), none, none, none, none], [], (DB o i0 i1 ext), M')) → T (d + 3) (fun r => ∃ M', r = (none, DB o i0 i1 ext, M') ∧ K M') (104, 39, [some (.ref 20), none, none, some (.int (nI (opn er (R * C)))), some (.int (nI c')), some (.int (nI p')), none, none, none], [], (DB o i0 i1 ext), M1) := by
    intro n
    induction n with
    | zero =>
      intro p' c' M1 h0 hp hfc hc hM h20 hT hN
      obtain rfl : p' = R * C := by omega
      refine b_X5_findWays_39 _ _ _ (m_places (hF.fm hM) ⟨fun _ => ?_, fun z => absurd (nI_le (Nat.le_refl _) (by omega)) z⟩)
      rw [nI_add]
      exact hN M1 hM h20 (fun c z hc2 hfc2 hz => by rw [← vv_next hw.1 hA hf hpl hfp]; exact hT c z hc2 hfc2 hz)
    | succ n ih =>
      intro p' c' M1 h0 hp hfc hc hM h20 hT hN
      refine b_X5_findWays_39 _ _ _ (m_places (hF.fm hM) ⟨fun z => ?_, fun _ => ?_⟩)
      · rw [n_le (by omega) (by omega)] at z; omega
      · have hcl : c' < 65536 := by omega
        rw [n_andn, show c' ^^^ c' &&& opn er (R * C) = mi c' (opn er (R * C)) from rfl, n_e0 (Nat.lt_trans (mi_lt hcl) (by decide)), Sub_mi, nI_add]
        refine ⟨fun hs => m_at ⟨n_in (by omega) (by decide), ?_⟩, fun hs => hN M1 hM h20 (fun c z hc2 hfc2 hz => by rw [← vv_skip hs]; exact hT c z hc2 hfc2 hz)⟩
        rw [n_cl (by omega), hT c' p' hs hfc (by omega), vv_read hw.1 hA hf hpl hfp hs hfc]
        exact stp 4 0 c' p' M1 rfl (by decide) hcl hs hfc (by omega) hM h20 (fun c z hc2 hfc2 hz => by
          rw [hT c z hc2 hfc2 hz, if_neg]
          · rfl
          · rintro ⟨⟨j, hj, -⟩, -⟩; omega) (fun M' hM' h20' hT' => ih (p' + 1) c' M' (by omega) (by omega) hfc hc hM' h20' hT' hN)
  have cut : ∀ n c' (M1 : AMm), opn er (R * C) + 1 - c' = n → c' ≤ opn er (R * C) + 1 → f ≤ c' → FM M M1 → (∀ b, M1 20 b = M 20 b) → WT M1 R C (opn er (R * C)) f pl c' 0 → T (d + 3) (fun r => ∃ M', r = (none, DB o i0 i1 ext, M') ∧ K M') (104, 34, [some (.ref 20), none, none, some (.int (nI (opn er (R * C)))), some (.int (nI c')), none, none, none, none], [], (DB o i0 i1 ext), M1) := by
    intro n
    induction n with
    | zero =>
      intro c' M1 h0 hc hfc hM h20 hT
      obtain rfl : c' = opn er (R * C) + 1 := by omega
      exact b_X5_findWays_34 _ _ ⟨fun _ => ⟨_, rfl, h M1 hM h20 (fin M1 hT)⟩, fun z => absurd (nI_lt (by omega) (by omega)) z⟩
    | succ n ih =>
      intro c' M1 h0 hc hfc hM h20 hT
      refine b_X5_findWays_34 _ _ ⟨fun z => ?_, fun _ => plc (R * C) 0 c' M1 (by omega) (by omega) hfc (by omega) hM h20 hT (fun M' hM' h20' hT' => ih (c' + 1) M' (by omega) (by omega) (by omega) hM' h20' hT')⟩
      rw [n_lt (by omega) (by omega)] at z; omega
  -- the table is laid
  have ini2 : ∀ n p' c' (M1 : AMm), 16 - p' = n → p' ≤ 16 → f ≤ c' → c' ≤ opn er (R * C) → FM M M1 → (∀ b, M1 20 b = M 20 b) → (∀ c z, f ≤ c → z < 16 → (c < c' ∨ (c = c' ∧ z < p')) → M1 24 (16 * c + z) = nI (if c = f then (if z = pl then 1 else 0) else 0)) → (∀ M', FM M M' → (∀ b, M' 20 b = M 20 b) → (∀ c z, f ≤ c → z < 16 → c < c' + 1 → M' 24 (16 * c + z) = nI (if c = f then (if z = pl then 1 else 0) else 0)) → T (d + 3) (fun r => ∃ M', r = (none, DB o i0 i1 ext, M') ∧ K M') (104, 5, [some (.ref 20), some (.int (nI f)), some (.int (nI pl)), some (.int (nI (opn er (R * C)))), some (.int (nI (c' + 1))), none, none, none, none], [], (DB o i0 i1 ext), M')) → T (d + 3) (fun r => ∃ M', r = (none, DB o i0 i1 ext, M') ∧ K M') (104, 10, [some (.ref 20), some (.int (nI f)), some (.int (nI pl)), some (.int (nI (opn er (R * C)))), some (.int (nI c')), some (.int (nI p')), none, none, none], [], (DB o i0 i1 ext), M1) := by
    intro n
    induction n with
    | zero =>
      intro p' c' M1 h0 hp hfc hc hM h20 hT hN
      obtain rfl : p' = 16 := by omega
      refine b_X5_findWays_10 _ _ _ _ _ ⟨fun _ => ?_, fun z => absurd (nI_le (Nat.le_refl _) (by decide)) z⟩
      rw [nI_add]
      exact hN M1 hM h20 (fun c z a1 a2 a3 => hT c z a1 a2 (by omega))
    | succ n ih =>
      intro p' c' M1 h0 hp hfc hc hM h20 hT hN
      have go : ∀ v : Nat, v = (if c' = f then (if p' = pl then 1 else 0) else 0) → T (d + 3) (fun r => ∃ M', r = (none, DB o i0 i1 ext, M') ∧ K M') (104, 10, [some (.ref 20), some (.int (nI f)), some (.int (nI pl)), some (.int (nI (opn er (R * C)))), some (.int (nI c')), some (.int (nI (p' + 1))), none, none, none], [], (DB o i0 i1 ext), (ms M1 24 (16 * c' + p') (nI v))) := by
        intro v hv
        refine ih (p' + 1) c' _ (by omega) (by omega) hfc hc (hM.ms (by omega)) (f20 h20) (fun c z a1 a2 a3 => ?_) hN
        by_cases e : c = c' ∧ z = p'
        · obtain ⟨rfl, rfl⟩ := e
          rw [ms_s, hv]
        · rw [ms_b (by omega)]; exact hT c z a1 a2 (by omega)
      refine b_X5_findWays_10 _ _ _ _ _ ⟨fun z => ?_, fun _ => m_at ?_⟩
      · rw [n_le (by decide) (by omega)] at z; omega
      · rw [n_eq (by omega) (by omega), n_eq (by omega) (by omega), n_cl (by omega), nI_add]
        refine ⟨fun e1 => ⟨fun e2 => ⟨n_in (by omega) (by decide), go 1 (by rw [if_pos e1, if_pos e2])⟩, fun e2 => ⟨n_in (by omega) (by decide), go 0 (by rw [if_pos e1, if_neg e2])⟩⟩, fun e1 => ⟨n_in (by omega) (by decide), go 0 (by rw [if_neg e1])⟩⟩
  have ini : ∀ n c' (M1 : AMm), opn er (R * C) + 1 - c' = n → c' ≤ opn er (R * C) + 1 → f ≤ c' → FM M M1 → (∀ b, M1 20 b = M 20 b) → (∀ c z, f ≤ c → z < 16 → c < c' → M1 24 (16 * c + z) = nI (if c = f then (if z = pl then 1 else 0) else 0)) → T (d + 3) (fun r => ∃ M', r = (none, DB o i0 i1 ext, M') ∧ K M') (104, 5, [some (.ref 20), some (.int (nI f)), some (.int (nI pl)), some (.int (nI (opn er (R * C)))), some (.int (nI c')), none, none, none, none], [], (DB o i0 i1 ext), M1) := by
    intro n
    induction n with
    | zero =>
      intro c' M1 h0 hc hfc hM h20 hT
      obtain rfl : c' = opn er (R * C) + 1 := by omega
      refine b_X5_findWays_5 _ _ _ _ ⟨fun _ => ?_, fun z => absurd (nI_lt (by omega) (by omega)) z⟩
      refine cut _ f M1 rfl (by omega) (Nat.le_refl _) hM h20 (fun c z hc2 hfc2 hz => ?_)
      have := Sub_le hc2
      rw [vv_0 hw.1 hA hf hpl hfp]
      exact hT c z hfc2 hz (by omega)
    | succ n ih =>
      intro c' M1 h0 hc hfc hM h20 hT
      refine b_X5_findWays_5 _ _ _ _ ⟨fun z => ?_, fun _ => ini2 16 0 c' M1 rfl (by decide) hfc (by omega) hM h20 (fun c z a1 a2 a3 => hT c z a1 a2 (by omega)) (fun M' hM' h20' hT' => ih (c' + 1) M' (by omega) (by omega) (by omega) hM' h20' hT')⟩
      rw [n_lt (by omega) (by omega)] at z; omega
  refine b_X5_findWays_0 _ _ (m_open hF hw.1 ?_)
  exact ini _ f M rfl (by omega) (Nat.le_refl _) FM.rf (fun _ => rfl) (fun c z a1 a2 a3 => by omega)
variable {K : Int32 → AMm → Prop}
theorem nn_aw (hw : WF R C er bg sp) (z : Nat) : nn R C (opn er (R * C)) (2 ^ bg) bg (opn er (R * C)) z = aw R C er bg z := by
  have h1 := Fo0_pc hw
  have hl := hw.1.le
  have hb := hw.2.2.1
  unfold nn aw
  rw [pc_2 (by omega), mi_self, mi_2, show pc (opn er (R * C)) - 1 = pc (Fo0 R C er bg) by omega]
  rfl
theorem k_all (hF : MF M R C er bg sp) (hw : WF R C er bg sp) (x : Int32) (h : ∀ M', FM M M' → K (an_all R C er bg x) M') : CI (d + 5) 105 [.ref 20, .int x] (DB o i0 i1 ext) M (DB o i0 i1 ext) K := by
  have hl := hw.1.le
  have hb := hw.2.2.1
  have hA := opn_lt (er := er) hl
  have hp2 := p2_lt (show bg < 16 by omega)
  unfold an_all at h
  have hA2 := Sub_le (Sub_2 (bgo hw))
  refine b_X5_all_0 _ ⟨fun e => ?_, fun e => m_isPlace hF hw.1 (fun z => ⟨fun _ => ?_, fun w => absurd rfl w⟩) (fun q hq z => ⟨fun w => absurd w (by decide), fun _ => ?_⟩)⟩
  · rw [if_pos e] at h
    rw [hF.2.2.1, n_2 (by omega)]
    refine m_fw hF hw (Sub_2 (bgo hw)) hb (t2s bg) (fun M1 hM h20 hT => ?_)
    have hF1 := hF.fm hM
    have loop : ∀ n k, R * C - k = n → k ≤ R * C → T (d + 5) (fun r => ∃ v M', r = (some (.int v), DB o i0 i1 ext, M') ∧ K v M') (105, 21, [some (.ref 20), some (.int x), some (.int (nI (fb_sm (aw R C er bg) k))), some (.int (nI k))], [], (DB o i0 i1 ext), M1) := by
      intro n
      induction n with
      | zero =>
        intro k h0 hk
        obtain rfl : k = R * C := by omega
        exact b_X5_all_21 _ _ _ (m_places hF1 ⟨fun _ => ⟨_, _, rfl, h M1 hM⟩, fun z => absurd (nI_le (Nat.le_refl _) (by omega)) z⟩)
      | succ n ih =>
        intro k h0 hk
        refine b_X5_all_21 _ _ _ (m_places hF1 ⟨fun z => ?_, fun _ => ⟨fun _ => m_open hF1 hw.1 (m_at ⟨n_in (by omega) (by decide), ?_⟩), fun z => absurd e z⟩⟩)
        · rw [n_le (by omega) (by omega)] at z; omega
        · rw [n_cl (by omega), hT _ k (fun _ q => q) hA2 (by omega), nn_aw hw, nI_add, nI_add]
          exact ih (k + 1) (by omega) (by omega)
    exact loop (R * C) 0 (by omega) (by omega)
  · rw [if_neg e, if_pos z] at h; exact ⟨_, _, rfl, h M FM.rf⟩
  · subst z
    rw [if_neg e, if_neg (inP_n hw.1 hq), n_cl (by omega)] at h
    rw [hF.2.2.1, n_2 (by omega)]
    refine m_fw hF hw (Sub_2 (bgo hw)) hb (t2s bg) (fun M1 hM h20 hT => ?_)
    have hF1 := hF.fm hM
    have loop : ∀ n k, R * C - k = n → k ≤ R * C → T (d + 5) (fun r => ∃ v M', r = (some (.int v), DB o i0 i1 ext, M') ∧ K v M') (105, 21, [some (.ref 20), some (.int (nI q)), some (.int (nI (if q < k then aw R C er bg q else 0))), some (.int (nI k))], [], (DB o i0 i1 ext), M1) := by
      intro n
      induction n with
      | zero =>
        intro k h0 hk
        obtain rfl : k = R * C := by omega
        refine b_X5_all_21 _ _ _ (m_places hF1 ⟨fun _ => ⟨_, _, rfl, ?_⟩, fun z => absurd (nI_le (Nat.le_refl _) (by omega)) z⟩)
        rw [if_pos hq]; exact h M1 hM
      | succ n ih =>
        intro k h0 hk
        have e2 := ih (k + 1) (by omega) (by omega)
        refine b_X5_all_21 _ _ _ (m_places hF1 ⟨fun z => ?_, fun _ => ⟨fun z => absurd z e, fun _ => ?_⟩⟩)
        · rw [n_le (by omega) (by omega)] at z; omega
        · rw [n_eq (by omega) (by omega), nI_add, nI_add]
          refine ⟨fun z => m_open hF1 hw.1 (m_at ⟨n_in (by omega) (by decide), ?_⟩), fun z => ?_⟩
          · subst z
            rw [n_cl (by omega), hT _ q (fun _ w => w) hA2 (by omega), nn_aw hw, nI_add, if_neg (Nat.lt_irrefl _), Nat.zero_add]
            rw [if_pos (Nat.lt_succ_self _)] at e2
            exact e2
          · rw [Nat.add_zero]
            by_cases hqk : q < k
            · rw [if_pos hqk]; rw [if_pos (by omega)] at e2; exact e2
            · rw [if_neg hqk]; rw [if_neg (by omega)] at e2; exact e2
    have := loop (R * C) 0 (by omega) (by omega)
    rw [if_neg (Nat.not_lt_zero _)] at this
    exact this
theorem k_last (hF : MF M R C er bg sp) (hw : WF R C er bg sp) (h : ∀ M', FM M M' → K (nI (lsb (aw R C er bg) (R * C))) M') : CI (d + 5) 120 [.ref 20] (DB o i0 i1 ext) M (DB o i0 i1 ext) K := by
  have hl := hw.1.le
  have hb := hw.2.2.1
  have hA := opn_lt (er := er) hl
  have hp2 := p2_lt (show bg < 16 by omega)
  have hA2 := Sub_le (Sub_2 (bgo hw))
  refine b_X5_last_0 ?_
  rw [hF.2.2.1, n_2 (by omega)]
  refine m_fw hF hw (Sub_2 (bgo hw)) hb (t2s bg) (fun M1 hM h20 hT => ?_)
  have hF1 := hF.fm hM
  have loop : ∀ n k, R * C - k = n → k ≤ R * C → T (d + 5) (fun r => ∃ v M', r = (some (.int v), DB o i0 i1 ext, M') ∧ K v M') (120, 12, [some (.ref 20), some (.int (nI (lsb (aw R C er bg) k))), some (.int (nI k))], [], (DB o i0 i1 ext), M1) := by
    intro n
    induction n with
    | zero =>
      intro k h0 hk
      obtain rfl : k = R * C := by omega
      exact b_X5_last_12 _ _ (m_places hF1 ⟨fun _ => ⟨_, _, rfl, h M1 hM⟩, fun z => absurd (nI_le (Nat.le_refl _) (by omega)) z⟩)
    | succ n ih =>
      intro k h0 hk
      have e2 := ih (k + 1) (by omega) (by omega)
      have hs := aw_small hw k
      refine b_X5_last_12 _ _ (m_places hF1 ⟨fun z => ?_, fun _ => m_open hF1 hw.1 (m_at ⟨n_in (by omega) (by decide), ?_⟩)⟩)
      · rw [n_le (by omega) (by omega)] at z; omega
      · rw [n_cl (by omega), hT _ k (fun _ q => q) hA2 (by omega), nn_aw hw, ← nI_0, n_le (by omega) (by decide), fa_or, Nat.or_zero, n_sb (by omega), nI_add]
        refine ⟨fun z => ?_, fun z => ?_⟩
        · rw [show lsb (aw R C er bg) (k + 1) = lsb (aw R C er bg) k from if_neg (by omega)] at e2; exact e2
        · rw [show lsb (aw R C er bg) (k + 1) = sb (lsb (aw R C er bg) k) k from if_pos (by omega)] at e2; exact e2
  exact loop (R * C) 0 (by omega) (by omega)
end Q2
