-- THE MODEL: best, storm
section N4
variable {d : Nat} {o i0 i1 : Option Nat} {ext : ADd} {M : AMm} {R C bg sp pn : Nat} {er pd : Nat → Int32}
theorem m_fb {K : AMm → Prop} (hF : MF M R C er bg sp) (hw : WF R C er bg sp) {m : Nat} (hm : m ≤ 60) (h : ∀ M', FM M M' → (∀ b, M' 20 b = M 20 b) → TBf M' R C (G2 (br er sp)) (opn er (R * C)) m → K M') : CV (d + 3) 107 [.ref 20, .int (nI m)] (DB o i0 i1 ext) M (DB o i0 i1 ext) K := by
  have hl := hw.1.le
  have hA := opn_lt (er := er) hl
  -- only the table is changed
  have f20 : ∀ {M1 : AMm} {i : Nat} {v : Int32}, (∀ b, M1 20 b = M 20 b) → ∀ b, (ms M1 23 i v) 20 b = M 20 b := fun h b => by rw [ms_a (by decide)]; exact h b
  have stp : ∀ n k c p (M1 : AMm), 4 - k = n → k ≤ 4 → c < 65536 → Sub c (opn er (R * C)) → p < R * C → 0 < pc c → FM M M1 → (∀ b, M1 20 b = M 20 b) → TBp M1 R C (G2 (br er sp)) (opn er (R * C)) m c p → (pc c < m ∨ k = 0) → (∀ M', FM M M' → (∀ b, M' 20 b = M 20 b) → TBp M' R C (G2 (br er sp)) (opn er (R * C)) m c (p + 1) → T (d + 3) (fun r => ∃ M', r = (none, DB o i0 i1 ext, M') ∧ K M') (107, 12, [some (.ref 20), some (.int (nI m)), some (.int (nI (opn er (R * C)))), some (.int (nI c)), some (.int (nI (pc c))), some (.int (nI (p + 1))), none, none, none, none], [], (DB o i0 i1 ext), M')) → T (d + 3) (fun r => ∃ M', r = (none, DB o i0 i1 ext, M') ∧ K M') (107, 26, [some (.ref 20), some (.int (nI m)), some (.int (nI (opn er (R * C)))), some (.int (nI c)), some (.int (nI (pc c))), some (.int (nI p)), some (.int (nI (if c.testBit p = true ∧ pc c < m then (gr R C (G2 (br er sp)) (gp R C (G2 (br er sp)) (m - pc c - 1)) (mi (opn er (R * C)) c) p (pc c - 1) k).1 else 0))), some (.int (nI k)), none, none], [], (DB o i0 i1 ext), M1) := by
    intro n
    induction n with
    | zero =>
      intro k c p M1 h0 hk hc hs hp hp0 hM h20 hT hmk hN
      obtain rfl : k = 4 := by omega
      have hpc := pc_le c
      refine b_X5_findBest_26 _ _ _ _ _ _ _ ⟨fun _ => m_at ⟨n_in (by omega) (by decide), ?_⟩, fun z => absurd (nI_le (Nat.le_refl _) (by decide)) z⟩
      rw [n_cl (by omega), nI_add]
      refine hN _ (hM.ms (by omega)) (f20 h20) (hT.set hw.1 (fun _ hb _ => ?_) (by omega))
      rw [if_pos ⟨hb, by omega⟩]
      unfold tv
      rw [← gp_r, show m - pc c - 1 + 1 = m - pc c by omega]
    | succ n ih =>
      intro k c p M1 h0 hk hc hs hp hp0 hM h20 hT hmk hN
      have hpc := pc_le c
      refine b_X5_findBest_26 _ _ _ _ _ _ _ ⟨fun z => ?_, fun _ => ?_⟩
      · rw [n_le (by decide) (by omega)] at z; omega
      · rw [n_le (by omega) (by omega)]
        refine ⟨fun hmt => m_at ⟨n_in (by omega) (by decide), ?_⟩, fun hmt => ?_⟩
        · rw [n_cl (by omega), nI_add]
          refine hN _ (hM.ms (by omega)) (f20 h20) (hT.set hw.1 (fun _ hb _ => ?_) (by omega))
          rw [if_neg (by omega)]
          unfold tv
          rw [show m - pc c = 0 by omega]
          rfl
        · have e := ih (k + 1) c p M1 (by omega) (by omega) hc hs hp hp0 hM h20 hT (Or.inl (by omega)) hN
          rw [n_t1 (by omega) (by omega), nI_add]
          have hz0 : ∀ v : Nat, v < 2 ^ 31 → ((nI 0 ≤ nI v → T (d + 2 + 1) (fun r => ∃ M', r = (none, DB o i0 i1 ext, M') ∧ K M') (107, 26, [some (.ref 20), some (.int (nI m)), some (.int (nI (opn er (R * C)))), some (.int (nI c)), some (.int (nI (pc c))), some (.int (nI p)), some (.int (nI v)), some (.int (nI (k + 1))), none, none], [], (DB o i0 i1 ext), M1)) → (nI 0 ≤ nI v → T (d + 2 + 1) (fun r => ∃ M', r = (none, DB o i0 i1 ext, M') ∧ K M') (107, 26, [some (.ref 20), some (.int (nI m)), some (.int (nI (opn er (R * C)))), some (.int (nI c)), some (.int (nI (pc c))), some (.int (nI p)), some (.int (nI v)), some (.int (nI (k + 1))), none, none], [], (DB o i0 i1 ext), M1)) ∧ (¬ nI 0 ≤ nI v → T (d + 2 + 1) (fun r => ∃ M', r = (none, DB o i0 i1 ext, M') ∧ K M') (107, 26, [some (.ref 20), some (.int (nI m)), some (.int (nI (opn er (R * C)))), some (.int (nI c)), some (.int (nI (pc c))), some (.int (nI p)), some (.int (nI 0)), some (.int (nI (k + 1))), none, none], [], (DB o i0 i1 ext), M1))) := fun v hv t => ⟨t, fun z => absurd (nI_le (Nat.zero_le _) hv) z⟩
          refine ⟨fun hb => ?_, fun hb => ?_⟩
          · have hcond : c.testBit p = true ∧ pc c < m := ⟨hb, by omega⟩
            rw [if_pos hcond] at e ⊢
            have hgl : (gr R C (G2 (br er sp)) (gp R C (G2 (br er sp)) (m - pc c - 1)) (mi (opn er (R * C)) c) p (pc c - 1) k).1 ≤ 100000 := by
              have hx := (gr_first (R := R) (C := C) (G := G2 (br er sp)) (X := gp R C (G2 (br er sp)) (m - pc c - 1)) (F := mi (opn er (R * C)) c) (p := p) (t := pc c - 1) k).1
              rcases hx with z | ⟨k0, q, a1, a2, a3, a4, a5, a6⟩
              · rw [z]; exact Nat.zero_le _
              · rw [← a4]
                have hq2 := (nb_ok hw.1 hp (by omega) (nf_some.mp a3).1).1
                have h1 := gp_le hw.1 (B := 288) (G := G2 (br er sp)) (G2_le hw) (m - pc c - 1) (cb (mi (opn er (R * C)) c) q) q (pc c - 1 + 1) hq2
                have h2 := G2_le hw q (pc c - 1 + 1) (gp R C (G2 (br er sp)) (m - pc c - 1) (cb (mi (opn er (R * C)) c) q) q (pc c - 1 + 1)).1 hq2
                omega
            rw [show gr R C (G2 (br er sp)) (gp R C (G2 (br er sp)) (m - pc c - 1)) (mi (opn er (R * C)) c) p (pc c - 1) (k + 1) = gq R C (G2 (br er sp)) (gp R C (G2 (br er sp)) (m - pc c - 1)) (mi (opn er (R * C)) c) p (pc c - 1) (gr R C (G2 (br er sp)) (gp R C (G2 (br er sp)) (m - pc c - 1)) (mi (opn er (R * C)) c) p (pc c - 1) k) k from rfl] at e
            generalize gr R C (G2 (br er sp)) (gp R C (G2 (br er sp)) (m - pc c - 1)) (mi (opn er (R * C)) c) p (pc c - 1) k = cur at e hgl hz0 ⊢
            refine m_next (hF.fm hM) hw.1 hc hp (by omega) ?_
            rw [le0, en6_neg (nf_b hw.1 hp (by omega))]
            cases hq : nf R C (mi (opn er (R * C)) c) p k with
            | none =>
              rw [gq_n hq] at e
              exact ⟨fun z => absurd rfl z, fun _ => hz0 _ (by omega) (fun _ => e)⟩
            | some q =>
              obtain ⟨a, b⟩ := nf_some.mp hq
              have hq2 := (nb_ok hw.1 hp (by omega) a).1
              rw [mi_t, Bool.and_eq_true] at b
              have hcq : c.testBit q = false := by simpa using b.2
              rw [gq_y hq, tv_s (by omega) hcq hp0] at e
              have htl := tv2_le hw (A := opn er (R * C)) (m := m) (c := sb c q) hq2
              refine ⟨fun _ => m_brings (hF.fm hM) hw hq2 (by omega) ?_, fun z => absurd (fun w => by cases w) z⟩
              show CI _ 101 [.int (nI c ||| ((nI 1) <<< (nI q &&& 31))), .int (nI q)] _ _ _ _
              rw [n_sb (by omega)]
              have hsl := sb_lt hc (show q < 16 by omega)
              have hb9 := br9 hw hq2 (t := pc c)
              refine m_at ⟨n_in (by omega) (by decide), ?_⟩
              rw [n_cl (by omega), hT (sb c q) q (Sub_sb hs b.1) hq2 (by rw [sb_t]; simp) (Or.inl (sb_gt hcq)), pk_mul]
              have eG : G2 (br er sp) q (pc c - 1 + 1) (tv R C (G2 (br er sp)) (opn er (R * C)) m (sb c q) q).1 = 32 * br er sp q (pc c) + (tv R C (G2 (br er sp)) (opn er (R * C)) m (sb c q) q).1 - 1 := by
                unfold G2; rw [show pc c - 1 + 1 = pc c by omega]
              rw [eG] at e
              obtain ⟨n1, n2, -⟩ := n_b32 (a := 32 * br er sp q (pc c)) (v := (tv R C (G2 (br er sp)) (opn er (R * C)) m (sb c q) q).1) (cur := cur.1) (by omega) (by omega)
              refine ⟨fun z => ?_, fun z => ?_⟩
              · rw [if_neg (n1.mp z)] at e; exact e
              · have hlt : cur.1 < 32 * br er sp q (pc c) + (tv R C (G2 (br er sp)) (opn er (R * C)) m (sb c q) q).1 - 1 := Classical.byContradiction fun q => z (n1.mpr q)
                rw [if_pos hlt] at e
                rw [n2 hlt]; exact e
          · have hcond : ¬ (c.testBit p = true ∧ pc c < m) := fun q => hb q.1
            rw [if_neg hcond] at e ⊢
            exact hz0 0 (by decide) (fun _ => e)
  have plc : ∀ n p c (M1 : AMm), R * C - p = n → p ≤ R * C → 0 < c → c < 65536 → FM M M1 → (∀ b, M1 20 b = M 20 b) → TBp M1 R C (G2 (br er sp)) (opn er (R * C)) m c p → (∀ M', FM M M' → (∀ b, M' 20 b = M 20 b) → TBp M' R C (G2 (br er sp)) (opn er (R * C)) m (c - 1) 0 → T (d + 3) (fun r => ∃ M', r = (none, DB o i0 i1 ext, M') ∧ K M') (107, 5, [some (.ref 20), some (.int (nI m)), some (.int (nI (opn er (R * C)))), some (.int (nI (c - 1))), none, none, none, none, none, none], [], (DB o i0 i1 ext), M')) → T (d + 3) (fun r => ∃ M', r = (none, DB o i0 i1 ext, M') ∧ K M') (107, 12, [some (.ref 20), some (.int (nI m)), some (.int (nI (opn er (R * C)))), some (.int (nI c)), some (.int (nI (pc c))), some (.int (nI p)), none, none, none, none], [], (DB o i0 i1 ext), M1) := by
    intro n
    induction n with
    | zero =>
      intro p c M1 h0 hp hc0 hc hM h20 hT hN
      obtain rfl : p = R * C := by omega
      refine b_X5_findBest_12 _ _ _ _ _ (m_places (hF.fm hM) ⟨fun _ => ?_, fun z => absurd (nI_le (Nat.le_refl _) (by omega)) z⟩)
      rw [n_dec hc0]
      exact hN M1 hM h20 (hT.next hc0)
    | succ n ih =>
      intro p c M1 h0 hp hc0 hc hM h20 hT hN
      refine b_X5_findBest_12 _ _ _ _ _ (m_places (hF.fm hM) ⟨fun z => ?_, fun _ => ?_⟩)
      · rw [n_le (by omega) (by omega)] at z; omega
      · rw [n_andn, show c ^^^ c &&& opn er (R * C) = mi c (opn er (R * C)) from rfl, n_e0 (Nat.lt_trans (mi_lt hc) (by decide)), Sub_mi, n_dec hc0]
        refine ⟨fun hs => ?_, fun hs => hN M1 hM h20 (hT.skip hc0 hs)⟩
        have hp0 : 0 < pc c := Nat.pos_of_ne_zero (fun z => by have := pc_zero hc z; omega)
        have e := stp 4 0 c p M1 rfl (by decide) hc hs (by omega) hp0 hM h20 hT (Or.inr rfl) (fun M' hM' h20' hT' => ih (p + 1) c M' (by omega) (by omega) hc0 hc hM' h20' hT' hN)
        rw [show (if c.testBit p = true ∧ pc c < m then (gr R C (G2 (br er sp)) (gp R C (G2 (br er sp)) (m - pc c - 1)) (mi (opn er (R * C)) c) p (pc c - 1) 0).1 else 0) = 0 from by split <;> rfl] at e
        exact e
  have cut : ∀ c (M1 : AMm), c < 65536 → FM M M1 → (∀ b, M1 20 b = M 20 b) → TBp M1 R C (G2 (br er sp)) (opn er (R * C)) m c 0 → T (d + 3) (fun r => ∃ M', r = (none, DB o i0 i1 ext, M') ∧ K M') (107, 5, [some (.ref 20), some (.int (nI m)), some (.int (nI (opn er (R * C)))), some (.int (nI c)), none, none, none, none, none, none], [], (DB o i0 i1 ext), M1) := by
    intro c
    induction c with
    | zero =>
      intro M1 hc hM h20 hT
      exact b_X5_findBest_5 _ _ _ ⟨fun _ => ⟨_, rfl, h M1 hM h20 hT.end⟩, fun z => absurd (by decide) z⟩
    | succ c ih =>
      intro M1 hc hM h20 hT
      refine b_X5_findBest_5 _ _ _ ⟨fun z => ?_, fun _ => m_ones hc ?_⟩
      · rw [← nI_0, n_le (by omega) (by decide)] at z; omega
      · exact plc (R * C) 0 (c + 1) M1 (by omega) (by omega) (by omega) hc hM h20 hT (fun M' hM' h20' hT' => ih M' (by omega) hM' h20' hT')
  refine b_X5_findBest_0 _ (m_open hF hw.1 ?_)
  refine cut _ M hA FM.rf (fun _ => rfl) (fun c p hs hp hb hc => ?_)
  have := Sub_le hs
  omega
variable {K : Int32 → AMm → Prop}
/-- the first step by which the best goes on, where it leads -/
theorem m_bestWay (hF : MF M R C er bg sp) (hw : WF R C er bg sp) {m : Nat} (hm : m ≤ 60) (hT : TBf M R C (G2 (br er sp)) (opn er (R * C)) m) {c p : Nat} (hc : c < 65536) (hs : Sub c (opn er (R * C))) (hp : p < R * C) (hb : c.testBit p = true) (h0 : (tv R C (G2 (br er sp)) (opn er (R * C)) m c p).2 = [] → K (-(nI 6)) M) (h1 : ∀ k q, k < 4 → nf R C (mi (opn er (R * C)) c) p k = some q → (tv R C (G2 (br er sp)) (opn er (R * C)) m c p).2 = k :: (tv R C (G2 (br er sp)) (opn er (R * C)) m (sb c q) q).2 → K (nI k) M) : CI (d + 3) 108 [.ref 20, .int (nI c), .int (nI p)] (DB o i0 i1 ext) M (DB o i0 i1 ext) K := by
  have hl := hw.1.le
  have hp0 := pc_pos (by omega) hb
  have hpc := pc_le c
  have htl := tv2_le hw (A := opn er (R * C)) (m := m) (c := c) hp
  refine b_X5_bestWay_0 _ _ (m_at ⟨n_in (by omega) (by decide), ?_⟩)
  rw [n_cl (by omega), hT c p hs hp hb]
  have nil : (tv R C (G2 (br er sp)) (opn er (R * C)) m c p).1 = 0 → (tv R C (G2 (br er sp)) (opn er (R * C)) m c p).2 = [] := by
    intro hz
    unfold tv at hz ⊢
    rcases Nat.eq_zero_or_pos (m - pc c) with z | z
    · rw [z]; rfl
    · obtain ⟨n, hn⟩ : ∃ n, m - pc c = n + 1 := ⟨m - pc c - 1, by omega⟩
      rw [hn] at hz ⊢
      rcases gp_first (R := R) (C := C) (G := G2 (br er sp)) (n := n) (F := mi (opn er (R * C)) c) (p := p) (t := pc c - 1) with y | ⟨k0, q, a1, a2, a3, a4, a5, a6⟩
      · rw [y]
      · omega
  have loop : ∀ n w, 4 - w = n → w ≤ 4 → (∀ v q, v < w → nf R C (mi (opn er (R * C)) c) p v = some q → 0 < (tv R C (G2 (br er sp)) (opn er (R * C)) m c p).1 → 32 * br er sp q (pc c) + (tv R C (G2 (br er sp)) (opn er (R * C)) m (sb c q) q).1 - 1 ≠ (tv R C (G2 (br er sp)) (opn er (R * C)) m c p).1) → T (d + 3) (fun r => ∃ v M', r = (some (.int v), DB o i0 i1 ext, M') ∧ K v M') (108, 9, [some (.ref 20), some (.int (nI c)), some (.int (nI p)), some (.int (nI (tv R C (G2 (br er sp)) (opn er (R * C)) m c p).1)), some (.int (nI w)), none], [], (DB o i0 i1 ext), M) := by
    intro n
    -- the first step of the best way, by the table
    have fst : 0 < (tv R C (G2 (br er sp)) (opn er (R * C)) m c p).1 → ∃ k0 q, k0 < 4 ∧ nf R C (mi (opn er (R * C)) c) p k0 = some q ∧ 32 * br er sp q (pc c) + (tv R C (G2 (br er sp)) (opn er (R * C)) m (sb c q) q).1 - 1 = (tv R C (G2 (br er sp)) (opn er (R * C)) m c p).1 ∧ (tv R C (G2 (br er sp)) (opn er (R * C)) m c p).2 = k0 :: (tv R C (G2 (br er sp)) (opn er (R * C)) m (sb c q) q).2 ∧ ∀ j q', j < k0 → nf R C (mi (opn er (R * C)) c) p j = some q' → 32 * br er sp q' (pc c) + (tv R C (G2 (br er sp)) (opn er (R * C)) m (sb c q') q').1 - 1 < (tv R C (G2 (br er sp)) (opn er (R * C)) m c p).1 := by
      intro hpos
      have hmp : 0 < m - pc c := by
        rcases Nat.eq_zero_or_pos (m - pc c) with z | z
        · unfold tv at hpos; rw [z] at hpos; exact absurd hpos (Nat.lt_irrefl 0)
        · exact z
      have hg := gp_first (R := R) (C := C) (G := G2 (br er sp)) (n := m - pc c - 1) (F := mi (opn er (R * C)) c) (p := p) (t := pc c - 1)
      rw [show m - pc c - 1 + 1 = m - pc c by omega] at hg
      have cv : ∀ q, (mi (opn er (R * C)) c).testBit q = true → q < R * C → gp R C (G2 (br er sp)) (m - pc c - 1) (cb (mi (opn er (R * C)) c) q) q (pc c - 1 + 1) = tv R C (G2 (br er sp)) (opn er (R * C)) m (sb c q) q := by
        intro q b hq2
        rw [mi_t, Bool.and_eq_true] at b
        exact tv_s (by omega) (by simpa using b.2) hp0
      have cG : ∀ q s, G2 (br er sp) q (pc c - 1 + 1) s = 32 * br er sp q (pc c) + s - 1 := by
        intro q s; unfold G2; rw [show pc c - 1 + 1 = pc c by omega]
      rcases hg with z | ⟨k0, q, a1, a2, a3, a4, a5, a6⟩
      · unfold tv at hpos; rw [z] at hpos; exact absurd hpos (Nat.lt_irrefl 0)
      · have a3' := nf_some.mp a3
        have hq2 := (nb_ok hw.1 hp a1 a3'.1).1
        rw [cv q a3'.2 hq2] at a4 a5
        rw [cG] at a4
        refine ⟨k0, q, a1, a3, a4, a5, fun j q' hj hn => ?_⟩
        have b3' := nf_some.mp hn
        have hq3 := (nb_ok hw.1 hp (by omega) b3'.1).1
        have := a6 j q' hj hn
        rw [cv q' b3'.2 hq3, cG] at this
        exact this
    induction n with
    | zero =>
      intro w e hw4 hlt
      obtain rfl : w = 4 := by omega
      refine b_X5_bestWay_9 _ _ _ _ ⟨fun _ => ⟨_, _, rfl, h0 (nil ?_)⟩, fun z => absurd (nI_le (Nat.le_refl _) (by decide)) z⟩
      apply Classical.byContradiction
      intro hz
      obtain ⟨k0, q, a1, a3, a4, a5, a6⟩ := fst (by omega)
      exact hlt k0 q a1 a3 (by omega) a4
    | succ n ih =>
      intro w e hw4 hlt
      refine b_X5_bestWay_9 _ _ _ _ ⟨fun z => ?_, fun _ => ⟨fun z => ⟨_, _, rfl, h0 (nil ?_)⟩, fun z => m_next hF hw.1 hc hp (by omega) ?_⟩⟩
      · rw [n_le (by decide) (by omega)] at z; omega
      · rw [← nI_0, n_le (by omega) (by decide)] at z; omega
      · rw [← nI_0, n_le (by omega) (by decide)] at z
        rw [en6_neg (nf_b hw.1 hp (by omega)), nI_add]
        have nx : (∀ q, nf R C (mi (opn er (R * C)) c) p w = some q → 32 * br er sp q (pc c) + (tv R C (G2 (br er sp)) (opn er (R * C)) m (sb c q) q).1 - 1 ≠ (tv R C (G2 (br er sp)) (opn er (R * C)) m c p).1) → T (d + 3) (fun r => ∃ v M', r = (some (.int v), DB o i0 i1 ext, M') ∧ K v M') (108, 9, [some (.ref 20), some (.int (nI c)), some (.int (nI p)), some (.int (nI (tv R C (G2 (br er sp)) (opn er (R * C)) m c p).1)), some (.int (nI (w + 1))), none], [], (DB o i0 i1 ext), M) := by
          intro hne
          refine ih (w + 1) (by omega) (by omega) (fun v q hv hn hps => ?_)
          rcases Nat.lt_or_ge v w with y | y
          · exact hlt v q y hn hps
          · obtain rfl : v = w := by omega
            exact hne q hn
        cases hq : nf R C (mi (opn er (R * C)) c) p w with
        | none => exact ⟨fun _ => nx (fun q hn => by rw [hq] at hn; cases hn), fun y => absurd rfl y⟩
        | some q =>
          obtain ⟨a, b⟩ := nf_some.mp hq
          have hq2 := (nb_ok hw.1 hp (by omega) a).1
          rw [mi_t, Bool.and_eq_true] at b
          have hcq : c.testBit q = false := by simpa using b.2
          have htl2 := tv2_le hw (A := opn er (R * C)) (m := m) (c := sb c q) hq2
          have hb9 := br9 hw hq2 (t := pc c)
          have hsl := sb_lt hc (show q < 16 by omega)
          refine ⟨fun y => (by cases y), fun _ => m_ones hc (m_brings hF hw hq2 (by omega) ?_)⟩
          show CI _ 101 [.int (nI c ||| ((nI 1) <<< (nI q &&& 31))), .int (nI q)] _ _ _ _
          rw [n_sb (by omega)]
          refine m_at ⟨n_in (by omega) (by decide), ?_⟩
          rw [n_cl (by omega), hT (sb c q) q (Sub_sb hs b.1) hq2 (by rw [sb_t]; simp), pk_mul]
          obtain ⟨-, -, n3⟩ := n_b32 (a := 32 * br er sp q (pc c)) (v := (tv R C (G2 (br er sp)) (opn er (R * C)) m (sb c q) q).1) (cur := (tv R C (G2 (br er sp)) (opn er (R * C)) m c p).1) (by omega) (by omega)
          rw [n3 (by omega)]
          refine ⟨fun y => ⟨_, _, rfl, ?_⟩, fun y => nx (fun q' hn => by rw [hq] at hn; obtain rfl := Option.some.inj hn; exact y)⟩
          obtain ⟨k0, q0, a1, a3, a4, a5, a6⟩ := fst (by omega)
          have hwk : w = k0 := by
            rcases Nat.lt_or_ge w k0 with u | u
            · have := a6 w q u hq; omega
            · rcases Nat.lt_or_ge k0 w with u2 | u2
              · exact absurd a4 (hlt k0 q0 u2 a3 (by omega))
              · omega
          subst hwk
          rw [hq] at a3
          obtain rfl := Option.some.inj a3
          exact h1 w q (by omega) hq a5
  exact loop 4 0 rfl (by decide) (fun v q hv => absurd hv (Nat.not_lt_zero v))
theorem m_bestFrom (hw : WF R C er bg sp) {m : Nat} (hm : m ≤ 60) (hT : TBf M R C (G2 (br er sp)) (opn er (R * C)) m) {c p : Nat} (hc : c < 65536) (hs : Sub c (opn er (R * C))) (hp : p < R * C) (hb : c.testBit p = true) (h : K (nI (((tv R C (G2 (br er sp)) (opn er (R * C)) m c p).1 + 31) / 32)) M) : CI (d + 1) 109 [.ref 20, .int (nI c), .int (nI p)] (DB o i0 i1 ext) M (DB o i0 i1 ext) K := by
  have hl := hw.1.le
  have htl := tv2_le hw (A := opn er (R * C)) (m := m) (c := c) hp
  refine b_X5_bestFrom_0 _ _ (m_at ⟨n_in (by omega) (by decide), _, _, rfl, ?_⟩)
  rw [n_cl (by omega), hT c p hs hp hb, nI_add, pk_sub (by omega), pk_div (by omega) (by decide) (by decide), Nat.add_sub_assoc (by decide)]
  exact h
theorem sgo_c {a k : Nat} {l r : List Nat} (i : Nat) (h : l = k :: r) : sgo (some (a, l)) (i + 1) = sgo (some (a, r)) i := by rw [h]; rfl
theorem k_best (hF : MF M R C er bg sp) (hw : WF R C er bg sp) (x : Int32) (h : ∀ M', FM M M' → K (an_best R C er bg sp x) M') : CI (d + 5) 110 [.ref 20, .int x] (DB o i0 i1 ext) M (DB o i0 i1 ext) K := by
  have hl := hw.1.le
  have hb := hw.2.2.1
  have hA := opn_lt (er := er) hl
  unfold an_best at h
  refine b_X5_best_0 _ (m_fb hF hw (by decide) (fun M1 hM h20 hT => ?_))
  have h := h M1 hM
  have hF1 := hF.fm hM
  have hp2 := p2_lt (show bg < 16 by omega)
  rw [hF1.2.2.1, n_2 (by omega), n_cl (by omega), hF1.2.2.2.2 bg hb]
  have e0 : tv R C (G2 (br er sp)) (opn er (R * C)) 16 (2 ^ bg) bg = gp R C (G2 (br er sp)) 15 (Fo0 R C er bg) bg 0 := by
    unfold tv
    rw [pc_2 (by omega), mi_2]
    rfl
  rw [← e0] at h
  refine ⟨fun e => ⟨n_in (by omega) (by decide), m_bestFrom hw (by decide) hT hp2 (Sub_2 (bgo hw)) hb (t2s bg) ?_⟩, fun e => ?_⟩
  · rw [if_pos e] at h
    rw [br_0 hw, nI_add]
    exact ⟨_, _, rfl, h⟩
  · rw [if_neg e] at h
    rw [le0]
    refine ⟨fun hx => ?_, fun hx => ?_⟩
    · obtain ⟨i, hi, rfl⟩ := nI_of hx
      rw [if_neg hx, n_cl hi] at h
      -- what is answered at the end
      have loop : ∀ n k c p, i - k = n → k ≤ i → c < 65536 → Sub c (opn er (R * C)) → p < R * C → c.testBit p = true → K (sgo (some (0, (tv R C (G2 (br er sp)) (opn er (R * C)) 16 c p).2)) n) M1 → ∀ (v : Int32), ((tv R C (G2 (br er sp)) (opn er (R * C)) 16 c p).2 = [] ∧ v = -(nI 6) ∨ ∃ w q, w < 4 ∧ nf R C (mi (opn er (R * C)) c) p w = some q ∧ (tv R C (G2 (br er sp)) (opn er (R * C)) 16 c p).2 = w :: (tv R C (G2 (br er sp)) (opn er (R * C)) 16 (sb c q) q).2 ∧ v = nI w) → T (d + 5) (fun r => ∃ v M', r = (some (.int v), DB o i0 i1 ext, M') ∧ K v M') (110, 35, [some (.ref 20), some (.int (nI i)), some (.int (nI c)), some (.int (nI p)), some (.int v), some (.int (nI k))], [], (DB o i0 i1 ext), M1) := by
        intro n
        induction n with
        | zero =>
          intro k c p h0 hk hc hs hp hcp hK v hv
          obtain rfl : k = i := by omega
          refine b_X5_best_35 _ _ _ _ _ ⟨fun _ => ?_, fun z => absurd (nI_le (Nat.le_refl _) (by omega)) z⟩
          rcases hv with ⟨hv1, rfl⟩ | ⟨w, q, w4, hn, hv1, rfl⟩
          · rw [hv1] at hK
            exact ⟨fun z => absurd z (by decide), fun _ => ⟨_, _, rfl, hK⟩⟩
          · rw [hv1] at hK
            exact ⟨fun _ => m_signOf w4 ⟨_, _, rfl, hK⟩, fun z => absurd (nI_pos' (by omega)) z⟩
        | succ n ih =>
          intro k c p h0 hk hc hs hp hcp hK v hv
          refine b_X5_best_35 _ _ _ _ _ ⟨fun z => ?_, fun _ => ?_⟩
          · rw [n_le (by omega) (by omega)] at z; omega
          · rcases hv with ⟨hv1, rfl⟩ | ⟨w, q, w4, hn, hv1, rfl⟩
            · rw [hv1] at hK
              exact ⟨fun _ => ⟨fun z => absurd z (by decide), fun _ => ⟨_, _, rfl, hK⟩⟩, fun z => absurd (by decide) z⟩
            · refine ⟨fun z => absurd z (nI_pos (by omega)), fun _ => m_next hF1 hw.1 hc hp w4 ?_⟩
              obtain ⟨a, b⟩ := nf_some.mp hn
              have hq2 := (nb_ok hw.1 hp w4 a).1
              rw [mi_t, Bool.and_eq_true] at b
              rw [hn]
              show CI _ 108 [.ref 20, .int (nI c ||| ((nI 1) <<< (nI q &&& 31))), .int (nI q)] _ _ _ _
              rw [n_sb (by omega), nI_add]
              have hsl := sb_lt hc (show q < 16 by omega)
              have hss := Sub_sb hs b.1
              have hsq : (sb c q).testBit q = true := by rw [sb_t]; simp
              have hK2 : K (sgo (some (0, (tv R C (G2 (br er sp)) (opn er (R * C)) 16 (sb c q) q).2)) n) M1 := by rw [← sgo_c n hv1]; exact hK
              have e := ih (k + 1) (sb c q) q (by omega) (by omega) hsl hss hq2 hsq hK2
              refine m_bestWay hF1 hw (by decide) hT hsl hss hq2 hsq (fun z => ?_) (fun k' q' z1 z2 z3 => ?_)
              · show T _ _ (110, 35, [some (.ref 20), some (.int (nI i)), some (.int (nI c ||| ((nI 1) <<< (nI q &&& 31)))), some (.int (nI q)), some (.int (-(nI 6))), some (.int (nI (k + 1)))], [], (DB o i0 i1 ext), M1)
                rw [n_sb (by omega)]
                exact e _ (Or.inl ⟨z, rfl⟩)
              · show T _ _ (110, 35, [some (.ref 20), some (.int (nI i)), some (.int (nI c ||| ((nI 1) <<< (nI q &&& 31)))), some (.int (nI q)), some (.int (nI k')), some (.int (nI (k + 1)))], [], (DB o i0 i1 ext), M1)
                rw [n_sb (by omega)]
                exact e _ (Or.inr ⟨k', q', z1, z2, z3, rfl⟩)
      have e := loop i 0 (2 ^ bg) bg (by omega) (by omega) hp2 (Sub_2 (bgo hw)) hb (t2s bg) h
      exact m_bestWay hF1 hw (by decide) hT hp2 (Sub_2 (bgo hw)) hb (t2s bg) (fun z => e _ (Or.inl ⟨z, rfl⟩)) (fun k' q' z1 z2 z3 => e _ (Or.inr ⟨k', q', z1, z2, z3, rfl⟩))
    · have hx : x < 0 := Classical.byContradiction hx
      rw [if_pos hx] at h
      refine b_X5_best_35 _ _ _ _ _ ⟨fun _ => ⟨fun z => absurd z (by decide), fun _ => ⟨_, _, rfl, h⟩⟩, fun z => absurd ?_ z⟩
      rw [nI_0, fa_le]
      rw [fa_lt] at hx
      omega
theorem k_storm (hF : MF M R C er bg sp) (hw : WF R C er bg sp) (hP : MP M pn pd) (x y : Int32) (h : ∀ M', FM M M' → K (an_storm R C er bg sp pn pd x y) M') : CI (d + 5) 111 [.ref 20, .int x, .int y] (DB o i0 i1 ext) M (DB o i0 i1 ext) K := by
  have hl := hw.1.le
  unfold an_storm at h
  refine b_X5_storm_0 _ _ (m_in (by decide) (by decide) (fun e => ⟨fun _ => ?_, fun z => absurd rfl z⟩) (fun e => ⟨fun z => absurd z (by decide), fun _ => m_in (by decide) (by decide) (fun e2 => ⟨fun _ => ?_, fun z => absurd rfl z⟩) (fun e2 => ⟨fun z => absurd z (by decide), fun _ => m_faultW hP ?_⟩)⟩))
  · rw [if_pos (by rcases e with z | z; exact Or.inl z; exact Or.inr (Or.inl z))] at h; exact ⟨_, _, rfl, h M FM.rf⟩
  · rw [if_pos (by rcases e2 with z | z; exact Or.inr (Or.inr (Or.inl z)); exact Or.inr (Or.inr (Or.inr z)))] at h; exact ⟨_, _, rfl, h M FM.rf⟩
  · rw [if_neg (by rintro (z | z | z | z); exact e (Or.inl z); exact e (Or.inr z); exact e2 (Or.inl z); exact e2 (Or.inr z))] at h
    obtain ⟨k, hk, rfl⟩ := nI_of (fun z => e (Or.inl z))
    have hk20 : k ≤ 20 := by
      have : ¬ nI 20 < nI k := fun z => e (Or.inr z)
      rw [n_lt (by decide) hk] at this; omega
    rw [en6_neg (fun q hq => wf6 q hq hP.2.1)]
    refine ⟨fun e3 => ?_, fun e3 => ?_⟩
    · rw [if_neg (show ¬ wft pd pn 0 ≠ none from fun z => z e3)] at h
      refine m_goWay hF hw hP e3 (fun F p t b w M' g1 g2 g3 g4 g5 g6 g7 => ?_)
      rw [g1, n_cl hk] at h
      obtain ⟨u1, u2, u3, u4, u5, u6⟩ := gw0_ok hw g1
      by_cases hz : w = 0
      · rw [if_pos hz]
        rw [if_neg (fun z => z hz)] at h
        refine ⟨fun z => absurd z (by decide), fun _ => ?_⟩
        rw [g2]
        have hmi := mi_lt (b := F) (opn_lt (er := er) hl)
        refine m_ones hmi ?_
        rw [nI_add]
        have hple := pc_le (mi (opn er (R * C)) F)
        refine m_fb (hF.fm g7) hw (by omega) (fun M2 hM2 h20 hT => ?_)
        have h := h M2 (g7.tr hM2)
        rw [h20 7, h20 8, h20 9, g2, g3, g4]
        have hF2 := hF.fm (g7.tr hM2)
        have hpm := pc_mi u3
        have hsub : Sub (mi (opn er (R * C)) F) (opn er (R * C)) := fun i hi => by rw [mi_t, Bool.and_eq_true] at hi; exact hi.1
        -- the end is cut
        have hend : (mi (opn er (R * C)) F).testBit p = true := by
          rw [mi_t, u4]
          have : (opn er (R * C)).testBit p = true := by
            have inv : ∀ (n i F p t b : Nat), (opn er (R * C)).testBit p = true → Sub F (opn er (R * C)) → ∀ F' p' t' b' w', gw R C er sp pd n i F p t b = (F', p', t', b', w') → (opn er (R * C)).testBit p' = true := by
              intro n
              induction n with
              | zero => intro i F p t b h1 hs F' p' t' b' w' h; cases h; exact h1
              | succ n ih =>
                intro i F p t b h1 hs F' p' t' b' w' h
                unfold gw at h
                split at h
                · cases h; exact h1
                · rename_i q hq
                  split at h
                  · rename_i hb
                    exact ih _ _ _ _ _ (hs q hb) (fun i hi => by rw [cb_t, Bool.and_eq_true] at hi; exact hs i hi.1) _ _ _ _ _ h
                  · cases h; exact h1
            exact inv pn 0 _ bg 0 _ (bgo hw) (fun i hi => by rw [cb_t, Bool.and_eq_true] at hi; exact hi.1) _ _ _ _ _ g1
          rw [this]; rfl
        have e0 : tv R C (G2 (br er sp)) (opn er (R * C)) (pc (mi (opn er (R * C)) F) + k) (mi (opn er (R * C)) F) p = gp R C (G2 (br er sp)) (min k 15) F p t := by
          unfold tv
          rw [mi_mi u3, show pc (mi (opn er (R * C)) F) + k - pc (mi (opn er (R * C)) F) = k by omega, show pc (mi (opn er (R * C)) F) - 1 = t by omega]
          rcases Nat.lt_or_ge k 15 with z | z
          · rw [Nat.min_eq_left (by omega)]
          · rw [Nat.min_eq_right z]
            have := pc_le (opn er (R * C))
            exact gp_fuel hw.1 k 15 F p t u2 u1 (by omega) (by omega)
        rw [← e0] at h
        refine ⟨fun hy => m_bestFrom hw (by omega) hT hmi hsub u1 hend ?_, fun hy => m_bestWay hF2 hw (by omega) hT hmi hsub u1 hend (fun z => ?_) (fun k' q' z1 z2 z3 => ?_)⟩
        · rw [if_pos hy] at h
          rw [nI_add]
          exact ⟨_, _, rfl, h⟩
        · rw [if_neg hy] at h
          unfold sgo at h
          dsimp only at h
          rw [z] at h
          exact ⟨fun w => absurd w (by decide), fun _ => ⟨_, _, rfl, h⟩⟩
        · rw [if_neg hy] at h
          unfold sgo at h
          dsimp only at h
          rw [z3] at h
          exact ⟨fun _ => m_signOf z1 ⟨_, _, rfl, h⟩, fun w => absurd (nI_pos' (by omega)) w⟩
      · rw [if_neg hz]
        rw [if_pos hz] at h
        exact ⟨fun _ => ⟨_, _, rfl, h M' g7⟩, fun z => absurd rfl z⟩
    · rw [if_pos (show wft pd pn 0 ≠ none from e3)] at h; exact ⟨_, _, rfl, h M FM.rf⟩
end N4
