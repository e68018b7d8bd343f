-- THE MODEL: longest, where
section N3
variable {d : Nat} {o i0 i1 : Option Nat} {ext : ADd} {M : AMm} {R C bg sp pn : Nat} {er pd : Nat → Int32} {K : Int32 → AMm → Prop}
theorem m_inL {x : Int32} {n : Nat} (hn : n < 2 ^ 30) (h0 : (x < 0 ∨ nI n ≤ x) → K (nI 0) M) (h1 : ∀ j, j < n → x = nI j → K (nI 1) M) : CI d 74 [.long x.toInt64, .long (lN 0), .long ((nI n - nI 1).toInt64)] (DB o i0 i1 ext) M (DB o i0 i1 ext) K := by
  rcases Nat.eq_zero_or_pos n with rfl | hp
  · refine m_inR ?_
    have e : inB x.toInt64 (lN 0) (nI 0 - nI 1).toInt64 = false := by
      unfold inB
      by_cases z : x < 0
      · rw [show lN 0 = (nI 0).toInt64 from (nI_l (by decide)).symm, decide_eq_true ((fa_wide_lt _ _).mpr (show x < nI 0 from z))]; rfl
      · have : (nI 0 - nI 1) < x := by
          have hm : (nI 0 - nI 1) < 0 := pk_sneg (by decide) (by decide)
          rw [fa_lt] at hm z ⊢
          omega
        rw [decide_eq_true ((fa_wide_lt _ _).mpr this)]
        simp
    rw [e]
    refine h0 ?_
    by_cases z : x < 0
    · exact Or.inl z
    · exact Or.inr (Int32.not_lt.mp z)
  · rw [pk_sub hp, nI_l (by omega)]
    refine m_in (by decide) (by omega) (fun e => h0 ?_) (fun e => ?_)
    · rcases e with z | z
      · exact Or.inl z
      · right
        rcases pk_ix x (n := n) (by omega) with y | y | ⟨p, hp, rfl⟩
        · exact absurd (Int32.lt_trans z y) (nI_pos (by omega))
        · exact y
        · rw [n_lt (by omega) (by omega)] at z; omega
    · rcases pk_ix x (n := n) (by omega) with y | y | ⟨p, hp, rfl⟩
      · exact absurd (Or.inl y) e
      · exfalso
        apply e
        right
        exact Int32.lt_of_lt_of_le (nI_lt (by omega) (by omega)) y
      · exact h1 p hp rfl
theorem pc_2 {p : Nat} (hp : p < 16) : pc (2 ^ p) = 1 := by
  have := pc_sb (a := 0) (p := p) hp (Nat.zero_testBit _)
  unfold sb at this
  rw [pc_0, Nat.zero_or] at this
  exact this
theorem t2s (p : Nat) : (2 ^ p).testBit p = true := by rw [t2]; simp
/-- the table at a beginning -/
theorem tv_0 (hd : Dm R C) {A p : Nat} (hA : A < 65536) (hp : p < R * C) (ho : A.testBit p = true) : tv R C G1 A 17 (2 ^ p) p = gp R C G1 15 (cb A p) p 0 := by
  have hl := hd.le
  unfold tv
  rw [pc_2 (by omega), mi_2]
  have := pc_cb (by omega) ho
  have := pc_le A
  exact gp_fuel hd 16 15 (cb A p) p 0 (cb_lt hA) hp (by omega) (by omega)
theorem k_where (hF : MF M R C er bg sp) (hw : WF R C er bg sp) (x : Int32) (h : ∀ M', FM M M' → K (an_where R C er x) M') : CI (d + 5) 119 [.ref 20, .int x] (DB o i0 i1 ext) M (DB o i0 i1 ext) K := by
  have hl := hw.1.le
  unfold an_where at h
  refine b_X5_where_0 _ (m_in (by decide) (by decide) (fun e => ⟨fun _ => ?_, fun z => absurd rfl z⟩) (fun e => ⟨fun z => absurd z (by decide), fun _ => m_fl hF hw (fun M1 hM hT => ?_)⟩))
  · rw [if_pos (show x < 0 ∨ nI 1 < x from e)] at h; exact ⟨_, _, rfl, h M FM.rf⟩
  · rw [if_neg (show ¬ (x < 0 ∨ nI 1 < x) from e)] at h
    have h := h M1 hM
    have hF1 := hF.fm hM
    have hend := wr_pos (R := R) (C := C) hw.2.2.1 (bgo hw)
    have loop : ∀ n k, R * C - k = n → k ≤ R * C → (wr R C (opn er (R * C)) k).2 ≤ 100 → T (d + 5) (fun r => ∃ v M', r = (some (.int v), DB o i0 i1 ext, M') ∧ K v M') (119, 16, [some (.ref 20), some (.int x), some (.int (if (wr R C (opn er (R * C)) k).2 = 0 then -(nI 6) else nI (wr R C (opn er (R * C)) k).1)), some (.int (nI (wr R C (opn er (R * C)) k).2)), some (.int (nI k)), none], [], (DB o i0 i1 ext), M1) := by
      intro n
      induction n with
      | zero =>
        intro k h0 hk hsm
        obtain rfl : k = R * C := by omega
        refine b_X5_where_16 _ _ _ _ (m_places hF1 ⟨fun _ => ⟨fun z => ⟨_, _, rfl, ?_⟩, fun z => ⟨_, _, rfl, ?_⟩⟩, fun z => absurd (nI_le (Nat.le_refl _) (by omega)) z⟩)
        · rw [if_pos z] at h; rw [if_neg (by omega)]; exact h
        · rw [if_neg z] at h; exact h
      | succ n ih =>
        intro k h0 hk hsm
        have hstep : wr R C (opn er (R * C)) (k + 1) = if (opn er (R * C)).testBit k = true ∧ (wr R C (opn er (R * C)) k).2 < (gp R C G1 15 (cb (opn er (R * C)) k) k 0).1 + 1 then (k, (gp R C G1 15 (cb (opn er (R * C)) k) k 0).1 + 1) else wr R C (opn er (R * C)) k := rfl
        have e := ih (k + 1) (by omega) (by omega)
        refine b_X5_where_16 _ _ _ _ (m_places hF1 ⟨fun z => ?_, fun _ => ⟨n_in (by omega) (by decide), ?_⟩⟩)
        · rw [n_le (by omega) (by omega)] at z; omega
        · rw [n_cl (by omega), hF1.2.2.2.2 k (by omega), nI_add]
          refine ⟨fun hst => ⟨fun _ => ?_, fun z => absurd (nI_le (Nat.zero_le _) (by omega)) z⟩, fun hst => ?_⟩
          · have hno : ¬ ((opn er (R * C)).testBit k = true ∧ (wr R C (opn er (R * C)) k).2 < (gp R C G1 15 (cb (opn er (R * C)) k) k 0).1 + 1) := fun q => ((opn_t er _ k).mp q.1).2 hst
            rw [if_neg hno] at hstep
            rw [hstep] at e
            exact e hsm
          · have hok := (opn_t er (R * C) k).mpr ⟨by omega, hst⟩
            have hp2 := p2_lt (show k < 16 by omega)
            rw [n_2 (by omega)]
            refine m_at ⟨n_in (by omega) (by decide), ?_⟩
            have htl := tv1_le hw.1 (A := opn er (R * C)) (m := 17) (c := 2 ^ k) (show k < R * C by omega)
            have hT2 := hT (2 ^ k) k (Sub_2 hok) (by omega) (t2s k)
            rw [tv_0 hw.1 (opn_lt hl) (by omega) hok] at hT2 htl
            rw [n_cl (by omega), hT2, nI_add, n_le (by omega) (by omega), Nat.add_comm 1]
            refine ⟨fun z => ?_, fun z => ?_⟩
            · rw [if_neg (by omega)] at hstep
              rw [hstep] at e
              exact e hsm
            · rw [if_pos ⟨hok, by omega⟩] at hstep
              rw [hstep] at e
              have e := e (by dsimp only; omega)
              rw [if_neg (by dsimp only; omega)] at e
              exact e
    exact loop (R * C) 0 (by omega) (by omega) (Nat.zero_le _)
theorem k_longest (hF : MF M R C er bg sp) (hw : WF R C er bg sp) (x : Int32) (h : ∀ M', FM M M' → K (an_longest R C er bg x) M') : CI (d + 5) 103 [.ref 20, .int x] (DB o i0 i1 ext) M (DB o i0 i1 ext) K := by
  have hl := hw.1.le
  have hb := hw.2.2.1
  have hA := opn_lt (er := er) hl
  unfold an_longest at h
  refine b_X5_longest_0 _ (m_fl hF hw (fun M1 hM hT => ?_))
  have h := h M1 hM
  have hF1 := hF.fm hM
  have hp2 := p2_lt (show bg < 16 by omega)
  rw [hF1.2.2.1, n_2 (by omega)]
  refine m_at ⟨n_in (by omega) (by decide), ?_⟩
  have hT0 := hT (2 ^ bg) bg (Sub_2 (bgo hw)) hb (t2s bg)
  have htl := tv1_le hw.1 (A := opn er (R * C)) (m := 17) (c := 2 ^ bg) hb
  have e0 : tv R C G1 (opn er (R * C)) 17 (2 ^ bg) bg = gp R C G1 15 (Fo0 R C er bg) bg 0 := tv_0 hw.1 hA hb (bgo hw)
  rw [n_cl (by omega), hT0, nI_add]
  rw [← e0] at h
  have hlen : ∀ c p, (tv R C G1 (opn er (R * C)) 17 c p).2.length = (tv R C G1 (opn er (R * C)) 17 c p).1 := fun c p => (lw_gp (g := fun _ _ => 0) (17 - pc c) (mi (opn er (R * C)) c) p (pc c - 1) 0).2
  refine ⟨fun e => ?_, fun e => m_inL (by omega) (fun z => ⟨fun _ => ?_, fun w => absurd rfl w⟩) (fun j hj z => ⟨fun w => absurd w (by decide), fun _ => ?_⟩)⟩
  · rw [if_pos e] at h; exact ⟨_, _, rfl, h⟩
  · rw [if_neg e] at h
    by_cases hx : x < 0
    · rw [if_pos hx] at h; exact ⟨_, _, rfl, h⟩
    · rw [if_neg hx] at h
      obtain ⟨i, hi, rfl⟩ := nI_of hx
      have z : nI (tv R C G1 (opn er (R * C)) 17 (2 ^ bg) bg).1 ≤ nI i := by
        rcases z with z | z
        · exact absurd z hx
        · exact z
      rw [n_le (by omega) hi] at z
      rw [n_cl hi] at h
      unfold sgo at h
      dsimp only at h
      rw [List.getElem?_eq_none (by rw [hlen]; exact z)] at h
      exact ⟨_, _, rfl, h⟩
  · subst z
    rw [if_neg e, if_neg (nI_pos (by omega)), n_cl (by omega)] at h
    unfold sgo at h
    dsimp only at h
    -- one step
    have fnd : ∀ n w c p L k r, 4 - w = n → w ≤ 4 → c < 65536 → Sub c (opn er (R * C)) → p < R * C → c.testBit p = true → 0 < L → (tv R C G1 (opn er (R * C)) 17 c p).1 = L → (∀ v q, v < w → nf R C (mi (opn er (R * C)) c) p v = some q → (tv R C G1 (opn er (R * C)) 17 (sb c q) q).1 + 1 < L) → (∀ v q, v < 4 → (tv R C G1 (opn er (R * C)) 17 c p).2 = v :: r → nf R C (mi (opn er (R * C)) c) p v = some q → r = (tv R C G1 (opn er (R * C)) 17 (sb c q) q).2 → (tv R C G1 (opn er (R * C)) 17 (sb c q) q).1 + 1 = L → T (d + 5) (fun r => ∃ v M', r = (some (.int v), DB o i0 i1 ext, M') ∧ K v M') (103, 39, [some (.ref 20), some (.int (nI j)), some (.int (nI (sb c q))), some (.int (nI q)), some (.int (nI (L - 1))), some (.int (nI v)), some (.int (nI (k + 1))), none], [], (DB o i0 i1 ext), M1)) → (∃ v, (tv R C G1 (opn er (R * C)) 17 c p).2 = v :: r) → T (d + 5) (fun r => ∃ v M', r = (some (.int v), DB o i0 i1 ext, M') ∧ K v M') (103, 50, [some (.ref 20), some (.int (nI j)), some (.int (nI c)), some (.int (nI p)), some (.int (nI L)), some (.int (nI w)), some (.int (nI k)), some (.int (en6 (nf R C (mi (opn er (R * C)) c) p w)))], [], (DB o i0 i1 ext), M1) := by
      intro n
      induction n with
      | zero =>
        intro w c p L k r h0 hw4 hc hs hp hcp hL hLe hlt hN hr
        exfalso
        have hpc := pc_le c
        have hp0 := pc_pos (by omega) hcp
        have hg := gp_first (R := R) (C := C) (G := G1) (n := 17 - pc c - 1) (F := mi (opn er (R * C)) c) (p := p) (t := pc c - 1)
        rw [show 17 - pc c - 1 + 1 = 17 - pc c by omega] at hg
        rcases hg with z | ⟨k0, q, a1, a2, a3, a4, a5, a6⟩
        · unfold tv at hLe; rw [z] at hLe; dsimp only at hLe; omega
        · have a3' := nf_some.mp a3
          have hq2 := (nb_ok hw.1 hp a1 a3'.1).1
          have b := a3'.2
          rw [mi_t, Bool.and_eq_true] at b
          have hcq : c.testBit q = false := by simpa using b.2
          rw [tv_s (by omega) hcq hp0] at a4
          have a4 : (tv R C G1 (opn er (R * C)) 17 (sb c q) q).1 + 1 = (tv R C G1 (opn er (R * C)) 17 c p).1 := a4
          have := hlt k0 q (by omega) a3
          omega
      | succ n ih =>
        intro w c p L k r h0 hw4 hc hs hp hcp hL hLe hlt hN hr
        have hpc := pc_le c
        have hp0 := pc_pos (by omega) hcp
        have htlc := tv1_le hw.1 (A := opn er (R * C)) (m := 17) (c := c) hp
        have hg := gp_first (R := R) (C := C) (G := G1) (n := 17 - pc c - 1) (F := mi (opn er (R * C)) c) (p := p) (t := pc c - 1)
        rw [show 17 - pc c - 1 + 1 = 17 - pc c by omega] at hg
        obtain ⟨k0, q0, a1, a2, a3, a4, a5, a6⟩ : ∃ k0 q, k0 < 4 ∧ 0 < (tv R C G1 (opn er (R * C)) 17 c p).1 ∧ nf R C (mi (opn er (R * C)) c) p k0 = some q ∧ G1 q (pc c - 1 + 1) (gp R C G1 (17 - pc c - 1) (cb (mi (opn er (R * C)) c) q) q (pc c - 1 + 1)).1 = (tv R C G1 (opn er (R * C)) 17 c p).1 ∧ (tv R C G1 (opn er (R * C)) 17 c p).2 = k0 :: (gp R C G1 (17 - pc c - 1) (cb (mi (opn er (R * C)) c) q) q (pc c - 1 + 1)).2 ∧ ∀ j q', j < k0 → nf R C (mi (opn er (R * C)) c) p j = some q' → G1 q' (pc c - 1 + 1) (gp R C G1 (17 - pc c - 1) (cb (mi (opn er (R * C)) c) q') q' (pc c - 1 + 1)).1 < (tv R C G1 (opn er (R * C)) 17 c p).1 := by
          rcases hg with z | z
          · exfalso; unfold tv at hLe; rw [z] at hLe; dsimp only at hLe; omega
          · exact z
        have nx : (∀ v q, v < w + 1 → nf R C (mi (opn er (R * C)) c) p v = some q → (tv R C G1 (opn er (R * C)) 17 (sb c q) q).1 + 1 < L) → CI (d + 4) 93 [.ref 20, .int (nI c), .int (nI p), .int (nI w + nI 1)] (DB o i0 i1 ext) M1 (DB o i0 i1 ext) (fun v3 M2 => T (d + 4 + 1) (fun r => ∃ v M', r = (some (.int v), DB o i0 i1 ext, M') ∧ K v M') (103, 50, [some (.ref 20), some (.int (nI j)), some (.int (nI c)), some (.int (nI p)), some (.int (nI L)), some (.int (nI w + nI 1)), some (.int (nI k)), some (.int v3)], [], (DB o i0 i1 ext), M2)) := by
          intro hlt2
          rw [nI_add]
          rcases Nat.lt_or_ge (w + 1) 4 with hw1 | hw1
          · exact m_next hF1 hw.1 hc hp hw1 (ih (w + 1) c p L k r (by omega) (by omega) hc hs hp hcp hL hLe hlt2 hN hr)
          · exfalso
            have a3' := nf_some.mp a3
            have hq2 := (nb_ok hw.1 hp a1 a3'.1).1
            have b := a3'.2
            rw [mi_t, Bool.and_eq_true] at b
            have hcq : c.testBit q0 = false := by simpa using b.2
            rw [tv_s (by omega) hcq hp0] at a4
            have a4 : (tv R C G1 (opn er (R * C)) 17 (sb c q0) q0).1 + 1 = (tv R C G1 (opn er (R * C)) 17 c p).1 := a4
            have := hlt2 k0 q0 (by omega) a3
            omega
        refine b_X5_longest_50 _ _ _ _ _ _ _ ?_
        rw [en6_neg (nf_b hw.1 hp (by omega))]
        cases hq : nf R C (mi (opn er (R * C)) c) p w with
        | none =>
          refine ⟨fun _ => nx (fun v q hv hn => ?_), fun z => absurd rfl z⟩
          rcases Nat.lt_or_ge v w with y | y
          · exact hlt v q y hn
          · obtain rfl : v = w := by omega
            rw [hq] at hn; cases hn
        | some q =>
          obtain ⟨a, b⟩ := nf_some.mp hq
          have hq2 := (nb_ok hw.1 hp (by omega) a).1
          rw [mi_t, Bool.and_eq_true] at b
          have hcq : c.testBit q = false := by simpa using b.2
          have htl2 := tv1_le hw.1 (A := opn er (R * C)) (m := 17) (c := sb c q) hq2
          refine ⟨fun z => (by cases z), fun _ => ?_⟩
          show CI _ 101 [.int (nI c ||| ((nI 1) <<< (nI q &&& 31))), .int (nI q)] _ _ _ _
          rw [n_sb (by omega)]
          have hsl := sb_lt hc (show q < 16 by omega)
          refine m_at ⟨n_in (by omega) (by decide), ?_⟩
          rw [n_cl (by omega), hT (sb c q) q (Sub_sb hs b.1) hq2 (by rw [sb_t]; simp), pk_sub hL, n_eq (by omega) (by omega), n_dec hL]
          -- where the first step leads
          have hk0 : (tv R C G1 (opn er (R * C)) 17 (sb c q) q).1 + 1 = L → w = k0 ∧ q = q0 := by
            intro hL2
            have hwk : w = k0 := by
              rcases Nat.lt_or_ge w k0 with y | y
              · have := a6 w q y hq
                rw [tv_s (by omega) hcq hp0] at this
                have : (tv R C G1 (opn er (R * C)) 17 (sb c q) q).1 + 1 < (tv R C G1 (opn er (R * C)) 17 c p).1 := this
                omega
              · rcases Nat.lt_or_ge k0 w with y2 | y2
                · exfalso
                  have a3' := nf_some.mp a3
                  have hq3 := (nb_ok hw.1 hp a1 a3'.1).1
                  have b := a3'.2
                  rw [mi_t, Bool.and_eq_true] at b
                  have hcq0 : c.testBit q0 = false := by simpa using b.2
                  rw [tv_s (by omega) hcq0 hp0] at a4
                  have a4 : (tv R C G1 (opn er (R * C)) 17 (sb c q0) q0).1 + 1 = (tv R C G1 (opn er (R * C)) 17 c p).1 := a4
                  have := hlt k0 q0 y2 a3
                  omega
                · omega
            subst hwk
            rw [hq] at a3
            exact ⟨rfl, Option.some.inj a3⟩
          refine ⟨fun z => ?_, fun z => nx (fun v q' hv hn => ?_)⟩
          · obtain ⟨e1, e2⟩ := hk0 (by omega)
            subst e1 e2
            obtain ⟨v0, hv0⟩ := hr
            rw [tv_s (by omega) hcq hp0] at a5
            have hv : v0 = w ∧ r = (tv R C G1 (opn er (R * C)) 17 (sb c q) q).2 := by
              rw [a5] at hv0
              cases hv0
              exact ⟨rfl, rfl⟩
            rw [nI_add]
            show T _ _ (103, 39, [some (.ref 20), some (.int (nI j)), some (.int (nI c ||| ((nI 1) <<< (nI q &&& 31)))), some (.int (nI q)), some (.int (nI (L - 1))), some (.int (nI w)), some (.int (nI (k + 1))), none], [], (DB o i0 i1 ext), M1)
            rw [n_sb (by omega)]
            exact hN w q (by omega) (by rw [a5, hv.2]) hq hv.2 (by omega)
          · rcases Nat.lt_or_ge v w with y | y
            · exact hlt v q' y hn
            · obtain rfl : v = w := by omega
              rw [hq] at hn
              obtain rfl := Option.some.inj hn
              rcases Nat.lt_or_ge v k0 with y2 | y2
              · have := a6 v q y2 hq
                rw [tv_s (by omega) hcq hp0] at this
                have : (tv R C G1 (opn er (R * C)) 17 (sb c q) q).1 + 1 < (tv R C G1 (opn er (R * C)) 17 c p).1 := this
                omega
              · -- v is k0 or behind it
                have hmx := (gr_first (R := R) (C := C) (G := G1) (X := gp R C G1 (17 - pc c - 1)) (F := mi (opn er (R * C)) c) (p := p) (t := pc c - 1) 4).2 v q (by omega) hq
                rw [tv_s (by omega) hcq hp0, ← gp_r, show 17 - pc c - 1 + 1 = 17 - pc c by omega] at hmx
                have hmx : (tv R C G1 (opn er (R * C)) 17 (sb c q) q).1 + 1 ≤ (tv R C G1 (opn er (R * C)) 17 c p).1 := hmx
                omega
    have main : ∀ n k c p v, j + 1 - k = n → k ≤ j + 1 → c < 65536 → Sub c (opn er (R * C)) → p < R * C → c.testBit p = true → (k = 0 ∨ (v < 4 ∧ (k = j + 1 → K (sgn v) M1))) → (∀ i, k + i = j → ∃ u, (tv R C G1 (opn er (R * C)) 17 c p).2[i]? = some u ∧ u < 4 ∧ K (sgn u) M1) → T (d + 5) (fun r => ∃ v M', r = (some (.int v), DB o i0 i1 ext, M') ∧ K v M') (103, 39, [some (.ref 20), some (.int (nI j)), some (.int (nI c)), some (.int (nI p)), some (.int (nI (tv R C G1 (opn er (R * C)) 17 c p).1)), some (.int (nI v)), some (.int (nI k)), none], [], (DB o i0 i1 ext), M1) := by
      intro n
      induction n with
      | zero =>
        intro k c p v h0 hk hc hs hp hcp hv hu
        obtain rfl : k = j + 1 := by omega
        rcases hv with hv | ⟨hv4, hv⟩
        · omega
        · refine b_X5_longest_39 _ _ _ _ _ _ ⟨fun _ => m_signOf hv4 ⟨_, _, rfl, hv rfl⟩, fun z => absurd (nI_lt (by omega) (by omega)) z⟩
      | succ n ih =>
        intro k c p v h0 hk hc hs hp hcp hv hu
        have hL : 0 < (tv R C G1 (opn er (R * C)) 17 c p).1 := by
          obtain ⟨u, hu1, -, -⟩ := hu (j - k) (by omega)
          rw [← hlen]
          have : j - k < (tv R C G1 (opn er (R * C)) 17 c p).2.length := by
            rcases Nat.lt_or_ge (j - k) (tv R C G1 (opn er (R * C)) 17 c p).2.length with y | y
            · exact y
            · rw [List.getElem?_eq_none y] at hu1; cases hu1
          omega
        have hcons : ∃ v r, (tv R C G1 (opn er (R * C)) 17 c p).2 = v :: r := by
          cases hq : (tv R C G1 (opn er (R * C)) 17 c p).2 with
          | nil => have := hlen c p; rw [hq] at this; simp at this; omega
          | cons v r => exact ⟨v, r, rfl⟩
        obtain ⟨v1, r, hvr⟩ := hcons
        refine b_X5_longest_39 _ _ _ _ _ _ ⟨fun z => ?_, fun _ => m_next hF1 hw.1 hc hp (by decide) ?_⟩
        · rw [n_lt (by omega) (by omega)] at z; omega
        · refine fnd 4 0 c p _ k r rfl (by decide) hc hs hp hcp hL rfl (fun v q hv => absurd hv (Nat.not_lt_zero v)) (fun v q hv4 hvv hn hrr hLL => ?_) ⟨v1, hvr⟩
          obtain ⟨a, b⟩ := nf_some.mp hn
          have hq2 := (nb_ok hw.1 hp hv4 a).1
          rw [mi_t, Bool.and_eq_true] at b
          have e := ih (k + 1) (sb c q) q v (by omega) (by omega) (sb_lt hc (by omega)) (Sub_sb hs b.1) hq2 (by rw [sb_t]; simp) (Or.inr ⟨hv4, fun hkj => ?_⟩) (fun i hi => ?_)
          · rw [show (tv R C G1 (opn er (R * C)) 17 c p).1 - 1 = (tv R C G1 (opn er (R * C)) 17 (sb c q) q).1 by omega]
            exact e
          · obtain ⟨u, hu1, hu2, hu3⟩ := hu 0 (by omega)
            rw [hvv] at hu1
            cases hu1
            exact hu3
          · obtain ⟨u, hu1, hu2, hu3⟩ := hu (i + 1) (by omega)
            rw [hvv] at hu1
            rw [← hrr]
            exact ⟨u, hu1, hu2, hu3⟩
    refine main (j + 1) 0 (2 ^ bg) bg 0 (by omega) (by omega) hp2 (Sub_2 (bgo hw)) hb (t2s bg) (Or.inl rfl) (fun i hi => ?_)
    obtain rfl : i = j := by omega
    obtain ⟨u, hu⟩ : ∃ u, (tv R C G1 (opn er (R * C)) 17 (2 ^ bg) bg).2[i]? = some u := ⟨_, List.getElem?_eq_getElem (by rw [hlen]; exact hj)⟩
    rw [hu] at h
    refine ⟨u, hu, ?_, h⟩
    -- steps are less than four
    have g4 : ∀ (n F p t i u : Nat), (gp R C G1 n F p t).2[i]? = some u → u < 4 := by
      intro n
      induction n with
      | zero => intro F p t i u hu; cases hu
      | succ n ihn =>
        intro F p t i u hu
        rcases gp_first (R := R) (C := C) (G := G1) (n := n) (F := F) (p := p) (t := t) with z | ⟨k0, q, a1, a2, a3, a4, a5, a6⟩
        · rw [z] at hu; cases hu
        · rw [a5] at hu
          cases i with
          | zero => cases hu; exact a1
          | succ i => exact ihn _ _ _ i u hu
    exact g4 _ _ _ _ i u hu
end N3
