-- THE MODEL: two, game
section V5
variable {d : Nat} {o i0 i1 : Option Nat} {ext : ADd} {M : AMm} {R C bg sp pn : Nat} {er pd : Nat → Int32} {K : Int32 → AMm → Prop} {op : Nat} {g : Bool} {c0 a0 b0 : Nat}
theorem TW.set (h : TW M R C op g c0 a0 b0) {x y : Nat} {v w : Int32} (hx : op.testBit x = true) (hy : op.testBit y = true) (ea : rk op x = a0) (eb : rk op y = b0) (h12 : pc op ≤ 12) (hop : op < 65536) (hv : v.toInt = VV R C g x y (un op c0)) (hw : w.toInt = sg g * VV R C g y x (un op c0)) : TW (ms (ms M 23 (288 * c0 + 24 * a0 + 2 * b0) v) 23 (288 * c0 + 24 * a0 + 2 * b0 + 1) w) R C op g c0 a0 (b0 + 1) := by
  have lt16 : ∀ {z}, op.testBit z = true → z < 16 := fun {z} hz => by
    rcases Nat.lt_or_ge z 16 with q | q
    · exact q
    · rw [t_lt16 hop q] at hz; cases hz
  intro c x' y' hx' hy' hc h1 h2 h3
  have r1 := rk_lt (lt16 hx) hx
  have r2 := rk_lt (lt16 hy) hy
  have r3 := rk_lt (lt16 hx') hx'
  have r4 := rk_lt (lt16 hy') hy'
  by_cases e : c = c0 ∧ rk op x' = a0 ∧ rk op y' = b0
  · obtain ⟨rfl, e1, e2⟩ := e
    have e3 := rk_inj hx' hx (e1.trans ea.symm)
    have e4 := rk_inj hy' hy (e2.trans eb.symm)
    subst e3 e4
    rw [e1, e2, ms_s, ms_b (by omega), ms_s]
    exact ⟨hv, hw⟩
  · rw [ms_b (by omega), ms_b (by omega), ms_b (by omega), ms_b (by omega)]
    exact h c x' y' hx' hy' hc h1 h2 (by omega)
theorem TW.skip (h : TW M R C op g c0 a0 b0) (hn : ¬ (c0.testBit a0 = true ∧ c0.testBit b0 = true)) : TW M R C op g c0 a0 (b0 + 1) := by
  intro c x y hx hy hc h1 h2 h3
  refine h c x y hx hy hc h1 h2 ?_
  by_cases e : c = c0 ∧ rk op x = a0 ∧ rk op y = b0
  · obtain ⟨rfl, rfl, rfl⟩ := e
    exact absurd ⟨h1, h2⟩ hn
  · omega
theorem TW.nextA (h : TW M R C op g c0 a0 (pc op)) (hop : op < 65536) : TW M R C op g c0 (a0 + 1) 0 := by
  intro c x y hx hy hc h1 h2 h3
  have hy16 : y < 16 := by
    rcases Nat.lt_or_ge y 16 with q | q
    · exact q
    · rw [t_lt16 hop q] at hy; cases hy
  have := rk_lt hy16 hy
  exact h c x y hx hy hc h1 h2 (by omega)
theorem TW.nextC (h : TW M R C op g c0 (pc op) 0) (hop : op < 65536) (h0 : 0 < c0) : TW M R C op g (c0 - 1) 0 0 := by
  intro c x y hx hy hc h1 h2 h3
  have hx16 : x < 16 := by
    rcases Nat.lt_or_ge x 16 with q | q
    · exact q
    · rw [t_lt16 hop q] at hx; cases hx
  have := rk_lt hx16 hx
  exact h c x y hx hy hc h1 h2 (by omega)
theorem FwN.fm {M' : AMm} (h : FwN M op) (h20 : ∀ b, M' 20 b = M 20 b) (h25 : M' 25 = M 25) (h26 : M' 26 = M 26) : FwN M' op := ⟨by rw [h20]; exact h.1, fun p hp => by rw [h25, h26]; exact h.2 p hp⟩
theorem no1000 {v : Int32} {u : Int} (h : v.toInt = u) (h1 : -20 ≤ u) : ¬ v ≤ -(nI 1000) := by
  have e : (-(nI 1000)).toInt = -1000 := by decide
  rw [fa_le, e, h]
  omega
/-- what one table writes, the other cells -/
def F23 (M M' : AMm) : Prop := ∀ a, a ≠ 23 → M' a = M a
theorem F23.ms {M M' : AMm} (h : F23 M M') {i : Nat} {v : Int32} : F23 M (ms M' 23 i v) := fun a ha => by rw [← h a ha]; funext y; exact ms_a ha
theorem F23.fm {M M' : AMm} (h : F23 M M') : FM M M' := ⟨fun b _ => by rw [h 20 (by decide)], fun b _ => by rw [h 20 (by decide)], fun a ha => h a (by omega)⟩
theorem m_goTwo0 (hF : MF M R C er bg sp) (hw : WF R C er bg sp) (hN : FwN M (opn er (R * C))) (h12 : pc (opn er (R * C)) ≤ 12) (h : ∀ (v : Int32) M', FM M M' → v.toInt = VV R C false bg bg (Fo0 R C er bg) → K v M') : CI (d + 4) 116 [.ref 20, .int (nI 0)] (DB o i0 i1 ext) M (DB o i0 i1 ext) K := by
  have hl := hw.1.le
  have hA := opn_lt (er := er) hl
  have hAb : ∀ i, (opn er (R * C)).testBit i = true → i < R * C := fun i hi => ((opn_t er _ i).mp hi).1
  have h4096 : 2 ^ pc (opn er (R * C)) ≤ 4096 := Nat.le_trans (Nat.pow_le_pow_right (by decide) h12) (by decide)
  have bb : ∀ n b a c (M1 : AMm), pc (opn er (R * C)) - b = n → b ≤ pc (opn er (R * C)) → a < pc (opn er (R * C)) → c < 2 ^ pc (opn er (R * C)) → F23 M M1 → TW M1 R C (opn er (R * C)) false c a b → (∀ M1, F23 M M1 → TW M1 R C (opn er (R * C)) false c (a + 1) 0 → T (d + 4) (fun r => ∃ v M', r = (some (.int v), DB o i0 i1 ext, M') ∧ K v M') (116, 11, [some (.ref 20), some (.int (nI 0)), some (.int (nI c)), some (.int (nI (a + 1))), none, none, none], [], (DB o i0 i1 ext), M1)) → T (d + 4) (fun r => ∃ v M', r = (some (.int v), DB o i0 i1 ext, M') ∧ K v M') (116, 17, [some (.ref 20), some (.int (nI 0)), some (.int (nI c)), some (.int (nI a)), some (.int (nI b)), none, none], [], (DB o i0 i1 ext), M1) := by
    intro n
    induction n with
    | zero =>
      intro b a c M1 h0 hb ha hc hM hT hK
      obtain rfl : b = pc (opn er (R * C)) := by omega
      refine b_X5_goTwo0_17 _ _ _ ⟨fun _ => ?_, fun z => ?_⟩
      · rw [nI_add]; exact hK M1 hM (hT.nextA hA)
      · rw [hM 20 (by decide), hN.1] at z; exact absurd (nI_le (Nat.le_refl _) (by omega)) z
    | succ n ih =>
      intro b a c M1 h0 hb ha hc hM hT hK
      have hM1 := hF.fm hM.fm
      have hN1 := hN.fm (M' := M1) (fun b => by rw [hM 20 (by decide)]) (hM 25 (by decide)) (hM 26 (by decide))
      refine b_X5_goTwo0_17 _ _ _ ⟨fun z => ?_, fun _ => ?_⟩
      · rw [hM 20 (by decide), hN.1, n_le (by omega) (by omega)] at z; omega
      · rw [n_t1 (by omega) (by omega), n_t1 (by omega) (by omega), nI_add]
        refine ⟨fun hca => ⟨fun hcb => ?_, fun hcb => ?_⟩, fun hca => ?_⟩
        · obtain ⟨x, hx16, hx, rfl⟩ := rk_of ha
          obtain ⟨y, hy16, hy, rfl⟩ := rk_of (show b < pc (opn er (R * C)) by omega)
          have hxl := hAb x hx
          have hyl := hAb y hy
          have bx := mo_b hw.1 (g := false) (F := un (opn er (R * C)) c) hxl hyl un_lt 4 (Nat.le_refl _)
          have by' := mo_b hw.1 (g := false) (F := un (opn er (R * C)) c) hyl hxl un_lt 4 (Nat.le_refl _)
          have vxy := VV_mo hw.1 (g := false) (F := un (opn er (R * C)) c) hxl hyl un_lt
          have vyx := VV_mo hw.1 (g := false) (F := un (opn er (R * C)) c) hyl hxl un_lt
          have e := fun (v w : Int32) h1 h2 => ih (rk (opn er (R * C)) y + 1) (rk (opn er (R * C)) x) c (ms (ms M1 23 (288 * c + 24 * rk (opn er (R * C)) x + 2 * rk (opn er (R * C)) y) v) 23 (288 * c + 24 * rk (opn er (R * C)) x + 2 * rk (opn er (R * C)) y + 1) w) (by omega) (by omega) ha hc hM.ms.ms (hT.set hx hy rfl rfl h12 hA h1 h2) hK
          refine m_bs00 hM1 hw hN1 h12 hc hx hy hca hcb hT (fun v5 h5 => m_bs10 hM1 hw hN1 h12 hc hx hy hca hcb hT (fun v7 h7 => m_stand ?_))
          have nst : ∀ (M2 : AMm) {K2 : Int32 → AMm → Prop}, K2 (nI (288 * c + 24 * rk (opn er (R * C)) x + 2 * rk (opn er (R * C)) y + 1)) M2 → CI (d + 3) 113 [.int (nI c), .int (nI (rk (opn er (R * C)) x)), .int (nI (rk (opn er (R * C)) y)), .int (nI 1)] (DB o i0 i1 ext) M2 (DB o i0 i1 ext) K2 := fun M2 K2 hh => m_stand hh
          have i0 : vp_in (nI (288 * c + 24 * rk (opn er (R * C)) x + 2 * rk (opn er (R * C)) y + 0)) 1179648 := n_in (by omega) (by decide)
          have i1 : vp_in (nI (288 * c + 24 * rk (opn er (R * C)) x + 2 * rk (opn er (R * C)) y + 1)) 1179648 := n_in (by omega) (by decide)
          rw [n_cl (by omega)]
          cases hm1 : mo R C false (un (opn er (R * C)) c) x y 4 with
          | none =>
            rw [hm1] at h5 vxy vyx
            have h5 : v5 = -(nI 1000) := h5
            subst h5
            refine ⟨fun _ => ?_, fun z => absurd (Int32.le_refl _) z⟩
            cases hm2 : mo R C false (un (opn er (R * C)) c) y x 4 with
            | none =>
              rw [hm2] at h7 vxy vyx
              have h7 : v7 = -(nI 1000) := h7
              subst h7
              refine ⟨fun _ => ⟨i0, nst _ ⟨i1, ?_⟩⟩, fun z => absurd (Int32.le_refl _) z⟩
              rw [n_cl (by omega)]
              exact e (nI 0) (nI 0) (by rw [vxy]; decide) (by rw [vyx]; decide)
            | some u =>
              rw [hm2] at h7 vxy vyx
              have h7 : v7.toInt = u := h7
              have hbu := by' u hm2
              have vxy : VV R C false x y (un (opn er (R * C)) c) = sg false * u := vxy
              have vyx : VV R C false y x (un (opn er (R * C)) c) = u := vyx
              refine ⟨fun z => absurd z (no1000 h7 (by omega)), fun _ => ⟨i0, nst _ ⟨i1, ?_⟩⟩⟩
              rw [n_cl (by omega)]
              exact e v7 v7 (by rw [h7, vxy]; simp [sg]) (by rw [h7, vyx]; simp [sg])
          | some u =>
            rw [hm1] at h5 vxy vyx
            have h5 : v5.toInt = u := h5
            have hbu := bx u hm1
            have vxy : VV R C false x y (un (opn er (R * C)) c) = u := vxy
            refine ⟨fun z => absurd z (no1000 h5 (by omega)), fun _ => ⟨i0, nst _ ?_⟩⟩
            rw [n_cl (by omega)]
            cases hm2 : mo R C false (un (opn er (R * C)) c) y x 4 with
            | none =>
              rw [hm2] at h7 vyx
              have h7 : v7 = -(nI 1000) := h7
              subst h7
              have vyx : VV R C false y x (un (opn er (R * C)) c) = sg false * u := vyx
              refine ⟨fun _ => ⟨i1, ?_⟩, fun z => absurd (Int32.le_refl _) z⟩
              exact e v5 v5 (by rw [h5, vxy]) (by rw [h5, vyx, sg_sq])
            | some u2 =>
              rw [hm2] at h7 vyx
              have h7 : v7.toInt = u2 := h7
              have hbu2 := by' u2 hm2
              have vyx : VV R C false y x (un (opn er (R * C)) c) = u2 := vyx
              refine ⟨fun z => absurd z (no1000 h7 (by omega)), fun _ => ⟨i1, ?_⟩⟩
              exact e v5 v7 (by rw [h5, vxy]) (by rw [h7, vyx]; simp [sg])
        · exact ih (b + 1) a c M1 (by omega) (by omega) ha hc hM (hT.skip (fun q => hcb q.2)) hK
        · exact ih (b + 1) a c M1 (by omega) (by omega) ha hc hM (hT.skip (fun q => hca q.1)) hK
  have aa : ∀ n a c (M1 : AMm), pc (opn er (R * C)) - a = n → a ≤ pc (opn er (R * C)) → 0 < c → c < 2 ^ pc (opn er (R * C)) → F23 M M1 → TW M1 R C (opn er (R * C)) false c a 0 → (∀ M1, F23 M M1 → TW M1 R C (opn er (R * C)) false (c - 1) 0 0 → T (d + 4) (fun r => ∃ v M', r = (some (.int v), DB o i0 i1 ext, M') ∧ K v M') (116, 7, [some (.ref 20), some (.int (nI 0)), some (.int (nI (c - 1))), none, none, none, none], [], (DB o i0 i1 ext), M1)) → T (d + 4) (fun r => ∃ v M', r = (some (.int v), DB o i0 i1 ext, M') ∧ K v M') (116, 11, [some (.ref 20), some (.int (nI 0)), some (.int (nI c)), some (.int (nI a)), none, none, none], [], (DB o i0 i1 ext), M1) := by
    intro n
    induction n with
    | zero =>
      intro a c M1 h0 ha hc0 hc hM hT hK
      obtain rfl : a = pc (opn er (R * C)) := by omega
      refine b_X5_goTwo0_11 _ _ ⟨fun _ => ?_, fun z => ?_⟩
      · rw [n_dec hc0]; exact hK M1 hM (hT.nextC hA hc0)
      · rw [hM 20 (by decide), hN.1] at z; exact absurd (nI_le (Nat.le_refl _) (by omega)) z
    | succ n ih =>
      intro a c M1 h0 ha hc0 hc hM hT hK
      refine b_X5_goTwo0_11 _ _ ⟨fun z => ?_, fun _ => bb _ 0 a c M1 rfl (by omega) (by omega) hc hM hT (fun M2 hM2 hT2 => ih (a + 1) c M2 (by omega) (by omega) hc0 hc hM2 hT2 hK)⟩
      rw [hM 20 (by decide), hN.1, n_le (by omega) (by omega)] at z; omega
  have hb := hw.2.2.1
  have hbo := bgo hw
  have hrb := rk_lt (show bg < 16 by omega) hbo
  have cut : ∀ c (M1 : AMm), c < 2 ^ pc (opn er (R * C)) → F23 M M1 → TW M1 R C (opn er (R * C)) false c 0 0 → T (d + 4) (fun r => ∃ v M', r = (some (.int v), DB o i0 i1 ext, M') ∧ K v M') (116, 7, [some (.ref 20), some (.int (nI 0)), some (.int (nI c)), none, none, none, none], [], (DB o i0 i1 ext), M1) := by
    intro c
    induction c with
    | zero =>
      intro M1 hc hM hT
      refine b_X5_goTwo0_7 _ ⟨fun _ => ?_, fun z => absurd (by decide) z⟩
      rw [hM 20 (by decide), hM 25 (by decide), hF.2.2.1, n_cl (by omega), (hN.2 bg hbo).1, n_2 (by omega)]
      have hp2 : 2 ^ rk (opn er (R * C)) bg < 2 ^ pc (opn er (R * C)) := Nat.pow_lt_pow_right (by decide) hrb
      refine ⟨n_in (by omega) (by decide), m_stand ⟨n_in (by omega) (by decide), _, _, rfl, h _ M1 hM.fm ?_⟩⟩
      rw [n_cl (by omega)]
      have := (hT (2 ^ rk (opn er (R * C)) bg) bg bg hbo hbo hp2 (t2s _) (t2s _) (Or.inl (Nat.two_pow_pos _))).1
      rw [un_1 hA hbo] at this
      exact this
    | succ c ih =>
      intro M1 hc hM hT
      refine b_X5_goTwo0_7 _ ⟨fun z => ?_, fun _ => aa _ 0 (c + 1) M1 rfl (by omega) (by omega) hc hM hT (fun M2 hM2 hT2 => ih M2 (by omega) hM2 hT2)⟩
      rw [← nI_0, n_le (by omega) (by decide)] at z; omega
  refine b_X5_goTwo0_0 ?_
  rw [hN.1, n_2 (by omega), pk_sub (Nat.two_pow_pos _)]
  refine cut _ M (Nat.sub_lt (Nat.two_pow_pos _) (by decide)) (fun _ _ => rfl) (fun c x y hx hy hc h1 h2 h3 => ?_)
  omega
theorem m_goTwo1 (hF : MF M R C er bg sp) (hw : WF R C er bg sp) (hN : FwN M (opn er (R * C))) (h12 : pc (opn er (R * C)) ≤ 12) (h : ∀ (v : Int32) M', FM M M' → v.toInt = VV R C true bg bg (Fo0 R C er bg) → K v M') : CI (d + 4) 116 [.ref 20, .int (nI 1)] (DB o i0 i1 ext) M (DB o i0 i1 ext) K := by
  have hl := hw.1.le
  have hA := opn_lt (er := er) hl
  have hAb : ∀ i, (opn er (R * C)).testBit i = true → i < R * C := fun i hi => ((opn_t er _ i).mp hi).1
  have h4096 : 2 ^ pc (opn er (R * C)) ≤ 4096 := Nat.le_trans (Nat.pow_le_pow_right (by decide) h12) (by decide)
  have bb : ∀ n b a c (M1 : AMm), pc (opn er (R * C)) - b = n → b ≤ pc (opn er (R * C)) → a < pc (opn er (R * C)) → c < 2 ^ pc (opn er (R * C)) → F23 M M1 → TW M1 R C (opn er (R * C)) true c a b → (∀ M1, F23 M M1 → TW M1 R C (opn er (R * C)) true c (a + 1) 0 → T (d + 4) (fun r => ∃ v M', r = (some (.int v), DB o i0 i1 ext, M') ∧ K v M') (116, 11, [some (.ref 20), some (.int (nI 1)), some (.int (nI c)), some (.int (nI (a + 1))), none, none, none], [], (DB o i0 i1 ext), M1)) → T (d + 4) (fun r => ∃ v M', r = (some (.int v), DB o i0 i1 ext, M') ∧ K v M') (116, 17, [some (.ref 20), some (.int (nI 1)), some (.int (nI c)), some (.int (nI a)), some (.int (nI b)), none, none], [], (DB o i0 i1 ext), M1) := by
    intro n
    induction n with
    | zero =>
      intro b a c M1 h0 hb ha hc hM hT hK
      obtain rfl : b = pc (opn er (R * C)) := by omega
      refine b_X5_goTwo1_17 _ _ _ ⟨fun _ => ?_, fun z => ?_⟩
      · rw [nI_add]; exact hK M1 hM (hT.nextA hA)
      · rw [hM 20 (by decide), hN.1] at z; exact absurd (nI_le (Nat.le_refl _) (by omega)) z
    | succ n ih =>
      intro b a c M1 h0 hb ha hc hM hT hK
      have hM1 := hF.fm hM.fm
      have hN1 := hN.fm (M' := M1) (fun b => by rw [hM 20 (by decide)]) (hM 25 (by decide)) (hM 26 (by decide))
      refine b_X5_goTwo1_17 _ _ _ ⟨fun z => ?_, fun _ => ?_⟩
      · rw [hM 20 (by decide), hN.1, n_le (by omega) (by omega)] at z; omega
      · rw [n_t1 (by omega) (by omega), n_t1 (by omega) (by omega), nI_add]
        refine ⟨fun hca => ⟨fun hcb => ?_, fun hcb => ?_⟩, fun hca => ?_⟩
        · obtain ⟨x, hx16, hx, rfl⟩ := rk_of ha
          obtain ⟨y, hy16, hy, rfl⟩ := rk_of (show b < pc (opn er (R * C)) by omega)
          have hxl := hAb x hx
          have hyl := hAb y hy
          have bx := mo_b hw.1 (g := true) (F := un (opn er (R * C)) c) hxl hyl un_lt 4 (Nat.le_refl _)
          have by' := mo_b hw.1 (g := true) (F := un (opn er (R * C)) c) hyl hxl un_lt 4 (Nat.le_refl _)
          have vxy := VV_mo hw.1 (g := true) (F := un (opn er (R * C)) c) hxl hyl un_lt
          have vyx := VV_mo hw.1 (g := true) (F := un (opn er (R * C)) c) hyl hxl un_lt
          have e := fun (v w : Int32) h1 h2 => ih (rk (opn er (R * C)) y + 1) (rk (opn er (R * C)) x) c (ms (ms M1 23 (288 * c + 24 * rk (opn er (R * C)) x + 2 * rk (opn er (R * C)) y) v) 23 (288 * c + 24 * rk (opn er (R * C)) x + 2 * rk (opn er (R * C)) y + 1) w) (by omega) (by omega) ha hc hM.ms.ms (hT.set hx hy rfl rfl h12 hA h1 h2) hK
          refine m_bs01 hM1 hw hN1 h12 hc hx hy hca hcb hT (fun v5 h5 => m_bs11 hM1 hw hN1 h12 hc hx hy hca hcb hT (fun v7 h7 => m_stand ?_))
          have nst : ∀ (M2 : AMm) {K2 : Int32 → AMm → Prop}, K2 (nI (288 * c + 24 * rk (opn er (R * C)) x + 2 * rk (opn er (R * C)) y + 1)) M2 → CI (d + 3) 113 [.int (nI c), .int (nI (rk (opn er (R * C)) x)), .int (nI (rk (opn er (R * C)) y)), .int (nI 1)] (DB o i0 i1 ext) M2 (DB o i0 i1 ext) K2 := fun M2 K2 hh => m_stand hh
          have i0 : vp_in (nI (288 * c + 24 * rk (opn er (R * C)) x + 2 * rk (opn er (R * C)) y + 0)) 1179648 := n_in (by omega) (by decide)
          have i1 : vp_in (nI (288 * c + 24 * rk (opn er (R * C)) x + 2 * rk (opn er (R * C)) y + 1)) 1179648 := n_in (by omega) (by decide)
          rw [n_cl (by omega)]
          cases hm1 : mo R C true (un (opn er (R * C)) c) x y 4 with
          | none =>
            rw [hm1] at h5 vxy vyx
            have h5 : v5 = -(nI 1000) := h5
            subst h5
            refine ⟨fun _ => ?_, fun z => absurd (Int32.le_refl _) z⟩
            cases hm2 : mo R C true (un (opn er (R * C)) c) y x 4 with
            | none =>
              rw [hm2] at h7 vxy vyx
              have h7 : v7 = -(nI 1000) := h7
              subst h7
              refine ⟨fun _ => ⟨i0, nst _ ⟨i1, ?_⟩⟩, fun z => absurd (Int32.le_refl _) z⟩
              rw [n_cl (by omega)]
              exact e (nI 0) (nI 0) (by rw [vxy]; decide) (by rw [vyx]; decide)
            | some u =>
              rw [hm2] at h7 vxy vyx
              have h7 : v7.toInt = -u := h7
              have hbu := by' u hm2
              have vxy : VV R C true x y (un (opn er (R * C)) c) = sg true * u := vxy
              have vyx : VV R C true y x (un (opn er (R * C)) c) = u := vyx
              refine ⟨fun z => absurd z (no1000 h7 (by omega)), fun _ => ⟨i0, nst _ ⟨i1, ?_⟩⟩⟩
              rw [n_cl (by omega)]
              exact e v7 v7 (by rw [h7, vxy]; simp [sg]) (by rw [h7, vyx]; simp [sg])
          | some u =>
            rw [hm1] at h5 vxy vyx
            have h5 : v5.toInt = u := h5
            have hbu := bx u hm1
            have vxy : VV R C true x y (un (opn er (R * C)) c) = u := vxy
            refine ⟨fun z => absurd z (no1000 h5 (by omega)), fun _ => ⟨i0, nst _ ?_⟩⟩
            rw [n_cl (by omega)]
            cases hm2 : mo R C true (un (opn er (R * C)) c) y x 4 with
            | none =>
              rw [hm2] at h7 vyx
              have h7 : v7 = -(nI 1000) := h7
              subst h7
              have vyx : VV R C true y x (un (opn er (R * C)) c) = sg true * u := vyx
              refine ⟨fun _ => ⟨i1, ?_⟩, fun z => absurd (Int32.le_refl _) z⟩
              exact e v5 v5 (by rw [h5, vxy]) (by rw [h5, vyx, sg_sq])
            | some u2 =>
              rw [hm2] at h7 vyx
              have h7 : v7.toInt = -u2 := h7
              have hbu2 := by' u2 hm2
              have vyx : VV R C true y x (un (opn er (R * C)) c) = u2 := vyx
              refine ⟨fun z => absurd z (no1000 h7 (by omega)), fun _ => ⟨i1, ?_⟩⟩
              exact e v5 v7 (by rw [h5, vxy]) (by rw [h7, vyx]; simp [sg])
        · exact ih (b + 1) a c M1 (by omega) (by omega) ha hc hM (hT.skip (fun q => hcb q.2)) hK
        · exact ih (b + 1) a c M1 (by omega) (by omega) ha hc hM (hT.skip (fun q => hca q.1)) hK
  have aa : ∀ n a c (M1 : AMm), pc (opn er (R * C)) - a = n → a ≤ pc (opn er (R * C)) → 0 < c → c < 2 ^ pc (opn er (R * C)) → F23 M M1 → TW M1 R C (opn er (R * C)) true c a 0 → (∀ M1, F23 M M1 → TW M1 R C (opn er (R * C)) true (c - 1) 0 0 → T (d + 4) (fun r => ∃ v M', r = (some (.int v), DB o i0 i1 ext, M') ∧ K v M') (116, 7, [some (.ref 20), some (.int (nI 1)), some (.int (nI (c - 1))), none, none, none, none], [], (DB o i0 i1 ext), M1)) → T (d + 4) (fun r => ∃ v M', r = (some (.int v), DB o i0 i1 ext, M') ∧ K v M') (116, 11, [some (.ref 20), some (.int (nI 1)), some (.int (nI c)), some (.int (nI a)), none, none, none], [], (DB o i0 i1 ext), M1) := by
    intro n
    induction n with
    | zero =>
      intro a c M1 h0 ha hc0 hc hM hT hK
      obtain rfl : a = pc (opn er (R * C)) := by omega
      refine b_X5_goTwo1_11 _ _ ⟨fun _ => ?_, fun z => ?_⟩
      · rw [n_dec hc0]; exact hK M1 hM (hT.nextC hA hc0)
      · rw [hM 20 (by decide), hN.1] at z; exact absurd (nI_le (Nat.le_refl _) (by omega)) z
    | succ n ih =>
      intro a c M1 h0 ha hc0 hc hM hT hK
      refine b_X5_goTwo1_11 _ _ ⟨fun z => ?_, fun _ => bb _ 0 a c M1 rfl (by omega) (by omega) hc hM hT (fun M2 hM2 hT2 => ih (a + 1) c M2 (by omega) (by omega) hc0 hc hM2 hT2 hK)⟩
      rw [hM 20 (by decide), hN.1, n_le (by omega) (by omega)] at z; omega
  have hb := hw.2.2.1
  have hbo := bgo hw
  have hrb := rk_lt (show bg < 16 by omega) hbo
  have cut : ∀ c (M1 : AMm), c < 2 ^ pc (opn er (R * C)) → F23 M M1 → TW M1 R C (opn er (R * C)) true c 0 0 → T (d + 4) (fun r => ∃ v M', r = (some (.int v), DB o i0 i1 ext, M') ∧ K v M') (116, 7, [some (.ref 20), some (.int (nI 1)), some (.int (nI c)), none, none, none, none], [], (DB o i0 i1 ext), M1) := by
    intro c
    induction c with
    | zero =>
      intro M1 hc hM hT
      refine b_X5_goTwo1_7 _ ⟨fun _ => ?_, fun z => absurd (by decide) z⟩
      rw [hM 20 (by decide), hM 25 (by decide), hF.2.2.1, n_cl (by omega), (hN.2 bg hbo).1, n_2 (by omega)]
      have hp2 : 2 ^ rk (opn er (R * C)) bg < 2 ^ pc (opn er (R * C)) := Nat.pow_lt_pow_right (by decide) hrb
      refine ⟨n_in (by omega) (by decide), m_stand ⟨n_in (by omega) (by decide), _, _, rfl, h _ M1 hM.fm ?_⟩⟩
      rw [n_cl (by omega)]
      have := (hT (2 ^ rk (opn er (R * C)) bg) bg bg hbo hbo hp2 (t2s _) (t2s _) (Or.inl (Nat.two_pow_pos _))).1
      rw [un_1 hA hbo] at this
      exact this
    | succ c ih =>
      intro M1 hc hM hT
      refine b_X5_goTwo1_7 _ ⟨fun z => ?_, fun _ => aa _ 0 (c + 1) M1 rfl (by omega) (by omega) hc hM hT (fun M2 hM2 hT2 => ih M2 (by omega) hM2 hT2)⟩
      rw [← nI_0, n_le (by omega) (by decide)] at z; omega
  refine b_X5_goTwo1_0 ?_
  rw [hN.1, n_2 (by omega), pk_sub (Nat.two_pow_pos _)]
  refine cut _ M (Nat.sub_lt (Nat.two_pow_pos _) (by decide)) (fun _ _ => rfl) (fun c x y hx hy hc h1 h2 h3 => ?_)
  omega
theorem k_two (hF : MF M R C er bg sp) (hw : WF R C er bg sp) (h : ∀ M', FM M M' → K (an_two R C er bg) M') : CI (d + 5) 117 [.ref 20] (DB o i0 i1 ext) M (DB o i0 i1 ext) K := by
  unfold an_two at h
  refine b_X5_two_0 (m_areFew hF hw (fun e M1 hM => ⟨fun _ => ?_, fun z => absurd rfl z⟩) (fun e M1 hM hN => ⟨fun z => absurd z (by decide), fun _ => m_goTwo0 (hF.fm hM) hw hN e (fun v M2 hM2 hv => ⟨_, _, rfl, ?_⟩)⟩))
  · rw [if_pos e] at h; exact ⟨_, _, rfl, h M1 hM⟩
  · rw [if_neg (by omega)] at h
    have h1 := Fo0_pc hw
    have hb := hw.2.2.1
    have e2 : v = nI (ct R C 11 bg bg (Fo0 R C er bg)) := by
      rw [fa_eq, hv]
      have := ct_le hw.1 11 bg bg (Fo0 R C er bg) hb hb
      rw [nI_toInt (by omega)]
      show (ct R C 16 bg bg (Fo0 R C er bg) : Int) = _
      rw [ct_fuel hw.1 16 11 bg bg _ (Fo0_lt hw) hb hb (by omega) (by omega)]
    rw [e2, nI_add]
    exact h M2 (hM.tr hM2)
theorem k_game (hF : MF M R C er bg sp) (hw : WF R C er bg sp) (h : ∀ M', FM M M' → K (an_game R C er bg) M') : CI (d + 5) 118 [.ref 20] (DB o i0 i1 ext) M (DB o i0 i1 ext) K := by
  unfold an_game at h
  refine b_X5_game_0 (m_areFew hF hw (fun e M1 hM => ⟨fun _ => ?_, fun z => absurd rfl z⟩) (fun e M1 hM hN => ⟨fun z => absurd z (by decide), fun _ => m_goTwo1 (hF.fm hM) hw hN e (fun v M2 hM2 hv => ⟨_, _, rfl, ?_⟩)⟩))
  · rw [if_pos e] at h; exact ⟨_, _, rfl, h M1 hM⟩
  · rw [if_neg (by omega)] at h
    have h1 := Fo0_pc hw
    have hb := hw.2.2.1
    have hv : v.toInt = la R C 16 bg bg (Fo0 R C er bg) := hv
    rw [la_fuel hw.1 16 11 bg bg _ (Fo0_lt hw) hb hb (by omega) (by omega)] at hv
    rw [zI_of hv]
    exact h M2 (hM.tr hM2)
end V5
