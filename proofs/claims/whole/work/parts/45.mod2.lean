-- THE MODEL: told ways, what can be come to, drawn ways
section M2
variable {d : Nat} {o i0 i1 : Option Nat} {ext : ADd} {M : AMm} {R C bg sp pn : Nat} {er pd : Nat → Int32} {K : Int32 → AMm → Prop}
theorem Sub_2 {a p : Nat} (h : a.testBit p = true) : Sub (2 ^ p) a := fun i hi => by
  rw [Nat.testBit_two_pow] at hi
  rw [← of_decide_eq_true hi]; exact h
theorem n_2 {p : Nat} (hp : p < 31) : (nI 1) <<< (nI p &&& 31) = nI (2 ^ p) := n_shl p hp
theorem br_0 (hw : WF R C er bg sp) : er bg = nI (br er sp bg 0) := by
  unfold br
  rw [Nat.mul_zero, Nat.sub_zero]
  rcases hw.2.1 bg hw.2.2.1 with z | ⟨e, he, z⟩
  · exact absurd z hw.2.2.2.1
  · rw [z, n_cl (by omega)]
theorem m_goWay (hF : MF M R C er bg sp) (hw : WF R C er bg sp) (hP : MP M pn pd) (hn : wft pd pn 0 = none)
    (h : ∀ F p t b w M', gw0 R C er bg sp pn pd = (F, p, t, b, w) → M' 20 7 = nI (mi (opn er (R * C)) F) → M' 20 8 = nI p → M' 20 9 = nI b → M' 20 10 = (if w = 0 then -(nI 6) else nI t) → M' 20 11 = (if w = 0 then -(nI 6) else nI w) → FM M M' → K (if w = 0 then nI 1 else nI 0) M') : CI (d + 2) 96 [.ref 20] (DB o i0 i1 ext) M (DB o i0 i1 ext) K := by
  have hl := hw.1.le
  have hb := hw.2.2.1
  obtain ⟨p1, p2, p3⟩ := hP
  have hds := wft_none pn 0 hn
  have loop : ∀ n i c p b (M1 : AMm), pn - i = n → i ≤ pn → M1 20 7 = nI c → M1 20 8 = nI p → M1 20 9 = nI b → M1 20 10 = -(nI 6) → M1 20 11 = -(nI 6) → c < 65536 → Sub c (opn er (R * C)) → p < R * C → FM M M1 → gw0 R C er bg sp pn pd = gw R C er sp pd n i (mi (opn er (R * C)) c) p i b → T (d + 2) (fun r => ∃ v M', r = (some (.int v), DB o i0 i1 ext, M') ∧ K v M') (96, 25, [some (.ref 20), some (.int (nI i)), none, none], [], (DB o i0 i1 ext), M1) := by
    intro n
    induction n with
    | zero =>
      intro i c p b M1 h0 hi a7 a8 a9 a10 a11 hc hs hp hM hg
      refine b_X5_goWay_25 _ ⟨fun _ => ⟨_, _, rfl, h _ p i b 0 M1 hg ?_ a8 a9 a10 a11 hM⟩, fun z => ?_⟩
      · rw [mi_mi hs]; exact a7
      · rw [hM.1 6 (by decide), p1, n_le (by omega) (by omega)] at z; omega
    | succ n ih =>
      intro i c p b M1 h0 hi a7 a8 a9 a10 a11 hc hs hp hM hg
      have hF1 := hF.fm hM
      refine b_X5_goWay_25 _ ⟨fun z => ?_, fun _ => ⟨n_in (by omega) (by decide), ?_⟩⟩
      · rw [hM.1 6 (by decide), p1, n_le (by omega) (by omega)] at z; omega
      · rw [n_cl (by omega), hM.2.2 22 (by omega), p3 i (by omega)]
        obtain ⟨k, hk⟩ := hds i (by omega) (by omega)
        have hk4 := ds_lt hk
        refine m_wayOf ?_
        rw [hk, a8]
        refine m_beside hF1.1 hF1.2.1 hw.1 hp hk4 ?_
        have hnb := nb16 hw.1 hp hk4
        rw [le0, en6_neg (fun q hq => by have := hnb q hq; omega)]
        refine ⟨fun e => ?_, fun e => ⟨_, _, rfl, ?_⟩⟩
        · cases hq : nb R C p k with
          | none => exact absurd hq e
          | some q =>
            have hq16 := hnb q hq
            have hq2 := (nb_ok hw.1 hp hk4 hq).1
            show vp_in (nI q) 16 ∧ ((M1 21 (nI q).toNatClampNeg = -(nI 1) → _) ∧ (¬ M1 21 (nI q).toNatClampNeg = -(nI 1) → _))
            rw [n_cl (by omega), hF1.2.2.2.2 q hq2]
            refine ⟨n_in hq16 (by decide), fun e1 => ⟨_, _, rfl, ?_⟩, fun e1 => ?_⟩
            · have hno : (opn er (R * C)).testBit q = false := by
                cases hz : (opn er (R * C)).testBit q with
                | false => rfl
                | true => exact absurd e1 ((opn_t er _ q).mp hz).2
              have hg2 := gw_2 (sp := sp) (er := er) (n := n) (F := mi (opn er (R * C)) c) (t := i) (b := b) hk hq (by rw [mi_t, hno]; rfl)
              rw [hno] at hg2
              have := h _ p i b 2 (ms (ms M1 20 10 (nI i)) 20 11 (nI 2)) (hg.trans hg2) (by rw [ms_b (by decide), ms_b (by decide), mi_mi hs]; exact a7) (by rw [ms_b (by decide), ms_b (by decide)]; exact a8) (by rw [ms_b (by decide), ms_b (by decide)]; exact a9) (by rw [ms_b (by decide), ms_s]; rfl) (ms_s _ _ _ _) ((hM.ms (by omega)).ms (by omega))
              exact this
            · have ho := (opn_t er (R * C) q).mpr ⟨hq2, e1⟩
              show (((M1 20 7 >>> (nI q &&& 31)) &&& nI 1) = nI 1 → _) ∧ (¬ ((M1 20 7 >>> (nI q &&& 31)) &&& nI 1) = nI 1 → _)
              rw [a7, n_t1 (by omega) (by omega)]
              refine ⟨fun e2 => ⟨_, _, rfl, ?_⟩, fun e2 => ?_⟩
              · have hg2 := gw_2 (sp := sp) (er := er) (n := n) (F := mi (opn er (R * C)) c) (t := i) (b := b) hk hq (by rw [mi_t, ho, e2]; rfl)
                rw [ho] at hg2
                exact h _ p i b 3 (ms (ms M1 20 10 (nI i)) 20 11 (nI 3)) (hg.trans hg2) (by rw [ms_b (by decide), ms_b (by decide), mi_mi hs]; exact a7) (by rw [ms_b (by decide), ms_b (by decide)]; exact a8) (by rw [ms_b (by decide), ms_b (by decide)]; exact a9) (by rw [ms_b (by decide), ms_s]; rfl) (ms_s _ _ _ _) ((hM.ms (by omega)).ms (by omega))
              · have e2 : c.testBit q = false := by cases hz : c.testBit q with
                  | false => rfl
                  | true => exact absurd hz e2
                have hg2 := gw_3 (sp := sp) (er := er) (n := n) (F := mi (opn er (R * C)) c) (t := i) (b := b) hk hq (by rw [mi_t, ho, e2]; rfl)
                show CI _ 95 [.ref 20, .int (nI q), .int (nI i + nI 1)] _ (ms (ms M1 20 7 (nI c ||| ((nI 1) <<< (nI q &&& 31)))) 20 8 (nI q)) _ _
                rw [n_sb (by omega), nI_add]
                have hM2 : FM M (ms (ms M1 20 7 (nI (sb c q))) 20 8 (nI q)) := (hM.ms (by omega)).ms (by omega)
                refine m_brings (hF.fm hM2) hw hq2 (by omega) ?_
                rw [a9, nI_add]
                refine ih (i + 1) (sb c q) q _ _ (by omega) (by omega) ?_ ?_ (ms_s _ _ _ _) ?_ ?_ (sb_lt hc hq16) (Sub_sb hs ho) hq2 (hM2.ms (by omega)) ?_
                · rw [ms_b (by decide), ms_b (by decide)]; exact ms_s _ _ _ _
                · rw [ms_b (by decide)]; exact ms_s _ _ _ _
                · rw [ms_b (by decide), ms_b (by decide), ms_b (by decide)]; exact a10
                · rw [ms_b (by decide), ms_b (by decide), ms_b (by decide)]; exact a11
                · rw [hg, hg2, mi_sb]
        · have e : nb R C p k = none := Classical.byContradiction e
          have hg2 := gw_1 (sp := sp) (er := er) (n := n) (F := mi (opn er (R * C)) c) (t := i) (b := b) hk e
          exact h _ p i b 1 (ms (ms M1 20 10 (nI i)) 20 11 (nI 1)) (hg.trans hg2) (by rw [ms_b (by decide), ms_b (by decide), mi_mi hs]; exact a7) (by rw [ms_b (by decide), ms_b (by decide)]; exact a8) (by rw [ms_b (by decide), ms_b (by decide)]; exact a9) (by rw [ms_b (by decide), ms_s]; rfl) (ms_s _ _ _ _) ((hM.ms (by omega)).ms (by omega))
  refine b_X5_goWay_0 ?_
  rw [hF.2.2.1]
  refine ⟨n_in (by omega) (by decide), ?_⟩
  rw [n_cl (by omega), hF.2.2.2.2 bg hb, n_2 (by omega), br_0 hw]
  refine loop pn 0 (2 ^ bg) bg (br er sp bg 0) _ (by omega) (by omega) ?_ ?_ ?_ ?_ (ms_s _ _ _ _) (p2_lt (by omega)) (Sub_2 (bgo hw)) hb (((((FM.rf.ms (by omega)).ms (by omega)).ms (by omega)).ms (by omega)).ms (by omega)) rfl
  · rw [ms_b (by decide), ms_b (by decide), ms_b (by decide), ms_b (by decide)]; exact ms_s _ _ _ _
  · rw [ms_b (by decide), ms_b (by decide), ms_b (by decide)]; exact ms_s _ _ _ _
  · rw [ms_b (by decide), ms_b (by decide)]; exact ms_s _ _ _ _
  · rw [ms_b (by decide)]; exact ms_s _ _ _ _
-- what can be come to
def rwk (R C F q S : Nat) : Nat → Nat
  | 0 => S
  | k + 1 => match nf R C F q k with
    | some z => if (rwk R C F q S k).testBit q = true then sb (rwk R C F q S k) z else rwk R C F q S k
    | none => rwk R C F q S k
def rwq (R C F S : Nat) : Nat → Nat
  | 0 => S
  | q + 1 => rwk R C F q (rwq R C F S q) 4
def rwr (R C F S : Nat) : Nat → Nat
  | 0 => S
  | n + 1 => rwr R C F (rwq R C F S (R * C)) n
theorem rwk_y {F q S k z : Nat} (h : nf R C F q k = some z) : rwk R C F q S (k + 1) = if (rwk R C F q S k).testBit q = true then sb (rwk R C F q S k) z else rwk R C F q S k := by show (match nf R C F q k with | some z => _ | none => _) = _; rw [h]
theorem rwk_n {F q S k : Nat} (h : nf R C F q k = none) : rwk R C F q S (k + 1) = rwk R C F q S k := by show (match nf R C F q k with | some z => _ | none => _) = _; rw [h]
theorem rwk_ok (hd : Dm R C) {F q S : Nat} (hq : q < R * C) (hS : S < 65536) : ∀ k, k ≤ 4 → rwk R C F q S k < 65536 ∧ Sub S (rwk R C F q S k) ∧ (∀ Z, Cls R C F Z → Sub S Z → Sub (rwk R C F q S k) Z) ∧ ∀ j z, j < k → nf R C F q j = some z → S.testBit q = true → (rwk R C F q S k).testBit z = true := by
  intro k
  induction k with
  | zero => intro _; exact ⟨hS, fun _ h => h, fun _ _ h => h, fun j z hj => absurd hj (Nat.not_lt_zero j)⟩
  | succ k ih =>
    intro hk
    obtain ⟨a1, a2, a3, a4⟩ := ih (by omega)
    cases hz : nf R C F q k with
    | none =>
      rw [rwk_n hz]
      refine ⟨a1, a2, a3, fun j z hj hn hb => ?_⟩
      rcases Nat.lt_or_ge j k with y | y
      · exact a4 j z y hn hb
      · obtain rfl : j = k := by omega
        rw [hz] at hn; cases hn
    | some z =>
      rw [rwk_y hz]
      have hz16 := nf16 hd hq (by omega) hz
      split
      · rename_i hb
        refine ⟨sb_lt a1 hz16, fun i hi => by rw [sb_t, a2 i hi]; rfl, fun Z hZ hs i hi => ?_, fun j y hj hn hb2 => ?_⟩
        · rw [sb_t, Bool.or_eq_true] at hi
          rcases hi with hi | hi
          · exact a3 Z hZ hs i hi
          · rw [← of_decide_eq_true hi]
            exact hZ q z k hq (by omega) (a3 Z hZ hs q hb) hz
        · rw [sb_t, Bool.or_eq_true]
          rcases Nat.lt_or_ge j k with y2 | y2
          · exact Or.inl (a4 j y y2 hn hb2)
          · obtain rfl : j = k := by omega
            rw [hz] at hn
            obtain rfl := Option.some.inj hn
            exact Or.inr (decide_eq_true rfl)
      · rename_i hb
        refine ⟨a1, a2, a3, fun j y hj hn hb2 => ?_⟩
        exact absurd (a2 q hb2) hb
theorem rwq_ok (hd : Dm R C) {F S : Nat} (hS : S < 65536) : ∀ n, n ≤ R * C → rwq R C F S n < 65536 ∧ Sub S (rwq R C F S n) ∧ (∀ Z, Cls R C F Z → Sub S Z → Sub (rwq R C F S n) Z) ∧ ∀ q j z, q < n → j < 4 → nf R C F q j = some z → S.testBit q = true → (rwq R C F S n).testBit z = true := by
  intro n
  induction n with
  | zero => intro _; exact ⟨hS, fun _ h => h, fun _ _ h => h, fun q j z hj => absurd hj (Nat.not_lt_zero q)⟩
  | succ n ih =>
    intro hn
    obtain ⟨a1, a2, a3, a4⟩ := ih (by omega)
    obtain ⟨b1, b2, b3, b4⟩ := rwk_ok (F := F) hd (show n < R * C by omega) a1 4 (Nat.le_refl _)
    show rwk R C F n (rwq R C F S n) 4 < 65536 ∧ Sub S (rwk R C F n (rwq R C F S n) 4) ∧ (∀ Z, Cls R C F Z → Sub S Z → Sub (rwk R C F n (rwq R C F S n) 4) Z) ∧ ∀ q j z, q < n + 1 → j < 4 → nf R C F q j = some z → S.testBit q = true → (rwk R C F n (rwq R C F S n) 4).testBit z = true
    refine ⟨b1, fun i hi => b2 i (a2 i hi), fun Z hZ hs => b3 Z hZ (a3 Z hZ hs), fun q j z hq hj hnf hb => ?_⟩
    rcases Nat.lt_or_ge q n with y | y
    · exact b2 z (a4 q j z y hj hnf hb)
    · obtain rfl : q = n := by omega
      exact b4 j z hj hnf (a2 q hb)
theorem rwr_ok (hd : Dm R C) {F : Nat} : ∀ (n S S' : Nat), S < 65536 → S' < 65536 → (∀ i, i < 16 → S'.testBit i = true → S.testBit i = true) → rwr R C F S n < 65536 ∧ (∀ Z, Cls R C F Z → Sub S Z → Sub (rwr R C F S n) Z) ∧ ∀ i, i < 16 → (rit R C F S' n).testBit i = true → (rwr R C F S n).testBit i = true
  | 0, S, S', hS, _, h => ⟨hS, fun _ _ hs => hs, h⟩
  | n + 1, S, S', hS, hS', h => by
    have hl := hd.le
    obtain ⟨a1, a2, a3, a4⟩ := rwq_ok (F := F) hd hS (R * C) (Nat.le_refl _)
    obtain ⟨b1, b2, b3⟩ := rwr_ok hd (F := F) n (rwq R C F S (R * C)) (rst R C F S' (R * C)) a1 (rst_lt hd hS' _ (Nat.le_refl _)) (fun i hi hb => by
      rcases (rst_t hd hi (R * C) (Nat.le_refl _)).mp hb with z | ⟨p, k, hp, hk, hb2, hn⟩
      · exact a2 i (h i hi z)
      · exact a4 p k i hp hk hn (h p (by omega) hb2))
    exact ⟨b1, fun Z hZ hs => b2 Z hZ (a3 Z hZ hs), b3⟩
theorem rwr_rch (hd : Dm R C) {F p : Nat} (hp : p < 16) : rwr R C F (2 ^ p) 16 = rch R C F p := by
  obtain ⟨r1, r2, r3, r4⟩ := rch_ok hd (F := F) (p := p) hp
  obtain ⟨a1, a2, a3⟩ := rwr_ok hd (F := F) 16 (2 ^ p) (2 ^ p) (p2_lt hp) (p2_lt hp) (fun _ _ h => h)
  refine ext16 a1 r1 (fun i hi => ?_)
  have h1 := a2 _ r3 (Sub_2 r2) i
  have h2 := a3 i hi
  cases e1 : (rwr R C F (2 ^ p) 16).testBit i <;> cases e2 : (rch R C F p).testBit i
  · rfl
  · rw [h2 e2] at e1; cases e1
  · rw [h1 e1] at e2; cases e2
  · rfl
theorem m_reach (hF : MF M R C er bg sp) (hd : Dm R C) {c p : Nat} (hc : c < 65536) (hp : p < 16) (h : K (nI (cb (rch R C (mi (opn er (R * C)) c) p) p)) M) : CI (d + 3) 98 [.ref 20, .int (nI c), .int (nI p)] (DB o i0 i1 ext) M (DB o i0 i1 ext) K := by
  have hl := hd.le
  rw [← rwr_rch hd hp] at h
  have lk : ∀ n k q S r, 4 - k = n → k ≤ 4 → q < R * C → S < 65536 → T (d + 3) (fun r => ∃ v M', r = (some (.int v), DB o i0 i1 ext, M') ∧ K v M') (98, 11, [some (.ref 20), some (.int (nI c)), some (.int (nI p)), some (.int (nI (rwk R C (mi (opn er (R * C)) c) q S 4))), some (.int (nI r)), some (.int (nI (q + 1))), none, none], [], (DB o i0 i1 ext), M) → T (d + 3) (fun r => ∃ v M', r = (some (.int v), DB o i0 i1 ext, M') ∧ K v M') (98, 17, [some (.ref 20), some (.int (nI c)), some (.int (nI p)), some (.int (nI (rwk R C (mi (opn er (R * C)) c) q S k))), some (.int (nI r)), some (.int (nI q)), some (.int (nI k)), none], [], (DB o i0 i1 ext), M) := by
    intro n
    induction n with
    | zero =>
      intro k q S r h0 hk hq hS hT
      obtain rfl : k = 4 := by omega
      refine b_X5_reachable_17 _ _ _ _ _ _ ⟨fun _ => ?_, fun z => absurd (nI_le (Nat.le_refl _) (by decide)) z⟩
      rw [nI_add]; exact hT
    | succ n ih =>
      intro k q S r h0 hk hq hS hT
      have e := ih (k + 1) q S r (by omega) (by omega) hq hS hT
      obtain ⟨a1, -, -, -⟩ := rwk_ok (F := mi (opn er (R * C)) c) hd hq hS k (by omega)
      refine b_X5_reachable_17 _ _ _ _ _ _ ⟨fun z => ?_, fun _ => m_next hF hd hc hq (by omega) ?_⟩
      · rw [n_le (by decide) (by omega)] at z; omega
      · rw [n_t1 (by omega) (by omega), en6_neg (nf_b hd hq (by omega)), nI_add, fa_or, Nat.or_zero]
        cases hz : nf R C (mi (opn er (R * C)) c) q k with
        | none =>
          rw [rwk_n hz] at e
          exact ⟨fun _ => ⟨fun _ => e, fun z => absurd rfl z⟩, fun _ => e⟩
        | some z =>
          have hz16 := nf16 hd hq (by omega) hz
          rw [rwk_y hz] at e
          refine ⟨fun y => ⟨fun w => (by cases w), fun _ => ?_⟩, fun y => ?_⟩
          · rw [if_pos y] at e
            show T _ _ (98, 17, [some (.ref 20), some (.int (nI c)), some (.int (nI p)), some (.int (nI (rwk R C (mi (opn er (R * C)) c) q S k) ||| ((nI 1) <<< (nI z &&& 31)))), some (.int (nI r)), some (.int (nI q)), some (.int (nI (k + 1))), none], [], (DB o i0 i1 ext), M)
            rw [n_sb (by omega)]
            exact e
          · rw [if_neg y] at e; exact e
  have lq : ∀ n q S r, R * C - q = n → q ≤ R * C → S < 65536 → T (d + 3) (fun r => ∃ v M', r = (some (.int v), DB o i0 i1 ext, M') ∧ K v M') (98, 6, [some (.ref 20), some (.int (nI c)), some (.int (nI p)), some (.int (nI (rwq R C (mi (opn er (R * C)) c) S (R * C)))), some (.int (nI (r + 1))), none, none, none], [], (DB o i0 i1 ext), M) → T (d + 3) (fun r => ∃ v M', r = (some (.int v), DB o i0 i1 ext, M') ∧ K v M') (98, 11, [some (.ref 20), some (.int (nI c)), some (.int (nI p)), some (.int (nI (rwq R C (mi (opn er (R * C)) c) S q))), some (.int (nI r)), some (.int (nI q)), none, none], [], (DB o i0 i1 ext), M) := by
    intro n
    induction n with
    | zero =>
      intro q S r h0 hq hS hT
      obtain rfl : q = R * C := by omega
      refine b_X5_reachable_11 _ _ _ _ _ (m_places hF ⟨fun _ => ?_, fun z => absurd (nI_le (Nat.le_refl _) (by omega)) z⟩)
      rw [nI_add]; exact hT
    | succ n ih =>
      intro q S r h0 hq hS hT
      refine b_X5_reachable_11 _ _ _ _ _ (m_places hF ⟨fun z => ?_, fun _ => ?_⟩)
      · rw [n_le (by omega) (by omega)] at z; omega
      · exact lk 4 0 q _ r rfl (by decide) (by omega) (rwq_ok (F := mi (opn er (R * C)) c) hd hS q (by omega)).1 (ih (q + 1) S r (by omega) (by omega) hS hT)
  have lr : ∀ n r S, 16 - r = n → r ≤ 16 → S < 65536 → rwr R C (mi (opn er (R * C)) c) S n = rwr R C (mi (opn er (R * C)) c) (2 ^ p) 16 → T (d + 3) (fun r => ∃ v M', r = (some (.int v), DB o i0 i1 ext, M') ∧ K v M') (98, 6, [some (.ref 20), some (.int (nI c)), some (.int (nI p)), some (.int (nI S)), some (.int (nI r)), none, none, none], [], (DB o i0 i1 ext), M) := by
    intro n
    induction n with
    | zero =>
      intro r S h0 hr hS he
      obtain rfl : r = 16 := by omega
      refine b_X5_reachable_6 _ _ _ _ ⟨fun _ => ⟨_, _, rfl, ?_⟩, fun z => absurd (nI_le (Nat.le_refl _) (by decide)) z⟩
      rw [n_cb (by omega)]
      have he : S = rwr R C (mi (opn er (R * C)) c) (2 ^ p) 16 := he
      rw [he]; exact h
    | succ n ih =>
      intro r S h0 hr hS he
      refine b_X5_reachable_6 _ _ _ _ ⟨fun z => ?_, fun _ => ?_⟩
      · rw [n_le (by decide) (by omega)] at z; omega
      · exact lq (R * C) 0 S r (by omega) (by omega) hS (ih (r + 1) _ (by omega) (by omega) (rwq_ok (F := mi (opn er (R * C)) c) hd hS (R * C) (Nat.le_refl _)).1 he)
  refine b_X5_reachable_0 _ _ ?_
  rw [n_2 (by omega)]
  exact lr 16 0 (2 ^ p) rfl (by decide) (p2_lt hp) rfl
end M2
