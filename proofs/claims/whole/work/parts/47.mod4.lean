-- MATHS: the best way on, step by step from a table; THE MODEL: its tables of best ways
section N1
variable {R C : Nat} {G : Nat → Nat → Nat → Nat}
theorem gp_le (hd : Dm R C) {B : Nat} (hG : ∀ q t s, q < R * C → G q t s ≤ s + B) (n : Nat) : ∀ F p t, p < R * C → (gp R C G n F p t).1 ≤ B * n := by
  induction n with
  | zero => intro F p t _; exact Nat.zero_le _
  | succ n ih =>
    intro F p t hp
    have st : ∀ k, k ≤ 4 → (gr R C G (gp R C G n) F p t k).1 ≤ B * (n + 1) := by
      intro k
      induction k with
      | zero => intro _; exact Nat.zero_le _
      | succ k ihk =>
        intro hk
        have ihk := ihk (by omega)
        show (gq R C G (gp R C G n) F p t (gr R C G (gp R C G n) F p t k) k).1 ≤ _
        cases hq : nf R C F p k with
        | none => rw [gq_n hq]; exact ihk
        | some q =>
          have hq2 := (nb_ok hd hp (by omega) (nf_some.mp hq).1).1
          have h1 := ih (cb F q) q (t + 1) hq2
          have h2 := hG q (t + 1) (gp R C G n (cb F q) q (t + 1)).1 hq2
          rw [gq_y hq]
          split
          · show G q (t + 1) (gp R C G n (cb F q) q (t + 1)).1 ≤ _
            rw [Nat.mul_succ]; omega
          · exact ihk
    rw [gp_r]
    exact st 4 (Nat.le_refl _)
/-- the first step of the best way -/
theorem gr_first {X : Nat → Nat → Nat → Nat × List Nat} {F p t : Nat} : ∀ k, ((gr R C G X F p t k = (0, [])) ∨ ∃ k0 q, k0 < k ∧ 0 < (gr R C G X F p t k).1 ∧ nf R C F p k0 = some q ∧ G q (t + 1) (X (cb F q) q (t + 1)).1 = (gr R C G X F p t k).1 ∧ (gr R C G X F p t k).2 = k0 :: (X (cb F q) q (t + 1)).2 ∧ ∀ j q', j < k0 → nf R C F p j = some q' → G q' (t + 1) (X (cb F q') q' (t + 1)).1 < (gr R C G X F p t k).1) ∧ ∀ j q', j < k → nf R C F p j = some q' → G q' (t + 1) (X (cb F q') q' (t + 1)).1 ≤ (gr R C G X F p t k).1
  | 0 => ⟨Or.inl rfl, fun j _ hj => absurd hj (Nat.not_lt_zero j)⟩
  | k + 1 => by
    obtain ⟨h1, h2⟩ := gr_first (X := X) (F := F) (p := p) (t := t) k
    show ((gq R C G X F p t (gr R C G X F p t k) k = (0, [])) ∨ ∃ k0 q, k0 < k + 1 ∧ 0 < (gq R C G X F p t (gr R C G X F p t k) k).1 ∧ nf R C F p k0 = some q ∧ G q (t + 1) (X (cb F q) q (t + 1)).1 = (gq R C G X F p t (gr R C G X F p t k) k).1 ∧ (gq R C G X F p t (gr R C G X F p t k) k).2 = k0 :: (X (cb F q) q (t + 1)).2 ∧ ∀ j q', j < k0 → nf R C F p j = some q' → G q' (t + 1) (X (cb F q') q' (t + 1)).1 < (gq R C G X F p t (gr R C G X F p t k) k).1) ∧ ∀ j q', j < k + 1 → nf R C F p j = some q' → G q' (t + 1) (X (cb F q') q' (t + 1)).1 ≤ (gq R C G X F p t (gr R C G X F p t k) k).1
    cases hq : nf R C F p k with
    | none =>
      rw [gq_n hq]
      refine ⟨?_, fun j q' hj hn => ?_⟩
      · rcases h1 with h1 | ⟨k0, q, a1, a2, a3, a4, a5, a6⟩
        · exact Or.inl h1
        · exact Or.inr ⟨k0, q, by omega, a2, a3, a4, a5, a6⟩
      · rcases Nat.lt_or_ge j k with z | z
        · exact h2 j q' z hn
        · obtain rfl : j = k := by omega
          rw [hq] at hn; cases hn
    | some q =>
      rw [gq_y hq]
      split
      · rename_i hlt
        refine ⟨Or.inr ⟨k, q, by omega, by dsimp only; omega, hq, rfl, rfl, fun j q' hj hn => ?_⟩, fun j q' hj hn => ?_⟩
        · exact Nat.lt_of_le_of_lt (h2 j q' hj hn) hlt
        · rcases Nat.lt_or_ge j k with z | z
          · have := h2 j q' z hn; dsimp only; omega
          · obtain rfl : j = k := by omega
            rw [hq] at hn
            obtain rfl := Option.some.inj hn
            exact Nat.le_refl _
      · rename_i hlt
        refine ⟨?_, fun j q' hj hn => ?_⟩
        · rcases h1 with h1 | ⟨k0, q, a1, a2, a3, a4, a5, a6⟩
          · exact Or.inl h1
          · exact Or.inr ⟨k0, q, by omega, a2, a3, a4, a5, a6⟩
        · rcases Nat.lt_or_ge j k with z | z
          · exact h2 j q' z hn
          · obtain rfl : j = k := by omega
            rw [hq] at hn
            obtain rfl := Option.some.inj hn
            omega
theorem gp_first {n F p t : Nat} : gp R C G (n + 1) F p t = (0, []) ∨ ∃ k0 q, k0 < 4 ∧ 0 < (gp R C G (n + 1) F p t).1 ∧ nf R C F p k0 = some q ∧ G q (t + 1) (gp R C G n (cb F q) q (t + 1)).1 = (gp R C G (n + 1) F p t).1 ∧ (gp R C G (n + 1) F p t).2 = k0 :: (gp R C G n (cb F q) q (t + 1)).2 ∧ ∀ j q', j < k0 → nf R C F p j = some q' → G q' (t + 1) (gp R C G n (cb F q') q' (t + 1)).1 < (gp R C G (n + 1) F p t).1 := by
  rw [gp_r]
  exact (gr_first (X := gp R C G n) (F := F) (p := p) (t := t) 4).1
/-- what the table holds -/
def tv (R C : Nat) (G : Nat → Nat → Nat → Nat) (A m c p : Nat) : Nat × List Nat := gp R C G (m - pc c) (mi A c) p (pc c - 1)
theorem tv_s {A m c q : Nat} (hq : q < 16) (hc : c.testBit q = false) (h0 : 0 < pc c) : gp R C G (m - pc c - 1) (cb (mi A c) q) q (pc c - 1 + 1) = tv R C G A m (sb c q) q := by
  unfold tv
  rw [pc_sb hq hc, mi_sb, show m - (pc c + 1) = m - pc c - 1 by omega, show pc c + 1 - 1 = pc c - 1 + 1 by omega]
/-- the table from a stand on -/
def TBp (M : AMm) (R C : Nat) (G : Nat → Nat → Nat → Nat) (A m c0 p0 : Nat) : Prop := ∀ c p, Sub c A → p < R * C → c.testBit p = true → (c0 < c ∨ (c = c0 ∧ p < p0)) → M 23 (16 * c + p) = nI (tv R C G A m c p).1
def TBf (M : AMm) (R C : Nat) (G : Nat → Nat → Nat → Nat) (A m : Nat) : Prop := ∀ c p, Sub c A → p < R * C → c.testBit p = true → M 23 (16 * c + p) = nI (tv R C G A m c p).1
theorem TBp.next {M : AMm} {A m c0 : Nat} (h : TBp M R C G A m c0 (R * C)) (h0 : 0 < c0) : TBp M R C G A m (c0 - 1) 0 := fun c p hs hp hb hc => h c p hs hp hb (by omega)
theorem TBp.skip {M : AMm} {A m c0 p0 : Nat} (h : TBp M R C G A m c0 p0) (h0 : 0 < c0) (hs : ¬ Sub c0 A) : TBp M R C G A m (c0 - 1) 0 := fun c p hs2 hp hb hc => h c p hs2 hp hb (by
  rcases Nat.lt_or_ge c0 c with z | z
  · exact Or.inl z
  · obtain rfl : c = c0 := by omega
    exact absurd hs2 hs)
theorem TBp.end {M : AMm} {A m : Nat} (h : TBp M R C G A m 0 0) : TBf M R C G A m := fun c p hs hp hb => h c p hs hp hb (Or.inl (Nat.pos_of_ne_zero (by rintro rfl; rw [Nat.zero_testBit] at hb; cases hb)))
theorem TBp.nb {M : AMm} {A m c0 p0 : Nat} (h : TBp M R C G A m c0 p0) (hb : c0.testBit p0 = false) : TBp M R C G A m c0 (p0 + 1) := fun c p hs hp hb2 hc => h c p hs hp hb2 (by
  rcases hc with z | ⟨z1, z2⟩
  · exact Or.inl z
  · right
    refine ⟨z1, ?_⟩
    rcases Nat.lt_or_ge p p0 with y | y
    · exact y
    · obtain rfl : p = p0 := by omega
      rw [z1, hb] at hb2; cases hb2)
theorem TBp.set {M : AMm} {A m c0 p0 : Nat} {v : Int32} (h : TBp M R C G A m c0 p0) (hd : Dm R C) (hv : Sub c0 A → c0.testBit p0 = true → p0 < R * C → v = nI (tv R C G A m c0 p0).1) (hp0 : p0 < 16) : TBp (ms M 23 (16 * c0 + p0) v) R C G A m c0 (p0 + 1) := by
  intro c p hs hp hb hc
  have hl := hd.le
  by_cases e : c = c0 ∧ p = p0
  · obtain ⟨rfl, rfl⟩ := e
    rw [ms_s]; exact hv hs hb hp
  · rw [ms_b (by omega)]
    exact h c p hs hp hb (by omega)
theorem n_dec {c : Nat} (h : 0 < c) : nI c + (-(nI 1)) = nI (c - 1) := by
  obtain ⟨k, rfl⟩ : ∃ k, c = k + 1 := ⟨c - 1, by omega⟩
  rw [← nI_add, Int32.add_assoc, Int32.add_right_neg, Int32.add_zero]
  rfl
theorem n_b32 {a v cur : Nat} (ha : a + v < 2 ^ 30) (hc : cur < 2 ^ 30) : (((nI a - nI 1) + nI v) ≤ nI cur ↔ ¬ cur < a + v - 1) ∧ (cur < a + v - 1 → (nI a - nI 1) + nI v = nI (a + v - 1)) ∧ (0 < cur → ((nI a - nI 1) + nI v = nI cur ↔ a + v - 1 = cur)) := by
  have e : (nI a - nI 1) + nI v = nI (a + v) - nI 1 := by
    rw [Int32.sub_eq_add_neg, Int32.add_assoc, Int32.add_comm (-nI 1), ← Int32.add_assoc, nI_add, ← Int32.sub_eq_add_neg]
  rw [e]
  rcases Nat.eq_zero_or_pos (a + v) with h0 | h0
  · rw [h0]
    have hn : nI 0 - nI 1 < 0 := pk_sneg (by decide) (by decide)
    have h2 : ¬ nI cur < 0 := nI_pos (by omega)
    refine ⟨⟨fun _ => by omega, fun _ => ?_⟩, fun h => by omega, fun hp => ⟨fun h => ?_, fun h => by omega⟩⟩
    · rw [fa_le]; rw [fa_lt] at hn h2; omega
    · rw [h] at hn; exact absurd hn h2
  · rw [pk_sub h0, n_le (by omega) (by omega)]
    exact ⟨by omega, fun _ => rfl, fun _ => n_eq (by omega) (by omega)⟩
end N1
section N2
variable {d : Nat} {o i0 i1 : Option Nat} {ext : ADd} {M : AMm} {R C bg sp pn : Nat} {er pd : Nat → Int32}
theorem m_at {K : Int32 → AMm → Prop} {c p : Nat} (h : K (nI (16 * c + p)) M) : CI d 101 [.int (nI c), .int (nI p)] (DB o i0 i1 ext) M (DB o i0 i1 ext) K := by
  refine b_X5_at_0 _ _ ⟨_, _, rfl, ?_⟩
  rw [pk_mul, nI_add]; exact h
theorem G1_le : ∀ q t s, q < R * C → G1 q t s ≤ s + 1 := fun _ _ _ _ => Nat.le_refl _
theorem G2_le (hw : WF R C er bg sp) : ∀ q t s, q < R * C → G2 (br er sp) q t s ≤ s + 288 := fun q t s hq => by
  have := br9 hw hq (t := t)
  unfold G2; omega
theorem tv1_le (hd : Dm R C) {A m c p : Nat} (hp : p < R * C) : (tv R C G1 A m c p).1 ≤ m := by
  have := gp_le hd (B := 1) (G := G1) G1_le (m - pc c) (mi A c) p (pc c - 1) hp
  unfold tv; omega
theorem tv2_le (hw : WF R C er bg sp) {A m c p : Nat} (hp : p < R * C) : (tv R C (G2 (br er sp)) A m c p).1 ≤ 288 * m := by
  have := gp_le hw.1 (B := 288) (G := G2 (br er sp)) (G2_le hw) (m - pc c) (mi A c) p (pc c - 1) hp
  have h2 : 288 * (m - pc c) ≤ 288 * m := Nat.mul_le_mul_left _ (Nat.sub_le _ _)
  unfold tv; omega
theorem m_fl {K : AMm → Prop} (hF : MF M R C er bg sp) (hw : WF R C er bg sp) (h : ∀ M', FM M M' → TBf M' R C G1 (opn er (R * C)) 17 → K M') : CV (d + 3) 102 [.ref 20] (DB o i0 i1 ext) M (DB o i0 i1 ext) K := by
  have hl := hw.1.le
  have hA := opn_lt (er := er) hl
  have hAsub : ∀ i, (opn er (R * C)).testBit i = true → i < R * C := fun i hi => ((opn_t er _ i).mp hi).1
  -- the steps of a stand
  have stp : ∀ n k c p (M1 : AMm), 4 - k = n → k ≤ 4 → c < 65536 → Sub c (opn er (R * C)) → p < R * C → c.testBit p = true → FM M M1 → TBp M1 R C G1 (opn er (R * C)) 17 c p → (∀ M', FM M M' → TBp M' R C G1 (opn er (R * C)) 17 c (p + 1) → T (d + 3) (fun r => ∃ M', r = (none, DB o i0 i1 ext, M') ∧ K M') (102, 9, [some (.ref 20), some (.int (nI (opn er (R * C)))), some (.int (nI c)), some (.int (nI (p + 1))), none, none, none, none], [], (DB o i0 i1 ext), M')) → T (d + 3) (fun r => ∃ M', r = (none, DB o i0 i1 ext, M') ∧ K M') (102, 30, [some (.ref 20), some (.int (nI (opn er (R * C)))), some (.int (nI c)), some (.int (nI p)), some (.int (nI (gr R C G1 (gp R C G1 (17 - pc c - 1)) (mi (opn er (R * C)) c) p (pc c - 1) k).1)), some (.int (nI k)), none, none], [], (DB o i0 i1 ext), M1) := by
    intro n
    induction n with
    | zero =>
      intro k c p M1 h0 hk hc hs hp hb hM hT hN
      obtain rfl : k = 4 := by omega
      have hpc := pc_le c
      refine b_X5_findLongest_30 _ _ _ _ _ ⟨fun _ => m_at ⟨n_in (by omega) (by decide), ?_⟩, fun z => absurd (nI_le (Nat.le_refl _) (by decide)) z⟩
      rw [n_cl (by omega), nI_add]
      refine hN _ (hM.ms (by omega)) (hT.set hw.1 (fun _ _ _ => ?_) (by omega))
      unfold tv
      rw [← gp_r, show 17 - pc c - 1 + 1 = 17 - pc c by omega]
    | succ n ih =>
      intro k c p M1 h0 hk hc hs hp hb hM hT hN
      have hpc := pc_le c
      have hp0 := pc_pos (by omega) hb
      have e := ih (k + 1) c p M1 (by omega) (by omega) hc hs hp hb hM hT hN
      have hgl : (gr R C G1 (gp R C G1 (17 - pc c - 1)) (mi (opn er (R * C)) c) p (pc c - 1) k).1 ≤ 17 := by
        have hx := (gr_first (R := R) (C := C) (G := G1) (X := gp R C G1 (17 - pc c - 1)) (F := mi (opn er (R * C)) c) (p := p) (t := pc c - 1) k).1
        rcases hx with z | ⟨k0, q, a1, a2, a3, a4, a5, a6⟩
        · rw [z]; omega
        · rw [← a4]
          have hq2 := (nb_ok hw.1 hp (by omega) (nf_some.mp a3).1).1
          have := gp_le hw.1 (B := 1) (G := G1) G1_le (17 - pc c - 1) (cb (mi (opn er (R * C)) c) q) q (pc c - 1 + 1) hq2
          show (gp R C G1 (17 - pc c - 1) (cb (mi (opn er (R * C)) c) q) q (pc c - 1 + 1)).1 + 1 ≤ 17
          omega
      rw [show gr R C G1 (gp R C G1 (17 - pc c - 1)) (mi (opn er (R * C)) c) p (pc c - 1) (k + 1) = gq R C G1 (gp R C G1 (17 - pc c - 1)) (mi (opn er (R * C)) c) p (pc c - 1) (gr R C G1 (gp R C G1 (17 - pc c - 1)) (mi (opn er (R * C)) c) p (pc c - 1) k) k from rfl] at e
      generalize gr R C G1 (gp R C G1 (17 - pc c - 1)) (mi (opn er (R * C)) c) p (pc c - 1) k = cur at e hgl ⊢
      refine b_X5_findLongest_30 _ _ _ _ _ ⟨fun z => ?_, fun _ => m_next (hF.fm hM) hw.1 hc hp (by omega) ?_⟩
      · rw [n_le (by decide) (by omega)] at z; omega
      · rw [le0, en6_neg (nf_b hw.1 hp (by omega)), nI_add]
        cases hq : nf R C (mi (opn er (R * C)) c) p k with
        | none =>
          rw [gq_n hq] at e
          refine ⟨fun z => absurd rfl z, fun _ => ⟨fun _ => e, fun z => absurd (nI_le (Nat.zero_le _) (by omega)) z⟩⟩
        | some q =>
          obtain ⟨a, b⟩ := nf_some.mp hq
          have hq2 := (nb_ok hw.1 hp (by omega) a).1
          rw [mi_t, Bool.and_eq_true] at b
          have hcq : c.testBit q = false := by simpa using b.2
          rw [gq_y hq, tv_s (by omega) hcq hp0] at e
          have htl := tv1_le hw.1 (A := opn er (R * C)) (m := 17) (c := sb c q) hq2
          refine ⟨fun _ => ?_, fun z => absurd (fun w => by cases w) z⟩
          show CI _ 101 [.int (nI c ||| ((nI 1) <<< (nI q &&& 31))), .int (nI q)] _ _ _ _
          rw [n_sb (by omega)]
          have hsl := sb_lt hc (show q < 16 by omega)
          refine m_at ⟨n_in (by omega) (by decide), ?_⟩
          rw [n_cl (by omega), hT (sb c q) q (Sub_sb hs b.1) hq2 (by rw [sb_t]; simp) (Or.inl (sb_gt hcq)), nI_add, n_le (by omega) (by omega)]
          have eG : G1 q (pc c - 1 + 1) (tv R C G1 (opn er (R * C)) 17 (sb c q) q).1 = 1 + (tv R C G1 (opn er (R * C)) 17 (sb c q) q).1 := Nat.add_comm _ _
          rw [eG] at e
          refine ⟨fun z => ?_, fun z => ?_⟩
          · rw [if_neg (by omega)] at e; exact e
          · rw [if_pos (by omega)] at e; exact e
  have plc : ∀ n p c (M1 : AMm), R * C - p = n → p ≤ R * C → 0 < c → c < 65536 → FM M M1 → TBp M1 R C G1 (opn er (R * C)) 17 c p → (∀ M', FM M M' → TBp M' R C G1 (opn er (R * C)) 17 (c - 1) 0 → T (d + 3) (fun r => ∃ M', r = (none, DB o i0 i1 ext, M') ∧ K M') (102, 5, [some (.ref 20), some (.int (nI (opn er (R * C)))), some (.int (nI (c - 1))), none, none, none, none, none], [], (DB o i0 i1 ext), M')) → T (d + 3) (fun r => ∃ M', r = (none, DB o i0 i1 ext, M') ∧ K M') (102, 9, [some (.ref 20), some (.int (nI (opn er (R * C)))), some (.int (nI c)), some (.int (nI p)), none, none, none, none], [], (DB o i0 i1 ext), M1) := by
    intro n
    induction n with
    | zero =>
      intro p c M1 h0 hp hc0 hc hM hT hN
      obtain rfl : p = R * C := by omega
      refine b_X5_findLongest_9 _ _ _ (m_places (hF.fm hM) ⟨fun _ => ?_, fun z => absurd (nI_le (Nat.le_refl _) (by omega)) z⟩)
      rw [n_dec hc0]
      exact hN M1 hM (hT.next hc0)
    | succ n ih =>
      intro p c M1 h0 hp hc0 hc hM hT hN
      refine b_X5_findLongest_9 _ _ _ (m_places (hF.fm hM) ⟨fun z => ?_, fun _ => ?_⟩)
      · rw [n_le (by omega) (by omega)] at z; omega
      · rw [n_andn, show c ^^^ c &&& opn er (R * C) = mi c (opn er (R * C)) from rfl, n_e0 (Nat.lt_trans (mi_lt hc) (by decide)), Sub_mi, n_t1 (by omega) (by omega), nI_add, n_dec hc0]
        refine ⟨fun hs => ⟨fun hb => stp 4 0 c p M1 rfl (by decide) hc hs (by omega) hb hM hT (fun M' hM' hT' => ih (p + 1) c M' (by omega) (by omega) hc0 hc hM' hT' hN), fun hb => ih (p + 1) c M1 (by omega) (by omega) hc0 hc hM (hT.nb (by cases hz : c.testBit p with
          | false => rfl
          | true => exact absurd hz hb)) hN⟩, fun hs => hN M1 hM (hT.skip hc0 hs)⟩
  have cut : ∀ c (M1 : AMm), c < 65536 → FM M M1 → TBp M1 R C G1 (opn er (R * C)) 17 c 0 → T (d + 3) (fun r => ∃ M', r = (none, DB o i0 i1 ext, M') ∧ K M') (102, 5, [some (.ref 20), some (.int (nI (opn er (R * C)))), some (.int (nI c)), none, none, none, none, none], [], (DB o i0 i1 ext), M1) := by
    intro c
    induction c with
    | zero =>
      intro M1 hc hM hT
      exact b_X5_findLongest_5 _ _ ⟨fun _ => ⟨_, rfl, h M1 hM hT.end⟩, fun z => absurd (by decide) z⟩
    | succ c ih =>
      intro M1 hc hM hT
      refine b_X5_findLongest_5 _ _ ⟨fun z => ?_, fun _ => ?_⟩
      · rw [← nI_0, n_le (by omega) (by decide)] at z; omega
      · exact plc (R * C) 0 (c + 1) M1 (by omega) (by omega) (by omega) hc hM hT (fun M' hM' hT' => ih M' (by omega) hM' hT')
  refine b_X5_findLongest_0 (m_open hF hw.1 ?_)
  refine cut _ M hA FM.rf (fun c p hs hp hb hc => ?_)
  have := Sub_le hs
  omega
end N2
