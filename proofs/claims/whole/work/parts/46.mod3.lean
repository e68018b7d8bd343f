-- THE MODEL: its public calls that need no table
section M3
variable {d : Nat} {o i0 i1 : Option Nat} {ext : ADd} {M : AMm} {R C bg sp pn : Nat} {er pd : Nat → Int32} {K : Int32 → AMm → Prop}
theorem k_fault (hF : MF M R C er bg sp) (hw : WF R C er bg sp) (hP : MP M pn pd) (x : Int32) (h : ∀ M', FM M M' → K (an_fault R C pn pd x) M') : CI (d + 5) 86 [.ref 20, .int x] (DB o i0 i1 ext) M (DB o i0 i1 ext) K := by
  have h := h M FM.rf
  unfold an_fault at h
  refine b_X5_fault_0 _ ⟨fun e => ?_, fun e => ⟨fun e2 => ?_, fun e2 => ?_⟩⟩
  · rw [if_pos e] at h; exact m_faultF hF hw.1 hP ⟨_, _, rfl, h⟩
  · rw [if_neg e, if_pos e2] at h; exact m_faultW hP ⟨_, _, rfl, h⟩
  · rw [if_neg e, if_neg e2] at h; exact ⟨_, _, rfl, h⟩
theorem k_ears (hF : MF M R C er bg sp) (hw : WF R C er bg sp) (x : Int32) (h : ∀ M', FM M M' → K (an_ears R C er x) M') : CI (d + 5) 89 [.ref 20, .int x] (DB o i0 i1 ext) M (DB o i0 i1 ext) K := by
  have hl := hw.1.le
  have h := h M FM.rf
  unfold an_ears at h
  refine b_X5_ears_0 _ (m_isPlace hF hw.1 (fun e => ⟨fun _ => ?_, fun z => absurd rfl z⟩) (fun p hp e => ⟨fun z => absurd z (by decide), fun _ => ?_⟩))
  · rw [if_pos e] at h; exact ⟨_, _, rfl, h⟩
  · subst e
    rw [if_neg (inP_n hw.1 hp), n_cl (by omega)] at h
    rw [n_cl (by omega), hF.2.2.2.2 p hp]
    refine ⟨n_in (by omega) (by decide), fun e => ?_, fun e => ⟨n_in (by omega) (by decide), ?_⟩⟩
    · rw [if_pos e] at h; exact ⟨_, _, rfl, h⟩
    · rw [if_neg e] at h; exact ⟨_, _, rfl, h⟩
theorem wf6 : ∀ q, wft pd pn 0 = some q → pn ≤ 40 → q < 2 ^ 31 := by
  intro q hq hp
  have : ∀ n j, wft pd n j = some q → q < j + n := by
    intro n
    induction n with
    | zero => intro j h; cases h
    | succ n ih =>
      intro j h
      unfold wft at h
      split at h
      · cases h; omega
      · have := ih (j + 1) h; omega
  have := this pn 0 hq
  omega
theorem k_judge (hF : MF M R C er bg sp) (hw : WF R C er bg sp) (hP : MP M pn pd) (x : Int32) (h : ∀ M', FM M M' → K (an_judge R C er bg sp pn pd x) M') : CI (d + 5) 97 [.ref 20, .int x] (DB o i0 i1 ext) M (DB o i0 i1 ext) K := by
  unfold an_judge at h
  refine b_X5_judge_0 _ (m_in (by decide) (by decide) (fun e => ⟨fun _ => ?_, fun z => absurd rfl z⟩) (fun e => ⟨fun z => absurd z (by decide), fun _ => m_faultW hP ?_⟩))
  · rw [if_pos (show x < 0 ∨ nI 1 < x from e)] at h; exact ⟨_, _, rfl, h M FM.rf⟩
  · rw [if_neg (show ¬ (x < 0 ∨ nI 1 < x) from e)] at h
    rw [en6_neg (fun q hq => wf6 q hq hP.2.1)]
    refine ⟨fun e2 => ?_, fun e2 => ?_⟩
    · rw [if_neg (show ¬ wft pd pn 0 ≠ none from fun z => z e2)] at h
      refine m_goWay hF hw hP e2 (fun F p t b w M' g1 g2 g3 g4 g5 g6 g7 => ?_)
      rw [g1] at h
      rw [g5, g6]
      have h := h M' g7
      by_cases hz : w = 0
      · rw [if_pos hz, if_pos hz]
        rw [if_pos hz] at h
        exact ⟨fun _ => ⟨_, _, rfl, h⟩, fun _ => ⟨_, _, rfl, h⟩⟩
      · rw [if_neg hz, if_neg hz]
        rw [if_neg hz] at h
        refine ⟨fun y => ?_, fun y => ?_⟩
        · rw [if_pos y] at h; exact ⟨_, _, rfl, h⟩
        · rw [if_neg y] at h; exact ⟨_, _, rfl, h⟩
    · rw [if_pos (show wft pd pn 0 ≠ none from e2)] at h; exact ⟨_, _, rfl, h M FM.rf⟩
theorem rch_F {op p : Nat} (hd : Dm R C) (hp : p < 16) : rch R C (cb op p) p = rch R C op p := by
  obtain ⟨r1, r2, r3, r4⟩ := rch_ok hd (F := op) (p := p) hp
  obtain ⟨s1, s2, s3, s4⟩ := rch_ok hd (F := cb op p) (p := p) hp
  refine ext16 s1 r1 (fun i hi => ?_)
  have h1 := s4 (rch R C op p) (fun x y k hx hk hs hn => by
    obtain ⟨a, b⟩ := nf_some.mp hn
    rw [cb_t, Bool.and_eq_true] at b
    exact r3 x y k hx hk hs (nf_some.mpr ⟨a, b.1⟩)) r2 i hi
  have h2 := r4 (rch R C (cb op p) p) (fun x y k hx hk hs hn => by
    by_cases hy : p = y
    · rw [← hy]; exact s2
    · obtain ⟨a, b⟩ := nf_some.mp hn
      exact s3 x y k hx hk hs (nf_some.mpr ⟨a, by rw [cb_t, b]; simp [hy]⟩)) s2 i hi
  cases e1 : (rch R C (cb op p) p).testBit i <;> cases e2 : (rch R C op p).testBit i
  · rfl
  · rw [h2 e2] at e1; cases e1
  · rw [h1 e1] at e2; cases e2
  · rfl
theorem k_way (hF : MF M R C er bg sp) (hw : WF R C er bg sp) (hP : MP M pn pd) (x : Int32) (h : ∀ M', FM M M' → K (an_way R C er bg sp pn pd x) M') : CI (d + 5) 100 [.ref 20, .int x] (DB o i0 i1 ext) M (DB o i0 i1 ext) K := by
  have hl := hw.1.le
  unfold an_way at h
  refine b_X5_way_0 _ (m_in (by decide) (by decide) (fun e => ⟨fun _ => ?_, fun z => absurd rfl z⟩) (fun e => ⟨fun z => absurd z (by decide), fun _ => m_faultW hP ?_⟩))
  · rw [if_pos (show x < 0 ∨ nI 6 < x from e)] at h; exact ⟨_, _, rfl, h M FM.rf⟩
  · rw [if_neg (show ¬ (x < 0 ∨ nI 6 < x) from e)] at h
    rw [en6_neg (fun q hq => wf6 q hq hP.2.1)]
    refine ⟨fun e2 => ?_, fun e2 => ?_⟩
    · rw [if_neg (show ¬ wft pd pn 0 ≠ none from fun z => z e2)] at h
      refine m_goWay hF hw hP e2 (fun F p t b w M' g1 g2 g3 g4 g5 g6 g7 => ?_)
      rw [g1] at h
      have h := h M' g7
      have hF1 := hF.fm g7
      obtain ⟨u1, u2, u3, u4, u5, u6⟩ := gw0_ok hw g1
      by_cases hz : w = 0
      · rw [if_pos hz]
        rw [if_neg (fun z => z hz)] at h
        refine ⟨fun z => absurd z (by decide), fun _ => ?_⟩
        have hmm : mi (opn er (R * C)) (mi (opn er (R * C)) F) = F := mi_mi u3
        refine ⟨fun z => ?_, fun z0 => ⟨fun z => ?_, fun z1 => ⟨fun z => ?_, fun z2 => ⟨fun z => ?_, fun z3 => ⟨fun z => ?_, fun z4 => ⟨fun z => ?_, fun z5 => ?_⟩⟩⟩⟩⟩⟩
        · rw [if_pos z] at h; rw [g3]; exact ⟨_, _, rfl, h⟩
        · rw [if_neg z0, if_pos z] at h
          rw [g2]
          refine m_ones (mi_lt (opn_lt hl)) ⟨_, _, rfl, ?_⟩
          have := pc_mi u3
          rw [show pc (mi (opn er (R * C)) F) = t + 1 by omega]; exact h
        · rw [if_neg z0, if_neg z1, if_pos z] at h
          rw [g2]
          exact m_earsOf hF1 hw.1 (mi_lt (opn_lt hl)) ⟨_, _, rfl, h⟩
        · rw [if_neg z0, if_neg z1, if_neg z2, if_pos z] at h
          refine m_open hF1 hw.1 ?_
          rw [g2, g3]
          refine m_reach hF1 hw.1 (mi_lt (opn_lt hl)) (by omega) ?_
          rw [hmm, n_andn, n_andn]
          refine ⟨_, _, rfl, ?_⟩
          have e1 : mi (mi (opn er (R * C)) (mi (opn er (R * C)) F)) (cb (rch R C F p) p) = mi F (rch R C F p) := by
            rw [hmm]
            apply Nat.eq_of_testBit_eq
            intro i
            rw [mi_t, mi_t, cb_t]
            by_cases hi : p = i
            · subst hi; rw [u4]; rfl
            · rw [decide_eq_false hi]; simp
          have e2 : mi (mi (opn er (R * C)) (mi (opn er (R * C)) F)) (cb (rch R C F p) p) = (opn er (R * C) ^^^ opn er (R * C) &&& mi (opn er (R * C)) F) ^^^ (opn er (R * C) ^^^ opn er (R * C) &&& mi (opn er (R * C)) F) &&& cb (rch R C F p) p := rfl
          rw [← e2, e1]
          exact h
        · rw [if_neg z0, if_neg z1, if_neg z2, if_neg z3, if_pos z] at h
          rw [g2, g3]
          refine m_isBlind hF1 hw.1 (mi_lt (opn_lt hl)) u1 ?_
          rw [hmm, bI_0]
          refine ⟨fun y => ?_, fun y => ?_⟩
          · dsimp only at h; rw [y] at h; exact ⟨_, _, rfl, h⟩
          · dsimp only at h; rw [or_no y] at h; exact ⟨_, _, rfl, h⟩
        · rw [if_neg z0, if_neg z1, if_neg z2, if_neg z3, if_neg z4, if_pos z] at h; rw [g4]; exact ⟨_, _, rfl, h⟩
        · rw [if_neg z0, if_neg z1, if_neg z2, if_neg z3, if_neg z4, if_neg z5] at h; rw [g2]; exact ⟨_, _, rfl, h⟩
      · rw [if_neg hz]
        rw [if_pos hz] at h
        exact ⟨fun _ => ⟨_, _, rfl, h⟩, fun z => absurd rfl z⟩
    · rw [if_pos (show wft pd pn 0 ≠ none from e2)] at h; exact ⟨_, _, rfl, h M FM.rf⟩
theorem k_told (hF : MF M R C er bg sp) (hw : WF R C er bg sp) (hP : MP M pn pd) (x : Int32) (h : ∀ M', FM M M' → K (an_told R C er bg sp pn x) M') : CI (d + 5) 127 [.ref 20, .int x] (DB o i0 i1 ext) M (DB o i0 i1 ext) K := by
  have h := h M FM.rf
  unfold an_told at h
  refine b_X5_told_0 _ ⟨fun z => ?_, fun z0 => ⟨fun z => ?_, fun z1 => ⟨fun z => ?_, fun z2 => ⟨fun z => ?_, fun z3 => ⟨fun z => ?_, fun z4 => ⟨fun z => ?_, fun z5 => ?_⟩⟩⟩⟩⟩⟩
  · rw [if_pos (show x = nI 0 from z)] at h; rw [hP.1]; exact ⟨_, _, rfl, h⟩
  · rw [if_neg (show ¬ x = nI 0 from z0), if_pos z] at h; rw [hF.1]; exact ⟨_, _, rfl, h⟩
  · rw [if_neg (show ¬ x = nI 0 from z0), if_neg z1, if_pos z] at h; rw [hF.2.1]; exact ⟨_, _, rfl, h⟩
  · rw [if_neg (show ¬ x = nI 0 from z0), if_neg z1, if_neg z2, if_pos z] at h
    exact m_open hF hw.1 (m_ones (opn_lt hw.1.le) ⟨_, _, rfl, h⟩)
  · rw [if_neg (show ¬ x = nI 0 from z0), if_neg z1, if_neg z2, if_neg z3, if_pos z] at h; rw [hF.2.2.1]; exact ⟨_, _, rfl, h⟩
  · rw [if_neg (show ¬ x = nI 0 from z0), if_neg z1, if_neg z2, if_neg z3, if_neg z4, if_pos z] at h; rw [hF.2.2.2.1]; exact ⟨_, _, rfl, h⟩
  · rw [if_neg (show ¬ x = nI 0 from z0), if_neg z1, if_neg z2, if_neg z3, if_neg z4, if_neg z5] at h; exact ⟨_, _, rfl, h⟩
theorem n_col (hd : Dm R C) {p : Nat} (hp : p < 16) : ((nI p / nI C) + (nI p - nI p / nI C * nI C)) - ((nI p / nI C) + (nI p - nI p / nI C * nI C)) / (nI 2) * (nI 2) = nI (col C p) := by
  have h1 := hd.2.2.1
  have h2 := hd.2.2.2.1
  have h3 : p / C ≤ p := Nat.div_le_self p C
  have h4 : p % C < C := Nat.mod_lt p h1
  rw [pk_rem (by omega) h1 (by omega), pk_div (by omega) h1 (by omega), nI_add, pk_rem (by omega) (by decide) (by decide)]
  rfl
theorem k_bound (hF : MF M R C er bg sp) (hw : WF R C er bg sp) (h : ∀ M', FM M M' → K (nI (bnd R C (opn er (R * C)) bg)) M') : CI (d + 5) 106 [.ref 20] (DB o i0 i1 ext) M (DB o i0 i1 ext) K := by
  have hl := hw.1.le
  have hb := hw.2.2.1
  have h := h M FM.rf
  have hz : ¬ M 20 1 = 0 := by rw [hF.2.1, n_e0 (by have := hw.1.2.2.2.1; omega)]; have := hw.1.2.2.1; omega
  refine b_X5_bound_0 ?_
  rw [hF.2.2.1, n_2 (by omega)]
  refine m_reach hF hw.1 (p2_lt (by omega)) (by omega) ⟨hz, hz, ?_⟩
  rw [hF.2.1, hF.2.2.1, n_col hw.1 (by omega), n_sb (by omega), mi_2, rch_F hw.1 (by omega)]
  obtain ⟨r1, r2, r3, r4⟩ := rch_ok hw.1 (F := opn er (R * C)) (p := bg) (by omega)
  have e1 : sb (cb (rch R C (opn er (R * C)) bg) bg) bg = rch R C (opn er (R * C)) bg := by
    apply Nat.eq_of_testBit_eq
    intro i
    rw [sb_t, cb_t]
    by_cases hi : bg = i
    · subst hi; rw [r2]; simp
    · rw [decide_eq_false hi]; simp
  rw [e1]
  unfold bnd at h
  generalize rch R C (opn er (R * C)) bg = S at h r1
  have hcol := col_lt C bg
  have loop : ∀ n k, R * C - k = n → k ≤ R * C → T (d + 5) (fun r => ∃ v M', r = (some (.int v), DB o i0 i1 ext, M') ∧ K v M') (106, 34, [some (.ref 20), some (.int (nI S)), some (.int (nI (cc C S (col C bg) k))), some (.int (nI (cc C S (1 - col C bg) k))), some (.int (nI (col C bg))), some (.int (nI k)), none], [], (DB o i0 i1 ext), M) := by
    intro n
    induction n with
    | zero =>
      intro k h0 hk
      obtain rfl : k = R * C := by omega
      have c1 := cc_le C S (col C bg) (R * C)
      have c2 := cc_le C S (1 - col C bg) (R * C)
      refine b_X5_bound_34 _ _ _ _ _ (m_places hF ⟨fun _ => ?_, fun z => absurd (nI_le (Nat.le_refl _) (by omega)) z⟩)
      rw [n_lt (by omega) (by omega), pk_mul, pk_mul, nI_add]
      refine ⟨fun z => ⟨_, _, rfl, ?_⟩, fun z => ⟨_, _, rfl, ?_⟩⟩
      · rw [if_neg (by omega)] at h; exact h
      · rw [if_pos (by omega)] at h; exact h
    | succ n ih =>
      intro k h0 hk
      have e := ih (k + 1) (by omega) (by omega)
      have hck := col_lt C k
      refine b_X5_bound_34 _ _ _ _ _ (m_places hF ⟨fun z => ?_, fun _ => ⟨hz, hz, ?_⟩⟩)
      · rw [n_le (by omega) (by omega)] at z; omega
      · rw [hF.2.1, n_col hw.1 (by omega), n_eq (by omega) (by omega), n_t1 (by omega) (by omega), nI_add, nI_add, nI_add, nI_add, nI_add, Nat.add_zero, Nat.add_zero]
        unfold cc at e
        refine ⟨fun y => ⟨fun z => ?_, fun z => ?_⟩, fun y => ⟨fun z => ?_, fun z => ?_⟩⟩
        · rw [if_pos ⟨z, y⟩, if_neg (by rintro ⟨-, q⟩; omega)] at e; exact e
        · rw [if_neg (fun q => z q.1), if_neg (fun q => z q.1)] at e; exact e
        · rw [if_neg (fun q => y q.2), if_pos ⟨z, by omega⟩] at e; exact e
        · rw [if_neg (fun q => z q.1), if_neg (fun q => z q.1)] at e; exact e
  exact loop (R * C) 0 (by omega) (by omega)
theorem k_drawn (hF : MF M R C er bg sp) (hw : WF R C er bg sp) (x y : Int32) (h : ∀ M', FM M M' → K (an_drawn R C er bg x y) M') : CI (d + 5) 122 [.ref 20, .int x, .int y] (DB o i0 i1 ext) M (DB o i0 i1 ext) K := by
  have hl := hw.1.le
  have hb := hw.2.2.1
  have h := h M FM.rf
  unfold an_drawn at h
  refine b_X5_drawn_0 _ _ (m_in (by decide) (by decide) (fun e => ⟨fun _ => ?_, fun z => absurd rfl z⟩) (fun e => ⟨fun z => absurd z (by decide), fun _ => m_in (by decide) (by decide) (fun e2 => ⟨fun _ => ?_, fun z => absurd rfl z⟩) (fun e2 => ⟨fun z => absurd z (by decide), fun _ => ?_⟩)⟩))
  · rw [if_pos (by rcases e with z | z; exact Or.inl z; exact Or.inr (Or.inl z))] at h; exact ⟨_, _, rfl, h⟩
  · rw [if_pos (by rcases e2 with z | z; exact Or.inr (Or.inr (Or.inl z)); exact Or.inr (Or.inr (Or.inr z)))] at h; exact ⟨_, _, rfl, h⟩
  · rw [if_neg (by rintro (z | z | z | z); exact e (Or.inl z); exact e (Or.inr z); exact e2 (Or.inl z); exact e2 (Or.inr z))] at h
    obtain ⟨s, hs, rfl⟩ := nI_of (fun z => e (Or.inl z))
    have hs2 : s ≤ 9999 := by
      have : ¬ nI 9999 < nI s := fun z => e (Or.inr z)
      rw [n_lt (by decide) hs] at this; omega
    rw [n_cl hs] at h
    rw [hF.2.2.1, n_2 (by omega)]
    have sk : ∀ n k l c p x q, 4 - k = n → k ≤ 4 → c < 65536 → p < R * C → l < 100 → (nl R C (mi (opn er (R * C)) c) p n k)[l]? = some q → T (d + 5) (fun r => ∃ v M', r = (some (.int v), DB o i0 i1 ext, M') ∧ K v M') (122, 24, [some (.ref 20), none, some (.int y), some (.int (nI (sb c q))), some (.int (nI q)), some (.int (nI x)), none, none, none], [], (DB o i0 i1 ext), M) → T (d + 5) (fun r => ∃ v M', r = (some (.int v), DB o i0 i1 ext, M') ∧ K v M') (122, 66, [some (.ref 20), none, some (.int y), some (.int (nI c)), some (.int (nI p)), some (.int (nI x)), none, some (.int (nI l)), some (.int (nI k))], [], (DB o i0 i1 ext), M) := by
      intro n
      induction n with
      | zero => intro k l c p x q h0 hk hc hp hl' hq hT; cases hq
      | succ n ih =>
        intro k l c p x q h0 hk hc hp hl' hq hT
        refine b_X5_drawn_66 _ _ _ _ _ _ (m_next hF hw.1 hc hp (by omega) ?_)
        rw [en6_neg (nf_b hw.1 hp (by omega))]
        cases hz : nf R C (mi (opn er (R * C)) c) p k with
        | none =>
          rw [nl_n hz] at hq
          refine ⟨fun _ => m_next hF hw.1 hc hp (by omega) ?_, fun z => absurd rfl z⟩
          rw [en6_neg (nf_b hw.1 hp (by omega)), hz]
          refine ⟨fun _ => ?_, fun z => absurd rfl z⟩
          rw [pk_sub (by omega), nI_add, Nat.sub_zero]
          exact ih (k + 1) l c p x q (by omega) (by omega) hc hp hl' hq hT
        | some z =>
          rw [nl_y hz] at hq
          have hz16 := nf16 hw.1 hp (by omega) hz
          refine ⟨fun w => (by cases w), fun _ => ?_⟩
          rw [← nI_0, n_le (by omega) (by decide)]
          refine ⟨fun w => m_next hF hw.1 hc hp (by omega) ?_, fun w => m_next hF hw.1 hc hp (by omega) ?_⟩
          · obtain rfl : l = 0 := by omega
            obtain rfl := Option.some.inj hq
            rw [hz]
            show T _ _ (122, 24, [some (.ref 20), none, some (.int y), some (.int (nI c ||| ((nI 1) <<< (nI z &&& 31)))), some (.int (nI z)), some (.int (nI x)), none, none, none], [], (DB o i0 i1 ext), M)
            rw [n_sb (by omega)]
            exact hT
          · rw [nI_0, en6_neg (nf_b hw.1 hp (by omega)), hz]
            refine ⟨fun w => (by cases w), fun _ => ?_⟩
            obtain ⟨l, rfl⟩ : ∃ m, l = m + 1 := ⟨l - 1, by omega⟩
            rw [pk_sub (by omega), nI_add, Nat.add_sub_cancel]
            exact ih (k + 1) l c p x q (by omega) (by omega) hc hp (by omega) hq hT
    have cnt : ∀ n k c p x, 4 - k = n → k ≤ 4 → c < 65536 → p < R * C → x < 65537 → ¬ arn R C p &&& mi (opn er (R * C)) c = 0 → T (d + 5) (fun r => ∃ v M', r = (some (.int v), DB o i0 i1 ext, M') ∧ K v M') (122, 66, [some (.ref 20), none, some (.int y), some (.int (nI c)), some (.int (nI p)), some (.int (nI x)), none, some (.int (nI (x % (nl R C (mi (opn er (R * C)) c) p 4 0).length))), some (.int (nI 0))], [], (DB o i0 i1 ext), M) → T (d + 5) (fun r => ∃ v M', r = (some (.int v), DB o i0 i1 ext, M') ∧ K v M') (122, 43, [some (.ref 20), none, some (.int y), some (.int (nI c)), some (.int (nI p)), some (.int (nI x)), some (.int (nI (nl R C (mi (opn er (R * C)) c) p k 0).length)), some (.int (nI k)), none], [], (DB o i0 i1 ext), M) := by
      intro n
      induction n with
      | zero =>
        intro k c p x h0 hk hc hp hx hbl hT
        obtain rfl : k = 4 := by omega
        have hlen := nl_len (F := mi (opn er (R * C)) c) hw.1 hp
        have hple := pc_le (arn R C p &&& mi (opn er (R * C)) c)
        have h0 : 0 < (nl R C (mi (opn er (R * C)) c) p 4 0).length := by
          rw [hlen]
          apply Nat.pos_of_ne_zero
          intro hz
          exact hbl (pc_zero (and_lt16 (arn_lt hw.1 hp)) hz)
        refine b_X5_drawn_43 _ _ _ _ _ _ ⟨fun _ => ⟨?_, ?_⟩, fun z => absurd (nI_le (Nat.le_refl _) (by decide)) z⟩
        · rw [n_e0 (by omega)]; omega
        · rw [pk_rem (by omega) h0 (by omega)]; exact hT
      | succ n ih =>
        intro k c p x h0 hk hc hp hx hbl hT
        have e := ih (k + 1) c p x (by omega) (by omega) hc hp hx hbl hT
        rw [nl_app] at e
        refine b_X5_drawn_43 _ _ _ _ _ _ ⟨fun z => ?_, fun _ => m_next hF hw.1 hc hp (by omega) ?_⟩
        · rw [n_le (by decide) (by omega)] at z; omega
        · rw [en6_neg (nf_b hw.1 hp (by omega)), nI_add, nI_add, nI_add]
          rw [Nat.zero_add] at e
          cases hz : nf R C (mi (opn er (R * C)) c) p k with
          | none =>
            rw [hz] at e
            simp only [List.append_nil] at e
            exact ⟨fun _ => e, fun z => absurd rfl z⟩
          | some z =>
            rw [hz] at e
            rw [List.length_append] at e
            exact ⟨fun w => (by cases w), fun _ => e⟩
    have main : ∀ n c p x, pc (mi (opn er (R * C)) c) ≤ n → c < 65536 → Sub c (opn er (R * C)) → p < R * C → x < 65537 → K (nI (if y = 0 then (dr R C n (mi (opn er (R * C)) c) p x (pc c)).1 else (dr R C n (mi (opn er (R * C)) c) p x (pc c)).2)) M → T (d + 5) (fun r => ∃ v M', r = (some (.int v), DB o i0 i1 ext, M') ∧ K v M') (122, 24, [some (.ref 20), none, some (.int y), some (.int (nI c)), some (.int (nI p)), some (.int (nI x)), none, none, none], [], (DB o i0 i1 ext), M) := by
      intro n
      induction n with
      | zero =>
        intro c p x hn hc hs hp hx hK
        have h0 : mi (opn er (R * C)) c = 0 := pc_zero (mi_lt (opn_lt hl)) (by omega)
        refine b_X5_drawn_24 _ _ _ _ (m_isBlind hF hw.1 hc hp ?_)
        rw [h0, Nat.and_zero]
        refine ⟨fun z => absurd z (by decide), fun _ => ⟨fun z => m_ones hc ⟨_, _, rfl, ?_⟩, fun z => ⟨_, _, rfl, ?_⟩⟩⟩
        · rw [if_pos z] at hK; exact hK
        · rw [if_neg z] at hK; exact hK
      | succ n ih =>
        intro c p x hn hc hs hp hx hK
        refine b_X5_drawn_24 _ _ _ _ (m_isBlind hF hw.1 hc hp ?_)
        by_cases hz : arn R C p &&& mi (opn er (R * C)) c = 0
        · rw [decide_eq_true hz]
          rw [show dr R C (n + 1) (mi (opn er (R * C)) c) p x (pc c) = (pc c, p) from if_pos hz] at hK
          refine ⟨fun z => absurd z (by decide), fun _ => ⟨fun z => m_ones hc ⟨_, _, rfl, ?_⟩, fun z => ⟨_, _, rfl, ?_⟩⟩⟩
          · rw [if_pos z] at hK; exact hK
          · rw [if_neg z] at hK; exact hK
        · rw [decide_eq_false hz]
          rw [show dr R C (n + 1) (mi (opn er (R * C)) c) p x (pc c) = dr R C n _ _ _ (pc c + 1) from if_neg hz] at hK
          refine ⟨fun _ => ?_, fun z => absurd rfl z⟩
          have hm := Nat.mod_lt (75 * x + 74) (show 0 < 65537 by decide)
          rw [nI_l (by omega), lN_mul, lN_add, pk_lRem (by omega) (by decide) (by decide), lN_i]
          generalize (75 * x + 74) % 65537 = x' at hK hm ⊢
          obtain ⟨k, hk, hq⟩ := dst_ok (x := x') hw.1 hp hz
          obtain ⟨c1, c2⟩ := nf_some.mp hq
          have hq2 := (nb_ok hw.1 hp hk c1).1
          rw [mi_t, Bool.and_eq_true] at c2
          have hcq : c.testBit (dst R C (mi (opn er (R * C)) c) p x') = false := by simpa using c2.2
          have hpq := pc_sb (by omega) hcq
          have hpc := pc_cb (a := mi (opn er (R * C)) c) (by omega) (nf_some.mp hq).2
          have hlen := nl_len (F := mi (opn er (R * C)) c) hw.1 hp
          have hple := pc_le (arn R C p &&& mi (opn er (R * C)) c)
          have h0 : 0 < (nl R C (mi (opn er (R * C)) c) p 4 0).length := by
            rw [hlen]
            apply Nat.pos_of_ne_zero
            intro hz2
            exact hz (pc_zero (and_lt16 (arn_lt hw.1 hp)) hz2)
          have hml := Nat.mod_lt x' h0
          refine cnt 4 0 c p x' rfl (by decide) hc hp (by omega) hz (sk 4 0 _ c p x' (dst R C (mi (opn er (R * C)) c) p x') rfl (by decide) hc hp (by omega) ?_ ?_)
          · unfold dst
            rw [List.getElem?_eq_getElem hml, Option.getD_some]
          · rw [mi_sb] at hK hpc
            rw [← hpq] at hK
            exact ih _ _ x' (by omega) (sb_lt hc (by omega)) (Sub_sb hs c2.1) hq2 hm hK
    refine main 15 (2 ^ bg) bg s ?_ (p2_lt (by omega)) (Sub_2 (bgo hw)) hb (by omega) ?_
    · have := Fo0_pc hw
      have := pc_le (opn er (R * C))
      have e : mi (opn er (R * C)) (2 ^ bg) = Fo0 R C er bg := rfl
      rw [e]; omega
    · have e1 : pc (2 ^ bg) = 1 := by
        have := pc_sb (a := 0) (p := bg) (by omega) (Nat.zero_testBit _)
        unfold sb at this
        rw [pc_0, Nat.zero_or] at this
        exact this
      rw [e1]
      exact h
end M3
