-- THE MODEL: calls that change the state
/-- an image in the model's cells -/
def KP (M : AMm) (n : Nat) (j : Option Fld) : Prop := M 28 n = nI (if j.isSome then 1 else 0) ∧ ∀ f, j = some f → M 27 (30 * n) = nI f.1 ∧ M 27 (30 * n + 1) = nI f.2.1 ∧ M 27 (30 * n + 2) = nI f.2.2.2.1 ∧ M 27 (30 * n + 3) = nI f.2.2.2.2 ∧ ∀ p, p < f.1 * f.2.1 → M 27 (30 * n + 4 + p) = f.2.2.1 p
def MS (R C : Nat) (er : Nat → Int32) (bg sp pn : Nat) (pd : Nat → Int32) (j0 j1 : Option Fld) (M : AMm) : Prop := MF M R C er bg sp ∧ MP M pn pd ∧ KP M 0 j0 ∧ KP M 1 j1
theorem KP.of {M M' : AMm} {n : Nat} {j : Option Fld} (h : KP M n j) (h27 : M' 27 = M 27) (h28 : M' 28 = M 28) : KP M' n j := by unfold KP; rw [h27, h28]; exact h
/-- what is outside the model -/
def FO (M M' : AMm) : Prop := ∀ a, (a < 20 ∨ 28 < a) → M' a = M a
theorem MS.fm {R C bg sp pn : Nat} {er pd : Nat → Int32} {j0 j1 : Option Fld} {M M' : AMm} (h : MS R C er bg sp pn pd j0 j1 M) (hm : FM M M') : MS R C er bg sp pn pd j0 j1 M' := ⟨h.1.fm hm, h.2.1.fm hm, h.2.2.1.of (hm.2.2 27 (by omega)) (hm.2.2 28 (by omega)), h.2.2.2.of (hm.2.2 27 (by omega)) (hm.2.2 28 (by omega))⟩
theorem FM.fo {M M' : AMm} (h : FM M M') : FO M M' := fun a ha => h.2.2 a (by omega)
theorem FO.rf {M : AMm} : FO M M := fun _ _ => rfl
theorem FO.ms {M M' : AMm} (h : FO M M') {a b : Nat} {v : Int32} (h1 : 20 ≤ a) (h2 : a ≤ 28) : FO M (ms M' a b v) := fun x hx => by rw [← h x hx]; funext y; exact ms_a (by omega)
section Z1
variable {d : Nat} {o i0 i1 : Option Nat} {ext : ADd} {M : AMm} {R C bg sp pn : Nat} {er pd : Nat → Int32} {j0 j1 : Option Fld} {K : Int32 → AMm → Prop}
theorem k_say (hS : MS R C er bg sp pn pd j0 j1 M) (x : Int32) (h : ∀ v M', FO M M' → (if x < nI 33 ∨ nI 126 < x then v = -(nI 2) ∧ MS R C er bg sp pn pd j0 j1 M' else if pn = 40 then v = -(nI 4) ∧ MS R C er bg sp pn pd j0 j1 M' else v = nI (pn + 1) ∧ MS R C er bg sp (pn + 1) (fun i => if i = pn then x else pd i) j0 j1 M') → K v M') : CI (d + 5) 80 [.ref 20, .int x] (DB o i0 i1 ext) M (DB o i0 i1 ext) K := by
  obtain ⟨hF, ⟨p1, p2, p3⟩, hk0, hk1⟩ := hS
  have hS : MS R C er bg sp pn pd j0 j1 M := ⟨hF, ⟨p1, p2, p3⟩, hk0, hk1⟩
  refine b_X5_say_0 _ (m_in (by decide) (by decide) (fun e => ⟨fun _ => ⟨_, _, rfl, h _ M FO.rf (by rw [if_pos e]; exact ⟨rfl, hS⟩)⟩, fun z => absurd rfl z⟩) (fun e => ⟨fun z => absurd z (by decide), fun _ => ?_⟩))
  rw [p1, n_eq (by omega) (by decide)]
  refine ⟨fun e2 => ⟨_, _, rfl, h _ M FO.rf (by rw [if_neg e, if_pos e2]; exact ⟨rfl, hS⟩)⟩, fun e2 => ⟨n_in (by omega) (by decide), _, _, rfl, ?_⟩⟩
  rw [n_cl (by omega), nI_add]
  refine h _ _ ((FO.rf.ms (by decide) (by decide)).ms (by decide) (by decide)) ?_
  rw [if_neg e, if_neg e2]
  refine ⟨rfl, ?_, ⟨ms_s _ _ _ _, by omega, fun i hi => ?_⟩, hk0.of (by funext y; rw [ms_a (by decide), ms_a (by decide)]) (by funext y; rw [ms_a (by decide), ms_a (by decide)]), hk1.of (by funext y; rw [ms_a (by decide), ms_a (by decide)]) (by funext y; rw [ms_a (by decide), ms_a (by decide)])⟩
  · obtain ⟨a1, a2, a3, a4, a5⟩ := hF
    exact ⟨by rw [ms_b (by decide), ms_a (by decide)]; exact a1, by rw [ms_b (by decide), ms_a (by decide)]; exact a2, by rw [ms_b (by decide), ms_a (by decide)]; exact a3, by rw [ms_b (by decide), ms_a (by decide)]; exact a4, fun p hp => by rw [ms_a (by decide), ms_a (by decide)]; exact a5 p hp⟩
  · rw [ms_a (by decide)]
    by_cases hi2 : i = pn
    · subst hi2; rw [ms_s]; simp
    · rw [ms_b hi2]; simp only [if_neg hi2]; exact p3 i (by omega)
theorem k_wipe (hS : MS R C er bg sp pn pd j0 j1 M) (h : ∀ M', FO M M' → MS R C er bg sp 0 pd j0 j1 M' → K (nI pn) M') : CI (d + 5) 81 [.ref 20] (DB o i0 i1 ext) M (DB o i0 i1 ext) K := by
  obtain ⟨hF, ⟨p1, p2, p3⟩, hk0, hk1⟩ := hS
  refine b_X5_wipe_0 ⟨_, _, rfl, ?_⟩
  rw [p1]
  refine h _ (FO.rf.ms (by decide) (by decide)) ⟨?_, ⟨ms_s _ _ _ _, by omega, fun i hi => absurd hi (Nat.not_lt_zero i)⟩, hk0.of (by funext y; rw [ms_a (by decide)]) (by funext y; rw [ms_a (by decide)]), hk1.of (by funext y; rw [ms_a (by decide)]) (by funext y; rw [ms_a (by decide)])⟩
  obtain ⟨a1, a2, a3, a4, a5⟩ := hF
  exact ⟨by rw [ms_b (by decide)]; exact a1, by rw [ms_b (by decide)]; exact a2, by rw [ms_b (by decide)]; exact a3, by rw [ms_b (by decide)]; exact a4, fun p hp => by rw [ms_a (by decide)]; exact a5 p hp⟩
theorem k_begin (hS : MS R C er bg sp pn pd j0 j1 M) (hw : WF R C er bg sp) (x : Int32) (h : ∀ v M', FO M M' → (if x < 0 ∨ nI (R * C) ≤ x then v = -(nI 1) ∧ MS R C er bg sp pn pd j0 j1 M' else if er x.toNatClampNeg = -(nI 1) then v = -(nI 3) ∧ MS R C er bg sp pn pd j0 j1 M' else v = nI bg ∧ MS R C er x.toNatClampNeg sp pn pd j0 j1 M') → K v M') : CI (d + 5) 90 [.ref 20, .int x] (DB o i0 i1 ext) M (DB o i0 i1 ext) K := by
  have hl := hw.1.le
  obtain ⟨hF, hP, hk0, hk1⟩ := hS
  have hS : MS R C er bg sp pn pd j0 j1 M := ⟨hF, hP, hk0, hk1⟩
  refine b_X5_begin_0 _ (m_isPlace hF hw.1 (fun e => ⟨fun _ => ⟨_, _, rfl, h _ M FO.rf (by rw [if_pos e]; exact ⟨rfl, hS⟩)⟩, fun z => absurd rfl z⟩) (fun p hp e => ⟨fun z => absurd z (by decide), fun _ => ?_⟩))
  subst e
  have hn : ¬ (nI p < 0 ∨ nI (R * C) ≤ nI p) := inP_n hw.1 hp
  rw [n_cl (by omega), hF.2.2.2.2 p hp]
  refine ⟨n_in (by omega) (by decide), fun e => ⟨_, _, rfl, h _ M FO.rf ?_⟩, fun e => ⟨_, _, rfl, h _ _ (FO.rf.ms (by decide) (by decide)) ?_⟩⟩
  · rw [if_neg hn, n_cl (by omega), if_pos e]; exact ⟨rfl, hS⟩
  · rw [if_neg hn, n_cl (by omega), if_neg e]
    obtain ⟨a1, a2, a3, a4, a5⟩ := hF
    refine ⟨a3, ⟨by rw [ms_b (by decide)]; exact a1, by rw [ms_b (by decide)]; exact a2, ms_s _ _ _ _, by rw [ms_b (by decide)]; exact a4, fun p hp => by rw [ms_a (by decide)]; exact a5 p hp⟩, ⟨by rw [ms_b (by decide)]; exact hP.1, hP.2.1, fun i hi => by rw [ms_a (by decide)]; exact hP.2.2 i hi⟩, hk0.of (by funext y; rw [ms_a (by decide)]) (by funext y; rw [ms_a (by decide)]), hk1.of (by funext y; rw [ms_a (by decide)]) (by funext y; rw [ms_a (by decide)])⟩
theorem k_spill (hS : MS R C er bg sp pn pd j0 j1 M) (x : Int32) (h : ∀ v M', FO M M' → (if x < 0 ∨ nI 9 < x then v = -(nI 2) ∧ MS R C er bg sp pn pd j0 j1 M' else v = nI sp ∧ MS R C er bg x.toNatClampNeg pn pd j0 j1 M') → K v M') : CI (d + 5) 91 [.ref 20, .int x] (DB o i0 i1 ext) M (DB o i0 i1 ext) K := by
  obtain ⟨hF, hP, hk0, hk1⟩ := hS
  have hS : MS R C er bg sp pn pd j0 j1 M := ⟨hF, hP, hk0, hk1⟩
  refine b_X5_spill_0 _ (m_in (by decide) (by decide) (fun e => ⟨fun _ => ⟨_, _, rfl, h _ M FO.rf (by rw [if_pos (show x < 0 ∨ nI 9 < x from e)]; exact ⟨rfl, hS⟩)⟩, fun z => absurd rfl z⟩) (fun e => ⟨fun z => absurd z (by decide), fun _ => ⟨_, _, rfl, h _ _ (FO.rf.ms (by decide) (by decide)) ?_⟩⟩))
  rw [if_neg (show ¬ (x < 0 ∨ nI 9 < x) from e)]
  obtain ⟨s, hs, rfl⟩ := nI_of (fun z => e (Or.inl z))
  rw [n_cl hs]
  obtain ⟨a1, a2, a3, a4, a5⟩ := hF
  exact ⟨a4, ⟨by rw [ms_b (by decide)]; exact a1, by rw [ms_b (by decide)]; exact a2, by rw [ms_b (by decide)]; exact a3, ms_s _ _ _ _, fun p hp => by rw [ms_a (by decide)]; exact a5 p hp⟩, ⟨by rw [ms_b (by decide)]; exact hP.1, hP.2.1, fun i hi => by rw [ms_a (by decide)]; exact hP.2.2 i hi⟩, hk0.of (by funext y; rw [ms_a (by decide)]) (by funext y; rw [ms_a (by decide)]), hk1.of (by funext y; rw [ms_a (by decide)]) (by funext y; rw [ms_a (by decide)])⟩
theorem m_lay {K : AMm → Prop} {R' C' : Nat} (h : ∀ M', FO M M' → M' 20 0 = nI R' → M' 20 1 = nI C' → M' 20 3 = nI 0 → (∀ b, b ≠ 0 → b ≠ 1 → b ≠ 3 → M' 20 b = M 20 b) → (∀ p, p < 16 → M' 21 p = nI 1) → (∀ a, a ≠ 20 → a ≠ 21 → M' a = M a) → K M') : CV d 76 [.ref 20, .int (nI R'), .int (nI C')] (DB o i0 i1 ext) M (DB o i0 i1 ext) K := by
  have loop : ∀ n k (M1 : AMm), 16 - k = n → k ≤ 16 → M1 20 0 = nI R' → M1 20 1 = nI C' → (∀ b, b ≠ 0 → b ≠ 1 → M1 20 b = M 20 b) → (∀ p, p < k → M1 21 p = nI 1) → (∀ a, a ≠ 20 → a ≠ 21 → M1 a = M a) → T d (fun r => ∃ M', r = (none, DB o i0 i1 ext, M') ∧ K M') (76, 8, [some (.ref 20), none, none, some (.int (nI k))], [], (DB o i0 i1 ext), M1) := by
    intro n
    induction n with
    | zero =>
      intro k M1 h0 hk a0 a1 a2 a3 a4
      obtain rfl : k = 16 := by omega
      refine b_X5_lay_8 _ ⟨fun _ => ⟨_, rfl, h _ ?_ ?_ ?_ (ms_s _ _ _ _) (fun b z1 z2 z3 => ?_) (fun p hp => ?_) (fun a z1 z2 => ?_)⟩, fun z => absurd (nI_le (Nat.le_refl _) (by decide)) z⟩
      · intro a ha; rw [← a4 a (by omega) (by omega)]; funext y; exact ms_a (by omega)
      · rw [ms_b (by decide)]; exact a0
      · rw [ms_b (by decide)]; exact a1
      · rw [ms_b z3]; exact a2 b z1 z2
      · rw [ms_a (by decide)]; exact a3 p hp
      · rw [← a4 a z1 z2]; funext y; exact ms_a z1
    | succ n ih =>
      intro k M1 h0 hk a0 a1 a2 a3 a4
      refine b_X5_lay_8 _ ⟨fun z => ?_, fun _ => ⟨n_in (by omega) (by decide), ?_⟩⟩
      · rw [n_le (by decide) (by omega)] at z; omega
      · rw [n_cl (by omega), nI_add]
        refine ih (k + 1) _ (by omega) (by omega) (by rw [ms_a (by decide)]; exact a0) (by rw [ms_a (by decide)]; exact a1) (fun b z1 z2 => by rw [ms_a (by decide)]; exact a2 b z1 z2) (fun p hp => ?_) (fun a z1 z2 => by rw [← a4 a z1 z2]; funext y; exact ms_a z2)
        by_cases hpk : p = k
        · subst hpk; exact ms_s _ _ _ _
        · rw [ms_b hpk]; exact a3 p (by omega)
  refine b_X5_lay_0 _ _ (loop 16 0 _ rfl (by decide) ?_ (ms_s _ _ _ _) (fun b z1 z2 => ?_) (fun p hp => absurd hp (Nat.not_lt_zero p)) (fun a z1 z2 => ?_))
  · rw [ms_b (by decide)]; exact ms_s _ _ _ _
  · rw [ms_b z2, ms_b z1]
  · funext y; rw [ms_a z1, ms_a z1]
theorem k_field (hS : MS R C er bg sp pn pd j0 j1 M) (x y : Int32) (h0 : ¬ fok x y → K (-(nI 2)) M) (h1 : ∀ R' C', Dm R' C' → x = nI R' → y = nI C' → ∀ M', FO M M' → MS R' C' (fun _ => nI 1) 0 sp pn pd j0 j1 M' → K (nI (R' * C')) M') : CI (d + 5) 79 [.ref 20, .int x, .int y] (DB o i0 i1 ext) M (DB o i0 i1 ext) K := by
  obtain ⟨hF, hP, hk0, hk1⟩ := hS
  refine b_X5_field_0 _ _ (m_in (by decide) (by decide) (fun e => ⟨fun _ => ⟨_, _, rfl, h0 (fun q => ?_)⟩, fun z => absurd rfl z⟩) (fun e => ⟨fun z => absurd z (by decide), fun _ => m_in (by decide) (by decide) (fun e2 => ⟨fun _ => ⟨_, _, rfl, h0 (fun q => ?_)⟩, fun z => absurd rfl z⟩) (fun e2 => ⟨fun z => absurd z (by decide), fun _ => ⟨fun e3 => ?_, fun e3 => ⟨_, _, rfl, h0 (fun q => e3 q.2.2.2.2)⟩⟩⟩)⟩))
  · rcases e with z | z
    · exact Int32.not_lt.mpr q.1 z
    · exact Int32.not_lt.mpr q.2.1 z
  · rcases e2 with z | z
    · exact Int32.not_lt.mpr q.2.2.1 z
    · exact Int32.not_lt.mpr q.2.2.2.1 z
  · obtain ⟨R', C', hd, rfl, rfl⟩ := fok_of (x := x) (y := y) ⟨Int32.not_lt.mp (fun z => e (Or.inl z)), Int32.not_lt.mp (fun z => e (Or.inr z)), Int32.not_lt.mp (fun z => e2 (Or.inl z)), Int32.not_lt.mp (fun z => e2 (Or.inr z)), e3⟩
    refine m_lay (fun M' f1 f2 f3 f4 f5 f6 f7 => ?_)
    have hl := hd.le
    have hF' : MF M' R' C' (fun _ => nI 1) 0 sp := ⟨f2, f3, f4, by rw [f5 4 (by decide) (by decide) (by decide)]; exact hF.2.2.2.1, fun p hp => f6 p (by omega)⟩
    refine m_places hF' ⟨_, _, rfl, h1 R' C' hd rfl rfl M' f1 ⟨hF', ⟨by rw [f5 6 (by decide) (by decide) (by decide)]; exact hP.1, hP.2.1, fun i hi => by rw [f7 22 (by decide) (by decide)]; exact hP.2.2 i hi⟩, hk0.of (f7 27 (by decide) (by decide)) (f7 28 (by decide) (by decide)), hk1.of (f7 27 (by decide) (by decide)) (f7 28 (by decide) (by decide))⟩⟩
theorem ff6 : ∀ q, ff (R * C) pd pn 0 = some q → pn ≤ 40 → q < 2 ^ 31 := by
  intro q hq hp
  have : ∀ n j, ff (R * C) pd n j = some q → q ≤ j + n := by
    intro n
    induction n with
    | zero =>
      intro j hj
      unfold ff at hj
      split at hj
      · cases hj; omega
      · cases hj
    | succ n ih =>
      intro j hj
      unfold ff at hj
      split at hj
      · cases hj; omega
      · have := ih (j + 1) hj; omega
  have := this pn 0 hq
  omega
theorem k_sow (hS : MS R C er bg sp pn pd j0 j1 M) (hw : WF R C er bg sp) (h0 : ff (R * C) pd pn 0 ≠ none → K (-(nI 5)) M) (h1 : ff (R * C) pd pn 0 = none → ast pd (R * C) → K (-(nI 3)) M) (h2 : ff (R * C) pd pn 0 = none → ¬ ast pd (R * C) → ∀ M', FO M M' → MS R C (sw pd) (fo (sw pd) (R * C) (R * C) 0) sp 0 pd j0 j1 M' → K (nI (pc (opn (sw pd) (R * C)))) M') : CI (d + 5) 88 [.ref 20] (DB o i0 i1 ext) M (DB o i0 i1 ext) K := by
  have hl := hw.1.le
  have hpos := Nat.mul_pos hw.1.1 hw.1.2.2.1
  obtain ⟨hF, ⟨p1, p2, p3⟩, hk0, hk1⟩ := hS
  refine b_X5_sow_0 (m_faultF hF hw.1 ⟨p1, p2, p3⟩ ?_)
  rw [en6_neg (fun q hq => ff6 q hq p2)]
  refine ⟨fun e => ?_, fun e => ⟨_, _, rfl, h0 e⟩⟩
  have h1 := h1 e
  have h2 := h2 e
  obtain ⟨a1, a2⟩ := ff_ok pn 0 e (Nat.zero_le _)
  have hpn : pn = R * C := by omega
  have hsk : swk pd (R * C) := fun p hp => gs_e (a2 p (Nat.zero_le _) (by omega))
  refine m_places hF ?_
  -- the ears are laid
  have fill : ∀ f, f < R * C → pd f ≠ nI 35 → (∀ i, i < f → pd i = nI 35) → ∀ n k (M1 : AMm), R * C - k = n → k ≤ R * C → (∀ b, M1 20 b = M 20 b) → (∀ a, a ≠ 21 → M1 a = M a) → (∀ p, p < k → M1 21 p = sw pd p) → T (d + 5) (fun r => ∃ v M', r = (some (.int v), DB o i0 i1 ext, M') ∧ K v M') (88, 32, [some (.ref 20), some (.int (nI f)), some (.int (nI k))], [], (DB o i0 i1 ext), M1) := by
    intro f hf hf1 hf2 n
    induction n with
    | zero =>
      intro k M1 h0' hk h20 hM hE
      obtain rfl : k = R * C := by omega
      have hF1 : MF M1 R C (sw pd) bg sp := ⟨by rw [h20]; exact hF.1, by rw [h20]; exact hF.2.1, by rw [h20]; exact hF.2.2.1, by rw [h20]; exact hF.2.2.2.1, hE⟩
      refine b_X5_sow_32 _ _ (m_places hF1 ⟨fun _ => ?_, fun z => absurd (nI_le (Nat.le_refl _) (by omega)) z⟩)
      have hff : fo (sw pd) (R * C) (R * C) 0 = f := by
        have hst : ∀ i, i < R * C → (sw pd i = -(nI 1) ↔ pd i = nI 35) := fun i hi => sw_stone hsk hi
        obtain ⟨b1, b2, b3, b4⟩ := fo_ok (er := sw pd) (P := R * C) (R * C) 0 (by omega) ⟨f, Nat.zero_le _, hf, fun q => hf1 ((hst f hf).mp q)⟩
        rcases Nat.lt_trichotomy (fo (sw pd) (R * C) (R * C) 0) f with z | z | z
        · exact absurd ((hst _ b1).mpr (hf2 _ z)) b2
        · exact z
        · exact absurd ((hst f hf).mp (b4 f (Nat.zero_le _) z)) hf1
      have hF2 : MF (ms (ms M1 20 3 (nI f)) 20 6 (nI 0)) R C (sw pd) f sp := by
        obtain ⟨c1, c2, c3, c4, c5⟩ := hF1
        exact ⟨by rw [ms_b (by decide), ms_b (by decide)]; exact c1, by rw [ms_b (by decide), ms_b (by decide)]; exact c2, by rw [ms_b (by decide)]; exact ms_s _ _ _ _, by rw [ms_b (by decide), ms_b (by decide)]; exact c4, fun p hp => by rw [ms_a (by decide), ms_a (by decide)]; exact c5 p hp⟩
      refine m_open hF2 hw.1 (m_ones (opn_lt hl) ⟨_, _, rfl, h2 ?_ _ ?_ ⟨by rw [hff]; exact hF2, ⟨ms_s _ _ _ _, by omega, fun i hi => absurd hi (Nat.not_lt_zero i)⟩, ?_, ?_⟩⟩)
      · exact fun q => hf1 (q f hf)
      · intro a ha; rw [← hM a (by omega)]; funext y; rw [ms_a (by omega), ms_a (by omega)]
      · exact hk0.of (by rw [← hM 27 (by decide)]; funext y; rw [ms_a (by decide), ms_a (by decide)]) (by rw [← hM 28 (by decide)]; funext y; rw [ms_a (by decide), ms_a (by decide)])
      · exact hk1.of (by rw [← hM 27 (by decide)]; funext y; rw [ms_a (by decide), ms_a (by decide)]) (by rw [← hM 28 (by decide)]; funext y; rw [ms_a (by decide), ms_a (by decide)])
    | succ n ih =>
      intro k M1 h0' hk h20 hM hE
      have pl : ∀ {K2 : Int32 → AMm → Prop}, K2 (nI (R * C)) M1 → CI (d + 4) 77 [.ref 20] (DB o i0 i1 ext) M1 (DB o i0 i1 ext) K2 := fun {K2} hh => b_X5_places_0 ⟨_, _, rfl, by rw [h20, h20, hF.1, hF.2.1, pk_mul]; exact hh⟩
      have go : ∀ v, v = sw pd k → T (d + 5) (fun r => ∃ v M', r = (some (.int v), DB o i0 i1 ext, M') ∧ K v M') (88, 32, [some (.ref 20), some (.int (nI f)), some (.int (nI (k + 1)))], [], (DB o i0 i1 ext), (ms M1 21 k v)) := by
        intro v hv
        refine ih (k + 1) _ (by omega) (by omega) (fun b => by rw [ms_a (by decide)]; exact h20 b) (fun a ha => by rw [← hM a ha]; funext y; exact ms_a ha) (fun p hp => ?_)
        by_cases hpk : p = k
        · subst hpk; rw [ms_s]; exact hv
        · rw [ms_b hpk]; exact hE p (by omega)
      refine b_X5_sow_32 _ _ (pl ⟨fun z => ?_, fun _ => ⟨n_in (by omega) (by decide), ?_⟩⟩)
      · rw [n_le (by omega) (by omega)] at z; omega
      · rw [n_cl (by omega), hM 22 (by decide), p3 k (by omega), nI_add]
        refine ⟨fun z => ⟨n_in (by omega) (by decide), go _ ?_⟩, fun z => ⟨n_in (by omega) (by decide), n_in (by omega) (by decide), go _ ?_⟩⟩
        · unfold sw; rw [if_pos z]
        · unfold sw; rw [if_neg z]
  have down : ∀ k (x1 : Int32), k ≤ R * C → (((∀ i, k ≤ i → i < R * C → pd i = nI 35) ∧ x1 = -(nI 6)) ∨ ∃ f, f < R * C ∧ k ≤ f ∧ pd f ≠ nI 35 ∧ (∀ i, k ≤ i → i < f → pd i = nI 35) ∧ x1 = nI f) → T (d + 5) (fun r => ∃ v M', r = (some (.int v), DB o i0 i1 ext, M') ∧ K v M') (88, 12, [some (.ref 20), some (.int x1), some (.int (if k = 0 then -(nI 1) else nI (k - 1)))], [], (DB o i0 i1 ext), M) := by
    intro k
    induction k with
    | zero =>
      intro x1 hk hx
      rw [if_pos rfl]
      refine b_X5_sow_12 _ _ ⟨fun _ => ?_, fun z => absurd (neg_lt (by decide) (by decide)) z⟩
      rcases hx with ⟨hx1, rfl⟩ | ⟨f, hf, -, hf1, hf2, rfl⟩
      · exact ⟨fun z => absurd z (by decide), fun _ => ⟨_, _, rfl, h1 (fun i hi => hx1 i (Nat.zero_le _) hi)⟩⟩
      · exact ⟨fun _ => fill f hf hf1 (fun i hi => hf2 i (Nat.zero_le _) hi) (R * C) 0 M (by omega) (by omega) (fun _ => rfl) (fun _ _ => rfl) (fun p hp => absurd hp (Nat.not_lt_zero p)), fun z => absurd (nI_pos' (by omega)) z⟩
    | succ k ih =>
      intro x1 hk hx
      rw [if_neg (by omega), Nat.add_sub_cancel]
      refine b_X5_sow_12 _ _ ⟨fun z => absurd z (nI_pos (by omega)), fun _ => ⟨n_in (by omega) (by decide), ?_⟩⟩
      rw [n_cl (by omega), p3 k (by omega)]
      have ek : nI k + (-(nI 1)) = if k = 0 then -(nI 1) else nI (k - 1) := by
        split
        · rename_i hz; subst hz; decide
        · exact n_dec (by omega)
      rw [ek]
      refine ⟨fun z => ih x1 (by omega) ?_, fun z => ih (nI k) (by omega) (Or.inr ⟨k, by omega, Nat.le_refl _, z, fun i a b => by omega, rfl⟩)⟩
      rcases hx with ⟨hx1, hx2⟩ | ⟨f, hf, hkf, hf1, hf2, hx2⟩
      · refine Or.inl ⟨fun i a b => ?_, hx2⟩
        by_cases hi : i = k
        · rw [hi]; exact z
        · exact hx1 i (by omega) b
      · refine Or.inr ⟨f, hf, by omega, hf1, fun i a b => ?_, hx2⟩
        by_cases hi : i = k
        · rw [hi]; exact z
        · exact hf2 i (by omega) b
  have start := down (R * C) (-(nI 6)) (Nat.le_refl _) (Or.inl ⟨fun i a b => by omega, rfl⟩)
  rw [if_neg (by omega)] at start
  rw [pk_sub hpos]
  exact start
/-- read, or written -/
def pv (w : Bool) (x y : Int32) : Int32 := if w then x else y
theorem m_pass {w : Bool} {t : Nat} {x : Int32} (hw : M 20 20 = nI (if w then 1 else 0)) (ht : M 20 19 = nI t) (ht2 : t < 60) (h : ∀ M', M' 27 t = pv w x (M 27 t) → (∀ b, b ≠ t → M' 27 b = M 27 b) → M' 20 19 = nI (t + 1) → (∀ b, b ≠ 19 → M' 20 b = M 20 b) → (∀ a, a ≠ 20 → a ≠ 27 → M' a = M a) → K (pv w x (M 27 t)) M') : CI d 123 [.ref 20, .int x] (DB o i0 i1 ext) M (DB o i0 i1 ext) K := by
  refine b_X5_pass_0 _ ?_
  rw [hw, ht, n_cl (by omega), nI_add]
  cases w with
  | true =>
    refine ⟨fun z => absurd z (by decide), fun _ => ⟨n_in (by omega) (by decide), _, _, rfl, h _ ?_ (fun b hb => ?_) (ms_s _ _ _ _) (fun b hb => ?_) (fun a z1 z2 => ?_)⟩⟩
    · rw [ms_a (by decide)]; exact ms_s _ _ _ _
    · rw [ms_a (by decide), ms_b hb]
    · rw [ms_b hb, ms_a (by decide)]
    · funext y; rw [ms_a z1, ms_a z2]
  | false =>
    refine ⟨fun _ => ⟨n_in (by omega) (by decide), n_in (by omega) (by decide), _, _, rfl, h _ ?_ (fun b hb => ?_) (ms_s _ _ _ _) (fun b hb => ?_) (fun a z1 z2 => ?_)⟩, fun z => absurd rfl z⟩
    · rw [ms_a (by decide)]; exact ms_s _ _ _ _
    · rw [ms_a (by decide), ms_b hb]
    · rw [ms_b hb, ms_a (by decide)]
    · funext y; rw [ms_a z1, ms_a z2]
end Z1
