-- THE CLASS: calls that change the state
section P4
variable {d : Nat} {o i0 i1 : Option Nat} {ext : ADd} {M : AMm} {R C bg sp pn : Nat} {er pd : Nat → Int32} {j0 j1 : Option Fld}
theorem FI.cong {er' : Nat → Int32} (h : FI M R C er bg sp) (he : ∀ p, p < R * C → er p = er' p) : FI M R C er' bg sp := by
  obtain ⟨a1, a2, a3, a4, a5, a6, a7⟩ := h
  exact ⟨a1, a2, a3, by rw [a4, opn_cong he], a5, a6, fun p hp => ⟨by rw [← he p hp]; exact (a7 p hp).1, (a7 p hp).2⟩⟩
theorem q_say (h : CS R C er bg sp pn pd j0 j1 o i0 i1 ext M) (x : Int32) : OC (d + 5) 38 [.ref 0, .int x] (DB o i0 i1 ext) M (fun v o i0 i1 ext M' => if x < nI 33 ∨ nI 126 < x then CPo R C er bg sp pn pd j0 j1 M (-(nI 2)) v o i0 i1 ext M' else if pn = 40 then CPo R C er bg sp pn pd j0 j1 M (-(nI 4)) v o i0 i1 ext M' else CPo R C er bg sp (pn + 1) (fun i => if i = pn then x else pd i) j0 j1 M (nI (pn + 1)) v o i0 i1 ext M') := by
  obtain ⟨h1, h2, h3, h4, h5, h6⟩ := h
  have h : CS R C er bg sp pn pd j0 j1 o i0 i1 ext M := ⟨h1, h2, h3, h4, h5, h6⟩
  obtain ⟨p1, p2, p3⟩ := h4
  refine b_X4_say_0 _ ⟨fun e => ?_, fun e => ⟨fun e2 => ?_, fun e2 => ?_⟩⟩
  · exact ⟨_, _, _, _, _, _, rfl, by dsimp only; rw [if_pos (Or.inl e)]; exact CPo.same h _⟩
  · have hn : ¬ (x < nI 33 ∨ nI 126 < x) := by rintro (z | z); exact e z; exact Int32.not_lt.mpr e2 z
    rw [p1, n_lt (by omega) (by decide)]
    refine ⟨fun e3 => ⟨n_in (by omega) (by decide), ?_⟩, fun e3 => ?_⟩
    · rw [n_cl (by omega), nI_add]
      refine ⟨_, _, _, _, _, _, rfl, ?_⟩
      dsimp only
      rw [if_neg hn, if_neg (by omega)]
      refine ⟨rfl, ⟨?_, ?_, h3, ⟨ms_s _ _ _ _, by omega, fun i hi => ?_⟩, ?_, ?_⟩, fun a z1 => by funext y; rw [ms_a (by omega), ms_a (by omega)]⟩
      · exact h1.of (fun a ha => by funext y; rw [ms_a (by omega), ms_a (by omega)])
      · exact h2.of (by funext y; rw [ms_a (by omega), ms_a (by omega)]) (by funext y; rw [ms_a (by omega), ms_a (by omega)]) (by funext y; rw [ms_a (by omega), ms_a (by omega)]) (by funext y; rw [ms_a (by omega), ms_a (by omega)])
      · rw [ms_a (by omega)]
        by_cases hi2 : i = pn
        · subst hi2; rw [ms_s]; simp
        · rw [ms_b hi2]; simp only [if_neg hi2]; exact p3 i (by omega)
      · obtain ⟨c1, c2, c3, c4⟩ := h5
        have e0 : ∀ b, b ≠ 1 → (ms (ms M 1 pn x) 0 1 (nI (pn + 1))) 0 b = M 0 b := fun b hb => by rw [ms_b hb, ms_a (by omega)]
        unfold CK
        rw [e0 7 (by decide), e0 11 (by decide), e0 12 (by decide), e0 13 (by decide), e0 14 (by decide), e0 15 (by decide), e0 16 (by decide), e0 17 (by decide)]
        refine ⟨?_, c2, c3, c4⟩
        rcases c1 with z | ⟨z, z2, z3⟩
        · exact Or.inl z
        · exact Or.inr ⟨z, z2, z3.of (fun a z1 z2 => by funext y; rw [ms_a (by omega), ms_a (by omega)])⟩
      · exact h6.of (fun a z1 z2 => by funext y; rw [ms_a (by omega), ms_a (by omega)])
    · exact ⟨_, _, _, _, _, _, rfl, by dsimp only; rw [if_neg hn, if_pos (by omega)]; exact CPo.same h _⟩
  · exact ⟨_, _, _, _, _, _, rfl, by dsimp only; rw [if_pos (Or.inr (Int32.not_le.mp e2))]; exact CPo.same h _⟩
theorem q_wipe (h : CS R C er bg sp pn pd j0 j1 o i0 i1 ext M) : OC (d + 5) 39 [.ref 0] (DB o i0 i1 ext) M (CPo R C er bg sp 0 pd j0 j1 M (nI pn)) := by
  obtain ⟨h1, h2, h3, h4, h5, h6⟩ := h
  obtain ⟨p1, p2, p3⟩ := h4
  refine b_X4_wipe_0 ?_
  refine ⟨_, _, _, _, _, _, rfl, p1, ⟨?_, ?_, h3, ⟨ms_s _ _ _ _, by omega, fun i hi => absurd hi (Nat.not_lt_zero i)⟩, ?_, ?_⟩, fun a z1 => by funext y; rw [ms_a (by omega)]⟩
  · exact h1.of (fun a ha => by funext y; rw [ms_a (by omega)])
  · exact h2.of (by funext y; rw [ms_a (by omega)]) (by funext y; rw [ms_a (by omega)]) (by funext y; rw [ms_a (by omega)]) (by funext y; rw [ms_a (by omega)])
  · obtain ⟨c1, c2, c3, c4⟩ := h5
    have e0 : ∀ b, b ≠ 1 → (ms M 0 1 (nI 0)) 0 b = M 0 b := fun b hb => by rw [ms_b hb]
    unfold CK
    rw [e0 7 (by decide), e0 11 (by decide), e0 12 (by decide), e0 13 (by decide), e0 14 (by decide), e0 15 (by decide), e0 16 (by decide), e0 17 (by decide)]
    refine ⟨?_, c2, c3, c4⟩
    rcases c1 with z | ⟨z, z2, z3⟩
    · exact Or.inl z
    · exact Or.inr ⟨z, z2, z3.of (fun a z1 z2 => by funext y; rw [ms_a (by omega)])⟩
  · exact h6.of (fun a z1 z2 => by funext y; rw [ms_a (by omega)])
/-- a changed field: what was found out is forgotten -/
theorem CS.forg {R' C' bg' sp' pn' : Nat} {er' pd' : Nat → Int32} {M' M2 : AMm} (h1 : RO M) (h6 : IM j0 j1 i0 i1 ext M) (hM : ∀ a, 6 ≤ a → M' a = M a) (hF : FI M' R' C' er' bg' sp') (hw : WF R' C' er' bg' sp') (hP : PI M' pn' pd') (e1 : M2 0 7 = nI 0) (e2 : M2 0 11 = nI 0) (e3 : M2 0 14 = nI 0) (e4 : M2 0 16 = nI 0) (e5 : ∀ b, b ≠ 7 → b ≠ 11 → b ≠ 14 → b ≠ 16 → M2 0 b = M' 0 b) (e6 : ∀ a, a ≠ 0 → M2 a = M' a) : CS R' C' er' bg' sp' pn' pd' j0 j1 o i0 i1 ext M2 ∧ ∀ a, ((20 ≤ a ∧ a ≤ 28) ∨ 36 < a) → M2 a = M a :=
  ⟨⟨h1.of (fun a ha => by rw [e6 a (by omega), hM a (by omega)]), hF.of (e6 _ (by decide)) (e6 _ (by decide)) (e6 _ (by decide)) (e6 _ (by decide)), hw, hP.of (e5 1 (by decide) (by decide) (by decide) (by decide)) (e6 1 (by decide)), CK.no e1 e2 e3 e4, h6.of (fun a z1 z2 => by rw [e6 a (by omega), hM a (by omega)])⟩, fun a z1 => by rw [e6 a (by omega), hM a (by omega)]⟩
theorem q_begin (h : CS R C er bg sp pn pd j0 j1 o i0 i1 ext M) (x : Int32) : OC (d + 5) 43 [.ref 0, .int x] (DB o i0 i1 ext) M (fun v o i0 i1 ext M' => if x < 0 ∨ nI (R * C) ≤ x then CPo R C er bg sp pn pd j0 j1 M (-(nI 1)) v o i0 i1 ext M' else if er x.toNatClampNeg = -(nI 1) then CPo R C er bg sp pn pd j0 j1 M (-(nI 3)) v o i0 i1 ext M' else CPo R C er x.toNatClampNeg sp pn pd j0 j1 M (nI bg) v o i0 i1 ext M') := by
  obtain ⟨h1, h2, h3, h4, h5, h6⟩ := h
  have h : CS R C er bg sp pn pd j0 j1 o i0 i1 ext M := ⟨h1, h2, h3, h4, h5, h6⟩
  have hl := h3.1.le
  refine b_X4_begin_0 _ (s_has h2.2.2.1 hl (fun e => ⟨fun _ => ?_, fun e2 => absurd rfl e2⟩) (fun p hp e => ⟨fun e2 => absurd e2 (by decide), fun _ => ?_⟩))
  · exact ⟨_, _, _, _, _, _, rfl, by dsimp only; rw [if_pos e]; exact CPo.same h _⟩
  · subst e
    have hn : ¬ (nI p < 0 ∨ nI (R * C) ≤ nI p) := inP_n h3.1 hp
    refine s_isOpenN h2 h3.1 (by omega) ?_
    rw [bI_0]
    refine ⟨fun e => ?_, fun e => ?_⟩
    · have : er p = -(nI 1) := by
        apply Classical.byContradiction
        intro hn
        rw [(opn_t er _ p).mpr ⟨hp, hn⟩] at e
        cases e
      exact ⟨_, _, _, _, _, _, rfl, by dsimp only; rw [if_neg hn, n_cl (by omega), if_pos this]; exact CPo.same h _⟩
    · have hst : er p ≠ -(nI 1) := ((opn_t er _ p).mp (or_no e)).2
      refine s_forget (fun M2 e1 e2 e3 e4 e5 e6 => ?_)
      refine ⟨_, _, _, _, _, _, rfl, ?_⟩
      dsimp only
      rw [if_neg hn, n_cl (by omega), if_neg hst]
      refine ⟨h2.2.2.2.2.1, CS.forg (M := M) (M' := ms M 2 4 (nI p)) h1 h6 (fun a ha => by funext y; exact ms_a (by omega)) ?_ ⟨h3.1, h3.2.1, hp, hst, h3.2.2.2.2⟩ (h4.of (ms_a (by decide)) (by funext y; exact ms_a (by decide))) e1 e2 e3 e4 e5 e6⟩
      obtain ⟨a1, a2, a3, a4, a5, a6, a7⟩ := h2
      exact ⟨by rw [ms_b (by decide)]; exact a1, by rw [ms_b (by decide)]; exact a2, by rw [ms_b (by decide)]; exact a3, by rw [ms_b (by decide)]; exact a4, ms_s _ _ _ _, by rw [ms_b (by decide)]; exact a6, fun p hp => by rw [ms_a (by decide), ms_a (by decide)]; exact ⟨(a7 p hp).1, (a7 p hp).2.1, fun k hk => by rw [ms_a (by decide)]; exact (a7 p hp).2.2 k hk⟩⟩
theorem q_spill (h : CS R C er bg sp pn pd j0 j1 o i0 i1 ext M) (x : Int32) : OC (d + 5) 44 [.ref 0, .int x] (DB o i0 i1 ext) M (fun v o i0 i1 ext M' => if x < 0 ∨ nI 9 < x then CPo R C er bg sp pn pd j0 j1 M (-(nI 2)) v o i0 i1 ext M' else CPo R C er bg x.toNatClampNeg pn pd j0 j1 M (nI sp) v o i0 i1 ext M') := by
  obtain ⟨h1, h2, h3, h4, h5, h6⟩ := h
  have h : CS R C er bg sp pn pd j0 j1 o i0 i1 ext M := ⟨h1, h2, h3, h4, h5, h6⟩
  refine b_X4_spill_0 _ ⟨fun e => ?_, fun e => ⟨fun e2 => ?_, fun e2 => ?_⟩⟩
  · exact ⟨_, _, _, _, _, _, rfl, by dsimp only; rw [if_pos (Or.inl e)]; exact CPo.same h _⟩
  · have hn : ¬ (x < 0 ∨ nI 9 < x) := by rintro (z | z); exact e z; exact Int32.not_lt.mpr e2 z
    obtain ⟨s, hs, rfl⟩ := nI_of e
    rw [n_le hs (by decide)] at e2
    refine s_forget (fun M2 e1 e2' e3 e4 e5 e6 => ?_)
    refine ⟨_, _, _, _, _, _, rfl, ?_⟩
    dsimp only
    rw [if_neg hn, n_cl hs]
    refine ⟨h2.2.2.2.2.2.1, CS.forg (M := M) (M' := ms M 2 5 (nI s)) h1 h6 (fun a ha => by funext y; exact ms_a (by omega)) ?_ ⟨h3.1, h3.2.1, h3.2.2.1, h3.2.2.2.1, e2⟩ (h4.of (ms_a (by decide)) (by funext y; exact ms_a (by decide))) e1 e2' e3 e4 e5 e6⟩
    obtain ⟨a1, a2, a3, a4, a5, a6, a7⟩ := h2
    exact ⟨by rw [ms_b (by decide)]; exact a1, by rw [ms_b (by decide)]; exact a2, by rw [ms_b (by decide)]; exact a3, by rw [ms_b (by decide)]; exact a4, by rw [ms_b (by decide)]; exact a5, ms_s _ _ _ _, fun p hp => by rw [ms_a (by decide), ms_a (by decide)]; exact ⟨(a7 p hp).1, (a7 p hp).2.1, fun k hk => by rw [ms_a (by decide)]; exact (a7 p hp).2.2 k hk⟩⟩
  · exact ⟨_, _, _, _, _, _, rfl, by dsimp only; rw [if_pos (Or.inr (Int32.not_le.mp e2))]; exact CPo.same h _⟩
/-- rows and columns that can be -/
def fok (x y : Int32) : Prop := nI 1 ≤ x ∧ x ≤ nI 5 ∧ nI 1 ≤ y ∧ y ≤ nI 5 ∧ x * y ≤ nI 16
theorem fok_of {x y : Int32} (h : fok x y) : ∃ R C, Dm R C ∧ x = nI R ∧ y = nI C := by
  obtain ⟨a1, a2, a3, a4, a5⟩ := h
  have t1 : (nI 1).toInt = 1 := by decide
  have f : ∀ z : Int32, nI 1 ≤ z → ∃ n, 0 < n ∧ n < 2 ^ 31 ∧ z = nI n := by
    intro z hz
    have h0 : ¬ z < 0 := by
      intro q
      rw [fa_le, t1] at hz
      rw [fa_lt] at q
      have : (0 : Int32).toInt = 0 := by decide
      omega
    obtain ⟨n, hn, rfl⟩ := nI_of h0
    rw [n_le (by decide) hn] at hz
    exact ⟨n, hz, hn, rfl⟩
  obtain ⟨R, r1, r2, rfl⟩ := f x a1
  obtain ⟨C, c1, c2, rfl⟩ := f y a3
  rw [n_le r2 (by decide)] at a2
  rw [n_le c2 (by decide)] at a4
  have hRC : R * C ≤ 25 := Nat.mul_le_mul a2 a4
  rw [pk_mul, n_le (by omega) (by decide)] at a5
  exact ⟨R, C, ⟨r1, a2, c1, a4, a5⟩, rfl, rfl⟩
theorem fok_n {R C : Nat} (h : Dm R C) : fok (nI R) (nI C) := by
  obtain ⟨a, b, c, d, e⟩ := h
  exact ⟨nI_le a (by omega), nI_le b (by decide), nI_le c (by omega), nI_le d (by decide), by rw [pk_mul]; exact nI_le e (by decide)⟩
theorem WF_1 (hd : Dm R C) (hs : sp ≤ 9) : WF R C (fun _ => nI 1) 0 sp := ⟨hd, fun p _ => Or.inr ⟨1, by decide, rfl⟩, Nat.mul_pos hd.1 hd.2.2.1, by decide, hs⟩
theorem q_field (h : CS R C er bg sp pn pd j0 j1 o i0 i1 ext M) (x y : Int32) : OC (d + 5) 37 [.ref 0, .int x, .int y] (DB o i0 i1 ext) M (fun v o i0 i1 ext M' => (¬ fok x y ∧ CPo R C er bg sp pn pd j0 j1 M (-(nI 2)) v o i0 i1 ext M') ∨ ∃ R' C', Dm R' C' ∧ x = nI R' ∧ y = nI C' ∧ CPo R' C' (fun _ => nI 1) 0 sp pn pd j0 j1 M (nI (R' * C')) v o i0 i1 ext M') := by
  obtain ⟨h1, h2, h3, h4, h5, h6⟩ := h
  have h : CS R C er bg sp pn pd j0 j1 o i0 i1 ext M := ⟨h1, h2, h3, h4, h5, h6⟩
  have no : ¬ fok x y → ∃ v o' i0' i1' ext' M', ((some (Value.int (-(nI 2))), DB o i0 i1 ext, M) : ARs) = (some (.int v), DB o' i0' i1' ext', M') ∧ ((¬ fok x y ∧ CPo R C er bg sp pn pd j0 j1 M (-(nI 2)) v o' i0' i1' ext' M') ∨ ∃ R' C', Dm R' C' ∧ x = nI R' ∧ y = nI C' ∧ CPo R' C' (fun _ => nI 1) 0 sp pn pd j0 j1 M (nI (R' * C')) v o' i0' i1' ext' M') := fun hn => ⟨_, _, _, _, _, _, rfl, Or.inl ⟨hn, CPo.same h _⟩⟩
  refine b_X4_field_0 _ _ ⟨fun e => no (fun q => Int32.not_lt.mpr q.1 e), fun e1 => ⟨fun e => no (fun q => Int32.not_lt.mpr q.2.1 e), fun e2 => ⟨fun e => no (fun q => Int32.not_lt.mpr q.2.2.1 e), fun e3 => ⟨fun e4 => ⟨fun e5 => ?_, fun e => no (fun q => e q.2.2.2.2)⟩, fun e => no (fun q => e q.2.2.2.1)⟩⟩⟩⟩
  obtain ⟨R', C', hd, rfl, rfl⟩ := fok_of (x := x) (y := y) ⟨Int32.not_lt.mp e1, Int32.not_lt.mp e2, Int32.not_lt.mp e3, e4, e5⟩
  refine s_lay h1 hd h2.2.2.2.2.2.1 (fun M1 k1 k2 => s_forget (fun M2 f1 f2 f3 f4 f5 f6 => ?_))
  refine ⟨_, _, _, _, _, _, rfl, Or.inr ⟨R', C', hd, rfl, rfl, by rw [f6 2 (by decide)]; exact k1.2.2.1, CS.forg (M := M) (M' := M1) h1 h6 (fun a ha => k2 a (by omega) (by omega) (by omega) (by omega)) k1 (WF_1 hd h3.2.2.2.2) (h4.of (by rw [k2 0 (by decide) (by decide) (by decide) (by decide)]) (k2 1 (by decide) (by decide) (by decide) (by decide))) f1 f2 f3 f4 f5 f6⟩⟩
/-- the text is of stones alone -/
def ast (pd : Nat → Int32) (n : Nat) : Prop := ∀ i, i < n → pd i = nI 35
theorem s_allStones {K : Int32 → AMm → Prop} (hP : PI M pn pd) (h1 : ast pd pn → K (nI 1) M) (h0 : ¬ ast pd pn → K (nI 0) M) : CI d 63 [.ref 0] (DB o i0 i1 ext) M (DB o i0 i1 ext) K := by
  obtain ⟨p1, p2, p3⟩ := hP
  have loop : ∀ n k, pn - k = n → k ≤ pn → (∀ i, i < k → pd i = nI 35) → T d (fun r => ∃ v M', r = (some (.int v), DB o i0 i1 ext, M') ∧ K v M') (63, 2, [some (.ref 0), some (.int (nI k))], [], (DB o i0 i1 ext), M) := by
    intro n
    induction n with
    | zero =>
      intro k e hk ha
      obtain rfl : k = pn := by omega
      refine b_X4_padIsAllStones_2 _ ⟨fun _ => ⟨_, _, rfl, h1 ha⟩, fun z => ?_⟩
      rw [p1] at z; exact absurd (nI_le (Nat.le_refl _) (by omega)) z
    | succ n ih =>
      intro k e hk ha
      refine b_X4_padIsAllStones_2 _ ⟨fun z => ?_, fun _ => ⟨n_in (by omega) (by decide), ?_⟩⟩
      · rw [p1, n_le (by omega) (by omega)] at z; omega
      · rw [n_cl (by omega), p3 k (by omega), nI_add]
        refine ⟨fun z => ih (k + 1) (by omega) (by omega) (fun i hi => ?_), fun z => ⟨_, _, rfl, h0 (fun q => z (q k (by omega)))⟩⟩
        by_cases hik : i = k
        · rw [hik]; exact z
        · exact ha i (by omega)
  exact b_X4_padIsAllStones_0 (loop pn 0 (by omega) (by omega) (fun i hi => absurd hi (Nat.not_lt_zero i)))
/-- a text without a fault -/
theorem ff_ok {P : Nat} : ∀ (n i : Nat), ff P pd n i = none → i ≤ P → i + n = P ∧ ∀ j, i ≤ j → j < i + n → gs (pd j)
  | 0, i, h, hi => by
    unfold ff at h
    split at h
    · cases h
    · exact ⟨by omega, fun j h1 h2 => by omega⟩
  | n + 1, i, h, hi => by
    unfold ff at h
    split at h
    · cases h
    · rename_i hz
      have hz1 : ¬ P ≤ i := fun q => hz (Or.inl q)
      have hz2 : gs (pd i) := Classical.byContradiction fun q => hz (Or.inr q)
      obtain ⟨a, b⟩ := ff_ok n (i + 1) h (by omega)
      refine ⟨by omega, fun j h1 h2 => ?_⟩
      by_cases hj : j = i
      · rw [hj]; exact hz2
      · exact b j (by omega) (by omega)
theorem gs_e {x : Int32} (h : gs x) : x = nI 35 ∨ ∃ e, e ≤ 9 ∧ x = nI (48 + e) := by
  rcases h with h | ⟨h1, h2⟩
  · exact Or.inl h
  · right
    have h0 : ¬ x < 0 := by
      intro q
      rw [fa_le] at h1
      rw [fa_lt] at q
      have e1 : (0 : Int32).toInt = 0 := by decide
      have e2 : (nI 48).toInt = 48 := by decide
      omega
    obtain ⟨n, hn, rfl⟩ := nI_of h0
    rw [n_le (by decide) hn] at h1
    rw [n_le hn (by decide)] at h2
    exact ⟨n - 48, by omega, by congr 1; omega⟩
theorem fo_ok {P : Nat} : ∀ (n k : Nat), k + n = P → (∃ p, k ≤ p ∧ p < P ∧ er p ≠ -(nI 1)) → fo er P n k < P ∧ er (fo er P n k) ≠ -(nI 1) ∧ k ≤ fo er P n k ∧ ∀ j, k ≤ j → j < fo er P n k → er j = -(nI 1)
  | 0, k, h, ⟨p, h1, h2, _⟩ => by omega
  | n + 1, k, h, ⟨p, h1, h2, h3⟩ => by
    unfold fo
    split
    · rename_i hz
      exact ⟨by omega, ((opn_t er P k).mp hz).2, Nat.le_refl _, fun j a b => by omega⟩
    · rename_i hz
      have hk : er k = -(nI 1) := Classical.byContradiction fun q => hz ((opn_t er P k).mpr ⟨by omega, q⟩)
      obtain ⟨a, b, c, e⟩ := fo_ok n (k + 1) (by omega) ⟨p, by
        rcases Nat.lt_or_ge k p with z | z
        · omega
        · obtain rfl : p = k := by omega
          exact absurd hk h3, h2, h3⟩
      refine ⟨a, b, by omega, fun j z1 z2 => ?_⟩
      by_cases hj : j = k
      · rw [hj]; exact hk
      · exact e j (by omega) z2
theorem sw_ok {P : Nat} (hs : swk pd P) {p : Nat} (hp : p < P) : sw pd p = -(nI 1) ∨ ∃ e, e ≤ 9 ∧ sw pd p = nI e := by
  unfold sw
  rcases hs p hp with h | ⟨e, he, h⟩
  · rw [if_pos h]; exact Or.inl rfl
  · right
    refine ⟨e, he, ?_⟩
    rw [if_neg (by rw [h, n_eq (by omega) (by decide)]; omega), h, pk_sub (by omega)]
    congr 1; omega
theorem fo_cong {er' : Nat → Int32} {P : Nat} (he : ∀ p, p < P → er p = er' p) : ∀ n k, fo er P n k = fo er' P n k
  | 0, _ => rfl
  | n + 1, k => by unfold fo; rw [opn_cong he, fo_cong he n]
theorem q_sow (h : CS R C er bg sp pn pd j0 j1 o i0 i1 ext M) : OC (d + 5) 41 [.ref 0] (DB o i0 i1 ext) M (fun v o i0 i1 ext M' => if ff (R * C) pd pn 0 ≠ none then CPo R C er bg sp pn pd j0 j1 M (-(nI 5)) v o i0 i1 ext M' else (ast pd (R * C) ∧ CPo R C er bg sp pn pd j0 j1 M (-(nI 3)) v o i0 i1 ext M') ∨ (¬ ast pd (R * C) ∧ pn = R * C ∧ swk pd (R * C) ∧ CPo R C (sw pd) (fo (sw pd) (R * C) (R * C) 0) sp 0 pd j0 j1 M (nI (pc (opn (sw pd) (R * C)))) v o i0 i1 ext M')) := by
  obtain ⟨h1, h2, h3, h4, h5, h6⟩ := h
  have h : CS R C er bg sp pn pd j0 j1 o i0 i1 ext M := ⟨h1, h2, h3, h4, h5, h6⟩
  have hl := h3.1.le
  obtain ⟨p1, p2, p3⟩ := h4
  refine b_X4_sow_0 (s_fieldFault ⟨p1, p2, p3⟩ h2.2.2.1 hl ?_)
  cases hf : ff (R * C) pd pn 0 with
  | some i =>
    refine ⟨fun z => ?_, fun z => ⟨_, _, _, _, _, _, rfl, by dsimp only; rw [if_pos (by simp)]; exact CPo.same h _⟩⟩
    exfalso
    have : ∀ n j, ff (R * C) pd n j = some i → i ≤ j + n := by
      intro n
      induction n with
      | zero =>
        intro j hj
        unfold ff at hj
        split at hj
        · cases hj; omega
        · cases hj
      | succ n ih =>
        intro j hj
        unfold ff at hj
        split at hj
        · cases hj; omega
        · have := ih (j + 1) hj; omega
    have := this pn 0 hf
    have z : nI i = -(nI 6) := z
    have h2 := nI_pos (n := i) (by omega)
    rw [z] at h2
    exact h2 (neg_lt (by decide) (by decide))
  | none =>
    obtain ⟨a1, a2⟩ := ff_ok pn 0 hf (Nat.zero_le _)
    have hpn : pn = R * C := by omega
    have hs : swk pd (R * C) := fun p hp => gs_e (a2 p (Nat.zero_le _) (by omega))
    have hs1 : swk (M 1) (R * C) := fun p hp => by rw [p3 p (by omega)]; exact hs p hp
    refine ⟨fun _ => s_allStones ⟨p1, p2, p3⟩ (fun e => ⟨fun z => absurd z (by decide), fun _ => ⟨_, _, _, _, _, _, rfl, ?_⟩⟩) (fun e => ⟨fun _ => ?_, fun z => absurd rfl z⟩), fun z => absurd rfl z⟩
    · dsimp only
      rw [if_neg (by simp)]
      exact Or.inl ⟨by rw [← hpn]; exact e, CPo.same h _⟩
    · refine s_sowFrom h2 h3.1 hs1 (fun M1 k1 k2 => s_forget (fun M2 f1 f2 f3 f4 f5 f6 => ?_))
      have hcg : ∀ p, p < R * C → sw (M 1) p = sw pd p := fun p hp => by unfold sw; rw [p3 p (by omega)]
      have k1 := FI.cong k1 hcg
      rw [fo_cong hcg] at k1
      rw [f6 2 (by decide), ms_a (by decide), k1.2.2.2.1]
      refine s_bc (opn_lt hl) ⟨_, _, _, _, _, _, rfl, ?_⟩
      dsimp only
      rw [if_neg (by simp)]
      have e : ¬ ast pd (R * C) := by rw [← hpn]; exact e
      refine Or.inr ⟨e, hpn, hs, rfl, ?_⟩
      obtain ⟨w1, w2, -, -⟩ := fo_ok (er := sw pd) (P := R * C) (R * C) 0 (by omega) (Classical.byContradiction fun q => e (fun i hi => Classical.byContradiction fun q2 => q ⟨i, Nat.zero_le _, hi, fun q3 => q2 ((sw_stone hs hi).mp q3)⟩))
      exact CS.forg (M := M) (M' := ms M1 0 1 (nI 0)) h1 h6 (fun a ha => by rw [← k2 a (by omega) (by omega)]; funext y; exact ms_a (by omega)) (k1.of (by funext y; exact ms_a (by decide)) (by funext y; exact ms_a (by decide)) (by funext y; exact ms_a (by decide)) (by funext y; exact ms_a (by decide))) ⟨h3.1, fun p hp => sw_ok hs hp, w1, w2, h3.2.2.2.2⟩ ⟨ms_s _ _ _ _, by omega, fun i hi => absurd hi (Nat.not_lt_zero i)⟩ f1 f2 f3 f4 f5 f6
end P4
