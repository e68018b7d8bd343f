-- THE CLASS: the pad
/-- the step that a sign tells -/
def ds (x : Int32) : Option Nat := if x = nI 110 then some 0 else if x = nI 101 then some 1 else if x = nI 115 then some 2 else if x = nI 119 then some 3 else none
theorem ds_lt {x : Int32} {k : Nat} (h : ds x = some k) : k < 4 := by
  unfold ds at h
  split at h
  · cases h; decide
  split at h
  · cases h; decide
  split at h
  · cases h; decide
  split at h
  · cases h; decide
  · cases h
/-- a sign of a field -/
abbrev gs (x : Int32) : Prop := x = nI 35 ∨ (nI 48 ≤ x ∧ x ≤ nI 57)
/-- the fault of a text as a field: from the i-th sign on, n signs more -/
def ff (P : Nat) (pd : Nat → Int32) : Nat → Nat → Option Nat
  | 0, i => if i < P then some i else none
  | n + 1, i => if P ≤ i ∨ ¬ gs (pd i) then some i else ff P pd n (i + 1)
/-- the fault of a text as a way -/
def wft (pd : Nat → Int32) : Nat → Nat → Option Nat
  | 0, _ => none
  | n + 1, i => if ds (pd i) = none then some i else wft pd n (i + 1)
/-- along the way: what is free, the end, steps, what is brought, why it can not go on (0: it can) -/
def gw (R C : Nat) (er : Nat → Int32) (sp : Nat) (pd : Nat → Int32) : Nat → Nat → Nat → Nat → Nat → Nat → Nat × Nat × Nat × Nat × Nat
  | 0, _, F, p, t, b => (F, p, t, b, 0)
  | n + 1, i, F, p, t, b => match nb R C p ((ds (pd i)).getD 0) with
    | none => (F, p, t, b, 1)
    | some q => if F.testBit q then gw R C er sp pd n (i + 1) (cb F q) q (t + 1) (b + br er sp q (t + 1)) else (F, p, t, b, if (opn er (R * C)).testBit q then 3 else 2)
theorem ff_bad {P n i : Nat} {pd : Nat → Int32} (h : P ≤ i ∨ ¬ gs (pd i)) : ff P pd (n + 1) i = some i := by unfold ff; rw [if_pos h]
theorem ff_good {P n i : Nat} {pd : Nat → Int32} (h : ¬ P ≤ i) (h2 : gs (pd i)) : ff P pd (n + 1) i = ff P pd n (i + 1) := by
  show (if P ≤ i ∨ ¬ gs (pd i) then some i else ff P pd n (i + 1)) = _
  rw [if_neg (by rintro (z | z); exact h z; exact z h2)]
theorem gw_1 {R C sp n i F p t b k : Nat} {er pd : Nat → Int32} (hk : ds (pd i) = some k) (h : nb R C p k = none) : gw R C er sp pd (n + 1) i F p t b = (F, p, t, b, 1) := by
  unfold gw
  rw [hk]
  dsimp only [Option.getD_some]
  rw [h]
theorem gw_2 {R C sp n i F p t b k q : Nat} {er pd : Nat → Int32} (hk : ds (pd i) = some k) (h : nb R C p k = some q) (hF : F.testBit q = false) : gw R C er sp pd (n + 1) i F p t b = (F, p, t, b, if (opn er (R * C)).testBit q then 3 else 2) := by
  unfold gw
  rw [hk]
  dsimp only [Option.getD_some]
  rw [h]
  dsimp only
  rw [hF]
  rfl
theorem gw_3 {R C sp n i F p t b k q : Nat} {er pd : Nat → Int32} (hk : ds (pd i) = some k) (h : nb R C p k = some q) (hF : F.testBit q = true) : gw R C er sp pd (n + 1) i F p t b = gw R C er sp pd n (i + 1) (cb F q) q (t + 1) (b + br er sp q (t + 1)) := by
  conv => lhs; unfold gw
  rw [hk]
  dsimp only [Option.getD_some]
  rw [h]
  dsimp only
  rw [hF]
  rfl
/-- the pad in the memory -/
def PI (M : AMm) (pn : Nat) (pd : Nat → Int32) : Prop := M 0 1 = nI pn ∧ pn ≤ 40 ∧ ∀ i, i < pn → M 1 i = pd i
section CA
variable {d : Nat} {o i0 i1 : Option Nat} {ext : ADd} {M : AMm} {R C bg sp pn : Nat} {er pd : Nat → Int32}
theorem s_ss {K : Int32 → AMm → Prop} (hr : RO M) {x : Int32} (h1 : K (en (ds x)) M) : CI d 65 [.int x] (DB o i0 i1 ext) M (DB o i0 i1 ext) K := by
  have st : ∀ k, k < 4 → (x = sgn k → K (nI k) M) → (¬ x = sgn k → T d (fun r => ∃ v M', r = (some (.int v), DB o i0 i1 ext, M') ∧ K v M') (65, 2, [some (.int x), some (.int (nI (k + 1)))], [], (DB o i0 i1 ext), M)) → T d (fun r => ∃ v M', r = (some (.int v), DB o i0 i1 ext, M') ∧ K v M') (65, 2, [some (.int x), some (.int (nI k))], [], (DB o i0 i1 ext), M) := by
    intro k hk ha hb
    refine b_X4_stepOfSign_2 _ _ ⟨fun h => ?_, fun _ => ⟨n_in hk (by decide), ?_⟩⟩
    · rw [n_le (by decide) (by omega)] at h; omega
    · rw [n_cl (by omega), (hr k hk).1, nI_add]
      exact ⟨fun h => ⟨_, _, rfl, ha h.symm⟩, fun h => hb (fun q => h q.symm)⟩
  refine b_X4_stepOfSign_0 _ ?_
  unfold ds at h1
  refine st 0 (by decide) (fun h => by rw [if_pos (show x = nI 110 from h)] at h1; exact h1) (fun n0 => ?_)
  rw [if_neg (show ¬ x = nI 110 from n0)] at h1
  refine st 1 (by decide) (fun h => by rw [if_pos (show x = nI 101 from h)] at h1; exact h1) (fun n1 => ?_)
  rw [if_neg (show ¬ x = nI 101 from n1)] at h1
  refine st 2 (by decide) (fun h => by rw [if_pos (show x = nI 115 from h)] at h1; exact h1) (fun n2 => ?_)
  rw [if_neg (show ¬ x = nI 115 from n2)] at h1
  refine st 3 (by decide) (fun h => by rw [if_pos (show x = nI 119 from h)] at h1; exact h1) (fun n3 => ?_)
  rw [if_neg (show ¬ x = nI 119 from n3)] at h1
  exact b_X4_stepOfSign_2 _ _ ⟨fun _ => ⟨_, _, rfl, h1⟩, fun h => absurd (nI_le (Nat.le_refl _) (by decide)) h⟩
theorem s_wayFault {K : Int32 → AMm → Prop} (hr : RO M) (hP : PI M pn pd) (h1 : K (en6 (wft pd pn 0)) M) : CI (d + 1) 62 [.ref 0] (DB o i0 i1 ext) M (DB o i0 i1 ext) K := by
  obtain ⟨p1, p2, p3⟩ := hP
  have loop : ∀ n i, pn - i = n → i ≤ pn → K (en6 (wft pd n i)) M → T (d + 1) (fun r => ∃ v M', r = (some (.int v), DB o i0 i1 ext, M') ∧ K v M') (62, 2, [some (.ref 0), some (.int (nI i))], [], (DB o i0 i1 ext), M) := by
    intro n
    induction n with
    | zero =>
      intro i h0 hi h1
      refine b_X4_wayFault_2 _ ⟨fun _ => ⟨_, _, rfl, h1⟩, fun h => ?_⟩
      rw [p1, n_le (by omega) (by omega)] at h; omega
    | succ n ih =>
      intro i h0 hi h1
      refine b_X4_wayFault_2 _ ⟨fun h => ?_, fun _ => ⟨n_in (by omega) (by decide), ?_⟩⟩
      · rw [p1, n_le (by omega) (by omega)] at h; omega
      · rw [n_cl (by omega), p3 i (by omega), nI_add]
        refine s_ss hr ?_
        cases hq : ds (pd i) with
        | none =>
          refine ⟨fun h => ?_, fun _ => ⟨_, _, rfl, ?_⟩⟩
          · exfalso
            have := neg_lt (k := 1) (by decide) (by decide)
            exact Int32.not_lt.mpr h this
          · rw [show wft pd (n + 1) i = some i from by show (if _ then _ else _) = _; rw [if_pos hq]] at h1; exact h1
        | some k =>
          have := ds_lt hq
          refine ⟨fun _ => ih (i + 1) (by omega) (by omega) ?_, fun h => absurd (nI_pos' (by omega)) h⟩
          rw [show wft pd (n + 1) i = wft pd n (i + 1) from by show (if _ then _ else _) = _; rw [if_neg (by rw [hq]; simp)]] at h1; exact h1
  exact b_X4_wayFault_0 (loop pn 0 (by omega) (by omega) h1)
theorem s_fieldFault {K : Int32 → AMm → Prop} {P : Nat} (hP : PI M pn pd) (hp : M 2 2 = nI P) (hP16 : P ≤ 16) (h1 : K (en6 (ff P pd pn 0)) M) : CI d 61 [.ref 0] (DB o i0 i1 ext) M (DB o i0 i1 ext) K := by
  obtain ⟨p1, p2, p3⟩ := hP
  have loop : ∀ n i, pn - i = n → i ≤ pn → K (en6 (ff P pd n i)) M → T d (fun r => ∃ v M', r = (some (.int v), DB o i0 i1 ext, M') ∧ K v M') (61, 2, [some (.ref 0), some (.int (nI i)), none], [], (DB o i0 i1 ext), M) := by
    intro n
    induction n with
    | zero =>
      intro i h0 hi hkk
      obtain rfl : i = pn := by omega
      refine b_X4_fieldFault_2 _ ⟨fun _ => ?_, fun h => ?_⟩
      · rw [hp, p1, n_le (by omega) (by omega)]
        refine ⟨fun h => ⟨_, _, rfl, ?_⟩, fun h => ⟨_, _, rfl, ?_⟩⟩
        · rw [show ff P pd 0 i = none from by show (if _ then _ else _) = _; rw [if_neg (by omega)]] at hkk; exact hkk
        · rw [show ff P pd 0 i = some i from by show (if _ then _ else _) = _; rw [if_pos (by omega)]] at hkk; exact hkk
      · rw [p1] at h; exact absurd (nI_le (Nat.le_refl _) (by omega)) h
    | succ n ih =>
      intro i h0 hi hkk
      have i40 : vp_in (nI i) 40 := n_in (by omega) (by decide)
      have bad : (P ≤ i ∨ ¬ gs (pd i)) → ∃ v M', (some (.int (nI i)), DB o i0 i1 ext, M) = (some (Value.int v), DB o i0 i1 ext, M') ∧ K v M' := by
        intro hb
        refine ⟨_, _, rfl, ?_⟩
        rw [ff_bad hb] at hkk; exact hkk
      have good : ¬ P ≤ i → gs (pd i) → T d (fun r => ∃ v M', r = (some (.int v), DB o i0 i1 ext, M') ∧ K v M') (61, 2, [some (.ref 0), some (.int (nI (i + 1))), none], [], (DB o i0 i1 ext), M) := by
        intro g1 g2
        refine ih (i + 1) (by omega) (by omega) ?_
        rw [ff_good g1 g2] at hkk; exact hkk
      refine b_X4_fieldFault_2 _ ⟨fun h => ?_, fun _ => ⟨i40, ?_⟩⟩
      · rw [p1, n_le (by omega) (by omega)] at h; omega
      · rw [n_cl (by omega), p3 i (by omega), nI_add, hp, n_le (by omega) (by omega)]
        refine ⟨fun h => ⟨fun h2 => bad (Or.inl h2), fun h2 => good h2 (Or.inl h)⟩, fun h => ⟨i40, fun h3 => ?_, fun h3 => ⟨i40, fun h4 => ?_, fun h4 => ⟨fun h2 => bad (Or.inl h2), fun h2 => good h2 (Or.inr ⟨Int32.not_lt.mp h3, Int32.not_lt.mp h4⟩)⟩⟩⟩⟩
        · have : ¬ gs (pd i) := by
            rintro (z | z)
            · exact h z
            · exact Int32.not_lt.mpr z.1 h3
          exact ⟨fun h2 => bad (Or.inl h2), fun _ => bad (Or.inr this)⟩
        · have : ¬ gs (pd i) := by
            rintro (z | z)
            · exact h z
            · exact Int32.not_lt.mpr z.2 h4
          exact ⟨fun h2 => bad (Or.inl h2), fun _ => bad (Or.inr this)⟩
  exact b_X4_fieldFault_0 (loop pn 0 (by omega) (by omega) h1)
theorem PI.of {M M' : AMm} (h : PI M pn pd) (h0 : M' 0 1 = M 0 1) (h1 : M' 1 = M 1) : PI M' pn pd := by
  unfold PI
  rw [h0, h1]
  exact h
/-- a way can be followed: from the beginning -/
def gw0 (R C : Nat) (er : Nat → Int32) (bg sp pn : Nat) (pd : Nat → Int32) : Nat × Nat × Nat × Nat × Nat := gw R C er sp pd pn 0 (cb (opn er (R * C)) bg) bg 0 (br er sp bg 0)
theorem wft_none {pd : Nat → Int32} : ∀ (n i : Nat), wft pd n i = none → ∀ j, i ≤ j → j < i + n → ∃ k, ds (pd j) = some k
  | 0, i, _, j, h1, h2 => by omega
  | n + 1, i, h, j, h1, h2 => by
    unfold wft at h
    split at h
    · cases h
    · rename_i hq
      by_cases hj : j = i
      · subst hj; exact Option.ne_none_iff_exists'.mp hq
      · exact wft_none n (i + 1) h j (by omega) (by omega)
theorem s_follow {K : Int32 → AMm → Prop} (hr : RO M) (hF : FI M R C er bg sp) (hw : WF R C er bg sp) (hP : PI M pn pd)
    (h1 : wft pd pn 0 ≠ none → K (-(nI 5)) M)
    (h2 : wft pd pn 0 = none → ∀ F p t b w M', gw0 R C er bg sp pn pd = (F, p, t, b, w) → WKI M' F p t b → p < R * C → F < 65536 → t ≤ pn → M' 7 4 = (if w = 0 then -(nI 6) else nI w) → (∀ a, a ≠ 7 → M' a = M a) → K (if w = 0 then nI 0 else -(nI 3)) M') : CI (d + 3) 64 [.ref 0] (DB o i0 i1 ext) M (DB o i0 i1 ext) K := by
  have hl := hw.1.le
  refine b_X4_followPad_0 (s_wayFault hr hP ?_)
  cases hq : wft pd pn 0 with
  | some i =>
    have h1 := h1 (by rw [hq]; simp)
    refine ⟨fun h => ?_, fun _ => ⟨_, _, rfl, h1⟩⟩
    exfalso
    have : i < pn := by
      have : ∀ n j, wft pd n j = some i → i < j + n := by
        intro n
        induction n with
        | zero => intro j h; cases h
        | succ n ih =>
          intro j h
          unfold wft at h
          split at h
          · cases h; omega
          · have := ih (j + 1) h; omega
      have := this pn 0 hq
      omega
    have h : nI i = -(nI 6) := h
    have hpn := hP.2.1
    have := nI_pos (n := i) (by omega)
    rw [h] at this
    exact this (neg_lt (by decide) (by decide))
  | none =>
    have h2 := h2 hq
    have hds := wft_none pn 0 hq
    obtain ⟨p1, p2, p3⟩ := hP
    refine ⟨fun _ => s_beginOn hF hw (fun M1 k1 k2 k3 => ?_), fun h => absurd rfl h⟩
    have loop : ∀ n i F p b (M1 : AMm), pn - i = n → i ≤ pn → WKI M1 F p i b → p < R * C → F < 65536 → M1 7 4 = -(nI 6) → (∀ a, a ≠ 7 → M1 a = M a) → gw0 R C er bg sp pn pd = gw R C er sp pd n i F p i b → T (d + 3) (fun r => ∃ v M', r = (some (.int v), DB o i0 i1 ext, M') ∧ K v M') (64, 13, [some (.ref 0), some (.int (nI i))], [], (DB o i0 i1 ext), M1) := by
      intro n
      induction n with
      | zero =>
        intro i F p b M1 h0 hi a1 a2 a3 a4 a5 a6
        refine b_X4_followPad_13 _ ⟨fun _ => ⟨_, _, rfl, ?_⟩, fun h => ?_⟩
        · exact h2 F p i b 0 M1 a6 a1 a2 a3 hi a4 a5
        · rw [a5 0 (by decide), p1, n_le (by omega) (by omega)] at h; omega
      | succ n ih =>
        intro i F p b M1 h0 hi a1 a2 a3 a4 a5 a6
        refine b_X4_followPad_13 _ ⟨fun h => ?_, fun _ => ⟨n_in (by omega) (by decide), ?_⟩⟩
        · rw [a5 0 (by decide), p1, n_le (by omega) (by omega)] at h; omega
        · rw [n_cl (by omega), a5 1 (by decide), p3 i (by omega), nI_add]
          refine s_ss (hr.of (fun a ha => a5 a (by omega))) ?_
          obtain ⟨k, hk⟩ := hds i (by omega) (by omega)
          have hk4 := ds_lt hk
          rw [hk]
          refine s_go (hF.f7 a5) hw a1 a2 a3 (by omega) hk4 (fun hn M2 b1 b2 b3 => ?_) (fun q hn hz M2 b1 b2 b3 => ?_) (fun q hn hz M2 b1 b2 b3 => ?_)
          · refine ⟨fun _ => ⟨_, _, rfl, ?_⟩, fun h => absurd rfl h⟩
            exact h2 F p i b 1 M2 (by rw [a6, gw_1 hk hn]) b1 a2 a3 hi b2 (fun a ha => (b3 a ha).trans (a5 a ha))
          · refine ⟨fun _ => ⟨_, _, rfl, ?_⟩, fun h => absurd rfl h⟩
            have e1 := gw_2 (sp := sp) (n := n) (t := i) (b := b) (er := er) hk hn hz
            cases ho : (opn er (R * C)).testBit q with
            | true =>
              rw [ho] at e1 b2
              exact h2 F p i b 3 M2 (by rw [a6, e1]; rfl) b1 a2 a3 hi b2 (fun a ha => (b3 a ha).trans (a5 a ha))
            | false =>
              rw [ho] at e1 b2
              exact h2 F p i b 2 M2 (by rw [a6, e1]; rfl) b1 a2 a3 hi b2 (fun a ha => (b3 a ha).trans (a5 a ha))
          · refine ⟨fun h => absurd h (by decide), fun _ => ?_⟩
            refine ih (i + 1) _ q _ M2 (by omega) (by omega) b1 (nb_ok hw.1 a2 hk4 hn).1 (cb_lt a3) (by rw [b2]; exact a4) (fun a ha => (b3 a ha).trans (a5 a ha)) ?_
            rw [a6, gw_3 hk hn hz]
    exact loop pn 0 _ _ _ M1 (by omega) (by omega) k1 hw.2.2.1 (cb_lt (opn_lt hl)) k2 k3 rfl
end CA
