-- THE MODEL: images
/-- where the i-th of what is kept stands -/
def sl (i : Nat) : Nat := if i = 0 then 0 else if i = 1 then 1 else if i = 2 then 3 else 4
/-- what the i-th becomes -/
def kv (M : AMm) (w : Bool) (t i : Nat) : Int32 := pv w (if i < 4 then M 20 (sl i) else M 21 (i - 4)) (M 27 (t + i))
/-- k of them are passed -/
def PSt (M N : AMm) (w : Bool) (t k : Nat) : Prop := (∀ i, i < k → N 27 (t + i) = kv M w t i) ∧ (∀ b, (b < t ∨ t + k ≤ b) → N 27 b = M 27 b) ∧ N 20 19 = nI (t + k) ∧ (∀ i, i < 4 → N 20 (sl i) = if i < k then kv M w t i else M 20 (sl i)) ∧ (∀ b, b ≠ 0 → b ≠ 1 → b ≠ 3 → b ≠ 4 → b ≠ 19 → N 20 b = M 20 b) ∧ (∀ p, N 21 p = if p + 4 < k then kv M w t (p + 4) else M 21 p) ∧ ∀ a, a ≠ 20 → a ≠ 21 → a ≠ 27 → N a = M a
section Z2
variable {d : Nat} {o i0 i1 : Option Nat} {ext : ADd} {M N : AMm} {R C bg sp pn : Nat} {er pd : Nat → Int32} {j0 j1 : Option Fld} {K : Int32 → AMm → Prop} {w : Bool} {t : Nat}
theorem sl_ne {i : Nat} (hi : i < 4) : sl i ≠ 19 ∧ sl i ≠ 20 ∧ (sl i = 0 ∨ sl i = 1 ∨ sl i = 3 ∨ sl i = 4) := by
  rcases (show i = 0 ∨ i = 1 ∨ i = 2 ∨ i = 3 by omega) with rfl | rfl | rfl | rfl <;> decide
theorem sl_inj {i j : Nat} (hi : i < 4) (hj : j < 4) (e : sl i = sl j) : i = j := by
  rcases (show i = 0 ∨ i = 1 ∨ i = 2 ∨ i = 3 by omega) with rfl | rfl | rfl | rfl <;> rcases (show j = 0 ∨ j = 1 ∨ j = 2 ∨ j = 3 by omega) with rfl | rfl | rfl | rfl <;> first | rfl | (exact absurd e (by decide))
theorem m_ps4 (hw : M 20 20 = nI (if w then 1 else 0)) {k : Nat} (hk : k < 4) (hP : PSt M N w t k) (ht : t ≤ 30) {x : Int32} (hx : x = M 20 (sl k)) (h : ∀ N', PSt M (ms N' 20 (sl k) (kv M w t k)) w t (k + 1) → (∀ b, b ≠ 19 → N' 20 b = N 20 b) → K (kv M w t k) N') : CI d 123 [.ref 20, .int x] (DB o i0 i1 ext) N (DB o i0 i1 ext) K := by
  obtain ⟨a1, a2, a3, a4, a5, a6, a7⟩ := hP
  subst hx
  obtain ⟨s1, s2, s3⟩ := sl_ne hk
  have e27 : N 27 (t + k) = M 27 (t + k) := a2 _ (Or.inr (Nat.le_refl _))
  have ekv : pv w (M 20 (sl k)) (N 27 (t + k)) = kv M w t k := by unfold kv; rw [if_pos hk, e27]
  refine m_pass (t := t + k) (by rw [a5 20 (by decide) (by decide) (by decide) (by decide) (by decide)]; exact hw) a3 (by omega) (fun N' b1 b2 b3 b4 b5 => ?_)
  rw [ekv] at b1 ⊢
  refine h N' ⟨fun i hi => ?_, fun b hb => ?_, ?_, fun i hi => ?_, fun b z0 z1 z3 z4 z19 => ?_, fun p => ?_, fun a z1 z2 z3 => ?_⟩ b4
  · rw [ms_a (by decide)]
    by_cases e : i = k
    · subst e; exact b1
    · rw [b2 _ (by omega)]; exact a1 i (by omega)
  · rw [ms_a (by decide), b2 b (by omega)]; exact a2 b (by omega)
  · rw [ms_b (fun q => s1 q.symm), b3, Nat.add_assoc]
  · by_cases e : i = k
    · subst e; rw [ms_s, if_pos (by omega)]
    · rw [ms_b (fun q => e (sl_inj hi hk q)), b4 _ (sl_ne hi).1, a4 i hi]
      by_cases e2 : i < k
      · rw [if_pos e2, if_pos (by omega)]
      · rw [if_neg e2, if_neg (by omega)]
  · rw [ms_b (by omega), b4 b z19]; exact a5 b z0 z1 z3 z4 z19
  · rw [ms_a (by decide), b5 21 (by decide) (by decide), a6 p, if_neg (by omega), if_neg (by omega)]
  · rw [← a7 a z1 z2 z3, ← b5 a z1 z3]; funext y; exact ms_a z1
theorem m_ps21 (hw : M 20 20 = nI (if w then 1 else 0)) {p : Nat} (hp : p < 16) (hP : PSt M N w t (p + 4)) (ht : t ≤ 30) {x : Int32} (hx : x = M 21 p) (h : ∀ N', PSt M (ms N' 21 p (kv M w t (p + 4))) w t (p + 5) → K (kv M w t (p + 4)) N') : CI d 123 [.ref 20, .int x] (DB o i0 i1 ext) N (DB o i0 i1 ext) K := by
  obtain ⟨a1, a2, a3, a4, a5, a6, a7⟩ := hP
  subst hx
  have e27 : N 27 (t + (p + 4)) = M 27 (t + (p + 4)) := a2 _ (Or.inr (Nat.le_refl _))
  have ekv : pv w (M 21 p) (N 27 (t + (p + 4))) = kv M w t (p + 4) := by unfold kv; rw [if_neg (by omega), e27, Nat.add_sub_cancel]
  refine m_pass (t := t + (p + 4)) (by rw [a5 20 (by decide) (by decide) (by decide) (by decide) (by decide)]; exact hw) a3 (by omega) (fun N' b1 b2 b3 b4 b5 => ?_)
  rw [ekv] at b1 ⊢
  refine h N' ⟨fun i hi => ?_, fun b hb => ?_, ?_, fun i hi => ?_, fun b z0 z1 z3 z4 z19 => ?_, fun q => ?_, fun a z1 z2 z3 => ?_⟩
  · rw [ms_a (by decide)]
    by_cases e : i = p + 4
    · subst e; exact b1
    · rw [b2 _ (by omega)]; exact a1 i (by omega)
  · rw [ms_a (by decide), b2 b (by omega)]; exact a2 b (by omega)
  · rw [ms_a (by decide), b3]; rfl
  · rw [ms_a (by decide), b4 _ (sl_ne hi).1, a4 i hi, if_pos (by omega), if_pos (by omega)]
  · rw [ms_a (by decide), b4 b z19]; exact a5 b z0 z1 z3 z4 z19
  · by_cases e : q = p
    · subst e; rw [ms_s, if_pos (by omega)]
    · rw [ms_b e, b5 21 (by decide) (by decide), a6 q]
      by_cases e2 : q + 4 < p + 4
      · rw [if_pos e2, if_pos (by omega)]
      · rw [if_neg e2, if_neg (by omega)]
  · rw [← a7 a z1 z2 z3, ← b5 a z1 z3]; funext y; exact ms_a z2
theorem m_passAll {K : AMm → Prop} (hw : M 20 20 = nI (if w then 1 else 0)) (ht : M 20 19 = nI t) (ht2 : t ≤ 30) (h : ∀ N, PSt M N w t 20 → K N) : CV (d + 1) 124 [.ref 20] (DB o i0 i1 ext) M (DB o i0 i1 ext) K := by
  have P0 : PSt M M w t 0 := ⟨fun i hi => absurd hi (Nat.not_lt_zero i), fun _ _ => rfl, ht, fun i _ => by rw [if_neg (Nat.not_lt_zero i)], fun _ _ _ _ _ _ => rfl, fun p => by rw [if_neg (Nat.not_lt_zero _)], fun _ _ _ _ => rfl⟩
  have loop : ∀ n k (N : AMm), 16 - k = n → k ≤ 16 → PSt M N w t (k + 4) → T (d + 1) (fun r => ∃ M', r = (none, DB o i0 i1 ext, M') ∧ K M') (124, 26, [some (.ref 20), some (.int (nI k))], [], (DB o i0 i1 ext), N) := by
    intro n
    induction n with
    | zero =>
      intro k N h0 hk hP
      obtain rfl : k = 16 := by omega
      exact b_X5_passAll_26 _ ⟨fun _ => ⟨_, rfl, h N hP⟩, fun z => absurd (nI_le (Nat.le_refl _) (by decide)) z⟩
    | succ n ih =>
      intro k N h0 hk hP
      refine b_X5_passAll_26 _ ⟨fun z => ?_, fun _ => ⟨n_in (by omega) (by decide), ?_⟩⟩
      · rw [n_le (by decide) (by omega)] at z; omega
      · rw [n_cl (by omega), nI_add]
        refine m_ps21 hw (by omega) hP ht2 ?_ (fun N' hP' => ⟨n_in (by omega) (by decide), ih (k + 1) _ (by omega) (by omega) hP'⟩)
        rw [hP.2.2.2.2.2.1 k, if_neg (by omega)]
  refine b_X5_passAll_0 (m_ps4 (k := 0) hw (by decide) P0 ht2 rfl (fun N1 h1 g1 => m_ps4 (k := 1) hw (by decide) h1 ht2 (by rw [g1 1 (by decide)]; rfl) (fun N2 h2 g2 => m_ps4 (k := 2) hw (by decide) h2 ht2 ?_ (fun N3 h3 g3 => m_ps4 (k := 3) hw (by decide) h3 ht2 ?_ (fun N4 h4 g4 => loop 16 0 _ rfl (by decide) h4)))))
  · have := h1.2.2.2.1 2 (by decide)
    rw [if_neg (by decide)] at this
    rw [g2 3 (by decide)]
    exact this
  · have := h2.2.2.2.1 3 (by decide)
    rw [if_neg (by decide)] at this
    rw [g3 4 (by decide)]
    exact this
theorem k_image (hS : MS R C er bg sp pn pd j0 j1 M) (hw : WF R C er bg sp) (hj0 : ∀ f, j0 = some f → WFl f) (hj1 : ∀ f, j1 = some f → WFl f) (x : Int32) (h0 : (x < 0 ∨ nI 1 < x) → K (-(nI 2)) M) (h1 : x = nI 0 → ∀ M', FO M M' → MS R C er bg sp pn pd (some (R, C, er, bg, sp)) j1 M' → K (nI 1) M') (h2 : x = nI 1 → ∀ M', FO M M' → MS R C er bg sp pn pd j0 (some (R, C, er, bg, sp)) M' → K (nI 1) M') : CI (d + 5) 125 [.ref 20, .int x] (DB o i0 i1 ext) M (DB o i0 i1 ext) K := by
  have hl := hw.1.le
  obtain ⟨hF, hP, hk0, hk1⟩ := hS
  refine b_X5_image_0 _ (m_in (by decide) (by decide) (fun e => ⟨fun _ => ⟨_, _, rfl, h0 e⟩, fun z => absurd rfl z⟩) (fun e => ⟨fun z => absurd z (by decide), fun _ => ?_⟩))
  obtain ⟨n, hn, rfl⟩ := nI_of (fun z => e (Or.inl z))
  have hn2 : n < 2 := by
    have : ¬ nI 1 < nI n := fun z => e (Or.inr z)
    rw [n_lt (by decide) hn] at this; omega
  rw [pk_mul]
  refine m_passAll (w := true) (t := 30 * n) (ms_s _ _ _ _) (by rw [ms_b (by decide)]; exact ms_s _ _ _ _) (by omega) (fun N hN => ⟨n_in (by omega) (by decide), _, _, rfl, ?_⟩)
  rw [n_cl hn]
  obtain ⟨a1, a2, a3, a4, a5, a6, a7⟩ := hN
  obtain ⟨f1, f2, f3, f4, f5⟩ := hF
  have m20 : ∀ b, b ≠ 19 → b ≠ 20 → (ms (ms M 20 19 (nI (30 * n))) 20 20 (nI 1)) 20 b = M 20 b := fun b z1 z2 => by rw [ms_b z2, ms_b z1]
  have m21 : ∀ p, (ms (ms M 20 19 (nI (30 * n))) 20 20 (nI 1)) 21 p = M 21 p := fun p => by rw [ms_a (by decide), ms_a (by decide)]
  have m27 : ∀ p, (ms (ms M 20 19 (nI (30 * n))) 20 20 (nI 1)) 27 p = M 27 p := fun p => by rw [ms_a (by decide), ms_a (by decide)]
  have kvs : ∀ i, i < 4 → kv (ms (ms M 20 19 (nI (30 * n))) 20 20 (nI 1)) true (30 * n) i = M 20 (sl i) := fun i hi => by
    unfold kv pv
    rw [if_pos hi, if_pos rfl, m20 _ (sl_ne hi).1 (sl_ne hi).2.1]
  have kve : ∀ p, kv (ms (ms M 20 19 (nI (30 * n))) 20 20 (nI 1)) true (30 * n) (p + 4) = M 21 p := fun p => by
    unfold kv pv
    rw [if_pos rfl, if_neg (by omega), Nat.add_sub_cancel, m21]
  have n20 : ∀ b, b ≠ 19 → b ≠ 20 → N 20 b = M 20 b := by
    intro b z1 z2
    by_cases hb : b = 0 ∨ b = 1 ∨ b = 3 ∨ b = 4
    · obtain ⟨i, hi, rfl⟩ : ∃ i, i < 4 ∧ sl i = b := by
        rcases hb with rfl | rfl | rfl | rfl
        · exact ⟨0, by decide, rfl⟩
        · exact ⟨1, by decide, rfl⟩
        · exact ⟨2, by decide, rfl⟩
        · exact ⟨3, by decide, rfl⟩
      rw [a4 i hi, if_pos (by omega), kvs i hi]
    · rw [a5 b (by omega) (by omega) (by omega) (by omega) z1, m20 b z1 z2]
  have n21 : ∀ p, p < 16 → N 21 p = M 21 p := fun p hp => by rw [a6 p, if_pos (by omega), kve]
  have hF' : MF (ms N 28 n (nI 1)) R C er bg sp := ⟨by rw [ms_a (by decide), n20 0 (by decide) (by decide)]; exact f1, by rw [ms_a (by decide), n20 1 (by decide) (by decide)]; exact f2, by rw [ms_a (by decide), n20 3 (by decide) (by decide)]; exact f3, by rw [ms_a (by decide), n20 4 (by decide) (by decide)]; exact f4, fun p hp => by rw [ms_a (by decide), n21 p (by omega)]; exact f5 p hp⟩
  have hP' : MP (ms N 28 n (nI 1)) pn pd := ⟨by rw [ms_a (by decide), n20 6 (by decide) (by decide)]; exact hP.1, hP.2.1, fun i hi => by rw [ms_a (by decide), a7 22 (by decide) (by decide) (by decide), ms_a (by decide), ms_a (by decide)]; exact hP.2.2 i hi⟩
  have hO : FO M (ms N 28 n (nI 1)) := fun a ha => by
    funext y
    rw [ms_a (by omega), a7 a (by omega) (by omega) (by omega), ms_a (by omega), ms_a (by omega)]
  have new : KP (ms N 28 n (nI 1)) n (some (R, C, er, bg, sp)) := by
    refine ⟨ms_s _ _ _ _, fun f hf => ?_⟩
    obtain rfl := Option.some.inj hf
    have g : ∀ i, i < 4 → (ms N 28 n (nI 1)) 27 (30 * n + i) = M 20 (sl i) := fun i hi => by rw [ms_a (by decide), a1 i (by omega), kvs i hi]
    refine ⟨(g 0 (by decide)).trans f1, (g 1 (by decide)).trans f2, (g 2 (by decide)).trans f3, (g 3 (by decide)).trans f4, fun p hp => ?_⟩
    have hp : p < R * C := hp
    rw [ms_a (by decide), show 30 * n + 4 + p = 30 * n + (p + 4) by omega, a1 (p + 4) (by omega), kve]
    exact f5 p hp
  have old : ∀ n' j, n' < 2 → n' ≠ n → KP M n' j → (∀ f, j = some f → f.1 * f.2.1 ≤ 16) → KP (ms N 28 n (nI 1)) n' j := by
    intro n' j hn' hne hk hj
    refine ⟨?_, fun f hf => ?_⟩
    · rw [ms_b hne, a7 28 (by decide) (by decide) (by decide), ms_a (by decide), ms_a (by decide)]; exact hk.1
    · obtain ⟨k1, k2, k3, k4, k5⟩ := hk.2 f hf
      have hj := hj f hf
      have g : ∀ b, 30 * n' ≤ b → b < 30 * n' + 20 → (ms N 28 n (nI 1)) 27 b = M 27 b := fun b z1 z2 => by rw [ms_a (by decide), a2 b (by omega), m27]
      exact ⟨(g _ (by omega) (by omega)).trans k1, (g _ (by omega) (by omega)).trans k2, (g _ (by omega) (by omega)).trans k3, (g _ (by omega) (by omega)).trans k4, fun p hp => (g _ (by omega) (by omega)).trans (k5 p hp)⟩
  rcases (show n = 0 ∨ n = 1 by omega) with rfl | rfl
  · exact h1 rfl _ hO ⟨hF', hP', new, old 1 j1 (by decide) (by decide) hk1 (fun f hf => (hj1 f hf).1.le)⟩
  · exact h2 rfl _ hO ⟨hF', hP', old 0 j0 (by decide) (by decide) hk0 (fun f hf => (hj0 f hf).1.le), new⟩
theorem k_restore (hS : MS R C er bg sp pn pd j0 j1 M) (hj0 : ∀ f, j0 = some f → WFl f) (hj1 : ∀ f, j1 = some f → WFl f) (x : Int32) (h0 : (x < 0 ∨ nI 1 < x) → K (-(nI 2)) M) (h1 : (x = nI 0 ∧ j0 = none) ∨ (x = nI 1 ∧ j1 = none) → K (-(nI 3)) M) (h2 : ∀ f : Fld, (x = nI 0 ∧ j0 = some f) ∨ (x = nI 1 ∧ j1 = some f) → ∀ M', FO M M' → MS f.1 f.2.1 f.2.2.1 f.2.2.2.1 f.2.2.2.2 pn pd j0 j1 M' → K (nI 1) M') : CI (d + 5) 126 [.ref 20, .int x] (DB o i0 i1 ext) M (DB o i0 i1 ext) K := by
  obtain ⟨hF, hP, hk0, hk1⟩ := hS
  refine b_X5_restore_0 _ (m_in (by decide) (by decide) (fun e => ⟨fun _ => ⟨_, _, rfl, h0 e⟩, fun z => absurd rfl z⟩) (fun e => ⟨fun z => absurd z (by decide), fun _ => ?_⟩))
  obtain ⟨n, hn, rfl⟩ := nI_of (fun z => e (Or.inl z))
  have hn2 : n < 2 := by
    have : ¬ nI 1 < nI n := fun z => e (Or.inr z)
    rw [n_lt (by decide) hn] at this; omega
  obtain ⟨j, hk, hjw, hjn, hjs⟩ : ∃ j, KP M n j ∧ (∀ f, j = some f → WFl f) ∧ (j = none → (nI n = nI 0 ∧ j0 = none) ∨ (nI n = nI 1 ∧ j1 = none)) ∧ (∀ f, j = some f → (nI n = nI 0 ∧ j0 = some f) ∨ (nI n = nI 1 ∧ j1 = some f)) := by
    rcases (show n = 0 ∨ n = 1 by omega) with rfl | rfl
    · exact ⟨j0, hk0, hj0, fun z => Or.inl ⟨rfl, z⟩, fun f z => Or.inl ⟨rfl, z⟩⟩
    · exact ⟨j1, hk1, hj1, fun z => Or.inr ⟨rfl, z⟩, fun f z => Or.inr ⟨rfl, z⟩⟩
  refine ⟨n_in (by omega) (by decide), ?_⟩
  rw [n_cl hn, hk.1, pk_mul]
  cases j with
  | none => exact ⟨fun _ => ⟨_, _, rfl, h1 (hjn rfl)⟩, fun z => absurd rfl z⟩
  | some f =>
    refine ⟨fun z => absurd z (show ¬ nI 1 = 0 by decide), fun _ => ?_⟩
    have hfw := hjw f rfl
    have hfl := hfw.1.le
    obtain ⟨k1, k2, k3, k4, k5⟩ := hk.2 f rfl
    refine m_passAll (w := false) (t := 30 * n) (ms_s _ _ _ _) (by rw [ms_b (by decide)]; exact ms_s _ _ _ _) (by omega) (fun N hN => ⟨_, _, rfl, h2 f (hjs f rfl) N ?_ ⟨?_, ?_, ?_, ?_⟩⟩)
    all_goals obtain ⟨a1, a2, a3, a4, a5, a6, a7⟩ := hN
    · intro a ha
      funext y
      rw [a7 a (by omega) (by omega) (by omega), ms_a (by omega), ms_a (by omega)]
    · have g : ∀ i, i < 4 → N 20 (sl i) = M 27 (30 * n + i) := fun i hi => by
        rw [a4 i hi, if_pos (by omega)]
        show (ms (ms M 20 19 (nI (30 * n))) 20 20 (nI 0)) 27 (30 * n + i) = _
        rw [ms_a (by decide), ms_a (by decide)]
      refine ⟨(g 0 (by decide)).trans k1, (g 1 (by decide)).trans k2, (g 2 (by decide)).trans k3, (g 3 (by decide)).trans k4, fun p hp => ?_⟩
      rw [a6 p, if_pos (by omega), ← k5 p hp]
      show (ms (ms M 20 19 (nI (30 * n))) 20 20 (nI 0)) 27 (30 * n + (p + 4)) = _
      rw [ms_a (by decide), ms_a (by decide)]
      congr 1
      omega
    · exact ⟨by rw [a5 6 (by decide) (by decide) (by decide) (by decide) (by decide), ms_b (by decide), ms_b (by decide)]; exact hP.1, hP.2.1, fun i hi => by rw [a7 22 (by decide) (by decide) (by decide), ms_a (by decide), ms_a (by decide)]; exact hP.2.2 i hi⟩
    · refine hk0.of ?_ (by funext y; rw [a7 28 (by decide) (by decide) (by decide), ms_a (by decide), ms_a (by decide)])
      funext b
      by_cases hb : b < 30 * n ∨ 30 * n + 20 ≤ b
      · rw [a2 b hb, ms_a (by decide), ms_a (by decide)]
      · obtain ⟨i, rfl⟩ : ∃ i, b = 30 * n + i := ⟨b - 30 * n, by omega⟩
        rw [a1 i (by omega)]
        show (ms (ms M 20 19 (nI (30 * n))) 20 20 (nI 0)) 27 (30 * n + i) = _
        rw [ms_a (by decide), ms_a (by decide)]
    · refine hk1.of ?_ (by funext y; rw [a7 28 (by decide) (by decide) (by decide), ms_a (by decide), ms_a (by decide)])
      funext b
      by_cases hb : b < 30 * n ∨ 30 * n + 20 ≤ b
      · rw [a2 b hb, ms_a (by decide), ms_a (by decide)]
      · obtain ⟨i, rfl⟩ : ∃ i, b = 30 * n + i := ⟨b - 30 * n, by omega⟩
        rw [a1 i (by omega)]
        show (ms (ms M 20 19 (nI (30 * n))) 20 20 (nI 0)) 27 (30 * n + i) = _
        rw [ms_a (by decide), ms_a (by decide)]
end Z2
