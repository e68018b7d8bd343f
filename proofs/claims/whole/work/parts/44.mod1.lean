-- THE MODEL: questions about the field
/-- the field in the model's cells -/
def MF (M : AMm) (R C : Nat) (er : Nat → Int32) (bg sp : Nat) : Prop := M 20 0 = nI R ∧ M 20 1 = nI C ∧ M 20 3 = nI bg ∧ M 20 4 = nI sp ∧ ∀ p, p < R * C → M 21 p = er p
/-- the pad in the model's cells -/
def MP (M : AMm) (pn : Nat) (pd : Nat → Int32) : Prop := M 20 6 = nI pn ∧ pn ≤ 40 ∧ ∀ i, i < pn → M 22 i = pd i
theorem MF.of {M M' : AMm} {R C bg sp : Nat} {er : Nat → Int32} (h : MF M R C er bg sp) (h0 : ∀ b, b < 7 → M' 20 b = M 20 b) (h1 : M' 21 = M 21) : MF M' R C er bg sp := by
  obtain ⟨a1, a2, a3, a4, a5⟩ := h
  exact ⟨by rw [h0 0 (by decide)]; exact a1, by rw [h0 1 (by decide)]; exact a2, by rw [h0 3 (by decide)]; exact a3, by rw [h0 4 (by decide)]; exact a4, fun p hp => by rw [h1]; exact a5 p hp⟩
theorem MP.of {M M' : AMm} {pn : Nat} {pd : Nat → Int32} (h : MP M pn pd) (h0 : ∀ b, b < 7 → M' 20 b = M 20 b) (h1 : M' 22 = M 22) : MP M' pn pd := by
  obtain ⟨a1, a2, a3⟩ := h
  exact ⟨by rw [h0 6 (by decide)]; exact a1, a2, fun p hp => by rw [h1]; exact a3 p hp⟩
/-- nothing is changed but the model's tables -/
def FM (M M' : AMm) : Prop := (∀ b, b < 7 → M' 20 b = M 20 b) ∧ (∀ b, 17 ≤ b → M' 20 b = M 20 b) ∧ ∀ a, (a < 20 ∨ a = 21 ∨ a = 22 ∨ 26 < a) → M' a = M a
theorem FM.rf {M : AMm} : FM M M := ⟨fun _ _ => rfl, fun _ _ => rfl, fun _ _ => rfl⟩
theorem FM.tr {M M1 M2 : AMm} (h : FM M M1) (h2 : FM M1 M2) : FM M M2 := ⟨fun b hb => (h2.1 b hb).trans (h.1 b hb), fun b hb => (h2.2.1 b hb).trans (h.2.1 b hb), fun a ha => (h2.2.2 a ha).trans (h.2.2 a ha)⟩
theorem FM.ms {M M1 : AMm} (h : FM M M1) {a b : Nat} {v : Int32} (ha : (a = 20 ∧ 7 ≤ b ∧ b < 17) ∨ (23 ≤ a ∧ a ≤ 26)) : FM M (ms M1 a b v) := ⟨fun x hx => by rw [ms_n (by omega)]; exact h.1 x hx, fun x hx => by rw [ms_n (by omega)]; exact h.2.1 x hx, fun x hx => by rw [← h.2.2 x hx]; funext y; exact ms_n (by omega)⟩
theorem MF.fm {M M' : AMm} {R C bg sp : Nat} {er : Nat → Int32} (h : MF M R C er bg sp) (hm : FM M M') : MF M' R C er bg sp := h.of hm.1 (hm.2.2 21 (by omega))
theorem MP.fm {M M' : AMm} {pn : Nat} {pd : Nat → Int32} (h : MP M pn pd) (hm : FM M M') : MP M' pn pd := h.of hm.1 (hm.2.2 22 (by omega))
def inB (x a b : Int64) : Bool := !(decide (x < a)) && !(decide (b < x))
/-- where the model's step leads -/
def mbs (p C R rr cc : Int32) : Int32 := if inB (p / C + rr).toInt64 (lN 0) (R - nI 1).toInt64 then (if inB ((p - p / C * C) + cc).toInt64 (lN 0) (C - nI 1).toInt64 then C * (p / C + rr) + ((p - p / C * C) + cc) else -(nI 6)) else -(nI 6)
theorem g_mb : gall (fun R C p k => mbs (nI p) (nI C) (nI R) (sro k) (sco k) == en6 (nb R C p k)) = true := by decide +kernel
section M1
variable {d : Nat} {o i0 i1 : Option Nat} {ext : ADd} {M : AMm} {R C bg sp pn : Nat} {er pd : Nat → Int32} {K : Int32 → AMm → Prop}
theorem m_inR {x a b : Int64} (h : K (bI (inB x a b)) M) : CI d 74 [.long x, .long a, .long b] (DB o i0 i1 ext) M (DB o i0 i1 ext) K := by
  unfold inB at h
  refine b_X5_in_0 _ _ _ ⟨fun e => ⟨_, _, rfl, ?_⟩, fun e => ⟨fun e2 => ⟨_, _, rfl, ?_⟩, fun e2 => ⟨_, _, rfl, ?_⟩⟩⟩
  · rw [lg_cmp_lt] at e
    rw [decide_eq_true e] at h; exact h
  · rw [lg_cmp_lt] at e
    rw [lg_cmp_gt] at e2
    rw [decide_eq_false e, decide_eq_true e2] at h; exact h
  · rw [lg_cmp_lt] at e
    rw [lg_cmp_gt] at e2
    rw [decide_eq_false e, decide_eq_false e2] at h; exact h
theorem m_in {x : Int32} {a b : Nat} (ha : a < 2 ^ 31) (hb : b < 2 ^ 31) (h0 : (x < nI a ∨ nI b < x) → K (nI 0) M) (h1 : ¬ (x < nI a ∨ nI b < x) → K (nI 1) M) : CI d 74 [.long x.toInt64, .long (lN a), .long (lN b)] (DB o i0 i1 ext) M (DB o i0 i1 ext) K := by
  refine m_inR ?_
  unfold inB
  rw [← nI_l ha, ← nI_l hb]
  by_cases e : x < nI a
  · rw [decide_eq_true ((fa_wide_lt _ _).mpr e)]; exact h0 (Or.inl e)
  · by_cases e2 : nI b < x
    · rw [decide_eq_false (fun z => e ((fa_wide_lt _ _).mp z)), decide_eq_true ((fa_wide_lt _ _).mpr e2)]; exact h0 (Or.inr e2)
    · rw [decide_eq_false (fun z => e ((fa_wide_lt _ _).mp z)), decide_eq_false (fun z => e2 ((fa_wide_lt _ _).mp z))]; exact h1 (by rintro (z | z); exact e z; exact e2 z)
theorem m_ones {x : Nat} (hx : x < 65536) (h : K (nI (pc x)) M) : CI d 75 [.int (nI x)] (DB o i0 i1 ext) M (DB o i0 i1 ext) K := by
  have loop : ∀ n x k, pc x = n → x < 65536 → K (nI (k + n)) M → T d (fun r => ∃ v M', r = (some (.int v), DB o i0 i1 ext, M') ∧ K v M') (75, 4, [none, some (.int (nI k)), some (.int (nI x))], [], (DB o i0 i1 ext), M) := by
    intro n
    induction n with
    | zero =>
      intro x k hp hx hK
      have := pc_zero hx hp
      subst this
      exact b_X5_ones_4 _ _ ⟨fun _ => ⟨_, _, rfl, hK⟩, fun z => absurd rfl z⟩
    | succ n ih =>
      intro x k hp hx hK
      have h0 : x ≠ 0 := by rintro rfl; rw [pc_0] at hp; cases hp
      have := ones_pc hx h0
      refine b_X5_ones_4 _ _ ⟨fun z => absurd ((n_e0 (by omega)).mp z) h0, fun _ => ?_⟩
      rw [pk_sub (by omega), fa_and, nI_add]
      exact ih _ (k + 1) (by omega) (and_lt16 hx) (by rw [show k + 1 + n = k + (n + 1) by omega]; exact hK)
  exact b_X5_ones_0 _ (loop (pc x) x 0 rfl hx (by rw [Nat.zero_add]; exact h))
theorem m_places (hF : MF M R C er bg sp) (h : K (nI (R * C)) M) : CI d 77 [.ref 20] (DB o i0 i1 ext) M (DB o i0 i1 ext) K := by
  refine b_X5_places_0 ⟨_, _, rfl, ?_⟩
  rw [hF.1, hF.2.1, pk_mul]
  exact h
theorem m_isPlace (hF : MF M R C er bg sp) (hd : Dm R C) {x : Int32} (h0 : (x < 0 ∨ nI (R * C) ≤ x) → K (nI 0) M) (h1 : ∀ p, p < R * C → x = nI p → K (nI 1) M) : CI (d + 1) 78 [.ref 20, .int x] (DB o i0 i1 ext) M (DB o i0 i1 ext) K := by
  have hl := hd.le
  have hp := Nat.mul_pos hd.1 hd.2.2.1
  refine b_X5_isPlace_0 _ (m_places hF ?_)
  rw [pk_sub hp, nI_l (by omega)]
  refine m_in (by decide) (by omega) (fun e => ⟨Or.inl rfl, _, _, rfl, h0 ?_⟩) (fun e => ⟨Or.inr rfl, _, _, rfl, ?_⟩)
  · rcases e with z | z
    · exact Or.inl z
    · right
      rcases pk_ix x (n := R * C) (by omega) with y | y | ⟨p, hp, rfl⟩
      · exact absurd (Int32.lt_trans z y) (nI_pos (by omega))
      · exact y
      · rw [n_lt (by omega) (by omega)] at z; omega
  · rcases pk_ix x (n := R * C) (by omega) with y | y | ⟨p, hp, rfl⟩
    · exact absurd (Or.inl y) e
    · exfalso
      apply e
      right
      exact Int32.lt_of_lt_of_le (nI_lt (by omega) (by omega)) y
    · exact h1 p hp rfl
theorem m_wayOf {x : Int32} (h : K (en6 (ds x)) M) : CI d 83 [.int x] (DB o i0 i1 ext) M (DB o i0 i1 ext) K := by
  unfold ds at h
  refine b_X5_wayOf_0 _ ⟨fun e => ⟨_, _, rfl, ?_⟩, fun e => ⟨fun e2 => ⟨_, _, rfl, ?_⟩, fun e2 => ⟨fun e3 => ⟨_, _, rfl, ?_⟩, fun e3 => ⟨fun e4 => ⟨_, _, rfl, ?_⟩, fun e4 => ⟨_, _, rfl, ?_⟩⟩⟩⟩⟩
  · rw [if_pos e] at h; exact h
  · rw [if_neg e, if_pos e2] at h; exact h
  · rw [if_neg e, if_neg e2, if_pos e3] at h; exact h
  · rw [if_neg e, if_neg e2, if_neg e3, if_pos e4] at h; exact h
  · rw [if_neg e, if_neg e2, if_neg e3, if_neg e4] at h; exact h
theorem m_signOf {k : Nat} (hk : k < 4) (h : K (sgn k) M) : CI d 84 [.int (nI k)] (DB o i0 i1 ext) M (DB o i0 i1 ext) K := by
  unfold sgn at h
  refine b_X5_signOf_0 _ ⟨fun e => ⟨_, _, rfl, ?_⟩, fun e => ⟨fun e2 => ⟨_, _, rfl, ?_⟩, fun e2 => ⟨fun e3 => ⟨_, _, rfl, ?_⟩, fun e3 => ⟨_, _, rfl, ?_⟩⟩⟩⟩
  · rw [n_e0 (by omega)] at e; rw [if_pos e] at h; exact h
  · rw [n_e0 (by omega)] at e; rw [n_eq (by omega) (by decide)] at e2; rw [if_neg e, if_pos e2] at h; exact h
  · rw [n_e0 (by omega)] at e; rw [n_eq (by omega) (by decide)] at e2 e3; rw [if_neg e, if_neg e2, if_pos e3] at h; exact h
  · rw [n_e0 (by omega)] at e; rw [n_eq (by omega) (by decide)] at e2 e3; rw [if_neg e, if_neg e2, if_neg e3] at h; exact h
theorem m_open (hF : MF M R C er bg sp) (hd : Dm R C) (h : K (nI (opn er (R * C))) M) : CI (d + 1) 87 [.ref 20] (DB o i0 i1 ext) M (DB o i0 i1 ext) K := by
  have hl := hd.le
  have opz : ∀ k, (er k = -(nI 1) → opn er (k + 1) = opn er k) ∧ (¬ er k = -(nI 1) → opn er (k + 1) = sb (opn er k) k) := fun k => ⟨fun e => if_pos e, fun e => if_neg e⟩
  have loop : ∀ n k, R * C - k = n → k ≤ R * C → T (d + 1) (fun r => ∃ v M', r = (some (.int v), DB o i0 i1 ext, M') ∧ K v M') (87, 4, [some (.ref 20), some (.int (nI (opn er k))), some (.int (nI k))], [], (DB o i0 i1 ext), M) := by
    intro n
    induction n with
    | zero =>
      intro k h0 hk
      obtain rfl : k = R * C := by omega
      exact b_X5_open_4 _ _ (m_places hF ⟨fun _ => ⟨_, _, rfl, h⟩, fun z => absurd (nI_le (Nat.le_refl _) (by omega)) z⟩)
    | succ n ih =>
      intro k h0 hk
      have e := ih (k + 1) (by omega) (by omega)
      refine b_X5_open_4 _ _ (m_places hF ⟨fun z => ?_, fun _ => ⟨n_in (by omega) (by decide), ?_⟩⟩)
      · rw [n_le (by omega) (by omega)] at z; omega
      · rw [n_cl (by omega), hF.2.2.2.2 k (by omega), nI_add, n_sb (by omega), fa_or, Nat.or_zero]
        refine ⟨fun z => ?_, fun z => ?_⟩
        · rw [(opz k).1 z] at e; exact e
        · rw [(opz k).2 z] at e; exact e
  exact b_X5_open_0 (loop (R * C) 0 (by omega) (by omega))
theorem m_bs {p rr cc : Int32} (hR : M 20 0 = nI R) (hC : M 20 1 = nI C) (h : K (mbs p (nI C) (nI R) rr cc) M) : CI d 74 [.long ((p / (M 20 1)) + rr).toInt64, .long (lN 0), .long ((M 20 0) - (nI 1)).toInt64] (DB o i0 i1 ext) M (DB o i0 i1 ext) (fun v1 M1 => (v1 = 0 → ∃ v M', ((some (.int (-(nI 6))), DB o i0 i1 ext, M1) : ARs) = (some (.int v), DB o i0 i1 ext, M') ∧ K v M') ∧ (¬ v1 = 0 → CI d 74 [.long ((p - p / (M 20 1) * (M 20 1)) + cc).toInt64, .long (lN 0), .long ((M1 20 1) - (nI 1)).toInt64] (DB o i0 i1 ext) M1 (DB o i0 i1 ext) (fun v2 M2 => (v2 = 0 → ∃ v M', ((some (.int (-(nI 6))), DB o i0 i1 ext, M2) : ARs) = (some (.int v), DB o i0 i1 ext, M') ∧ K v M') ∧ (¬ v2 = 0 → ∃ v M', ((some (.int (((M2 20 1) * ((p / (M 20 1)) + rr)) + ((p - p / (M 20 1) * (M 20 1)) + cc))), DB o i0 i1 ext, M2) : ARs) = (some (.int v), DB o i0 i1 ext, M') ∧ K v M')))) := by
  unfold mbs at h
  rw [hR, hC]
  refine m_inR ?_
  rw [bI_0]
  refine ⟨fun e => ?_, fun e => m_inR ?_⟩
  · rw [e] at h; exact ⟨_, _, rfl, h⟩
  · rw [or_no e, if_pos rfl] at h
    rw [hC, bI_0]
    refine ⟨fun e2 => ?_, fun e2 => ?_⟩
    · rw [e2] at h; exact ⟨_, _, rfl, h⟩
    · rw [or_no e2, if_pos rfl] at h; exact ⟨_, _, rfl, h⟩
set_option maxRecDepth 100000 in
theorem m_beside (hR : M 20 0 = nI R) (hC : M 20 1 = nI C) (hd : Dm R C) {p k : Nat} (hp : p < R * C) (hk : k < 4) (h : K (en6 (nb R C p k)) M) : CI (d + 1) 92 [.ref 20, .int (nI p), .int (nI k)] (DB o i0 i1 ext) M (DB o i0 i1 ext) K := by
  have hl := hd.le
  have hz : ¬ M 20 1 = 0 := by rw [hC, n_e0 (by have := hd.2.2.2.1; omega)]; have := hd.2.2.1; omega
  have e := gall_at g_mb hd hp hk
  rw [beq_iff_eq] at e
  rw [← e] at h
  refine b_X5_beside_0 _ _ ⟨hz, ?_⟩
  rcases (show k = 0 ∨ k = 1 ∨ k = 2 ∨ k = 3 by omega) with rfl | rfl | rfl | rfl
  · exact ⟨fun _ => ⟨hz, fun z => absurd z (by decide), fun _ => ⟨fun z => absurd z (by decide), fun _ => m_bs hR hC h⟩⟩, fun z => absurd rfl z⟩
  · exact ⟨fun z => absurd z (by decide), fun _ => ⟨fun z => absurd z (by decide), fun _ => ⟨hz, fun _ => m_bs hR hC h, fun z => absurd rfl z⟩⟩⟩
  · exact ⟨fun z => absurd z (by decide), fun _ => ⟨fun _ => ⟨hz, fun z => absurd z (by decide), fun _ => ⟨fun z => absurd z (by decide), fun _ => m_bs hR hC h⟩⟩, fun z => absurd rfl z⟩⟩
  · exact ⟨fun z => absurd z (by decide), fun _ => ⟨fun z => absurd z (by decide), fun _ => ⟨hz, fun z => absurd z (by decide), fun _ => ⟨fun _ => m_bs hR hC h, fun z => absurd rfl z⟩⟩⟩⟩
/-- what is free: no stone, not cut -/
theorem nf_mi {c p k : Nat} (hd : Dm R C) (hp : p < R * C) (hk : k < 4) : nf R C (mi (opn er (R * C)) c) p k = match nb R C p k with
    | some q => if er q = -(nI 1) then none else if c.testBit q = true then none else some q
    | none => none := by
  unfold nf
  cases hq : nb R C p k with
  | none => rfl
  | some q =>
    dsimp only
    have hq2 := (nb_ok hd hp hk hq).1
    by_cases h1 : er q = -(nI 1)
    · rw [if_pos h1, if_neg]
      rw [mi_t, Bool.and_eq_true]
      rintro ⟨z, -⟩
      exact ((opn_t er _ q).mp z).2 h1
    · rw [if_neg h1]
      have ho := (opn_t er (R * C) q).mpr ⟨hq2, h1⟩
      cases hc : c.testBit q with
      | true => rw [if_pos rfl, if_neg]; rw [mi_t, hc]; simp
      | false =>
        have e : (mi (opn er (R * C)) c).testBit q = true := by rw [mi_t, hc, ho]; rfl
        rw [if_pos e]; rfl
theorem m_next (hF : MF M R C er bg sp) (hd : Dm R C) {c p k : Nat} (hc : c < 65536) (hp : p < R * C) (hk : k < 4) (h : K (en6 (nf R C (mi (opn er (R * C)) c) p k)) M) : CI (d + 2) 93 [.ref 20, .int (nI c), .int (nI p), .int (nI k)] (DB o i0 i1 ext) M (DB o i0 i1 ext) K := by
  have hl := hd.le
  rw [nf_mi hd hp hk] at h
  refine b_X5_next_0 _ _ _ (m_beside hF.1 hF.2.1 hd hp hk ?_)
  have hnb := nb16 hd hp hk
  rw [en6_neg (fun q hq => by have := hnb q hq; omega)]
  refine ⟨fun e => ⟨_, _, rfl, ?_⟩, fun e => ?_⟩
  · rw [e] at h; exact h
  · cases hq : nb R C p k with
    | none => exact absurd hq e
    | some q =>
      rw [hq] at h
      have hq16 := hnb q hq
      have hq2 := (nb_ok hd hp hk hq).1
      show vp_in (nI q) 16 ∧ _
      refine ⟨n_in hq16 (by decide), ?_⟩
      show (M 21 (nI q).toNatClampNeg = -(nI 1) → _) ∧ (¬ M 21 (nI q).toNatClampNeg = -(nI 1) → _)
      rw [n_cl (by omega), hF.2.2.2.2 q hq2]
      refine ⟨fun e1 => ⟨_, _, rfl, ?_⟩, fun e1 => ?_⟩
      · dsimp only at h; rw [if_pos e1] at h; exact h
      · dsimp only at h
        rw [if_neg e1] at h
        show (((nI c >>> (nI q &&& 31)) &&& nI 1) = 0 → _) ∧ (¬ ((nI c >>> (nI q &&& 31)) &&& nI 1) = 0 → _)
        rw [n_t0 (by omega) (by omega)]
        refine ⟨fun e2 => ⟨_, _, rfl, ?_⟩, fun e2 => ⟨_, _, rfl, ?_⟩⟩
        · rw [if_neg (by rw [e2]; decide)] at h; exact h
        · rw [if_pos (or_no e2)] at h; exact h
theorem le0 {x : Int32} : (0 ≤ x) ↔ ¬ x < 0 := Int32.not_lt.symm
theorem nf_b (hd : Dm R C) {F p k : Nat} (hp : p < R * C) (hk : k < 4) : ∀ q, nf R C F p k = some q → q < 2 ^ 31 := fun q hq => by have := nf16 hd hp hk hq; omega
theorem m_isBlind (hF : MF M R C er bg sp) (hd : Dm R C) {c p : Nat} (hc : c < 65536) (hp : p < R * C) (h : K (bI (decide (arn R C p &&& mi (opn er (R * C)) c = 0))) M) : CI (d + 3) 94 [.ref 20, .int (nI c), .int (nI p)] (DB o i0 i1 ext) M (DB o i0 i1 ext) K := by
  have hl := hd.le
  have hF2 : mi (opn er (R * C)) c < 65536 := mi_lt (opn_lt hl)
  have no : ∀ k, k < 4 → ¬ nf R C (mi (opn er (R * C)) c) p k = none → ∃ v M', ((some (.int (nI 0)), DB o i0 i1 ext, M) : ARs) = (some (.int v), DB o i0 i1 ext, M') ∧ K v M' := by
    intro k hk hn
    have : ¬ arn R C p &&& mi (opn er (R * C)) c = 0 := fun z => hn ((ar_and hd hp hF2).mp z k hk)
    rw [decide_eq_false this] at h
    exact ⟨_, _, rfl, h⟩
  refine b_X5_isBlind_0 _ _ (m_next hF hd hc hp (by decide) ?_)
  rw [le0, en6_neg (nf_b hd hp (by decide))]
  refine ⟨fun e => no 0 (by decide) e, fun e0 => m_next hF hd hc hp (by decide) ?_⟩
  rw [le0, en6_neg (nf_b hd hp (by decide))]
  refine ⟨fun e => no 1 (by decide) e, fun e1 => m_next hF hd hc hp (by decide) ?_⟩
  rw [le0, en6_neg (nf_b hd hp (by decide))]
  refine ⟨fun e => no 2 (by decide) e, fun e2 => m_next hF hd hc hp (by decide) ?_⟩
  rw [le0, en6_neg (nf_b hd hp (by decide))]
  refine ⟨fun e => no 3 (by decide) e, fun e3 => ⟨_, _, rfl, ?_⟩⟩
  rw [decide_eq_true ((ar_and hd hp hF2).mpr (fun k hk => by
    match k, hk with
    | 0, _ => exact Classical.byContradiction e0
    | 1, _ => exact Classical.byContradiction e1
    | 2, _ => exact Classical.byContradiction e2
    | 3, _ => exact Classical.byContradiction e3
    | k + 4, hk => omega))] at h
  exact h
theorem m_brings (hF : MF M R C er bg sp) (hw : WF R C er bg sp) {p t : Nat} (hp : p < R * C) (ht : t ≤ 100) (h : K (nI (br er sp p t)) M) : CI d 95 [.ref 20, .int (nI p), .int (nI t)] (DB o i0 i1 ext) M (DB o i0 i1 ext) K := by
  have hl := hw.1.le
  have e := br_mm (hw.2.1 p hp) hw.2.2.2.2 ht
  have e2 : (if nI 0 < er p - nI sp * nI t then er p - nI sp * nI t else nI 0) = nI (br er sp p t) := e
  rw [← e2] at h
  refine b_X5_brings_0 _ _ ⟨n_in (by omega) (by decide), ?_⟩
  rw [n_cl (by omega), hF.2.2.2.2 p hp, hF.2.2.2.1]
  refine ⟨fun z => ⟨_, _, rfl, ?_⟩, fun z => ⟨_, _, rfl, ?_⟩⟩
  · rw [if_neg (show ¬ nI 0 < _ from Int32.not_lt.mpr z)] at h; exact h
  · rw [if_pos (show nI 0 < _ from Int32.not_le.mp z)] at h; exact h
theorem m_earsOf (hF : MF M R C er bg sp) (hd : Dm R C) {S : Nat} (hS : S < 65536) (h1 : K (eo er S (R * C)) M) : CI (d + 1) 99 [.ref 20, .int (nI S)] (DB o i0 i1 ext) M (DB o i0 i1 ext) K := by
  have hl := hd.le
  have loop : ∀ n k, R * C - k = n → k ≤ R * C → T (d + 1) (fun r => ∃ v M', r = (some (.int v), DB o i0 i1 ext, M') ∧ K v M') (99, 4, [some (.ref 20), some (.int (nI S)), some (.int (eo er S k)), some (.int (nI k))], [], (DB o i0 i1 ext), M) := by
    intro n
    induction n with
    | zero =>
      intro k h0 hk
      obtain rfl : k = R * C := by omega
      exact b_X5_earsOf_4 _ _ _ (m_places hF ⟨fun _ => ⟨_, _, rfl, h1⟩, fun z => absurd (nI_le (Nat.le_refl _) (by omega)) z⟩)
    | succ n ih =>
      intro k h0 hk
      have e := ih (k + 1) (by omega) (by omega)
      refine b_X5_earsOf_4 _ _ _ (m_places hF ⟨fun z => ?_, fun _ => ?_⟩)
      · rw [n_le (by omega) (by omega)] at z; omega
      · rw [n_t1 (by omega) (by omega), nI_add]
        refine ⟨fun z => ⟨n_in (by omega) (by decide), ?_⟩, fun z => ?_⟩
        · rw [n_cl (by omega), hF.2.2.2.2 k (by omega)]
          rw [show eo er S (k + 1) = eo er S k + er k from by show (if S.testBit k then _ else _) = _; rw [z]; rfl] at e; exact e
        · have z : S.testBit k = false := by cases hq : S.testBit k with
            | false => rfl
            | true => exact absurd hq z
          rw [show eo er S (k + 1) = eo er S k from by show (if S.testBit k then _ else _) = _; rw [z]; rfl] at e
          rw [nI_0, Int32.add_zero]
          exact e
  exact b_X5_earsOf_0 _ (loop (R * C) 0 (by omega) (by omega))
theorem m_faultF (hF : MF M R C er bg sp) (hd : Dm R C) (hP : MP M pn pd) (h : K (en6 (ff (R * C) pd pn 0)) M) : CI (d + 1) 82 [.ref 20] (DB o i0 i1 ext) M (DB o i0 i1 ext) K := by
  have hl := hd.le
  obtain ⟨p1, p2, p3⟩ := hP
  have loop : ∀ n k, pn - k = n → k ≤ pn → k ≤ R * C → K (en6 (ff (R * C) pd n k)) M → T (d + 1) (fun r => ∃ v M', r = (some (.int v), DB o i0 i1 ext, M') ∧ K v M') (82, 2, [some (.ref 20), some (.int (nI k))], [], (DB o i0 i1 ext), M) := by
    intro n
    induction n with
    | zero =>
      intro k h0 hk hk2 hK
      obtain rfl : k = pn := by omega
      refine b_X5_faultOfField_2 _ ⟨fun _ => m_places hF ?_, fun z => ?_⟩
      · rw [p1, n_le (by omega) (by omega)]
        unfold ff at hK
        refine ⟨fun z => ⟨_, _, rfl, ?_⟩, fun z => ⟨_, _, rfl, ?_⟩⟩
        · rw [if_neg (by omega)] at hK; exact hK
        · rw [if_pos (by omega)] at hK; exact hK
      · rw [p1] at z; exact absurd (nI_le (Nat.le_refl _) (by omega)) z
    | succ n ih =>
      intro k h0 hk hk2 hK
      refine b_X5_faultOfField_2 _ ⟨fun z => ?_, fun _ => m_places hF ?_⟩
      · rw [p1, n_le (by omega) (by omega)] at z; omega
      · rw [n_eq (by omega) (by omega)]
        refine ⟨fun z => ⟨_, _, rfl, ?_⟩, fun z => ⟨n_in (by omega) (by decide), ?_⟩⟩
        · rw [ff_bad (Or.inl (by omega))] at hK; exact hK
        · rw [n_cl (by omega), p3 k (by omega), nI_add]
          refine ⟨fun y => ih (k + 1) (by omega) (by omega) (by omega) (by rw [ff_good (by omega) (Or.inl y)] at hK; exact hK), fun y => ⟨n_in (by omega) (by decide), m_in (by decide) (by decide) (fun u => ⟨fun _ => ⟨_, _, rfl, ?_⟩, fun w => absurd rfl w⟩) (fun u => ⟨fun w => absurd w (by decide), fun _ => ?_⟩)⟩⟩
          · rw [ff_bad (Or.inr (by
              rintro (g | ⟨g1, g2⟩)
              · exact y g
              · rcases u with u | u
                · exact Int32.not_lt.mpr g1 u
                · exact Int32.not_lt.mpr g2 u))] at hK
            exact hK
          · exact ih (k + 1) (by omega) (by omega) (by omega) (by rw [ff_good (by omega) (Or.inr ⟨Int32.not_lt.mp (fun g => u (Or.inl g)), Int32.not_lt.mp (fun g => u (Or.inr g))⟩)] at hK; exact hK)
  exact b_X5_faultOfField_0 (loop pn 0 (by omega) (by omega) (by omega) h)
theorem m_faultW (hP : MP M pn pd) (h : K (en6 (wft pd pn 0)) M) : CI (d + 1) 85 [.ref 20] (DB o i0 i1 ext) M (DB o i0 i1 ext) K := by
  obtain ⟨p1, p2, p3⟩ := hP
  have loop : ∀ n k, pn - k = n → k ≤ pn → K (en6 (wft pd n k)) M → T (d + 1) (fun r => ∃ v M', r = (some (.int v), DB o i0 i1 ext, M') ∧ K v M') (85, 2, [some (.ref 20), some (.int (nI k))], [], (DB o i0 i1 ext), M) := by
    intro n
    induction n with
    | zero =>
      intro k h0 hk hK
      obtain rfl : k = pn := by omega
      refine b_X5_faultOfWay_2 _ ⟨fun _ => ⟨_, _, rfl, hK⟩, fun z => ?_⟩
      rw [p1] at z; exact absurd (nI_le (Nat.le_refl _) (by omega)) z
    | succ n ih =>
      intro k h0 hk hK
      refine b_X5_faultOfWay_2 _ ⟨fun z => ?_, fun _ => ⟨n_in (by omega) (by decide), ?_⟩⟩
      · rw [p1, n_le (by omega) (by omega)] at z; omega
      · rw [n_cl (by omega), p3 k (by omega), nI_add]
        refine m_wayOf ?_
        rw [le0, en6_neg (fun q hq => by have := ds_lt hq; omega)]
        unfold wft at hK
        refine ⟨fun z => ih (k + 1) (by omega) (by omega) (by rw [if_neg z] at hK; exact hK), fun z => ⟨_, _, rfl, ?_⟩⟩
        rw [if_pos (Classical.byContradiction z)] at hK; exact hK
  exact b_X5_faultOfWay_0 (loop pn 0 (by omega) (by omega) h)
end M1
