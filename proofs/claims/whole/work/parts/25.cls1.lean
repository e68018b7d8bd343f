-- THE CLASS: questions about the field
section C1
variable {d : Nat} {o i0 i1 : Option Nat} {ext : ADd} {M : AMm} {K : Int32 → AMm → Prop}
def bI (b : Bool) : Int32 := if b then nI 1 else nI 0
theorem bI_0 {b : Bool} : bI b = 0 ↔ b = false := by cases b <;> decide
theorem s_isIn {a : Nat} (ha : a < 65536) {x : Int32} (h0 : (x < 0 ∨ nI 16 ≤ x) → K (nI 0) M) (h1 : ∀ p, p < 16 → x = nI p → K (bI (a.testBit p)) M) : CI d 72 [.int (nI a), .int x] (DB o i0 i1 ext) M (DB o i0 i1 ext) K := by
  refine b_X4_isIn_0 _ _ ⟨fun h => ⟨_, _, rfl, h0 (Or.inl h)⟩, fun h => ⟨fun h2 => ⟨_, _, rfl, h0 (Or.inr h2)⟩, fun h2 => ?_⟩⟩
  obtain ⟨p, hp, rfl⟩ : ∃ p, p < 16 ∧ x = nI p := by
    rcases pk_ix x (n := 16) (by decide) with z | z | z
    · exact absurd z h
    · exact absurd z h2
    · exact z
  have hk := h1 p hp rfl
  refine ⟨fun h3 => ⟨_, _, rfl, ?_⟩, fun h3 => ⟨_, _, rfl, ?_⟩⟩
  · rw [(n_t1 (by omega) (by omega)).mp h3] at hk; exact hk
  · have : a.testBit p = false := by
      cases hq : a.testBit p with
      | false => rfl
      | true => exact absurd ((n_t1 (by omega) (by omega)).mpr hq) h3
    rw [this] at hk; exact hk
theorem s_isInN {a p : Nat} (ha : a < 65536) (hp : p < 16) (h1 : K (bI (a.testBit p)) M) : CI d 72 [.int (nI a), .int (nI p)] (DB o i0 i1 ext) M (DB o i0 i1 ext) K := by
  refine s_isIn ha (fun h => ?_) (fun q hq e => ?_)
  · rcases h with h | h
    · exact absurd h (nI_pos (by omega))
    · rw [n_le (by decide) (by omega)] at h; omega
  · have : p = q := (n_eq (by omega) (by omega)).mp e
    rw [← this]; exact h1
/-- whether a place, if there is one, is in a set -/
def oin (a : Nat) (q : Option Nat) : Bool := match q with
  | some p => a.testBit p
  | none => false
theorem s_isInE {a : Nat} {q : Option Nat} (ha : a < 65536) (hq : ∀ p, q = some p → p < 16) (h1 : K (bI (oin a q)) M) : CI d 72 [.int (nI a), .int (en q)] (DB o i0 i1 ext) M (DB o i0 i1 ext) K := by
  cases q with
  | some p => exact s_isInN ha (hq p rfl) h1
  | none =>
    refine s_isIn ha (fun h => h1) (fun p hp e => ?_)
    exfalso
    have := nI_pos (n := p) (by omega)
    rw [← e] at this
    exact this (neg_lt (by decide) (by decide))
theorem s_has {P : Nat} (hP : M 2 2 = nI P) (hP2 : P ≤ 16) {x : Int32} (h0 : (x < 0 ∨ nI P ≤ x) → K (nI 0) M) (h1 : ∀ p, p < P → x = nI p → K (nI 1) M) : CI d 11 [.ref 2, .int x] (DB o i0 i1 ext) M (DB o i0 i1 ext) K := by
  refine b_X1_hasPlace_0 _ ⟨fun h => ⟨_, _, rfl, h0 (Or.inl h)⟩, fun h => ⟨fun h2 => ⟨_, _, rfl, h0 (Or.inr (by rw [← hP]; exact h2))⟩, fun h2 => ⟨_, _, rfl, ?_⟩⟩⟩
  rw [hP] at h2
  rcases pk_ix x (n := P) (by omega) with z | z | ⟨p, hp, rfl⟩
  · exact absurd z h
  · exact absurd z h2
  · exact h1 p hp rfl
theorem s_hasN {P p : Nat} (hP : M 2 2 = nI P) (hP2 : P ≤ 16) (hp : p < P) (h1 : K (nI 1) M) : CI d 11 [.ref 2, .int (nI p)] (DB o i0 i1 ext) M (DB o i0 i1 ext) K := by
  refine s_has hP hP2 (fun h => ?_) (fun _ _ _ => h1)
  rcases h with h | h
  · exact absurd h (nI_pos (by omega))
  · rw [n_le (by omega) (by omega)] at h; omega
variable {R C bg sp : Nat} {er : Nat → Int32}
theorem Dm.le (h : Dm R C) : R * C ≤ 16 := h.2.2.2.2
theorem s_isOpen (hF : FI M R C er bg sp) (hd : Dm R C) {x : Int32} (h0 : (x < 0 ∨ nI 16 ≤ x) → K (nI 0) M) (h1 : ∀ p, p < 16 → x = nI p → K (bI ((opn er (R * C)).testBit p)) M) : CI (d + 1) 12 [.ref 2, .int x] (DB o i0 i1 ext) M (DB o i0 i1 ext) K := by
  refine b_X1_isOpen_0 _ ?_
  rw [hF.2.2.2.1]
  refine s_isIn (opn_lt hd.le) (fun h => ⟨Or.inl rfl, _, _, rfl, h0 h⟩) (fun p hp e => ⟨?_, _, _, rfl, h1 p hp e⟩)
  cases (opn er (R * C)).testBit p
  · exact Or.inl rfl
  · exact Or.inr rfl
theorem s_isOpenN (hF : FI M R C er bg sp) (hd : Dm R C) {p : Nat} (hp : p < 16) (h1 : K (bI ((opn er (R * C)).testBit p)) M) : CI (d + 1) 12 [.ref 2, .int (nI p)] (DB o i0 i1 ext) M (DB o i0 i1 ext) K := by
  refine b_X1_isOpen_0 _ ?_
  rw [hF.2.2.2.1]
  refine s_isInN (opn_lt hd.le) hp ⟨?_, _, _, rfl, h1⟩
  cases (opn er (R * C)).testBit p
  · exact Or.inl rfl
  · exact Or.inr rfl
theorem n_ix {p k : Nat} : (nI p * nI 4) + nI k = nI (4 * p + k) := by rw [pk_mul, nI_add, Nat.mul_comm]
theorem nb16 (hd : Dm R C) {p k : Nat} (hp : p < R * C) (hk : k < 4) : ∀ q, nb R C p k = some q → q < 16 := fun q h => by have := (nb_ok hd hp hk h).1; have := hd.le; omega
theorem s_beside (hF : FI M R C er bg sp) (hd : Dm R C) {p k : Nat} (hp : p < R * C) (hk : k < 4) (h1 : K (en (nb R C p k)) M) : CI (d + 1) 13 [.ref 2, .int (nI p), .int (nI k)] (DB o i0 i1 ext) M (DB o i0 i1 ext) K := by
  have hl := hd.le
  refine b_X1_beside_0 _ _ (s_hasN hF.2.2.1 hl hp ⟨fun h => absurd h (by decide), fun _ => ⟨fun h => absurd h (nI_pos (by omega)), fun _ => ⟨fun _ => ?_, fun h => absurd ((n_lt (by omega) (by decide)).mpr hk) h⟩⟩⟩)
  rw [n_ix]
  refine ⟨n_in (by omega) (by decide), _, _, rfl, ?_⟩
  rw [n_cl (by omega), (hF.2.2.2.2.2.2 p hp).2.2 k hk]
  exact h1
theorem s_isBlind (hF : FI M R C er bg sp) (hd : Dm R C) {p F : Nat} (hp : p < R * C) (hB : F < 65536) (h1 : K (bI (decide (arn R C p &&& F = 0))) M) : CI (d + 1) 15 [.ref 2, .int (nI p), .int (nI F)] (DB o i0 i1 ext) M (DB o i0 i1 ext) K := by
  have hl := hd.le
  refine b_X1_isBlind_0 _ _ (s_hasN hF.2.2.1 hl hp ⟨fun h => absurd h (by decide), fun _ => ⟨n_in (by omega) (by decide), ?_⟩⟩)
  rw [n_cl (by omega), (hF.2.2.2.2.2.2 p hp).2.1, fa_and]
  have hb := and_lt16 (b := F) (arn_lt hd hp)
  rw [n_e0 (by omega)]
  refine ⟨fun h => ⟨_, _, rfl, ?_⟩, fun h => ⟨_, _, rfl, ?_⟩⟩
  · rw [decide_eq_true h] at h1; exact h1
  · rw [decide_eq_false h] at h1; exact h1
/-- the first of the four from k on -/
def f4 (g : Nat → Bool) (k : Nat) : Option Nat := if k ≤ 0 ∧ g 0 = true then some 0 else if k ≤ 1 ∧ g 1 = true then some 1 else if k ≤ 2 ∧ g 2 = true then some 2 else if k ≤ 3 ∧ g 3 = true then some 3 else none
theorem f4_4 (g : Nat → Bool) {k : Nat} (h : 4 ≤ k) : f4 g k = none := by unfold f4; rw [if_neg (by omega), if_neg (by omega), if_neg (by omega), if_neg (by omega)]
theorem f4_y {g : Nat → Bool} {k : Nat} (h : k < 4) (hg : g k = true) : f4 g k = some k := by
  unfold f4
  match k, h with
  | 0, _ => rw [if_pos ⟨by omega, hg⟩]
  | 1, _ => rw [if_neg (by omega), if_pos ⟨by omega, hg⟩]
  | 2, _ => rw [if_neg (by omega), if_neg (by omega), if_pos ⟨by omega, hg⟩]
  | 3, _ => rw [if_neg (by omega), if_neg (by omega), if_neg (by omega), if_pos ⟨by omega, hg⟩]
  | k + 4, h => omega
theorem f4_n {g : Nat → Bool} {k : Nat} (hg : g k = false) : f4 g k = f4 g (k + 1) := by
  unfold f4
  match k with
  | 0 => simp [hg]
  | 1 => simp [hg]
  | 2 => simp [hg]
  | 3 => simp [hg]
  | k + 4 => rw [if_neg (by omega), if_neg (by omega), if_neg (by omega), if_neg (by omega), if_neg (by omega), if_neg (by omega), if_neg (by omega), if_neg (by omega)]
theorem f4_lt {g : Nat → Bool} {k j : Nat} (h : f4 g k = some j) : j < 4 ∧ k ≤ j ∧ g j = true := by
  unfold f4 at h
  split at h
  · obtain rfl := Option.some.inj h; rename_i q; exact ⟨by omega, q.1, q.2⟩
  split at h
  · obtain rfl := Option.some.inj h; rename_i q; exact ⟨by omega, q.1, q.2⟩
  split at h
  · obtain rfl := Option.some.inj h; rename_i q; exact ⟨by omega, q.1, q.2⟩
  split at h
  · obtain rfl := Option.some.inj h; rename_i q; exact ⟨by omega, q.1, q.2⟩
  · cases h
theorem f4_none {g : Nat → Bool} {k : Nat} (h : f4 g k = none) : ∀ j, j < 4 → k ≤ j → g j = false := by
  intro j hj hk
  cases hq : g j with
  | false => rfl
  | true =>
    exfalso
    unfold f4 at h
    match j, hj with
    | 0, _ => rw [if_pos ⟨hk, hq⟩] at h; cases h
    | 1, _ =>
      split at h
      · cases h
      · rw [if_pos ⟨hk, hq⟩] at h; cases h
    | 2, _ =>
      split at h
      · cases h
      split at h
      · cases h
      · rw [if_pos ⟨hk, hq⟩] at h; cases h
    | 3, _ =>
      split at h
      · cases h
      split at h
      · cases h
      split at h
      · cases h
      · rw [if_pos ⟨hk, hq⟩] at h; cases h
    | j + 4, hj => omega
def gn (R C F p : Nat) (k : Nat) : Bool := (nf R C F p k).isSome
theorem gn_oin (R C F p k : Nat) : gn R C F p k = oin F (nb R C p k) := by
  unfold gn nf oin
  cases nb R C p k with
  | none => rfl
  | some q => cases hq : F.testBit q <;> simp [hq]
theorem s_step (hF : FI M R C er bg sp) (hd : Dm R C) {p F k : Nat} (hp : p < R * C) (hB : F < 65536) (hk : k ≤ 4) (h1 : K (en6 (f4 (gn R C F p) k)) M) : CI (d + 1) 14 [.ref 2, .int (nI p), .int (nI F), .int (nI k)] (DB o i0 i1 ext) M (DB o i0 i1 ext) K := by
  have hl := hd.le
  have loop : ∀ n k, 4 - k = n → k ≤ 4 → K (en6 (f4 (gn R C F p) k)) M → T (d + 1) (fun r => ∃ v M', r = (some (.int v), DB o i0 i1 ext, M') ∧ K v M') (14, 17, [some (.ref 2), some (.int (nI p)), some (.int (nI F)), none, some (.int (nI k)), none], [], (DB o i0 i1 ext), M) := by
    intro n
    induction n with
    | zero =>
      intro k h4 hk h1
      refine b_X1_stepThatCanBe_17 _ _ _ ⟨fun _ => ⟨_, _, rfl, ?_⟩, fun h => absurd ((n_le (by decide) (by omega)).mpr (by omega)) h⟩
      rw [f4_4 _ (by omega)] at h1; exact h1
    | succ n ih =>
      intro k h4 hk h1
      refine b_X1_stepThatCanBe_17 _ _ _ ⟨fun h => ?_, fun _ => ?_⟩
      · rw [n_le (by decide) (by omega)] at h; omega
      · rw [n_ix, n_cl (by omega), (hF.2.2.2.2.2.2 p hp).2.2 k (by omega)]
        refine ⟨n_in (by omega) (by decide), ?_⟩
        have hnb := nb16 hd hp (k := k) (by omega)
        rw [en_neg (fun q hq => by have := hnb q hq; omega)]
        have go : gn R C F p k = false → T (d + 1) (fun r => ∃ v M', r = (some (.int v), DB o i0 i1 ext, M') ∧ K v M') (14, 17, [some (.ref 2), some (.int (nI p)), some (.int (nI F)), none, some (.int (nI k + nI 1)), none], [], (DB o i0 i1 ext), M) := by
          intro hg
          rw [nI_add]
          exact ih (k + 1) (by omega) (by omega) (by rw [← f4_n hg]; exact h1)
        refine ⟨fun h => go (by rw [gn_oin, h]; rfl), fun h => ?_⟩
        cases hq : nb R C p k with
        | none => exact absurd hq h
        | some q =>
          have hq16 := hnb q hq
          show (((nI F >>> (nI q &&& 31)) &&& nI 1) = nI 1 → _) ∧ (¬ ((nI F >>> (nI q &&& 31)) &&& nI 1) = nI 1 → _)
          rw [n_t1 (by omega) (by omega)]
          refine ⟨fun h2 => ⟨_, _, rfl, ?_⟩, fun h2 => go ?_⟩
          · rw [f4_y (by omega) (by rw [gn_oin, hq]; exact h2)] at h1; exact h1
          · rw [gn_oin, hq]
            show F.testBit q = false
            cases hz : F.testBit q with
            | false => rfl
            | true => exact absurd hz h2
  refine b_X1_stepThatCanBe_0 _ _ _ ⟨fun h => absurd h (nI_pos (by omega)), fun _ => s_hasN hF.2.2.1 hl hp ⟨fun h => absurd h (by decide), fun _ => ⟨n_in (by omega) (by decide), ?_⟩⟩⟩
  rw [n_cl (by omega), (hF.2.2.2.2.2.2 p hp).2.1, fa_and]
  have hb := and_lt16 (b := F) (arn_lt hd hp)
  rw [n_e0 (by omega)]
  refine ⟨fun h => ⟨_, _, rfl, ?_⟩, fun h => loop (4 - k) k rfl hk h1⟩
  have : f4 (gn R C F p) k = none := by
    cases hf : f4 (gn R C F p) k with
    | none => rfl
    | some j =>
      obtain ⟨hj, -, hg⟩ := f4_lt hf
      have := (ar_and hd hp hB).mp h j hj
      unfold gn at hg
      rw [this] at hg
      cases hg
  rw [this] at h1
  exact h1
theorem s_freeFrom (hF : FI M R C er bg sp) {p : Nat} (hp : p < 16) (h1 : K (nI (cb (opn er (R * C)) p)) M) : CI d 16 [.ref 2, .int (nI p)] (DB o i0 i1 ext) M (DB o i0 i1 ext) K := by
  refine b_X1_freeFrom_0 _ ⟨_, _, rfl, ?_⟩
  rw [hF.2.2.2.1, n_cb (by omega)]
  exact h1
/-- what ears bring in behind t steps -/
def br (er : Nat → Int32) (sp p t : Nat) : Nat := (er p).toNatClampNeg - sp * t
theorem br_v {x : Int32} {sp t : Nat} (hx : x = -(nI 1) ∨ ∃ e, e ≤ 9 ∧ x = nI e) (hs : sp ≤ 9) (ht : t ≤ 100) : (x - nI sp * nI t).toInt = x.toInt - (sp * t : Nat) := by
  have hst : sp * t ≤ 900 := Nat.le_trans (Nat.mul_le_mul hs ht) (by decide)
  rw [pk_mul]
  have h2 : (nI (sp * t)).toInt = (sp * t : Nat) := nI_toInt (by omega)
  have h3 : -2147483648 ≤ x.toInt - (sp * t : Nat) ∧ x.toInt - (sp * t : Nat) < 2147483648 := by
    rcases hx with rfl | ⟨e, he, rfl⟩
    · rw [sb_negT (by decide)]; omega
    · rw [nI_toInt (by omega)]; omega
  rw [Int32.toInt_sub, h2]
  exact Int.bmod_eq_of_le (by omega) (by omega)
theorem br_mm {x : Int32} {sp t : Nat} (hx : x = -(nI 1) ∨ ∃ e, e ≤ 9 ∧ x = nI e) (hs : sp ≤ 9) (ht : t ≤ 100) : a_mm 0 (nI 0) (x - nI sp * nI t) = nI (x.toNatClampNeg - sp * t) := by
  have h := br_v hx hs ht
  have hst : sp * t ≤ 900 := Nat.le_trans (Nat.mul_le_mul hs ht) (by decide)
  have hc : x.toNatClampNeg ≤ 9 ∧ (x.toInt < 0 ∧ x.toNatClampNeg = 0 ∨ x.toInt = (x.toNatClampNeg : Int)) := by
    rcases hx with rfl | ⟨e, he, rfl⟩
    · exact ⟨by decide, Or.inl (by decide)⟩
    · rw [n_cl (by omega), nI_toInt (by omega)]; exact ⟨he, Or.inr rfl⟩
  apply Int32.toInt_inj.mp
  rw [nI_toInt (by omega)]
  have h0 : (nI 0).toInt = 0 := by decide
  show (if nI 0 < x - nI sp * nI t then x - nI sp * nI t else nI 0).toInt = _
  split
  · rename_i hlt
    rw [Int32.lt_iff_toInt_lt, h, h0] at hlt
    rw [h]
    rcases hc.2 with z | z <;> omega
  · rename_i hlt
    rw [Int32.lt_iff_toInt_lt, h, h0] at hlt
    rw [h0]
    rcases hc.2 with z | z <;> omega
theorem s_brings (hF : FI M R C er bg sp) (hw : WF R C er bg sp) {p t : Nat} (hp : p < R * C) (ht : t ≤ 100) (h1 : K (nI (br er sp p t)) M) : CI (d + 1) 17 [.ref 2, .int (nI p), .int (nI t)] (DB o i0 i1 ext) M (DB o i0 i1 ext) K := by
  have hl := hw.1.le
  refine b_X1_brings_0 _ _ (s_hasN hF.2.2.1 hl hp ⟨fun h => absurd h (by decide), fun _ => ⟨n_in (by omega) (by decide), _, _, rfl, ?_⟩⟩)
  rw [n_cl (by omega), (hF.2.2.2.2.2.2 p hp).1, hF.2.2.2.2.2.1, br_mm (hw.2.1 p hp) hw.2.2.2.2 ht]
  exact h1
/-- the ears of a set of places -/
def eo (er : Nat → Int32) (S : Nat) : Nat → Int32
  | 0 => nI 0
  | n + 1 => if S.testBit n then eo er S n + er n else eo er S n
theorem s_earsOf (hF : FI M R C er bg sp) (hd : Dm R C) {S : Nat} (hS : S < 65536) (h1 : K (eo er S (R * C)) M) : CI (d + 1) 18 [.ref 2, .int (nI S)] (DB o i0 i1 ext) M (DB o i0 i1 ext) K := by
  have hl := hd.le
  have loop : ∀ n k, R * C - k = n → k ≤ R * C → T (d + 1) (fun r => ∃ v M', r = (some (.int v), DB o i0 i1 ext, M') ∧ K v M') (18, 4, [some (.ref 2), some (.int (nI S)), some (.int (eo er S k)), some (.int (nI k))], [], (DB o i0 i1 ext), M) := by
    intro n
    induction n with
    | zero =>
      intro k h0 hk
      refine b_X1_earsOf_4 _ _ _ ⟨fun _ => ⟨_, _, rfl, ?_⟩, fun h => ?_⟩
      · rw [show k = R * C by omega]; exact h1
      · rw [hF.2.2.1, n_le (by omega) (by omega)] at h; omega
    | succ n ih =>
      intro k h0 hk
      have e := ih (k + 1) (by omega) (by omega)
      refine b_X1_earsOf_4 _ _ _ ⟨fun h => ?_, fun _ => ?_⟩
      · rw [hF.2.2.1, n_le (by omega) (by omega)] at h; omega
      · refine s_isInN hS (by omega) ?_
        rw [bI_0, nI_add, n_cl (by omega), (hF.2.2.2.2.2.2 k (by omega)).1]
        refine ⟨fun h => ?_, fun h => ⟨n_in (by omega) (by decide), ?_⟩⟩
        · rw [show eo er S (k + 1) = eo er S k from by show (if S.testBit k then _ else _) = _; rw [h]; rfl] at e; exact e
        · have h : S.testBit k = true := by cases hz : S.testBit k with
            | false => exact absurd hz h
            | true => rfl
          rw [show eo er S (k + 1) = eo er S k + er k from by show (if S.testBit k then _ else _) = _; rw [h]; rfl] at e; exact e
  exact b_X1_earsOf_0 _ (loop (R * C) 0 (by omega) (by omega))
end C1
