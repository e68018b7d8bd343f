-- THE CLASS: what can be come to, the bound by colours, counts of bits
section C2
variable {d : Nat} {o i0 i1 : Option Nat} {ext : ADd} {M : AMm} {K : Int32 → AMm → Prop}
theorem us {n : Nat} (hn : n < 2 ^ 32) {s : Int32} (k : Nat) (hs : ((s.toUInt32 &&& Int32.toUInt32 31).toBitVec % 32).toNat = k) : ((nI n).toUInt32 >>> (s.toUInt32 &&& Int32.toUInt32 31)).toInt32 = nI (n >>> k) := by rw [pk_ushrN hn s k hs, Nat.shiftRight_eq_div_pow]
theorem s_bc {x : Nat} (hx : x < 65536) (h1 : K (nI (pc x)) M) : CI d 0 [.int (nI x)] (DB o i0 i1 ext) M (DB o i0 i1 ext) K := by
  rw [← bcN_pc hx] at h1
  have a1 : (x >>> 1) &&& 1431655765 ≤ x := Nat.le_trans Nat.and_le_left (by rw [Nat.shiftRight_eq_div_pow]; exact Nat.div_le_self _ _)
  refine b_J6_bitCount_0 _ ?_
  rw [us (by omega) 1 (by decide), fa_and, pk_sub a1]
  have b1 : x - ((x >>> 1) &&& 1431655765) < 65536 := by omega
  have e1 : bcN x = (fun a => (fun b => (fun c => (fun e => ((e + e >>> 16) &&& 63)) (c + c >>> 8)) ((b + b >>> 4) &&& 252645135)) ((a &&& 858993459) + ((a >>> 2) &&& 858993459))) (x - ((x >>> 1) &&& 1431655765)) := rfl
  rw [e1] at h1
  generalize x - ((x >>> 1) &&& 1431655765) = a at b1 h1 ⊢
  have b2 : (a &&& 858993459) + ((a >>> 2) &&& 858993459) < 2 ^ 31 := by
    have z1 := Nat.and_le_left (n := a) (m := 858993459)
    have z2 := Nat.and_le_left (n := a >>> 2) (m := 858993459)
    have z3 : a >>> 2 ≤ a := by rw [Nat.shiftRight_eq_div_pow]; exact Nat.div_le_self _ _
    omega
  refine b_J6_bitCount_8 _ ?_
  rw [us (by omega) 2 (by decide), fa_and, fa_and, nI_add]
  dsimp only at h1
  generalize (a &&& 858993459) + ((a >>> 2) &&& 858993459) = b at b2 h1 ⊢
  refine b_J6_bitCount_18 _ ?_
  rw [us (by omega) 4 (by decide), nI_add, fa_and]
  have b3 : (b + b >>> 4) &&& 252645135 ≤ 252645135 := Nat.and_le_right
  generalize (b + b >>> 4) &&& 252645135 = c at b3 h1 ⊢
  refine b_J6_bitCount_26 _ ?_
  rw [us (by omega) 8 (by decide), nI_add]
  have b4 : c + c >>> 8 < 2 ^ 31 := by
    have z3 : c >>> 8 ≤ c := by rw [Nat.shiftRight_eq_div_pow]; exact Nat.div_le_self _ _
    omega
  generalize c + c >>> 8 = e at b4 h1 ⊢
  refine b_J6_bitCount_32 _ ?_
  rw [us (by omega) 16 (by decide), nI_add]
  refine b_J6_bitCount_38 _ ⟨_, _, rfl, ?_⟩
  rw [fa_and]
  exact h1
variable {R C bg sp : Nat} {er : Nat → Int32}
theorem s_colour (hF : FI M R C er bg sp) (hd : Dm R C) {p : Nat} (hp : p < 16) (h1 : K (nI (col C p)) M) : CI d 21 [.ref 2, .int (nI p)] (DB o i0 i1 ext) M (DB o i0 i1 ext) K := by
  have hC := hd.2.2.1
  have hC5 := hd.2.2.2.1
  refine b_X1_colour_0 _ ?_
  rw [hF.2.1]
  have hC0 : ¬ nI C = 0 := by rw [n_e0 (by omega)]; omega
  refine ⟨fun h => ?_, fun _ => ⟨hC0, hC0, _, _, rfl, ?_⟩⟩
  · rw [← nI_0, n_le (by omega) (by decide)] at h; omega
  · rw [pk_rem (by omega) hC (by omega), pk_div (by omega) hC (by omega), nI_add]
    have z1 : p / C ≤ p := Nat.div_le_self _ _
    have z2 : p % C ≤ p := Nat.mod_le _ _
    rw [pk_rem (by omega) (by decide) (by decide)]
    exact h1
/-- a set and what is beside its places 0 .. n - 1 over F -/
def rst (R C F S : Nat) : Nat → Nat
  | 0 => S
  | n + 1 => if S.testBit n then rst R C F S n ||| (arn R C n &&& F) else rst R C F S n
def rit (R C F S : Nat) : Nat → Nat
  | 0 => S
  | n + 1 => rit R C F (rst R C F S (R * C)) n
theorem or_lt16 {a b : Nat} (ha : a < 65536) (hb : b < 65536) : a ||| b < 65536 := lt16_t fun i hi => by rw [Nat.testBit_or, t_lt16 ha hi, t_lt16 hb hi]; rfl
theorem rst_lt (hd : Dm R C) {F S : Nat} (hS : S < 65536) : ∀ n, n ≤ R * C → rst R C F S n < 65536
  | 0, _ => hS
  | n + 1, h => by
    unfold rst
    split
    · exact or_lt16 (rst_lt hd hS n (by omega)) (and_lt16 (arn_lt hd (by omega)))
    · exact rst_lt hd hS n (by omega)
theorem rit_fix {F S : Nat} (h : rst R C F S (R * C) = S) : ∀ n, rit R C F S n = S
  | 0 => rfl
  | n + 1 => by show rit R C F (rst R C F S (R * C)) n = S; rw [h]; exact rit_fix h n
theorem s_reach (hF : FI M R C er bg sp) (hd : Dm R C) {p F : Nat} (hp : p < 16) (hB : F < 65536) (h1 : K (nI (rit R C F (2 ^ p) 16)) M) : CI (d + 1) 19 [.ref 2, .int (nI p), .int (nI F)] (DB o i0 i1 ext) M (DB o i0 i1 ext) K := by
  have hl := hd.le
  have inner : ∀ (S rd : Nat), S < 65536 → (∀ n, rst R C F S (R * C) = n → (n = S → K (nI S) M) ∧ (n ≠ S → T (d + 1) (fun r => ∃ v M', r = (some (.int v), DB o i0 i1 ext, M') ∧ K v M') (19, 6, [some (.ref 2), none, some (.int (nI F)), some (.int (nI n)), some (.int (nI rd + nI 1)), none, none], [], (DB o i0 i1 ext), M))) → ∀ n k, R * C - k = n → k ≤ R * C → T (d + 1) (fun r => ∃ v M', r = (some (.int v), DB o i0 i1 ext, M') ∧ K v M') (19, 13, [some (.ref 2), none, some (.int (nI F)), some (.int (nI S)), some (.int (nI rd)), some (.int (nI (rst R C F S k))), some (.int (nI k))], [], (DB o i0 i1 ext), M) := by
    intro S rd hS hout n
    induction n with
    | zero =>
      intro k h0 hk
      have hkk : k = R * C := by omega
      subst hkk
      have hlt := rst_lt hd hS (F := F) (R * C) (Nat.le_refl _)
      refine b_X1_reach_13 _ _ _ _ _ ⟨fun _ => ?_, fun h => ?_⟩
      · rw [n_eq (by omega) (by omega)]
        exact ⟨fun h => ⟨_, _, rfl, (hout _ rfl).1 h⟩, fun h => (hout _ rfl).2 h⟩
      · rw [hF.2.2.1] at h; exact absurd (nI_le (Nat.le_refl _) (by omega)) h
    | succ n ih =>
      intro k h0 hk
      have e := ih (k + 1) (by omega) (by omega)
      refine b_X1_reach_13 _ _ _ _ _ ⟨fun h => ?_, fun _ => ?_⟩
      · rw [hF.2.2.1, n_le (by omega) (by omega)] at h; omega
      · refine s_isInN hS (by omega) ?_
        rw [bI_0, nI_add, n_cl (by omega), (hF.2.2.2.2.2.2 k (by omega)).2.1, fa_and, fa_or]
        refine ⟨fun h => ?_, fun h => ⟨n_in (by omega) (by decide), ?_⟩⟩
        · rw [show rst R C F S (k + 1) = rst R C F S k from by show (if S.testBit k then _ else _) = _; rw [h]; rfl] at e; exact e
        · have h : S.testBit k = true := by cases hz : S.testBit k with
            | false => exact absurd hz h
            | true => rfl
          rw [show rst R C F S (k + 1) = rst R C F S k ||| (arn R C k &&& F) from by show (if S.testBit k then _ else _) = _; rw [h]; rfl] at e; exact e
  have outer : ∀ n rd S, 16 - rd = n → rd ≤ 16 → S < 65536 → K (nI (rit R C F S n)) M → T (d + 1) (fun r => ∃ v M', r = (some (.int v), DB o i0 i1 ext, M') ∧ K v M') (19, 6, [some (.ref 2), none, some (.int (nI F)), some (.int (nI S)), some (.int (nI rd)), none, none], [], (DB o i0 i1 ext), M) := by
    intro n
    induction n with
    | zero =>
      intro rd S h0 hr hS hk
      refine b_X1_reach_6 _ _ _ ⟨fun _ => ⟨_, _, rfl, hk⟩, fun h => ?_⟩
      rw [n_le (by decide) (by omega)] at h; omega
    | succ n ih =>
      intro rd S h0 hr hS hk
      refine b_X1_reach_6 _ _ _ ⟨fun h => ?_, fun _ => ?_⟩
      · rw [n_le (by decide) (by omega)] at h; omega
      · refine inner S rd hS (fun m hm => ⟨fun h => ?_, fun h => ?_⟩) (R * C) 0 (by omega) (by omega)
        · rw [rit_fix (by rw [hm, h])] at hk; exact hk
        · rw [nI_add]
          refine ih (rd + 1) m (by omega) (by omega) (by rw [← hm]; exact rst_lt hd hS _ (Nat.le_refl _)) ?_
          rw [← hm]; exact hk
  refine b_X1_reach_0 _ _ ?_
  rw [n_shl p (by omega)]
  refine outer 16 0 (2 ^ p) rfl (by decide) ?_ h1
  exact Nat.lt_of_lt_of_le (Nat.pow_lt_pow_right (a := 2) (by decide) hp) (by decide)
-- what rit is: the least set with p that is closed under steps over F
def Cls (R C F S : Nat) : Prop := ∀ p q k, p < R * C → k < 4 → S.testBit p = true → nf R C F p k = some q → S.testBit q = true
theorem rst_t (hd : Dm R C) {F S q : Nat} (hq : q < 16) : ∀ n, n ≤ R * C → ((rst R C F S n).testBit q = true ↔ S.testBit q = true ∨ ∃ p k, p < n ∧ k < 4 ∧ S.testBit p = true ∧ nf R C F p k = some q)
  | 0, _ => by
    show S.testBit q = true ↔ _
    constructor
    · exact Or.inl
    · rintro (h | ⟨p, k, h, -⟩)
      · exact h
      · omega
  | n + 1, h => by
    have ih := rst_t hd (F := F) (S := S) hq n (by omega)
    unfold rst
    split
    · rename_i hs
      rw [Nat.testBit_or, Bool.or_eq_true, ih, Nat.testBit_and, Bool.and_eq_true, arn_t hd (by omega) hq]
      constructor
      · rintro ((h1 | ⟨p, k, h1, h2⟩) | ⟨⟨k, h1, h2⟩, h3⟩)
        · exact Or.inl h1
        · exact Or.inr ⟨p, k, by omega, h2⟩
        · exact Or.inr ⟨n, k, by omega, h1, hs, nf_some.mpr ⟨h2, h3⟩⟩
      · rintro (h1 | ⟨p, k, h1, h2, h3, h4⟩)
        · exact Or.inl (Or.inl h1)
        · rcases Nat.lt_or_ge p n with z | z
          · exact Or.inl (Or.inr ⟨p, k, z, h2, h3, h4⟩)
          · obtain rfl : p = n := by omega
            obtain ⟨a1, a2⟩ := nf_some.mp h4
            exact Or.inr ⟨⟨k, h2, a1⟩, a2⟩
    · rename_i hs
      rw [ih]
      constructor
      · rintro (h1 | ⟨p, k, h1, h2⟩)
        · exact Or.inl h1
        · exact Or.inr ⟨p, k, by omega, h2⟩
      · rintro (h1 | ⟨p, k, h1, h2, h3, h4⟩)
        · exact Or.inl h1
        · rcases Nat.lt_or_ge p n with z | z
          · exact Or.inr ⟨p, k, z, h2, h3, h4⟩
          · obtain rfl : p = n := by omega
            exact absurd h3 hs
theorem rit_lt (hd : Dm R C) {F : Nat} : ∀ n {S : Nat}, S < 65536 → rit R C F S n < 65536
  | 0, _, h => h
  | n + 1, _, h => rit_lt hd n (rst_lt hd h _ (Nat.le_refl _))
theorem rit_le (hd : Dm R C) {F : Nat} : ∀ n {S Z : Nat}, Cls R C F Z → (∀ i, i < 16 → S.testBit i = true → Z.testBit i = true) → ∀ i, i < 16 → (rit R C F S n).testBit i = true → Z.testBit i = true
  | 0, _, _, _, h, i, hi, hs => h i hi hs
  | n + 1, S, Z, hc, h, i, hi, hs => by
    refine rit_le hd n hc (fun q hq hz => ?_) i hi hs
    rcases (rst_t hd hq (R * C) (Nat.le_refl _)).mp hz with z | ⟨p, k, z1, z2, z3, z4⟩
    · exact h q hq z
    · have hl := hd.le
      exact hc p q k z1 z2 (h p (by omega) z3) z4
theorem rit_in (hd : Dm R C) {F : Nat} : ∀ n {S : Nat} (i : Nat), i < 16 → S.testBit i = true → (rit R C F S n).testBit i = true
  | 0, _, _, _, h => h
  | n + 1, S, i, hi, h => rit_in hd n i hi ((rst_t hd hi (R * C) (Nat.le_refl _)).mpr (Or.inl h))
theorem fix_cls (hd : Dm R C) {F S : Nat} (h : rst R C F S (R * C) = S) : Cls R C F S := by
  intro p q k hp hk hs hn
  have hq := (nb_ok hd hp hk (nf_some.mp hn).1).1
  have hl := hd.le
  rw [← h]
  exact (rst_t hd (by omega) (R * C) (Nat.le_refl _)).mpr (Or.inr ⟨p, k, hp, hk, hs, hn⟩)
theorem pc_grow {a b : Nat} (ha : a < 65536) (hb : b < 65536) (h : ∀ i, i < 16 → a.testBit i = true → b.testBit i = true) (hn : b ≠ a) : pc a < pc b := by
  obtain ⟨i, hi, h1, h2⟩ : ∃ i, i < 16 ∧ a.testBit i = false ∧ b.testBit i = true := by
    apply Classical.byContradiction
    intro hc
    apply hn
    refine ext16 hb ha fun i hi => ?_
    cases h1 : a.testBit i with
    | true => exact h i hi h1
    | false =>
      cases h2 : b.testBit i with
      | false => rfl
      | true => exact absurd ⟨i, hi, h1, h2⟩ hc
  rw [← pc_cb hi h2]
  have : pc a ≤ pc (cb b i) := pc_sub fun j hj hq => by
    rw [cb_t, h j hj hq]
    have : i ≠ j := fun e => by subst e; rw [h1] at hq; cases hq
    simp [this]
  omega
theorem rit_cls (hd : Dm R C) {F : Nat} : ∀ n {S : Nat}, S < 65536 → 16 < pc S + n → Cls R C F (rit R C F S n)
  | 0, S, _, h => by have := pc_le S; omega
  | n + 1, S, hS, h => by
    have hlt := rst_lt hd hS (F := F) (R * C) (Nat.le_refl _)
    by_cases hq : rst R C F S (R * C) = S
    · rw [rit_fix hq]; exact fix_cls hd hq
    · have := pc_grow hS hlt (fun i hi hs => (rst_t hd hi (R * C) (Nat.le_refl _)).mpr (Or.inl hs)) hq
      exact rit_cls hd n hlt (by omega)
/-- what can be come to from p over F, p too -/
def rch (R C F p : Nat) : Nat := rit R C F (2 ^ p) 16
theorem p2_lt {p : Nat} (hp : p < 16) : 2 ^ p < 65536 := Nat.lt_of_lt_of_le (Nat.pow_lt_pow_right (a := 2) (by decide) hp) (by decide)
theorem rch_ok (hd : Dm R C) {F p : Nat} (hp : p < 16) : rch R C F p < 65536 ∧ (rch R C F p).testBit p = true ∧ Cls R C F (rch R C F p) ∧ ∀ Z, Cls R C F Z → Z.testBit p = true → ∀ i, i < 16 → (rch R C F p).testBit i = true → Z.testBit i = true := by
  have h0 := p2_lt hp
  refine ⟨rit_lt hd 16 h0, rit_in hd 16 p hp (by rw [t2]; simp), rit_cls hd 16 h0 ?_, fun Z hc hz i hi hs => rit_le hd 16 hc (fun q hq hs => ?_) i hi hs⟩
  · have := pc_pos hp (show (2 ^ p).testBit p = true by rw [t2]; simp)
    omega
  · rw [t2, decide_eq_true_eq] at hs
    subst hs; exact hz
/-- of a set, the places of the colour c -/
def cc (C S c : Nat) : Nat → Nat
  | 0 => 0
  | n + 1 => if S.testBit n = true ∧ col C n = c then cc C S c n + 1 else cc C S c n
theorem cc_le (C S c : Nat) : ∀ n, cc C S c n ≤ n
  | 0 => Nat.le_refl _
  | n + 1 => by have := cc_le C S c n; unfold cc; split <;> omega
theorem col_lt (C p : Nat) : col C p < 2 := Nat.mod_lt _ (by decide)
def bnd (R C op p : Nat) : Nat := if cc C (rch R C op p) (col C p) (R * C) ≤ cc C (rch R C op p) (1 - col C p) (R * C) then 2 * cc C (rch R C op p) (col C p) (R * C) else 2 * cc C (rch R C op p) (1 - col C p) (R * C) + 1
theorem s_boundFrom (hF : FI M R C er bg sp) (hd : Dm R C) {p : Nat} (hp : p < 16) (h1 : K (nI (bnd R C (opn er (R * C)) p)) M) : CI (d + 2) 20 [.ref 2, .int (nI p)] (DB o i0 i1 ext) M (DB o i0 i1 ext) K := by
  have hl := hd.le
  refine b_X1_boundFrom_0 _ ?_
  rw [hF.2.2.2.1]
  refine s_reach hF hd hp (opn_lt hl) ?_
  have hr := rch_ok hd (F := opn er (R * C)) hp
  change T (d + 2) _ (20, 12, [some (.ref 2), some (.int (nI p)), some (.int (nI (rch R C (opn er (R * C)) p))), some (.int (nI 0)), some (.int (nI 0)), some (.int (nI 0))], [], (DB o i0 i1 ext), M)
  unfold bnd at h1
  generalize rch R C (opn er (R * C)) p = S at hr h1 ⊢
  have loop : ∀ n k, R * C - k = n → k ≤ R * C → T (d + 2) (fun r => ∃ v M', r = (some (.int v), DB o i0 i1 ext, M') ∧ K v M') (20, 12, [some (.ref 2), some (.int (nI p)), some (.int (nI S)), some (.int (nI (cc C S (col C p) k))), some (.int (nI (cc C S (1 - col C p) k))), some (.int (nI k))], [], (DB o i0 i1 ext), M) := by
    intro n
    induction n with
    | zero =>
      intro k h0 hk
      obtain rfl : k = R * C := by omega
      have z1 := cc_le C S (col C p) (R * C)
      have z2 := cc_le C S (1 - col C p) (R * C)
      refine b_X1_boundFrom_12 _ _ _ _ _ ⟨fun _ => ?_, fun h => ?_⟩
      · rw [n_lt (by omega) (by omega), pk_mul, pk_mul, nI_add]
        refine ⟨fun h => ⟨_, _, rfl, ?_⟩, fun h => ⟨_, _, rfl, ?_⟩⟩
        · rw [if_neg (by omega)] at h1; exact h1
        · rw [if_pos (by omega)] at h1; exact h1
      · rw [hF.2.2.1] at h; exact absurd (nI_le (Nat.le_refl _) (by omega)) h
    | succ n ih =>
      intro k h0 hk
      have e := ih (k + 1) (by omega) (by omega)
      refine b_X1_boundFrom_12 _ _ _ _ _ ⟨fun h => ?_, fun _ => ?_⟩
      · rw [hF.2.2.1, n_le (by omega) (by omega)] at h; omega
      · refine s_isInN hr.1 (by omega) ?_
        rw [bI_0]
        refine ⟨fun h => ?_, fun h => ?_⟩
        · rw [nI_add]
          have e1 : ∀ c, cc C S c (k + 1) = cc C S c k := fun c => by show (if S.testBit k = true ∧ _ then _ else _) = _; rw [h]; simp
          rw [e1, e1] at e; exact e
        · have h : S.testBit k = true := by cases hz : S.testBit k with
            | false => exact absurd hz h
            | true => rfl
          refine s_colour hF hd (by omega) (s_colour hF hd hp ?_)
          have q1 := col_lt C k
          have q2 := col_lt C p
          rw [n_eq (by omega) (by omega), nI_add, nI_add, nI_add]
          refine ⟨fun hc => ?_, fun hc => ?_⟩
          · rw [show cc C S (col C p) (k + 1) = cc C S (col C p) k + 1 from by show (if S.testBit k = true ∧ _ then _ else _) = _; rw [if_pos ⟨h, hc⟩], show cc C S (1 - col C p) (k + 1) = cc C S (1 - col C p) k from by show (if S.testBit k = true ∧ _ then _ else _) = _; rw [if_neg (by omega)]] at e
            exact e
          · rw [show cc C S (col C p) (k + 1) = cc C S (col C p) k from by show (if S.testBit k = true ∧ _ then _ else _) = _; rw [if_neg (by omega)], show cc C S (1 - col C p) (k + 1) = cc C S (1 - col C p) k + 1 from by show (if S.testBit k = true ∧ _ then _ else _) = _; rw [if_pos ⟨h, by omega⟩]] at e
            exact e
  exact loop (R * C) 0 (by omega) (by omega)
end C2
