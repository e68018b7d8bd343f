-- THE CLASS: drawn ways
section D1
variable {R C F p : Nat}
/-- the places that a step can lead to, from the k-th step on -/
def nl (R C F p : Nat) : Nat → Nat → List Nat
  | 0, _ => []
  | n + 1, k => match nf R C F p k with
    | some q => q :: nl R C F p n (k + 1)
    | none => nl R C F p n (k + 1)
theorem nl_y {n k q : Nat} (h : nf R C F p k = some q) : nl R C F p (n + 1) k = q :: nl R C F p n (k + 1) := by
  show (match nf R C F p k with
    | some q => q :: nl R C F p n (k + 1)
    | none => nl R C F p n (k + 1)) = _
  rw [h]
theorem nl_n {n k : Nat} (h : nf R C F p k = none) : nl R C F p (n + 1) k = nl R C F p n (k + 1) := by
  show (match nf R C F p k with
    | some q => q :: nl R C F p n (k + 1)
    | none => nl R C F p n (k + 1)) = _
  rw [h]
/-- these places as bits: of the first steps -/
def ao (R C F p : Nat) : Nat → Nat
  | 0 => 0
  | n + 1 => match nf R C F p n with
    | some q => sb (ao R C F p n) q
    | none => ao R C F p n
theorem ao_t (i : Nat) : ∀ n, (ao R C F p n).testBit i = true ↔ ∃ j, j < n ∧ nf R C F p j = some i
  | 0 => by
    show (0 : Nat).testBit i = true ↔ _
    rw [Nat.zero_testBit]
    constructor
    · intro h; cases h
    · rintro ⟨j, h, -⟩; omega
  | n + 1 => by
    have ih := ao_t i n
    unfold ao
    split
    · rename_i q hq
      rw [sb_t, Bool.or_eq_true, ih, decide_eq_true_eq]
      constructor
      · rintro (⟨j, h1, h2⟩ | rfl)
        · exact ⟨j, by omega, h2⟩
        · exact ⟨n, by omega, hq⟩
      · rintro ⟨j, h1, h2⟩
        by_cases hj : j = n
        · subst hj; rw [hq] at h2; exact Or.inr (Option.some.inj h2)
        · exact Or.inl ⟨j, by omega, h2⟩
    · rename_i hq
      rw [ih]
      constructor
      · rintro ⟨j, h1, h2⟩; exact ⟨j, by omega, h2⟩
      · rintro ⟨j, h1, h2⟩
        by_cases hj : j = n
        · subst hj; rw [hq] at h2; cases h2
        · exact ⟨j, by omega, h2⟩
theorem nf16 (hd : Dm R C) (hp : p < R * C) {k q : Nat} (hk : k < 4) (h : nf R C F p k = some q) : q < 16 := nb16 hd hp hk q (nf_some.mp h).1
theorem ao_4 (hd : Dm R C) (hp : p < R * C) : ao R C F p 4 = arn R C p &&& F := by
  have h1 : ao R C F p 4 < 65536 := lt16_t fun i hi => by
    cases hq : (ao R C F p 4).testBit i with
    | false => rfl
    | true =>
      obtain ⟨j, a, b⟩ := (ao_t i 4).mp hq
      have := nf16 hd hp a b
      omega
  refine ext16 h1 (and_lt16 (arn_lt hd hp)) fun i hi => ?_
  rw [Nat.testBit_and]
  apply Bool.eq_iff_iff.mpr
  rw [ao_t, Bool.and_eq_true, arn_t hd hp hi]
  constructor
  · rintro ⟨j, a, b⟩
    obtain ⟨c, e⟩ := nf_some.mp b
    exact ⟨⟨j, a, c⟩, e⟩
  · rintro ⟨⟨j, a, b⟩, c⟩
    exact ⟨j, a, nf_some.mpr ⟨b, c⟩⟩
theorem nl_app : ∀ (n k : Nat), nl R C F p (n + 1) k = nl R C F p n k ++ (match nf R C F p (k + n) with
    | some q => [q]
    | none => [])
  | 0, k => by
    cases h : nf R C F p k with
    | some q => rw [nl_y h]; rfl
    | none => rw [nl_n h]; rfl
  | n + 1, k => by
    have ih := nl_app n (k + 1)
    rw [show k + 1 + n = k + (n + 1) by omega] at ih
    cases h : nf R C F p k with
    | some q => rw [nl_y h, nl_y h, ih]; rfl
    | none => rw [nl_n h, nl_n h, ih]
theorem ao_pc (hd : Dm R C) (hp : p < R * C) : ∀ n, n ≤ 4 → pc (ao R C F p n) = (nl R C F p n 0).length
  | 0, _ => pc_0
  | n + 1, h => by
    have ih := ao_pc hd hp n (by omega)
    rw [nl_app, Nat.zero_add, List.length_append, ← ih]
    show pc (match nf R C F p n with
      | some q => sb (ao R C F p n) q
      | none => ao R C F p n) = _
    cases hq : nf R C F p n with
    | none => rfl
    | some q =>
      dsimp only
      rw [pc_sb (nf16 hd hp (by omega) hq)]
      · rfl
      · cases hz : (ao R C F p n).testBit q with
        | false => rfl
        | true =>
          obtain ⟨j, a, b⟩ := (ao_t q n).mp hz
          have := nb_inj hd hp (by omega) (by omega) (nf_some.mp b).1 (nf_some.mp hq).1
          omega
theorem nl_len (hd : Dm R C) (hp : p < R * C) : (nl R C F p 4 0).length = pc (arn R C p &&& F) := by rw [← ao_4 hd hp, ao_pc hd hp 4 (by decide)]
theorem nl_mem : ∀ (n k q : Nat), q ∈ nl R C F p n k → ∃ j, k ≤ j ∧ j < k + n ∧ nf R C F p j = some q
  | 0, k, q, h => by cases h
  | n + 1, k, q, h => by
    cases hz : nf R C F p k with
    | some x =>
      rw [nl_y hz] at h
      rcases List.mem_cons.mp h with rfl | h
      · exact ⟨k, by omega, by omega, hz⟩
      · obtain ⟨j, a, b, c⟩ := nl_mem n (k + 1) q h
        exact ⟨j, by omega, by omega, c⟩
    | none =>
      rw [nl_n hz] at h
      obtain ⟨j, a, b, c⟩ := nl_mem n (k + 1) q h
      exact ⟨j, by omega, by omega, c⟩
/-- the place that a number draws -/
def dst (R C F p x : Nat) : Nat := ((nl R C F p 4 0)[x % (nl R C F p 4 0).length]?).getD p
theorem dst_ok (hd : Dm R C) (hp : p < R * C) {x : Nat} (h : ¬ arn R C p &&& F = 0) : ∃ k, k < 4 ∧ nf R C F p k = some (dst R C F p x) := by
  have h0 : 0 < (nl R C F p 4 0).length := by
    rw [nl_len hd hp]
    apply Nat.pos_of_ne_zero
    intro hz
    exact h (pc_zero (and_lt16 (arn_lt hd hp)) hz)
  have h1 := Nat.mod_lt x h0
  unfold dst
  rw [List.getElem?_eq_getElem h1, Option.getD_some]
  obtain ⟨j, -, b, c⟩ := nl_mem 4 0 _ (List.getElem_mem h1)
  exact ⟨j, by omega, c⟩
/-- a drawn way: how much is cut, where it ends -/
def dr (R C : Nat) : Nat → Nat → Nat → Nat → Nat → Nat × Nat
  | 0, _, p, _, c => (c, p)
  | n + 1, F, p, x, c => if arn R C p &&& F = 0 then (c, p) else dr R C n (cb F (dst R C F p ((75 * x + 74) % 65537))) (dst R C F p ((75 * x + 74) % 65537)) ((75 * x + 74) % 65537) (c + 1)
variable {d : Nat} {o i0 i1 : Option Nat} {ext : ADd} {M : AMm} {bg sp : Nat} {er : Nat → Int32} {K : Int32 → AMm → Prop}
theorem s_stepNumbered (hF : FI M R C er bg sp) (hd : Dm R C) (hp : p < R * C) (hB : F < 65536) {x : Nat} (hx : x < 2 ^ 31) (hb : ¬ arn R C p &&& F = 0) (h1 : K (nI (dst R C F p x)) M) : CI (d + 2) 22 [.ref 2, .int (nI p), .int (nI F), .int (nI x)] (DB o i0 i1 ext) M (DB o i0 i1 ext) K := by
  have hl := hd.le
  have hlen := nl_len (F := F) hd hp
  have h0 : 0 < (nl R C F p 4 0).length := by
    rw [hlen]
    apply Nat.pos_of_ne_zero
    intro hz
    exact hb (pc_zero (and_lt16 (arn_lt hd hp)) hz)
  have hle := pc_le (arn R C p &&& F)
  refine b_X1_stepNumbered_0 _ _ _ (s_hasN hF.2.2.1 hl hp ⟨fun h => absurd h (by decide), fun _ => ⟨n_in (by omega) (by decide), ?_⟩⟩)
  rw [n_cl (by omega), (hF.2.2.2.2.2.2 p hp).2.1, fa_and]
  refine s_bc (and_lt16 (arn_lt hd hp)) ?_
  rw [← hlen] at hle ⊢
  have hne : ¬ nI (nl R C F p 4 0).length = 0 := by rw [n_e0 (by omega)]; omega
  refine ⟨fun h => absurd h hne, fun _ => ⟨hne, ?_⟩⟩
  rw [pk_rem hx h0 (by omega)]
  have loop : ∀ n k l, 4 - k = n → k ≤ 4 → l < 100 → K (nI (((nl R C F p n k)[l]?).getD p)) M → T (d + 2) (fun r => ∃ v M', r = (some (.int v), DB o i0 i1 ext, M') ∧ K v M') (22, 24, [some (.ref 2), some (.int (nI p)), some (.int (nI F)), none, none, some (.int (nI l)), some (.int (nI k)), none], [], (DB o i0 i1 ext), M) := by
    intro n
    induction n with
    | zero =>
      intro k l e1 hk h100 hK
      exact b_X1_stepNumbered_24 _ _ _ _ ⟨fun _ => ⟨_, _, rfl, hK⟩, fun h => absurd ((n_le (by decide) (by omega)).mpr (by omega)) h⟩
    | succ n ih =>
      intro k l e1 hk h100 hK
      refine b_X1_stepNumbered_24 _ _ _ _ ⟨fun h => ?_, fun _ => ?_⟩
      · rw [n_le (by decide) (by omega)] at h; omega
      · refine s_beside hF hd hp (by omega) (s_isInE hB (nb16 hd hp (by omega)) ?_)
        rw [bI_0, nI_add, ← gn_oin, n_e0 (by omega)]
        unfold gn
        cases hq : nf R C F p k with
        | none =>
          refine ⟨fun _ => ih (k + 1) l (by omega) (by omega) h100 (by rw [nl_n hq] at hK; exact hK), fun h => absurd rfl h⟩
        | some q =>
          refine ⟨fun h => (by cases h), fun _ => ⟨fun hz => ⟨_, _, rfl, ?_⟩, fun hz => ?_⟩⟩
          · subst hz
            rw [nl_y hq] at hK
            rw [(nf_some.mp hq).1]
            exact hK
          · rw [nl_y hq] at hK
            obtain ⟨l, rfl⟩ : ∃ m, l = m + 1 := ⟨l - 1, by omega⟩
            rw [show nI (l + 1) + -(nI 1) = nI l from by rw [← nI_add, Int32.add_assoc, Int32.add_right_neg, Int32.add_zero]]
            exact ih (k + 1) l (by omega) (by omega) (by omega) hK
  have := Nat.mod_lt x h0
  exact loop 4 0 _ rfl (by decide) (by omega) h1
theorem s_drawn {Q : ARs → Prop} {x : Int32} {y : Int32} (hF : FI M R C er bg sp) (hw : WF R C er bg sp)
    (h0 : (x < 0 ∨ nI 9999 < x ∨ y < 0 ∨ nI 1 < y) → Q (some (.int (-(nI 2))), DB o i0 i1 ext, M))
    (h1 : ∀ s w, s ≤ 9999 → w < 2 → x = nI s → y = nI w → Q (some (.int (nI (if w = 0 then (dr R C 15 (cb (opn er (R * C)) bg) bg s 1).1 else (dr R C 15 (cb (opn er (R * C)) bg) bg s 1).2))), DB o i0 i1 ext, M)) : T (d + 3) Q (ent 57 [.ref 0, .int x, .int y] (DB o i0 i1 ext) M) := by
  have hl := hw.1.le
  refine b_X4_drawn_0 _ _ ⟨fun h => h0 (Or.inl h), fun a1 => ⟨fun h => h0 (Or.inr (Or.inl h)), fun a2 => ⟨fun h => h0 (Or.inr (Or.inr (Or.inl h))), fun a3 => ⟨fun a4 => ?_, fun h => h0 (Or.inr (Or.inr (Or.inr (Int32.not_le.mp h))))⟩⟩⟩⟩
  obtain ⟨s, hs, rfl⟩ := nI_of a1
  obtain ⟨w, hw2, rfl⟩ := nI_of a3
  rw [n_lt (by decide) hs] at a2
  rw [n_le hw2 (by decide)] at a4
  have h1 := h1 s w (by omega) (by omega) rfl rfl
  rw [hF.2.2.2.2.1]
  have hbg := hw.2.2.1
  refine s_freeFrom hF (by omega) ?_
  have loop : ∀ n F p x c, 16 - c = n → c ≤ 16 → F < 65536 → p < R * C → x < 65537 → Q (some (.int (nI (if w = 0 then (dr R C n F p x c).1 else (dr R C n F p x c).2))), DB o i0 i1 ext, M) → T (d + 3) Q (57, 25, [some (.ref 0), none, some (.int (nI w)), some (.int (nI x)), some (.int (nI p)), some (.int (nI F)), some (.int (nI c))], [], (DB o i0 i1 ext), M) := by
    intro n
    induction n with
    | zero =>
      intro F p x c e1 hc hF2 hp hx hK
      refine b_X4_drawn_25 _ _ _ _ _ ⟨fun _ => ?_, fun h => absurd ((n_le (by decide) (by omega)).mpr (by omega)) h⟩
      rw [n_e0 (by omega)]
      exact ⟨fun hz => by rw [if_pos hz] at hK; exact hK, fun hz => by rw [if_neg hz] at hK; exact hK⟩
    | succ n ih =>
      intro F p x c e1 hc hF2 hp hx hK
      refine b_X4_drawn_25 _ _ _ _ _ ⟨fun h => ?_, fun _ => s_isBlind hF hw.1 hp hF2 ?_⟩
      · rw [n_le (by decide) (by omega)] at h; omega
      · rw [bI_0, pk_mul, nI_add, pk_rem (by omega) (by decide) (by decide), n_e0 (by omega), nI_add]
        by_cases hz : arn R C p &&& F = 0
        · rw [decide_eq_true hz]
          rw [show dr R C (n + 1) F p x c = (c, p) from if_pos hz] at hK
          exact ⟨fun h => (by cases h), fun _ => ⟨fun hz => by rw [if_pos hz] at hK; exact hK, fun hz => by rw [if_neg hz] at hK; exact hK⟩⟩
        · rw [decide_eq_false hz]
          rw [show dr R C (n + 1) F p x c = dr R C n _ _ _ (c + 1) from if_neg hz] at hK
          have hm := Nat.mod_lt (75 * x + 74) (show 0 < 65537 by decide)
          generalize (75 * x + 74) % 65537 = x' at hK hm ⊢
          refine ⟨fun _ => s_stepNumbered hF hw.1 hp hF2 (by omega) hz ?_, fun h => absurd rfl h⟩
          obtain ⟨k, hk, hq⟩ := dst_ok (x := x') hw.1 hp hz
          have hq2 := (nb_ok hw.1 hp hk (nf_some.mp hq).1).1
          rw [n_cb (by omega)]
          exact ih _ _ x' (c + 1) (by omega) (by omega) (cb_lt hF2) hq2 hm hK
  exact loop 15 _ bg s 1 rfl (by decide) (cb_lt (opn_lt hl)) hbg (by omega) h1
end D1
