-- RULES of the abstract machine: locals that nobody reads, calls, switches
def a_sL (L' : ALo) (x : AOu) : AOu := match x with
  | .inl s => .inl (s.1, s.2.1, L', s.2.2.2)
  | y => y
def a_lo : Instr → Bool
  | .iload _ | .iload_n _ | .aload_n _ | .lload _ | .lload_n _ | .istore _ | .istore_n _ | .astore_n _ | .iinc _ _ => true
  | _ => false
theorem a_call_sL {k na : Nat} {st : List Value} {L' : ALo} : a_call k na st = (a_call k na st).map (a_sL L') := by
  unfold a_call
  split <;> rfl
theorem a_callv_sL {D : ADd} {k na ci : Nat} {st : List Value} {L' : ALo} : a_callv D k na ci st = (a_callv D k na ci st).map (a_sL L') := by
  unfold a_callv
  split
  · split
    · split
      · exact a_call_sL
      · rfl
    · rfl
  · rfl
theorem a_calls_sL {k na : Nat} {st : List Value} {L' : ALo} : a_calls k na st = (a_calls k na st).map (a_sL L') := by
  unfold a_calls
  split
  · split
    · exact a_call_sL
    · rfl
  · rfl
theorem a_ex_sL {ins : Instr} (hn : a_lo ins = false) {aux : List Nat} {k j : Nat} {L L' : ALo} {st : List Value} {D : ADd} {M : AMm} : a_ex ins aux k j L' st D M = (a_ex ins aux k j L st D M).map (a_sL L') := by
  cases ins with
  | invokevirtual i => exact a_callv_sL
  | invokestatic i =>
    dsimp only [a_ex]
    split
    · exact a_call_sL
    · repeat' (first | rfl | split)
    · repeat' (first | rfl | split)
  | invokespecial i =>
    dsimp only [a_ex]
    split
    · exact a_calls_sL
    · repeat' (first | rfl | split)
  | ifCond c o => cases c <;> dsimp only [a_ex, a_if] <;> repeat' (first | rfl | split)
  | if_icmp c o => cases c <;> dsimp only [a_ex, a_if] <;> repeat' (first | rfl | split)
  | iload _ => cases hn
  | iload_n _ => cases hn
  | aload_n _ => cases hn
  | lload _ => cases hn
  | lload_n _ => cases hn
  | istore _ => cases hn
  | istore_n _ => cases hn
  | astore_n _ => cases hn
  | iinc _ _ => cases hn
  | _ =>
    dsimp only [a_ex, a_b2, a_l2, a_ald, a_ast, a_pf, a_nx]
    repeat' (first | rfl | split)
/-- the second list of locals knows more -/
def a_le : ALo → ALo → Prop
  | [], [] => True
  | o :: r, o' :: r' => (o = o' ∨ (o = none ∧ ∃ v, o' = some v ∧ v.category = 1)) ∧ a_le r r'
  | _, _ => False
theorem a_le_at : ∀ {L L' : ALo}, a_le L L' → ∀ i : Nat, L[i]? = L'[i]? ∨ (L[i]? = some none ∧ ∃ v, L'[i]? = some (some v) ∧ v.category = 1)
  | [], [], _, i => Or.inl rfl
  | o :: r, o' :: r', h, i => by
    cases i with
    | zero =>
      rcases h.1 with q | ⟨q, v, q2, q3⟩
      · left; show some o = some o'; rw [q]
      · right; exact ⟨by show some o = _; rw [q], v, by show some o' = _; rw [q2], q3⟩
    | succ i => exact a_le_at (L := r) (L' := r') h.2 i
  | [], _ :: _, h, _ => h.elim
  | _ :: _, [], h, _ => h.elim
theorem a_le_len : ∀ {L L' : ALo}, a_le L L' → L.length = L'.length
  | [], [], _ => rfl
  | o :: r, o' :: r', h => by show r.length + 1 = r'.length + 1; rw [a_le_len (L := r) (L' := r') h.2]
  | [], _ :: _, h => h.elim
  | _ :: _, [], h => h.elim
theorem a_le_set : ∀ {L L' : ALo} (i : Nat) (v : Value), a_le L L' → a_le (L.set i (some v)) (L'.set i (some v))
  | [], [], _, _, h => h
  | o :: r, o' :: r', i, v, h => by
    cases i with
    | zero => exact ⟨Or.inl rfl, h.2⟩
    | succ i => exact ⟨h.1, a_le_set i v h.2⟩
  | [], _ :: _, _, _, h => h.elim
  | _ :: _, [], _, _, h => h.elim
theorem a_le_ld {L L' : ALo} (h : a_le L L') {i : Nat} {v : Value} (hl : a_ld L i = some v) : a_ld L' i = some v := by
  have h1 := a_ld_at hl
  unfold a_ld
  rcases a_le_at h i with q | ⟨q, -⟩
  · rw [← q, h1]
  · rw [h1] at q; cases q
theorem a_le_st {L L' L1 : ALo} (h : a_le L L') {i : Nat} {v : Value} (hl : a_st L i v = some L1) : ∃ L1', a_st L' i v = some L1' ∧ a_le L1 L1' := by
  obtain ⟨rfl, hi, hc⟩ := a_st_set hl
  refine ⟨L'.set i (some v), ?_, a_le_set i v h⟩
  unfold a_st
  cases i with
  | zero => simp only; rw [if_pos (by rw [← a_le_len h]; exact hi)]
  | succ i =>
    simp only
    rw [if_pos (by rw [← a_le_len h]; exact hi)]
    rcases a_le_at h i with q | ⟨-, w, q, hw⟩
    · rw [← q]
      split
      · rename_i x hx; exact absurd rfl (hc i _ rfl hx)
      · rename_i x hx; exact absurd rfl (hc i _ rfl hx)
      · rfl
    · rw [q]
      cases w <;> first | rfl | (simp [Value.category] at hw)
theorem stp_le {k j : Nat} {L L' : ALo} {st : List Value} {D : ADd} {M : AMm} (h : a_le L L') {x : AOu} (hs : stp (k, j, L, st, D, M) = some x) : (∃ (s1 : ASt) (L1' : ALo), x = .inl s1 ∧ a_le s1.2.2.1 L1' ∧ stp (k, j, L', st, D, M) = some (.inl (s1.1, s1.2.1, L1', s1.2.2.2))) ∨ ((∀ s1, x ≠ .inl s1) ∧ stp (k, j, L', st, D, M) = some x) := by
  obtain ⟨mt, e, hm, he, hex⟩ := stp_at hs
  have hs' : ∀ y, a_ex e.2.1 e.2.2.2.1 k j L' st D M = some y → stp (k, j, L', st, D, M) = some y := by
    intro y hy
    unfold stp
    dsimp only at hm he ⊢
    rw [hm]
    dsimp only
    rw [he]
    exact hy
  dsimp only at hex
  cases hlo : a_lo e.2.1 with
  | false =>
    have hq := a_ex_sL hlo (aux := e.2.2.2.1) (k := k) (j := j) (L := L) (L' := L') (st := st) (D := D) (M := M)
    rw [hex] at hq
    rcases x with s1 | y
    · left
      have hq1 := a_ex_sL hlo (aux := e.2.2.2.1) (k := k) (j := j) (L := L) (L' := L) (st := st) (D := D) (M := M)
      rw [hex] at hq1
      have e1 : s1.2.2.1 = L := by
        have : s1 = (s1.1, s1.2.1, L, s1.2.2.2) := Sum.inl.inj (Option.some.inj hq1)
        rw [this]
      exact ⟨s1, L', rfl, by rw [e1]; exact h, hs' _ hq⟩
    · right
      exact ⟨fun s1 q => (by cases q), hs' _ hq⟩
  | true =>
    left
    generalize e.2.1 = ins at hex hlo hs'
    have ld : ∀ (f : Value → Option AOu) (g : Value → List Value), (∀ v, f v = a_nx k j L (g v) D M ∨ f v = none) → True := fun _ _ _ => trivial
    cases ins with
    | iload i =>
      dsimp only [a_ex] at hex hs'
      split at hex
      · rename_i z hz
        rw [a_le_ld h hz] at hs'
        obtain rfl := Option.some.inj hex
        exact ⟨_, L', rfl, h, hs' _ rfl⟩
      · cases hex
    | iload_n i =>
      dsimp only [a_ex] at hex hs'
      split at hex
      · rename_i z hz
        rw [a_le_ld h hz] at hs'
        obtain rfl := Option.some.inj hex
        exact ⟨_, L', rfl, h, hs' _ rfl⟩
      · cases hex
    | aload_n i =>
      dsimp only [a_ex] at hex hs'
      split at hex
      · rename_i z hz
        rw [a_le_ld h hz] at hs'
        obtain rfl := Option.some.inj hex
        exact ⟨_, L', rfl, h, hs' _ rfl⟩
      · cases hex
    | lload i =>
      dsimp only [a_ex] at hex hs'
      split at hex
      · rename_i z hz
        rw [a_le_ld h hz] at hs'
        obtain rfl := Option.some.inj hex
        exact ⟨_, L', rfl, h, hs' _ rfl⟩
      · cases hex
    | lload_n i =>
      dsimp only [a_ex] at hex hs'
      split at hex
      · rename_i z hz
        rw [a_le_ld h hz] at hs'
        obtain rfl := Option.some.inj hex
        exact ⟨_, L', rfl, h, hs' _ rfl⟩
      · cases hex
    | istore i =>
      dsimp only [a_ex, a_sto] at hex hs'
      split at hex
      · split at hex
        · rename_i L1 hL1
          obtain ⟨L1', h1, h2⟩ := a_le_st h hL1
          simp only [h1] at hs'
          obtain rfl := Option.some.inj hex
          exact ⟨_, L1', rfl, h2, hs' _ rfl⟩
        · cases hex
      · cases hex
    | istore_n i =>
      dsimp only [a_ex, a_sto] at hex hs'
      split at hex
      · split at hex
        · rename_i L1 hL1
          obtain ⟨L1', h1, h2⟩ := a_le_st h hL1
          simp only [h1] at hs'
          obtain rfl := Option.some.inj hex
          exact ⟨_, L1', rfl, h2, hs' _ rfl⟩
        · cases hex
      · cases hex
    | astore_n i =>
      dsimp only [a_ex, a_sto] at hex hs'
      split at hex
      · split at hex
        · rename_i L1 hL1
          obtain ⟨L1', h1, h2⟩ := a_le_st h hL1
          simp only [h1] at hs'
          obtain rfl := Option.some.inj hex
          exact ⟨_, L1', rfl, h2, hs' _ rfl⟩
        · cases hex
      · cases hex
    | iinc i n =>
      dsimp only [a_ex, a_sto] at hex hs'
      split at hex
      · rename_i z hz
        rw [a_le_ld h hz] at hs'
        split at hex
        · rename_i L1 hL1
          obtain ⟨L1', h1, h2⟩ := a_le_st h hL1
          simp only [h1] at hs'
          obtain rfl := Option.some.inj hex
          exact ⟨_, L1', rfl, h2, hs' _ rfl⟩
        · cases hex
      · cases hex
    | _ => cases hlo
theorem ex_le : ∀ (n d k j : Nat) (L L' : ALo) (st : List Value) (D : ADd) (M : AMm) (r : ARs), a_le L L' → ex d n (k, j, L, st, D, M) = some r → ex d n (k, j, L', st, D, M) = some r := by
  intro n
  induction n with
  | zero => intro d k j L L' st D M r _ h; simp [ex] at h
  | succ n ih =>
    intro d k j L L' st D M r hle h
    unfold ex at h ⊢
    cases hs : stp (k, j, L, st, D, M) with
    | none => rw [hs] at h; simp at h
    | some o =>
      rw [hs] at h
      rcases stp_le hle hs with ⟨s1, L1', rfl, h1, h2⟩ | ⟨hn, h2⟩
      · rw [h2]
        exact ih d s1.1 s1.2.1 s1.2.2.1 L1' s1.2.2.2.1 s1.2.2.2.2.1 s1.2.2.2.2.2 r h1 h
      · rw [h2]
        cases o with
        | inl s1 => exact absurd rfl (hn s1)
        | inr o =>
          cases o with
          | inl r' => exact h
          | inr c =>
            obtain ⟨k2, as, rest⟩ := c
            cases d with
            | zero => simp at h
            | succ d' =>
              dsimp only at h ⊢
              cases hc : ex d' n (ent k2 as D M) with
              | none => rw [hc] at h; simp at h
              | some r1 =>
                rw [hc] at h
                exact ih (d' + 1) k (j + 1) L L' (r1.1.toList ++ rest) r1.2.1 r1.2.2 r hle h
theorem T_le {d : Nat} {Q : ARs → Prop} {k j : Nat} {L L' : ALo} {st : List Value} {D : ADd} {M : AMm} (h : a_le L L') (t : T d Q (k, j, L, st, D, M)) : T d Q (k, j, L', st, D, M) := by
  obtain ⟨n, r, h1, h2⟩ := t
  exact ⟨n, r, ex_le n d k j L L' st D M r h h1, h2⟩
/-- a call that answers an int; the shapes behind it are D' -/
def CI (d k : Nat) (as : List Value) (D : ADd) (M : AMm) (D' : ADd) (K : Int32 → AMm → Prop) : Prop := T d (fun r => ∃ v M', r = (some (.int v), D', M') ∧ K v M') (ent k as D M)
/-- a call that answers nothing -/
def CV (d k : Nat) (as : List Value) (D : ADd) (M : AMm) (D' : ADd) (K : AMm → Prop) : Prop := T d (fun r => ∃ M', r = (none, D', M') ∧ K M') (ent k as D M)
theorem CI_mono {d k : Nat} {as : List Value} {D : ADd} {M : AMm} {D' : ADd} {K K' : Int32 → AMm → Prop} (h : CI d k as D M D' K) (hK : ∀ v M', K v M' → K' v M') : CI d k as D M D' K' := T_mono h (Nat.le_refl _) (fun r hr => by obtain ⟨v, M', e, q⟩ := hr; exact ⟨v, M', e, hK v M' q⟩)
theorem CV_mono {d k : Nat} {as : List Value} {D : ADd} {M : AMm} {D' : ADd} {K K' : AMm → Prop} (h : CV d k as D M D' K) (hK : ∀ M', K M' → K' M') : CV d k as D M D' K' := T_mono h (Nat.le_refl _) (fun r hr => by obtain ⟨M', e, q⟩ := hr; exact ⟨M', e, hK M' q⟩)
theorem T_callI {d : Nat} {Q : ARs → Prop} {s : ASt} {k : Nat} {as rest : List Value} {D' : ADd} (h : stp s = some (.inr (.inr (k, as, rest)))) (hc : CI d k as s.2.2.2.2.1 s.2.2.2.2.2 D' (fun v M' => T (d + 1) Q (s.1, s.2.1 + 1, s.2.2.1, .int v :: rest, D', M'))) : T (d + 1) Q s := by
  refine T_call h (T_mono hc (Nat.le_refl _) (fun r hr => ?_))
  obtain ⟨v, M', rfl, q⟩ := hr
  exact q
theorem T_callV {d : Nat} {Q : ARs → Prop} {s : ASt} {k : Nat} {as rest : List Value} {D' : ADd} (h : stp s = some (.inr (.inr (k, as, rest)))) (hc : CV d k as s.2.2.2.2.1 s.2.2.2.2.2 D' (fun M' => T (d + 1) Q (s.1, s.2.1 + 1, s.2.2.1, rest, D', M'))) : T (d + 1) Q s := by
  refine T_call h (T_mono hc (Nat.le_refl _) (fun r hr => ?_))
  obtain ⟨M', rfl, q⟩ := hr
  exact q
theorem T_ts {d : Nat} {Q : ARs → Prop} {s : ASt} {x : Int32} {aux : List Nat} {k : Nat} {L : ALo} {st : List Value} {D : ADd} {M : AMm} (h : stp s = some (.inl (k, a_tsw x aux, L, st, D, M))) (i tgt : Nat) (hx : x = nI i) (ht : a_tsw (nI i) aux = tgt) (t : T d Q (k, tgt, L, st, D, M)) : T d Q s := by
  subst hx
  rw [ht] at h
  exact T_stp h t
theorem T_td {d : Nat} {Q : ARs → Prop} {s : ASt} {x : Int32} {aux : List Nat} {k : Nat} {L : ALo} {st : List Value} {D : ADd} {M : AMm} (h : stp s = some (.inl (k, a_tsw x aux, L, st, D, M))) (n : Nat) (hn : aux.length = n + 1) (hn2 : n < 1000) (hx : ∀ i, i < n → ¬ x = nI i) (t : T d Q (k, a_hd aux, L, st, D, M)) : T d Q s := by
  have e : a_tsw x aux = a_hd aux := by
    unfold a_tsw
    by_cases hc : x.toInt < 0 ∨ (aux.length : Int) - 2 < x.toInt
    · rw [if_pos hc]
    · exfalso
      have h0 : ¬ x < 0 := by
        intro q
        exact hc (Or.inl (by have := Int32.lt_iff_toInt_lt.mp q; simpa using this))
      obtain ⟨i, hi, rfl⟩ := nI_of h0
      have := nI_toInt hi
      exact hx i (by omega) rfl
  rw [e] at h
  exact T_stp h t
theorem a_le_n : a_le [] [] := trivial
theorem a_le_1 {o : Option Value} {r r' : ALo} (h : a_le r r') : a_le (o :: r) (o :: r') := ⟨Or.inl rfl, h⟩
theorem a_le_2 {v : Value} {r r' : ALo} (hv : v.category = 1) (h : a_le r r') : a_le (none :: r) (some v :: r') := ⟨Or.inr ⟨rfl, v, rfl, hv⟩, h⟩
