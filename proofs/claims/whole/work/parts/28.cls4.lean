-- THE CLASS: a told way
def WKI (M : AMm) (F p t b : Nat) : Prop := M 7 0 = nI p ∧ M 7 1 = nI t ∧ M 7 2 = nI F ∧ M 7 3 = nI b
section C4
variable {d : Nat} {o i0 i1 : Option Nat} {ext : ADd} {M : AMm} {R C bg sp : Nat} {er : Nat → Int32}
theorem FI.f7 {M M' : AMm} (h : FI M R C er bg sp) (hm : ∀ a, a ≠ 7 → M' a = M a) : FI M' R C er bg sp := h.of (hm 2 (by decide)) (hm 3 (by decide)) (hm 4 (by decide)) (hm 5 (by decide))
theorem s_beginOn {K : AMm → Prop} (hF : FI M R C er bg sp) (hw : WF R C er bg sp) (h1 : ∀ M', WKI M' (cb (opn er (R * C)) bg) bg 0 (br er sp bg 0) → M' 7 4 = -(nI 6) → (∀ a, a ≠ 7 → M' a = M a) → K M') : CV (d + 2) 24 [.ref 7, .ref 2] (DB o i0 i1 ext) M (DB o i0 i1 ext) K := by
  have hl := hw.1.le
  have hb := hw.2.2.1
  refine b_X2_beginOn_0 ?_
  rw [hF.2.2.2.2.1]
  refine s_freeFrom (M := ms (ms M 7 0 (nI bg)) 7 1 (nI 0)) (hF.f7 (fun a h => by funext b; rw [ms_a h, ms_a h])) (by omega) ?_
  rw [show ms (ms M 7 0 (nI bg)) 7 1 (nI 0) 7 0 = nI bg by rw [ms_b (by decide), ms_s]]
  refine s_brings (hF.f7 (fun a h => by funext b; rw [ms_a h, ms_a h, ms_a h])) hw hb (by decide) ⟨_, rfl, h1 _ ⟨?_, ?_, ?_, ?_⟩ (ms_s _ _ _ _) (fun a h => by funext b; rw [ms_a h, ms_a h, ms_a h, ms_a h, ms_a h])⟩
  · simp [ms]
  · simp [ms]
  · simp [ms]
  · simp [ms]
theorem s_go {K : Int32 → AMm → Prop} (hF : FI M R C er bg sp) (hw : WF R C er bg sp) {F p t b k : Nat} (hk : WKI M F p t b) (hp : p < R * C) (hB : F < 65536) (ht : t < 99) (hk4 : k < 4)
    (h1 : nb R C p k = none → ∀ M', WKI M' F p t b → M' 7 4 = nI 1 → (∀ a, a ≠ 7 → M' a = M a) → K (nI 0) M')
    (h2 : ∀ q, nb R C p k = some q → F.testBit q = false → ∀ M', WKI M' F p t b → M' 7 4 = (if (opn er (R * C)).testBit q then nI 3 else nI 2) → (∀ a, a ≠ 7 → M' a = M a) → K (nI 0) M')
    (h3 : ∀ q, nb R C p k = some q → F.testBit q = true → ∀ M', WKI M' (cb F q) q (t + 1) (b + br er sp q (t + 1)) → M' 7 4 = M 7 4 → (∀ a, a ≠ 7 → M' a = M a) → K (nI 1) M') : CI (d + 2) 25 [.ref 7, .ref 2, .int (nI k)] (DB o i0 i1 ext) M (DB o i0 i1 ext) K := by
  have hl := hw.1.le
  obtain ⟨k0, k1, k2, k3⟩ := hk
  refine b_X2_go_0 _ ?_
  rw [k0]
  refine s_beside hF hw.1 hp hk4 ?_
  rw [k2]
  have n16 := nb16 hw.1 hp hk4
  refine s_isInE hB n16 ?_
  rw [bI_0, k2, k1, k3]
  cases hq : nb R C p k with
  | none =>
    refine ⟨fun _ => ⟨fun _ => ⟨_, _, rfl, h1 hq _ ⟨?_, ?_, ?_, ?_⟩ (ms_s _ _ _ _) (fun a h => by funext b; exact ms_a h)⟩, fun z => absurd rfl z⟩, fun z => absurd rfl z⟩
    · rw [ms_b (by decide)]; exact k0
    · rw [ms_b (by decide)]; exact k1
    · rw [ms_b (by decide)]; exact k2
    · rw [ms_b (by decide)]; exact k3
  | some q =>
    have q16 := n16 q hq
    have hqP := (nb_ok hw.1 hp hk4 hq).1
    refine ⟨fun hz => ⟨fun z => ?_, fun _ => s_isOpenN hF hw.1 q16 ?_⟩, fun hz => ?_⟩
    · exfalso
      have z : nI q = -(nI 1) := z
      have := nI_pos (n := q) (by omega)
      rw [z] at this
      exact this (neg_lt (by decide) (by decide))
    · rw [bI_0]
      have go : ∀ v : Int32, v = (if (opn er (R * C)).testBit q then nI 3 else nI 2) → K (nI 0) (ms M 7 4 v) := by
        intro v hv
        refine h2 q hq hz _ ⟨?_, ?_, ?_, ?_⟩ (by rw [ms_s]; exact hv) (fun a h => by funext b; exact ms_a h)
        · rw [ms_b (by decide)]; exact k0
        · rw [ms_b (by decide)]; exact k1
        · rw [ms_b (by decide)]; exact k2
        · rw [ms_b (by decide)]; exact k3
      refine ⟨fun h => ⟨_, _, rfl, go _ (by rw [h]; rfl)⟩, fun h => ⟨_, _, rfl, go _ ?_⟩⟩
      cases hz2 : (opn er (R * C)).testBit q with
      | false => exact absurd hz2 h
      | true => rfl
    · have hz : F.testBit q = true := by
        cases hz2 : F.testBit q with
        | false => exact absurd hz2 hz
        | true => rfl
      show CI (d + 1) 17 [.ref 2, .int (nI q), .int (nI t + nI 1)] _ (ms (ms (ms M 7 1 (nI t + nI 1)) 7 0 (nI q)) 7 2 (nI F &&& ((nI 1 <<< (nI q &&& 31)) ^^^ (-(nI 1))))) _ _
      rw [nI_add, n_cb (by omega)]
      refine s_brings (hF.f7 (fun a h => by funext b; rw [ms_a h, ms_a h, ms_a h])) hw hqP (by omega) ⟨_, _, rfl, h3 q hq hz _ ⟨?_, ?_, ?_, ?_⟩ ?_ (fun a h => by funext b; rw [ms_a h, ms_a h, ms_a h, ms_a h])⟩
      · simp [ms]
      · simp [ms]
      · simp [ms]
      · rw [ms_s, nI_add]
      · simp [ms]
theorem s_cut {K : Int32 → AMm → Prop} {op F : Nat} (ho : M 2 3 = nI op) (hf : M 7 2 = nI F) (h1 : K (nI (op ^^^ (op &&& F))) M) : CI d 26 [.ref 7, .ref 2] (DB o i0 i1 ext) M (DB o i0 i1 ext) K := by
  refine b_X2_cut_0 ⟨_, _, rfl, ?_⟩
  rw [ho, hf, n_andn]; exact h1
end C4
-- THE CLASS: all ways on, one after the other
/-- a way on: its steps, what is free behind it, its end, what is brought -/
abbrev Nd : Type := List Nat × Nat × Nat × Nat
section C5
variable (R C : Nat) (g : Nat → Nat → Nat)
def wk (X : Nat → Nat → Nat → Nat → List Nd) (F p t b k : Nat) : List Nd := match nf R C F p k with
  | some q => (X (cb F q) q (t + 1) (b + g q (t + 1))).map (fun x => (k :: x.1, x.2))
  | none => []
/-- the ways whose first step is the k-th at least -/
def wf (X : Nat → Nat → Nat → Nat → List Nd) (F p t b k : Nat) : List Nd := (if k ≤ 0 then wk R C g X F p t b 0 else []) ++ ((if k ≤ 1 then wk R C g X F p t b 1 else []) ++ ((if k ≤ 2 then wk R C g X F p t b 2 else []) ++ (if k ≤ 3 then wk R C g X F p t b 3 else [])))
def EE : Nat → Nat → Nat → Nat → Nat → List Nd
  | 0, F, p, _, b => [([], F, p, b)]
  | n + 1, F, p, t, b => ([], F, p, b) :: wf R C g (EE n) F p t b 0
/-- the ways that begin so, but the one of no steps -/
def ET (n F p t b k : Nat) : List Nd := match n with
  | 0 => []
  | n + 1 => wf R C g (EE R C g n) F p t b k
end C5
section C6
variable {R C : Nat} {g : Nat → Nat → Nat}
theorem EE_eq (n F p t b : Nat) : EE R C g n F p t b = ([], F, p, b) :: ET R C g n F p t b 0 := by cases n <;> rfl
theorem wf_n {X : Nat → Nat → Nat → Nat → List Nd} {F p t b k : Nat} (h : gn R C F p k = false) : wf R C g X F p t b k = wf R C g X F p t b (k + 1) := by
  have hn : wk R C g X F p t b k = [] := by
    unfold gn at h
    unfold wk
    cases hq : nf R C F p k with
    | none => rfl
    | some q => rw [hq] at h; cases h
  unfold wf
  match k with
  | 0 => rw [hn]; simp
  | 1 => rw [hn]; simp
  | 2 => rw [hn]; simp
  | 3 => rw [hn]; simp
  | k + 4 => simp
theorem wf_y {X : Nat → Nat → Nat → Nat → List Nd} {F p t b k : Nat} (h : k < 4) : wf R C g X F p t b k = wk R C g X F p t b k ++ wf R C g X F p t b (k + 1) := by
  unfold wf
  match k, h with
  | 0, _ => simp
  | 1, _ => simp
  | 2, _ => simp
  | 3, _ => simp
  | k + 4, h => omega
theorem wf_4 {X : Nat → Nat → Nat → Nat → List Nd} {F p t b k : Nat} (h : 4 ≤ k) : wf R C g X F p t b k = [] := by
  unfold wf
  rw [if_neg (by omega), if_neg (by omega), if_neg (by omega), if_neg (by omega)]; rfl
theorem wf_f4 {X : Nat → Nat → Nat → Nat → List Nd} {F p t b : Nat} : ∀ (n k : Nat), 4 - k = n → (∀ j, f4 (gn R C F p) k = some j → wf R C g X F p t b k = wk R C g X F p t b j ++ wf R C g X F p t b (j + 1)) ∧ (f4 (gn R C F p) k = none → wf R C g X F p t b k = []) := by
  intro n
  induction n with
  | zero =>
    intro k h
    rw [f4_4 _ (by omega), wf_4 (by omega)]
    exact ⟨fun j h => (by cases h), fun _ => rfl⟩
  | succ n ih =>
    intro k h
    cases hg : gn R C F p k with
    | true =>
      rw [f4_y (by omega) hg]
      exact ⟨fun j hj => by obtain rfl := Option.some.inj hj; exact wf_y (by omega), fun h => (by cases h)⟩
    | false =>
      rw [f4_n hg, wf_n hg]
      exact ih (k + 1) (by omega)
/-- the steps gone to the depth t -/
def pre (Kt : Nat → Nat) : Nat → List Nat
  | 0 => []
  | t + 1 => pre Kt t ++ [Kt t - 1]
theorem pre_len (Kt : Nat → Nat) : ∀ t, (pre Kt t).length = t
  | 0 => rfl
  | t + 1 => by unfold pre; rw [List.length_append, pre_len Kt t]; rfl
theorem pre_cong {K1 K2 : Nat → Nat} : ∀ {t : Nat}, (∀ i, i < t → K1 i = K2 i) → pre K1 t = pre K2 t
  | 0, _ => rfl
  | t + 1, h => by unfold pre; rw [pre_cong (t := t) (fun i hi => h i (by omega)), h t (by omega)]
theorem pre_at (Kt : Nat → Nat) : ∀ {t i : Nat}, i < t → (pre Kt t)[i]? = some (Kt i - 1)
  | t + 1, i, h => by
    unfold pre
    rcases Nat.lt_or_ge i t with q | q
    · rw [List.getElem?_append_left (by rw [pre_len]; exact q)]; exact pre_at Kt q
    · obtain rfl : i = t := by omega
      rw [List.getElem?_append_right (by rw [pre_len]; exact Nat.le_refl _), pre_len, Nat.sub_self]; rfl
variable (R C g)
/-- what is still to come: at the depths below n, from the steps on that are still to be tried; s: steps before -/
def rem (m s : Nat) (A Fr B Kt : Nat → Nat) : Nat → List Nd
  | 0 => []
  | n + 1 => (ET R C g (m - n) (Fr n) (A n) (s + n) (B n) (Kt n)).map (fun x => (pre Kt n ++ x.1, x.2)) ++ rem m s A Fr B Kt n
end C6
