-- MATHS: sets, counting of ways by first and by last steps
def mi (a b : Nat) : Nat := a ^^^ (a &&& b)
theorem mi_t (a b i : Nat) : (mi a b).testBit i = (a.testBit i && !b.testBit i) := by
  unfold mi
  rw [Nat.testBit_xor, Nat.testBit_and]
  cases a.testBit i <;> cases b.testBit i <;> rfl
theorem mi_lt {a b : Nat} (h : a < 65536) : mi a b < 65536 := lt16_t fun i hi => by rw [mi_t, t_lt16 h hi]; rfl
theorem mi_sb (a c q : Nat) : cb (mi a c) q = mi a (sb c q) := by
  apply Nat.eq_of_testBit_eq
  intro i
  rw [cb_t, mi_t, mi_t, sb_t]
  cases a.testBit i <;> cases c.testBit i <;> cases decide (q = i) <;> rfl
theorem mi_2 (a p : Nat) : mi a (2 ^ p) = cb a p := rfl
theorem mi_self (a : Nat) : mi a a = 0 := by
  apply Nat.eq_of_testBit_eq
  intro i
  rw [mi_t, Nat.zero_testBit]
  cases a.testBit i <;> rfl
/-- a part of a set -/
def Sub (c a : Nat) : Prop := ∀ i, c.testBit i = true → a.testBit i = true
theorem pc_mi {a c : Nat} (h : Sub c a) : pc (mi a c) + pc c = pc a := by
  unfold pc
  rw [← fb_ct_or (p := fun i => (mi a c).testBit i) (q := fun i => c.testBit i)]
  · refine fb_ct_cong (fun k _ => ?_)
    rw [mi_t]
    have := h k
    cases ha : a.testBit k <;> cases hc : c.testBit k <;> simp_all
  · intro k _ hk
    rw [mi_t] at hk
    cases ha : a.testBit k <;> cases hc : c.testBit k <;> simp_all
theorem mi_mi {a c : Nat} (h : Sub c a) : mi a (mi a c) = c := by
  apply Nat.eq_of_testBit_eq
  intro i
  rw [mi_t, mi_t]
  have := h i
  cases ha : a.testBit i <;> cases hc : c.testBit i <;> simp_all
theorem Sub_le {c a : Nat} (h : Sub c a) : c ≤ a := by
  have e : c ||| mi a c = a := by
    apply Nat.eq_of_testBit_eq
    intro i
    rw [Nat.testBit_or, mi_t]
    have := h i
    cases ha : a.testBit i <;> cases hc : c.testBit i <;> simp_all
  rw [← e]
  exact Nat.left_le_or
theorem sb_gt {c q : Nat} (h : c.testBit q = false) : c < sb c q := by
  have h1 : c ≤ sb c q := Nat.left_le_or
  rcases Nat.lt_or_eq_of_le h1 with z | z
  · exact z
  · have : (sb c q).testBit q = false := by rw [← z]; exact h
    rw [sb_t] at this
    simp at this
theorem Sub_sb {c a q : Nat} (h : Sub c a) (hq : a.testBit q = true) : Sub (sb c q) a := fun i hi => by
  rw [sb_t, Bool.or_eq_true] at hi
  rcases hi with z | z
  · exact h i z
  · rw [← of_decide_eq_true z]; exact hq
theorem Sub_an {c a : Nat} : a &&& c = c ↔ Sub c a := by
  constructor
  · intro h i hi
    rw [← h, Nat.testBit_and, Bool.and_eq_true] at hi
    exact hi.1
  · intro h
    apply Nat.eq_of_testBit_eq
    intro i
    rw [Nat.testBit_and]
    have := h i
    cases ha : a.testBit i <;> cases hc : c.testBit i <;> simp_all
theorem Sub_mi {c a : Nat} : mi c a = 0 ↔ Sub c a := by
  constructor
  · intro h i hi
    have : (mi c a).testBit i = false := by rw [h, Nat.zero_testBit]
    rw [mi_t, hi] at this
    simpa using this
  · intro h
    apply Nat.eq_of_testBit_eq
    intro i
    rw [mi_t, Nat.zero_testBit]
    have := h i
    cases ha : a.testBit i <;> cases hc : c.testBit i <;> simp_all
section W1
variable (R C : Nat)
/-- where one stands: what is free, the place -/
abbrev Sd : Type := Nat × Nat
def su (s : Sd) : List Sd := (nl R C s.1 s.2 4 0).map (fun q => (cb s.1 q, q))
/-- the ways of m steps from these -/
def WW : Nat → List Sd → List Sd
  | 0, l => l
  | m + 1, l => WW m (l.flatMap (su R C))
end W1
section W2
variable {R C : Nat} {g : Nat → Nat → Nat}
theorem WW_last : ∀ (m : Nat) (l : List Sd), WW R C (m + 1) l = (WW R C m l).flatMap (su R C)
  | 0, _ => rfl
  | m + 1, l => by
    show WW R C (m + 1) (l.flatMap (su R C)) = _
    rw [WW_last m]
    rfl
theorem WW_app : ∀ (m : Nat) (l l' : List Sd), WW R C m (l ++ l') = WW R C m l ++ WW R C m l'
  | 0, _, _ => rfl
  | m + 1, l, l' => by
    show WW R C m ((l ++ l').flatMap (su R C)) = _
    rw [List.flatMap_append, WW_app m]
    rfl
theorem WW_nil : ∀ (m : Nat), WW R C m [] = []
  | 0 => rfl
  | m + 1 => by show WW R C m [] = []; exact WW_nil m
theorem nl_c (F p n k : Nat) : nl R C F p (n + 1) k = (nf R C F p k).toList ++ nl R C F p n (k + 1) := by
  cases h : nf R C F p k with
  | none => rw [nl_n h]; rfl
  | some q => rw [nl_y h]; rfl
theorem nl_4 (F p : Nat) : nl R C F p 4 0 = (nf R C F p 0).toList ++ ((nf R C F p 1).toList ++ ((nf R C F p 2).toList ++ ((nf R C F p 3).toList ++ []))) := by
  rw [nl_c, nl_c, nl_c, nl_c]
  rfl
/-- the steps of ways: counted -/
theorem EE_W (φ : Sd → Bool) : ∀ (n m F p t b : Nat), m ≤ n → (EE R C g n F p t b).countP (fun x => decide (x.1.length = m) && φ (x.2.1, x.2.2.1)) = (WW R C m [(F, p)]).countP φ := by
  intro n
  induction n with
  | zero =>
    intro m F p t b hm
    obtain rfl : m = 0 := by omega
    show List.countP _ [([], F, p, b)] = List.countP φ [(F, p)]
    rw [List.countP_singleton, List.countP_singleton]
    simp
  | succ n ih =>
    intro m F p t b hm
    cases m with
    | zero =>
      have hk : ∀ k, (wk R C g (EE R C g n) F p t b k).countP (fun x => decide (x.1.length = 0) && φ (x.2.1, x.2.2.1)) = 0 := by
        intro k
        rw [List.countP_eq_zero]
        intro x hx
        unfold wk at hx
        split at hx
        · obtain ⟨y, -, rfl⟩ := List.mem_map.mp hx
          simp
        · cases hx
      show List.countP _ (([], F, p, b) :: wf R C g (EE R C g n) F p t b 0) = List.countP φ [(F, p)]
      unfold wf
      simp only [Nat.zero_le, if_true]
      rw [List.countP_cons, List.countP_append, List.countP_append, List.countP_append, hk, hk, hk, hk, List.countP_singleton]
      simp
    | succ m =>
      have hk : ∀ k, (wk R C g (EE R C g n) F p t b k).countP (fun x => decide (x.1.length = m + 1) && φ (x.2.1, x.2.2.1)) = (WW R C m ((nf R C F p k).toList.map (fun q => (cb F q, q)))).countP φ := by
        intro k
        unfold wk
        cases nf R C F p k with
        | none => show List.countP _ [] = List.countP φ (WW R C m []); rw [WW_nil]; rfl
        | some q =>
          show List.countP _ (List.map _ _) = List.countP φ (WW R C m [(cb F q, q)])
          rw [← ih m (cb F q) q (t + 1) (b + g q (t + 1)) (by omega), List.countP_map]
          refine List.countP_congr (fun x _ => ?_)
          simp
      show List.countP _ (([], F, p, b) :: wf R C g (EE R C g n) F p t b 0) = List.countP φ (WW R C m ([(F, p)].flatMap (su R C)))
      rw [List.flatMap_singleton]
      unfold su
      rw [nl_4, List.map_append, List.map_append, List.map_append, List.map_append, WW_app, WW_app, WW_app, WW_app]
      unfold wf
      simp only [Nat.zero_le, if_true]
      rw [List.countP_cons, List.countP_append, List.countP_append, List.countP_append, hk, hk, hk, hk, List.countP_append, List.countP_append, List.countP_append, List.countP_append, List.map_nil, WW_nil]
      simp
theorem EE_pc (hd : Dm R C) : ∀ (n F p t b : Nat), p < R * C → ∀ x ∈ EE R C g n F p t b, pc x.2.1 + x.1.length = pc F ∧ (F < 65536 → x.2.1 < 65536) := by
  intro n
  induction n with
  | zero => intro F p t b hp x hx; rw [List.mem_singleton.mp hx]; exact ⟨rfl, fun h => h⟩
  | succ n ih =>
    intro F p t b hp x hx
    rcases List.mem_cons.mp hx with rfl | hx
    · exact ⟨rfl, fun h => h⟩
    · have one : ∀ k, k < 4 → x ∈ wk R C g (EE R C g n) F p t b k → pc x.2.1 + x.1.length = pc F ∧ (F < 65536 → x.2.1 < 65536) := by
        intro k hk hx
        unfold wk at hx
        split at hx
        · rename_i q hq
          obtain ⟨y, hy, rfl⟩ := List.mem_map.mp hx
          obtain ⟨a, b⟩ := nf_some.mp hq
          have hq2 := (nb_ok hd hp hk a).1
          have h1 := ih _ _ _ _ hq2 y hy
          have h2 := pc_cb (by have := hd.le; omega) b
          refine ⟨?_, fun hF => h1.2 (cb_lt hF)⟩
          have h1 := h1.1
          simp only [List.length_cons]
          omega
        · cases hx
      unfold wf at hx
      simp only [Nat.zero_le, if_true] at hx
      rcases List.mem_append.mp hx with hx | hx
      · exact one 0 (by decide) hx
      rcases List.mem_append.mp hx with hx | hx
      · exact one 1 (by decide) hx
      rcases List.mem_append.mp hx with hx | hx
      · exact one 2 (by decide) hx
      · exact one 3 (by decide) hx
/-- the ways that cut all, by their ends -/
theorem ae_W (hd : Dm R C) {n F p t b z : Nat} (hp : p < R * C) (hF : F < 65536) (hn : pc F ≤ n) : aeF (EE R C g n F p t b) z = (WW R C (pc F) [(F, p)]).countP (fun s => decide (s = (0, z))) := by
  rw [← EE_W (g := g) (fun s => decide (s = (0, z))) n (pc F) F p t b hn]
  unfold aeF
  refine List.countP_congr (fun x hx => ?_)
  have := EE_pc hd n F p t b hp x hx
  simp only [Bool.and_eq_true, decide_eq_true_eq, Prod.mk.injEq]
  constructor
  · intro h
    refine ⟨?_, h⟩
    have h2 := this.1
    rw [h.1, pc_0] at h2
    omega
  · exact fun h => h.2
theorem go_W {n k F p t b : Nat} (hk : k ≤ n) : (EE R C g n F p t b).countP (fun x => decide (x.1.length = k)) = (WW R C k [(F, p)]).length := by
  have h := EE_W (R := R) (C := C) (g := g) (fun _ => true) n k F p t b hk
  rw [List.countP_true] at h
  rw [← h]
  refine List.countP_congr (fun x _ => ?_)
  simp
theorem su_mem {s z : Sd} : z ∈ su R C s ↔ ∃ k, k < 4 ∧ nf R C s.1 s.2 k = some z.2 ∧ z.1 = cb s.1 z.2 := by
  unfold su
  rw [List.mem_map]
  constructor
  · rintro ⟨q, hq, rfl⟩
    obtain ⟨j, -, hj, h⟩ := nl_mem 4 0 q hq
    exact ⟨j, by omega, h, rfl⟩
  · rintro ⟨k, hk, h, e⟩
    refine ⟨z.2, ?_, by rw [← e]⟩
    rw [nl_4]
    match k, hk with
    | 0, _ => rw [h]; simp
    | 1, _ => rw [h]; simp
    | 2, _ => rw [h]; simp
    | 3, _ => rw [h]; simp
    | k + 4, hk => omega
theorem WW_inv (hd : Dm R C) {F p : Nat} (hF : F < 65536) (hp : p < R * C) (hb : F.testBit p = false) : ∀ (m : Nat) (s : Sd), s ∈ WW R C m [(F, p)] → Sub s.1 F ∧ s.2 < R * C ∧ pc s.1 + m = pc F ∧ s.1.testBit s.2 = false ∧ s.1 < 65536 ∧ (s.2 = p ∨ F.testBit s.2 = true) := by
  intro m
  induction m with
  | zero =>
    intro s hs
    rw [show WW R C 0 [(F, p)] = [(F, p)] from rfl, List.mem_singleton] at hs
    subst hs
    exact ⟨fun _ h => h, hp, rfl, hb, hF, Or.inl rfl⟩
  | succ m ih =>
    intro s hs
    rw [WW_last, List.mem_flatMap] at hs
    obtain ⟨y, hy, hs⟩ := hs
    obtain ⟨a1, a2, a3, a4, a5, a6⟩ := ih y hy
    obtain ⟨k, hk, h1, h2⟩ := su_mem.mp hs
    obtain ⟨c1, c2⟩ := nf_some.mp h1
    have hq := (nb_ok hd a2 hk c1).1
    have hp2 := pc_cb (by have := hd.le; omega) c2
    rw [h2]
    refine ⟨fun i hi => ?_, hq, by omega, by rw [cb_t]; simp, cb_lt a5, Or.inr (a1 _ c2)⟩
    rw [cb_t, Bool.and_eq_true] at hi
    exact a1 i hi.1
end W2
-- TWO REAPERS
section U1
variable (R C : Nat)
/-- the most, by the first k steps of x; y is the other one -/
def csk (X : Nat → Nat → Nat → Nat) (F x y : Nat) : Nat → Nat
  | 0 => 0
  | k + 1 => match nf R C F x k with
    | some q => max (csk X F x y k) (1 + X y q (cb F q))
    | none => csk X F x y k
/-- how many places two can cut -/
def ct : Nat → Nat → Nat → Nat → Nat
  | 0, _, _, _ => 0
  | n + 1, x, y, F => if arn R C x &&& F = 0 then (if arn R C y &&& F = 0 then 0 else csk R C (ct n) F y x 4) else csk R C (ct n) F x y 4
def lsk (X : Nat → Nat → Nat → Int) (F x y : Nat) : Nat → Int
  | 0 => -16
  | k + 1 => match nf R C F x k with
    | some q => max (lsk X F x y k) (1 - X y q (cb F q))
    | none => lsk X F x y k
/-- what the first can have -/
def la : Nat → Nat → Nat → Nat → Int
  | 0, _, _, _ => 0
  | n + 1, x, y, F => if arn R C x &&& F = 0 then (if arn R C y &&& F = 0 then 0 else -(lsk R C (la n) F y x 4)) else lsk R C (la n) F x y 4
end U1
section U2
variable {R C : Nat}
theorem csk_y {X : Nat → Nat → Nat → Nat} {F x y k q : Nat} (h : nf R C F x k = some q) : csk R C X F x y (k + 1) = max (csk R C X F x y k) (1 + X y q (cb F q)) := by show (match nf R C F x k with | some q => _ | none => _) = _; rw [h]
theorem csk_n {X : Nat → Nat → Nat → Nat} {F x y k : Nat} (h : nf R C F x k = none) : csk R C X F x y (k + 1) = csk R C X F x y k := by show (match nf R C F x k with | some q => _ | none => _) = _; rw [h]
theorem lsk_y {X : Nat → Nat → Nat → Int} {F x y k q : Nat} (h : nf R C F x k = some q) : lsk R C X F x y (k + 1) = max (lsk R C X F x y k) (1 - X y q (cb F q)) := by show (match nf R C F x k with | some q => _ | none => _) = _; rw [h]
theorem lsk_n {X : Nat → Nat → Nat → Int} {F x y k : Nat} (h : nf R C F x k = none) : lsk R C X F x y (k + 1) = lsk R C X F x y k := by show (match nf R C F x k with | some q => _ | none => _) = _; rw [h]
theorem ct_le (hd : Dm R C) (n : Nat) : ∀ x y F, x < R * C → y < R * C → ct R C n x y F ≤ pc F := by
  induction n with
  | zero => intro x y F _ _; exact Nat.zero_le _
  | succ n ih =>
    have st : ∀ x y F, x < R * C → y < R * C → ∀ k, k ≤ 4 → csk R C (ct R C n) F x y k ≤ pc F := by
      intro x y F hx hy k
      induction k with
      | zero => intro _; exact Nat.zero_le _
      | succ k ihk =>
        intro hk
        have ihk := ihk (by omega)
        cases hq : nf R C F x k with
        | none => rw [csk_n hq]; exact ihk
        | some q =>
          obtain ⟨a, b⟩ := nf_some.mp hq
          have hq2 := (nb_ok hd hx (by omega) a).1
          have := ih y q (cb F q) hy hq2
          have := pc_cb (by have := hd.le; omega) b
          rw [csk_y hq]
          omega
    intro x y F hx hy
    unfold ct
    split
    · split
      · exact Nat.zero_le _
      · exact st y x F hy hx 4 (Nat.le_refl _)
    · exact st x y F hx hy 4 (Nat.le_refl _)
/-- some step: the least that it gives -/
theorem la_b (hd : Dm R C) (n : Nat) : ∀ x y F, x < R * C → y < R * C → F < 65536 → -(pc F : Int) ≤ la R C n x y F ∧ la R C n x y F ≤ pc F := by
  induction n with
  | zero => intro x y F _ _ _; exact ⟨by show -(pc F : Int) ≤ 0; omega, by show (0 : Int) ≤ pc F; omega⟩
  | succ n ih =>
    have st : ∀ x y F, x < R * C → y < R * C → F < 65536 → ∀ k, k ≤ 4 → (lsk R C (la R C n) F x y k ≤ pc F ∧ ((∃ j, j < k ∧ nf R C F x j ≠ none) → -(pc F : Int) ≤ lsk R C (la R C n) F x y k)) := by
      intro x y F hx hy hF k
      induction k with
      | zero => intro _; exact ⟨by show (-16 : Int) ≤ pc F; omega, fun ⟨j, hj, _⟩ => by omega⟩
      | succ k ihk =>
        intro hk
        have ihk := ihk (by omega)
        cases hq : nf R C F x k with
        | none =>
          rw [lsk_n hq]
          refine ⟨ihk.1, fun ⟨j, hj, hn⟩ => ihk.2 ⟨j, ?_, hn⟩⟩
          rcases Nat.lt_or_ge j k with z | z
          · exact z
          · obtain rfl : j = k := by omega
            exact absurd hq hn
        | some q =>
          obtain ⟨a, b⟩ := nf_some.mp hq
          have hq2 := (nb_ok hd hx (by omega) a).1
          have i := ih y q (cb F q) hy hq2 (cb_lt hF)
          have := pc_cb (by have := hd.le; omega) b
          rw [lsk_y hq]
          exact ⟨by omega, fun _ => by omega⟩
    have nb : ∀ x F, x < R * C → F < 65536 → ¬ arn R C x &&& F = 0 → ∃ j, j < 4 ∧ nf R C F x j ≠ none := by
      intro x F hx hF h
      apply Classical.byContradiction
      intro hn
      apply h
      rw [ar_and hd hx hF]
      intro d hd4
      apply Classical.byContradiction
      intro hz
      exact hn ⟨d, hd4, hz⟩
    intro x y F hx hy hF
    unfold la
    split
    · split
      · exact ⟨by omega, by omega⟩
      · rename_i h1 h2
        have h := st y x F hy hx hF 4 (Nat.le_refl _)
        have h3 := h.2 (nb y F hy hF h2)
        exact ⟨by omega, by omega⟩
    · rename_i h1
      have h := st x y F hx hy hF 4 (Nat.le_refl _)
      exact ⟨h.2 (nb x F hx hF h1), h.1⟩
theorem ct_z (m x y F : Nat) (h : F = 0) : ct R C m x y F = 0 := by
  cases m with
  | zero => rfl
  | succ m => unfold ct; rw [h, Nat.and_zero, Nat.and_zero, if_pos rfl, if_pos rfl]
theorem la_z (m x y F : Nat) (h : F = 0) : la R C m x y F = 0 := by
  cases m with
  | zero => rfl
  | succ m => unfold la; rw [h, Nat.and_zero, Nat.and_zero, if_pos rfl, if_pos rfl]
theorem csk_cong {X Y : Nat → Nat → Nat → Nat} {F x y : Nat} : ∀ k, (∀ j q, j < k → nf R C F x j = some q → X y q (cb F q) = Y y q (cb F q)) → csk R C X F x y k = csk R C Y F x y k
  | 0, _ => rfl
  | k + 1, h => by
    have ih := csk_cong (X := X) (Y := Y) (F := F) (x := x) (y := y) k (fun j q hj => h j q (by omega))
    cases hq : nf R C F x k with
    | none => rw [csk_n hq, csk_n hq, ih]
    | some q => rw [csk_y hq, csk_y hq, ih, h k q (by omega) hq]
theorem lsk_cong {X Y : Nat → Nat → Nat → Int} {F x y : Nat} : ∀ k, (∀ j q, j < k → nf R C F x j = some q → X y q (cb F q) = Y y q (cb F q)) → lsk R C X F x y k = lsk R C Y F x y k
  | 0, _ => rfl
  | k + 1, h => by
    have ih := lsk_cong (X := X) (Y := Y) (F := F) (x := x) (y := y) k (fun j q hj => h j q (by omega))
    cases hq : nf R C F x k with
    | none => rw [lsk_n hq, lsk_n hq, ih]
    | some q => rw [lsk_y hq, lsk_y hq, ih, h k q (by omega) hq]
theorem ct_fuel (hd : Dm R C) : ∀ (n m x y F : Nat), F < 65536 → x < R * C → y < R * C → pc F ≤ n → pc F ≤ m → ct R C n x y F = ct R C m x y F := by
  intro n
  induction n with
  | zero => intro m x y F hF hx hy h1 h2; have h0 := pc_zero hF (by omega); rw [ct_z _ _ _ _ h0, ct_z _ _ _ _ h0]
  | succ n ih =>
    intro m x y F hF hx hy h1 h2
    cases m with
    | zero => have h0 := pc_zero hF (by omega); rw [ct_z _ _ _ _ h0, ct_z _ _ _ _ h0]
    | succ m =>
      have e : ∀ x y, x < R * C → y < R * C → csk R C (ct R C n) F x y 4 = csk R C (ct R C m) F x y 4 := by
        intro x y hx hy
        refine csk_cong 4 (fun j q hj hq => ?_)
        obtain ⟨a, b⟩ := nf_some.mp hq
        have hq2 := (nb_ok hd hx hj a).1
        have := pc_cb (by have := hd.le; omega) b
        exact ih m _ _ _ (cb_lt hF) hy hq2 (by omega) (by omega)
      unfold ct
      rw [e x y hx hy, e y x hy hx]
theorem la_fuel (hd : Dm R C) : ∀ (n m x y F : Nat), F < 65536 → x < R * C → y < R * C → pc F ≤ n → pc F ≤ m → la R C n x y F = la R C m x y F := by
  intro n
  induction n with
  | zero => intro m x y F hF hx hy h1 h2; have h0 := pc_zero hF (by omega); rw [la_z _ _ _ _ h0, la_z _ _ _ _ h0]
  | succ n ih =>
    intro m x y F hF hx hy h1 h2
    cases m with
    | zero => have h0 := pc_zero hF (by omega); rw [la_z _ _ _ _ h0, la_z _ _ _ _ h0]
    | succ m =>
      have e : ∀ x y, x < R * C → y < R * C → lsk R C (la R C n) F x y 4 = lsk R C (la R C m) F x y 4 := by
        intro x y hx hy
        refine lsk_cong 4 (fun j q hj hq => ?_)
        obtain ⟨a, b⟩ := nf_some.mp hq
        have hq2 := (nb_ok hd hx hj a).1
        have := pc_cb (by have := hd.le; omega) b
        exact ih m _ _ _ (cb_lt hF) hy hq2 (by omega) (by omega)
      unfold la
      rw [e x y hx hy, e y x hy hx]
/-- what can't be come to matters nothing -/
theorem ct_Z (hd : Dm R C) (n : Nat) : ∀ x y F Z, F < 65536 → x < R * C → y < R * C → Cls R C F Z → Z.testBit x = true → Z.testBit y = true → ct R C n x y (F &&& Z) = ct R C n x y F := by
  induction n with
  | zero => intros; rfl
  | succ n ih =>
    intro x y F Z hF hx hy hZ zx zy
    have hnf : ∀ x, x < R * C → Z.testBit x = true → ∀ k, k < 4 → nf R C (F &&& Z) x k = nf R C F x k := by
      intro x hx zx k hk
      cases hq : nf R C F x k with
      | some q =>
        obtain ⟨a, b⟩ := nf_some.mp hq
        exact nf_some.mpr ⟨a, by rw [Nat.testBit_and, b, hZ x q k hx hk zx hq]; rfl⟩
      | none =>
        cases hq2 : nf R C (F &&& Z) x k with
        | none => rfl
        | some q =>
          obtain ⟨a, b⟩ := nf_some.mp hq2
          rw [Nat.testBit_and, Bool.and_eq_true] at b
          rw [nf_some.mpr ⟨a, b.1⟩] at hq
          cases hq
    have hbl : ∀ x, x < R * C → Z.testBit x = true → (arn R C x &&& (F &&& Z) = 0 ↔ arn R C x &&& F = 0) := by
      intro x hx zx
      rw [ar_and hd hx (and_lt16 hF), ar_and hd hx hF]
      constructor
      · intro h d hd4; rw [← hnf x hx zx d hd4]; exact h d hd4
      · intro h d hd4; rw [hnf x hx zx d hd4]; exact h d hd4
    have hcs : ∀ x y, x < R * C → y < R * C → Z.testBit x = true → Z.testBit y = true → ∀ k, k ≤ 4 → csk R C (ct R C n) (F &&& Z) x y k = csk R C (ct R C n) F x y k := by
      intro x y hx hy zx zy k
      induction k with
      | zero => intro _; rfl
      | succ k ihk =>
        intro hk
        have ihk := ihk (by omega)
        have hn := hnf x hx zx k (by omega)
        cases hq : nf R C F x k with
        | none => rw [csk_n (hn.trans hq), csk_n hq, ihk]
        | some q =>
          rw [csk_y (hn.trans hq), csk_y hq, ihk]
          obtain ⟨a, b⟩ := nf_some.mp hq
          have hq2 := (nb_ok hd hx (by omega) a).1
          have e1 : cb (F &&& Z) q = cb F q &&& Z := by
            apply Nat.eq_of_testBit_eq
            intro i
            rw [Nat.testBit_and, cb_t, cb_t, Nat.testBit_and]
            cases F.testBit i <;> cases Z.testBit i <;> cases decide (q = i) <;> rfl
          rw [e1, ih y q (cb F q) Z (cb_lt hF) hy hq2 (fun u v j hu hj hs hv => by
            obtain ⟨c1, c2⟩ := nf_some.mp hv
            rw [cb_t, Bool.and_eq_true] at c2
            exact hZ u v j hu hj hs (nf_some.mpr ⟨c1, c2.1⟩)) zy (hZ x q k hx (by omega) zx hq)]
    unfold ct
    by_cases h1 : arn R C x &&& F = 0
    · rw [if_pos h1, if_pos ((hbl x hx zx).mpr h1)]
      by_cases h2 : arn R C y &&& F = 0
      · rw [if_pos h2, if_pos ((hbl y hy zy).mpr h2)]
      · rw [if_neg h2, if_neg (fun z => h2 ((hbl y hy zy).mp z)), hcs y x hy hx zy zx 4 (Nat.le_refl _)]
    · rw [if_neg h1, if_neg (fun z => h1 ((hbl x hx zx).mp z)), hcs x y hx hy zx zy 4 (Nat.le_refl _)]
end U2
