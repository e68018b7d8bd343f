-- MATHS: the first of the ways of most worth is found step by step
section E1
variable (R C : Nat) (G : Nat → Nat → Nat → Nat)
/-- a better way by the k-th step, if there is one -/
def gq (X : Nat → Nat → Nat → Nat × List Nat) (F p t : Nat) (cur : Nat × List Nat) (k : Nat) : Nat × List Nat := match nf R C F p k with
  | some q => if cur.1 < G q (t + 1) (X (cb F q) q (t + 1)).1 then (G q (t + 1) (X (cb F q) q (t + 1)).1, k :: (X (cb F q) q (t + 1)).2) else cur
  | none => cur
/-- the best on: its worth, its steps -/
def gp : Nat → Nat → Nat → Nat → Nat × List Nat
  | 0, _, _, _ => (0, [])
  | n + 1, F, p, t => gq R C G (gp n) F p t (gq R C G (gp n) F p t (gq R C G (gp n) F p t (gq R C G (gp n) F p t (0, []) 0) 1) 2) 3
end E1
section E2
variable {R C : Nat} {G : Nat → Nat → Nat → Nat}
theorem gq_y {X : Nat → Nat → Nat → Nat × List Nat} {F p t k q : Nat} {cur : Nat × List Nat} (h : nf R C F p k = some q) : gq R C G X F p t cur k = if cur.1 < G q (t + 1) (X (cb F q) q (t + 1)).1 then (G q (t + 1) (X (cb F q) q (t + 1)).1, k :: (X (cb F q) q (t + 1)).2) else cur := by unfold gq; rw [h]
theorem gq_n {X : Nat → Nat → Nat → Nat × List Nat} {F p t k : Nat} {cur : Nat × List Nat} (h : nf R C F p k = none) : gq R C G X F p t cur k = cur := by unfold gq; rw [h]
theorem gp_s (n F p t : Nat) : gp R C G (n + 1) F p t = gq R C G (gp R C G n) F p t (gq R C G (gp R C G n) F p t (gq R C G (gp R C G n) F p t (gq R C G (gp R C G n) F p t (0, []) 0) 1) 2) 3 := rfl
/-- the first k steps are done -/
def gr (R C : Nat) (G : Nat → Nat → Nat → Nat) (X : Nat → Nat → Nat → Nat × List Nat) (F p t : Nat) : Nat → Nat × List Nat
  | 0 => (0, [])
  | k + 1 => gq R C G X F p t (gr R C G X F p t k) k
theorem gp_r (n F p t : Nat) : gp R C G (n + 1) F p t = gr R C G (gp R C G n) F p t 4 := rfl
theorem nf_0 {F p k : Nat} (h : F = 0) : nf R C F p k = none := by
  cases hq : nf R C F p k with
  | none => rfl
  | some q => have := (nf_some.mp hq).2; rw [h, Nat.zero_testBit] at this; cases this
theorem gr_none {X : Nat → Nat → Nat → Nat × List Nat} {F p t : Nat} : ∀ k, (∀ j, j < k → nf R C F p j = none) → gr R C G X F p t k = (0, [])
  | 0, _ => rfl
  | k + 1, h => by
    show gq R C G X F p t (gr R C G X F p t k) k = _
    rw [gq_n (h k (by omega)), gr_none k (fun j hj => h j (by omega))]
theorem gr_cong {X Y : Nat → Nat → Nat → Nat × List Nat} {F p t : Nat} : ∀ k, (∀ j q, j < k → nf R C F p j = some q → X (cb F q) q (t + 1) = Y (cb F q) q (t + 1)) → gr R C G X F p t k = gr R C G Y F p t k
  | 0, _ => rfl
  | k + 1, h => by
    show gq R C G X F p t (gr R C G X F p t k) k = gq R C G Y F p t (gr R C G Y F p t k) k
    rw [gr_cong k (fun j q hj => h j q (by omega))]
    cases hq : nf R C F p k with
    | none => rw [gq_n hq, gq_n hq]
    | some q => rw [gq_y hq, gq_y hq, h k q (by omega) hq]
/-- enough steps are enough -/
theorem gp_fuel (hd : Dm R C) : ∀ (n m F p t : Nat), F < 65536 → p < R * C → pc F ≤ n → pc F ≤ m → gp R C G n F p t = gp R C G m F p t := by
  have z : ∀ (m F p t : Nat), F = 0 → gp R C G m F p t = (0, []) := by
    intro m F p t h
    cases m with
    | zero => rfl
    | succ m => rw [gp_r]; exact gr_none 4 (fun j _ => nf_0 h)
  intro n
  induction n with
  | zero =>
    intro m F p t hF hp h1 h2
    have h0 := pc_zero hF (by omega)
    rw [z 0 F p t h0, z m F p t h0]
  | succ n ih =>
    intro m F p t hF hp h1 h2
    cases m with
    | zero =>
      have h0 := pc_zero hF (by omega)
      rw [z _ F p t h0, z _ F p t h0]
    | succ m =>
      rw [gp_r, gp_r]
      refine gr_cong 4 (fun j q hj hq => ?_)
      obtain ⟨a, b⟩ := nf_some.mp hq
      have hq2 := (nb_ok hd hp hj a).1
      have := pc_cb (by have := hd.le; omega) b
      exact ih m _ _ _ (cb_lt hF) hq2 (by omega) (by omega)
-- the class chooses by ch
def cho (a b : Option (Nat × List Nat)) : Option (Nat × List Nat) := match b with
  | none => a
  | some y => ch a y.1 y.2
def chF (W : Nd → Nat) (l : List Nd) (q : Option (Nat × List Nat)) : Option (Nat × List Nat) := l.foldl (fun q x => ch q (W x) x.1) q
theorem cho_n (a : Option (Nat × List Nat)) : cho none a = a := by cases a <;> rfl
theorem cho_ch (a b : Option (Nat × List Nat)) (w : Nat) (p : List Nat) : ch (cho a b) w p = cho a (ch b w p) := by
  cases b with
  | none => rfl
  | some y =>
    cases a with
    | none => rw [cho_n, cho_n]
    | some x =>
      show ch (if y.1 < x.1 ∨ (y.1 = x.1 ∧ x.2.length ≤ y.2.length) then some x else some (y.1, y.2)) w p = cho (some x) (if w < y.1 ∨ (w = y.1 ∧ y.2.length ≤ p.length) then some y else some (w, p))
      by_cases h1 : y.1 < x.1 ∨ (y.1 = x.1 ∧ x.2.length ≤ y.2.length)
      · rw [if_pos h1]
        by_cases h2 : w < y.1 ∨ (w = y.1 ∧ y.2.length ≤ p.length)
        · rw [if_pos h2]
          show (if w < x.1 ∨ (w = x.1 ∧ x.2.length ≤ p.length) then some x else some (w, p)) = if y.1 < x.1 ∨ (y.1 = x.1 ∧ x.2.length ≤ y.2.length) then some x else some (y.1, y.2)
          rw [if_pos h1, if_pos (by omega)]
        · rw [if_neg h2]; rfl
      · rw [if_neg h1]
        show (if w < y.1 ∨ (w = y.1 ∧ y.2.length ≤ p.length) then some (y.1, y.2) else some (w, p)) = _
        by_cases h2 : w < y.1 ∨ (w = y.1 ∧ y.2.length ≤ p.length)
        · rw [if_pos h2]
          show _ = if y.1 < x.1 ∨ (y.1 = x.1 ∧ x.2.length ≤ y.2.length) then some x else some (y.1, y.2)
          rw [if_neg h1]
        · rw [if_neg h2]
          show _ = if w < x.1 ∨ (w = x.1 ∧ x.2.length ≤ p.length) then some x else some (w, p)
          rw [if_neg (by omega)]
theorem chF_o (W : Nd → Nat) : ∀ (l : List Nd) (q b : Option (Nat × List Nat)), chF W l (cho q b) = cho q (chF W l b)
  | [], _, _ => rfl
  | x :: l, q, b => by
    show chF W l (ch (cho q b) (W x) x.1) = cho q (chF W l (ch b (W x) x.1))
    rw [cho_ch, chF_o W l]
theorem chF_c (W : Nd → Nat) (l : List Nd) (q : Option (Nat × List Nat)) : chF W l q = cho q (chF W l none) := chF_o W l q none
theorem chF_app (W : Nd → Nat) (l l' : List Nd) (q : Option (Nat × List Nat)) : chF W (l ++ l') q = cho (chF W l q) (chF W l' none) := by
  rw [← chF_c]
  unfold chF
  exact List.foldl_append
/-- a step before all of them -/
theorem chF_map (W V : Nd → Nat) (k c : Nat) : ∀ (l : List Nd) (q : Option (Nat × List Nat)), (∀ x ∈ l, W (k :: x.1, x.2) = V x + c) → chF W (l.map (fun x => (k :: x.1, x.2))) (q.map (fun y => (y.1 + c, k :: y.2))) = (chF V l q).map (fun y => (y.1 + c, k :: y.2))
  | [], _, _ => rfl
  | x :: l, q, h => by
    have h1 := h x List.mem_cons_self
    have ih := chF_map W V k c l (ch q (V x) x.1) (fun y hy => h y (List.mem_cons_of_mem _ hy))
    show chF W (l.map (fun x => (k :: x.1, x.2))) (ch (q.map (fun y => (y.1 + c, k :: y.2))) (W (k :: x.1, x.2)) (k :: x.1)) = (chF V l (ch q (V x) x.1)).map (fun y => (y.1 + c, k :: y.2))
    rw [← ih]
    congr 1
    rw [h1]
    cases q with
    | none => rfl
    | some y =>
      show (if V x + c < y.1 + c ∨ (V x + c = y.1 + c ∧ (k :: y.2).length ≤ (k :: x.1).length) then some (y.1 + c, k :: y.2) else some (V x + c, k :: x.1)) = Option.map _ (if V x < y.1 ∨ (V x = y.1 ∧ y.2.length ≤ x.1.length) then some y else some (V x, x.1))
      rw [List.length_cons, List.length_cons]
      by_cases hz : V x < y.1 ∨ (V x = y.1 ∧ y.2.length ≤ x.1.length)
      · rw [if_pos hz, if_pos (by omega)]; rfl
      · rw [if_neg hz, if_neg (by omega)]; rfl
variable {g : Nat → Nat → Nat}
/-- all ways by their first steps: the fold -/
theorem chF_EE (W V : Nd → Nat) (c : Nat) (hW : ∀ k x, W (k :: x.1, x.2) = V x + c) (n F p t b : Nat) : chF W (EE R C g (n + 1) F p t b) none = [0, 1, 2, 3].foldl (fun a k => cho a (match nf R C F p k with
    | some q => (chF V (EE R C g n (cb F q) q (t + 1) (b + g q (t + 1))) none).map (fun y => (y.1 + c, k :: y.2))
    | none => none)) (some (W ([], F, p, b), [])) := by
  have hk : ∀ k, chF W (wk R C g (EE R C g n) F p t b k) none = (match nf R C F p k with
    | some q => (chF V (EE R C g n (cb F q) q (t + 1) (b + g q (t + 1))) none).map (fun y => (y.1 + c, k :: y.2))
    | none => none) := by
    intro k
    unfold wk
    cases nf R C F p k with
    | none => rfl
    | some q => exact chF_map W V k c _ none (fun x _ => hW k x)
  show chF W (([], F, p, b) :: wf R C g (EE R C g n) F p t b 0) none = _
  show chF W (wf R C g (EE R C g n) F p t b 0) (some (W ([], F, p, b), [])) = _
  unfold wf
  simp only [Nat.zero_le, if_true]
  rw [chF_app, chF_c W (wk R C g (EE R C g n) F p t b 0), chF_app, chF_app, hk, hk, hk, hk]
  have as : ∀ a b e : Option (Nat × List Nat), cho a (cho b e) = cho (cho a b) e := by
    intro a b e
    cases e with
    | none => rfl
    | some y => exact (cho_ch a b y.1 y.2).symm
  rw [as, as]
  rfl
/-- for the longest way -/
def G1 (_ _ s : Nat) : Nat := s + 1
/-- for the best way: thirty-two times what is brought, less the steps -/
def G2 (g : Nat → Nat → Nat) (q t s : Nat) : Nat := 32 * g q t + s - 1
theorem lw_gp (n : Nat) : ∀ (F p t b : Nat), lwF (EE R C g n F p t b) none = some ((gp R C G1 n F p t).1 + 1, (gp R C G1 n F p t).2) ∧ (gp R C G1 n F p t).2.length = (gp R C G1 n F p t).1 := by
  induction n with
  | zero => intro F p t b; exact ⟨rfl, rfl⟩
  | succ n ih =>
    intro F p t b
    have h := chF_EE (R := R) (C := C) (g := g) (fun x => x.1.length + 1) (fun x => x.1.length + 1) 1 (fun k x => rfl) n F p t b
    have st : ∀ (cur : Nat × List Nat) (k : Nat), cur.2.length = cur.1 → cho (some (cur.1 + 1, cur.2)) (match nf R C F p k with
        | some q => (chF (fun x => x.1.length + 1) (EE R C g n (cb F q) q (t + 1) (b + g q (t + 1))) none).map (fun y => (y.1 + 1, k :: y.2))
        | none => none) = some ((gq R C G1 (gp R C G1 n) F p t cur k).1 + 1, (gq R C G1 (gp R C G1 n) F p t cur k).2) ∧ (gq R C G1 (gp R C G1 n) F p t cur k).2.length = (gq R C G1 (gp R C G1 n) F p t cur k).1 := by
      intro cur k hc
      cases hq : nf R C F p k with
      | none => rw [gq_n hq]; exact ⟨rfl, hc⟩
      | some q =>
        have i := ih (cb F q) q (t + 1) (b + g q (t + 1))
        rw [gq_y hq]
        show cho (some (cur.1 + 1, cur.2)) ((lwF (EE R C g n (cb F q) q (t + 1) (b + g q (t + 1))) none).map (fun y => (y.1 + 1, k :: y.2))) = _ ∧ _
        rw [i.1]
        generalize gp R C G1 n (cb F q) q (t + 1) = r at i ⊢
        have i2 := i.2
        show (if r.1 + 1 + 1 < cur.1 + 1 ∨ (r.1 + 1 + 1 = cur.1 + 1 ∧ cur.2.length ≤ (k :: r.2).length) then some (cur.1 + 1, cur.2) else some (r.1 + 1 + 1, k :: r.2)) = _ ∧ _
        rw [List.length_cons]
        unfold G1
        by_cases hz : cur.1 < r.1 + 1
        · rw [if_pos hz, if_neg (by omega)]
          exact ⟨rfl, by rw [List.length_cons]; omega⟩
        · rw [if_neg hz, if_pos (by omega)]
          exact ⟨rfl, hc⟩
    have s0 := st (0, []) 0 rfl
    have s1 := st _ 1 s0.2
    have s2 := st _ 2 s1.2
    have s3 := st _ 3 s2.2
    refine ⟨?_, s3.2⟩
    rw [gp_s, ← s3.1, ← s2.1, ← s1.1, ← s0.1]
    exact h
theorem bw_gp (n : Nat) (hn : n ≤ 16) : ∀ (F p t b : Nat), ∃ w, bwF (EE R C g n F p t b) none = some (w, (gp R C (G2 g) n F p t).2) ∧ 32 * w = 32 * b + (gp R C (G2 g) n F p t).1 + (gp R C (G2 g) n F p t).2.length ∧ (gp R C (G2 g) n F p t).2.length ≤ n := by
  induction n with
  | zero => intro F p t b; exact ⟨b, rfl, rfl, Nat.le_refl _⟩
  | succ n ih =>
    intro F p t b
    have ih := ih (by omega)
    have h := chF_EE (R := R) (C := C) (g := g) (fun x => x.2.2.2) (fun x => x.2.2.2) 0 (fun k x => rfl) n F p t b
    have st : ∀ (cur : Nat × List Nat) (k w : Nat), 32 * w = 32 * b + cur.1 + cur.2.length → cur.2.length ≤ n + 1 → ∃ w', cho (some (w, cur.2)) (match nf R C F p k with
        | some q => (chF (fun x => x.2.2.2) (EE R C g n (cb F q) q (t + 1) (b + g q (t + 1))) none).map (fun y => (y.1 + 0, k :: y.2))
        | none => none) = some (w', (gq R C (G2 g) (gp R C (G2 g) n) F p t cur k).2) ∧ 32 * w' = 32 * b + (gq R C (G2 g) (gp R C (G2 g) n) F p t cur k).1 + (gq R C (G2 g) (gp R C (G2 g) n) F p t cur k).2.length ∧ (gq R C (G2 g) (gp R C (G2 g) n) F p t cur k).2.length ≤ n + 1 := by
      intro cur k w hc hc2
      cases hq : nf R C F p k with
      | none => rw [gq_n hq]; exact ⟨w, rfl, hc, hc2⟩
      | some q =>
        obtain ⟨w', i1, i2, i3⟩ := ih (cb F q) q (t + 1) (b + g q (t + 1))
        rw [gq_y hq]
        show ∃ w', cho (some (w, cur.2)) ((bwF (EE R C g n (cb F q) q (t + 1) (b + g q (t + 1))) none).map (fun y => (y.1 + 0, k :: y.2))) = _ ∧ _
        rw [i1]
        generalize gp R C (G2 g) n (cb F q) q (t + 1) = r at i2 i3 ⊢
        show ∃ w9, (if w' + 0 < w ∨ (w' + 0 = w ∧ cur.2.length ≤ (k :: r.2).length) then some (w, cur.2) else some (w' + 0, k :: r.2)) = _ ∧ _
        rw [List.length_cons, Nat.add_zero]
        unfold G2
        by_cases hz : cur.1 < 32 * g q (t + 1) + r.1 - 1
        · rw [if_pos hz, if_neg (by omega)]
          exact ⟨w', rfl, by rw [List.length_cons]; dsimp only; omega, by rw [List.length_cons]; omega⟩
        · rw [if_neg hz, if_pos (by omega)]
          exact ⟨w, rfl, hc, hc2⟩
    obtain ⟨w0, e0, f0, g0⟩ := st (0, []) 0 b rfl (Nat.zero_le _)
    obtain ⟨w1, e1, f1, g1⟩ := st _ 1 w0 f0 g0
    obtain ⟨w2, e2, f2, g2⟩ := st _ 2 w1 f1 g1
    obtain ⟨w3, e3, f3, g3⟩ := st _ 3 w2 f2 g2
    refine ⟨w3, ?_, f3, g3⟩
    rw [gp_s, ← e3, ← e2, ← e1, ← e0]
    exact h
end E2
