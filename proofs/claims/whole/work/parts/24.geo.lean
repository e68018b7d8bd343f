-- THE FIELD: places, steps, stones
def rng (n : Nat) (f : Nat → Bool) : Bool := match n with
  | 0 => true
  | n + 1 => f n && rng n f
theorem rng_at {f : Nat → Bool} : ∀ {n : Nat}, rng n f = true → ∀ i, i < n → f i = true
  | 0, _, i, h => absurd h (Nat.not_lt_zero i)
  | n + 1, hr, i, h => by
    simp only [rng, Bool.and_eq_true] at hr
    rcases Nat.lt_or_ge i n with q | q
    · exact rng_at hr.2 i q
    · rw [show i = n by omega]; exact hr.1
def nb (R C p d : Nat) : Option Nat :=
  if d = 0 then (if C ≤ p then some (p - C) else none)
  else if d = 1 then (if p % C + 1 < C then some (p + 1) else none)
  else if d = 2 then (if p + C < R * C then some (p + C) else none)
  else if d = 3 then (if 0 < p % C then some (p - 1) else none)
  else none
def ob (o : Option Nat) : Nat := match o with
  | some q => 2 ^ q
  | none => 0
/-- the places beside one, as bits -/
def arn (R C p : Nat) : Nat := ob (nb R C p 0) ||| ob (nb R C p 1) ||| ob (nb R C p 2) ||| ob (nb R C p 3)
def col (C p : Nat) : Nat := (p / C + p % C) % 2
/-- a check over all fields, places and steps -/
def gall (f : Nat → Nat → Nat → Nat → Bool) : Bool := rng 6 (fun R => rng 6 (fun C => R == 0 || (C == 0 || (decide (16 < R * C) || rng (R * C) (fun p => rng 4 (fun d => f R C p d))))))
def Dm (R C : Nat) : Prop := 0 < R ∧ R ≤ 5 ∧ 0 < C ∧ C ≤ 5 ∧ R * C ≤ 16
theorem gall_at {f : Nat → Nat → Nat → Nat → Bool} (h : gall f = true) {R C p d : Nat} (hd : Dm R C) (hp : p < R * C) (hk : d < 4) : f R C p d = true := by
  have h1 := rng_at (rng_at h R (by have := hd.2.1; omega)) C (by have := hd.2.2.2.1; omega)
  have a1 : (R == 0) = false := by have := hd.1; simp; omega
  have a2 : (C == 0) = false := by have := hd.2.2.1; simp; omega
  have a3 : decide (16 < R * C) = false := by have := hd.2.2.2.2; simp; omega
  simp only [a1, a2, a3, Bool.false_or] at h1
  exact rng_at (rng_at h1 p hp) d hk
theorem g_ok : gall (fun R C p d => match nb R C p d with
  | some q => decide (q < R * C) && (decide (q ≠ p) && (decide (nb R C q ((d + 2) % 4) = some p) && (decide (col C q ≠ col C p) && (arn R C p).testBit q)))
  | none => true) = true := by decide +kernel
theorem g_ar : gall (fun R C p _ => decide (arn R C p < 65536) && rng 16 (fun q => (arn R C p).testBit q == (decide (nb R C p 0 = some q) || (decide (nb R C p 1 = some q) || (decide (nb R C p 2 = some q) || decide (nb R C p 3 = some q)))))) = true := by decide +kernel
theorem g_dj : gall (fun R C p d => rng 4 (fun e => d == e || (match nb R C p d, nb R C p e with
  | some a, some b => decide (a ≠ b)
  | _, _ => true))) = true := by decide +kernel
theorem nb_ok {R C p d q : Nat} (hd : Dm R C) (hp : p < R * C) (hk : d < 4) (h : nb R C p d = some q) : q < R * C ∧ q ≠ p ∧ nb R C q ((d + 2) % 4) = some p ∧ col C q ≠ col C p ∧ (arn R C p).testBit q = true := by
  have := gall_at g_ok hd hp hk
  rw [h] at this
  simpa only [Bool.and_eq_true, decide_eq_true_eq] using this
theorem nb_inj {R C p d e q : Nat} (hd : Dm R C) (hp : p < R * C) (hk : d < 4) (he : e < 4) (h1 : nb R C p d = some q) (h2 : nb R C p e = some q) : d = e := by
  have := rng_at (gall_at g_dj hd hp hk) e he
  simp only [Bool.or_eq_true, beq_iff_eq, h1, h2] at this
  rcases this with z | z
  · exact z
  · exact absurd rfl (of_decide_eq_true z)
theorem arn_t {R C p q : Nat} (hd : Dm R C) (hp : p < R * C) (hq : q < 16) : (arn R C p).testBit q = true ↔ ∃ d, d < 4 ∧ nb R C p d = some q := by
  have := rng_at (Bool.and_eq_true _ _ ▸ gall_at g_ar hd hp (d := 0) (by decide) : _ ∧ _).2 q hq
  rw [beq_iff_eq] at this
  rw [this]
  simp only [Bool.or_eq_true, decide_eq_true_eq]
  constructor
  · rintro (h | h | h | h)
    · exact ⟨0, by decide, h⟩
    · exact ⟨1, by decide, h⟩
    · exact ⟨2, by decide, h⟩
    · exact ⟨3, by decide, h⟩
  · rintro ⟨d, hd, h⟩
    match d, hd with
    | 0, _ => exact Or.inl h
    | 1, _ => exact Or.inr (Or.inl h)
    | 2, _ => exact Or.inr (Or.inr (Or.inl h))
    | 3, _ => exact Or.inr (Or.inr (Or.inr h))
    | d + 4, hd => exact absurd hd (by omega)
theorem arn_lt {R C p : Nat} (hd : Dm R C) (hp : p < R * C) : arn R C p < 65536 := by
  have := (Bool.and_eq_true _ _ ▸ gall_at g_ar hd hp (d := 0) (by decide) : _ ∧ _).1
  exact of_decide_eq_true this
/-- the places that are no stones -/
def opn (er : Nat → Int32) : Nat → Nat
  | 0 => 0
  | n + 1 => if er n = -(nI 1) then opn er n else sb (opn er n) n
theorem opn_t (er : Nat → Int32) : ∀ (n p : Nat), (opn er n).testBit p = true ↔ p < n ∧ er p ≠ -(nI 1)
  | 0, p => by simp [opn]
  | n + 1, p => by
    unfold opn
    have ih := opn_t er n p
    split
    · rename_i h
      rw [ih]
      constructor
      · rintro ⟨a, b⟩; exact ⟨by omega, b⟩
      · rintro ⟨a, b⟩
        exact ⟨by rcases Nat.lt_or_ge p n with q | q; exact q; exact absurd (by rw [show p = n by omega]; exact h) b, b⟩
    · rename_i h
      rw [sb_t, Bool.or_eq_true, ih, decide_eq_true_eq]
      constructor
      · rintro (⟨a, b⟩ | rfl)
        · exact ⟨by omega, b⟩
        · exact ⟨by omega, h⟩
      · rintro ⟨a, b⟩
        rcases Nat.lt_or_ge p n with q | q
        · exact Or.inl ⟨q, b⟩
        · exact Or.inr (by omega)
theorem opn_lt {er : Nat → Int32} {n : Nat} (h : n ≤ 16) : opn er n < 65536 := lt16_t fun i hi => by
  cases hq : (opn er n).testBit i with
  | false => rfl
  | true => exact absurd ((opn_t er n i).mp hq).1 (by omega)
theorem opn_cong {er er' : Nat → Int32} : ∀ {n : Nat}, (∀ p, p < n → er p = er' p) → opn er n = opn er' n
  | 0, _ => rfl
  | n + 1, h => by
    unfold opn
    rw [opn_cong (n := n) (fun p hp => h p (by omega)), h n (by omega)]
/-- a field as it may be: ears, the beginning, what spills -/
def WF (R C : Nat) (er : Nat → Int32) (bg sp : Nat) : Prop := Dm R C ∧ (∀ p, p < R * C → er p = -(nI 1) ∨ ∃ e, e ≤ 9 ∧ er p = nI e) ∧ bg < R * C ∧ er bg ≠ -(nI 1) ∧ sp ≤ 9
/-- the class's field in the memory -/
def FI (M : AMm) (R C : Nat) (er : Nat → Int32) (bg sp : Nat) : Prop := M 2 0 = nI R ∧ M 2 1 = nI C ∧ M 2 2 = nI (R * C) ∧ M 2 3 = nI (opn er (R * C)) ∧ M 2 4 = nI bg ∧ M 2 5 = nI sp ∧ ∀ p, p < R * C → M 3 p = er p ∧ M 5 p = nI (arn R C p) ∧ ∀ d, d < 4 → M 4 (4 * p + d) = en (nb R C p d)
theorem FI.of {M M' : AMm} {R C : Nat} {er : Nat → Int32} {bg sp : Nat} (h : FI M R C er bg sp) (h2 : M' 2 = M 2) (h3 : M' 3 = M 3) (h4 : M' 4 = M 4) (h5 : M' 5 = M 5) : FI M' R C er bg sp := by
  unfold FI
  rw [h2, h3, h4, h5]
  exact h
/-- where a step leads, if it can be: the place is in F -/
def nf (R C F p d : Nat) : Option Nat := match nb R C p d with
  | some q => if F.testBit q then some q else none
  | none => none
theorem nf_some {R C F p d q : Nat} : nf R C F p d = some q ↔ nb R C p d = some q ∧ F.testBit q = true := by
  unfold nf
  split
  · rename_i x hx
    split
    · rename_i hF
      constructor
      · intro h; obtain rfl := Option.some.inj h; exact ⟨hx, hF⟩
      · rintro ⟨h, -⟩; rw [← h, hx]
    · rename_i hF
      constructor
      · intro h; cases h
      · rintro ⟨h, h2⟩; rw [hx] at h; obtain rfl := Option.some.inj h; exact absurd h2 hF
  · rename_i hx
    constructor
    · intro h; cases h
    · rintro ⟨h, -⟩; rw [hx] at h; cases h
theorem ar_and {R C F p : Nat} (hd : Dm R C) (hp : p < R * C) (hF : F < 65536) : arn R C p &&& F = 0 ↔ ∀ d, d < 4 → nf R C F p d = none := by
  constructor
  · intro h d hk
    cases hq : nf R C F p d with
    | none => rfl
    | some q =>
      obtain ⟨h1, h2⟩ := nf_some.mp hq
      have h3 := (nb_ok hd hp hk h1).2.2.2.2
      have : (arn R C p &&& F).testBit q = true := by rw [Nat.testBit_and, h3, h2]; rfl
      rw [h, Nat.zero_testBit] at this
      cases this
  · intro h
    refine ext16 (and_lt16 (arn_lt hd hp)) (by decide) fun i hi => ?_
    rw [Nat.zero_testBit, Nat.testBit_and]
    cases h1 : (arn R C p).testBit i with
    | false => rfl
    | true =>
      obtain ⟨d, hk, hq⟩ := (arn_t hd hp hi).mp h1
      cases h2 : F.testBit i with
      | false => rfl
      | true => have := h d hk; rw [nf_some.mpr ⟨hq, h2⟩] at this; cases this
