-- NUMBERS AND BITS
def cb (a p : Nat) : Nat := a ^^^ (a &&& 2 ^ p)
def sb (a p : Nat) : Nat := a ||| 2 ^ p
/-- how many of the first sixteen bits are set -/
def pc (a : Nat) : Nat := fb_ct (fun i => a.testBit i) 16
theorem t2 (p i : Nat) : (2 ^ p).testBit i = decide (p = i) := Nat.testBit_two_pow
theorem cb_t (a p i : Nat) : (cb a p).testBit i = (a.testBit i && !decide (p = i)) := by
  unfold cb
  rw [Nat.testBit_xor, Nat.testBit_and, t2]
  cases a.testBit i <;> cases decide (p = i) <;> rfl
theorem sb_t (a p i : Nat) : (sb a p).testBit i = (a.testBit i || decide (p = i)) := by
  unfold sb
  rw [Nat.testBit_or, t2]
theorem lt16_t {a : Nat} (h : ∀ i, 16 ≤ i → a.testBit i = false) : a < 65536 := Nat.lt_pow_two_of_testBit (n := 16) a h
theorem t_lt16 {a : Nat} (h : a < 65536) {i : Nat} (hi : 16 ≤ i) : a.testBit i = false := Nat.testBit_lt_two_pow (Nat.lt_of_lt_of_le h (Nat.pow_le_pow_right (n := 2) (by decide) hi : 2 ^ 16 ≤ 2 ^ i))
theorem ext16 {a b : Nat} (ha : a < 65536) (hb : b < 65536) (h : ∀ i, i < 16 → a.testBit i = b.testBit i) : a = b := Nat.eq_of_testBit_eq fun i => by
  rcases Nat.lt_or_ge i 16 with q | q
  · exact h i q
  · rw [t_lt16 ha q, t_lt16 hb q]
theorem cb_lt {a p : Nat} (h : a < 65536) : cb a p < 65536 := lt16_t fun i hi => by rw [cb_t, t_lt16 h hi]; rfl
theorem sb_lt {a p : Nat} (h : a < 65536) (hp : p < 16) : sb a p < 65536 := lt16_t fun i hi => by rw [sb_t, t_lt16 h hi]; simp; omega
theorem pc_cb {a p : Nat} (hp : p < 16) (h : a.testBit p = true) : pc (cb a p) + 1 = pc a := by
  unfold pc
  have := fb_ct_upd (fun i => a.testBit i) false (i := p) (n := 16) hp
  rw [fb_ct_cong (q := fun k => if k = p then false else a.testBit k) (fun k _ => by
    rw [cb_t]
    by_cases hk : k = p
    · subst hk; simp
    · rw [if_neg hk]; have : ¬ p = k := fun q => hk q.symm
      simp [this])]
  simp only [h, if_true] at this
  simpa using this
theorem pc_sb {a p : Nat} (hp : p < 16) (h : a.testBit p = false) : pc (sb a p) = pc a + 1 := by
  unfold pc
  have := fb_ct_upd (fun i => a.testBit i) true (i := p) (n := 16) hp
  rw [fb_ct_cong (q := fun k => if k = p then true else a.testBit k) (fun k _ => by
    rw [sb_t]
    by_cases hk : k = p
    · subst hk; simp
    · rw [if_neg hk]; have : ¬ p = k := fun q => hk q.symm
      simp [this])]
  simp only [h] at this
  simpa using this
theorem pc_le (a : Nat) : pc a ≤ 16 := fb_ct_le _ 16
theorem pc_0 : pc 0 = 0 := by decide
theorem pc_zero {a : Nat} (ha : a < 65536) (h : pc a = 0) : a = 0 := ext16 ha (by decide) fun i hi => by
  rw [(fb_ct_zero.mp h) i hi, Nat.zero_testBit]
theorem pc_pos {a p : Nat} (hp : p < 16) (h : a.testBit p = true) : 0 < pc a := fb_ct_pos.mpr ⟨p, hp, h⟩
theorem pc_sub {a b : Nat} (h : ∀ i, i < 16 → a.testBit i = true → b.testBit i = true) : pc a ≤ pc b := fb_ct_sub h
-- Int32
theorem n_shl : ∀ p, p < 31 → (nI 1) <<< (nI p &&& 31) = nI (2 ^ p) := by decide +kernel
theorem n_s31 : ∀ n, n < 32 → ((nI n &&& 31).toBitVec.smod 32).toNat = n := by decide +kernel
theorem n_shr {a p : Nat} (ha : a < 2 ^ 31) (hp : p < 31) : (nI a) >>> (nI p &&& 31) = nI (a / 2 ^ p) := pk_shrN ha _ p (n_s31 p (by omega))
theorem n_tst {a p : Nat} (ha : a < 2 ^ 31) (hp : p < 31) : ((nI a) >>> (nI p &&& 31)) &&& (nI 1) = nI (if a.testBit p then 1 else 0) := by
  rw [n_shr ha hp, fa_and]
  congr 1
  rw [Nat.and_one_is_mod, ← Nat.shiftRight_eq_div_pow]
  have : a.testBit p = decide ((a >>> p) % 2 = 1) := by
    rw [Nat.testBit, Nat.and_comm, Nat.and_one_is_mod]
    rcases Nat.mod_two_eq_zero_or_one (a >>> p) with h | h <;> rw [h] <;> rfl
  rw [this]
  rcases Nat.mod_two_eq_zero_or_one (a >>> p) with h | h <;> rw [h] <;> rfl
theorem n_t1 {a p : Nat} (ha : a < 2 ^ 31) (hp : p < 31) : (((nI a) >>> (nI p &&& 31)) &&& (nI 1)) = nI 1 ↔ a.testBit p = true := by
  rw [n_tst ha hp]
  cases a.testBit p <;> decide
theorem n_t0 {a p : Nat} (ha : a < 2 ^ 31) (hp : p < 31) : (((nI a) >>> (nI p &&& 31)) &&& (nI 1)) = 0 ↔ a.testBit p = false := by
  rw [n_tst ha hp]
  cases a.testBit p <;> decide
theorem n_m1 : (-(nI 1)).toBitVec = BitVec.allOnes 32 := by decide +kernel
theorem n_xor (a b : Nat) : nI a ^^^ nI b = nI (a ^^^ b) := by
  apply Int32.toBitVec_inj.mp
  show BitVec.ofNat 32 a ^^^ BitVec.ofNat 32 b = BitVec.ofNat 32 (a ^^^ b)
  exact (BitVec.ofNat_xor).symm
theorem n_andn (a b : Nat) : nI a &&& (nI b ^^^ (-(nI 1))) = nI (a ^^^ (a &&& b)) := by
  rw [← n_xor, ← fa_and]
  apply Int32.toBitVec_inj.mp
  rw [Int32.toBitVec_and, Int32.toBitVec_xor, Int32.toBitVec_xor, Int32.toBitVec_and, n_m1]
  apply BitVec.eq_of_getLsbD_eq
  intro i hi
  simp only [BitVec.getLsbD_and, BitVec.getLsbD_xor, BitVec.getLsbD_allOnes, hi, decide_true]
  cases (nI a).toBitVec.getLsbD i <;> cases (nI b).toBitVec.getLsbD i <;> rfl
theorem n_cb {a p : Nat} (hp : p < 31) : nI a &&& (((nI 1) <<< (nI p &&& 31)) ^^^ (-(nI 1))) = nI (cb a p) := by
  rw [n_shl p hp, n_andn]; rfl
theorem n_sb {a p : Nat} (hp : p < 31) : nI a ||| ((nI 1) <<< (nI p &&& 31)) = nI (sb a p) := by
  rw [n_shl p hp, fa_or]; rfl
theorem n_lt {a b : Nat} (ha : a < 2 ^ 31) (hb : b < 2 ^ 31) : nI a < nI b ↔ a < b := nI_ltI ha hb
theorem n_le {a b : Nat} (ha : a < 2 ^ 31) (hb : b < 2 ^ 31) : nI a ≤ nI b ↔ a ≤ b := nI_leI ha hb
theorem n_eq {a b : Nat} (ha : a < 2 ^ 31) (hb : b < 2 ^ 31) : nI a = nI b ↔ a = b := nI_eq ha hb
theorem n_n0 {a : Nat} (ha : a < 2 ^ 31) : ¬ nI a < 0 := nI_pos ha
theorem n_e0 {a : Nat} (ha : a < 2 ^ 31) : nI a = 0 ↔ a = 0 := by rw [← nI_0]; exact n_eq ha (by decide)
theorem n_in {i n : Nat} (h : i < n) (hn : n < 2 ^ 31) : vp_in (nI i) n := vp_in_nI h hn
theorem n_cl {i : Nat} (h : i < 2 ^ 31) : (nI i).toNatClampNeg = i := nI_clamp h
/-- a place or none, as an int -/
def en (o : Option Nat) : Int32 := match o with
  | some q => nI q
  | none => -(nI 1)
def en6 (o : Option Nat) : Int32 := match o with
  | some q => nI q
  | none => -(nI 6)
theorem neg_lt {k : Nat} (h0 : 0 < k) (h : k < 2000) : -(nI k) < 0 := by
  rw [Int32.lt_iff_toInt_lt, sb_negT (by omega), Int32.toInt_zero]
  omega
theorem en_neg {o : Option Nat} (h : ∀ q, o = some q → q < 2 ^ 31) : en o < 0 ↔ o = none := by
  cases o with
  | none => exact ⟨fun _ => rfl, fun _ => neg_lt (by decide) (by decide)⟩
  | some q => exact ⟨fun z => absurd z (nI_pos (h q rfl)), fun z => by cases z⟩
theorem en6_neg {o : Option Nat} (h : ∀ q, o = some q → q < 2 ^ 31) : en6 o < 0 ↔ o = none := by
  cases o with
  | none => exact ⟨fun _ => rfl, fun _ => neg_lt (by decide) (by decide)⟩
  | some q => exact ⟨fun z => absurd z (nI_pos (h q rfl)), fun z => by cases z⟩
-- the JDK's count of bits
def bc1 (x : Int32) : Int32 := x - (((x.toUInt32 >>> ((nI 1).toUInt32 &&& Int32.toUInt32 31)).toInt32) &&& (nI 1431655765))
def bc2 (x : Int32) : Int32 := (x &&& (nI 858993459)) + (((x.toUInt32 >>> ((nI 2).toUInt32 &&& Int32.toUInt32 31)).toInt32) &&& (nI 858993459))
def bc3 (x : Int32) : Int32 := (x + ((x.toUInt32 >>> ((nI 4).toUInt32 &&& Int32.toUInt32 31)).toInt32)) &&& (nI 252645135)
def bc4 (x : Int32) : Int32 := x + ((x.toUInt32 >>> ((nI 8).toUInt32 &&& Int32.toUInt32 31)).toInt32)
def bc5 (x : Int32) : Int32 := x + ((x.toUInt32 >>> ((nI 16).toUInt32 &&& Int32.toUInt32 31)).toInt32)
def bcN (x : Nat) : Nat :=
  (fun a => (fun b => (fun c => (fun e => (Nat.land (Nat.add e (Nat.shiftRight e 16)) 63)) (Nat.add c (Nat.shiftRight c 8))) (Nat.land (Nat.add b (Nat.shiftRight b 4)) 252645135)) (Nat.add (Nat.land a 858993459) (Nat.land (Nat.shiftRight a 2) 858993459))) (Nat.sub x (Nat.land (Nat.shiftRight x 1) 1431655765))
/-- all numbers that begin with the bits x, k bits more: c of the bits of x are set -/
def chk : Nat → Nat → Nat → Bool
  | 0, x, c => Nat.beq (bcN x) c && (Nat.beq x 0 || Nat.beq (Nat.add (bcN (Nat.land x (Nat.sub x 1))) 1) c)
  | k + 1, x, c => chk k (Nat.mul 2 x) c && chk k (Nat.add (Nat.mul 2 x) 1) (Nat.add c 1)
theorem chk_0 : chk 10 0 0 = true := by decide +kernel
theorem chk_1 : chk 10 1 1 = true := by decide +kernel
theorem chk_2 : chk 10 2 1 = true := by decide +kernel
theorem chk_3 : chk 10 3 2 = true := by decide +kernel
theorem chk_4 : chk 10 4 1 = true := by decide +kernel
theorem chk_5 : chk 10 5 2 = true := by decide +kernel
theorem chk_6 : chk 10 6 2 = true := by decide +kernel
theorem chk_7 : chk 10 7 3 = true := by decide +kernel
theorem chk_8 : chk 10 8 1 = true := by decide +kernel
theorem chk_9 : chk 10 9 2 = true := by decide +kernel
theorem chk_10 : chk 10 10 2 = true := by decide +kernel
theorem chk_11 : chk 10 11 3 = true := by decide +kernel
theorem chk_12 : chk 10 12 2 = true := by decide +kernel
theorem chk_13 : chk 10 13 3 = true := by decide +kernel
theorem chk_14 : chk 10 14 3 = true := by decide +kernel
theorem chk_15 : chk 10 15 4 = true := by decide +kernel
theorem chk_16 : chk 10 16 1 = true := by decide +kernel
theorem chk_17 : chk 10 17 2 = true := by decide +kernel
theorem chk_18 : chk 10 18 2 = true := by decide +kernel
theorem chk_19 : chk 10 19 3 = true := by decide +kernel
theorem chk_20 : chk 10 20 2 = true := by decide +kernel
theorem chk_21 : chk 10 21 3 = true := by decide +kernel
theorem chk_22 : chk 10 22 3 = true := by decide +kernel
theorem chk_23 : chk 10 23 4 = true := by decide +kernel
theorem chk_24 : chk 10 24 2 = true := by decide +kernel
theorem chk_25 : chk 10 25 3 = true := by decide +kernel
theorem chk_26 : chk 10 26 3 = true := by decide +kernel
theorem chk_27 : chk 10 27 4 = true := by decide +kernel
theorem chk_28 : chk 10 28 3 = true := by decide +kernel
theorem chk_29 : chk 10 29 4 = true := by decide +kernel
theorem chk_30 : chk 10 30 4 = true := by decide +kernel
theorem chk_31 : chk 10 31 5 = true := by decide +kernel
theorem chk_32 : chk 10 32 1 = true := by decide +kernel
theorem chk_33 : chk 10 33 2 = true := by decide +kernel
theorem chk_34 : chk 10 34 2 = true := by decide +kernel
theorem chk_35 : chk 10 35 3 = true := by decide +kernel
theorem chk_36 : chk 10 36 2 = true := by decide +kernel
theorem chk_37 : chk 10 37 3 = true := by decide +kernel
theorem chk_38 : chk 10 38 3 = true := by decide +kernel
theorem chk_39 : chk 10 39 4 = true := by decide +kernel
theorem chk_40 : chk 10 40 2 = true := by decide +kernel
theorem chk_41 : chk 10 41 3 = true := by decide +kernel
theorem chk_42 : chk 10 42 3 = true := by decide +kernel
theorem chk_43 : chk 10 43 4 = true := by decide +kernel
theorem chk_44 : chk 10 44 3 = true := by decide +kernel
theorem chk_45 : chk 10 45 4 = true := by decide +kernel
theorem chk_46 : chk 10 46 4 = true := by decide +kernel
theorem chk_47 : chk 10 47 5 = true := by decide +kernel
theorem chk_48 : chk 10 48 2 = true := by decide +kernel
theorem chk_49 : chk 10 49 3 = true := by decide +kernel
theorem chk_50 : chk 10 50 3 = true := by decide +kernel
theorem chk_51 : chk 10 51 4 = true := by decide +kernel
theorem chk_52 : chk 10 52 3 = true := by decide +kernel
theorem chk_53 : chk 10 53 4 = true := by decide +kernel
theorem chk_54 : chk 10 54 4 = true := by decide +kernel
theorem chk_55 : chk 10 55 5 = true := by decide +kernel
theorem chk_56 : chk 10 56 3 = true := by decide +kernel
theorem chk_57 : chk 10 57 4 = true := by decide +kernel
theorem chk_58 : chk 10 58 4 = true := by decide +kernel
theorem chk_59 : chk 10 59 5 = true := by decide +kernel
theorem chk_60 : chk 10 60 4 = true := by decide +kernel
theorem chk_61 : chk 10 61 5 = true := by decide +kernel
theorem chk_62 : chk 10 62 5 = true := by decide +kernel
theorem chk_63 : chk 10 63 6 = true := by decide +kernel
theorem chk_all : ∀ t, t < 64 → chk 10 t (fb_ct (fun i => t.testBit i) 6) = true := by
  intro t ht
  match t, ht with
  | 0, _ => exact chk_0
  | 1, _ => exact chk_1
  | 2, _ => exact chk_2
  | 3, _ => exact chk_3
  | 4, _ => exact chk_4
  | 5, _ => exact chk_5
  | 6, _ => exact chk_6
  | 7, _ => exact chk_7
  | 8, _ => exact chk_8
  | 9, _ => exact chk_9
  | 10, _ => exact chk_10
  | 11, _ => exact chk_11
  | 12, _ => exact chk_12
  | 13, _ => exact chk_13
  | 14, _ => exact chk_14
  | 15, _ => exact chk_15
  | 16, _ => exact chk_16
  | 17, _ => exact chk_17
  | 18, _ => exact chk_18
  | 19, _ => exact chk_19
  | 20, _ => exact chk_20
  | 21, _ => exact chk_21
  | 22, _ => exact chk_22
  | 23, _ => exact chk_23
  | 24, _ => exact chk_24
  | 25, _ => exact chk_25
  | 26, _ => exact chk_26
  | 27, _ => exact chk_27
  | 28, _ => exact chk_28
  | 29, _ => exact chk_29
  | 30, _ => exact chk_30
  | 31, _ => exact chk_31
  | 32, _ => exact chk_32
  | 33, _ => exact chk_33
  | 34, _ => exact chk_34
  | 35, _ => exact chk_35
  | 36, _ => exact chk_36
  | 37, _ => exact chk_37
  | 38, _ => exact chk_38
  | 39, _ => exact chk_39
  | 40, _ => exact chk_40
  | 41, _ => exact chk_41
  | 42, _ => exact chk_42
  | 43, _ => exact chk_43
  | 44, _ => exact chk_44
  | 45, _ => exact chk_45
  | 46, _ => exact chk_46
  | 47, _ => exact chk_47
  | 48, _ => exact chk_48
  | 49, _ => exact chk_49
  | 50, _ => exact chk_50
  | 51, _ => exact chk_51
  | 52, _ => exact chk_52
  | 53, _ => exact chk_53
  | 54, _ => exact chk_54
  | 55, _ => exact chk_55
  | 56, _ => exact chk_56
  | 57, _ => exact chk_57
  | 58, _ => exact chk_58
  | 59, _ => exact chk_59
  | 60, _ => exact chk_60
  | 61, _ => exact chk_61
  | 62, _ => exact chk_62
  | 63, _ => exact chk_63
  | t + 64, h => exact absurd h (by omega)
theorem chk_ok : ∀ (k x c : Nat), chk k x c = true → ∀ y, y < 2 ^ k → bcN (2 ^ k * x + y) = c + fb_ct (fun i => y.testBit i) k ∧ (2 ^ k * x + y = 0 ∨ bcN ((2 ^ k * x + y) &&& (2 ^ k * x + y - 1)) + 1 = c + fb_ct (fun i => y.testBit i) k)
  | 0, x, c, h, y, hy => by
    have hy0 : y = 0 := by simpa using hy
    subst hy0
    simp only [chk, Bool.and_eq_true, Bool.or_eq_true] at h
    have h1 := Nat.eq_of_beq_eq_true h.1
    rw [Nat.pow_zero, Nat.one_mul, Nat.add_zero]
    refine ⟨h1, ?_⟩
    rcases h.2 with q | q
    · exact Or.inl (Nat.eq_of_beq_eq_true q)
    · exact Or.inr (Nat.eq_of_beq_eq_true q)
  | k + 1, x, c, h, y, hy => by
    simp only [chk, Bool.and_eq_true] at h
    have hp : 2 ^ (k + 1) = 2 * 2 ^ k := by rw [Nat.pow_succ]; omega
    rw [fb_ct_succ]
    rcases Nat.lt_or_ge y (2 ^ k) with q | q
    · have e1 : 2 ^ (k + 1) * x + y = 2 ^ k * Nat.mul 2 x + y := by show _ = 2 ^ k * (2 * x) + y; rw [hp, Nat.mul_comm 2 (2 ^ k), Nat.mul_assoc]
      have e2 : y.testBit k = false := Nat.testBit_lt_two_pow q
      rw [e1, e2]
      exact chk_ok k _ c h.1 y q
    · have e1 : 2 ^ (k + 1) * x + y = 2 ^ k * Nat.add (Nat.mul 2 x) 1 + (y - 2 ^ k) := by
        show _ = 2 ^ k * (2 * x + 1) + (y - 2 ^ k)
        rw [hp, Nat.mul_comm 2 (2 ^ k), Nat.mul_assoc, Nat.mul_add]; omega
      have hy2 : y - 2 ^ k < 2 ^ k := by omega
      have e3 : y = 2 ^ k + (y - 2 ^ k) := by omega
      have e2 : y.testBit k = true := by rw [e3, Nat.testBit_two_pow_add_eq, Nat.testBit_lt_two_pow hy2]; rfl
      have e4 : fb_ct (fun i => y.testBit i) k = fb_ct (fun i => (y - 2 ^ k).testBit i) k := fb_ct_cong fun i hi => by
        show y.testBit i = _
        rw [e3, Nat.testBit_two_pow_add_gt hi, Nat.add_sub_cancel_left]
      rw [e1, e2, e4]
      have := chk_ok k _ (Nat.add c 1) h.2 (y - 2 ^ k) hy2
      rw [show Nat.add c 1 + fb_ct (fun i => (y - 2 ^ k).testBit i) k = c + (fb_ct (fun i => (y - 2 ^ k).testBit i) k + if true = true then 1 else 0) from by show c + 1 + _ = _; simp; omega] at this
      exact this
theorem bc_both {x : Nat} (h : x < 65536) : bcN x = pc x ∧ (x = 0 ∨ bcN (x &&& (x - 1)) + 1 = pc x) := by
  have e := chk_ok 10 (x / 1024) _ (chk_all (x / 1024) (by omega)) (x % 1024) (by show _ < 1024; omega)
  rw [show 2 ^ 10 * (x / 1024) + x % 1024 = x by omega] at e
  have e2 : fb_ct (fun i => (x / 1024).testBit i) 6 + fb_ct (fun i => (x % 1024).testBit i) 10 = pc x := by
    unfold pc
    rw [show (16 : Nat) = 10 + 6 from rfl, fb_ct_split, Nat.add_comm]
    congr 1
    · exact fb_ct_cong fun i hi => by show (x % 2 ^ 10).testBit i = _; rw [Nat.testBit_mod_two_pow]; simp [hi]
    · exact fb_ct_cong fun i hi => by show (x / 2 ^ 10).testBit i = _; rw [Nat.testBit_div_two_pow, Nat.add_comm]
  rw [e2] at e
  exact e
theorem bcN_pc {x : Nat} (h : x < 65536) : bcN x = pc x := (bc_both h).1
theorem and_lt16 {a b : Nat} (h : a < 65536) : a &&& b < 65536 := lt16_t fun i hi => by rw [Nat.testBit_and, t_lt16 h hi]; rfl
theorem ones_pc {x : Nat} (h : x < 65536) (h0 : x ≠ 0) : pc (x &&& (x - 1)) + 1 = pc x := by
  rcases (bc_both h).2 with q | q
  · exact absurd q h0
  · rw [← q, bcN_pc (and_lt16 h)]
