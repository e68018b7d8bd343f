-- THE ABSTRACT MACHINE: the shapes of the cells by their numbers, one memory of ints, references are numbers of cells (from 1000000 on: arrays that nobody writes)
abbrev AMm : Type := Nat → Nat → Int32
abbrev ADc : Type := (Nat × List (Option (Option Nat))) ⊕ ((Nat × Nat) ⊕ List (Option Nat))
abbrev ADd : Type := List ADc
abbrev ALo : Type := List (Option Value)
abbrev ASt : Type := Nat × Nat × ALo × List Value × ADd × AMm
abbrev ARs : Type := Option Value × ADd × AMm
abbrev ACl : Type := Nat × List Value × List Value
abbrev AOu : Type := ASt ⊕ (ARs ⊕ ACl)
/-- one int of the memory is set -/
def ms (M : AMm) (i k : Nat) (v : Int32) : AMm := fun a b => if a = i then (if b = k then v else M a b) else M a b
/-- all ints of a cell are set -/
def mr (M : AMm) (i : Nat) (f : Nat → Int32) : AMm := fun a b => if a = i then f b else M a b
def a_roL (M : AMm) (r : Nat) : Nat := if r = 0 then (M 1000004 0).toNatClampNeg else 4
def a_cs : List Nat → Int32
  | [a] => nI a
  | [_, b] => -(nI b)
  | _ => 0
def a_hd : List Nat → Nat
  | a :: _ => a
  | [] => 0
def a_nx (k j : Nat) (L : ALo) (st : List Value) (D : ADd) (M : AMm) : Option AOu := some (.inl (k, j + 1, L, st, D, M))
def a_ld (L : ALo) (i : Nat) : Option Value := match L[i]? with
  | some (some v) => some v
  | _ => none
/-- a value of one word is put into a local, ahead of which no long stands -/
def a_st (L : ALo) (i : Nat) (v : Value) : Option ALo := match i with
  | 0 => if 0 < L.length then some (L.set 0 (some v)) else none
  | i + 1 => if i + 1 < L.length then (match L[i]? with
    | some (some (.long _)) => none
    | some (some (.double _)) => none
    | _ => some (L.set (i + 1) (some v))) else none
def a_sto (k j : Nat) (L : ALo) (i : Nat) (v : Value) (st : List Value) (D : ADd) (M : AMm) : Option AOu := match a_st L i v with
  | some L' => a_nx k j L' st D M
  | none => none
def a_b2 (k j : Nat) (L : ALo) (st : List Value) (D : ADd) (M : AMm) (f : Int32 → Int32 → Int32) : Option AOu := match st with
  | .int y :: .int x :: r => a_nx k j L (.int (f x y) :: r) D M
  | _ => none
def a_l2 (k j : Nat) (L : ALo) (st : List Value) (D : ADd) (M : AMm) (f : Int64 → Int64 → Int64) : Option AOu := match st with
  | .long y :: .long x :: r => a_nx k j L (.long (f x y) :: r) D M
  | _ => none
def a_if (c : Jvm.ClassFile.Cond) (x y : Int32) (t f : ASt) : AOu := match c with
  | .eq => if x = y then .inl t else .inl f
  | .ne => if x = y then .inl f else .inl t
  | .lt => if x < y then .inl t else .inl f
  | .ge => if y ≤ x then .inl t else .inl f
  | .gt => if y < x then .inl t else .inl f
  | .le => if x ≤ y then .inl t else .inl f
def a_tsw (x : Int32) (aux : List Nat) : Nat := if x.toInt < 0 ∨ (aux.length : Int) - 2 < x.toInt then a_hd aux else aux.getD (x.toInt.toNat + 1) 0
/-- an int out of an array -/
def a_ald (kind : Nat) (D : ADd) (M : AMm) (a : Nat) (i : Int32) (kk : Int32 → Option AOu) : Option AOu :=
  if 1000000 ≤ a then (if kind = 0 ∧ a < 1000004 then (if i < 0 ∨ a_roL M (a - 1000000) ≤ i.toNatClampNeg then none else kk (M a i.toNatClampNeg)) else none)
  else match D[a]? with
  | some (.inr (.inl (kd, n))) => if kd = kind then (if i < 0 ∨ n ≤ i.toNatClampNeg then none else kk (M a i.toNatClampNeg)) else none
  | _ => none
/-- an int into an array -/
def a_ast (kind : Nat) (D : ADd) (M : AMm) (a : Nat) (i : Int32) (v : Int32) (kk : AMm → Option AOu) : Option AOu := match D[a]? with
  | some (.inr (.inl (kd, n))) => if kd = kind then (if i < 0 ∨ n ≤ i.toNatClampNeg then none else kk (ms M a i.toNatClampNeg v)) else none
  | _ => none
def a_rf (r : Option Nat) : Value := match r with
  | some q => .ref q
  | none => .null
def a_gf (D : ADd) (M : AMm) (a ci sl : Nat) : Option Value := match D[a]? with
  | some (.inl (c, fs)) => if c = ci then (match fs[sl]? with
    | some none => some (.int (M a sl))
    | some (some r) => some (a_rf r)
    | none => none) else none
  | _ => none
/-- a field is set: an int (0), a boolean (1), a reference (2) -/
def a_pf (D : ADd) (M : AMm) (a ci sl ty : Nat) (v : Value) (kk : ADd → AMm → Option AOu) : Option AOu := match D[a]? with
  | some (.inl (c, fs)) => if c = ci then (match fs[sl]?, ty, v with
    | some none, 0, .int x => kk D (ms M a sl x)
    | some none, 1, .int x => if x = 0 ∨ x = 1 then kk D (ms M a sl x) else none
    | some (some _), 2, .ref q => kk (D.set a (.inl (c, fs.set sl (some (some q))))) M
    | _, _, _ => none) else none
  | _ => none
/-- the locals at a method's entry -/
def a_sl : List Value → ALo
  | [] => []
  | .long x :: r => some (.long x) :: none :: a_sl r
  | .double x :: r => some (.double x) :: none :: a_sl r
  | v :: r => some v :: a_sl r
def a_maxL (k : Nat) : Nat := match methods[k]? with
  | some mt => mt.2.2.1
  | none => 0
def a_cat (st : List Value) : Nat := (st.map fun v => v.category).sum
def a_call (k : Nat) (na : Nat) (st : List Value) : Option AOu := if na ≤ st.length ∧ a_cat (st.drop na) ≤ 8 ∧ (a_sl (st.take na).reverse).length ≤ a_maxL k then some (.inr (.inr (k, (st.take na).reverse, st.drop na))) else none
/-- a call on an object: of the class ci -/
def a_callv (D : ADd) (k na ci : Nat) (st : List Value) : Option AOu := match st[na - 1]? with
  | some (.ref a) => match D[a]? with
    | some (.inl (c, _)) => if c = ci ∧ 0 < na then a_call k na st else none
    | _ => none
  | _ => none
/-- a constructor is called -/
def a_calls (k na : Nat) (st : List Value) : Option AOu := match st[na - 1]? with
  | some (.ref _) => if 0 < na then a_call k na st else none
  | _ => none
/-- the greater (0), the less -/
def a_mm (t : Nat) (x y : Int32) : Int32 := match t with
  | 0 => if x < y then y else x
  | _ => if y < x then y else x
def a_isF (D : ADd) (q : Nat) : Bool := match D[q]? with
  | some (.inl (1, _)) => true
  | _ => false
def a_ex (ins : Instr) (aux : List Nat) (k j : Nat) (L : ALo) (st : List Value) (D : ADd) (M : AMm) : Option AOu :=
  match ins with
  | .iconst _ => a_nx k j L (.int (a_cs aux) :: st) D M
  | .bipush _ => a_nx k j L (.int (a_cs aux) :: st) D M
  | .sipush _ => a_nx k j L (.int (a_cs aux) :: st) D M
  | .ldc _ => a_nx k j L (.int (a_cs aux) :: st) D M
  | .ldc_w _ => a_nx k j L (.int (a_cs aux) :: st) D M
  | .lconst _ => a_nx k j L (.long (lN (a_hd aux)) :: st) D M
  | .ldc2_w _ => a_nx k j L (.long (lN (a_hd aux)) :: st) D M
  | .iload _ => match a_ld L (a_hd aux) with
    | some (.int x) => a_nx k j L (.int x :: st) D M
    | _ => none
  | .iload_n _ => match a_ld L (a_hd aux) with
    | some (.int x) => a_nx k j L (.int x :: st) D M
    | _ => none
  | .aload_n _ => match a_ld L (a_hd aux) with
    | some (.ref x) => a_nx k j L (.ref x :: st) D M
    | _ => none
  | .lload _ => match a_ld L (a_hd aux) with
    | some (.long x) => a_nx k j L (.long x :: st) D M
    | _ => none
  | .lload_n _ => match a_ld L (a_hd aux) with
    | some (.long x) => a_nx k j L (.long x :: st) D M
    | _ => none
  | .istore _ => match st with
    | .int x :: r => a_sto k j L (a_hd aux) (.int x) r D M
    | _ => none
  | .istore_n _ => match st with
    | .int x :: r => a_sto k j L (a_hd aux) (.int x) r D M
    | _ => none
  | .astore_n _ => match st with
    | .ref x :: r => a_sto k j L (a_hd aux) (.ref x) r D M
    | _ => none
  | .iinc _ _ => match a_ld L (a_hd aux) with
    | some (.int x) => a_sto k j L (a_hd aux) (.int (x + a_cs aux.tail)) st D M
    | _ => none
  | .iadd => a_b2 k j L st D M (fun x y => x + y)
  | .isub => a_b2 k j L st D M (fun x y => x - y)
  | .imul => a_b2 k j L st D M (fun x y => x * y)
  | .iand => a_b2 k j L st D M (fun x y => x &&& y)
  | .ior => a_b2 k j L st D M (fun x y => x ||| y)
  | .ixor => a_b2 k j L st D M (fun x y => x ^^^ y)
  | .ishl => a_b2 k j L st D M (fun x y => x <<< (y &&& 31))
  | .ishr => a_b2 k j L st D M (fun x y => x >>> (y &&& 31))
  | .iushr => a_b2 k j L st D M (fun x y => (x.toUInt32 >>> (y.toUInt32 &&& Int32.toUInt32 31)).toInt32)
  | .idiv => match st with
    | .int y :: .int x :: r => if y = 0 then none else a_nx k j L (.int (x / y) :: r) D M
    | _ => none
  | .irem => match st with
    | .int y :: .int x :: r => if y = 0 then none else a_nx k j L (.int (x - x / y * y) :: r) D M
    | _ => none
  | .ineg => match st with
    | .int x :: r => a_nx k j L (.int (-x) :: r) D M
    | _ => none
  | .i2l => match st with
    | .int x :: r => a_nx k j L (.long x.toInt64 :: r) D M
    | _ => none
  | .l2i => match st with
    | .long x :: r => a_nx k j L (.int x.toInt32 :: r) D M
    | _ => none
  | .ladd => a_l2 k j L st D M (fun x y => x + y)
  | .lmul => a_l2 k j L st D M (fun x y => x * y)
  | .lrem => match st with
    | .long y :: .long x :: r => if y = 0 then none else a_nx k j L (.long (x - x / y * y) :: r) D M
    | _ => none
  | .lcmp => match st with
    | .long y :: .long x :: r => a_nx k j L (.int (lg_cmp x y) :: r) D M
    | _ => none
  | .pop => match st with
    | .int _ :: r => a_nx k j L r D M
    | _ => none
  | .dup => match st with
    | .int x :: r => a_nx k j L (.int x :: .int x :: r) D M
    | .ref x :: r => a_nx k j L (.ref x :: .ref x :: r) D M
    | _ => none
  | .dup2 => match st with
    | .int x :: .ref y :: r => a_nx k j L (.int x :: .ref y :: .int x :: .ref y :: r) D M
    | _ => none
  | .goto _ => some (.inl (k, a_hd aux, L, st, D, M))
  | .ifCond c _ => match st with
    | .int x :: r => some (a_if c x 0 (k, a_hd aux, L, r, D, M) (k, j + 1, L, r, D, M))
    | _ => none
  | .if_icmp c _ => match st with
    | .int y :: .int x :: r => some (a_if c x y (k, a_hd aux, L, r, D, M) (k, j + 1, L, r, D, M))
    | _ => none
  | .ifnonnull _ => match st with
    | .ref _ :: r => some (.inl (k, a_hd aux, L, r, D, M))
    | .null :: r => a_nx k j L r D M
    | _ => none
  | .tableswitch _ _ _ _ => match st with
    | .int x :: r => some (.inl (k, a_tsw x aux, L, r, D, M))
    | _ => none
  | .iaload => match st with
    | .int i :: .ref a :: r => a_ald 0 D M a i (fun v => a_nx k j L (.int v :: r) D M)
    | _ => none
  | .baload => match st with
    | .int i :: .ref a :: r => a_ald 1 D M a i (fun v => a_nx k j L (.int v :: r) D M)
    | _ => none
  | .iastore => match st with
    | .int v :: .int i :: .ref a :: r => a_ast 0 D M a i v (fun M' => a_nx k j L r D M')
    | _ => none
  | .bastore => match st with
    | .int v :: .int i :: .ref a :: r => if v = 0 ∨ v = 1 then a_ast 1 D M a i v (fun M' => a_nx k j L r D M') else none
    | _ => none
  | .aaload => match st with
    | .int i :: .ref a :: r => match D[a]? with
      | some (.inr (.inr rs)) => if i < 0 ∨ rs.length ≤ i.toNatClampNeg then none else a_nx k j L (a_rf (rs.getD i.toNatClampNeg none) :: r) D M
      | _ => none
    | _ => none
  | .aastore => match st with
    | .ref q :: .int i :: .ref a :: r => match D[a]? with
      | some (.inr (.inr rs)) => if i < 0 ∨ rs.length ≤ i.toNatClampNeg then none else (match a_isF D q with
        | true => a_nx k j L r (D.set a (.inr (.inr (rs.set i.toNatClampNeg (some q))))) M
        | false => none)
      | _ => none
    | _ => none
  | .arraylength => match st with
    | .ref a :: r => if a = 1000000 then a_nx k j L (.int (M 1000004 0) :: r) D M else (match D[a]? with
      | some (.inr (.inl (_, n))) => a_nx k j L (.int (nI n) :: r) D M
      | _ => none)
    | _ => none
  | .getfield _ => match st with
    | .ref a :: r => match a_gf D M a (a_hd aux) (a_hd aux.tail) with
      | some v => a_nx k j L (v :: r) D M
      | none => none
    | _ => none
  | .putfield _ => match st with
    | v :: .ref a :: r => a_pf D M a (a_hd aux) (a_hd aux.tail) (a_hd aux.tail.tail) v (fun D' M' => a_nx k j L r D' M')
    | _ => none
  | .getstatic _ => a_nx k j L (.ref (1000000 + a_hd aux) :: st) D M
  | .new _ => if D.length < 1000 then a_nx k j L (.ref D.length :: st) (D ++ [.inl (a_hd aux, a_dfs.getD (a_hd aux) [])]) (mr M D.length (fun _ => 0)) else none
  | .newarray _ => match st with
    | .int n :: r => if D.length < 1000 then (if n = nI (a_hd aux.tail) then a_nx k j L (.ref D.length :: r) (D ++ [.inr (.inl (a_hd aux, a_hd aux.tail))]) (mr M D.length (fun _ => 0)) else none) else none
    | _ => none
  | .anewarray _ => match st with
    | .int n :: r => if D.length < 1000 then (if n = nI (a_hd aux) then a_nx k j L (.ref D.length :: r) (D ++ [.inr (.inr (List.replicate (a_hd aux) none))]) M else none) else none
    | _ => none
  | .invokevirtual _ => a_callv D (a_hd aux) (a_hd aux.tail) (a_hd aux.tail.tail) st
  | .invokestatic _ => match aux with
    | [c, n] => a_call c n st
    | [_, _, t] => match st with
      | .int y :: .int x :: r => if a_cat r ≤ 8 then a_nx k j L (.int (a_mm t x y) :: r) D M else none
      | _ => none
    | _ => match st with
      | [.int n, .int dp, .ref b, .int sp, .ref a] => match D[a]?, D[b]? with
        | some (.inr (.inl (0, n0))), some (.inr (.inl (0, n1))) => if n < 0 ∨ dp < 0 ∨ sp < 0 ∨ n0 < sp.toNatClampNeg + n.toNatClampNeg ∨ n1 < dp.toNatClampNeg + n.toNatClampNeg then none else a_nx k j L [] D (mr M b (va_cpy (M a) (M b) sp.toNatClampNeg dp.toNatClampNeg n.toNatClampNeg))
        | _, _ => none
      | _ => none
  | .invokespecial _ => match aux with
    | [c, n] => a_calls c n st
    | _ => match st with
      | .ref _ :: r => if a_cat r ≤ 8 then a_nx k j L r D M else none
      | _ => none
  | .ireturn => match st with
    | [.int v] => if a_hd aux = 0 ∨ v = 0 ∨ v = 1 then some (.inr (.inl (some (.int v), D, M))) else none
    | _ => none
  | .return_ => match st with
    | [] => some (.inr (.inl (none, D, M)))
    | _ => none
  | _ => none
def stp (s : ASt) : Option AOu := match methods[s.1]? with
  | none => none
  | some mt => match mt.2.2.2.2[s.2.1]? with
    | none => none
    | some e => a_ex e.2.1 e.2.2.2.1 s.1 s.2.1 s.2.2.1 s.2.2.2.1 s.2.2.2.2.1 s.2.2.2.2.2
def ent (k : Nat) (as : List Value) (D : ADd) (M : AMm) : ASt := (k, 0, a_sl as ++ List.replicate (a_maxL k - (a_sl as).length) none, [], D, M)
def aft (s : ASt) (r : ARs) (rest : List Value) : ASt := (s.1, s.2.1 + 1, s.2.2.1, r.1.toList ++ rest, r.2.1, r.2.2)
def ex : Nat → Nat → ASt → Option ARs
  | _, 0, _ => none
  | d, n + 1, s => match stp s with
    | none => none
    | some (.inl s') => ex d n s'
    | some (.inr (.inl r)) => some r
    | some (.inr (.inr (k, as, rest))) => match d with
      | 0 => none
      | d' + 1 => match ex d' n (ent k as s.2.2.2.2.1 s.2.2.2.2.2) with
        | none => none
        | some r => ex (d' + 1) n (aft s r rest)
theorem ex_up : ∀ (n d d2 m : Nat) (s : ASt) (r : ARs), ex d n s = some r → d ≤ d2 → ex d2 (n + m) s = some r := by
  intro n
  induction n with
  | zero => intro d d2 m s r h; simp [ex] at h
  | succ n ih =>
    intro d d2 m s r h hd
    rw [show n + 1 + m = (n + m) + 1 by omega]
    unfold ex at h ⊢
    cases hs : stp s with
    | none => rw [hs] at h; simp at h
    | some o =>
      rw [hs] at h
      cases o with
      | inl s' => exact ih d d2 m s' r h hd
      | inr o =>
        cases o with
        | inl r' => exact h
        | inr c =>
          obtain ⟨k, as, rest⟩ := c
          cases d with
          | zero => simp at h
          | succ d' =>
            cases d2 with
            | zero => omega
            | succ d2' =>
              dsimp only at h ⊢
              cases hc : ex d' n (ent k as s.2.2.2.2.1 s.2.2.2.2.2) with
              | none => rw [hc] at h; simp at h
              | some r1 =>
                rw [hc] at h
                rw [ih d' d2' m _ r1 hc (by omega)]
                exact ih (d' + 1) (d2' + 1) m _ r h hd
/-- from s, with d calls deep at most, the machine comes to an end with Q -/
def T (d : Nat) (Q : ARs → Prop) (s : ASt) : Prop := ∃ n r, ex d n s = some r ∧ Q r
theorem T_mono {d d2 : Nat} {Q Q2 : ARs → Prop} {s : ASt} (h : T d Q s) (hd : d ≤ d2) (hQ : ∀ r, Q r → Q2 r) : T d2 Q2 s := by
  obtain ⟨n, r, h1, h2⟩ := h
  exact ⟨n, r, ex_up n d d2 0 s r h1 hd, hQ r h2⟩
theorem T_stp {d : Nat} {Q : ARs → Prop} {s s' : ASt} (h : stp s = some (.inl s')) (k : T d Q s') : T d Q s := by
  obtain ⟨n, r, h1, h2⟩ := k
  exact ⟨n + 1, r, by unfold ex; rw [h]; exact h1, h2⟩
theorem T_ret {d : Nat} {Q : ARs → Prop} {s : ASt} {r : ARs} (h : stp s = some (.inr (.inl r))) (k : Q r) : T d Q s :=
  ⟨1, r, by unfold ex; rw [h], k⟩
theorem T_call {d : Nat} {Q : ARs → Prop} {s : ASt} {k : Nat} {as rest : List Value} (h : stp s = some (.inr (.inr (k, as, rest)))) (hc : T d (fun r => T (d + 1) Q (aft s r rest)) (ent k as s.2.2.2.2.1 s.2.2.2.2.2)) : T (d + 1) Q s := by
  obtain ⟨n, r, h1, n2, r2, h2, h3⟩ := hc
  refine ⟨(n + n2) + 1, r2, ?_, h3⟩
  unfold ex
  rw [h]
  dsimp only
  rw [ex_up n d d n2 _ r h1 (Nat.le_refl _)]
  dsimp only
  rw [Nat.add_comm n n2]
  exact ex_up n2 (d + 1) (d + 1) n _ r2 h2 (Nat.le_refl _)
/-- n steps that neither branch on a number nor call -/
def itr : Nat → ASt → Option ASt
  | 0, s => some s
  | n + 1, s => match stp s with
    | some (.inl s') => itr n s'
    | _ => none
theorem T_run {d : Nat} {Q : ARs → Prop} : ∀ (n : Nat) {s : ASt} (s' : ASt), itr n s = some s' → T d Q s' → T d Q s := by
  intro n
  induction n with
  | zero => intro s s' h k; obtain rfl := Option.some.inj h; exact k
  | succ n ih =>
    intro s s' h k
    unfold itr at h
    cases hs : stp s with
    | none => rw [hs] at h; simp at h
    | some o =>
      rw [hs] at h
      cases o with
      | inl s1 => exact T_stp hs (ih s' h k)
      | inr o => simp at h
theorem T_br {d : Nat} {Q : ARs → Prop} {s : ASt} (c : Prop) [hd : Decidable c] (s1 s2 : ASt) (h : stp s = some (if c then .inl s1 else .inl s2)) (k1 : c → T d Q s1) (k2 : ¬ c → T d Q s2) : T d Q s := by
  by_cases hc : c
  · exact T_stp (by rw [h, if_pos hc]) (k1 hc)
  · exact T_stp (by rw [h, if_neg hc]) (k2 hc)
theorem T_gd {d : Nat} {Q : ARs → Prop} {s : ASt} (c : Prop) [hd : Decidable c] (s1 : ASt) (h : stp s = if c then none else some (.inl s1)) (hc : ¬ c) (k1 : T d Q s1) : T d Q s :=
  T_stp (by rw [h, if_neg hc]) k1
theorem T_gy {d : Nat} {Q : ARs → Prop} {s : ASt} (c : Prop) [hd : Decidable c] (s1 : ASt) (h : stp s = if c then some (.inl s1) else none) (hc : c) (k1 : T d Q s1) : T d Q s :=
  T_stp (by rw [h, if_pos hc]) k1
theorem T_rg {d : Nat} {Q : ARs → Prop} {s : ASt} (c : Prop) [hd : Decidable c] (r : ARs) (h : stp s = if c then some (.inr (.inl r)) else none) (hc : c) (k1 : Q r) : T d Q s :=
  T_ret (by rw [h, if_pos hc]) k1
theorem T_eq {d : Nat} {Q : ARs → Prop} {s s' : ASt} (h : s = s') (k : T d Q s') : T d Q s := h ▸ k
