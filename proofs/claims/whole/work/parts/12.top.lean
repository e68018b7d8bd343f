/-! THE CLAIM OUT OF ONE WALK OF THE LAW'S BODY. Your part is whole_start (and what it stands on); all else here is the same for every law, but numbers. -/
def R_law : String := "CornWayLaw"
def lw_P (b : Addr) (xs : List Int32) (args : Array Value) (s : State) : Prop := args = #[.ref b] ∧ s.IntsAt b xs ∧ xs.length ≤ 1536 ∧ (Jvm.Cond.and given_1 narrow_1).before args s = true
def lw_Q (_ : Array Value) (s : State) (o : Outcome) (t : State) : Prop := o = .returned (some (.int 1)) ∧ Framed s o t [] 600000 7302250
def lw_Z (below : List Frame) (a : Array Value) (s : State) : State → Prop := fun t => ∃ o, t.status = .running ∧ Ended t below o ∧ lw_Q a s o t
/-- the law's own end, with 1 on the stack, nothing written that was there before, its room as the claim has it -/
theorem lw_ret {p : Program} {l : Launch} {e : Env} {s : State} {m : MethodId} {below : List Frame} {meth : Method} {c : Code} {b : Nat} (hx : p.tables.exec = Jvm.exec) (hb : c.code = code) (hr : meth.sig.returnType = ret) (hlocks : meth.locks = false) {pc : Nat} {H : Heap} {ls : Array Slot} (hdg : decode code pc = .ok (.ireturn, 1)) : W p l e room_1 s m #[Value.ref b] below meth c H [] 600000 7302250 (lw_Z below #[Value.ref b] s) (F0 m pc ls [.int 1]) := by
  intro T hT X
  obtain ⟨fs, hret, hrun, hended, hW, hframe⟩ := X.leave (v := some (.int 1)) (hlocks := hlocks) (fun h => by rw [hr] at h; cases h)
  have hmeth' : T.vm.method? m = some meth := X.method'
  refine ⟨T.setFrames fs, ?_, .returned (some (.int 1)), hrun, hended, rfl, ⟨_, rfl⟩, hW, hframe⟩
  jvm_step X.here [X.here.top, hx, hb, hdg, hmeth', hr, ret, narrow_b1]
  (try refine ⟨rfl, ?_⟩); (try refine ⟨rfl, ?_⟩)
  first | (intro acts; rw [hret _ acts rfl rfl rfl]) | rw [hret _ _ rfl rfl rfl]
  exact Steps.refl _
/-- what holds at the law's entry: the machine, the code, the tables' words (any of lw_tbl by 'hts w (by decide +kernel)'), the script of L ints xs at the cell b, what the Statement gives of the start (any of its parts by flat_of_before) -/
def lw_At (p : Program) (s : State) (m : MethodId) (meth : Method) (c : Code) (b L : Nat) (xs : Nat → Int32) : Prop :=
  p.tables.exec = Jvm.exec ∧ c.code = code ∧ meth.sig.returnType = ret ∧ c.maxLocals = 4 ∧ s.vm.findClass R_law = some m.cls ∧ (∀ w ∈ lw_tbl, w.before #[Value.ref b] s = true) ∧ va_X b L xs s s.heap ∧ b < s.heap.size ∧ meth.locks = false ∧ (Jvm.Cond.and given_1 narrow_1).before #[Value.ref b] s = true

/-- the memory at the start: the script, the constants, nothing else -/
def M0 (xs : Nat → Int32) (L : Nat) : AMm := fun a b => if a = 1000000 then xs b else if a = 1000001 then (if b = 0 then nI 110 else if b = 1 then nI 101 else if b = 2 then nI 115 else nI 119) else if a = 1000002 then (if b = 0 then -(nI 1) else if b = 1 then nI 0 else if b = 2 then nI 1 else nI 0) else if a = 1000003 then (if b = 0 then nI 0 else if b = 1 then nI 1 else if b = 2 then nI 0 else -(nI 1)) else if a = 1000004 then nI L else 0
/-- the law, run by the abstract machine, answers 1 -/
def LAWp : Prop := ∀ (xs : Nat → Int32) (L : Nat), L ≤ 1536 → T 60 (fun r => r.1 = some (.int 1) ∧ r.2.1.length ≤ 600000 ∧ a_szs r.2.1 ≤ 7302250) (ent 128 [.ref 1000000] [] (M0 xs L))
theorem GW_tbl {w : Jvm.Cond} (h : w ∈ GW) : w ∈ lw_tbl := (List.mem_filter.mp h).1
theorem wi_0 : Cond.instantiable RX0 3 ∈ lw_tbl := List.mem_of_getElem? (i := 195) (by decide +kernel)
theorem wi_1 : Cond.instantiable RX1 9 ∈ lw_tbl := List.mem_of_getElem? (i := 82) (by decide +kernel)
theorem wi_2 : Cond.instantiable RX2 5 ∈ lw_tbl := List.mem_of_getElem? (i := 127) (by decide +kernel)
theorem wi_3 : Cond.instantiable RX3 9 ∈ lw_tbl := List.mem_of_getElem? (i := 158) (by decide +kernel)
theorem wi_4 : Cond.instantiable RX4 18 ∈ lw_tbl := List.mem_of_getElem? (i := 74) (by decide +kernel)
theorem wi_5 : Cond.instantiable RX5 21 ∈ lw_tbl := List.mem_of_getElem? (i := 570) (by decide +kernel)
theorem wi_int : Cond.arrayClass .int ∈ lw_tbl := List.mem_of_getElem? (i := 124) (by decide +kernel)
theorem wi_bool : Cond.arrayClass .boolean ∈ lw_tbl := List.mem_of_getElem? (i := 645) (by decide +kernel)
theorem wi_over : Cond.arrayOver (.object RX1) ∈ lw_tbl := List.mem_of_getElem? (i := 125) (by decide +kernel)
theorem wi_ini : Cond.initialized "CornWay" ∈ lw_tbl := List.mem_of_getElem? (i := 64) (by decide +kernel)
theorem wi_ls1 : Cond.laysStatic "CornWay" "STEP_SIGNS" "[I" ∈ lw_tbl := List.mem_of_getElem? (i := 316) (by decide +kernel)
theorem wi_ls2 : Cond.laysStatic "CornWay" "STEP_ROWS" "[I" ∈ lw_tbl := List.mem_of_getElem? (i := 226) (by decide +kernel)
theorem wi_ls3 : Cond.laysStatic "CornWay" "STEP_COLUMNS" "[I" ∈ lw_tbl := List.mem_of_getElem? (i := 228) (by decide +kernel)
set_option maxRecDepth 100000 in
theorem st_1 {args : Array Value} {s : State} {A : Nat → Prop} (hgv : (Jvm.Cond.and given_1 narrow_1).before args s = true) (hts : ∀ w ∈ lw_tbl, w.before args s = true) (hA : ∀ a : Nat, a < s.heap.size → ¬ A a) (xs : Nat → Int32) (L : Nat) : ∃ t : Nat, va_Z "CornWay" "STEP_SIGNS" "[I" (.ref t) A s s.heap ∧ va_T .int t 4 (fun j => .int (M0 xs L 1000001 j)) A s s.heap := by
  have hs := flat_of_before _ hgv
  have harr : (Cond.arrayOf (.static "CornWay" "STEP_SIGNS" "[I") .int).before args s = true := hs _ (by decide +kernel)
  have hlen : (Cond.eq (.length (.static "CornWay" "STEP_SIGNS" "[I")) (.int 4)).before args s = true := hs _ (by decide +kernel)
  have h0 : (Cond.eq (.elem (.static "CornWay" "STEP_SIGNS" "[I") (.int 0)) (.int (110))).before args s = true := hs _ (by decide +kernel)
  have h1 : (Cond.eq (.elem (.static "CornWay" "STEP_SIGNS" "[I") (.int 1)) (.int (101))).before args s = true := hs _ (by decide +kernel)
  have h2 : (Cond.eq (.elem (.static "CornWay" "STEP_SIGNS" "[I") (.int 2)) (.int (115))).before args s = true := hs _ (by decide +kernel)
  have h3 : (Cond.eq (.elem (.static "CornWay" "STEP_SIGNS" "[I") (.int 3)) (.int (119))).before args s = true := hs _ (by decide +kernel)
  obtain ⟨t, ht, hT⟩ := va_Tof (N := 4) (f := fun j => .int (M0 xs L 1000001 j)) (A := A) (by decide) harr (va_eqt hlen) (fun j hj => by
    match j, hj with
    | 0, _ => exact va_eqt h0
    | 1, _ => exact va_eqt h1
    | 2, _ => exact va_eqt h2
    | 3, _ => exact va_eqt h3
    | j + 4, hj => exact absurd hj (by omega)) hA
  exact ⟨t, va_Zof (hts _ wi_ls1) (hts _ wi_ini) ht hA, hT⟩
set_option maxRecDepth 100000 in
theorem st_2 {args : Array Value} {s : State} {A : Nat → Prop} (hgv : (Jvm.Cond.and given_1 narrow_1).before args s = true) (hts : ∀ w ∈ lw_tbl, w.before args s = true) (hA : ∀ a : Nat, a < s.heap.size → ¬ A a) (xs : Nat → Int32) (L : Nat) : ∃ t : Nat, va_Z "CornWay" "STEP_ROWS" "[I" (.ref t) A s s.heap ∧ va_T .int t 4 (fun j => .int (M0 xs L 1000002 j)) A s s.heap := by
  have hs := flat_of_before _ hgv
  have harr : (Cond.arrayOf (.static "CornWay" "STEP_ROWS" "[I") .int).before args s = true := hs _ (by decide +kernel)
  have hlen : (Cond.eq (.length (.static "CornWay" "STEP_ROWS" "[I")) (.int 4)).before args s = true := hs _ (by decide +kernel)
  have h0 : (Cond.eq (.elem (.static "CornWay" "STEP_ROWS" "[I") (.int 0)) (.int (-1))).before args s = true := hs _ (by decide +kernel)
  have h1 : (Cond.eq (.elem (.static "CornWay" "STEP_ROWS" "[I") (.int 1)) (.int (0))).before args s = true := hs _ (by decide +kernel)
  have h2 : (Cond.eq (.elem (.static "CornWay" "STEP_ROWS" "[I") (.int 2)) (.int (1))).before args s = true := hs _ (by decide +kernel)
  have h3 : (Cond.eq (.elem (.static "CornWay" "STEP_ROWS" "[I") (.int 3)) (.int (0))).before args s = true := hs _ (by decide +kernel)
  obtain ⟨t, ht, hT⟩ := va_Tof (N := 4) (f := fun j => .int (M0 xs L 1000002 j)) (A := A) (by decide) harr (va_eqt hlen) (fun j hj => by
    match j, hj with
    | 0, _ => exact va_eqt h0
    | 1, _ => exact va_eqt h1
    | 2, _ => exact va_eqt h2
    | 3, _ => exact va_eqt h3
    | j + 4, hj => exact absurd hj (by omega)) hA
  exact ⟨t, va_Zof (hts _ wi_ls2) (hts _ wi_ini) ht hA, hT⟩
set_option maxRecDepth 100000 in
theorem st_3 {args : Array Value} {s : State} {A : Nat → Prop} (hgv : (Jvm.Cond.and given_1 narrow_1).before args s = true) (hts : ∀ w ∈ lw_tbl, w.before args s = true) (hA : ∀ a : Nat, a < s.heap.size → ¬ A a) (xs : Nat → Int32) (L : Nat) : ∃ t : Nat, va_Z "CornWay" "STEP_COLUMNS" "[I" (.ref t) A s s.heap ∧ va_T .int t 4 (fun j => .int (M0 xs L 1000003 j)) A s s.heap := by
  have hs := flat_of_before _ hgv
  have harr : (Cond.arrayOf (.static "CornWay" "STEP_COLUMNS" "[I") .int).before args s = true := hs _ (by decide +kernel)
  have hlen : (Cond.eq (.length (.static "CornWay" "STEP_COLUMNS" "[I")) (.int 4)).before args s = true := hs _ (by decide +kernel)
  have h0 : (Cond.eq (.elem (.static "CornWay" "STEP_COLUMNS" "[I") (.int 0)) (.int (0))).before args s = true := hs _ (by decide +kernel)
  have h1 : (Cond.eq (.elem (.static "CornWay" "STEP_COLUMNS" "[I") (.int 1)) (.int (1))).before args s = true := hs _ (by decide +kernel)
  have h2 : (Cond.eq (.elem (.static "CornWay" "STEP_COLUMNS" "[I") (.int 2)) (.int (0))).before args s = true := hs _ (by decide +kernel)
  have h3 : (Cond.eq (.elem (.static "CornWay" "STEP_COLUMNS" "[I") (.int 3)) (.int (-1))).before args s = true := hs _ (by decide +kernel)
  obtain ⟨t, ht, hT⟩ := va_Tof (N := 4) (f := fun j => .int (M0 xs L 1000003 j)) (A := A) (by decide) harr (va_eqt hlen) (fun j hj => by
    match j, hj with
    | 0, _ => exact va_eqt h0
    | 1, _ => exact va_eqt h1
    | 2, _ => exact va_eqt h2
    | 3, _ => exact va_eqt h3
    | j + 4, hj => exact absurd hj (by omega)) hA
  exact ⟨t, va_Zof (hts _ wi_ls3) (hts _ wi_ini) ht hA, hT⟩
theorem arr_of {s : State} {cA : ClassId} {kA : Class} {comp : ClassId} {ty : FieldType} (hp : refKind ty = false ∨ refKind ty = true) (h2 : s.vm.classes[cA]? = some kA) (h3 : kA.kind = .array comp ty) : ArrOfT s cA ty := fun n z => ⟨fun k h => (by cases h), kA, h2, comp, h3⟩
set_option maxHeartbeats 4000000 in
theorem whole_of (hLAW : LAWp) {p : Program} {e : Env} {s : State} {m : MethodId} {below : List Frame} {meth : Method} {c : Code} (l : Launch) {b L : Nat} {xs : Nat → Int32} (hL : L ≤ 1536) (C0 : lw_At p s m meth c b L xs) : W p l e room_1 s m #[Value.ref b] below meth c s.heap [] 0 0 (lw_Z below #[Value.ref b] s) (entryFrame m ([Value.ref b] : List Value).toArray 4) := by
  obtain ⟨hx, hb, hr, hml, hown, hts, hX, hbl, hlocks, hgv⟩ := C0
  have hA : ∀ q : Nat, s.heap.size ≤ q → (fun q : Nat => s.heap.size ≤ q) q := fun _ h => h
  have hnA : ∀ a : Nat, a < s.heap.size → ¬ (fun q : Nat => s.heap.size ≤ q) a := fun a h => Nat.not_le.mpr h
  have htg : ∀ w ∈ GW, w.before #[Value.ref b] s = true := fun w hw => hts w (GW_tbl hw)

  obtain ⟨c0, iS0, hKn0⟩ := u_known (C := RX0) (T := TX0) (N := 3) (n := 3) htg (cw_all 0 _ rfl).1 (hts _ wi_0)
  obtain ⟨c1, iS1, hKn1⟩ := u_known (C := RX1) (T := TX1) (N := 9) (n := 9) htg (cw_all 1 _ rfl).1 (hts _ wi_1)
  obtain ⟨c2, iS2, hKn2⟩ := u_known (C := RX2) (T := TX2) (N := 5) (n := 5) htg (cw_all 2 _ rfl).1 (hts _ wi_2)
  obtain ⟨c3, iS3, hKn3⟩ := u_known (C := RX3) (T := TX3) (N := 9) (n := 9) htg (cw_all 3 _ rfl).1 (hts _ wi_3)
  obtain ⟨c4, iS4, hKn4⟩ := u_known (C := RX4) (T := TX4) (N := 18) (n := 18) htg (cw_all 4 _ rfl).1 (hts _ wi_4)
  obtain ⟨c5, iS5, hKn5⟩ := u_known (C := RX5) (T := TX5) (N := 21) (n := 21) htg (cw_all 5 _ rfl).1 (hts _ wi_5)
  obtain ⟨dC, dI, hKc⟩ : ∃ (dC : Nat → ClassId) (dI : Nat → Nat → Nat), ∀ (k : Nat) (q : vw_C), classes[k]? = some q → u_Kn s q.1 q.2.1 q.2.2 (dC k) (dI k) := by
    refine ⟨fun k => if k = 0 then c0 else if k = 1 then c1 else if k = 2 then c2 else if k = 3 then c3 else if k = 4 then c4 else c5, fun k => if k = 0 then iS0 else if k = 1 then iS1 else if k = 2 then iS2 else if k = 3 then iS3 else if k = 4 then iS4 else iS5, ?_⟩
    intro k q hq
    match k, hq with
    | 0, hq => cases hq; exact hKn0
    | 1, hq => cases hq; exact hKn1
    | 2, hq => cases hq; exact hKn2
    | 3, hq => cases hq; exact hKn3
    | 4, hq => cases hq; exact hKn4
    | 5, hq => cases hq; exact hKn5
    | k + 6, hq => simp [classes] at hq
  obtain ⟨cI, kI, pI, i1, i2, i3⟩ := Cond.arrayClass_spec (hts _ wi_int)
  obtain ⟨cZ, kZ, pZ, z1, z2, z3⟩ := Cond.arrayClass_spec (hts _ wi_bool)
  obtain ⟨pF, cF, kF, f1, -, f3, f4, f5⟩ := Cond.arrayOver_spec (hts _ wi_over)
  have hK : va_K (dC, dI) classes (a_tys (cI, cZ, cF)) s := by
    refine ⟨hKc, fun k q hq => ?_⟩
    match k, hq with
    | 0, hq => cases hq; exact ⟨arr_of (Or.inl rfl) i2 i3, i1⟩
    | 1, hq => cases hq; exact ⟨arr_of (Or.inl rfl) z2 z3, z1⟩
    | 2, hq => cases hq; exact ⟨arr_of (Or.inr rfl) f3 f4, kF, pF, f3, f4, f1, f5⟩
    | k + 3, hq => simp [a_tys] at hq
  obtain ⟨t1, hZ1, hT1⟩ := st_1 hgv hts hnA xs L
  obtain ⟨t2, hZ2, hT2⟩ := st_2 hgv hts hnA xs L
  obtain ⟨t3, hZ3, hT3⟩ := st_3 hgv hts hnA xs L
  have hE : EV dC dI (cI, cZ, cF) (fun r => if r = 0 then b else if r = 1 then t1 else if r = 2 then t2 else t3) (fun r => M0 xs L (1000000 + r)) (fun q : Nat => s.heap.size ≤ q) s := by
    have hcl : (nI L).toNatClampNeg = L := nI_clamp (by omega)
    refine ⟨hK, fun w hw hn => va_Nw.of ?_ (hts w hw), va_AO.of (hts _ wi_over), fun r h1 h2 => ?_, fun r hr => ?_, ?_⟩
    · cases w <;> first | rfl | cases hn
    · match r, h1, h2 with
      | 1, _, _ => exact hZ1
      | 2, _, _ => exact hZ2
      | 3, _, _ => exact hZ3
      | 0, h1, _ => exact absurd h1 (by decide)
      | r + 4, _, h2 => exact absurd h2 (by omega)
    · match r, hr with
      | 0, _ =>
        obtain ⟨scr, g1, g2, g3, g4, g5⟩ := hX
        show va_T .int b (nI L).toNatClampNeg (fun j => .int (xs j)) _ s s.heap
        rw [hcl]
        exact ⟨scr, g1, g2, g3, by omega, by rw [g4], g5, Nat.not_le.mpr hbl⟩
      | 1, _ => exact hT1
      | 2, _ => exact hT2
      | 3, _ => exact hT3
      | r + 4, h2 => exact absurd h2 (by omega)
    · show nI L = nI (nI L).toNatClampNeg
      rw [hcl]
  obtain ⟨n, r, hex, hr1, hr2, hr3⟩ := hLAW xs L hL
  have hent : ent 128 [.ref 1000000] [] (M0 xs L) = (128, 0, a_sl [.ref 1000000] ++ List.replicate (4 - (a_sl [.ref 1000000]).length) none, [], [], M0 xs L) := rfl
  rw [hent] at hex
  obtain ⟨ad, had⟩ : ∃ ad : Nat → Nat, ∀ r, ad (1000000 + r) = if r = 0 then b else if r = 1 then t1 else if r = 2 then t2 else t3 := ⟨fun i => if i = 1000000 then b else if i = 1000001 then t1 else if i = 1000002 then t2 else t3, fun r => by
    match r with
    | 0 => rfl
    | 1 => rfl
    | 2 => rfl
    | r + 3 => show (if 1000000 + (r + 3) = 1000000 then b else if 1000000 + (r + 3) = 1000001 then t1 else if 1000000 + (r + 3) = 1000002 then t2 else t3) = _; rw [if_neg (by omega), if_neg (by omega), if_neg (by omega), if_neg (by omega), if_neg (by omega), if_neg (by omega)]⟩
  have ead : ([.ref 1000000] : List Value).map (cv ad) = [Value.ref b] := by
    show [Value.ref (ad (1000000 + 0))] = _
    rw [had 0]; rfl
  have hLH := LH_entry ad [.ref 1000000] (n := 4) (by decide)
  rw [ead] at hLH
  rw [lg_entry_eq]
  have main := snd (l := l) n 60 _ r hex p e room_1 s m #[Value.ref b] below meth c (fun q : Nat => s.heap.size ≤ q) s.heap [] 0 0 (lw_Z below #[Value.ref b] s) ad _ mt_128 (by rfl) hx hb hml hown htg (fun q => absurd q (by decide)) hA hE ⟨by decide, by decide⟩ ⟨by show 0 + (r.2.1.length - 0) ≤ 600000; omega, by show 0 + (a_szs r.2.1 - 0) ≤ 7302250; omega⟩ ⟨fun k q hq => by simp [wso] at hq, ⟨fun i j p q hq => by simp [wso] at hq, fun k q hq => by simp [wso] at hq⟩, va_S.rf, fun i c hc => by simp at hc, Nat.zero_le _, fun r _ => had r, fun r _ => rfl⟩ hLH (LV_entry (fun v hv => by rw [List.mem_singleton.mp hv]; exact Or.inr ⟨by decide, by decide⟩) _) (fun v hv => absurd hv List.not_mem_nil) ?_
  · exact main
  · intro pc ls' H' locs' ad' hW' hag
    refine ⟨fun v hv hdec => ?_, fun hn => by rw [hr1] at hn; cases hn⟩
    rw [hr1] at hv
    have hv2 : (1 : Int32) = v := Value.int.inj (Option.some.inj hv)
    subst hv2
    refine va_forget (fun q hq => hW'.2.2.1.2.2 q hq) ?_
    refine W.widen (k := 600000) (n := 7302250) (by show 0 + (r.2.1.length - 0) ≤ 600000; omega) (by show 0 + (a_szs r.2.1 - 0) ≤ 7302250; omega) ?_
    exact lw_ret hx hb hr hlocks hdec
