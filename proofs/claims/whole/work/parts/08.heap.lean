-- SOUNDNESS, the instructions that touch the heap
def a_tys (cA : ClassId × ClassId × ClassId) : List (ClassId × FieldType) := [(cA.1, .int), (cA.2.1, .boolean), (cA.2.2, .object RX1)]
def a_roN (ro : Nat → Nat → Int32) (r : Nat) : Nat := if r = 0 then (ro 4 0).toNatClampNeg else 4
/-- what holds of the tables, of the constants and of the script at a method's entry -/
def EV (dC : Nat → ClassId) (dI : Nat → Nat → Nat) (cA : ClassId × ClassId × ClassId) (adr : Nat → Nat) (ro : Nat → Nat → Int32) (A : Nat → Prop) (U : State) : Prop :=
  va_K (dC, dI) classes (a_tys cA) U ∧ (∀ w ∈ lw_tbl, a_isN w = true → va_Nw w U) ∧ va_AO RX1 U ∧ (∀ r, 0 < r → r < 4 → va_Z "CornWay" (a_snm r) "[I" (.ref (adr r)) A U U.heap) ∧ (∀ r, r < 4 → va_T .int (adr r) (a_roN ro r) (fun j => .int (ro r j)) A U U.heap) ∧ ro 4 0 = nI (ro 4 0).toNatClampNeg
/-- the world in the heap -/
def WH (dC : Nat → ClassId) (dI : Nat → Nat → Nat) (cA : ClassId × ClassId × ClassId) (adr : Nat → Nat) (ro : Nat → Nat → Int32) (A : Nat → Prop) (H0 H : Heap) (locs : List Loc) (D : ADd) (M : AMm) (ad : Nat → Nat) : Prop :=
  va_P (dC, dI) classes (wso cA ad D M) H ∧ va_D A (wso cA ad D M) ∧ va_S A H0 H locs ∧ dok D ∧ D.length ≤ 1000 ∧ (∀ r, r < 4 → ad (1000000 + r) = adr r) ∧ ∀ r, r < 5 → M (1000000 + r) = ro r
theorem roL_N {M : AMm} {ro : Nat → Nat → Int32} (h : ∀ r, r < 5 → M (1000000 + r) = ro r) (r : Nat) : a_roL M r = a_roN ro r := by
  unfold a_roL a_roN
  rw [show M 1000004 = ro 4 from h 4 (by decide)]
theorem wso_push {cA : ClassId × ClassId × ClassId} {ad : Nat → Nat} {D : ADd} {M M' : AMm} {q : Nat} {c : ADc} (hd : dok D) (hc : cok D.length c) (hM : ∀ i, i < D.length → M' i = M i) (h3 : D.length ≤ 1000) : wso cA (va_up ad D.length q) (D ++ [c]) M' = wso cA ad D M ++ [(q, ce cA ad c (M' D.length))] := by
  have ha : agr D.length ad (va_up ad D.length q) := ⟨fun i hi => by unfold va_up; rw [if_neg (by omega)], fun i h1 h2 => by unfold va_up; rw [if_neg (by omega)]⟩
  unfold wso
  rw [List.mapIdx_append]
  congr 1
  · rw [show D.mapIdx (fun i c => (va_up ad D.length q i, ce cA (va_up ad D.length q) c (M' i))) = wso cA (va_up ad D.length q) D M' from rfl, wso_agr M' ha hd]
    apply List.ext_getElem?
    intro i
    unfold wso
    rw [List.getElem?_mapIdx, List.getElem?_mapIdx]
    cases hi : D[i]? with
    | none => rfl
    | some x => show some _ = some _; rw [hM i (List.getElem?_eq_some_iff.mp hi).1]
  · have h0 : ([c].mapIdx (fun i c => (va_up ad D.length q (i + D.length), ce cA (va_up ad D.length q) c (M' (i + D.length))))) = [(va_up ad D.length q (0 + D.length), ce cA (va_up ad D.length q) c (M' (0 + D.length)))] := rfl
    rw [h0, Nat.zero_add, ce_agr ha hc, show va_up ad D.length q D.length = q from by unfold va_up; rw [if_pos rfl]]
theorem agr_up {ad : Nat → Nat} {n q : Nat} (h : n ≤ 1000) : agr n ad (va_up ad n q) := ⟨fun i hi => by unfold va_up; rw [if_neg (by omega)], fun i h1 h2 => by unfold va_up; rw [if_neg (by omega)]⟩
theorem dok_push {D : ADd} {c : ADc} (h : dok D) (hc : cok (D.length + 1) c) : dok (D ++ [c]) := by
  intro i x hx
  rw [List.length_append, List.length_singleton]
  rw [List.getElem?_append] at hx
  split at hx
  · exact cok_up (Nat.le_succ _) (h i x hx)
  · rename_i hn
    cases hi : i - D.length with
    | zero => rw [hi] at hx; obtain rfl := Option.some.inj hx; exact hc
    | succ z => rw [hi] at hx; cases hx
theorem dok_set {D : ADd} {a : Nat} {c : ADc} (h : dok D) (hc : cok D.length c) : dok (D.set a c) := by
  intro i x hx
  rw [List.length_set]
  rw [List.getElem?_set] at hx
  split at hx
  · split at hx
    · obtain rfl := Option.some.inj hx; exact hc
    · cases hx
  · exact h i x hx
theorem szs_push {D : ADd} {c : ADc} : a_szs (D ++ [c]) = a_szs D + a_sz c := by unfold a_szs; simp
theorem szs_set {D : ADd} {a : Nat} {c c' : ADc} (h : D[a]? = some c) (hz : a_sz c' = a_sz c) : a_szs (D.set a c') = a_szs D := by
  unfold a_szs
  rw [List.map_set, hz]
  congr 1
  exact set_self (by rw [List.getElem?_map, h]; rfl)
def a_dfc (ci : Nat) (ty0 : Nat → FieldType) (N : Nat) : Bool := (a_dfs.getD ci []).length == N && (List.range N).all (fun j => match (a_dfs.getD ci [])[j]? with
  | some none => decide (defaultValue (ty0 j) = .int 0)
  | some (some none) => decide (defaultValue (ty0 j) = .null)
  | _ => false)
theorem a_dfc_ok {ci N : Nat} {ty0 : Nat → FieldType} (h : a_dfc ci ty0 N = true) : (a_dfs.getD ci []).length = N ∧ (∀ a : Nat, ¬ some (some a) ∈ a_dfs.getD ci []) ∧ ∀ (ad : Nat → Nat) (j : Nat), j < N → defaultValue (ty0 j) = vp_V ((a_dfs.getD ci []).mapIdx (a_fv ad (fun _ => 0))) j := by
  unfold a_dfc at h
  simp only [Bool.and_eq_true, beq_iff_eq] at h
  obtain ⟨h1, h2⟩ := h
  have h3 : ∀ j, j < N → _ := fun j hj => List.all_eq_true.mp h2 j (List.mem_range.mpr hj)
  refine ⟨h1, fun a ha => ?_, fun ad j hj => ?_⟩
  · obtain ⟨j, hj⟩ := List.getElem?_of_mem ha
    have h4 := h3 j (by rw [← h1]; exact (List.getElem?_eq_some_iff.mp hj).1)
    rw [hj] at h4
    cases h4
  · have h4 := h3 j hj
    unfold vp_V
    rw [List.getD_eq_getElem?_getD, List.getElem?_mapIdx]
    split at h4
    · rename_i hq; rw [hq]; exact of_decide_eq_true h4
    · rename_i hq; rw [hq]; exact of_decide_eq_true h4
    · cases h4
theorem dfc_0 : a_dfc 0 tyX0 3 = true := by decide +kernel
theorem dfc_1 : a_dfc 1 tyX1 9 = true := by decide +kernel
theorem dfc_2 : a_dfc 2 tyX2 5 = true := by decide +kernel
theorem dfc_3 : a_dfc 3 tyX3 9 = true := by decide +kernel
theorem dfc_4 : a_dfc 4 tyX4 18 = true := by decide +kernel
theorem dfc_5 : a_dfc 5 tyX5 21 = true := by decide +kernel
theorem dfs_ok : ∀ (ci : Nat) (q : vw_C), classes[ci]? = some q → ∃ ty0 : Nat → FieldType, (∀ k, k < q.2.2 → parseFieldDescriptor (q.2.1 k).2.2.1 = some (ty0 k)) ∧ (a_dfs.getD ci []).length = q.2.2 ∧ (∀ a : Nat, ¬ some (some a) ∈ a_dfs.getD ci []) ∧ ∀ (ad : Nat → Nat) (j : Nat), j < q.2.2 → defaultValue (ty0 j) = vp_V ((a_dfs.getD ci []).mapIdx (a_fv ad (fun _ => 0))) j := by
  intro ci q h
  match ci, h with
  | 0, h => obtain rfl := Option.some.inj h; exact ⟨tyX0, tyX0_ok, a_dfc_ok dfc_0⟩
  | 1, h => obtain rfl := Option.some.inj h; exact ⟨tyX1, tyX1_ok, a_dfc_ok dfc_1⟩
  | 2, h => obtain rfl := Option.some.inj h; exact ⟨tyX2, tyX2_ok, a_dfc_ok dfc_2⟩
  | 3, h => obtain rfl := Option.some.inj h; exact ⟨tyX3, tyX3_ok, a_dfc_ok dfc_3⟩
  | 4, h => obtain rfl := Option.some.inj h; exact ⟨tyX4, tyX4_ok, a_dfc_ok dfc_4⟩
  | 5, h => obtain rfl := Option.some.inj h; exact ⟨tyX5, tyX5_ok, a_dfc_ok dfc_5⟩
  | n + 6, h => simp [classes] at h
section SH
variable {p : Program} {l : Launch} {e : Env} {R : Room} {s : State} {m : MethodId} {args : Array Value} {below : List Frame} {meth : Method} {c : Code} {H : Heap} {locs : List Loc} {cells slots : Nat} {Q : State → Prop} {bs : ByteArray} {own nm : String} {tb : List AEn} {ad : Nat → Nat} {ls : Array Slot} {nL k j pc len k' j' : Nat} {aux wx : List Nat} {L L' : ALo} {st st' : List Value} {D D' : ADd} {M M' : AMm}
variable {dC : Nat → ClassId} {dI : Nat → Nat → Nat} {cA : ClassId × ClassId × ClassId} {adr : Nat → Nat} {ro : Nat → Nat → Int32} {A : Nat → Prop}
/-- what goes on from the next state -/
def KON (p : Program) (l : Launch) (e : Env) (R : Room) (s : State) (m : MethodId) (args : Array Value) (below : List Frame) (meth : Method) (c : Code) (Q : State → Prop) (dC : Nat → ClassId) (dI : Nat → Nat → Nat) (cA : ClassId × ClassId × ClassId) (adr : Nat → Nat) (ro : Nat → Nat → Int32) (A : Nat → Prop) (tb : List AEn) (nL cells slots : Nat) (D : ADd) (ad : Nat → Nat) (j' : Nat) (L' : ALo) (st' : List Value) (D' : ADd) (M' : AMm) : Prop :=
  ∀ (ls' : Array Slot) (H' : Heap) (locs' : List Loc) (ad' : Nat → Nat), WH dC dI cA adr ro A s.heap H' locs' D' M' ad' → LH ad' ls' nL L' → LV D'.length L' → (∀ v ∈ st', vok D'.length v) → agr D.length ad ad' → W p l e R s m args below meth c H' locs' (cells + (D'.length - D.length)) (slots + (a_szs D' - a_szs D)) Q (F0 m (a_pc tb j') ls' (st'.map (cv ad')))
theorem KON.same (h : KON p l e R s m args below meth c Q dC dI cA adr ro A tb nL cells slots D ad j' L' st' D' M') (hl : D'.length = D.length) (hz : a_szs D' = a_szs D) {ls' : Array Slot} {H' : Heap} {locs' : List Loc} (hW : WH dC dI cA adr ro A s.heap H' locs' D' M' ad) (hL : LH ad ls' nL L') (hV : LV D'.length L') (hS : ∀ v ∈ st', vok D'.length v) : W p l e R s m args below meth c H' locs' cells slots Q (F0 m (a_pc tb j') ls' (st'.map (cv ad))) := by
  have q := h ls' H' locs' ad hW hL hV hS agr_rf
  rw [hl, hz, Nat.sub_self, Nat.sub_self, Nat.add_zero, Nat.add_zero] at q
  exact q
theorem sh_iaload (hx : p.tables.exec = Jvm.exec) (hb : c.code = bs) (hml : c.maxLocals = nL) (hown : s.vm.findClass own = some m.cls) (hts : ∀ w ∈ GW, w.before args s = true) (hnm : nm = "<init>" → meth.name = "<init>") (hA : ∀ q, s.heap.size ≤ q → A q) (hE : EV dC dI cA adr ro A s) (hR1 : 1 ≤ R.frames ∧ 64 ≤ R.locals) (hR : cells + (D'.length - D.length) ≤ R.cells ∧ slots + (a_szs D' - a_szs D) ≤ R.slots) (hd : decode bs pc = .ok (.iaload, len)) (hok : ok_i own nm tb j pc (.iaload) len aux wx = true) (hs : a_ex (.iaload) aux k j L st D M = some (.inl (k', j', L', st', D', M'))) (hW : WH dC dI cA adr ro A s.heap H locs D M ad) (hL : LH ad ls nL L) (hLv : LV D.length L) (hSv : ∀ v ∈ st, vok D.length v) (hK : KON p l e R s m args below meth c Q dC dI cA adr ro A tb nL cells slots D ad j' L' st' D' M') : W p l e R s m args below meth c H locs cells slots Q (F0 m pc ls (st.map (cv ad))) := by
  have hW0 := hW
  obtain ⟨hP, hD, hS, hdk, hd3, had, hro⟩ := hW
  simp only [ok_i, Bool.and_eq_true, beq_iff_eq] at hok
  obtain ⟨rfl, hn⟩ := hok
  dsimp only [a_ex, a_ald] at hs
  split at hs
  · rename_i i a r
    have h2 := List.forall_mem_cons.mp (List.forall_mem_cons.mp hSv).2
    split at hs
    · rename_i hr1
      split at hs
      · rename_i hra
        split at hs
        · cases hs
        · rename_i hin
          simp only [a_nx, Option.some.injEq, Sum.inl.injEq, Prod.mk.injEq] at hs
          obtain ⟨rfl, rfl, rfl, rfl, rfl, rfl⟩ := hs
          obtain ⟨-, hr2⟩ := hra
          obtain ⟨r0, hr3⟩ := Nat.exists_eq_add_of_le (show 1000000 ≤ (a : Nat) from hr1)
          have hr4 : (a : Nat) < 1000004 := hr2
          subst hr3
          have hr0 : r0 < 4 := by omega
          have hT := hE.2.2.2.2.1 r0 hr0
          rw [show 1000000 + r0 - 1000000 = r0 by omega, roL_N hro] at hin
          rw [← had r0 hr0] at hT
          refine va_ti hx hb hT hS hin (v := .int (M (1000000 + r0) i.toNatClampNeg)) (by rw [hro r0 (by omega)]) hd ?_
          rw [← hn]
          exact hK.same rfl rfl hW0 hL hLv (List.forall_mem_cons.mpr ⟨trivial, h2.2⟩)
      · cases hs
    · split at hs
      · rename_i kd n hDa
        split at hs
        · rename_i hkd
          subst hkd
          split at hs
          · cases hs
          · rename_i hin
            simp only [a_nx, Option.some.injEq, Sum.inl.injEq, Prod.mk.injEq] at hs
            obtain ⟨rfl, rfl, rfl, rfl, rfl, rfl⟩ := hs
            refine va_iald (t0 := 0) hx hb hE.1 hP a (wso_at hDa) rfl hin hd ?_
            rw [← hn]
            exact hK.same rfl rfl hW0 hL hLv (List.forall_mem_cons.mpr ⟨trivial, h2.2⟩)
        · cases hs
      · cases hs
  · cases hs
theorem sh_baload (hx : p.tables.exec = Jvm.exec) (hb : c.code = bs) (hml : c.maxLocals = nL) (hown : s.vm.findClass own = some m.cls) (hts : ∀ w ∈ GW, w.before args s = true) (hnm : nm = "<init>" → meth.name = "<init>") (hA : ∀ q, s.heap.size ≤ q → A q) (hE : EV dC dI cA adr ro A s) (hR1 : 1 ≤ R.frames ∧ 64 ≤ R.locals) (hR : cells + (D'.length - D.length) ≤ R.cells ∧ slots + (a_szs D' - a_szs D) ≤ R.slots) (hd : decode bs pc = .ok (.baload, len)) (hok : ok_i own nm tb j pc (.baload) len aux wx = true) (hs : a_ex (.baload) aux k j L st D M = some (.inl (k', j', L', st', D', M'))) (hW : WH dC dI cA adr ro A s.heap H locs D M ad) (hL : LH ad ls nL L) (hLv : LV D.length L) (hSv : ∀ v ∈ st, vok D.length v) (hK : KON p l e R s m args below meth c Q dC dI cA adr ro A tb nL cells slots D ad j' L' st' D' M') : W p l e R s m args below meth c H locs cells slots Q (F0 m pc ls (st.map (cv ad))) := by
  have hW0 := hW
  obtain ⟨hP, hD, hS, hdk, hd3, had, hro⟩ := hW
  simp only [ok_i, Bool.and_eq_true, beq_iff_eq] at hok
  obtain ⟨rfl, hn⟩ := hok
  dsimp only [a_ex, a_ald] at hs
  split at hs
  · rename_i i a r
    have h2 := List.forall_mem_cons.mp (List.forall_mem_cons.mp hSv).2
    split at hs
    · rename_i hr1
      split at hs
      · rename_i hra
        split at hs
        · cases hs
        · rename_i hin
          simp only [a_nx, Option.some.injEq, Sum.inl.injEq, Prod.mk.injEq] at hs
          obtain ⟨rfl, rfl, rfl, rfl, rfl, rfl⟩ := hs
          exact absurd hra.1 (by decide)
      · cases hs
    · split at hs
      · rename_i kd n hDa
        split at hs
        · rename_i hkd
          subst hkd
          split at hs
          · cases hs
          · rename_i hin
            simp only [a_nx, Option.some.injEq, Sum.inl.injEq, Prod.mk.injEq] at hs
            obtain ⟨rfl, rfl, rfl, rfl, rfl, rfl⟩ := hs
            refine va_zald (t0 := 1) hx hb hE.1 hP a (wso_at hDa) rfl hin hd ?_
            rw [← hn]
            exact hK.same rfl rfl hW0 hL hLv (List.forall_mem_cons.mpr ⟨trivial, h2.2⟩)
        · cases hs
      · cases hs
  · cases hs
theorem sh_iastore (hx : p.tables.exec = Jvm.exec) (hb : c.code = bs) (hml : c.maxLocals = nL) (hown : s.vm.findClass own = some m.cls) (hts : ∀ w ∈ GW, w.before args s = true) (hnm : nm = "<init>" → meth.name = "<init>") (hA : ∀ q, s.heap.size ≤ q → A q) (hE : EV dC dI cA adr ro A s) (hR1 : 1 ≤ R.frames ∧ 64 ≤ R.locals) (hR : cells + (D'.length - D.length) ≤ R.cells ∧ slots + (a_szs D' - a_szs D) ≤ R.slots) (hd : decode bs pc = .ok (.iastore, len)) (hok : ok_i own nm tb j pc (.iastore) len aux wx = true) (hs : a_ex (.iastore) aux k j L st D M = some (.inl (k', j', L', st', D', M'))) (hW : WH dC dI cA adr ro A s.heap H locs D M ad) (hL : LH ad ls nL L) (hLv : LV D.length L) (hSv : ∀ v ∈ st, vok D.length v) (hK : KON p l e R s m args below meth c Q dC dI cA adr ro A tb nL cells slots D ad j' L' st' D' M') : W p l e R s m args below meth c H locs cells slots Q (F0 m pc ls (st.map (cv ad))) := by
  have hW0 := hW
  obtain ⟨hP, hD, hS, hdk, hd3, had, hro⟩ := hW
  simp only [ok_i, Bool.and_eq_true, beq_iff_eq] at hok
  obtain ⟨rfl, hn⟩ := hok
  dsimp only [a_ex, a_ast] at hs
  split at hs
  · rename_i v i a r
    have h2 := List.forall_mem_cons.mp (List.forall_mem_cons.mp (List.forall_mem_cons.mp hSv).2).2
    split at hs
    · rename_i kd n hDa
      split at hs
      · rename_i hkd
        subst hkd
        split at hs
        · cases hs
        · rename_i hin
          simp only [a_nx, Option.some.injEq, Sum.inl.injEq, Prod.mk.injEq] at hs
          obtain ⟨rfl, rfl, rfl, rfl, rfl, rfl⟩ := hs
          refine va_iast (t0 := 0) hx hb hE.1 hP hD hS a (wso_at hDa) rfl hin hd (fun H1 locs1 hP1 hD1 hS1 => ?_)
          have e1 : (wso cA ad D M).set a (ad a, ce cA ad (.inr (.inl (0, n))) (ms M a i.toNatClampNeg v a)) = wso cA ad D (ms M a i.toNatClampNeg v) := wso_one hDa (set_self hDa).symm (fun i hi => ms_off hi)
          rw [ms_row] at e1
          have e2 : (wso cA ad D M).set a (ad a, .inl (if (0 : Nat) = 0 then cA.1 else cA.2.1, n, .inl (upd (M a) i.toNatClampNeg v))) = wso cA ad D (ms M a i.toNatClampNeg v) := e1
          rw [← hn]
          have hal := (List.getElem?_eq_some_iff.mp hDa).1
          exact hK.same rfl rfl ⟨by rw [← e2]; exact hP1, by rw [← e2]; exact hD1, hS1, hdk, hd3, had, fun r hr => by rw [ms_off (by omega)]; exact hro r hr⟩ hL hLv h2.2
      · cases hs
    · cases hs
  · cases hs
theorem sh_bastore (hx : p.tables.exec = Jvm.exec) (hb : c.code = bs) (hml : c.maxLocals = nL) (hown : s.vm.findClass own = some m.cls) (hts : ∀ w ∈ GW, w.before args s = true) (hnm : nm = "<init>" → meth.name = "<init>") (hA : ∀ q, s.heap.size ≤ q → A q) (hE : EV dC dI cA adr ro A s) (hR1 : 1 ≤ R.frames ∧ 64 ≤ R.locals) (hR : cells + (D'.length - D.length) ≤ R.cells ∧ slots + (a_szs D' - a_szs D) ≤ R.slots) (hd : decode bs pc = .ok (.bastore, len)) (hok : ok_i own nm tb j pc (.bastore) len aux wx = true) (hs : a_ex (.bastore) aux k j L st D M = some (.inl (k', j', L', st', D', M'))) (hW : WH dC dI cA adr ro A s.heap H locs D M ad) (hL : LH ad ls nL L) (hLv : LV D.length L) (hSv : ∀ v ∈ st, vok D.length v) (hK : KON p l e R s m args below meth c Q dC dI cA adr ro A tb nL cells slots D ad j' L' st' D' M') : W p l e R s m args below meth c H locs cells slots Q (F0 m pc ls (st.map (cv ad))) := by
  have hW0 := hW
  obtain ⟨hP, hD, hS, hdk, hd3, had, hro⟩ := hW
  simp only [ok_i, Bool.and_eq_true, beq_iff_eq] at hok
  obtain ⟨rfl, hn⟩ := hok
  dsimp only [a_ex, a_ast] at hs
  split at hs
  · rename_i v i a r
    have h2 := List.forall_mem_cons.mp (List.forall_mem_cons.mp (List.forall_mem_cons.mp hSv).2).2
    split at hs
    case isFalse => cases hs
    rename_i hv01
    split at hs
    · rename_i kd n hDa
      split at hs
      · rename_i hkd
        subst hkd
        split at hs
        · cases hs
        · rename_i hin
          simp only [a_nx, Option.some.injEq, Sum.inl.injEq, Prod.mk.injEq] at hs
          obtain ⟨rfl, rfl, rfl, rfl, rfl, rfl⟩ := hs
          refine va_zast (t0 := 1) hx hb hE.1 hP hD hS a (wso_at hDa) rfl hin hd (fun H1 locs1 hP1 hD1 hS1 => ?_)
          rw [show vp_nar .boolean v = v from by rcases hv01 with rfl | rfl <;> rfl] at hP1 hD1
          have e1 : (wso cA ad D M).set a (ad a, ce cA ad (.inr (.inl (1, n))) (ms M a i.toNatClampNeg v a)) = wso cA ad D (ms M a i.toNatClampNeg v) := wso_one hDa (set_self hDa).symm (fun i hi => ms_off hi)
          rw [ms_row] at e1
          have e2 : (wso cA ad D M).set a (ad a, .inl (if (1 : Nat) = 0 then cA.1 else cA.2.1, n, .inl (upd (M a) i.toNatClampNeg v))) = wso cA ad D (ms M a i.toNatClampNeg v) := e1
          rw [← hn]
          have hal := (List.getElem?_eq_some_iff.mp hDa).1
          exact hK.same rfl rfl ⟨by rw [← e2]; exact hP1, by rw [← e2]; exact hD1, hS1, hdk, hd3, had, fun r hr => by rw [ms_off (by omega)]; exact hro r hr⟩ hL hLv h2.2
      · cases hs
    · cases hs
  · cases hs
theorem sh_aaload (hx : p.tables.exec = Jvm.exec) (hb : c.code = bs) (hml : c.maxLocals = nL) (hown : s.vm.findClass own = some m.cls) (hts : ∀ w ∈ GW, w.before args s = true) (hnm : nm = "<init>" → meth.name = "<init>") (hA : ∀ q, s.heap.size ≤ q → A q) (hE : EV dC dI cA adr ro A s) (hR1 : 1 ≤ R.frames ∧ 64 ≤ R.locals) (hR : cells + (D'.length - D.length) ≤ R.cells ∧ slots + (a_szs D' - a_szs D) ≤ R.slots) (hd : decode bs pc = .ok (.aaload, len)) (hok : ok_i own nm tb j pc (.aaload) len aux wx = true) (hs : a_ex (.aaload) aux k j L st D M = some (.inl (k', j', L', st', D', M'))) (hW : WH dC dI cA adr ro A s.heap H locs D M ad) (hL : LH ad ls nL L) (hLv : LV D.length L) (hSv : ∀ v ∈ st, vok D.length v) (hK : KON p l e R s m args below meth c Q dC dI cA adr ro A tb nL cells slots D ad j' L' st' D' M') : W p l e R s m args below meth c H locs cells slots Q (F0 m pc ls (st.map (cv ad))) := by
  have hW0 := hW
  obtain ⟨hP, hD, hS, hdk, hd3, had, hro⟩ := hW
  simp only [ok_i, Bool.and_eq_true, beq_iff_eq] at hok
  obtain ⟨rfl, hn⟩ := hok
  dsimp only [a_ex] at hs
  split at hs
  · rename_i i a r
    have h2 := List.forall_mem_cons.mp (List.forall_mem_cons.mp hSv).2
    split at hs
    · rename_i rs hDa
      split at hs
      · cases hs
      · rename_i hin
        simp only [a_nx, Option.some.injEq, Sum.inl.injEq, Prod.mk.injEq] at hs
        obtain ⟨rfl, rfl, rfl, rfl, rfl, rfl⟩ := hs
        refine va_aldq (t0 := 2) hx hb hE.1 hP a (wso_at hDa) rfl hin hd ?_
        rw [← hn, ← cv_rf]
        refine hK.same rfl rfl hW0 hL hLv (List.forall_mem_cons.mpr ⟨?_, h2.2⟩)
        cases hg : rs.getD i.toNatClampNeg none with
        | none => trivial
        | some q =>
          refine hdk a _ hDa q ?_
          rw [List.getD_eq_getElem?_getD] at hg
          cases hr : rs[i.toNatClampNeg]? with
          | none => rw [hr] at hg; cases hg
          | some o => rw [hr] at hg; have : o = some q := hg; subst this; exact List.mem_of_getElem? hr
    · cases hs
  · cases hs
theorem sh_aastore (hx : p.tables.exec = Jvm.exec) (hb : c.code = bs) (hml : c.maxLocals = nL) (hown : s.vm.findClass own = some m.cls) (hts : ∀ w ∈ GW, w.before args s = true) (hnm : nm = "<init>" → meth.name = "<init>") (hA : ∀ q, s.heap.size ≤ q → A q) (hE : EV dC dI cA adr ro A s) (hR1 : 1 ≤ R.frames ∧ 64 ≤ R.locals) (hR : cells + (D'.length - D.length) ≤ R.cells ∧ slots + (a_szs D' - a_szs D) ≤ R.slots) (hd : decode bs pc = .ok (.aastore, len)) (hok : ok_i own nm tb j pc (.aastore) len aux wx = true) (hs : a_ex (.aastore) aux k j L st D M = some (.inl (k', j', L', st', D', M'))) (hW : WH dC dI cA adr ro A s.heap H locs D M ad) (hL : LH ad ls nL L) (hLv : LV D.length L) (hSv : ∀ v ∈ st, vok D.length v) (hK : KON p l e R s m args below meth c Q dC dI cA adr ro A tb nL cells slots D ad j' L' st' D' M') : W p l e R s m args below meth c H locs cells slots Q (F0 m pc ls (st.map (cv ad))) := by
  have hW0 := hW
  obtain ⟨hP, hD, hS, hdk, hd3, had, hro⟩ := hW
  simp only [ok_i, Bool.and_eq_true, beq_iff_eq] at hok
  obtain ⟨rfl, hn⟩ := hok
  dsimp only [a_ex] at hs
  split at hs
  · rename_i q i a r
    have h1 := List.forall_mem_cons.mp hSv
    have h2 := List.forall_mem_cons.mp (List.forall_mem_cons.mp h1.2).2
    split at hs
    · rename_i rs hDa
      split at hs
      · cases hs
      · rename_i hin
        split at hs
        · rename_i hF
          simp only [a_nx, Option.some.injEq, Sum.inl.injEq, Prod.mk.injEq] at hs
          obtain ⟨rfl, rfl, rfl, rfl, rfl, rfl⟩ := hs
          obtain ⟨fs, hDq⟩ : ∃ fs, D[q]? = some (.inl (1, fs)) := by
            unfold a_isF at hF
            split at hF
            · rename_i fs hq; exact ⟨fs, hq⟩
            · cases hF
          have hql := (List.getElem?_eq_some_iff.mp hDq).1
          refine va_astq (t0 := 2) (ci := 1) (r := (RX1, TX1, 9)) hx hb hE.1 hP hD hS a q (wso_at hDa) rfl (wso_at hDq) rfl hin hd (fun H1 locs1 hP1 hD1 hS1 => ?_)
          have hlt : i.toNatClampNeg < rs.length := Nat.not_le.mp fun z => hin (Or.inr z)
          have e0 : (Sum.inl (cA.2.2, rs.length, .inr (.inr (.inr (.inr (va_up (fun i => (rs.getD i none).map ad) i.toNatClampNeg (some (ad q))))))) : va_E) = ce cA ad (.inr (.inr (rs.set i.toNatClampNeg (some q)))) (M a) := by
            show _ = Sum.inl (cA.2.2, (rs.set i.toNatClampNeg (some q)).length, _)
            rw [List.length_set]
            congr 7
            funext z
            unfold va_up
            rw [List.getD_eq_getElem?_getD, List.getElem?_set]
            by_cases hz : z = i.toNatClampNeg
            · subst hz; rw [if_pos rfl, if_pos rfl, if_pos hlt]; rfl
            · rw [if_neg hz, if_neg (fun w => hz w.symm)]
              show Option.map ad (rs.getD z none) = _
              rw [List.getD_eq_getElem?_getD]
          have e1 : (wso cA ad D M).set a (ad a, Sum.inl (cA.2.2, rs.length, .inr (.inr (.inr (.inr (va_up (fun i => (rs.getD i none).map ad) i.toNatClampNeg (some (ad q)))))))) = wso cA ad (D.set a (.inr (.inr (rs.set i.toNatClampNeg (some q))))) M := by
            rw [e0]; exact wso_one hDa rfl (fun _ _ => rfl)
          rw [← hn]
          refine hK.same (by rw [List.length_set]) (szs_set hDa (by show (rs.set _ _).length = _; rw [List.length_set]; rfl)) ⟨by rw [← e1]; exact hP1, by rw [← e1]; exact hD1, hS1, dok_set hdk (fun b hb => ?_), by rw [List.length_set]; exact hd3, had, hro⟩ hL (by rw [List.length_set]; exact hLv) (by rw [List.length_set]; exact h2.2)
          rcases List.mem_or_eq_of_mem_set hb with z | z
          · exact hdk a _ hDa b z
          · obtain rfl := Option.some.inj z; exact Or.inl hql
        · cases hs
    · cases hs
  · cases hs
theorem sh_arraylength (hx : p.tables.exec = Jvm.exec) (hb : c.code = bs) (hml : c.maxLocals = nL) (hown : s.vm.findClass own = some m.cls) (hts : ∀ w ∈ GW, w.before args s = true) (hnm : nm = "<init>" → meth.name = "<init>") (hA : ∀ q, s.heap.size ≤ q → A q) (hE : EV dC dI cA adr ro A s) (hR1 : 1 ≤ R.frames ∧ 64 ≤ R.locals) (hR : cells + (D'.length - D.length) ≤ R.cells ∧ slots + (a_szs D' - a_szs D) ≤ R.slots) (hd : decode bs pc = .ok (.arraylength, len)) (hok : ok_i own nm tb j pc (.arraylength) len aux wx = true) (hs : a_ex (.arraylength) aux k j L st D M = some (.inl (k', j', L', st', D', M'))) (hW : WH dC dI cA adr ro A s.heap H locs D M ad) (hL : LH ad ls nL L) (hLv : LV D.length L) (hSv : ∀ v ∈ st, vok D.length v) (hK : KON p l e R s m args below meth c Q dC dI cA adr ro A tb nL cells slots D ad j' L' st' D' M') : W p l e R s m args below meth c H locs cells slots Q (F0 m pc ls (st.map (cv ad))) := by
  have hW0 := hW
  obtain ⟨hP, hD, hS, hdk, hd3, had, hro⟩ := hW
  simp only [ok_i, Bool.and_eq_true, beq_iff_eq] at hok
  obtain ⟨rfl, hn⟩ := hok
  dsimp only [a_ex] at hs
  split at hs
  · rename_i a r
    have h2 := List.forall_mem_cons.mp hSv
    split at hs
    · rename_i ha
      subst ha
      simp only [a_nx, Option.some.injEq, Sum.inl.injEq, Prod.mk.injEq] at hs
      obtain ⟨rfl, rfl, rfl, rfl, rfl, rfl⟩ := hs
      have hT := hE.2.2.2.2.1 0 (by decide)
      rw [← had 0 (by decide)] at hT
      refine va_tlen (v := M 1000004 0) hx hb hT hS (by rw [show M 1000004 = ro 4 from hro 4 (by decide)]; exact hE.2.2.2.2.2.symm) hd ?_
      rw [← hn]
      exact hK.same rfl rfl hW0 hL hLv (List.forall_mem_cons.mpr ⟨trivial, h2.2⟩)
    · split at hs
      · rename_i kd n hDa
        simp only [a_nx, Option.some.injEq, Sum.inl.injEq, Prod.mk.injEq] at hs
        obtain ⟨rfl, rfl, rfl, rfl, rfl, rfl⟩ := hs
        obtain ⟨t0, ty, ht0⟩ : ∃ t0 ty, (a_tys cA)[t0]? = some (if kd = 0 then cA.1 else cA.2.1, ty) := by
          by_cases hk0 : kd = 0
          · rw [if_pos hk0]; exact ⟨0, _, rfl⟩
          · rw [if_neg hk0]; exact ⟨1, _, rfl⟩
        refine va_alen (v := nI n) hx hb hE.1 hP a t0 (wso_at hDa) ht0 rfl hd ?_
        rw [← hn]
        exact hK.same rfl rfl hW0 hL hLv (List.forall_mem_cons.mpr ⟨trivial, h2.2⟩)
      · cases hs
  · cases hs
theorem a_gf_at {a ci sl : Nat} {v : Value} (h : a_gf D M a ci sl = some v) : ∃ (fs : List (Option (Option Nat))) (o : Option (Option Nat)), D[a]? = some (.inl (ci, fs)) ∧ fs[sl]? = some o ∧ cv ad v = a_fv ad (M a) sl o ∧ (dok D → vok D.length v) := by
  unfold a_gf at h
  split at h
  · rename_i c fs hDa
    split at h
    · rename_i hc
      subst hc
      split at h
      · rename_i hf
        obtain rfl := Option.some.inj h
        exact ⟨fs, _, hDa, hf, rfl, fun _ => trivial⟩
      · rename_i r hf
        obtain rfl := Option.some.inj h
        refine ⟨fs, _, hDa, hf, cv_rf ad r, fun hd => ?_⟩
        cases r with
        | none => trivial
        | some q => exact hd a _ hDa q (List.mem_of_getElem? hf)
      · cases h
    · cases h
  · cases h
theorem sh_getfield {v0 : Nat} (hx : p.tables.exec = Jvm.exec) (hb : c.code = bs) (hml : c.maxLocals = nL) (hown : s.vm.findClass own = some m.cls) (hts : ∀ w ∈ GW, w.before args s = true) (hnm : nm = "<init>" → meth.name = "<init>") (hA : ∀ q, s.heap.size ≤ q → A q) (hE : EV dC dI cA adr ro A s) (hR1 : 1 ≤ R.frames ∧ 64 ≤ R.locals) (hR : cells + (D'.length - D.length) ≤ R.cells ∧ slots + (a_szs D' - a_szs D) ≤ R.slots) (hd : decode bs pc = .ok (.getfield v0, len)) (hok : ok_i own nm tb j pc (.getfield v0) len aux wx = true) (hs : a_ex (.getfield v0) aux k j L st D M = some (.inl (k', j', L', st', D', M'))) (hW : WH dC dI cA adr ro A s.heap H locs D M ad) (hL : LH ad ls nL L) (hLv : LV D.length L) (hSv : ∀ v ∈ st, vok D.length v) (hK : KON p l e R s m args below meth c Q dC dI cA adr ro A tb nL cells slots D ad j' L' st' D' M') : W p l e R s m args below meth c H locs cells slots Q (F0 m pc ls (st.map (cv ad))) := by
  have hW0 := hW
  obtain ⟨hP, hD, hS, hdk, hd3, had, hro⟩ := hW
  simp only [ok_i, Bool.and_eq_true, beq_iff_eq] at hok
  obtain ⟨rfl, hn, hfl⟩ := hok
  dsimp only [a_ex] at hs
  split at hs
  · rename_i a r
    have h2 := List.forall_mem_cons.mp hSv
    split at hs
    · rename_i v hg
      simp only [a_nx, Option.some.injEq, Sum.inl.injEq, Prod.mk.injEq] at hs
      obtain ⟨rfl, rfl, rfl, rfl, rfl, rfl⟩ := hs
      obtain ⟨fs, o, hDa, hf, hv, hvk⟩ := a_gf_at (ad := ad) hg
      unfold ok_fl at hfl
      split at hfl
      · rename_i q hc
        simp only [Bool.and_eq_true, decide_eq_true_eq] at hfl
        obtain ⟨hlt, hcls, hw⟩ := hfl
        obtain ⟨hin, -⟩ := cw_all _ q hc
        have hfv : (fs.mapIdx (a_fv ad (M a)))[a_hd aux.tail]? = some (cv ad v) := by rw [List.getElem?_mapIdx, hf, hv]; rfl
        have go : W p l e R s m args below meth c H locs cells slots Q (F0 m (pc + 3) ls ((v :: r).map (cv ad))) := by
          rw [← hn]
          exact hK.same rfl rfl hW0 hL hLv (List.forall_mem_cons.mpr ⟨hvk hdk, h2.2⟩)
        have hsame : ∀ x, s.fieldFound? (q.2.1 (a_hd aux.tail)).1 (q.2.1 (a_hd aux.tail)).2.1 (q.2.1 (a_hd aux.tail)).2.2.1 = some x → s.fieldFound? q.1 (q.2.1 (a_hd aux.tail)).2.1 (q.2.1 (a_hd aux.tail)).2.2.1 = some x := fun x h => by rw [hcls] at h; exact h
        split at hw
        · exact va_get hx hb hts hin hown hE.1 hP a (wso_at hDa) hc _ hlt (hts _ (a_w_in hw rfl)) hsame hfv hd go
        · exact va_getN hx hb hts hin hown hE.1 hP a (wso_at hDa) hc _ hlt (va_Nw.use rfl (hE.2.1 _ (a_w_tbl hw) rfl)) hsame hfv hd go
      · cases hfl
    · cases hs
  · cases hs
/-- a field is put: what the abstract machine does, and what it asks -/
theorem a_pf_at {a ci sl ty : Nat} {v : Value} {kk : ADd → AMm → Option AOu} {x : AOu} (h : a_pf D M a ci sl ty v kk = some x) : ∃ fs : List (Option (Option Nat)), D[a]? = some (.inl (ci, fs)) ∧ sl < fs.length ∧ ((∃ z, v = .int z ∧ fs[sl]? = some none ∧ (ty = 0 ∨ (ty = 1 ∧ (z = 0 ∨ z = 1))) ∧ kk D (ms M a sl z) = some x) ∨ ∃ q, v = .ref q ∧ ty = 2 ∧ kk (D.set a (.inl (ci, fs.set sl (some (some q))))) M = some x) := by
  unfold a_pf at h
  split at h
  · rename_i c fs hDa
    split at h
    · rename_i hc
      subst hc
      split at h
      · rename_i z hf
        exact ⟨fs, hDa, (List.getElem?_eq_some_iff.mp hf).1, Or.inl ⟨z, rfl, hf, Or.inl rfl, h⟩⟩
      · rename_i z hf
        split at h
        · rename_i h01
          exact ⟨fs, hDa, (List.getElem?_eq_some_iff.mp hf).1, Or.inl ⟨z, rfl, hf, Or.inr ⟨rfl, h01⟩, h⟩⟩
        · cases h
      · rename_i y q hf
        exact ⟨fs, hDa, (List.getElem?_eq_some_iff.mp hf).1, Or.inr ⟨q, rfl, rfl, h⟩⟩
      · cases h
    · cases h
  · cases h
theorem sh_putfield {v0 : Nat} (hx : p.tables.exec = Jvm.exec) (hb : c.code = bs) (hml : c.maxLocals = nL) (hown : s.vm.findClass own = some m.cls) (hts : ∀ w ∈ GW, w.before args s = true) (hnm : nm = "<init>" → meth.name = "<init>") (hA : ∀ q, s.heap.size ≤ q → A q) (hE : EV dC dI cA adr ro A s) (hR1 : 1 ≤ R.frames ∧ 64 ≤ R.locals) (hR : cells + (D'.length - D.length) ≤ R.cells ∧ slots + (a_szs D' - a_szs D) ≤ R.slots) (hd : decode bs pc = .ok (.putfield v0, len)) (hok : ok_i own nm tb j pc (.putfield v0) len aux wx = true) (hs : a_ex (.putfield v0) aux k j L st D M = some (.inl (k', j', L', st', D', M'))) (hW : WH dC dI cA adr ro A s.heap H locs D M ad) (hL : LH ad ls nL L) (hLv : LV D.length L) (hSv : ∀ v ∈ st, vok D.length v) (hK : KON p l e R s m args below meth c Q dC dI cA adr ro A tb nL cells slots D ad j' L' st' D' M') : W p l e R s m args below meth c H locs cells slots Q (F0 m pc ls (st.map (cv ad))) := by
  have hW0 := hW
  obtain ⟨hP, hD, hS, hdk, hd3, had, hro⟩ := hW
  simp only [ok_i, Bool.and_eq_true, beq_iff_eq, Bool.or_eq_true] at hok
  obtain ⟨rfl, hn, hfl, hpt, hfi⟩ := hok
  dsimp only [a_ex] at hs
  split at hs
  · rename_i v a r
    have h1 := List.forall_mem_cons.mp hSv
    have h2 := List.forall_mem_cons.mp h1.2
    obtain ⟨fs, hDa, hsl, hcase⟩ := a_pf_at hs
    have hal := (List.getElem?_eq_some_iff.mp hDa).1
    unfold ok_fl at hfl
    unfold ok_pt at hpt
    split at hfl
    · rename_i q hc
      rw [hc] at hpt
      simp only [Bool.and_eq_true, decide_eq_true_eq] at hfl hpt
      obtain ⟨hlt, hcls, hw⟩ := hfl
      obtain ⟨hfin, hty⟩ := hpt
      obtain ⟨hin, ty0, hty0, hnm0⟩ := cw_all _ q hc
      have hsame : ∀ x, s.fieldFound? (q.2.1 (a_hd aux.tail)).1 (q.2.1 (a_hd aux.tail)).2.1 (q.2.1 (a_hd aux.tail)).2.2.1 = some x → s.fieldFound? q.1 (q.2.1 (a_hd aux.tail)).2.1 (q.2.1 (a_hd aux.tail)).2.2.1 = some x := fun x h => by rw [hcls] at h; exact h
      have main : ∀ (ty : FieldType), parseFieldDescriptor (q.2.1 (a_hd aux.tail)).2.2.1 = some ty → narrow ty (cv ad v) = cv ad v → fits ty (cv ad v) = true → (∀ (H1 : Heap) (locs1 : List Loc), va_P (dC, dI) classes ((wso cA ad D M).set a (ad a, .inr (a_hd aux, (fs.mapIdx (a_fv ad (M a))).set (a_hd aux.tail) (cv ad v)))) H1 → va_D A ((wso cA ad D M).set a (ad a, .inr (a_hd aux, (fs.mapIdx (a_fv ad (M a))).set (a_hd aux.tail) (cv ad v)))) → va_S A s.heap H1 locs1 → W p l e R s m args below meth c H1 locs1 cells slots Q (F0 m (pc + 3) ls (r.map (cv ad)))) → W p l e R s m args below meth c H locs cells slots Q (F0 m pc ls ((v :: .ref a :: r).map (cv ad))) := by
        intro ty hdty hna hfit kk
        have hl : a_hd aux.tail < (fs.mapIdx (a_fv ad (M a))).length := by simpa using hsl
        by_cases hf0 : a_hd wx.tail.tail = 0
        · rw [if_pos hf0] at hfin
          have hfin := of_decide_eq_true hfin
          split at hw
          · exact va_put hx hb hts hin ty0 hty0 hnm0 hown hE.1 hP hD hS a (wso_at hDa) hc _ hlt (hts _ (a_w_in hw rfl)) hsame hfin hdty hna hfit hl hd kk
          · exact va_putN hx hb hts hin ty0 hty0 hnm0 hown hE.1 hP hD hS a (wso_at hDa) hc _ hlt (va_Nw.use rfl (hE.2.1 _ (a_w_tbl hw) rfl)) hsame hfin hdty hna hfit hl hd kk
        · rw [if_neg hf0] at hfin
          simp only [Bool.and_eq_true, decide_eq_true_eq] at hfin
          rcases hfi with z | ⟨z1, z2⟩
          · exact absurd z hf0
          · rw [if_pos z2] at hw
            exact va_putF hx hb hts hin ty0 hty0 hnm0 hown hE.1 hP hD hS a (wso_at hDa) hc _ hlt (hts _ (a_w_in hw rfl)) hsame hfin.1 (hnm z1) (hcls.trans hfin.2) hdty hna hfit hl hd kk
      rcases hcase with ⟨z, rfl, hfn, hz, hs2⟩ | ⟨b, rfl, ht2, hs2⟩
      · simp only [a_nx, Option.some.injEq, Sum.inl.injEq, Prod.mk.injEq] at hs2
        obtain ⟨rfl, rfl, rfl, rfl, rfl, rfl⟩ := hs2
        have kk : ∀ (H1 : Heap) (locs1 : List Loc), va_P (dC, dI) classes ((wso cA ad D M).set a (ad a, .inr (a_hd aux, (fs.mapIdx (a_fv ad (M a))).set (a_hd aux.tail) (.int z)))) H1 → va_D A ((wso cA ad D M).set a (ad a, .inr (a_hd aux, (fs.mapIdx (a_fv ad (M a))).set (a_hd aux.tail) (.int z)))) → va_S A s.heap H1 locs1 → W p l e R s m args below meth c H1 locs1 cells slots Q (F0 m (pc + 3) ls (r.map (cv ad))) := by
          intro H1 locs1 hP1 hD1 hS1
          have e1 : (wso cA ad D M).set a (ad a, ce cA ad (.inl (a_hd aux, fs)) (ms M a (a_hd aux.tail) z a)) = wso cA ad D (ms M a (a_hd aux.tail) z) := wso_one hDa (set_self hDa).symm (fun i hi => ms_off hi)
          rw [ms_row] at e1
          have e2 : (wso cA ad D M).set a (ad a, .inr (a_hd aux, (fs.mapIdx (a_fv ad (M a))).set (a_hd aux.tail) (.int z))) = wso cA ad D (ms M a (a_hd aux.tail) z) := by rw [fv_set hfn]; exact e1
          rw [← hn]
          exact hK.same rfl rfl ⟨by rw [← e2]; exact hP1, by rw [← e2]; exact hD1, hS1, hdk, hd3, had, fun r hr => by rw [ms_off (by omega)]; exact hro r hr⟩ hL hLv h2.2
        rcases hz with hz | ⟨hz, h01⟩
        · rw [hz] at hty
          split at hty
          · rename_i hpd; exact main .int hpd rfl rfl kk
          · cases hty
          · cases hty
          · cases hty
          · cases hty
        · rw [hz] at hty
          split at hty
          · cases hty
          · rename_i hpd
            exact main .boolean hpd (by rcases h01 with rfl | rfl <;> rfl) (by rcases h01 with rfl | rfl <;> rfl) kk
          · cases hty
          · cases hty
          · cases hty
      · simp only [a_nx, Option.some.injEq, Sum.inl.injEq, Prod.mk.injEq] at hs2
        obtain ⟨rfl, rfl, rfl, rfl, rfl, rfl⟩ := hs2
        have kk : ∀ (H1 : Heap) (locs1 : List Loc), va_P (dC, dI) classes ((wso cA ad D M).set a (ad a, .inr (a_hd aux, (fs.mapIdx (a_fv ad (M a))).set (a_hd aux.tail) (.ref (ad b))))) H1 → va_D A ((wso cA ad D M).set a (ad a, .inr (a_hd aux, (fs.mapIdx (a_fv ad (M a))).set (a_hd aux.tail) (.ref (ad b))))) → va_S A s.heap H1 locs1 → W p l e R s m args below meth c H1 locs1 cells slots Q (F0 m (pc + 3) ls (r.map (cv ad))) := by
          intro H1 locs1 hP1 hD1 hS1
          have e2 : (wso cA ad D M).set a (ad a, .inr (a_hd aux, (fs.mapIdx (a_fv ad (M a))).set (a_hd aux.tail) (.ref (ad b)))) = wso cA ad (D.set a (.inl (a_hd aux, fs.set (a_hd aux.tail) (some (some b))))) M := by
            rw [fv_setr hsl]
            exact wso_one (c' := .inl (a_hd aux, fs.set (a_hd aux.tail) (some (some b)))) hDa rfl (fun _ _ => rfl)
          rw [← hn]
          refine hK.same (by rw [List.length_set]) (szs_set hDa (by show (fs.set _ _).length = _; rw [List.length_set]; rfl)) ⟨by rw [← e2]; exact hP1, by rw [← e2]; exact hD1, hS1, dok_set hdk (fun x hx => ?_), by rw [List.length_set]; exact hd3, had, hro⟩ hL (by rw [List.length_set]; exact hLv) (by rw [List.length_set]; exact h2.2)
          rcases List.mem_or_eq_of_mem_set hx with z | z
          · exact hdk a _ hDa x z
          · obtain rfl := Option.some.inj (Option.some.inj z)
            exact h1.1
        rw [ht2] at hty
        split at hty
        · cases hty
        · cases hty
        · rename_i hpd; exact main _ hpd rfl rfl kk
        · rename_i hpd; exact main _ hpd rfl rfl kk
        · cases hty
    · cases hfl
  · cases hs
theorem sh_getstatic {v0 : Nat} (hx : p.tables.exec = Jvm.exec) (hb : c.code = bs) (hml : c.maxLocals = nL) (hown : s.vm.findClass own = some m.cls) (hts : ∀ w ∈ GW, w.before args s = true) (hnm : nm = "<init>" → meth.name = "<init>") (hA : ∀ q, s.heap.size ≤ q → A q) (hE : EV dC dI cA adr ro A s) (hR1 : 1 ≤ R.frames ∧ 64 ≤ R.locals) (hR : cells + (D'.length - D.length) ≤ R.cells ∧ slots + (a_szs D' - a_szs D) ≤ R.slots) (hd : decode bs pc = .ok (.getstatic v0, len)) (hok : ok_i own nm tb j pc (.getstatic v0) len aux wx = true) (hs : a_ex (.getstatic v0) aux k j L st D M = some (.inl (k', j', L', st', D', M'))) (hW : WH dC dI cA adr ro A s.heap H locs D M ad) (hL : LH ad ls nL L) (hLv : LV D.length L) (hSv : ∀ v ∈ st, vok D.length v) (hK : KON p l e R s m args below meth c Q dC dI cA adr ro A tb nL cells slots D ad j' L' st' D' M') : W p l e R s m args below meth c H locs cells slots Q (F0 m pc ls (st.map (cv ad))) := by
  have hW0 := hW
  obtain ⟨hP, hD, hS, hdk, hd3, had, hro⟩ := hW
  simp only [ok_i, Bool.and_eq_true, beq_iff_eq, decide_eq_true_eq] at hok
  obtain ⟨rfl, hn, hr, hw⟩ := hok
  dsimp only [a_ex] at hs
  simp only [a_nx, Option.some.injEq, Sum.inl.injEq, Prod.mk.injEq] at hs
  obtain ⟨rfl, rfl, rfl, rfl, rfl, rfl⟩ := hs
  have hZ := hE.2.2.2.1 _ hr.1 hr.2
  rw [← had _ hr.2] at hZ
  have go : W p l e R s m args below meth c H locs cells slots Q (F0 m (pc + 3) ls ((.ref (1000000 + a_hd aux) :: st).map (cv ad))) := by
    rw [← hn]
    exact hK.same rfl rfl hW0 hL hLv (List.forall_mem_cons.mpr ⟨Or.inr ⟨Nat.le_add_right _ _, Nat.add_lt_add_left hr.2 _⟩, hSv⟩)
  split at hw
  · exact va_gets hx hb hZ hS hown (hts _ (a_w_in hw rfl)) (fun _ h => h) hd go
  · exact va_getsN hx hb hZ hS hown (va_Nw.use rfl (hE.2.1 _ (a_w_tbl hw) rfl)) (fun _ h => h) hd go
theorem sh_new {v0 : Nat} (hx : p.tables.exec = Jvm.exec) (hb : c.code = bs) (hml : c.maxLocals = nL) (hown : s.vm.findClass own = some m.cls) (hts : ∀ w ∈ GW, w.before args s = true) (hnm : nm = "<init>" → meth.name = "<init>") (hA : ∀ q, s.heap.size ≤ q → A q) (hE : EV dC dI cA adr ro A s) (hR1 : 1 ≤ R.frames ∧ 64 ≤ R.locals) (hR : cells + (D'.length - D.length) ≤ R.cells ∧ slots + (a_szs D' - a_szs D) ≤ R.slots) (hd : decode bs pc = .ok (.new v0, len)) (hok : ok_i own nm tb j pc (.new v0) len aux wx = true) (hs : a_ex (.new v0) aux k j L st D M = some (.inl (k', j', L', st', D', M'))) (hW : WH dC dI cA adr ro A s.heap H locs D M ad) (hL : LH ad ls nL L) (hLv : LV D.length L) (hSv : ∀ v ∈ st, vok D.length v) (hK : KON p l e R s m args below meth c Q dC dI cA adr ro A tb nL cells slots D ad j' L' st' D' M') : W p l e R s m args below meth c H locs cells slots Q (F0 m pc ls (st.map (cv ad))) := by
  have hW0 := hW
  obtain ⟨hP, hD, hS, hdk, hd3, had, hro⟩ := hW
  simp only [ok_i, Bool.and_eq_true, beq_iff_eq] at hok
  obtain ⟨rfl, hn, hw⟩ := hok
  dsimp only [a_ex] at hs
  split at hs
  · rename_i hlen
    simp only [a_nx, Option.some.injEq, Sum.inl.injEq, Prod.mk.injEq] at hs
    obtain ⟨rfl, rfl, rfl, rfl, rfl, rfl⟩ := hs
    split at hw
    · rename_i q hc
      simp only [Bool.and_eq_true] at hw
      obtain ⟨w1, w2, w3⟩ := hw
      obtain ⟨hin, -⟩ := cw_all _ q hc
      obtain ⟨ty0, hty0, hln, hno, hdf⟩ := dfs_ok _ q hc
      rw [List.length_append, List.length_singleton, szs_push] at hR
      have hsz : a_sz (.inl (a_hd aux, a_dfs.getD (a_hd aux) [])) = q.2.2 := hln
      rw [hsz] at hR
      refine va_new (c0 := c) (fs := (a_dfs.getD (a_hd aux) []).mapIdx (a_fv ad (fun _ => 0))) hx hb hts hin ty0 hty0 hown (hts _ (a_w_in w1 rfl)) (hts _ (a_w_in w2 rfl)) (hts _ (a_w_in w3 rfl)) hE.1 hP hD hS hA hc (hdf ad) (by omega) (by omega) hd (fun b H1 hP1 hD1 hS1 => ?_)
      have e1 : wso cA (va_up ad D.length b) (D ++ [.inl (a_hd aux, a_dfs.getD (a_hd aux) [])]) (mr M D.length (fun _ => 0)) = wso cA ad D M ++ [(b, .inr (a_hd aux, (a_dfs.getD (a_hd aux) []).mapIdx (a_fv ad (fun _ => 0))))] := by
        rw [wso_push (c := .inl (a_hd aux, a_dfs.getD (a_hd aux) [])) (M := M) hdk (fun a ha => absurd ha (hno a)) (fun i hi => mr_off (by omega)) hd3, mr_row]
        rfl
      have hlt9 : D.length < (D ++ [(.inl (a_hd aux, a_dfs.getD (a_hd aux) []) : ADc)]).length := by rw [List.length_append]; exact Nat.lt_succ_self _
      have q2 := hK ls H1 locs (va_up ad D.length b) ⟨by rw [e1]; exact hP1, by rw [e1]; exact hD1, hS1, dok_push hdk (fun a ha => absurd ha (hno a)), by rw [List.length_append, List.length_singleton]; omega, fun r hr => by rw [(agr_up hd3).2 _ (by omega) (by omega)]; exact had r hr, fun r hr => by rw [mr_off (by omega)]; exact hro r hr⟩ (hL.agr (agr_up hd3) hLv) (fun i v hv => vok_up (by rw [List.length_append]; omega) (hLv i v hv)) (List.forall_mem_cons.mpr ⟨Or.inl hlt9, fun v hv => vok_up (by rw [List.length_append]; omega) (hSv v hv)⟩) (agr_up hd3)
      rw [List.length_append, List.length_singleton, szs_push, hsz, show D.length + 1 - D.length = 1 by omega, show a_szs D + q.2.2 - a_szs D = q.2.2 by omega, hn, List.map_cons, map_agr (agr_up hd3) hSv] at q2
      have e3 : cv (va_up ad D.length b) (.ref D.length) = .ref b := by show Value.ref _ = _; unfold va_up; rw [if_pos rfl]
      rw [e3] at q2
      exact q2
    · cases hw
  · cases hs
theorem sh_newarray {v0 : ArrayType} (hx : p.tables.exec = Jvm.exec) (hb : c.code = bs) (hml : c.maxLocals = nL) (hown : s.vm.findClass own = some m.cls) (hts : ∀ w ∈ GW, w.before args s = true) (hnm : nm = "<init>" → meth.name = "<init>") (hA : ∀ q, s.heap.size ≤ q → A q) (hE : EV dC dI cA adr ro A s) (hR1 : 1 ≤ R.frames ∧ 64 ≤ R.locals) (hR : cells + (D'.length - D.length) ≤ R.cells ∧ slots + (a_szs D' - a_szs D) ≤ R.slots) (hd : decode bs pc = .ok (.newarray v0, len)) (hok : ok_i own nm tb j pc (.newarray v0) len aux wx = true) (hs : a_ex (.newarray v0) aux k j L st D M = some (.inl (k', j', L', st', D', M'))) (hW : WH dC dI cA adr ro A s.heap H locs D M ad) (hL : LH ad ls nL L) (hLv : LV D.length L) (hSv : ∀ v ∈ st, vok D.length v) (hK : KON p l e R s m args below meth c Q dC dI cA adr ro A tb nL cells slots D ad j' L' st' D' M') : W p l e R s m args below meth c H locs cells slots Q (F0 m pc ls (st.map (cv ad))) := by
  have hW0 := hW
  obtain ⟨hP, hD, hS, hdk, hd3, had, hro⟩ := hW
  simp only [ok_i, Bool.and_eq_true, beq_iff_eq, decide_eq_true_eq] at hok
  obtain ⟨rfl, hn, hle, hw⟩ := hok
  dsimp only [a_ex] at hs
  split at hs
  · rename_i n r
    have h2 := List.forall_mem_cons.mp hSv
    split at hs
    case isFalse => cases hs
    rename_i hlen
    split at hs
    case isFalse => cases hs
    rename_i hne
    subst hne
    simp only [a_nx, Option.some.injEq, Sum.inl.injEq, Prod.mk.injEq] at hs
    obtain ⟨rfl, rfl, rfl, rfl, rfl, rfl⟩ := hs
    rw [List.length_append, List.length_singleton, szs_push, show a_sz (.inr (.inl (a_hd aux, a_hd aux.tail))) = a_hd aux.tail from rfl] at hR
    split at hw
    · skip
      simp only [Bool.and_eq_true, beq_iff_eq] at hw
      obtain ⟨hk0, hw⟩ := hw
      rw [hk0] at hK
      refine va_newa (atype := .int) (a0 := (a_hd aux.tail, .inl (fun _ => 0))) hx hb (hts _ (a_w_in hw rfl)) (ty := .int) rfl hE.1 hP hD hS hA (fun _ => rfl) (nI_pos (by omega)) (nI_clamp (by omega)) (Nat.le_trans (Nat.mul_le_mul_right _ hle) (by decide)) (by omega) (by omega) hd (fun b cA' H1 hK1 hP1 hD1 hS1 => ?_)
      have hcA : cA' = cA.1 := by
        have z1 : s.vm.findClass ("[" ++ FieldType.int.toString) = some cA' := (hK1.2 3 _ rfl).2
        have z2 : s.vm.findClass ("[" ++ FieldType.int.toString) = some cA.1 := (hE.1.2 0 _ rfl).2
        exact Option.some.inj (z1.symm.trans z2)
      subst hcA
      have e1 : wso cA (va_up ad D.length b) (D ++ [.inr (.inl (0, a_hd aux.tail))]) (mr M D.length (fun _ => 0)) = wso cA ad D M ++ [(b, .inl (cA.1, a_hd aux.tail, .inl (fun _ => 0)))] := by
        rw [wso_push (c := .inr (.inl (0, a_hd aux.tail))) (M := M) hdk trivial (fun i hi => mr_off (by omega)) hd3, mr_row]
        rfl
      have hlt9 : D.length < (D ++ [(.inr (.inl (0, a_hd aux.tail)) : ADc)]).length := by rw [List.length_append]; exact Nat.lt_succ_self _
      have q2 := hK ls H1 locs (va_up ad D.length b) ⟨by rw [e1]; exact hP1, by rw [e1]; exact hD1, hS1, dok_push hdk trivial, by rw [List.length_append, List.length_singleton]; omega, fun r hr => by rw [(agr_up hd3).2 _ (by omega) (by omega)]; exact had r hr, fun r hr => by rw [mr_off (by omega)]; exact hro r hr⟩ (hL.agr (agr_up hd3) hLv) (fun i v hv => vok_up (by rw [List.length_append]; omega) (hLv i v hv)) (List.forall_mem_cons.mpr ⟨Or.inl hlt9, fun v hv => vok_up (by rw [List.length_append]; omega) (h2.2 v hv)⟩) (agr_up hd3)
      rw [List.length_append, List.length_singleton, szs_push, show a_sz (.inr (.inl (0, a_hd aux.tail))) = a_hd aux.tail from rfl, show D.length + 1 - D.length = 1 by omega, show a_szs D + a_hd aux.tail - a_szs D = a_hd aux.tail by omega, hn, List.map_cons, map_agr (agr_up hd3) h2.2] at q2
      have e3 : cv (va_up ad D.length b) (.ref D.length) = .ref b := by show Value.ref _ = _; unfold va_up; rw [if_pos rfl]
      rw [e3] at q2
      exact q2
    · skip
      simp only [Bool.and_eq_true, beq_iff_eq] at hw
      obtain ⟨hk0, hw⟩ := hw
      rw [hk0] at hK
      refine va_newa (atype := .boolean) (a0 := (a_hd aux.tail, .inl (fun _ => 0))) hx hb (hts _ (a_w_in hw rfl)) (ty := .boolean) rfl hE.1 hP hD hS hA (fun _ => rfl) (nI_pos (by omega)) (nI_clamp (by omega)) (Nat.le_trans (Nat.mul_le_mul_right _ hle) (by decide)) (by omega) (by omega) hd (fun b cA' H1 hK1 hP1 hD1 hS1 => ?_)
      have hcA : cA' = cA.2.1 := by
        have z1 : s.vm.findClass ("[" ++ FieldType.boolean.toString) = some cA' := (hK1.2 3 _ rfl).2
        have z2 : s.vm.findClass ("[" ++ FieldType.boolean.toString) = some cA.2.1 := (hE.1.2 1 _ rfl).2
        exact Option.some.inj (z1.symm.trans z2)
      subst hcA
      have e1 : wso cA (va_up ad D.length b) (D ++ [.inr (.inl (1, a_hd aux.tail))]) (mr M D.length (fun _ => 0)) = wso cA ad D M ++ [(b, .inl (cA.2.1, a_hd aux.tail, .inl (fun _ => 0)))] := by
        rw [wso_push (c := .inr (.inl (1, a_hd aux.tail))) (M := M) hdk trivial (fun i hi => mr_off (by omega)) hd3, mr_row]
        rfl
      have hlt9 : D.length < (D ++ [(.inr (.inl (1, a_hd aux.tail)) : ADc)]).length := by rw [List.length_append]; exact Nat.lt_succ_self _
      have q2 := hK ls H1 locs (va_up ad D.length b) ⟨by rw [e1]; exact hP1, by rw [e1]; exact hD1, hS1, dok_push hdk trivial, by rw [List.length_append, List.length_singleton]; omega, fun r hr => by rw [(agr_up hd3).2 _ (by omega) (by omega)]; exact had r hr, fun r hr => by rw [mr_off (by omega)]; exact hro r hr⟩ (hL.agr (agr_up hd3) hLv) (fun i v hv => vok_up (by rw [List.length_append]; omega) (hLv i v hv)) (List.forall_mem_cons.mpr ⟨Or.inl hlt9, fun v hv => vok_up (by rw [List.length_append]; omega) (h2.2 v hv)⟩) (agr_up hd3)
      rw [List.length_append, List.length_singleton, szs_push, show a_sz (.inr (.inl (1, a_hd aux.tail))) = a_hd aux.tail from rfl, show D.length + 1 - D.length = 1 by omega, show a_szs D + a_hd aux.tail - a_szs D = a_hd aux.tail by omega, hn, List.map_cons, map_agr (agr_up hd3) h2.2] at q2
      have e3 : cv (va_up ad D.length b) (.ref D.length) = .ref b := by show Value.ref _ = _; unfold va_up; rw [if_pos rfl]
      rw [e3] at q2
      exact q2
    · cases hw
  · cases hs
theorem sh_anewarray {v0 : Nat} (hx : p.tables.exec = Jvm.exec) (hb : c.code = bs) (hml : c.maxLocals = nL) (hown : s.vm.findClass own = some m.cls) (hts : ∀ w ∈ GW, w.before args s = true) (hnm : nm = "<init>" → meth.name = "<init>") (hA : ∀ q, s.heap.size ≤ q → A q) (hE : EV dC dI cA adr ro A s) (hR1 : 1 ≤ R.frames ∧ 64 ≤ R.locals) (hR : cells + (D'.length - D.length) ≤ R.cells ∧ slots + (a_szs D' - a_szs D) ≤ R.slots) (hd : decode bs pc = .ok (.anewarray v0, len)) (hok : ok_i own nm tb j pc (.anewarray v0) len aux wx = true) (hs : a_ex (.anewarray v0) aux k j L st D M = some (.inl (k', j', L', st', D', M'))) (hW : WH dC dI cA adr ro A s.heap H locs D M ad) (hL : LH ad ls nL L) (hLv : LV D.length L) (hSv : ∀ v ∈ st, vok D.length v) (hK : KON p l e R s m args below meth c Q dC dI cA adr ro A tb nL cells slots D ad j' L' st' D' M') : W p l e R s m args below meth c H locs cells slots Q (F0 m pc ls (st.map (cv ad))) := by
  have hW0 := hW
  obtain ⟨hP, hD, hS, hdk, hd3, had, hro⟩ := hW
  simp only [ok_i, Bool.and_eq_true, beq_iff_eq, decide_eq_true_eq] at hok
  obtain ⟨rfl, hn, hle, hw⟩ := hok
  dsimp only [a_ex] at hs
  split at hs
  · rename_i n r
    have h2 := List.forall_mem_cons.mp hSv
    split at hs
    case isFalse => cases hs
    rename_i hlen
    split at hs
    case isFalse => cases hs
    rename_i hne
    subst hne
    simp only [a_nx, Option.some.injEq, Sum.inl.injEq, Prod.mk.injEq] at hs
    obtain ⟨rfl, rfl, rfl, rfl, rfl, rfl⟩ := hs
    have hsz : a_sz (.inr (.inr (List.replicate (a_hd aux) none))) = a_hd aux := List.length_replicate
    rw [List.length_append, List.length_singleton, szs_push, hsz] at hR
    refine va_newq hx hb hown (hts _ (a_w_in hw rfl)) hE.2.2.1 hE.1 hP hD hS hA (nI_pos (by omega)) (nI_clamp (by omega)) (Nat.le_trans (Nat.mul_le_mul_right _ hle) (by decide)) (by omega) (by omega) hd (fun b cA' H1 hK1 hP1 hD1 hS1 => ?_)
    have hcA : cA' = cA.2.2 := by
      obtain ⟨k1, c1, -, -, -, z1⟩ := (hK1.2 3 _ rfl).2
      obtain ⟨k2, c2, -, -, -, z2⟩ := (hE.1.2 2 _ rfl).2
      exact Option.some.inj (z1.symm.trans z2)
    subst hcA
    have hno : cok D.length (.inr (.inr (List.replicate (a_hd aux) none))) := fun a ha => by have := List.eq_of_mem_replicate ha; cases this
    have e1 : wso cA (va_up ad D.length b) (D ++ [.inr (.inr (List.replicate (a_hd aux) none))]) M = wso cA ad D M ++ [(b, .inl (cA.2.2, a_hd aux, .inr (.inr (.inr (.inr (fun _ => none))))))] := by
      rw [wso_push (M := M) hdk hno (fun i hi => rfl) hd3]
      congr 2
      show (b, Sum.inl (cA.2.2, (List.replicate (a_hd aux) (none : Option Nat)).length, _)) = _
      rw [List.length_replicate]
      congr 8
      funext i
      rw [List.getD_eq_getElem?_getD, List.getElem?_replicate]
      split <;> rfl
    have hlt9 : D.length < (D ++ [(.inr (.inr (List.replicate (a_hd aux) none)) : ADc)]).length := by rw [List.length_append]; exact Nat.lt_succ_self _
    have q2 := hK ls H1 locs (va_up ad D.length b) ⟨by rw [e1]; exact hP1, by rw [e1]; exact hD1, hS1, dok_push hdk (cok_up (Nat.le_succ _) hno), by rw [List.length_append, List.length_singleton]; omega, fun r hr => by rw [(agr_up hd3).2 _ (by omega) (by omega)]; exact had r hr, hro⟩ (hL.agr (agr_up hd3) hLv) (fun i v hv => vok_up (by rw [List.length_append]; omega) (hLv i v hv)) (List.forall_mem_cons.mpr ⟨Or.inl hlt9, fun v hv => vok_up (by rw [List.length_append]; omega) (h2.2 v hv)⟩) (agr_up hd3)
    rw [List.length_append, List.length_singleton, szs_push, hsz, show D.length + 1 - D.length = 1 by omega, show a_szs D + a_hd aux - a_szs D = a_hd aux by omega, hn, List.map_cons, map_agr (agr_up hd3) h2.2] at q2
    have e3 : cv (va_up ad D.length b) (.ref D.length) = .ref b := by show Value.ref _ = _; unfold va_up; rw [if_pos rfl]
    rw [e3] at q2
    exact q2
  · cases hs
theorem a_call_no {k na : Nat} {x : ASt} : ¬ a_call k na st = some (.inl x) := by
  unfold a_call
  split
  · intro h; cases h
  · intro h; cases h
theorem a_callv_no {k na ci : Nat} {x : ASt} : ¬ a_callv D k na ci st = some (.inl x) := by
  unfold a_callv
  split
  · split
    · split
      · exact a_call_no
      · intro h; cases h
    · intro h; cases h
  · intro h; cases h
theorem a_calls_no {k na : Nat} {x : ASt} : ¬ a_calls k na st = some (.inl x) := by
  unfold a_calls
  split
  · split
    · exact a_call_no
    · intro h; cases h
  · intro h; cases h
theorem sh_invokespecial {v0 : Nat} (hx : p.tables.exec = Jvm.exec) (hb : c.code = bs) (hml : c.maxLocals = nL) (hown : s.vm.findClass own = some m.cls) (hts : ∀ w ∈ GW, w.before args s = true) (hnm : nm = "<init>" → meth.name = "<init>") (hA : ∀ q, s.heap.size ≤ q → A q) (hE : EV dC dI cA adr ro A s) (hR1 : 1 ≤ R.frames ∧ 64 ≤ R.locals) (hR : cells + (D'.length - D.length) ≤ R.cells ∧ slots + (a_szs D' - a_szs D) ≤ R.slots) (hd : decode bs pc = .ok (.invokespecial v0, len)) (hok : ok_i own nm tb j pc (.invokespecial v0) len aux wx = true) (hs : a_ex (.invokespecial v0) aux k j L st D M = some (.inl (k', j', L', st', D', M'))) (hW : WH dC dI cA adr ro A s.heap H locs D M ad) (hL : LH ad ls nL L) (hLv : LV D.length L) (hSv : ∀ v ∈ st, vok D.length v) (hK : KON p l e R s m args below meth c Q dC dI cA adr ro A tb nL cells slots D ad j' L' st' D' M') : W p l e R s m args below meth c H locs cells slots Q (F0 m pc ls (st.map (cv ad))) := by
  have hW0 := hW
  obtain ⟨hP, hD, hS, hdk, hd3, had, hro⟩ := hW
  simp only [ok_i, Bool.and_eq_true, beq_iff_eq] at hok
  obtain ⟨rfl, hn, hw⟩ := hok
  dsimp only [a_ex] at hs
  split at hs
  · exact absurd hs a_calls_no
  · rename_i hno
    split at hs
    · rename_i a r
      have h2 := List.forall_mem_cons.mp hSv
      split at hs
      case isFalse => cases hs
      rename_i hcat
      simp only [a_nx, Option.some.injEq, Sum.inl.injEq, Prod.mk.injEq] at hs
      obtain ⟨rfl, rfl, rfl, rfl, rfl, rfl⟩ := hs
      split at hw
      · exact absurd rfl (hno _ _)
      · simp only [Bool.and_eq_true] at hw
        obtain ⟨w1, w2, w3⟩ := hw
        refine W.objInit (a := ad a) (rest := r.map (cv ad)) hx hb hown (hts _ (a_w_in w1 rfl)) (hts _ (a_w_in w2 rfl)) (hts _ (a_w_in w3 rfl)) rfl (by rw [hml]; exact hL.1) rfl hd hR1.1 ?_ ?_
        · have : ((r.map (cv ad)).map fun v => v.category).sum = a_cat r := by
            unfold a_cat
            rw [List.map_map]
            congr 1
            exact List.map_congr_left fun v _ => cv_cat ad v
          show 2 * 0 + ((r.map (cv ad)).map fun v => v.category).sum + 12 ≤ R.locals
          rw [this]
          omega
        · refine W.eq (g2 := F0 m (pc + 3) ls (r.map (cv ad))) rfl ?_
          rw [← hn]
          exact hK.same rfl rfl hW0 hL hLv h2.2
      · cases hw
    · cases hs
theorem cat_map (ad : Nat → Nat) (r : List Value) : ((r.map (cv ad)).map fun v => v.category).sum = a_cat r := by
  unfold a_cat
  rw [List.map_map]
  congr 1
  exact List.map_congr_left fun v _ => cv_cat ad v
theorem sh_invokestatic {v0 : Nat} (hx : p.tables.exec = Jvm.exec) (hb : c.code = bs) (hml : c.maxLocals = nL) (hown : s.vm.findClass own = some m.cls) (hts : ∀ w ∈ GW, w.before args s = true) (hnm : nm = "<init>" → meth.name = "<init>") (hA : ∀ q, s.heap.size ≤ q → A q) (hE : EV dC dI cA adr ro A s) (hR1 : 1 ≤ R.frames ∧ 64 ≤ R.locals) (hR : cells + (D'.length - D.length) ≤ R.cells ∧ slots + (a_szs D' - a_szs D) ≤ R.slots) (hd : decode bs pc = .ok (.invokestatic v0, len)) (hok : ok_i own nm tb j pc (.invokestatic v0) len aux wx = true) (hs : a_ex (.invokestatic v0) aux k j L st D M = some (.inl (k', j', L', st', D', M'))) (hW : WH dC dI cA adr ro A s.heap H locs D M ad) (hL : LH ad ls nL L) (hLv : LV D.length L) (hSv : ∀ v ∈ st, vok D.length v) (hK : KON p l e R s m args below meth c Q dC dI cA adr ro A tb nL cells slots D ad j' L' st' D' M') : W p l e R s m args below meth c H locs cells slots Q (F0 m pc ls (st.map (cv ad))) := by
  have hW0 := hW
  obtain ⟨hP, hD, hS, hdk, hd3, had, hro⟩ := hW
  simp only [ok_i, Bool.and_eq_true, beq_iff_eq] at hok
  obtain ⟨rfl, hn, hw⟩ := hok
  dsimp only [a_ex] at hs
  split at hs
  · exact absurd hs a_call_no
  · rename_i t
    split at hs
    · rename_i y x r
      have h2 := (List.forall_mem_cons.mp (List.forall_mem_cons.mp hSv).2).2
      split at hs
      case isFalse => cases hs
      rename_i hcat
      simp only [a_nx, Option.some.injEq, Sum.inl.injEq, Prod.mk.injEq] at hs
      obtain ⟨rfl, rfl, rfl, rfl, rfl, rfl⟩ := hs
      have go : W p l e R s m args below meth c H locs cells slots Q (F0 m (pc + 3) ls (.int (a_mm t x y) :: r.map (cv ad))) := by
        rw [← hn]
        exact hK.same (st' := .int (a_mm t x y) :: r) rfl rfl hW0 hL hLv (List.forall_mem_cons.mpr ⟨trivial, h2⟩)
      split at hw
      · rename_i hz; cases hz
      · rename_i t2 w1 w2 w3 w4 hz
        obtain rfl : t = t2 := by injection hz with _ hz; injection hz with _ hz; injection hz
        split at hw
        · simp only [Bool.and_eq_true] at hw
          obtain ⟨w1, w2, w3, w4⟩ := hw
          exact va_mmax hx hb (by rw [hml]; exact hL.1.symm) hown (hts _ (a_w_in w1 rfl)) (hts _ (a_w_in w2 rfl)) (hts _ (a_w_in w3 rfl)) (hts _ (a_w_in w4 rfl)) hR1.1 (by rw [cat_map]; omega) (by omega) (by omega) hd go
        · rename_i hne
          simp only [Bool.and_eq_true] at hw
          obtain ⟨w1, w2, w3, w4⟩ := hw
          have e1 : a_mm t x y = if y < x then y else x := by
            unfold a_mm
            split
            · exact absurd rfl hne
            · rfl
          rw [e1] at go
          exact va_mmin hx hb (by rw [hml]; exact hL.1.symm) hown (hts _ (a_w_in w1 rfl)) (hts _ (a_w_in w2 rfl)) (hts _ (a_w_in w3 rfl)) (hts _ (a_w_in w4 rfl)) hR1.1 (by rw [cat_map]; omega) (by omega) (by omega) hd go
      · rename_i hz; cases hz
      · cases hw
    · cases hs
  · rename_i hno1 hno2
    split at hs
    · rename_i n dp b sp a
      split at hs
      · rename_i n0 n1 hDa hDb
        split at hs
        · cases hs
        · rename_i hin
          simp only [a_nx, Option.some.injEq, Sum.inl.injEq, Prod.mk.injEq] at hs
          obtain ⟨rfl, rfl, rfl, rfl, rfl, rfl⟩ := hs
          split at hw
          · exact absurd rfl (hno1 _ _)
          · exact absurd rfl (hno2 _ _ _)
          · simp only [Bool.and_eq_true] at hw
            obtain ⟨w1, w2, w3, w4⟩ := hw
            have i1 : ¬ n < 0 := fun z => hin (Or.inl z)
            have i2 : ¬ dp < 0 := fun z => hin (Or.inr (Or.inl z))
            have i3 : ¬ sp < 0 := fun z => hin (Or.inr (Or.inr (Or.inl z)))
            have i4 : ¬ n0 < sp.toNatClampNeg + n.toNatClampNeg := fun z => hin (Or.inr (Or.inr (Or.inr (Or.inl z))))
            have i5 : ¬ n1 < dp.toNatClampNeg + n.toNatClampNeg := fun z => hin (Or.inr (Or.inr (Or.inr (Or.inr z))))
            have hbl := (List.getElem?_eq_some_iff.mp hDb).1
            refine va_copyi (rest := []) (t0 := 0) (t1 := 0) (ty := .int) hx hb (by rw [hml]; exact hL.1.symm) hown (hts _ (a_w_in w1 rfl)) (hts _ (a_w_in w2 rfl)) (hts _ (a_w_in w3 rfl)) (hts _ (a_w_in w4 rfl)) hE.1 hP hD hS a b (wso_at hDa) (wso_at hDb) rfl rfl rfl i3 i2 i1 (by omega) (by omega) (fun _ _ => rfl) hR1.1 (Nat.le_trans (by decide) hR1.2) hd (fun H1 locs1 hP1 hD1 hS1 => ?_)
            have e1 : (wso cA ad D M).set b (ad b, ce cA ad (.inr (.inl (0, n1))) (mr M b (va_cpy (M a) (M b) sp.toNatClampNeg dp.toNatClampNeg n.toNatClampNeg) b)) = wso cA ad D (mr M b (va_cpy (M a) (M b) sp.toNatClampNeg dp.toNatClampNeg n.toNatClampNeg)) := wso_one hDb (set_self hDb).symm (fun i hi => mr_off hi)
            rw [mr_row] at e1
            have e2 : (wso cA ad D M).set b (ad b, .inl (if (0 : Nat) = 0 then cA.1 else cA.2.1, n1, .inl (va_cpy (M a) (M b) sp.toNatClampNeg dp.toNatClampNeg n.toNatClampNeg))) = wso cA ad D (mr M b (va_cpy (M a) (M b) sp.toNatClampNeg dp.toNatClampNeg n.toNatClampNeg)) := e1
            rw [← hn]
            exact hK.same (st' := []) rfl rfl ⟨by rw [← e2]; exact hP1, by rw [← e2]; exact hD1, hS1, hdk, hd3, had, fun r hr => by rw [mr_off (by omega)]; exact hro r hr⟩ hL hLv (fun v hv => absurd hv List.not_mem_nil)
          · cases hw
      · cases hs
    · cases hs
end SH
