-- SOUNDNESS, the instructions of a frame alone
theorem a_w_in {w : Nat} {c : Jvm.Cond} (h : a_w w c = true) (hg : goodWord c = true) : c ∈ GW := List.mem_filter.mpr ⟨List.mem_of_getElem? (of_decide_eq_true h), hg⟩
theorem a_w_tbl {w : Nat} {c : Jvm.Cond} (h : a_w w c = true) : c ∈ lw_tbl := List.mem_of_getElem? (of_decide_eq_true h)
section SP
variable {p : Program} {l : Launch} {e : Env} {R : Room} {s : State} {m : MethodId} {args : Array Value} {below : List Frame} {meth : Method} {c : Code} {H : Heap} {locs : List Loc} {cells slots : Nat} {Q : State → Prop} {bs : ByteArray} {own nm : String} {tb : List AEn} {ad : Nat → Nat} {ls : Array Slot} {nL n k j pc len k' j' : Nat} {aux wx : List Nat} {L L' : ALo} {st st' : List Value} {D D' : ADd} {M M' : AMm}
theorem sp_iconst {v0 : Int} (hx : p.tables.exec = Jvm.exec) (hb : c.code = bs) (hd : decode bs pc = .ok (.iconst v0, len)) (hok : ok_i own nm tb j pc (.iconst v0) len aux wx = true) (hs : a_ex (.iconst v0) aux k j L st D M = some (.inl (k', j', L', st', D', M'))) (hL : LH ad ls nL L) (hLv : LV n L) (hSv : ∀ v ∈ st, vok n v) (hK : k' = k → D' = D → M' = M → ∀ ls' : Array Slot, LH ad ls' nL L' → LV n L' → (∀ v ∈ st', vok n v) → W p l e R s m args below meth c H locs cells slots Q (F0 m (a_pc tb j') ls' (st'.map (cv ad)))) : W p l e R s m args below meth c H locs cells slots Q (F0 m pc ls (st.map (cv ad))) := by
  simp only [ok_i, Bool.and_eq_true, beq_iff_eq, decide_eq_true_eq] at hok
  obtain ⟨rfl, hn, hv⟩ := hok
  dsimp only [a_ex] at hs
  simp only [a_nx, Option.some.injEq, Sum.inl.injEq, Prod.mk.injEq] at hs
  obtain ⟨rfl, rfl, rfl, rfl, rfl, rfl⟩ := hs
  refine lv_iconst hx hb hd hv ?_
  rw [← hn]
  exact hK rfl rfl rfl ls hL hLv (List.forall_mem_cons.mpr ⟨trivial, hSv⟩)
theorem sp_bipush {v0 : Int} (hx : p.tables.exec = Jvm.exec) (hb : c.code = bs) (hd : decode bs pc = .ok (.bipush v0, len)) (hok : ok_i own nm tb j pc (.bipush v0) len aux wx = true) (hs : a_ex (.bipush v0) aux k j L st D M = some (.inl (k', j', L', st', D', M'))) (hL : LH ad ls nL L) (hLv : LV n L) (hSv : ∀ v ∈ st, vok n v) (hK : k' = k → D' = D → M' = M → ∀ ls' : Array Slot, LH ad ls' nL L' → LV n L' → (∀ v ∈ st', vok n v) → W p l e R s m args below meth c H locs cells slots Q (F0 m (a_pc tb j') ls' (st'.map (cv ad)))) : W p l e R s m args below meth c H locs cells slots Q (F0 m pc ls (st.map (cv ad))) := by
  simp only [ok_i, Bool.and_eq_true, beq_iff_eq, decide_eq_true_eq] at hok
  obtain ⟨rfl, hn, hv⟩ := hok
  dsimp only [a_ex] at hs
  simp only [a_nx, Option.some.injEq, Sum.inl.injEq, Prod.mk.injEq] at hs
  obtain ⟨rfl, rfl, rfl, rfl, rfl, rfl⟩ := hs
  refine lv_bipush hx hb hd hv ?_
  rw [← hn]
  exact hK rfl rfl rfl ls hL hLv (List.forall_mem_cons.mpr ⟨trivial, hSv⟩)
theorem sp_sipush {v0 : Int} (hx : p.tables.exec = Jvm.exec) (hb : c.code = bs) (hd : decode bs pc = .ok (.sipush v0, len)) (hok : ok_i own nm tb j pc (.sipush v0) len aux wx = true) (hs : a_ex (.sipush v0) aux k j L st D M = some (.inl (k', j', L', st', D', M'))) (hL : LH ad ls nL L) (hLv : LV n L) (hSv : ∀ v ∈ st, vok n v) (hK : k' = k → D' = D → M' = M → ∀ ls' : Array Slot, LH ad ls' nL L' → LV n L' → (∀ v ∈ st', vok n v) → W p l e R s m args below meth c H locs cells slots Q (F0 m (a_pc tb j') ls' (st'.map (cv ad)))) : W p l e R s m args below meth c H locs cells slots Q (F0 m pc ls (st.map (cv ad))) := by
  simp only [ok_i, Bool.and_eq_true, beq_iff_eq, decide_eq_true_eq] at hok
  obtain ⟨rfl, hn, hv⟩ := hok
  dsimp only [a_ex] at hs
  simp only [a_nx, Option.some.injEq, Sum.inl.injEq, Prod.mk.injEq] at hs
  obtain ⟨rfl, rfl, rfl, rfl, rfl, rfl⟩ := hs
  refine lv_sipush hx hb hd hv ?_
  rw [← hn]
  exact hK rfl rfl rfl ls hL hLv (List.forall_mem_cons.mpr ⟨trivial, hSv⟩)
theorem sp_ldc {v0 : Nat} (hx : p.tables.exec = Jvm.exec) (hb : c.code = bs) (hd : decode bs pc = .ok (.ldc v0, len)) (hok : ok_i own nm tb j pc (.ldc v0) len aux wx = true) (hown : s.vm.findClass own = some m.cls) (hts : ∀ w ∈ GW, w.before args s = true) (hs : a_ex (.ldc v0) aux k j L st D M = some (.inl (k', j', L', st', D', M'))) (hL : LH ad ls nL L) (hLv : LV n L) (hSv : ∀ v ∈ st, vok n v) (hK : k' = k → D' = D → M' = M → ∀ ls' : Array Slot, LH ad ls' nL L' → LV n L' → (∀ v ∈ st', vok n v) → W p l e R s m args below meth c H locs cells slots Q (F0 m (a_pc tb j') ls' (st'.map (cv ad)))) : W p l e R s m args below meth c H locs cells slots Q (F0 m pc ls (st.map (cv ad))) := by
  simp only [ok_i, Bool.and_eq_true, beq_iff_eq, decide_eq_true_eq] at hok
  obtain ⟨rfl, hn, hv⟩ := hok
  dsimp only [a_ex] at hs
  simp only [a_nx, Option.some.injEq, Sum.inl.injEq, Prod.mk.injEq] at hs
  obtain ⟨rfl, rfl, rfl, rfl, rfl, rfl⟩ := hs
  refine lv_ldc hx hb hown (hts _ (a_w_in hv rfl)) hd ?_
  rw [← hn]
  exact hK rfl rfl rfl ls hL hLv (List.forall_mem_cons.mpr ⟨trivial, hSv⟩)
theorem sp_ldc_w {v0 : Nat} (hx : p.tables.exec = Jvm.exec) (hb : c.code = bs) (hd : decode bs pc = .ok (.ldc_w v0, len)) (hok : ok_i own nm tb j pc (.ldc_w v0) len aux wx = true) (hown : s.vm.findClass own = some m.cls) (hts : ∀ w ∈ GW, w.before args s = true) (hs : a_ex (.ldc_w v0) aux k j L st D M = some (.inl (k', j', L', st', D', M'))) (hL : LH ad ls nL L) (hLv : LV n L) (hSv : ∀ v ∈ st, vok n v) (hK : k' = k → D' = D → M' = M → ∀ ls' : Array Slot, LH ad ls' nL L' → LV n L' → (∀ v ∈ st', vok n v) → W p l e R s m args below meth c H locs cells slots Q (F0 m (a_pc tb j') ls' (st'.map (cv ad)))) : W p l e R s m args below meth c H locs cells slots Q (F0 m pc ls (st.map (cv ad))) := by
  simp only [ok_i, Bool.and_eq_true, beq_iff_eq, decide_eq_true_eq] at hok
  obtain ⟨rfl, hn, hv⟩ := hok
  dsimp only [a_ex] at hs
  simp only [a_nx, Option.some.injEq, Sum.inl.injEq, Prod.mk.injEq] at hs
  obtain ⟨rfl, rfl, rfl, rfl, rfl, rfl⟩ := hs
  refine lv_ldcw hx hb hown (hts _ (a_w_in hv rfl)) hd ?_
  rw [← hn]
  exact hK rfl rfl rfl ls hL hLv (List.forall_mem_cons.mpr ⟨trivial, hSv⟩)
theorem sp_lconst {v0 : Fin 2} (hx : p.tables.exec = Jvm.exec) (hb : c.code = bs) (hd : decode bs pc = .ok (.lconst v0, len)) (hok : ok_i own nm tb j pc (.lconst v0) len aux wx = true) (hs : a_ex (.lconst v0) aux k j L st D M = some (.inl (k', j', L', st', D', M'))) (hL : LH ad ls nL L) (hLv : LV n L) (hSv : ∀ v ∈ st, vok n v) (hK : k' = k → D' = D → M' = M → ∀ ls' : Array Slot, LH ad ls' nL L' → LV n L' → (∀ v ∈ st', vok n v) → W p l e R s m args below meth c H locs cells slots Q (F0 m (a_pc tb j') ls' (st'.map (cv ad)))) : W p l e R s m args below meth c H locs cells slots Q (F0 m pc ls (st.map (cv ad))) := by
  simp only [ok_i, Bool.and_eq_true, beq_iff_eq, decide_eq_true_eq] at hok
  obtain ⟨rfl, hn, hv⟩ := hok
  dsimp only [a_ex] at hs
  simp only [a_nx, Option.some.injEq, Sum.inl.injEq, Prod.mk.injEq] at hs
  obtain ⟨rfl, rfl, rfl, rfl, rfl, rfl⟩ := hs
  refine lv_lconst hx hb hd (by rw [hv]) ?_
  rw [← hn]
  exact hK rfl rfl rfl ls hL hLv (List.forall_mem_cons.mpr ⟨trivial, hSv⟩)
theorem sp_ldc2_w {v0 : Nat} (hx : p.tables.exec = Jvm.exec) (hb : c.code = bs) (hd : decode bs pc = .ok (.ldc2_w v0, len)) (hok : ok_i own nm tb j pc (.ldc2_w v0) len aux wx = true) (hown : s.vm.findClass own = some m.cls) (hts : ∀ w ∈ GW, w.before args s = true) (hs : a_ex (.ldc2_w v0) aux k j L st D M = some (.inl (k', j', L', st', D', M'))) (hL : LH ad ls nL L) (hLv : LV n L) (hSv : ∀ v ∈ st, vok n v) (hK : k' = k → D' = D → M' = M → ∀ ls' : Array Slot, LH ad ls' nL L' → LV n L' → (∀ v ∈ st', vok n v) → W p l e R s m args below meth c H locs cells slots Q (F0 m (a_pc tb j') ls' (st'.map (cv ad)))) : W p l e R s m args below meth c H locs cells slots Q (F0 m pc ls (st.map (cv ad))) := by
  simp only [ok_i, Bool.and_eq_true, beq_iff_eq, decide_eq_true_eq] at hok
  obtain ⟨rfl, hn, hv⟩ := hok
  dsimp only [a_ex] at hs
  simp only [a_nx, Option.some.injEq, Sum.inl.injEq, Prod.mk.injEq] at hs
  obtain ⟨rfl, rfl, rfl, rfl, rfl, rfl⟩ := hs
  refine lv_ldc2 hx hb hown (hts _ (a_w_in hv rfl)) hd ?_
  rw [← hn]
  exact hK rfl rfl rfl ls hL hLv (List.forall_mem_cons.mpr ⟨trivial, hSv⟩)
theorem sp_iload {v0 : Nat} (hx : p.tables.exec = Jvm.exec) (hb : c.code = bs) (hd : decode bs pc = .ok (.iload v0, len)) (hok : ok_i own nm tb j pc (.iload v0) len aux wx = true) (hs : a_ex (.iload v0) aux k j L st D M = some (.inl (k', j', L', st', D', M'))) (hL : LH ad ls nL L) (hLv : LV n L) (hSv : ∀ v ∈ st, vok n v) (hK : k' = k → D' = D → M' = M → ∀ ls' : Array Slot, LH ad ls' nL L' → LV n L' → (∀ v ∈ st', vok n v) → W p l e R s m args below meth c H locs cells slots Q (F0 m (a_pc tb j') ls' (st'.map (cv ad)))) : W p l e R s m args below meth c H locs cells slots Q (F0 m pc ls (st.map (cv ad))) := by
  simp only [ok_i, Bool.and_eq_true, beq_iff_eq, decide_eq_true_eq] at hok
  obtain ⟨rfl, hn, hv⟩ := hok
  dsimp only [a_ex] at hs
  split at hs
  · rename_i x hl
    simp only [a_nx, Option.some.injEq, Sum.inl.injEq, Prod.mk.injEq] at hs
    obtain ⟨rfl, rfl, rfl, rfl, rfl, rfl⟩ := hs
    have hl2 := a_ld_at hl
    refine lv_iload hx hb hd (by rw [hv]; exact hL.2.2.1 _ _ hl2) ?_
    rw [← hn]
    exact hK rfl rfl rfl ls hL hLv (List.forall_mem_cons.mpr ⟨hLv _ _ hl2, hSv⟩)
  · cases hs
theorem sp_iload_n {v0 : Fin 4} (hx : p.tables.exec = Jvm.exec) (hb : c.code = bs) (hd : decode bs pc = .ok (.iload_n v0, len)) (hok : ok_i own nm tb j pc (.iload_n v0) len aux wx = true) (hs : a_ex (.iload_n v0) aux k j L st D M = some (.inl (k', j', L', st', D', M'))) (hL : LH ad ls nL L) (hLv : LV n L) (hSv : ∀ v ∈ st, vok n v) (hK : k' = k → D' = D → M' = M → ∀ ls' : Array Slot, LH ad ls' nL L' → LV n L' → (∀ v ∈ st', vok n v) → W p l e R s m args below meth c H locs cells slots Q (F0 m (a_pc tb j') ls' (st'.map (cv ad)))) : W p l e R s m args below meth c H locs cells slots Q (F0 m pc ls (st.map (cv ad))) := by
  simp only [ok_i, Bool.and_eq_true, beq_iff_eq, decide_eq_true_eq] at hok
  obtain ⟨rfl, hn, hv⟩ := hok
  dsimp only [a_ex] at hs
  split at hs
  · rename_i x hl
    simp only [a_nx, Option.some.injEq, Sum.inl.injEq, Prod.mk.injEq] at hs
    obtain ⟨rfl, rfl, rfl, rfl, rfl, rfl⟩ := hs
    have hl2 := a_ld_at hl
    refine lv_iload_n hx hb hd hv (hL.2.2.1 _ _ hl2) ?_
    rw [← hn]
    exact hK rfl rfl rfl ls hL hLv (List.forall_mem_cons.mpr ⟨hLv _ _ hl2, hSv⟩)
  · cases hs
theorem sp_aload_n {v0 : Fin 4} (hx : p.tables.exec = Jvm.exec) (hb : c.code = bs) (hd : decode bs pc = .ok (.aload_n v0, len)) (hok : ok_i own nm tb j pc (.aload_n v0) len aux wx = true) (hs : a_ex (.aload_n v0) aux k j L st D M = some (.inl (k', j', L', st', D', M'))) (hL : LH ad ls nL L) (hLv : LV n L) (hSv : ∀ v ∈ st, vok n v) (hK : k' = k → D' = D → M' = M → ∀ ls' : Array Slot, LH ad ls' nL L' → LV n L' → (∀ v ∈ st', vok n v) → W p l e R s m args below meth c H locs cells slots Q (F0 m (a_pc tb j') ls' (st'.map (cv ad)))) : W p l e R s m args below meth c H locs cells slots Q (F0 m pc ls (st.map (cv ad))) := by
  simp only [ok_i, Bool.and_eq_true, beq_iff_eq, decide_eq_true_eq] at hok
  obtain ⟨rfl, hn, hv⟩ := hok
  dsimp only [a_ex] at hs
  split at hs
  · rename_i x hl
    simp only [a_nx, Option.some.injEq, Sum.inl.injEq, Prod.mk.injEq] at hs
    obtain ⟨rfl, rfl, rfl, rfl, rfl, rfl⟩ := hs
    have hl2 := a_ld_at hl
    refine lv_aload_n hx hb hd hv (hL.2.2.1 _ _ hl2) ?_
    rw [← hn]
    exact hK rfl rfl rfl ls hL hLv (List.forall_mem_cons.mpr ⟨hLv _ _ hl2, hSv⟩)
  · cases hs
theorem sp_lload {v0 : Nat} (hx : p.tables.exec = Jvm.exec) (hb : c.code = bs) (hd : decode bs pc = .ok (.lload v0, len)) (hok : ok_i own nm tb j pc (.lload v0) len aux wx = true) (hs : a_ex (.lload v0) aux k j L st D M = some (.inl (k', j', L', st', D', M'))) (hL : LH ad ls nL L) (hLv : LV n L) (hSv : ∀ v ∈ st, vok n v) (hK : k' = k → D' = D → M' = M → ∀ ls' : Array Slot, LH ad ls' nL L' → LV n L' → (∀ v ∈ st', vok n v) → W p l e R s m args below meth c H locs cells slots Q (F0 m (a_pc tb j') ls' (st'.map (cv ad)))) : W p l e R s m args below meth c H locs cells slots Q (F0 m pc ls (st.map (cv ad))) := by
  simp only [ok_i, Bool.and_eq_true, beq_iff_eq, decide_eq_true_eq] at hok
  obtain ⟨rfl, hn, hv⟩ := hok
  dsimp only [a_ex] at hs
  split at hs
  · rename_i x hl
    simp only [a_nx, Option.some.injEq, Sum.inl.injEq, Prod.mk.injEq] at hs
    obtain ⟨rfl, rfl, rfl, rfl, rfl, rfl⟩ := hs
    have hl2 := a_ld_at hl
    refine lv_lload hx hb hd (by rw [hv]; exact hL.2.2.1 _ _ hl2) ?_
    rw [← hn]
    exact hK rfl rfl rfl ls hL hLv (List.forall_mem_cons.mpr ⟨hLv _ _ hl2, hSv⟩)
  · cases hs
theorem sp_lload_n {v0 : Fin 4} (hx : p.tables.exec = Jvm.exec) (hb : c.code = bs) (hd : decode bs pc = .ok (.lload_n v0, len)) (hok : ok_i own nm tb j pc (.lload_n v0) len aux wx = true) (hs : a_ex (.lload_n v0) aux k j L st D M = some (.inl (k', j', L', st', D', M'))) (hL : LH ad ls nL L) (hLv : LV n L) (hSv : ∀ v ∈ st, vok n v) (hK : k' = k → D' = D → M' = M → ∀ ls' : Array Slot, LH ad ls' nL L' → LV n L' → (∀ v ∈ st', vok n v) → W p l e R s m args below meth c H locs cells slots Q (F0 m (a_pc tb j') ls' (st'.map (cv ad)))) : W p l e R s m args below meth c H locs cells slots Q (F0 m pc ls (st.map (cv ad))) := by
  simp only [ok_i, Bool.and_eq_true, beq_iff_eq, decide_eq_true_eq] at hok
  obtain ⟨rfl, hn, hv⟩ := hok
  dsimp only [a_ex] at hs
  split at hs
  · rename_i x hl
    simp only [a_nx, Option.some.injEq, Sum.inl.injEq, Prod.mk.injEq] at hs
    obtain ⟨rfl, rfl, rfl, rfl, rfl, rfl⟩ := hs
    have hl2 := a_ld_at hl
    refine lv_lload_n hx hb hd hv (hL.2.2.1 _ _ hl2) ?_
    rw [← hn]
    exact hK rfl rfl rfl ls hL hLv (List.forall_mem_cons.mpr ⟨hLv _ _ hl2, hSv⟩)
  · cases hs
theorem sp_istore {v0 : Nat} (hx : p.tables.exec = Jvm.exec) (hb : c.code = bs) (hd : decode bs pc = .ok (.istore v0, len)) (hok : ok_i own nm tb j pc (.istore v0) len aux wx = true) (hs : a_ex (.istore v0) aux k j L st D M = some (.inl (k', j', L', st', D', M'))) (hL : LH ad ls nL L) (hLv : LV n L) (hSv : ∀ v ∈ st, vok n v) (hK : k' = k → D' = D → M' = M → ∀ ls' : Array Slot, LH ad ls' nL L' → LV n L' → (∀ v ∈ st', vok n v) → W p l e R s m args below meth c H locs cells slots Q (F0 m (a_pc tb j') ls' (st'.map (cv ad)))) : W p l e R s m args below meth c H locs cells slots Q (F0 m pc ls (st.map (cv ad))) := by
  simp only [ok_i, Bool.and_eq_true, beq_iff_eq, decide_eq_true_eq] at hok
  obtain ⟨rfl, hn, hv⟩ := hok
  dsimp only [a_ex, a_sto] at hs
  split at hs
  · rename_i x r
    split at hs
    · rename_i L2 hl
      simp only [a_nx, Option.some.injEq, Sum.inl.injEq, Prod.mk.injEq] at hs
      obtain ⟨rfl, rfl, rfl, rfl, rfl, rfl⟩ := hs
      have hSv2 := List.forall_mem_cons.mp hSv
      have hi := (a_st_set hl).2.1
      subst hv
      refine lv_istore hx hb hd hL.has (by rw [← hL.2.2.2]; exact hi) rfl (fun ls' hl' => ?_)
      rw [← hn]
      exact hK rfl rfl rfl ls' (LH.set hL.2.2.2 hl hl') (hLv.set hSv2.1 hl) hSv2.2
    · cases hs
  · cases hs
theorem sp_istore_n {v0 : Fin 4} (hx : p.tables.exec = Jvm.exec) (hb : c.code = bs) (hd : decode bs pc = .ok (.istore_n v0, len)) (hok : ok_i own nm tb j pc (.istore_n v0) len aux wx = true) (hs : a_ex (.istore_n v0) aux k j L st D M = some (.inl (k', j', L', st', D', M'))) (hL : LH ad ls nL L) (hLv : LV n L) (hSv : ∀ v ∈ st, vok n v) (hK : k' = k → D' = D → M' = M → ∀ ls' : Array Slot, LH ad ls' nL L' → LV n L' → (∀ v ∈ st', vok n v) → W p l e R s m args below meth c H locs cells slots Q (F0 m (a_pc tb j') ls' (st'.map (cv ad)))) : W p l e R s m args below meth c H locs cells slots Q (F0 m pc ls (st.map (cv ad))) := by
  simp only [ok_i, Bool.and_eq_true, beq_iff_eq, decide_eq_true_eq] at hok
  obtain ⟨rfl, hn, hv⟩ := hok
  dsimp only [a_ex, a_sto] at hs
  split at hs
  · rename_i x r
    split at hs
    · rename_i L2 hl
      simp only [a_nx, Option.some.injEq, Sum.inl.injEq, Prod.mk.injEq] at hs
      obtain ⟨rfl, rfl, rfl, rfl, rfl, rfl⟩ := hs
      have hSv2 := List.forall_mem_cons.mp hSv
      have hi := (a_st_set hl).2.1
      refine lv_istore_n hx hb hd hv hL.has (by rw [← hL.2.2.2]; exact hi) rfl (fun ls' hl' => ?_)
      rw [← hn]
      exact hK rfl rfl rfl ls' (LH.set hL.2.2.2 hl hl') (hLv.set hSv2.1 hl) hSv2.2
    · cases hs
  · cases hs
theorem sp_astore_n {v0 : Fin 4} (hx : p.tables.exec = Jvm.exec) (hb : c.code = bs) (hd : decode bs pc = .ok (.astore_n v0, len)) (hok : ok_i own nm tb j pc (.astore_n v0) len aux wx = true) (hs : a_ex (.astore_n v0) aux k j L st D M = some (.inl (k', j', L', st', D', M'))) (hL : LH ad ls nL L) (hLv : LV n L) (hSv : ∀ v ∈ st, vok n v) (hK : k' = k → D' = D → M' = M → ∀ ls' : Array Slot, LH ad ls' nL L' → LV n L' → (∀ v ∈ st', vok n v) → W p l e R s m args below meth c H locs cells slots Q (F0 m (a_pc tb j') ls' (st'.map (cv ad)))) : W p l e R s m args below meth c H locs cells slots Q (F0 m pc ls (st.map (cv ad))) := by
  simp only [ok_i, Bool.and_eq_true, beq_iff_eq, decide_eq_true_eq] at hok
  obtain ⟨rfl, hn, hv⟩ := hok
  dsimp only [a_ex, a_sto] at hs
  split at hs
  · rename_i x r
    split at hs
    · rename_i L2 hl
      simp only [a_nx, Option.some.injEq, Sum.inl.injEq, Prod.mk.injEq] at hs
      obtain ⟨rfl, rfl, rfl, rfl, rfl, rfl⟩ := hs
      have hSv2 := List.forall_mem_cons.mp hSv
      have hi := (a_st_set hl).2.1
      refine lv_astore_n hx hb hd hv hL.has (by rw [← hL.2.2.2]; exact hi) rfl (fun ls' hl' => ?_)
      rw [← hn]
      exact hK rfl rfl rfl ls' (LH.set hL.2.2.2 hl hl') (hLv.set hSv2.1 hl) hSv2.2
    · cases hs
  · cases hs
theorem sp_iinc {v0 : Nat} {v1 : Int} (hx : p.tables.exec = Jvm.exec) (hb : c.code = bs) (hd : decode bs pc = .ok (.iinc v0 v1, len)) (hok : ok_i own nm tb j pc (.iinc v0 v1) len aux wx = true) (hs : a_ex (.iinc v0 v1) aux k j L st D M = some (.inl (k', j', L', st', D', M'))) (hL : LH ad ls nL L) (hLv : LV n L) (hSv : ∀ v ∈ st, vok n v) (hK : k' = k → D' = D → M' = M → ∀ ls' : Array Slot, LH ad ls' nL L' → LV n L' → (∀ v ∈ st', vok n v) → W p l e R s m args below meth c H locs cells slots Q (F0 m (a_pc tb j') ls' (st'.map (cv ad)))) : W p l e R s m args below meth c H locs cells slots Q (F0 m pc ls (st.map (cv ad))) := by
  simp only [ok_i, Bool.and_eq_true, beq_iff_eq, decide_eq_true_eq] at hok
  obtain ⟨rfl, hn, rfl, hv⟩ := hok
  dsimp only [a_ex, a_sto] at hs
  split at hs
  · rename_i x hx1
    split at hs
    · rename_i L2 hl
      simp only [a_nx, Option.some.injEq, Sum.inl.injEq, Prod.mk.injEq] at hs
      obtain ⟨rfl, rfl, rfl, rfl, rfl, rfl⟩ := hs
      have hi := (a_st_set hl).2.1
      obtain ⟨q, hq⟩ := List.getElem?_of_mem (asc_mem.mpr ⟨_, a_ld_at hx1, rfl⟩ : (a_hd aux, cv ad (.int x)) ∈ asc ad L)
      refine lv_iinc hx hb hd hL.has hq (by rw [hv]) (by rw [← hL.2.2.2]; exact hi) rfl (fun ls' hl' => ?_)
      rw [← hn]
      exact hK rfl rfl rfl ls' (LH.set hL.2.2.2 hl hl') (hLv.set (v := .int _) trivial hl) hSv
    · cases hs
  · cases hs
theorem sp_iadd (hx : p.tables.exec = Jvm.exec) (hb : c.code = bs) (hd : decode bs pc = .ok (.iadd, len)) (hok : ok_i own nm tb j pc (.iadd) len aux wx = true) (hs : a_ex (.iadd) aux k j L st D M = some (.inl (k', j', L', st', D', M'))) (hL : LH ad ls nL L) (hLv : LV n L) (hSv : ∀ v ∈ st, vok n v) (hK : k' = k → D' = D → M' = M → ∀ ls' : Array Slot, LH ad ls' nL L' → LV n L' → (∀ v ∈ st', vok n v) → W p l e R s m args below meth c H locs cells slots Q (F0 m (a_pc tb j') ls' (st'.map (cv ad)))) : W p l e R s m args below meth c H locs cells slots Q (F0 m pc ls (st.map (cv ad))) := by
  simp only [ok_i, Bool.and_eq_true, beq_iff_eq, decide_eq_true_eq] at hok
  obtain ⟨rfl, hn⟩ := hok
  dsimp only [a_ex, a_b2] at hs
  split at hs
  · rename_i y x r
    simp only [a_nx, Option.some.injEq, Sum.inl.injEq, Prod.mk.injEq] at hs
    obtain ⟨rfl, rfl, rfl, rfl, rfl, rfl⟩ := hs
    have hSv2 := (List.forall_mem_cons.mp (List.forall_mem_cons.mp hSv).2).2
    refine lv_iadd hx hb hd ?_
    rw [← hn]
    exact hK rfl rfl rfl ls hL hLv (List.forall_mem_cons.mpr ⟨trivial, hSv2⟩)
  · cases hs
theorem sp_isub (hx : p.tables.exec = Jvm.exec) (hb : c.code = bs) (hd : decode bs pc = .ok (.isub, len)) (hok : ok_i own nm tb j pc (.isub) len aux wx = true) (hs : a_ex (.isub) aux k j L st D M = some (.inl (k', j', L', st', D', M'))) (hL : LH ad ls nL L) (hLv : LV n L) (hSv : ∀ v ∈ st, vok n v) (hK : k' = k → D' = D → M' = M → ∀ ls' : Array Slot, LH ad ls' nL L' → LV n L' → (∀ v ∈ st', vok n v) → W p l e R s m args below meth c H locs cells slots Q (F0 m (a_pc tb j') ls' (st'.map (cv ad)))) : W p l e R s m args below meth c H locs cells slots Q (F0 m pc ls (st.map (cv ad))) := by
  simp only [ok_i, Bool.and_eq_true, beq_iff_eq, decide_eq_true_eq] at hok
  obtain ⟨rfl, hn⟩ := hok
  dsimp only [a_ex, a_b2] at hs
  split at hs
  · rename_i y x r
    simp only [a_nx, Option.some.injEq, Sum.inl.injEq, Prod.mk.injEq] at hs
    obtain ⟨rfl, rfl, rfl, rfl, rfl, rfl⟩ := hs
    have hSv2 := (List.forall_mem_cons.mp (List.forall_mem_cons.mp hSv).2).2
    refine lv_isub hx hb hd ?_
    rw [← hn]
    exact hK rfl rfl rfl ls hL hLv (List.forall_mem_cons.mpr ⟨trivial, hSv2⟩)
  · cases hs
theorem sp_imul (hx : p.tables.exec = Jvm.exec) (hb : c.code = bs) (hd : decode bs pc = .ok (.imul, len)) (hok : ok_i own nm tb j pc (.imul) len aux wx = true) (hs : a_ex (.imul) aux k j L st D M = some (.inl (k', j', L', st', D', M'))) (hL : LH ad ls nL L) (hLv : LV n L) (hSv : ∀ v ∈ st, vok n v) (hK : k' = k → D' = D → M' = M → ∀ ls' : Array Slot, LH ad ls' nL L' → LV n L' → (∀ v ∈ st', vok n v) → W p l e R s m args below meth c H locs cells slots Q (F0 m (a_pc tb j') ls' (st'.map (cv ad)))) : W p l e R s m args below meth c H locs cells slots Q (F0 m pc ls (st.map (cv ad))) := by
  simp only [ok_i, Bool.and_eq_true, beq_iff_eq, decide_eq_true_eq] at hok
  obtain ⟨rfl, hn⟩ := hok
  dsimp only [a_ex, a_b2] at hs
  split at hs
  · rename_i y x r
    simp only [a_nx, Option.some.injEq, Sum.inl.injEq, Prod.mk.injEq] at hs
    obtain ⟨rfl, rfl, rfl, rfl, rfl, rfl⟩ := hs
    have hSv2 := (List.forall_mem_cons.mp (List.forall_mem_cons.mp hSv).2).2
    refine lv_imul hx hb hd ?_
    rw [← hn]
    exact hK rfl rfl rfl ls hL hLv (List.forall_mem_cons.mpr ⟨trivial, hSv2⟩)
  · cases hs
theorem sp_iand (hx : p.tables.exec = Jvm.exec) (hb : c.code = bs) (hd : decode bs pc = .ok (.iand, len)) (hok : ok_i own nm tb j pc (.iand) len aux wx = true) (hs : a_ex (.iand) aux k j L st D M = some (.inl (k', j', L', st', D', M'))) (hL : LH ad ls nL L) (hLv : LV n L) (hSv : ∀ v ∈ st, vok n v) (hK : k' = k → D' = D → M' = M → ∀ ls' : Array Slot, LH ad ls' nL L' → LV n L' → (∀ v ∈ st', vok n v) → W p l e R s m args below meth c H locs cells slots Q (F0 m (a_pc tb j') ls' (st'.map (cv ad)))) : W p l e R s m args below meth c H locs cells slots Q (F0 m pc ls (st.map (cv ad))) := by
  simp only [ok_i, Bool.and_eq_true, beq_iff_eq, decide_eq_true_eq] at hok
  obtain ⟨rfl, hn⟩ := hok
  dsimp only [a_ex, a_b2] at hs
  split at hs
  · rename_i y x r
    simp only [a_nx, Option.some.injEq, Sum.inl.injEq, Prod.mk.injEq] at hs
    obtain ⟨rfl, rfl, rfl, rfl, rfl, rfl⟩ := hs
    have hSv2 := (List.forall_mem_cons.mp (List.forall_mem_cons.mp hSv).2).2
    refine lv_iand hx hb hd ?_
    rw [← hn]
    exact hK rfl rfl rfl ls hL hLv (List.forall_mem_cons.mpr ⟨trivial, hSv2⟩)
  · cases hs
theorem sp_ior (hx : p.tables.exec = Jvm.exec) (hb : c.code = bs) (hd : decode bs pc = .ok (.ior, len)) (hok : ok_i own nm tb j pc (.ior) len aux wx = true) (hs : a_ex (.ior) aux k j L st D M = some (.inl (k', j', L', st', D', M'))) (hL : LH ad ls nL L) (hLv : LV n L) (hSv : ∀ v ∈ st, vok n v) (hK : k' = k → D' = D → M' = M → ∀ ls' : Array Slot, LH ad ls' nL L' → LV n L' → (∀ v ∈ st', vok n v) → W p l e R s m args below meth c H locs cells slots Q (F0 m (a_pc tb j') ls' (st'.map (cv ad)))) : W p l e R s m args below meth c H locs cells slots Q (F0 m pc ls (st.map (cv ad))) := by
  simp only [ok_i, Bool.and_eq_true, beq_iff_eq, decide_eq_true_eq] at hok
  obtain ⟨rfl, hn⟩ := hok
  dsimp only [a_ex, a_b2] at hs
  split at hs
  · rename_i y x r
    simp only [a_nx, Option.some.injEq, Sum.inl.injEq, Prod.mk.injEq] at hs
    obtain ⟨rfl, rfl, rfl, rfl, rfl, rfl⟩ := hs
    have hSv2 := (List.forall_mem_cons.mp (List.forall_mem_cons.mp hSv).2).2
    refine lv_ior hx hb hd ?_
    rw [← hn]
    exact hK rfl rfl rfl ls hL hLv (List.forall_mem_cons.mpr ⟨trivial, hSv2⟩)
  · cases hs
theorem sp_ixor (hx : p.tables.exec = Jvm.exec) (hb : c.code = bs) (hd : decode bs pc = .ok (.ixor, len)) (hok : ok_i own nm tb j pc (.ixor) len aux wx = true) (hs : a_ex (.ixor) aux k j L st D M = some (.inl (k', j', L', st', D', M'))) (hL : LH ad ls nL L) (hLv : LV n L) (hSv : ∀ v ∈ st, vok n v) (hK : k' = k → D' = D → M' = M → ∀ ls' : Array Slot, LH ad ls' nL L' → LV n L' → (∀ v ∈ st', vok n v) → W p l e R s m args below meth c H locs cells slots Q (F0 m (a_pc tb j') ls' (st'.map (cv ad)))) : W p l e R s m args below meth c H locs cells slots Q (F0 m pc ls (st.map (cv ad))) := by
  simp only [ok_i, Bool.and_eq_true, beq_iff_eq, decide_eq_true_eq] at hok
  obtain ⟨rfl, hn⟩ := hok
  dsimp only [a_ex, a_b2] at hs
  split at hs
  · rename_i y x r
    simp only [a_nx, Option.some.injEq, Sum.inl.injEq, Prod.mk.injEq] at hs
    obtain ⟨rfl, rfl, rfl, rfl, rfl, rfl⟩ := hs
    have hSv2 := (List.forall_mem_cons.mp (List.forall_mem_cons.mp hSv).2).2
    refine lv_ixor hx hb hd ?_
    rw [← hn]
    exact hK rfl rfl rfl ls hL hLv (List.forall_mem_cons.mpr ⟨trivial, hSv2⟩)
  · cases hs
theorem sp_ishl (hx : p.tables.exec = Jvm.exec) (hb : c.code = bs) (hd : decode bs pc = .ok (.ishl, len)) (hok : ok_i own nm tb j pc (.ishl) len aux wx = true) (hs : a_ex (.ishl) aux k j L st D M = some (.inl (k', j', L', st', D', M'))) (hL : LH ad ls nL L) (hLv : LV n L) (hSv : ∀ v ∈ st, vok n v) (hK : k' = k → D' = D → M' = M → ∀ ls' : Array Slot, LH ad ls' nL L' → LV n L' → (∀ v ∈ st', vok n v) → W p l e R s m args below meth c H locs cells slots Q (F0 m (a_pc tb j') ls' (st'.map (cv ad)))) : W p l e R s m args below meth c H locs cells slots Q (F0 m pc ls (st.map (cv ad))) := by
  simp only [ok_i, Bool.and_eq_true, beq_iff_eq, decide_eq_true_eq] at hok
  obtain ⟨rfl, hn⟩ := hok
  dsimp only [a_ex, a_b2] at hs
  split at hs
  · rename_i y x r
    simp only [a_nx, Option.some.injEq, Sum.inl.injEq, Prod.mk.injEq] at hs
    obtain ⟨rfl, rfl, rfl, rfl, rfl, rfl⟩ := hs
    have hSv2 := (List.forall_mem_cons.mp (List.forall_mem_cons.mp hSv).2).2
    refine lv_ishl hx hb hd ?_
    rw [← hn]
    exact hK rfl rfl rfl ls hL hLv (List.forall_mem_cons.mpr ⟨trivial, hSv2⟩)
  · cases hs
theorem sp_ishr (hx : p.tables.exec = Jvm.exec) (hb : c.code = bs) (hd : decode bs pc = .ok (.ishr, len)) (hok : ok_i own nm tb j pc (.ishr) len aux wx = true) (hs : a_ex (.ishr) aux k j L st D M = some (.inl (k', j', L', st', D', M'))) (hL : LH ad ls nL L) (hLv : LV n L) (hSv : ∀ v ∈ st, vok n v) (hK : k' = k → D' = D → M' = M → ∀ ls' : Array Slot, LH ad ls' nL L' → LV n L' → (∀ v ∈ st', vok n v) → W p l e R s m args below meth c H locs cells slots Q (F0 m (a_pc tb j') ls' (st'.map (cv ad)))) : W p l e R s m args below meth c H locs cells slots Q (F0 m pc ls (st.map (cv ad))) := by
  simp only [ok_i, Bool.and_eq_true, beq_iff_eq, decide_eq_true_eq] at hok
  obtain ⟨rfl, hn⟩ := hok
  dsimp only [a_ex, a_b2] at hs
  split at hs
  · rename_i y x r
    simp only [a_nx, Option.some.injEq, Sum.inl.injEq, Prod.mk.injEq] at hs
    obtain ⟨rfl, rfl, rfl, rfl, rfl, rfl⟩ := hs
    have hSv2 := (List.forall_mem_cons.mp (List.forall_mem_cons.mp hSv).2).2
    refine lv_ishr hx hb hd ?_
    rw [← hn]
    exact hK rfl rfl rfl ls hL hLv (List.forall_mem_cons.mpr ⟨trivial, hSv2⟩)
  · cases hs
theorem sp_iushr (hx : p.tables.exec = Jvm.exec) (hb : c.code = bs) (hd : decode bs pc = .ok (.iushr, len)) (hok : ok_i own nm tb j pc (.iushr) len aux wx = true) (hs : a_ex (.iushr) aux k j L st D M = some (.inl (k', j', L', st', D', M'))) (hL : LH ad ls nL L) (hLv : LV n L) (hSv : ∀ v ∈ st, vok n v) (hK : k' = k → D' = D → M' = M → ∀ ls' : Array Slot, LH ad ls' nL L' → LV n L' → (∀ v ∈ st', vok n v) → W p l e R s m args below meth c H locs cells slots Q (F0 m (a_pc tb j') ls' (st'.map (cv ad)))) : W p l e R s m args below meth c H locs cells slots Q (F0 m pc ls (st.map (cv ad))) := by
  simp only [ok_i, Bool.and_eq_true, beq_iff_eq, decide_eq_true_eq] at hok
  obtain ⟨rfl, hn⟩ := hok
  dsimp only [a_ex, a_b2] at hs
  split at hs
  · rename_i y x r
    simp only [a_nx, Option.some.injEq, Sum.inl.injEq, Prod.mk.injEq] at hs
    obtain ⟨rfl, rfl, rfl, rfl, rfl, rfl⟩ := hs
    have hSv2 := (List.forall_mem_cons.mp (List.forall_mem_cons.mp hSv).2).2
    refine lv_iushr hx hb hd rfl ?_
    rw [← hn]
    exact hK rfl rfl rfl ls hL hLv (List.forall_mem_cons.mpr ⟨trivial, hSv2⟩)
  · cases hs
theorem sp_idiv (hx : p.tables.exec = Jvm.exec) (hb : c.code = bs) (hd : decode bs pc = .ok (.idiv, len)) (hok : ok_i own nm tb j pc (.idiv) len aux wx = true) (hs : a_ex (.idiv) aux k j L st D M = some (.inl (k', j', L', st', D', M'))) (hL : LH ad ls nL L) (hLv : LV n L) (hSv : ∀ v ∈ st, vok n v) (hK : k' = k → D' = D → M' = M → ∀ ls' : Array Slot, LH ad ls' nL L' → LV n L' → (∀ v ∈ st', vok n v) → W p l e R s m args below meth c H locs cells slots Q (F0 m (a_pc tb j') ls' (st'.map (cv ad)))) : W p l e R s m args below meth c H locs cells slots Q (F0 m pc ls (st.map (cv ad))) := by
  simp only [ok_i, Bool.and_eq_true, beq_iff_eq, decide_eq_true_eq] at hok
  obtain ⟨rfl, hn⟩ := hok
  dsimp only [a_ex] at hs
  split at hs
  · rename_i y x r
    split at hs
    · cases hs
    · rename_i hne
      simp only [a_nx, Option.some.injEq, Sum.inl.injEq, Prod.mk.injEq] at hs
      obtain ⟨rfl, rfl, rfl, rfl, rfl, rfl⟩ := hs
      have hSv2 := (List.forall_mem_cons.mp (List.forall_mem_cons.mp hSv).2).2
      refine lv_idiv hx hb hd hne ?_
      rw [← hn]
      exact hK rfl rfl rfl ls hL hLv (List.forall_mem_cons.mpr ⟨trivial, hSv2⟩)
  · cases hs
theorem sp_irem (hx : p.tables.exec = Jvm.exec) (hb : c.code = bs) (hd : decode bs pc = .ok (.irem, len)) (hok : ok_i own nm tb j pc (.irem) len aux wx = true) (hs : a_ex (.irem) aux k j L st D M = some (.inl (k', j', L', st', D', M'))) (hL : LH ad ls nL L) (hLv : LV n L) (hSv : ∀ v ∈ st, vok n v) (hK : k' = k → D' = D → M' = M → ∀ ls' : Array Slot, LH ad ls' nL L' → LV n L' → (∀ v ∈ st', vok n v) → W p l e R s m args below meth c H locs cells slots Q (F0 m (a_pc tb j') ls' (st'.map (cv ad)))) : W p l e R s m args below meth c H locs cells slots Q (F0 m pc ls (st.map (cv ad))) := by
  simp only [ok_i, Bool.and_eq_true, beq_iff_eq, decide_eq_true_eq] at hok
  obtain ⟨rfl, hn⟩ := hok
  dsimp only [a_ex] at hs
  split at hs
  · rename_i y x r
    split at hs
    · cases hs
    · rename_i hne
      simp only [a_nx, Option.some.injEq, Sum.inl.injEq, Prod.mk.injEq] at hs
      obtain ⟨rfl, rfl, rfl, rfl, rfl, rfl⟩ := hs
      have hSv2 := (List.forall_mem_cons.mp (List.forall_mem_cons.mp hSv).2).2
      refine lv_irem hx hb hd hne ?_
      rw [← hn]
      exact hK rfl rfl rfl ls hL hLv (List.forall_mem_cons.mpr ⟨trivial, hSv2⟩)
  · cases hs
theorem sp_lrem (hx : p.tables.exec = Jvm.exec) (hb : c.code = bs) (hd : decode bs pc = .ok (.lrem, len)) (hok : ok_i own nm tb j pc (.lrem) len aux wx = true) (hs : a_ex (.lrem) aux k j L st D M = some (.inl (k', j', L', st', D', M'))) (hL : LH ad ls nL L) (hLv : LV n L) (hSv : ∀ v ∈ st, vok n v) (hK : k' = k → D' = D → M' = M → ∀ ls' : Array Slot, LH ad ls' nL L' → LV n L' → (∀ v ∈ st', vok n v) → W p l e R s m args below meth c H locs cells slots Q (F0 m (a_pc tb j') ls' (st'.map (cv ad)))) : W p l e R s m args below meth c H locs cells slots Q (F0 m pc ls (st.map (cv ad))) := by
  simp only [ok_i, Bool.and_eq_true, beq_iff_eq, decide_eq_true_eq] at hok
  obtain ⟨rfl, hn⟩ := hok
  dsimp only [a_ex] at hs
  split at hs
  · rename_i y x r
    split at hs
    · cases hs
    · rename_i hne
      simp only [a_nx, Option.some.injEq, Sum.inl.injEq, Prod.mk.injEq] at hs
      obtain ⟨rfl, rfl, rfl, rfl, rfl, rfl⟩ := hs
      have hSv2 := (List.forall_mem_cons.mp (List.forall_mem_cons.mp hSv).2).2
      refine lv_lrem hx hb hd hne ?_
      rw [← hn]
      exact hK rfl rfl rfl ls hL hLv (List.forall_mem_cons.mpr ⟨trivial, hSv2⟩)
  · cases hs
theorem sp_ladd (hx : p.tables.exec = Jvm.exec) (hb : c.code = bs) (hd : decode bs pc = .ok (.ladd, len)) (hok : ok_i own nm tb j pc (.ladd) len aux wx = true) (hs : a_ex (.ladd) aux k j L st D M = some (.inl (k', j', L', st', D', M'))) (hL : LH ad ls nL L) (hLv : LV n L) (hSv : ∀ v ∈ st, vok n v) (hK : k' = k → D' = D → M' = M → ∀ ls' : Array Slot, LH ad ls' nL L' → LV n L' → (∀ v ∈ st', vok n v) → W p l e R s m args below meth c H locs cells slots Q (F0 m (a_pc tb j') ls' (st'.map (cv ad)))) : W p l e R s m args below meth c H locs cells slots Q (F0 m pc ls (st.map (cv ad))) := by
  simp only [ok_i, Bool.and_eq_true, beq_iff_eq, decide_eq_true_eq] at hok
  obtain ⟨rfl, hn⟩ := hok
  dsimp only [a_ex, a_l2] at hs
  split at hs
  · rename_i y x r
    simp only [a_nx, Option.some.injEq, Sum.inl.injEq, Prod.mk.injEq] at hs
    obtain ⟨rfl, rfl, rfl, rfl, rfl, rfl⟩ := hs
    have hSv2 := (List.forall_mem_cons.mp (List.forall_mem_cons.mp hSv).2).2
    refine lv_ladd hx hb hd ?_
    rw [← hn]
    exact hK rfl rfl rfl ls hL hLv (List.forall_mem_cons.mpr ⟨trivial, hSv2⟩)
  · cases hs
theorem sp_lmul (hx : p.tables.exec = Jvm.exec) (hb : c.code = bs) (hd : decode bs pc = .ok (.lmul, len)) (hok : ok_i own nm tb j pc (.lmul) len aux wx = true) (hs : a_ex (.lmul) aux k j L st D M = some (.inl (k', j', L', st', D', M'))) (hL : LH ad ls nL L) (hLv : LV n L) (hSv : ∀ v ∈ st, vok n v) (hK : k' = k → D' = D → M' = M → ∀ ls' : Array Slot, LH ad ls' nL L' → LV n L' → (∀ v ∈ st', vok n v) → W p l e R s m args below meth c H locs cells slots Q (F0 m (a_pc tb j') ls' (st'.map (cv ad)))) : W p l e R s m args below meth c H locs cells slots Q (F0 m pc ls (st.map (cv ad))) := by
  simp only [ok_i, Bool.and_eq_true, beq_iff_eq, decide_eq_true_eq] at hok
  obtain ⟨rfl, hn⟩ := hok
  dsimp only [a_ex, a_l2] at hs
  split at hs
  · rename_i y x r
    simp only [a_nx, Option.some.injEq, Sum.inl.injEq, Prod.mk.injEq] at hs
    obtain ⟨rfl, rfl, rfl, rfl, rfl, rfl⟩ := hs
    have hSv2 := (List.forall_mem_cons.mp (List.forall_mem_cons.mp hSv).2).2
    refine lv_lmul hx hb hd ?_
    rw [← hn]
    exact hK rfl rfl rfl ls hL hLv (List.forall_mem_cons.mpr ⟨trivial, hSv2⟩)
  · cases hs
theorem sp_lcmp (hx : p.tables.exec = Jvm.exec) (hb : c.code = bs) (hd : decode bs pc = .ok (.lcmp, len)) (hok : ok_i own nm tb j pc (.lcmp) len aux wx = true) (hs : a_ex (.lcmp) aux k j L st D M = some (.inl (k', j', L', st', D', M'))) (hL : LH ad ls nL L) (hLv : LV n L) (hSv : ∀ v ∈ st, vok n v) (hK : k' = k → D' = D → M' = M → ∀ ls' : Array Slot, LH ad ls' nL L' → LV n L' → (∀ v ∈ st', vok n v) → W p l e R s m args below meth c H locs cells slots Q (F0 m (a_pc tb j') ls' (st'.map (cv ad)))) : W p l e R s m args below meth c H locs cells slots Q (F0 m pc ls (st.map (cv ad))) := by
  simp only [ok_i, Bool.and_eq_true, beq_iff_eq, decide_eq_true_eq] at hok
  obtain ⟨rfl, hn⟩ := hok
  dsimp only [a_ex] at hs
  split at hs
  · rename_i y x r
    simp only [a_nx, Option.some.injEq, Sum.inl.injEq, Prod.mk.injEq] at hs
    obtain ⟨rfl, rfl, rfl, rfl, rfl, rfl⟩ := hs
    have hSv2 := (List.forall_mem_cons.mp (List.forall_mem_cons.mp hSv).2).2
    refine W.lcmp hx hb hd ?_
    rw [← hn]
    exact hK rfl rfl rfl ls hL hLv (List.forall_mem_cons.mpr ⟨trivial, hSv2⟩)
  · cases hs
theorem sp_ineg (hx : p.tables.exec = Jvm.exec) (hb : c.code = bs) (hd : decode bs pc = .ok (.ineg, len)) (hok : ok_i own nm tb j pc (.ineg) len aux wx = true) (hs : a_ex (.ineg) aux k j L st D M = some (.inl (k', j', L', st', D', M'))) (hL : LH ad ls nL L) (hLv : LV n L) (hSv : ∀ v ∈ st, vok n v) (hK : k' = k → D' = D → M' = M → ∀ ls' : Array Slot, LH ad ls' nL L' → LV n L' → (∀ v ∈ st', vok n v) → W p l e R s m args below meth c H locs cells slots Q (F0 m (a_pc tb j') ls' (st'.map (cv ad)))) : W p l e R s m args below meth c H locs cells slots Q (F0 m pc ls (st.map (cv ad))) := by
  simp only [ok_i, Bool.and_eq_true, beq_iff_eq, decide_eq_true_eq] at hok
  obtain ⟨rfl, hn⟩ := hok
  dsimp only [a_ex] at hs
  split at hs
  · rename_i x r
    simp only [a_nx, Option.some.injEq, Sum.inl.injEq, Prod.mk.injEq] at hs
    obtain ⟨rfl, rfl, rfl, rfl, rfl, rfl⟩ := hs
    have hSv2 := (List.forall_mem_cons.mp hSv).2
    refine lv_ineg hx hb hd ?_
    rw [← hn]
    exact hK rfl rfl rfl ls hL hLv (List.forall_mem_cons.mpr ⟨trivial, hSv2⟩)
  · cases hs
theorem sp_i2l (hx : p.tables.exec = Jvm.exec) (hb : c.code = bs) (hd : decode bs pc = .ok (.i2l, len)) (hok : ok_i own nm tb j pc (.i2l) len aux wx = true) (hs : a_ex (.i2l) aux k j L st D M = some (.inl (k', j', L', st', D', M'))) (hL : LH ad ls nL L) (hLv : LV n L) (hSv : ∀ v ∈ st, vok n v) (hK : k' = k → D' = D → M' = M → ∀ ls' : Array Slot, LH ad ls' nL L' → LV n L' → (∀ v ∈ st', vok n v) → W p l e R s m args below meth c H locs cells slots Q (F0 m (a_pc tb j') ls' (st'.map (cv ad)))) : W p l e R s m args below meth c H locs cells slots Q (F0 m pc ls (st.map (cv ad))) := by
  simp only [ok_i, Bool.and_eq_true, beq_iff_eq, decide_eq_true_eq] at hok
  obtain ⟨rfl, hn⟩ := hok
  dsimp only [a_ex] at hs
  split at hs
  · rename_i x r
    simp only [a_nx, Option.some.injEq, Sum.inl.injEq, Prod.mk.injEq] at hs
    obtain ⟨rfl, rfl, rfl, rfl, rfl, rfl⟩ := hs
    have hSv2 := (List.forall_mem_cons.mp hSv).2
    refine lv_i2l hx hb hd rfl ?_
    rw [← hn]
    exact hK rfl rfl rfl ls hL hLv (List.forall_mem_cons.mpr ⟨trivial, hSv2⟩)
  · cases hs
theorem sp_l2i (hx : p.tables.exec = Jvm.exec) (hb : c.code = bs) (hd : decode bs pc = .ok (.l2i, len)) (hok : ok_i own nm tb j pc (.l2i) len aux wx = true) (hs : a_ex (.l2i) aux k j L st D M = some (.inl (k', j', L', st', D', M'))) (hL : LH ad ls nL L) (hLv : LV n L) (hSv : ∀ v ∈ st, vok n v) (hK : k' = k → D' = D → M' = M → ∀ ls' : Array Slot, LH ad ls' nL L' → LV n L' → (∀ v ∈ st', vok n v) → W p l e R s m args below meth c H locs cells slots Q (F0 m (a_pc tb j') ls' (st'.map (cv ad)))) : W p l e R s m args below meth c H locs cells slots Q (F0 m pc ls (st.map (cv ad))) := by
  simp only [ok_i, Bool.and_eq_true, beq_iff_eq, decide_eq_true_eq] at hok
  obtain ⟨rfl, hn⟩ := hok
  dsimp only [a_ex] at hs
  split at hs
  · rename_i x r
    simp only [a_nx, Option.some.injEq, Sum.inl.injEq, Prod.mk.injEq] at hs
    obtain ⟨rfl, rfl, rfl, rfl, rfl, rfl⟩ := hs
    have hSv2 := (List.forall_mem_cons.mp hSv).2
    refine lv_l2i hx hb hd rfl ?_
    rw [← hn]
    exact hK rfl rfl rfl ls hL hLv (List.forall_mem_cons.mpr ⟨trivial, hSv2⟩)
  · cases hs
theorem sp_pop (hx : p.tables.exec = Jvm.exec) (hb : c.code = bs) (hd : decode bs pc = .ok (.pop, len)) (hok : ok_i own nm tb j pc (.pop) len aux wx = true) (hs : a_ex (.pop) aux k j L st D M = some (.inl (k', j', L', st', D', M'))) (hL : LH ad ls nL L) (hLv : LV n L) (hSv : ∀ v ∈ st, vok n v) (hK : k' = k → D' = D → M' = M → ∀ ls' : Array Slot, LH ad ls' nL L' → LV n L' → (∀ v ∈ st', vok n v) → W p l e R s m args below meth c H locs cells slots Q (F0 m (a_pc tb j') ls' (st'.map (cv ad)))) : W p l e R s m args below meth c H locs cells slots Q (F0 m pc ls (st.map (cv ad))) := by
  simp only [ok_i, Bool.and_eq_true, beq_iff_eq, decide_eq_true_eq] at hok
  obtain ⟨rfl, hn⟩ := hok
  dsimp only [a_ex] at hs
  split at hs
  · rename_i x r
    simp only [a_nx, Option.some.injEq, Sum.inl.injEq, Prod.mk.injEq] at hs
    obtain ⟨rfl, rfl, rfl, rfl, rfl, rfl⟩ := hs
    have hSv2 := (List.forall_mem_cons.mp hSv).2
    refine lv_pop hx hb hd rfl ?_
    rw [← hn]
    exact hK rfl rfl rfl ls hL hLv hSv2
  · cases hs
theorem sp_dup (hx : p.tables.exec = Jvm.exec) (hb : c.code = bs) (hd : decode bs pc = .ok (.dup, len)) (hok : ok_i own nm tb j pc (.dup) len aux wx = true) (hs : a_ex (.dup) aux k j L st D M = some (.inl (k', j', L', st', D', M'))) (hL : LH ad ls nL L) (hLv : LV n L) (hSv : ∀ v ∈ st, vok n v) (hK : k' = k → D' = D → M' = M → ∀ ls' : Array Slot, LH ad ls' nL L' → LV n L' → (∀ v ∈ st', vok n v) → W p l e R s m args below meth c H locs cells slots Q (F0 m (a_pc tb j') ls' (st'.map (cv ad)))) : W p l e R s m args below meth c H locs cells slots Q (F0 m pc ls (st.map (cv ad))) := by
  simp only [ok_i, Bool.and_eq_true, beq_iff_eq, decide_eq_true_eq] at hok
  obtain ⟨rfl, hn⟩ := hok
  dsimp only [a_ex] at hs
  split at hs
  · rename_i x r
    simp only [a_nx, Option.some.injEq, Sum.inl.injEq, Prod.mk.injEq] at hs
    obtain ⟨rfl, rfl, rfl, rfl, rfl, rfl⟩ := hs
    refine lv_dup hx hb hd rfl ?_
    rw [← hn]
    exact hK rfl rfl rfl ls hL hLv (List.forall_mem_cons.mpr ⟨trivial, hSv⟩)
  · rename_i x r
    simp only [a_nx, Option.some.injEq, Sum.inl.injEq, Prod.mk.injEq] at hs
    obtain ⟨rfl, rfl, rfl, rfl, rfl, rfl⟩ := hs
    refine lv_dup hx hb hd rfl ?_
    rw [← hn]
    exact hK rfl rfl rfl ls hL hLv (List.forall_mem_cons.mpr ⟨(List.forall_mem_cons.mp hSv).1, hSv⟩)
  · cases hs
theorem sp_dup2 (hx : p.tables.exec = Jvm.exec) (hb : c.code = bs) (hd : decode bs pc = .ok (.dup2, len)) (hok : ok_i own nm tb j pc (.dup2) len aux wx = true) (hs : a_ex (.dup2) aux k j L st D M = some (.inl (k', j', L', st', D', M'))) (hL : LH ad ls nL L) (hLv : LV n L) (hSv : ∀ v ∈ st, vok n v) (hK : k' = k → D' = D → M' = M → ∀ ls' : Array Slot, LH ad ls' nL L' → LV n L' → (∀ v ∈ st', vok n v) → W p l e R s m args below meth c H locs cells slots Q (F0 m (a_pc tb j') ls' (st'.map (cv ad)))) : W p l e R s m args below meth c H locs cells slots Q (F0 m pc ls (st.map (cv ad))) := by
  simp only [ok_i, Bool.and_eq_true, beq_iff_eq, decide_eq_true_eq] at hok
  obtain ⟨rfl, hn⟩ := hok
  dsimp only [a_ex] at hs
  split at hs
  · rename_i x y r
    simp only [a_nx, Option.some.injEq, Sum.inl.injEq, Prod.mk.injEq] at hs
    obtain ⟨rfl, rfl, rfl, rfl, rfl, rfl⟩ := hs
    have h2 := List.forall_mem_cons.mp (List.forall_mem_cons.mp hSv).2
    refine lv_dup2_11 hx hb hd rfl rfl ?_
    rw [← hn]
    exact hK rfl rfl rfl ls hL hLv (List.forall_mem_cons.mpr ⟨trivial, List.forall_mem_cons.mpr ⟨h2.1, hSv⟩⟩)
  · cases hs
theorem sp_goto {v0 : Int} (hx : p.tables.exec = Jvm.exec) (hb : c.code = bs) (hd : decode bs pc = .ok (.goto v0, len)) (hok : ok_i own nm tb j pc (.goto v0) len aux wx = true) (hs : a_ex (.goto v0) aux k j L st D M = some (.inl (k', j', L', st', D', M'))) (hL : LH ad ls nL L) (hLv : LV n L) (hSv : ∀ v ∈ st, vok n v) (hK : k' = k → D' = D → M' = M → ∀ ls' : Array Slot, LH ad ls' nL L' → LV n L' → (∀ v ∈ st', vok n v) → W p l e R s m args below meth c H locs cells slots Q (F0 m (a_pc tb j') ls' (st'.map (cv ad)))) : W p l e R s m args below meth c H locs cells slots Q (F0 m pc ls (st.map (cv ad))) := by
  simp only [ok_i, Bool.and_eq_true, beq_iff_eq, decide_eq_true_eq] at hok
  obtain ⟨rfl, hn⟩ := hok
  dsimp only [a_ex] at hs
  simp only [a_nx, Option.some.injEq, Sum.inl.injEq, Prod.mk.injEq] at hs
  obtain ⟨rfl, rfl, rfl, rfl, rfl, rfl⟩ := hs
  refine lv_goto hx hb hd hn ?_
  exact hK rfl rfl rfl ls hL hLv hSv
theorem sp_ifCond {v0 : Jvm.ClassFile.Cond} {v1 : Int} (hx : p.tables.exec = Jvm.exec) (hb : c.code = bs) (hd : decode bs pc = .ok (.ifCond v0 v1, len)) (hok : ok_i own nm tb j pc (.ifCond v0 v1) len aux wx = true) (hs : a_ex (.ifCond v0 v1) aux k j L st D M = some (.inl (k', j', L', st', D', M'))) (hL : LH ad ls nL L) (hLv : LV n L) (hSv : ∀ v ∈ st, vok n v) (hK : k' = k → D' = D → M' = M → ∀ ls' : Array Slot, LH ad ls' nL L' → LV n L' → (∀ v ∈ st', vok n v) → W p l e R s m args below meth c H locs cells slots Q (F0 m (a_pc tb j') ls' (st'.map (cv ad)))) : W p l e R s m args below meth c H locs cells slots Q (F0 m pc ls (st.map (cv ad))) := by
  simp only [ok_i, Bool.and_eq_true, beq_iff_eq, decide_eq_true_eq] at hok
  obtain ⟨rfl, hn, ht⟩ := hok
  dsimp only [a_ex] at hs
  split at hs
  · rename_i x r
    have hSv2 := (List.forall_mem_cons.mp hSv).2
    simp only [Option.some.injEq] at hs
    have goT : (k', j', L', st', D', M') = (k, a_hd aux, L, r, D, M) → W p l e R s m args below meth c H locs cells slots Q (F0 m (a_pc tb (a_hd aux)) ls (r.map (cv ad))) := by
      intro hq
      simp only [Prod.mk.injEq] at hq
      obtain ⟨rfl, rfl, rfl, rfl, rfl, rfl⟩ := hq
      exact hK rfl rfl rfl ls hL hLv hSv2
    have goF : (k', j', L', st', D', M') = (k, j + 1, L, r, D, M) → W p l e R s m args below meth c H locs cells slots Q (F0 m (pc + 3) ls (r.map (cv ad))) := by
      intro hq
      simp only [Prod.mk.injEq] at hq
      obtain ⟨rfl, rfl, rfl, rfl, rfl, rfl⟩ := hq
      rw [← hn]
      exact hK rfl rfl rfl ls hL hLv hSv2
    cases v0 with
    | eq => dsimp only [a_if] at hs; exact lv_if_eq hx hb hd ht (fun hc => goT (Sum.inl.inj ((if_pos hc).symm.trans hs)).symm) (fun hc => goF (Sum.inl.inj ((if_neg hc).symm.trans hs)).symm)
    | ne => dsimp only [a_if] at hs; exact lv_if_ne hx hb hd ht (fun hc => goT (Sum.inl.inj ((if_neg hc).symm.trans hs)).symm) (fun hc => goF (Sum.inl.inj ((if_pos hc).symm.trans hs)).symm)
    | lt => dsimp only [a_if] at hs; exact lv_if_lt hx hb hd ht (fun hc => goT (Sum.inl.inj ((if_pos hc).symm.trans hs)).symm) (fun hc => goF (Sum.inl.inj ((if_neg hc).symm.trans hs)).symm)
    | ge => dsimp only [a_if] at hs; exact lv_if_ge hx hb hd ht (fun hc => goT (Sum.inl.inj ((if_pos hc).symm.trans hs)).symm) (fun hc => goF (Sum.inl.inj ((if_neg hc).symm.trans hs)).symm)
    | gt => dsimp only [a_if] at hs; exact lv_if_gt hx hb hd ht (fun hc => goT (Sum.inl.inj ((if_pos hc).symm.trans hs)).symm) (fun hc => goF (Sum.inl.inj ((if_neg hc).symm.trans hs)).symm)
    | le => dsimp only [a_if] at hs; exact lv_if_le hx hb hd ht (fun hc => goT (Sum.inl.inj ((if_pos hc).symm.trans hs)).symm) (fun hc => goF (Sum.inl.inj ((if_neg hc).symm.trans hs)).symm)
  · cases hs
theorem sp_if_icmp {v0 : Jvm.ClassFile.Cond} {v1 : Int} (hx : p.tables.exec = Jvm.exec) (hb : c.code = bs) (hd : decode bs pc = .ok (.if_icmp v0 v1, len)) (hok : ok_i own nm tb j pc (.if_icmp v0 v1) len aux wx = true) (hs : a_ex (.if_icmp v0 v1) aux k j L st D M = some (.inl (k', j', L', st', D', M'))) (hL : LH ad ls nL L) (hLv : LV n L) (hSv : ∀ v ∈ st, vok n v) (hK : k' = k → D' = D → M' = M → ∀ ls' : Array Slot, LH ad ls' nL L' → LV n L' → (∀ v ∈ st', vok n v) → W p l e R s m args below meth c H locs cells slots Q (F0 m (a_pc tb j') ls' (st'.map (cv ad)))) : W p l e R s m args below meth c H locs cells slots Q (F0 m pc ls (st.map (cv ad))) := by
  simp only [ok_i, Bool.and_eq_true, beq_iff_eq, decide_eq_true_eq] at hok
  obtain ⟨rfl, hn, ht⟩ := hok
  dsimp only [a_ex] at hs
  split at hs
  · rename_i y x r
    have hSv2 := (List.forall_mem_cons.mp (List.forall_mem_cons.mp hSv).2).2
    simp only [Option.some.injEq] at hs
    have goT : (k', j', L', st', D', M') = (k, a_hd aux, L, r, D, M) → W p l e R s m args below meth c H locs cells slots Q (F0 m (a_pc tb (a_hd aux)) ls (r.map (cv ad))) := by
      intro hq
      simp only [Prod.mk.injEq] at hq
      obtain ⟨rfl, rfl, rfl, rfl, rfl, rfl⟩ := hq
      exact hK rfl rfl rfl ls hL hLv hSv2
    have goF : (k', j', L', st', D', M') = (k, j + 1, L, r, D, M) → W p l e R s m args below meth c H locs cells slots Q (F0 m (pc + 3) ls (r.map (cv ad))) := by
      intro hq
      simp only [Prod.mk.injEq] at hq
      obtain ⟨rfl, rfl, rfl, rfl, rfl, rfl⟩ := hq
      rw [← hn]
      exact hK rfl rfl rfl ls hL hLv hSv2
    cases v0 with
    | eq => dsimp only [a_if] at hs; exact lv_icmp_eq hx hb hd ht (fun hc => goT (Sum.inl.inj ((if_pos hc).symm.trans hs)).symm) (fun hc => goF (Sum.inl.inj ((if_neg hc).symm.trans hs)).symm)
    | ne => dsimp only [a_if] at hs; exact lv_icmp_ne hx hb hd ht (fun hc => goT (Sum.inl.inj ((if_neg hc).symm.trans hs)).symm) (fun hc => goF (Sum.inl.inj ((if_pos hc).symm.trans hs)).symm)
    | lt => dsimp only [a_if] at hs; exact lv_icmp_lt hx hb hd ht (fun hc => goT (Sum.inl.inj ((if_pos hc).symm.trans hs)).symm) (fun hc => goF (Sum.inl.inj ((if_neg hc).symm.trans hs)).symm)
    | ge => dsimp only [a_if] at hs; exact lv_icmp_ge hx hb hd ht (fun hc => goT (Sum.inl.inj ((if_pos hc).symm.trans hs)).symm) (fun hc => goF (Sum.inl.inj ((if_neg hc).symm.trans hs)).symm)
    | gt => dsimp only [a_if] at hs; exact lv_icmp_gt hx hb hd ht (fun hc => goT (Sum.inl.inj ((if_pos hc).symm.trans hs)).symm) (fun hc => goF (Sum.inl.inj ((if_neg hc).symm.trans hs)).symm)
    | le => dsimp only [a_if] at hs; exact lv_icmp_le hx hb hd ht (fun hc => goT (Sum.inl.inj ((if_pos hc).symm.trans hs)).symm) (fun hc => goF (Sum.inl.inj ((if_neg hc).symm.trans hs)).symm)
  · cases hs
theorem sp_ifnonnull {v0 : Int} (hx : p.tables.exec = Jvm.exec) (hb : c.code = bs) (hd : decode bs pc = .ok (.ifnonnull v0, len)) (hok : ok_i own nm tb j pc (.ifnonnull v0) len aux wx = true) (hs : a_ex (.ifnonnull v0) aux k j L st D M = some (.inl (k', j', L', st', D', M'))) (hL : LH ad ls nL L) (hLv : LV n L) (hSv : ∀ v ∈ st, vok n v) (hK : k' = k → D' = D → M' = M → ∀ ls' : Array Slot, LH ad ls' nL L' → LV n L' → (∀ v ∈ st', vok n v) → W p l e R s m args below meth c H locs cells slots Q (F0 m (a_pc tb j') ls' (st'.map (cv ad)))) : W p l e R s m args below meth c H locs cells slots Q (F0 m pc ls (st.map (cv ad))) := by
  simp only [ok_i, Bool.and_eq_true, beq_iff_eq, decide_eq_true_eq] at hok
  obtain ⟨rfl, hn, ht⟩ := hok
  dsimp only [a_ex] at hs
  split at hs
  · rename_i x r
    simp only [a_nx, Option.some.injEq, Sum.inl.injEq, Prod.mk.injEq] at hs
    obtain ⟨rfl, rfl, rfl, rfl, rfl, rfl⟩ := hs
    exact lv_ifnonnull hx hb hd ht (hK rfl rfl rfl ls hL hLv (List.forall_mem_cons.mp hSv).2)
  · rename_i r
    simp only [a_nx, Option.some.injEq, Sum.inl.injEq, Prod.mk.injEq] at hs
    obtain ⟨rfl, rfl, rfl, rfl, rfl, rfl⟩ := hs
    refine lv_ifnonnullN hx hb hd ?_
    rw [← hn]
    exact hK rfl rfl rfl ls hL hLv (List.forall_mem_cons.mp hSv).2
  · cases hs
theorem sp_tableswitch {v0 v1 v2 : Int} {v3 : Array Int} (hx : p.tables.exec = Jvm.exec) (hb : c.code = bs) (hd : decode bs pc = .ok (.tableswitch v0 v1 v2 v3, len)) (hok : ok_i own nm tb j pc (.tableswitch v0 v1 v2 v3) len aux wx = true) (hs : a_ex (.tableswitch v0 v1 v2 v3) aux k j L st D M = some (.inl (k', j', L', st', D', M'))) (hL : LH ad ls nL L) (hLv : LV n L) (hSv : ∀ v ∈ st, vok n v) (hK : k' = k → D' = D → M' = M → ∀ ls' : Array Slot, LH ad ls' nL L' → LV n L' → (∀ v ∈ st', vok n v) → W p l e R s m args below meth c H locs cells slots Q (F0 m (a_pc tb j') ls' (st'.map (cv ad)))) : W p l e R s m args below meth c H locs cells slots Q (F0 m pc ls (st.map (cv ad))) := by
  simp only [ok_i, Bool.and_eq_true, decide_eq_true_eq] at hok
  obtain ⟨rfl, rfl, hdf, h2, hall⟩ := hok
  dsimp only [a_ex] at hs
  split at hs
  · rename_i x r
    simp only [a_nx, Option.some.injEq, Sum.inl.injEq, Prod.mk.injEq] at hs
    obtain ⟨rfl, rfl, rfl, rfl, rfl, rfl⟩ := hs
    have hSv2 := (List.forall_mem_cons.mp hSv).2
    have hgo := hK rfl rfl rfl ls hL hLv hSv2
    by_cases hx1 : x.toInt < 0 ∨ (aux.length : Int) - 2 < x.toInt
    · have e1 : a_tsw x aux = a_hd aux := by unfold a_tsw; rw [if_pos hx1]
      rw [e1] at hgo
      exact lv_tableOut hx hb hd hx1 hdf hgo
    · have e1 : a_tsw x aux = aux.getD (x.toInt.toNat + 1) 0 := by unfold a_tsw; rw [if_neg hx1]
      rw [e1] at hgo
      have hlt : x.toInt.toNat < aux.length - 1 := by omega
      have h3 := List.all_eq_true.mp hall x.toInt.toNat (List.mem_range.mpr hlt)
      cases ho : v3[x.toInt.toNat]? with
      | none => simp only [ho] at h3; cases h3
      | some off =>
        simp only [ho, decide_eq_true_eq] at h3
        exact lv_tableIn hx hb hd (fun q => hx1 (Or.inl q)) (fun q => hx1 (Or.inr q)) (by rw [Int.sub_zero]; exact ho) h3 hgo
  · cases hs
end SP
