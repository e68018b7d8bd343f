-- THE SOUNDNESS THEOREM
theorem ok_mt {k : Nat} {mt : AMt} (h : methods[k]? = some mt) : plainName mt.1.cls = true ∧ mt.1.cls ≠ "java/lang/invoke/MethodHandle" ∧ mt.1.cls ≠ "java/lang/invoke/VarHandle" ∧ mt.2.2.1 ≤ 40 ∧ a_pc mt.2.2.2.2 0 = 0 ∧ ∀ e ∈ mt.2.2.2.2, ok_rt mt.2.2.2.1 e = true := by
  have hm := (ok_all mt (List.mem_of_getElem? h)).2
  unfold ok_m at hm
  simp only [Bool.and_eq_true, decide_eq_true_eq, beq_iff_eq, List.all_eq_true] at hm
  exact hm
/-- what a method answers, by its kind -/
def a_rk (ret : Option FieldType) (r : Option Value) : Prop := (r = none ∧ ret = none) ∨ ∃ v, r = some (.int v) ∧ (ret = some .int ∨ (ret = some .boolean ∧ (v = 0 ∨ v = 1)))
theorem stp_ret {s : ASt} {r : ARs} (h : stp s = some (.inr (.inl r))) {mt : AMt} (hm : methods[s.1]? = some mt) : ∃ e : AEn, mt.2.2.2.2[s.2.1]? = some e ∧ a_rk mt.2.2.2.1 r.1 ∧ r.2 = s.2.2.2.2 ∧ ((e.2.1 = .ireturn ∧ ∃ v, r.1 = some (.int v) ∧ s.2.2.2.1 = [.int v]) ∨ (e.2.1 = .return_ ∧ r.1 = none ∧ s.2.2.2.1 = [])) := by
  obtain ⟨mt', e, hm', he, hex⟩ := stp_at h
  obtain rfl : mt = mt' := Option.some.inj (hm.symm.trans hm')
  have hrt := (ok_mt hm).2.2.2.2.2 e (List.mem_of_getElem? he)
  rcases a_ex_cls hex with ⟨_, hq⟩ | ⟨hi, v, hst, hv, hq⟩ | ⟨hi, hst, hq⟩ | ⟨_, -, hq⟩ | ⟨_, _, _, -, -, hq⟩ | ⟨_, _, _, -, -, hq⟩
  · cases hq
  · have hr : r = (some (.int v), s.2.2.2.2.1, s.2.2.2.2.2) := by injection hq with hq; injection hq
    subst hr
    refine ⟨e, he, Or.inr ⟨v, rfl, ?_⟩, rfl, Or.inl ⟨hi, v, rfl, hst⟩⟩
    unfold ok_rt at hrt
    rw [hi] at hrt
    dsimp only at hrt
    split at hrt
    · rename_i hret
      refine Or.inr ⟨hret, ?_⟩
      have h1 : a_hd e.2.2.2.1 = 1 := by simpa using hrt
      rcases hv with hv | hv
      · rw [h1] at hv; cases hv
      · exact hv
    · rename_i hret; exact Or.inl hret
    · cases hrt
  · have hr : r = (none, s.2.2.2.2.1, s.2.2.2.2.2) := by injection hq with hq; injection hq
    subst hr
    refine ⟨e, he, Or.inl ⟨rfl, ?_⟩, rfl, Or.inr ⟨hi, rfl, hst⟩⟩
    unfold ok_rt at hrt
    rw [hi] at hrt
    exact of_decide_eq_true hrt
  · have := (a_call_at (a_callv_at hq).1).1; cases this
  · have := (a_call_at hq).1; cases this
  · have := (a_call_at (a_calls_at hq).1).1; cases this
theorem ex_ret : ∀ (n d : Nat) (s : ASt) (r : ARs) (mt : AMt), ex d n s = some r → methods[s.1]? = some mt → a_rk mt.2.2.2.1 r.1 := by
  intro n
  induction n with
  | zero => intro d s r mt h; simp [ex] at h
  | succ n ih =>
    intro d s r mt h hm
    unfold ex at h
    cases hs : stp s with
    | none => rw [hs] at h; simp at h
    | some o =>
      rw [hs] at h
      cases o with
      | inl s' =>
        obtain ⟨mt', e, -, -, hex⟩ := stp_at hs
        refine ih d s' r mt h ?_
        obtain ⟨k', j', L', st', D', M'⟩ := s'
        rw [(a_ex_len hex).1]
        exact hm
      | inr o =>
        cases o with
        | inl r' =>
          have : r' = r := Option.some.inj h
          subst this
          obtain ⟨e, -, hk, -⟩ := stp_ret hs hm
          exact hk
        | inr c =>
          obtain ⟨k, as, rest⟩ := c
          cases d with
          | zero => simp at h
          | succ d' =>
            dsimp only at h
            cases hc : ex d' n (ent k as s.2.2.2.2.1 s.2.2.2.2.2) with
            | none => rw [hc] at h; simp at h
            | some r1 =>
              rw [hc] at h
              exact ih (d' + 1) _ r mt h hm
/-- n steps, d calls deep: what the machine does -/
def SND (l : Launch) (dC : Nat → ClassId) (dI : Nat → Nat → Nat) (cA : ClassId × ClassId × ClassId) (adr : Nat → Nat) (ro : Nat → Nat → Int32) (n d : Nat) : Prop :=
  ∀ (sA : ASt) (r : ARs), ex d n sA = some r → ∀ (p : Program) (e : Env) (R : Room) (s : State) (m : MethodId) (args : Array Value) (below : List Frame) (meth : Method) (c : Code) (A : Nat → Prop) (H : Heap) (locs : List Loc) (cells slots : Nat) (Q : State → Prop) (ad : Nat → Nat) (ls : Array Slot) (mt : AMt),
    methods[sA.1]? = some mt → p.tables.exec = Jvm.exec → c.code = mt.2.1 → c.maxLocals = mt.2.2.1 → s.vm.findClass mt.1.cls = some m.cls → (∀ w ∈ GW, w.before args s = true) → (mt.1.name = "<init>" → meth.name = "<init>") → (∀ q, s.heap.size ≤ q → A q) → EV dC dI cA adr ro A s →
    (d + 1 ≤ R.frames ∧ 64 * (d + 1) ≤ R.locals) → (cells + (r.2.1.length - sA.2.2.2.2.1.length) ≤ R.cells ∧ slots + (a_szs r.2.1 - a_szs sA.2.2.2.2.1) ≤ R.slots) → WH dC dI cA adr ro A s.heap H locs sA.2.2.2.2.1 sA.2.2.2.2.2 ad → LH ad ls mt.2.2.1 sA.2.2.1 → LV sA.2.2.2.2.1.length sA.2.2.1 → (∀ v ∈ sA.2.2.2.1, vok sA.2.2.2.2.1.length v) →
    (∀ (pc : Nat) (ls' : Array Slot) (H' : Heap) (locs' : List Loc) (ad' : Nat → Nat), WH dC dI cA adr ro A s.heap H' locs' r.2.1 r.2.2 ad' → agr sA.2.2.2.2.1.length ad ad' → (∀ v, r.1 = some (.int v) → decode mt.2.1 pc = .ok (.ireturn, 1) → W p l e R s m args below meth c H' locs' (cells + (r.2.1.length - sA.2.2.2.2.1.length)) (slots + (a_szs r.2.1 - a_szs sA.2.2.2.2.1)) Q (F0 m pc ls' [.int v])) ∧ (r.1 = none → decode mt.2.1 pc = .ok (.return_, 1) → W p l e R s m args below meth c H' locs' (cells + (r.2.1.length - sA.2.2.2.2.1.length)) (slots + (a_szs r.2.1 - a_szs sA.2.2.2.2.1)) Q (F0 m pc ls' []))) →
    W p l e R s m args below meth c H locs cells slots Q (F0 m (a_pc mt.2.2.2.2 sA.2.1) ls (sA.2.2.2.1.map (cv ad)))
section SM
variable {l : Launch} {dC : Nat → ClassId} {dI : Nat → Nat → Nat} {cA : ClassId × ClassId × ClassId} {adr : Nat → Nat} {ro : Nat → Nat → Int32}
/-- the contract of a method: its end, by what it answers -/
def QM (dC : Nat → ClassId) (dI : Nat → Nat → Nat) (cA : ClassId × ClassId × ClassId) (adr : Nat → Nat) (ro : Nat → Nat → Int32) (D : ADd) (ad : Nat → Nat) (A : Nat → Prop) (r : ARs) : Array Value → State → Outcome → State → Prop := match r.1 with
  | some (.int v) => va_Qi (fun (z : Int32) (u : Nat → Nat) => z = v ∧ agr D.length ad u) (BW dC dI cA adr ro A r.2.1 r.2.2) A
  | _ => va_Qv (fun u : Nat → Nat => agr D.length ad u) (BW dC dI cA adr ro A r.2.1 r.2.2) A
theorem met_of {n d : Nat} (h : SND l dC dI cA adr ro n d) {k : Nat} {as : List Value} {D : ADd} {M : AMm} {r : ARs} (hc : ex d n (ent k as D M) = some r) {mt : AMt} (hm : methods[k]? = some mt) (hlen : (a_sl as).length ≤ a_maxL k) (has : ∀ v ∈ as, vok D.length v) (ad : Nat → Nat) (sz : Nat) :
    Met l mt.1 (Cond.code mt.1 mt.2.1 mt.2.2.1 mt.2.2.2.1 :: GW) { frames := d + 1, cells := r.2.1.length - D.length, slots := a_szs r.2.1 - a_szs D, locals := 64 * (d + 1) } (va_Pc (as.map (cv ad)) (BP dC dI cA adr ro sz D M ad)) (QM dC dI cA adr ro D ad (va_A (wso cA ad D M) sz) r) (r.2.1.length - D.length) (a_szs r.2.1 - a_szs D) (va_A (wso cA ad D M) sz) := by
  obtain ⟨hpl, -, -, -, hp0, -⟩ := ok_mt hm
  have hml0 : a_maxL k = mt.2.2.1 := by unfold a_maxL; rw [hm]
  rw [hml0] at hlen
  refine Met.ofW (cc := mt.2.1) (maxL := mt.2.2.1) (ret := mt.2.2.2.1) hpl rfl ?_
  intro p e s m args below meth c s₁ B hml hv
  obtain ⟨rfl, hsz, ⟨hP, hD0, hdk, hd3, had, hro⟩, hE⟩ := hv
  have hx := B.exec
  have hb := B.bytes
  have hr := B.returns
  have hts0 := atoms_spec (ws := Cond.code mt.1 mt.2.1 mt.2.2.1 mt.2.2.2.1 :: GW) B.pre
  have hts : ∀ w ∈ GW, w.before _ s = true := fun w hw => hts0 w (List.mem_cons_of_mem _ hw)
  have hown : s.vm.findClass mt.1.cls = some m.cls := findClass_of_methodNamed B.named
  have hlocks := B.notSynchronized
  have hin : meth.name = mt.1.name := (name_of_methodNamed B.named B.method).1
  subst hsz
  have hrk := ex_ret n d _ r mt hc hm
  rw [lg_entry_eq]
  have hLH := LH_entry ad as (n := mt.2.2.1) hlen
  have hD := hD0.self (sz := s.heap.size)
  have hent : ent k as D M = (k, 0, a_sl as ++ List.replicate (mt.2.2.1 - (a_sl as).length) none, [], D, M) := by unfold ent; rw [hml0]
  rw [hent] at hc
  have main := h _ r hc p e (headSpec (Cond.code mt.1 mt.2.1 mt.2.2.1 mt.2.2.2.1 :: GW) { frames := d + 1, cells := r.2.1.length - D.length, slots := a_szs r.2.1 - a_szs D, locals := 64 * (d + 1) }).room s m (as.map (cv ad)).toArray below meth c (va_A (wso cA ad D M) s.heap.size) s.heap [] 0 0 (MQ below (QM dC dI cA adr ro D ad (va_A (wso cA ad D M) s.heap.size) r) (as.map (cv ad)).toArray s (r.2.1.length - D.length) (a_szs r.2.1 - a_szs D) (va_A (wso cA ad D M) s.heap.size)) ad _ mt hm hx hb hml hown hts (fun q => hin.trans q) (fun q hq => Or.inr hq) hE ⟨Nat.le_refl _, Nat.le_refl _⟩ ⟨by rw [Nat.zero_add]; exact Nat.le_refl _, by rw [Nat.zero_add]; exact Nat.le_refl _⟩ ⟨hP, hD, va_S.rf, hdk, hd3, had, hro⟩ hLH (LV_entry has _) (fun v hv => absurd hv List.not_mem_nil) ?_
  · rw [hp0] at main
    exact main
  · intro pc ls' H' locs' ad' hW' hag
    obtain ⟨hP', hD', hS', hdk', hd3', had', hro'⟩ := hW'
    rw [Nat.zero_add, Nat.zero_add]
    refine ⟨fun v hrv hdec => ?_, fun hrn hdec => ?_⟩
    · have hq : ∀ t : State, t.heap = H' → s.WarmedH t.vm → QM dC dI cA adr ro D ad (va_A (wso cA ad D M) s.heap.size) r (as.map (cv ad)).toArray s (.returned (some (.int v))) t := by
        intro t ht hw
        unfold QM
        rw [hrv]
        exact ⟨⟨v, ad', rfl, ⟨rfl, hag⟩, by rw [ht]; exact hP', hD', hdk', hd3', had', hro'⟩, hS'.F ht⟩
      rcases hrk with ⟨z, -⟩ | ⟨v', z, hret | ⟨hret, h01⟩⟩
      · rw [hrv] at z; cases z
      · exact W.iret hx hb (by rw [hr, hret]) hq hS'.2.2 hdec hlocks
      · obtain rfl : v = v' := by rw [hrv] at z; injection z with z; injection z
        exact W.zret (ty := .boolean) hx hb (by rw [hr, hret]) (by rcases h01 with rfl | rfl <;> rfl) hq hS'.2.2 hdec hlocks
    · have hq : ∀ t : State, t.heap = H' → s.WarmedH t.vm → QM dC dI cA adr ro D ad (va_A (wso cA ad D M) s.heap.size) r (as.map (cv ad)).toArray s (.returned none) t := by
        intro t ht hw
        unfold QM
        rw [hrn]
        exact ⟨⟨ad', rfl, hag, by rw [ht]; exact hP', hD', hdk', hd3', had', hro'⟩, hS'.F ht⟩
      rcases hrk with ⟨-, hret⟩ | ⟨v', z, -⟩
      · exact W.vret hx hb (by rw [hr, hret]) hq hS'.2.2 hdec hlocks
      · rw [hrn] at z; cases z
theorem snd : ∀ n d : Nat, SND l dC dI cA adr ro n d := by
  intro n
  induction n with
  | zero => intro d sA r h; simp [ex] at h
  | succ n ih =>
    intro d sA r h p e R s m args below meth c A H locs cells slots Q ad ls mt hm hx hb hml hown hts hin hA hE hR hC hW hL hLv hSv KR
    unfold ex at h
    cases hs : stp sA with
    | none => rw [hs] at h; simp at h
    | some o =>
      rw [hs] at h
      obtain ⟨mt', e0, hm', he, hex⟩ := stp_at hs
      obtain rfl : mt = mt' := Option.some.inj (hm.symm.trans hm')
      obtain ⟨hdec, hok⟩ := ok_row hm he
      have hpc : a_pc mt.2.2.2.2 sA.2.1 = e0.1 := by unfold a_pc; rw [he]
      rw [hpc]
      cases o with
      | inl s' =>
        have hl1 := ex_len n d s' r h
        obtain ⟨k', j', L', st', D', M'⟩ := s'
        obtain ⟨hk', hlD, hzD⟩ := a_ex_len hex
        dsimp only at hl1
        refine sn_step hx hb hml hown hts hin hA hE ⟨by omega, by omega⟩ ⟨by omega, by omega⟩ hdec hok hex hW hL hLv hSv ?_
        intro ls' H' locs' ad' hW' hL' hLv' hSv' hag
        refine ih d (k', j', L', st', D', M') r h p e R s m args below meth c A H' locs' _ _ Q ad' ls' mt (by rw [hk']; exact hm) hx hb hml hown hts hin hA hE hR ⟨by dsimp only; omega, by dsimp only; omega⟩ hW' hL' hLv' hSv' ?_
        intro pc2 ls2 H2 locs2 ad2 hW2 hag2
        have e1 : cells + (D'.length - sA.2.2.2.2.1.length) + (r.2.1.length - D'.length) = cells + (r.2.1.length - sA.2.2.2.2.1.length) := by omega
        have e2 : slots + (a_szs D' - a_szs sA.2.2.2.2.1) + (a_szs r.2.1 - a_szs D') = slots + (a_szs r.2.1 - a_szs sA.2.2.2.2.1) := by omega
        dsimp only
        rw [e1, e2]
        exact KR pc2 ls2 H2 locs2 ad2 hW2 (agr_tr hlD hag hag2)
      | inr o =>
        cases o with
        | inl r' =>
          have hrr : r' = r := Option.some.inj h
          subst hrr
          obtain ⟨e1, he1, -, hr2, hcase⟩ := stp_ret hs hm
          obtain rfl : e0 = e1 := Option.some.inj (he.symm.trans he1)
          have hW2 : WH dC dI cA adr ro A s.heap H locs r'.2.1 r'.2.2 ad := by rw [hr2]; exact hW
          have K := KR e0.1 ls H locs ad hW2 agr_rf
          have z1 : r'.2.1.length - sA.2.2.2.2.1.length = 0 := by rw [hr2]; exact Nat.sub_self _
          have z2 : a_szs r'.2.1 - a_szs sA.2.2.2.2.1 = 0 := by rw [hr2]; exact Nat.sub_self _
          rw [z1, z2, Nat.add_zero, Nat.add_zero] at K
          rcases hcase with ⟨hi, v, hrv, hst⟩ | ⟨hi, hrn, hst⟩
          · rw [hst]
            have hlen1 : e0.2.2.1 = 1 := by rw [hi] at hok; simpa [ok_i] using hok
            exact K.1 v hrv (by rw [hdec, hi, hlen1])
          · rw [hst]
            have hlen1 : e0.2.2.1 = 1 := by rw [hi] at hok; simpa [ok_i] using hok
            exact K.2 hrn (by rw [hdec, hi, hlen1])
        | inr cl =>
          obtain ⟨k2, as, rest⟩ := cl
          cases d with
          | zero => simp at h
          | succ d' =>
            dsimp only at h
            cases hc : ex d' n (ent k2 as sA.2.2.2.2.1 sA.2.2.2.2.2) with
            | none => rw [hc] at h; simp at h
            | some r1 =>
              rw [hc] at h
              dsimp only at h
              have hl1 := ex_len n d' _ r1 hc
              have hl2 := ex_len n (d' + 1) _ r h
              dsimp only [ent, aft] at hl1 hl2
              obtain ⟨mt2, hm2⟩ : ∃ mt2, methods[k2]? = some mt2 := by
                cases hq : methods[k2]? with
                | some mt2 => exact ⟨mt2, rfl⟩
                | none =>
                  exfalso
                  cases n with
                  | zero => simp [ex] at hc
                  | succ n' =>
                    unfold ex at hc
                    have : stp (ent k2 as sA.2.2.2.2.1 sA.2.2.2.2.2) = none := by unfold stp ent; dsimp only; rw [hq]
                    rw [this] at hc
                    cases hc
              obtain ⟨-, hn1, hn2, hmx, -, -⟩ := ok_mt hm2
              obtain ⟨hF, hpre⟩ := BP_of hA hE hW
              have hlenq : (a_sl as).length ≤ a_maxL k2 ∧ (∀ v ∈ as, v ∈ sA.2.2.2.1) := by
                rcases a_ex_cls hex with ⟨_, hq⟩ | ⟨-, v, -, -, hq⟩ | ⟨-, -, hq⟩ | ⟨_, -, hq⟩ | ⟨_, _, _, -, -, hq⟩ | ⟨_, _, _, -, -, hq⟩
                · cases hq
                · cases hq
                · cases hq
                · obtain ⟨z1, -, -, z2⟩ := a_call_at (a_callv_at hq).1
                  cases z1
                  exact ⟨z2, fun v hv => List.mem_of_mem_take (List.mem_reverse.mp hv)⟩
                · obtain ⟨z1, -, -, z2⟩ := a_call_at hq
                  cases z1
                  exact ⟨z2, fun v hv => List.mem_of_mem_take (List.mem_reverse.mp hv)⟩
                · obtain ⟨z1, -, -, z2⟩ := a_call_at (a_calls_at hq).1
                  cases z1
                  exact ⟨z2, fun v hv => List.mem_of_mem_take (List.mem_reverse.mp hv)⟩
              have hM := met_of (ih d') hc hm2 hlenq.1 (fun v hv => hSv v (hlenq.2 v hv)) ad H.size
              obtain ⟨hn, -, -, hrs, hrun⟩ := sn_run (cells := cells) (slots := slots) (R := R) (e := e) (below := below) (meth := meth) hx hb hml hown hts hE hdec hok hW hL hex hm2 hn1 hn2 hmx hM BP_blind hpre ⟨by omega, by omega⟩ ⟨by omega, by omega⟩
              have hS := hW.2.2.1
              have back : ∀ (u : Nat → Nat) (t : State) (H1 : Heap) (locs1 : List Loc), t.heap = H1 → agr sA.2.2.2.2.1.length ad u → BW dC dI cA adr ro (va_A (wso cA ad sA.2.2.2.2.1 sA.2.2.2.2.2) H.size) r1.2.1 r1.2.2 u t → va_S A s.heap H1 locs1 → (∀ v ∈ r1.1.toList, vok r1.2.1.length v) → W p l e R s m args below meth c H1 locs1 (cells + (r1.2.1.length - sA.2.2.2.2.1.length)) (slots + (a_szs r1.2.1 - a_szs sA.2.2.2.2.1)) Q (F0 m (e0.1 + 3) ls ((r1.1.toList ++ rest).map (cv u))) := by
                intro u t H1 locs1 ht hag hB hS1 hrv
                obtain ⟨hP1, hD1, hdk1, hd31, had1, hro1⟩ := hB
                rw [ht] at hP1
                rw [← hn]
                refine ih (d' + 1) (aft sA r1 rest) r h p e R s m args below meth c A H1 locs1 _ _ Q u ls mt hm hx hb hml hown hts hin hA hE hR ⟨by dsimp only [aft]; omega, by dsimp only [aft]; omega⟩ ⟨hP1, hD1.weaken (fun _ q _ hq => hF q.1 hq), hS1, hdk1, hd31, had1, hro1⟩ (hL.agr hag hLv) (fun i v hv => vok_up hl1.1 (hLv i v hv)) (fun v hv => ?_) ?_
                · rcases List.mem_append.mp hv with z | z
                  · exact hrv v z
                  · exact vok_up hl1.1 (hSv v (hrs v z))
                · intro pc2 ls2 H2 locs2 ad2 hW2 hag2
                  have e1 : cells + (r1.2.1.length - sA.2.2.2.2.1.length) + (r.2.1.length - r1.2.1.length) = cells + (r.2.1.length - sA.2.2.2.2.1.length) := by omega
                  have e2 : slots + (a_szs r1.2.1 - a_szs sA.2.2.2.2.1) + (a_szs r.2.1 - a_szs r1.2.1) = slots + (a_szs r.2.1 - a_szs sA.2.2.2.2.1) := by omega
                  dsimp only [aft]
                  rw [e1, e2]
                  exact KR pc2 ls2 H2 locs2 ad2 hW2 (agr_tr hl1.1 hag hag2)
              have hrest : ∀ u : Nat → Nat, agr sA.2.2.2.2.1.length ad u → rest.map (cv u) = rest.map (cv ad) := fun u hag => map_agr hag (fun v hv => hSv v (hrs v hv))
              have hrk := ex_ret n d' _ r1 mt2 hc hm2
              rcases hrk with ⟨hr0, -⟩ | ⟨v, hr0, -⟩
              · have eQ : QM dC dI cA adr ro sA.2.2.2.2.1 ad (va_A (wso cA ad sA.2.2.2.2.1 sA.2.2.2.2.2) H.size) r1 = va_Qv (fun u : Nat → Nat => agr sA.2.2.2.2.1.length ad u) (BW dC dI cA adr ro (va_A (wso cA ad sA.2.2.2.2.1 sA.2.2.2.2.2) H.size) r1.2.1 r1.2.2) (va_A (wso cA ad sA.2.2.2.2.1 sA.2.2.2.2.2) H.size) := by unfold QM; rw [hr0]
                rw [eQ] at hrun
                refine va_callv hrun hS (fun q _ hq => hF q hq) hF (fun u t H1 locs1 ht hvm hpo hB hz1 hk1 hS1 => ?_)
                have K := back u t H1 locs1 ht hpo hB hS1 (by rw [hr0]; exact fun v hv => absurd hv List.not_mem_nil)
                rw [hr0, List.map_append, hrest u hpo] at K
                exact K
              · have eQ : QM dC dI cA adr ro sA.2.2.2.2.1 ad (va_A (wso cA ad sA.2.2.2.2.1 sA.2.2.2.2.2) H.size) r1 = va_Qi (fun (z : Int32) (u : Nat → Nat) => z = v ∧ agr sA.2.2.2.2.1.length ad u) (BW dC dI cA adr ro (va_A (wso cA ad sA.2.2.2.2.1 sA.2.2.2.2.2) H.size) r1.2.1 r1.2.2) (va_A (wso cA ad sA.2.2.2.2.1 sA.2.2.2.2.2) H.size) := by unfold QM; rw [hr0]
                rw [eQ] at hrun
                refine va_calli hrun hS (fun q _ hq => hF q hq) hF (fun z u t H1 locs1 ht hvm hpo hB hz1 hk1 hS1 => ?_)
                obtain ⟨rfl, hag⟩ := hpo
                have K := back u t H1 locs1 ht hag hB hS1 (by rw [hr0]; exact fun v hv => by rw [List.mem_singleton.mp hv]; trivial)
                rw [hr0, List.map_append, hrest u hag] at K
                exact K
end SM
