-- SOUNDNESS of calls and returns
section SC
variable {p : Program} {l : Launch} {e : Env} {R : Room} {s : State} {m : MethodId} {args : Array Value} {below : List Frame} {meth : Method} {c : Code} {H : Heap} {locs : List Loc} {cells slots : Nat} {Q : State → Prop} {bs : ByteArray} {own nm : String} {tb : List AEn} {ad : Nat → Nat} {ls : Array Slot} {nL k j pc len k' j' : Nat} {aux wx : List Nat} {L L' : ALo} {st st' : List Value} {D D' : ADd} {M M' : AMm}
variable {dC : Nat → ClassId} {dI : Nat → Nat → Nat} {cA : ClassId × ClassId × ClassId} {adr : Nat → Nat} {ro : Nat → Nat → Int32} {A : Nat → Prop}
theorem EV.weaken {B : Nat → Prop} {U : State} (h : EV dC dI cA adr ro A U) (hAB : ∀ q, B q → A q) : EV dC dI cA adr ro B U :=
  ⟨h.1, h.2.1, h.2.2.1, fun r h1 h2 => (h.2.2.2.1 r h1 h2).narrow hAB, fun r hr => (h.2.2.2.2.1 r hr).narrow hAB, h.2.2.2.2.2⟩
theorem EV.same {U V : State} (h : EV dC dI cA adr ro A U) (hv : V.vm = U.vm) (hh : V.heap = U.heap) : EV dC dI cA adr ro A V := by
  have ha : U.vm.Alike V.vm := by rw [hv]; exact Vm.Alike.refl U.vm
  refine ⟨h.1.moved ha, fun w hw hn => va_Nw.same ?_ hv.symm (h.2.1 w hw hn), h.2.2.1.moved ha, fun r h1 h2 => ?_, fun r hr => ?_, h.2.2.2.2.2⟩
  · cases w <;> first | rfl | cases hn
  · rw [hh]; exact (h.2.2.2.1 r h1 h2).moved ha
  · rw [hh]; exact (h.2.2.2.2.1 r hr).moved ha
theorem EV.warm {U : State} (h : EV dC dI cA adr ro A s) (hW : s.WarmedH U.vm) (hU : U.heap = H) (hS : va_S A s.heap H locs) : EV dC dI cA adr ro A U := by
  refine ⟨h.1.moved hW.alike, fun w hw hn => ?_, h.2.2.1.moved hW.alike, fun r h1 h2 => ?_, fun r hr => ?_, h.2.2.2.2.2⟩
  · have hq := h.2.1 w hw hn
    cases w <;> first | exact va_Nw.warmF hW hq | exact va_Nw.warmM hW hq | cases hn
  · rw [hU]; exact ((h.2.2.2.1 r h1 h2).kept hS.2.1).moved hW.alike
  · rw [hU]; exact ((h.2.2.2.2.1 r hr).kept hS.2.1).moved hW.alike
/-- the world behind a method -/
def BW (dC : Nat → ClassId) (dI : Nat → Nat → Nat) (cA : ClassId × ClassId × ClassId) (adr : Nat → Nat) (ro : Nat → Nat → Int32) (A : Nat → Prop) (D : ADd) (M : AMm) (u : Nat → Nat) (t : State) : Prop :=
  va_P (dC, dI) classes (wso cA u D M) t.heap ∧ va_D A (wso cA u D M) ∧ dok D ∧ D.length ≤ 1000 ∧ (∀ r, r < 4 → u (1000000 + r) = adr r) ∧ ∀ r, r < 5 → M (1000000 + r) = ro r
/-- a method's start -/
def BP (dC : Nat → ClassId) (dI : Nat → Nat → Nat) (cA : ClassId × ClassId × ClassId) (adr : Nat → Nat) (ro : Nat → Nat → Int32) (sz : Nat) (D : ADd) (M : AMm) (ad : Nat → Nat) (U : State) : Prop :=
  U.heap.size = sz ∧ BW dC dI cA adr ro (fun _ => True) D M ad U ∧ EV dC dI cA adr ro (va_A (wso cA ad D M) sz) U
theorem BP_blind {as : List Value} {sz : Nat} : FrameBlind (va_Pc as (BP dC dI cA adr ro sz D M ad)) := fun a U g mk q => ⟨q.1, q.2.1, q.2.2.1, EV.same q.2.2.2 rfl rfl⟩
theorem BP_of (hA : ∀ q, s.heap.size ≤ q → A q) (hE : EV dC dI cA adr ro A s) (hW : WH dC dI cA adr ro A s.heap H locs D M ad) : (∀ q, va_A (wso cA ad D M) H.size q → A q) ∧ ∀ U : State, U.heap = H → s.WarmedH U.vm → BP dC dI cA adr ro H.size D M ad U := by
  obtain ⟨hP, hD, hS, hdk, hd3, had, hro⟩ := hW
  have hF : ∀ q, va_A (wso cA ad D M) H.size q → A q := by
    intro q hq
    rcases hq with ⟨k, x, hk⟩ | hq
    · exact hD.2 k _ hk
    · exact hA q (Nat.le_trans hS.1 hq)
  exact ⟨hF, fun U hU hw => ⟨by rw [hU], ⟨by rw [hU]; exact hP, hD.weaken (fun _ _ _ _ => trivial), hdk, hd3, had, hro⟩, (hE.warm hw hU hS).weaken hF⟩⟩
theorem take_rev {α : Type} {st : List α} {na : Nat} {x : α} (h0 : 0 < na) (hx : st[na - 1]? = some x) : ∃ ps : List α, (st.take na).reverse = x :: ps ∧ ps.length = na - 1 ∧ st = ps.reverse ++ x :: st.drop na := by
  have hl := (List.getElem?_eq_some_iff.mp hx).1
  have e1 : st.take na = st.take (na - 1) ++ [x] := by
    obtain ⟨n, rfl⟩ : ∃ n, na = n + 1 := ⟨na - 1, by omega⟩
    rw [List.take_add_one]
    simp only [Nat.add_sub_cancel] at hx ⊢
    rw [hx]; rfl
  refine ⟨(st.take (na - 1)).reverse, by rw [e1, List.reverse_append]; rfl, by rw [List.length_reverse, List.length_take]; omega, ?_⟩
  rw [List.reverse_reverse]
  have e2 := (List.take_append_drop na st).symm
  rw [e1, List.append_assoc] at e2
  exact e2
theorem GW_good {w : Nat} {x : Jvm.Cond} (h : a_w w x = true) (hg : goodWord x = true) : GoodIn GW (x :: GW) := by
  intro y hy
  rcases List.mem_cons.mp hy with rfl | hy
  · exact ⟨a_w_in h hg, good_of_word hg⟩
  · exact ⟨hy, good_of_word (List.mem_filter.mp hy).2⟩
theorem sn_run {ins : Instr} (hx : p.tables.exec = Jvm.exec) (hb : c.code = bs) (hml : c.maxLocals = nL) (hown : s.vm.findClass own = some m.cls) (hts : ∀ w ∈ GW, w.before args s = true) (hE : EV dC dI cA adr ro A s) (hd : decode bs pc = .ok (ins, len)) (hok : ok_i own nm tb j pc ins len aux wx = true) (hW : WH dC dI cA adr ro A s.heap H locs D M ad) (hL : LH ad ls nL L)
    {k2 : Nat} {as rest : List Value} (hs : a_ex ins aux k j L st D M = some (.inr (.inr (k2, as, rest)))) {mt2 : AMt} (hm2 : methods[k2]? = some mt2) (hn1 : mt2.1.cls ≠ "java/lang/invoke/MethodHandle") (hn2 : mt2.1.cls ≠ "java/lang/invoke/VarHandle") (hmx : mt2.2.2.1 ≤ 40)
    {d mc ms' : Nat} {B : State → Prop} {Qc : Array Value → State → Outcome → State → Prop} {free : Addr → Prop} (hM : Met l mt2.1 (Cond.code mt2.1 mt2.2.1 mt2.2.2.1 mt2.2.2.2.1 :: GW) { frames := d + 1, cells := mc, slots := ms', locals := 64 * (d + 1) } (va_Pc (as.map (cv ad)) B) Qc mc ms' free)
    (hfb : FrameBlind (va_Pc (as.map (cv ad)) B)) (hpre : ∀ U : State, U.heap = H → s.WarmedH U.vm → B U) (hR : d + 2 ≤ R.frames ∧ 64 * (d + 2) ≤ R.locals) (hf : cells + mc ≤ R.cells ∧ slots + ms' ≤ R.slots) :
    a_pc tb (j + 1) = pc + 3 ∧ (a_sl as).length ≤ a_maxL k2 ∧ (∀ v ∈ as, v ∈ st) ∧ (∀ v ∈ rest, v ∈ st) ∧ va_Run p l e R s m args below meth c H locs cells slots mc ms' (F0 m pc ls (st.map (cv ad))) (rest.map (cv ad)) (Qc (as.map (cv ad)).toArray) free := by
  obtain ⟨hP, hD, hS, hdk, hd3, had, hro⟩ := hW
  have hRR : d + 1 + 1 ≤ R.frames ∧ 8 + (mt2.2.2.1 + 11) + 64 * (d + 1) ≤ R.locals := ⟨hR.1, by omega⟩
  have room : ∀ {r : List Value}, a_cat r ≤ 8 → 2 * (F0 m pc ls (st.map (cv ad))).monitorRoom + ((r.map (cv ad)).map fun v => v.category).sum ≤ 8 := fun h => lv_room (by rw [cat_map]; exact h)
  rcases a_ex_cls hs with ⟨_, hq⟩ | ⟨-, v, -, -, hq⟩ | ⟨-, -, hq⟩ | ⟨i, rfl, hq⟩ | ⟨i, c0, n0, rfl, rfl, hq⟩ | ⟨i, c0, n0, rfl, rfl, hq⟩
  · cases hq
  · cases hq
  · cases hq
  · obtain ⟨hca, hna, a, fs, hat, hDa⟩ := a_callv_at hq
    obtain ⟨hxe, hnl, hcat, hsl⟩ := a_call_at hca
    cases hxe
    simp only [ok_i, Bool.and_eq_true, beq_iff_eq] at hok
    obtain ⟨rfl, hn, hw⟩ := hok
    split at hw
    · rename_i mt w nest w2 w3 wi wc q hmt hc
      obtain rfl : mt2 = mt := Option.some.inj (hm2.symm.trans hmt)
      simp only [Bool.and_eq_true, decide_eq_true_eq, ok_cl] at hw
      obtain ⟨hln, hqc, hw2, hw3, hwi, hwc, hpar⟩ := hw
      obtain ⟨ps, e1, e2, e3⟩ := take_rev hna hat
      refine ⟨hn, hsl, fun v hv => List.mem_of_mem_take (List.mem_reverse.mp hv), fun v hv => List.mem_of_mem_drop hv, ?_⟩
      have hrv := va_recv hE.1 hP hc (wso_at hDa)
      rw [hqc] at hrv
      have eas : ((st.take (a_hd aux.tail)).reverse).map (cv ad) = .ref (ad a) :: ps.map (cv ad) := by rw [e1]; rfl
      rw [eas] at hM hfb ⊢
      have hst : st.map (cv ad) = (ps.map (cv ad)).reverse ++ .ref (ad a) :: (st.drop (a_hd aux.tail)).map (cv ad) := by
        conv => lhs; rw [e3]
        rw [List.map_append, List.map_reverse]; rfl
      have hlen : (ps.map (cv ad)).length = a_hd aux.tail - 1 := by rw [List.length_map, e2]
      unfold ok_ln at hln
      split at hln
      · exact va_runV (As := ps.map (cv ad)) ⟨hx, hb, hml, hown, hts⟩ hM ⟨callB_of _ hts (GW_good hwc rfl) rfl rfl rfl (hts _ (a_w_in hwi rfl)) (hts _ (a_w_in hln rfl)) ⟨hn1, hn2, hpar⟩ hRR, hts _ (a_w_in hw2 rfl), hts _ (a_w_in hw3 rfl)⟩ ⟨hfb, hrv, fun U h1 h2 => ⟨rfl, hpre U h1 h2⟩⟩ rfl hlen hL.1 hst (room hcat) hd hf
      · exact va_runVN (As := ps.map (cv ad)) ⟨hx, hb, hml, hown, hts⟩ hM ⟨va_cnB _ hts (GW_good hwc rfl) rfl rfl rfl (hE.2.1 _ (a_w_tbl hln) rfl) (hts _ (a_w_in hwi rfl)) ⟨hn1, hn2, hpar⟩ hRR, hts _ (a_w_in hw2 rfl), hts _ (a_w_in hw3 rfl)⟩ ⟨hfb, hrv, fun U h1 h2 => ⟨rfl, hpre U h1 h2⟩⟩ rfl hlen hL.1 hst (room hcat) hd hf
    · cases hw
  · obtain ⟨hxe, hnl, hcat, hsl⟩ := a_call_at hq
    cases hxe
    simp only [ok_i, Bool.and_eq_true, beq_iff_eq] at hok
    obtain ⟨rfl, hn, hw⟩ := hok
    split at hw
    · rename_i c1 n1 w nest w2 wi wc hax
      obtain ⟨rfl, rfl⟩ : k2 = c1 ∧ n0 = n1 := by injection hax with z1 z2; injection z2 with z2 z3; exact ⟨z1, z2⟩
      rw [hm2] at hw
      simp only [Bool.and_eq_true, ok_cl, decide_eq_true_eq] at hw
      obtain ⟨hln, hw2, hwi, hwc, hpar⟩ := hw
      refine ⟨hn, hsl, fun v hv => List.mem_of_mem_take (List.mem_reverse.mp hv), fun v hv => List.mem_of_mem_drop hv, ?_⟩
      have hst : st.map (cv ad) = (((st.take n0).reverse).map (cv ad)).reverse ++ (st.drop n0).map (cv ad) := by
        rw [← List.map_reverse, List.reverse_reverse, ← List.map_append, List.take_append_drop]
      have hlen : (((st.take n0).reverse).map (cv ad)).length = n0 := by rw [List.length_map, List.length_reverse, List.length_take]; omega
      unfold ok_ln at hln
      split at hln
      · exact va_runS (As := ((st.take n0).reverse).map (cv ad)) ⟨hx, hb, hml, hown, hts⟩ hM ⟨callB_of _ hts (GW_good hwc rfl) rfl rfl rfl (hts _ (a_w_in hwi rfl)) (hts _ (a_w_in hln rfl)) ⟨hn1, hn2, hpar⟩ hRR, hts _ (a_w_in hw2 rfl)⟩ ⟨hfb, fun U h1 h2 => ⟨rfl, hpre U h1 h2⟩⟩ rfl hlen hL.1 hst (room hcat) hd hf
      · exact va_runSN (As := ((st.take n0).reverse).map (cv ad)) ⟨hx, hb, hml, hown, hts⟩ hM ⟨va_cnB _ hts (GW_good hwc rfl) rfl rfl rfl (hE.2.1 _ (a_w_tbl hln) rfl) (hts _ (a_w_in hwi rfl)) ⟨hn1, hn2, hpar⟩ hRR, hts _ (a_w_in hw2 rfl), trivial⟩ ⟨hfb, fun U h1 h2 => ⟨rfl, hpre U h1 h2⟩⟩ rfl hlen hL.1 hst (room hcat) hd hf
    · rename_i hax; cases hax
    · rename_i hax; cases hax
    · cases hw
  · obtain ⟨hca, hna, a, hat⟩ := a_calls_at hq
    obtain ⟨hxe, hnl, hcat, hsl⟩ := a_call_at hca
    cases hxe
    simp only [ok_i, Bool.and_eq_true, beq_iff_eq] at hok
    obtain ⟨rfl, hn, hw⟩ := hok
    split at hw
    · rename_i c1 n1 w nest w2 wi wc hax
      obtain ⟨rfl, rfl⟩ : k2 = c1 ∧ n0 = n1 := by injection hax with z1 z2; injection z2 with z2 z3; exact ⟨z1, z2⟩
      rw [hm2] at hw
      simp only [Bool.and_eq_true, ok_cl, decide_eq_true_eq] at hw
      obtain ⟨hln, hw2, hini, hret, hwi, hwc, hpar⟩ := hw
      obtain ⟨ps, e1, e2, e3⟩ := take_rev hna hat
      refine ⟨hn, hsl, fun v hv => List.mem_of_mem_take (List.mem_reverse.mp hv), fun v hv => List.mem_of_mem_drop hv, ?_⟩
      have eas : ((st.take n0).reverse).map (cv ad) = .ref (ad a) :: ps.map (cv ad) := by rw [e1]; rfl
      rw [eas] at hM hfb ⊢
      rw [hret] at hM hwc
      have hst : st.map (cv ad) = (ps.map (cv ad)).reverse ++ .ref (ad a) :: (st.drop n0).map (cv ad) := by
        conv => lhs; rw [e3]
        rw [List.map_append, List.map_reverse]; rfl
      have hlen : (ps.map (cv ad)).length = n0 - 1 := by rw [List.length_map, e2]
      unfold ok_ln at hln
      split at hln
      · exact va_runI (As := ps.map (cv ad)) ⟨hx, hb, hml, hown, hts⟩ hM ⟨callB_of _ hts (GW_good hwc rfl) rfl rfl rfl (hts _ (a_w_in hwi rfl)) (hts _ (a_w_in hln rfl)) ⟨hn1, hn2, hpar⟩ hRR, hini, hts _ (a_w_in hw2 rfl)⟩ ⟨hfb, fun U h1 h2 => ⟨rfl, hpre U h1 h2⟩⟩ rfl hlen hL.1 hst (room hcat) hd hf
      · exact va_runIN (As := ps.map (cv ad)) ⟨hx, hb, hml, hown, hts⟩ hM ⟨va_cnB _ hts (GW_good hwc rfl) rfl rfl rfl (hE.2.1 _ (a_w_tbl hln) rfl) (hts _ (a_w_in hwi rfl)) ⟨hn1, hn2, hpar⟩ hRR, hini, hts _ (a_w_in hw2 rfl)⟩ ⟨hfb, fun U h1 h2 => ⟨rfl, hpre U h1 h2⟩⟩ rfl hlen hL.1 hst (room hcat) hd hf
    · rename_i hax; cases hax
    · cases hw
end SC
