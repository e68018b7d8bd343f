-- REPRESENTATION: how the abstract machine's state lies in the heap and in a frame
def cv (ad : Nat → Nat) (v : Value) : Value := match v with
  | .ref i => .ref (ad i)
  | w => w
def a_fv (ad : Nat → Nat) (f : Nat → Int32) (k : Nat) (o : Option (Option Nat)) : Value := match o with
  | none => .int (f k)
  | some r => va_rf (r.map ad)
def ce (cA : ClassId × ClassId × ClassId) (ad : Nat → Nat) (c : ADc) (f : Nat → Int32) : va_E := match c with
  | .inl q => .inr (q.1, q.2.mapIdx (a_fv ad f))
  | .inr (.inl q) => .inl (if q.1 = 0 then cA.1 else cA.2.1, q.2, .inl f)
  | .inr (.inr rs) => .inl (cA.2.2, rs.length, .inr (.inr (.inr (.inr (fun i => (rs.getD i none).map ad)))))
def wso (cA : ClassId × ClassId × ClassId) (ad : Nat → Nat) (D : ADd) (M : AMm) : va_W := D.mapIdx (fun i c => (ad i, ce cA ad c (M i)))
/-- a value's reference is a cell's number, or an array's that nobody writes -/
def vok (n : Nat) (v : Value) : Prop := match v with
  | .ref i => (i : Nat) < n ∨ (1000000 ≤ (i : Nat) ∧ (i : Nat) < 1000004)
  | _ => True
def cok (n : Nat) (c : ADc) : Prop := match c with
  | .inl q => ∀ a : Nat, some (some a) ∈ q.2 → vok n (.ref a)
  | .inr (.inl _) => True
  | .inr (.inr rs) => ∀ a : Nat, some a ∈ rs → vok n (.ref a)
def dok (D : ADd) : Prop := ∀ (i : Nat) (c : ADc), D[i]? = some c → cok D.length c
def a_sz (c : ADc) : Nat := match c with
  | .inl q => q.2.length
  | .inr (.inl q) => q.2
  | .inr (.inr rs) => rs.length
def a_szs (D : ADd) : Nat := (D.map a_sz).sum
theorem cv_cat (ad : Nat → Nat) (v : Value) : (cv ad v).category = v.category := by cases v <;> rfl
theorem cv_rf (ad : Nat → Nat) (r : Option Nat) : cv ad (a_rf r) = va_rf (r.map ad) := by cases r <;> rfl
theorem vok_up {n n' : Nat} (h : n ≤ n') {v : Value} (hv : vok n v) : vok n' v := by
  cases v <;> first | trivial | exact hv.elim (fun q => Or.inl (Nat.lt_of_lt_of_le q h)) Or.inr
theorem cok_up {n n' : Nat} (h : n ≤ n') {c : ADc} (hc : cok n c) : cok n' c := by
  rcases c with q | q | rs
  · exact fun a ha => vok_up h (hc a ha)
  · trivial
  · exact fun a ha => vok_up h (hc a ha)
/-- two namings that agree where it counts -/
def agr (n : Nat) (ad ad' : Nat → Nat) : Prop := (∀ i, i < n → ad' i = ad i) ∧ ∀ i, 1000000 ≤ i → i < 1000004 → ad' i = ad i
theorem agr_rf {n : Nat} {ad : Nat → Nat} : agr n ad ad := ⟨fun _ _ => rfl, fun _ _ _ => rfl⟩
theorem agr_tr {n n' : Nat} {a b c : Nat → Nat} (h : n ≤ n') (h1 : agr n a b) (h2 : agr n' b c) : agr n a c := ⟨fun i hi => (h2.1 i (by omega)).trans (h1.1 i hi), fun i h3 h4 => (h2.2 i h3 h4).trans (h1.2 i h3 h4)⟩
theorem cv_agr {n : Nat} {ad ad' : Nat → Nat} (h : agr n ad ad') {v : Value} (hv : vok n v) : cv ad' v = cv ad v := by
  cases v <;> try rfl
  rename_i i
  show Value.ref (ad' i) = .ref (ad i)
  rcases hv with q | q
  · rw [h.1 i q]
  · rw [h.2 i q.1 q.2]
theorem map_agr {n : Nat} {ad ad' : Nat → Nat} (h : agr n ad ad') {st : List Value} (hs : ∀ v ∈ st, vok n v) : st.map (cv ad') = st.map (cv ad) := List.map_congr_left fun v hv => cv_agr h (hs v hv)
theorem wso_at {cA : ClassId × ClassId × ClassId} {ad : Nat → Nat} {D : ADd} {M : AMm} {i : Nat} {c : ADc} (h : D[i]? = some c) : (wso cA ad D M)[i]? = some (ad i, ce cA ad c (M i)) := by
  unfold wso; rw [List.getElem?_mapIdx, h]; rfl
theorem ce_agr {cA : ClassId × ClassId × ClassId} {n : Nat} {ad ad' : Nat → Nat} (h : agr n ad ad') {c : ADc} (hc : cok n c) (f : Nat → Int32) : ce cA ad' c f = ce cA ad c f := by
  have rm : ∀ r : Option Nat, (∀ a, r = some a → vok n (.ref a)) → r.map ad' = r.map ad := fun r hr => by
    cases r with
    | none => rfl
    | some a =>
      show some _ = some _
      rcases hr a rfl with z | z
      · rw [h.1 a z]
      · rw [h.2 a z.1 z.2]
  rcases c with q | q | rs
  · show Sum.inr _ = Sum.inr _
    congr 2
    apply List.ext_getElem?
    intro i
    rw [List.getElem?_mapIdx, List.getElem?_mapIdx]
    cases hq : q.2[i]? with
    | none => rfl
    | some o =>
      show some _ = some _
      cases o with
      | none => rfl
      | some r => show some (va_rf _) = some (va_rf _); rw [rm r (fun a ha => hc a (by rw [← ha]; exact List.mem_of_getElem? hq))]
  · rfl
  · show Sum.inl _ = Sum.inl _
    congr 7
    funext i
    refine rm _ (fun a ha => hc a ?_)
    rw [List.getD_eq_getElem?_getD] at ha
    cases hr : rs[i]? with
    | none => rw [hr] at ha; cases ha
    | some o => rw [hr] at ha; have : o = some a := ha; subst this; exact List.mem_of_getElem? hr
theorem wso_agr {cA : ClassId × ClassId × ClassId} {ad ad' : Nat → Nat} {D : ADd} (M : AMm) (h : agr D.length ad ad') (hd : dok D) : wso cA ad' D M = wso cA ad D M := by
  apply List.ext_getElem?
  intro i
  cases hi : D[i]? with
  | none => unfold wso; rw [List.getElem?_mapIdx, List.getElem?_mapIdx, hi]; rfl
  | some c =>
    rw [wso_at hi, wso_at hi, ce_agr h (hd i c hi), h.1 i (List.getElem?_eq_some_iff.mp hi).1]
theorem wso_len {cA : ClassId × ClassId × ClassId} {ad : Nat → Nat} {D : ADd} {M : AMm} : (wso cA ad D M).length = D.length := by unfold wso; simp
/-- one cell is another, the rest as it was -/
theorem wso_one {cA : ClassId × ClassId × ClassId} {ad : Nat → Nat} {D D' : ADd} {M M' : AMm} {a : Nat} {c c' : ADc} (h : D[a]? = some c) (hD : D' = D.set a c') (hM : ∀ i, i ≠ a → M' i = M i) : (wso cA ad D M).set a (ad a, ce cA ad c' (M' a)) = wso cA ad D' M' := by
  subst hD
  have hl := (List.getElem?_eq_some_iff.mp h).1
  apply List.ext_getElem?
  intro i
  rw [List.getElem?_set]
  by_cases hi : a = i
  · subst hi
    rw [if_pos rfl, if_pos (by rw [wso_len]; exact hl), wso_at (c := c') (by rw [List.getElem?_set_self hl])]
  · rw [if_neg hi]
    unfold wso
    rw [List.getElem?_mapIdx, List.getElem?_mapIdx, List.getElem?_set_ne hi]
    cases hq : D[i]? with
    | none => rfl
    | some x => show some _ = some _; rw [hM i (fun q => hi q.symm)]
theorem ms_row {M : AMm} {a k : Nat} {v : Int32} : ms M a k v a = upd (M a) k v := by funext b; simp [ms, upd]
theorem ms_off {M : AMm} {a k i : Nat} {v : Int32} (h : i ≠ a) : ms M a k v i = M i := by funext b; simp [ms, h]
theorem mr_row {M : AMm} {a : Nat} {f : Nat → Int32} : mr M a f a = f := by funext b; simp [mr]
theorem mr_off {M : AMm} {a i : Nat} {f : Nat → Int32} (h : i ≠ a) : mr M a f i = M i := by funext b; simp [mr, h]
theorem set_self {α : Type} {l : List α} {a : Nat} {c : α} (h : l[a]? = some c) : l.set a c = l := by
  apply List.ext_getElem?
  intro i
  rw [List.getElem?_set]
  by_cases hi : a = i
  · subst hi; rw [if_pos rfl, if_pos (List.getElem?_eq_some_iff.mp h).1, h]
  · rw [if_neg hi]
theorem fv_set {ad : Nat → Nat} {f : Nat → Int32} {fs : List (Option (Option Nat))} {sl : Nat} {x : Int32} (h : fs[sl]? = some none) : (fs.mapIdx (a_fv ad f)).set sl (.int x) = fs.mapIdx (a_fv ad (upd f sl x)) := by
  have hl := (List.getElem?_eq_some_iff.mp h).1
  apply List.ext_getElem?
  intro i
  rw [List.getElem?_set]
  by_cases hi : sl = i
  · subst hi
    rw [if_pos rfl, if_pos (by simpa using hl), List.getElem?_mapIdx, h]
    simp [a_fv, upd]
  · rw [if_neg hi, List.getElem?_mapIdx, List.getElem?_mapIdx]
    cases fs[i]? with
    | none => rfl
    | some o => cases o <;> simp [a_fv, upd] <;> exact fun q => absurd q.symm hi
theorem fv_setr {ad : Nat → Nat} {f : Nat → Int32} {fs : List (Option (Option Nat))} {sl q : Nat} (h : sl < fs.length) : (fs.mapIdx (a_fv ad f)).set sl (.ref (ad q)) = (fs.set sl (some (some q))).mapIdx (a_fv ad f) := by
  apply List.ext_getElem?
  intro i
  rw [List.getElem?_set, List.getElem?_mapIdx, List.getElem?_mapIdx, List.getElem?_set]
  by_cases hi : sl = i
  · subst hi
    rw [if_pos rfl, if_pos (by simpa using h), if_pos rfl, if_pos h]
    rfl
  · rw [if_neg hi, if_neg hi]
-- locals
def LH (ad : Nat → Nat) (ls : Array Slot) (n : Nat) (L : ALo) : Prop := ls.size = n ∧ lv_wf ls ∧ (∀ (i : Nat) (v : Value), L[i]? = some (some v) → ls[i]? = some (.val (cv ad v))) ∧ L.length = n
def LV (n : Nat) (L : ALo) : Prop := ∀ (i : Nat) (v : Value), L[i]? = some (some v) → vok n v
def asc (ad : Nat → Nat) (L : ALo) : List (Nat × Value) := L.zipIdx.filterMap (fun q => q.1.map (fun v => (q.2, cv ad v)))
theorem asc_mem {ad : Nat → Nat} {L : ALo} {i : Nat} {w : Value} : (i, w) ∈ asc ad L ↔ ∃ v, L[i]? = some (some v) ∧ w = cv ad v := by
  unfold asc
  rw [List.mem_filterMap]
  constructor
  · rintro ⟨⟨o, k⟩, h1, h2⟩
    rw [List.mem_zipIdx_iff_getElem?] at h1
    cases o with
    | none => cases h2
    | some v =>
      simp only [Option.map_some, Option.some.injEq, Prod.mk.injEq] at h2
      obtain ⟨rfl, rfl⟩ := h2
      exact ⟨v, h1, rfl⟩
  · rintro ⟨v, h1, rfl⟩
    exact ⟨(some v, i), List.mem_zipIdx_iff_getElem?.mpr h1, rfl⟩
theorem LH.has {ad : Nat → Nat} {ls : Array Slot} {n : Nat} {L : ALo} (h : LH ad ls n L) : lv_has ls n (asc ad L) := ⟨h.1, h.2.1, fun q hq => by
  obtain ⟨i, w⟩ := q
  obtain ⟨v, h1, rfl⟩ := asc_mem.mp hq
  exact h.2.2.1 i v h1⟩
theorem a_st_set {L L' : ALo} {i : Nat} {v : Value} (h : a_st L i v = some L') : L' = L.set i (some v) ∧ i < L.length ∧ ∀ (j : Nat) (w : Value), j + 1 = i → L[j]? = some (some w) → ¬ w.category = 2 := by
  unfold a_st at h
  cases i with
  | zero =>
    simp only at h
    split at h
    · rename_i hl
      exact ⟨(Option.some.inj h).symm, hl, fun j w hj => by omega⟩
    · cases h
  | succ i =>
    simp only at h
    split at h
    · rename_i hl
      split at h
      · cases h
      · cases h
      · rename_i h1 h2
        refine ⟨(Option.some.inj h).symm, hl, fun j w hj hw hc => ?_⟩
        have hji : j = i := by omega
        subst hji
        cases w <;> first | (simp [Value.category] at hc; done) | exact h1 _ hw | exact h2 _ hw
    · cases h
theorem LH.set {ad : Nat → Nat} {ls' : Array Slot} {n i : Nat} {L L' : ALo} {v : Value} (hn : L.length = n) (hs : a_st L i v = some L') (h : lv_has ls' n ((i, cv ad v) :: (asc ad L).filter (fun q => !(q.1 == i) && !(q.1 + 1 == i && q.2.category == 2)))) : LH ad ls' n L' := by
  obtain ⟨rfl, hi, hc⟩ := a_st_set hs
  refine ⟨h.1, h.2.1, fun j w hw => ?_, by rw [List.length_set]; exact hn⟩
  rw [List.getElem?_set] at hw
  by_cases hj : i = j
  · subst hj
    rw [if_pos rfl, if_pos hi] at hw
    obtain rfl := Option.some.inj (Option.some.inj hw)
    exact h.2.2 (i, cv ad v) List.mem_cons_self
  · rw [if_neg hj] at hw
    refine h.2.2 (j, cv ad w) (List.mem_cons_of_mem _ (List.mem_filter.mpr ⟨asc_mem.mpr ⟨w, hw, rfl⟩, ?_⟩))
    simp only [Bool.and_eq_true, Bool.not_eq_true', beq_eq_false_iff_ne, Bool.and_eq_false_iff]
    refine ⟨fun q => hj q.symm, ?_⟩
    by_cases hj2 : j + 1 = i
    · exact Or.inr (by rw [cv_cat]; simpa using hc j w hj2 hw)
    · exact Or.inl hj2
theorem LV.set {n i : Nat} {L L' : ALo} {v : Value} (h : LV n L) (hv : vok n v) (hs : a_st L i v = some L') : LV n L' := by
  obtain ⟨rfl, hi, -⟩ := a_st_set hs
  intro j w hw
  rw [List.getElem?_set] at hw
  by_cases hj : i = j
  · subst hj
    rw [if_pos rfl, if_pos hi] at hw
    obtain rfl := Option.some.inj (Option.some.inj hw)
    exact hv
  · rw [if_neg hj] at hw; exact h j w hw
theorem LH.agr {ad ad' : Nat → Nat} {ls : Array Slot} {n N : Nat} {L : ALo} (h : LH ad ls n L) (ha : agr N ad ad') (hv : LV N L) : LH ad' ls n L := ⟨h.1, h.2.1, fun i v hi => by rw [cv_agr ha (hv i v hi)]; exact h.2.2.1 i v hi, h.2.2.2⟩
theorem a_ld_at {L : ALo} {i : Nat} {v : Value} (h : a_ld L i = some v) : L[i]? = some (some v) := by
  unfold a_ld at h
  split at h
  · rename_i w hw; rw [hw]; rw [h]
  · cases h
theorem a_sl_args (ad : Nat → Nat) : ∀ (as : List Value) (o i : Nat) (v : Value), (a_sl as)[i]? = some (some v) → (o + i, cv ad v) ∈ lv_args o (as.map (cv ad))
  | [], _, _, _, h => by simp [a_sl] at h
  | w :: r, o, i, v, h => by
    have one : ∀ w : Value, ¬ w.category = 2 → (some w :: a_sl r)[i]? = some (some v) → (o + i, cv ad v) ∈ lv_args o ((w :: r).map (cv ad)) := by
      intro w hw h
      show _ ∈ (o, cv ad w) :: lv_args (if (cv ad w).category = 2 then o + 2 else o + 1) (r.map (cv ad))
      rw [cv_cat, if_neg hw]
      cases i with
      | zero => simp at h; subst h; exact List.mem_cons_self
      | succ i =>
        refine List.mem_cons_of_mem _ ?_
        have := a_sl_args ad r (o + 1) i v (by simpa using h)
        rw [show o + (i + 1) = o + 1 + i by omega]
        exact this
    have two : ∀ w : Value, w.category = 2 → (some w :: none :: a_sl r)[i]? = some (some v) → (o + i, cv ad v) ∈ lv_args o ((w :: r).map (cv ad)) := by
      intro w hw h
      show _ ∈ (o, cv ad w) :: lv_args (if (cv ad w).category = 2 then o + 2 else o + 1) (r.map (cv ad))
      rw [cv_cat, if_pos hw]
      match i, h with
      | 0, h => simp at h; subst h; exact List.mem_cons_self
      | 1, h => simp at h
      | i + 2, h =>
        refine List.mem_cons_of_mem _ ?_
        have := a_sl_args ad r (o + 2) i v (by simpa using h)
        rw [show o + (i + 2) = o + 2 + i by omega]
        exact this
    cases w with
    | int x => exact one _ (by simp [Value.category]) h
    | long x => exact two _ (by simp [Value.category]) h
    | float x => exact one _ (by simp [Value.category]) h
    | double x => exact two _ (by simp [Value.category]) h
    | null => exact one _ (by simp [Value.category]) h
    | ref x => exact one _ (by simp [Value.category]) h
    | retAddr x => exact one _ (by simp [Value.category]) h
theorem a_sl_len (ad : Nat → Nat) : ∀ as : List Value, (lg_sl (as.map (cv ad))).length = (a_sl as).length
  | [] => rfl
  | w :: r => by
    have ih := a_sl_len ad r
    unfold lg_sl at ih ⊢
    rw [List.map_cons, List.flatMap_cons, List.length_append, ih, cv_cat]
    cases w <;> simp [a_sl, Value.category] <;> omega
theorem LH_entry (ad : Nat → Nat) (as : List Value) {n : Nat} (h : (a_sl as).length ≤ n) : LH ad ((lg_sl (as.map (cv ad)) ++ List.replicate (n - (lg_sl (as.map (cv ad))).length) Slot.unset).toArray) n (a_sl as ++ List.replicate (n - (a_sl as).length) none) := by
  have q := lv_entry (as.map (cv ad)) (n := n) (by rw [a_sl_len]; exact h)
  refine ⟨q.1, q.2.1, fun i v hv => ?_, by rw [List.length_append, List.length_replicate]; omega⟩
  have hi : (a_sl as)[i]? = some (some v) := by
    rw [List.getElem?_append] at hv
    split at hv
    · exact hv
    · rw [List.getElem?_replicate] at hv
      split at hv <;> cases hv
  have := a_sl_args ad as 0 i v hi
  rw [Nat.zero_add] at this
  exact q.2.2 _ this
theorem LV_entry {n : Nat} : ∀ {as : List Value}, (∀ v ∈ as, vok n v) → ∀ (x : Nat), LV n (a_sl as ++ List.replicate x none) := by
  have key : ∀ as : List Value, ∀ (i : Nat) (v : Value), (a_sl as)[i]? = some (some v) → v ∈ as := by
    intro as
    induction as with
    | nil => intro i v h; simp [a_sl] at h
    | cons w r ih =>
      intro i v h
      have one : (some w :: a_sl r)[i]? = some (some v) → v ∈ w :: r := by
        intro h
        cases i with
        | zero => simp at h; subst h; exact List.mem_cons_self
        | succ i => exact List.mem_cons_of_mem _ (ih i v (by simpa using h))
      have two : (some w :: none :: a_sl r)[i]? = some (some v) → v ∈ w :: r := by
        intro h
        match i, h with
        | 0, h => simp at h; subst h; exact List.mem_cons_self
        | 1, h => simp at h
        | i + 2, h => exact List.mem_cons_of_mem _ (ih i v (by simpa using h))
      cases w <;> first | exact one h | exact two h
  intro as has x i v hv
  rw [List.getElem?_append] at hv
  split at hv
  · exact has v (key as i v hv)
  · rw [List.getElem?_replicate] at hv
    split at hv <;> cases hv
