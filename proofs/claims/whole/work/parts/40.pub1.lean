-- THE CLASS: its public calls, those that change no field
section P1
variable {d : Nat} {o i0 i1 : Option Nat} {ext : ADd} {M : AMm} {R C bg sp pn : Nat} {er pd : Nat → Int32} {j0 j1 : Option Fld}
def an_fault (R C pn : Nat) (pd : Nat → Int32) (x : Int32) : Int32 := if x = 0 then en6 (ff (R * C) pd pn 0) else if x = nI 1 then en6 (wft pd pn 0) else -(nI 2)
theorem q_fault (h : CS R C er bg sp pn pd j0 j1 o i0 i1 ext M) (x : Int32) : OC (d + 5) 40 [.ref 0, .int x] (DB o i0 i1 ext) M (CPo R C er bg sp pn pd j0 j1 M (an_fault R C pn pd x)) := by
  obtain ⟨h1, h2, h3, h4, h5, h6⟩ := h
  have h : CS R C er bg sp pn pd j0 j1 o i0 i1 ext M := ⟨h1, h2, h3, h4, h5, h6⟩
  unfold an_fault
  refine b_X4_fault_0 _ ⟨fun e => ?_, fun e => ⟨fun e2 => ?_, fun e2 => ?_⟩⟩
  · rw [if_pos e]
    exact s_fieldFault h4 h2.2.2.1 h3.1.le ⟨_, _, _, _, _, _, rfl, CPo.same h _⟩
  · rw [if_neg e, if_pos e2]
    exact s_wayFault h1 h4 ⟨_, _, _, _, _, _, rfl, CPo.same h _⟩
  · rw [if_neg e, if_neg e2]
    exact ⟨_, _, _, _, _, _, rfl, CPo.same h _⟩
def an_ears (R C : Nat) (er : Nat → Int32) (x : Int32) : Int32 := if x < 0 ∨ nI (R * C) ≤ x then -(nI 1) else if er x.toNatClampNeg = -(nI 1) then -(nI 6) else er x.toNatClampNeg
theorem q_ears (h : CS R C er bg sp pn pd j0 j1 o i0 i1 ext M) (x : Int32) : OC (d + 5) 42 [.ref 0, .int x] (DB o i0 i1 ext) M (CPo R C er bg sp pn pd j0 j1 M (an_ears R C er x)) := by
  obtain ⟨h1, h2, h3, h4, h5, h6⟩ := h
  have h : CS R C er bg sp pn pd j0 j1 o i0 i1 ext M := ⟨h1, h2, h3, h4, h5, h6⟩
  have hl := h3.1.le
  unfold an_ears
  refine b_X4_ears_0 _ (s_has h2.2.2.1 hl (fun e => ⟨fun _ => ?_, fun e2 => absurd rfl e2⟩) (fun p hp e => ⟨fun e2 => absurd e2 (by decide), fun _ => ?_⟩))
  · rw [if_pos e]; exact ⟨_, _, _, _, _, _, rfl, CPo.same h _⟩
  · subst e
    rw [if_neg (inP_n h3.1 hp), n_cl (by omega)]
    refine s_isOpenN h2 h3.1 (by omega) ?_
    rw [bI_0]
    refine ⟨fun e => ?_, fun e => ⟨n_in (by omega) (by decide), ?_⟩⟩
    · have : er p = -(nI 1) := by
        apply Classical.byContradiction
        intro hn
        rw [(opn_t er _ p).mpr ⟨hp, hn⟩] at e
        cases e
      rw [if_pos this]; exact ⟨_, _, _, _, _, _, rfl, CPo.same h _⟩
    · have : er p ≠ -(nI 1) := ((opn_t er _ p).mp (or_no e)).2
      rw [if_neg this, (h2.2.2.2.2.2.2 p hp).1]
      exact ⟨_, _, _, _, _, _, rfl, CPo.same h _⟩
def an_judge (R C : Nat) (er : Nat → Int32) (bg sp pn : Nat) (pd : Nat → Int32) (x : Int32) : Int32 := if x < 0 ∨ nI 1 < x then -(nI 2) else if wft pd pn 0 ≠ none then -(nI 5) else if (gw0 R C er bg sp pn pd).2.2.2.2 = 0 then -(nI 6) else if x = 0 then nI (gw0 R C er bg sp pn pd).2.2.1 else nI (gw0 R C er bg sp pn pd).2.2.2.2
theorem q_judge (h : CS R C er bg sp pn pd j0 j1 o i0 i1 ext M) (x : Int32) : OC (d + 5) 45 [.ref 0, .int x] (DB o i0 i1 ext) M (CPo R C er bg sp pn pd j0 j1 M (an_judge R C er bg sp pn pd x)) := by
  obtain ⟨h1, h2, h3, h4, h5, h6⟩ := h
  have h : CS R C er bg sp pn pd j0 j1 o i0 i1 ext M := ⟨h1, h2, h3, h4, h5, h6⟩
  unfold an_judge
  refine b_X4_judge_0 _ ⟨fun e => ?_, fun e => ⟨fun e2 => ?_, fun e2 => ?_⟩⟩
  · rw [if_pos (Or.inl e)]; exact ⟨_, _, _, _, _, _, rfl, CPo.same h _⟩
  · rw [if_neg (by rintro (z | z); exact e z; exact Int32.not_lt.mpr e2 z)]
    refine s_follow h1 h2 h3 h4 (fun e3 => ⟨fun _ => ?_, fun e4 => absurd rfl e4⟩) (fun e3 F p t b w M' e4 e5 e6 e7 e8 e9 e10 => ?_)
    · rw [if_pos e3]; exact ⟨_, _, _, _, _, _, rfl, CPo.same h _⟩
    · rw [if_neg (show ¬ wft pd pn 0 ≠ none from fun z => z e3), e4]
      have fr : ∀ a, (a < 7 ∨ 14 < a) → M' a = M a := fun a ha => e10 a (by omega)
      by_cases hz : w = 0
      · rw [if_pos hz, if_pos hz]
        exact ⟨fun z => absurd z (by decide), fun _ => ⟨fun _ => ⟨_, _, _, _, _, _, rfl, CPo.fr h (Or.inl rfl) fr _⟩, fun z => absurd rfl z⟩⟩
      · rw [if_neg hz, if_neg hz]
        refine ⟨fun z => absurd z (by decide), fun _ => ⟨fun z => absurd z (by decide), fun _ => ⟨fun z => ?_, fun z => ?_⟩⟩⟩
        · rw [if_pos z, e5.2.1]; exact ⟨_, _, _, _, _, _, rfl, CPo.fr h (Or.inl rfl) fr _⟩
        · rw [if_neg z, e9, if_neg hz]; exact ⟨_, _, _, _, _, _, rfl, CPo.fr h (Or.inl rfl) fr _⟩
  · rw [if_pos (Or.inr (Int32.not_le.mp e2))]; exact ⟨_, _, _, _, _, _, rfl, CPo.same h _⟩
def an_way (R C : Nat) (er : Nat → Int32) (bg sp pn : Nat) (pd : Nat → Int32) (x : Int32) : Int32 := if x < 0 ∨ nI 6 < x then -(nI 2) else if wft pd pn 0 ≠ none then -(nI 5) else if (gw0 R C er bg sp pn pd).2.2.2.2 ≠ 0 then -(nI 3) else
  if x = nI 0 then nI (gw0 R C er bg sp pn pd).2.1 else if x = nI 1 then nI ((gw0 R C er bg sp pn pd).2.2.1 + 1) else if x = nI 2 then eo er (mi (opn er (R * C)) (gw0 R C er bg sp pn pd).1) (R * C)
  else if x = nI 3 then nI (mi (gw0 R C er bg sp pn pd).1 (rch R C (gw0 R C er bg sp pn pd).1 (gw0 R C er bg sp pn pd).2.1)) else if x = nI 4 then bI (decide (arn R C (gw0 R C er bg sp pn pd).2.1 &&& (gw0 R C er bg sp pn pd).1 = 0)) else if x = nI 5 then nI (gw0 R C er bg sp pn pd).2.2.2.1 else nI (mi (opn er (R * C)) (gw0 R C er bg sp pn pd).1)
theorem q_way (h : CS R C er bg sp pn pd j0 j1 o i0 i1 ext M) (x : Int32) : OC (d + 5) 46 [.ref 0, .int x] (DB o i0 i1 ext) M (CPo R C er bg sp pn pd j0 j1 M (an_way R C er bg sp pn pd x)) := by
  obtain ⟨h1, h2, h3, h4, h5, h6⟩ := h
  have h : CS R C er bg sp pn pd j0 j1 o i0 i1 ext M := ⟨h1, h2, h3, h4, h5, h6⟩
  have hl := h3.1.le
  unfold an_way
  refine b_X4_way_0 _ ⟨fun e => ?_, fun e => ⟨fun e2 => ?_, fun e2 => ?_⟩⟩
  · rw [if_pos (Or.inl e)]; exact ⟨_, _, _, _, _, _, rfl, CPo.same h _⟩
  · rw [if_neg (by rintro (z | z); exact e z; exact Int32.not_lt.mpr e2 z)]
    refine s_follow h1 h2 h3 h4 (fun e3 => ⟨fun z => absurd z (by decide), fun _ => ?_⟩) (fun e3 F p t b w M' e4 e5 e6 e7 e8 e9 e10 => ?_)
    · rw [if_pos e3]; exact ⟨_, _, _, _, _, _, rfl, CPo.same h _⟩
    · rw [if_neg (show ¬ wft pd pn 0 ≠ none from fun z => z e3), e4]
      have fr : ∀ a, (a < 7 ∨ 14 < a) → M' a = M a := fun a ha => e10 a (by omega)
      have f2 : FI M' R C er bg sp := h2.f7 e10
      by_cases hz : w = 0
      · rw [if_pos hz, if_neg (fun z => z hz)]
        refine ⟨fun _ => ?_, fun z => absurd rfl z⟩
        refine ⟨fun z => ?_, fun z0 => ⟨fun z => ?_, fun z1 => ⟨fun z => ?_, fun z2 => ⟨fun z => ?_, fun z3 => ⟨fun z => ?_, fun z4 => ⟨fun z => ?_, fun z5 => ?_⟩⟩⟩⟩⟩⟩
        · rw [if_pos z, e5.1]; exact ⟨_, _, _, _, _, _, rfl, CPo.fr h (Or.inl rfl) fr _⟩
        · rw [if_neg z0, if_pos z, e5.2.1, nI_add]; exact ⟨_, _, _, _, _, _, rfl, CPo.fr h (Or.inl rfl) fr _⟩
        · rw [if_neg z0, if_neg z1, if_pos z]
          refine s_cut f2.2.2.2.1 e5.2.2.1 (s_earsOf f2 h3.1 (mi_lt (opn_lt hl)) ?_)
          exact ⟨_, _, _, _, _, _, rfl, CPo.fr h (Or.inl rfl) fr _⟩
        · rw [if_neg z0, if_neg z1, if_neg z2, if_pos z, e5.1, e5.2.2.1]
          refine s_reach f2 h3.1 (by omega) e7 ?_
          rw [n_andn]
          exact ⟨_, _, _, _, _, _, rfl, CPo.fr h (Or.inl rfl) fr _⟩
        · rw [if_neg z0, if_neg z1, if_neg z2, if_neg z3, if_pos z, e5.1, e5.2.2.1]
          refine s_isBlind f2 h3.1 e6 e7 ?_
          rw [bI_0]
          refine ⟨fun y => ?_, fun y => ?_⟩
          · rw [y]; exact ⟨_, _, _, _, _, _, rfl, CPo.fr h (Or.inl rfl) fr _⟩
          · rw [or_no y]; exact ⟨_, _, _, _, _, _, rfl, CPo.fr h (Or.inl rfl) fr _⟩
        · rw [if_neg z0, if_neg z1, if_neg z2, if_neg z3, if_neg z4, if_pos z, e5.2.2.2]; exact ⟨_, _, _, _, _, _, rfl, CPo.fr h (Or.inl rfl) fr _⟩
        · rw [if_neg z0, if_neg z1, if_neg z2, if_neg z3, if_neg z4, if_neg z5]
          exact s_cut f2.2.2.2.1 e5.2.2.1 ⟨_, _, _, _, _, _, rfl, CPo.fr h (Or.inl rfl) fr _⟩
      · rw [if_neg hz, if_pos hz]
        exact ⟨fun z => absurd z (by decide), fun _ => ⟨_, _, _, _, _, _, rfl, CPo.fr h (Or.inl rfl) fr _⟩⟩
  · rw [if_pos (Or.inr (Int32.not_le.mp e2))]; exact ⟨_, _, _, _, _, _, rfl, CPo.same h _⟩
/-- all ways have been looked at -/
theorem CS.look (h : CS R C er bg sp pn pd j0 j1 o i0 i1 ext M) {M' : AMm} (e1 : M' 0 7 = nI 1) (e2 : WKn M' R C er bg sp) (e3 : F9 M M') : CS R C er bg sp pn pd j0 j1 (some 2) i0 i1 ext M' := by
  obtain ⟨h1, h2, h3, h4, h5, h6⟩ := h
  obtain ⟨c1, c2, c3, c4⟩ := h5
  refine ⟨h1.of (fun a ha => e3.1 a (by omega) (by omega)), h2.f9 e3, h3, h4.of (e3.2 1 (by decide)) (e3.1 1 (by decide) (by omega)), ⟨Or.inr ⟨e1, rfl, e2⟩, ?_, ?_, ?_⟩, h6.of (fun a z1 z2 => e3.1 a (by omega) (by omega))⟩
  · rw [e3.2 11 (by decide), e3.2 12 (by decide), e3.2 13 (by decide)]
    rcases c2 with z | ⟨z, -, z3⟩
    · exact Or.inl z
    · exact Or.inr ⟨z, rfl, z3⟩
  · rw [e3.2 14 (by decide), e3.2 15 (by decide)]; exact c3
  · rw [e3.2 16 (by decide), e3.2 17 (by decide)]; exact c4
theorem CPo.look (h : CS R C er bg sp pn pd j0 j1 o i0 i1 ext M) {M' : AMm} (e1 : M' 0 7 = nI 1) (e2 : WKn M' R C er bg sp) (e3 : F9 M M') (ans : Int32) : CPo R C er bg sp pn pd j0 j1 M ans ans (some 2) i0 i1 ext M' := ⟨rfl, h.look e1 e2 e3, fun a z1 => e3.1 a (by omega) (by omega)⟩
def an_longest (R C : Nat) (er : Nat → Int32) (bg : Nat) (x : Int32) : Int32 := if x = -(nI 1) then nI ((gp R C G1 15 (Fo0 R C er bg) bg 0).1 + 1) else if x < 0 then -(nI 6) else sgo (some (gp R C G1 15 (Fo0 R C er bg) bg 0)) x.toNatClampNeg
theorem q_longest (h : CS R C er bg sp pn pd j0 j1 o i0 i1 ext M) (x : Int32) : OC (d + 5) 47 [.ref 0, .int x] (DB o i0 i1 ext) M (CPo R C er bg sp pn pd j0 j1 M (an_longest R C er bg x)) := by
  have h2 := h.2.1
  have h3 := h.2.2.1
  unfold an_longest
  refine b_X4_longest_0 _ (s_look h2 h3 (LL_len h3) h.2.2.2.2.1.1 (fun M' e1 e2 e3 => ?_))
  have hc := e2.1
  have hg : lwF (LL R C er bg sp) none = some ((gp R C G1 15 (Fo0 R C er bg) bg 0).1 + 1, (gp R C G1 15 (Fo0 R C er bg) bg 0).2) := (lw_gp 15 (Fo0 R C er bg) bg 0 (br er sp bg 0)).1
  rw [hg] at hc
  refine ⟨fun e => ?_, fun e => s_signOf15 (h.look e1 e2 e3).1 hc (fun z => ?_) (fun i hi z => ?_)⟩
  · rw [if_pos e, hc.1]; exact ⟨_, _, _, _, _, _, rfl, CPo.look h e1 e2 e3 _⟩
  · rw [if_neg e, if_pos z]; exact ⟨_, _, _, _, _, _, rfl, CPo.look h e1 e2 e3 _⟩
  · rw [if_neg e, if_neg (by rw [z]; exact nI_pos hi), z, n_cl hi]; exact ⟨_, _, _, _, _, _, rfl, CPo.look h e1 e2 e3 _⟩
/-- the best way's worth -/
theorem bw_w {g : Nat → Nat → Nat} {n F p t b w : Nat} {l : List Nat} (hn : n ≤ 16) (h : bwF (EE R C g n F p t b) none = some (w, l)) : l = (gp R C (G2 g) n F p t).2 ∧ w = b + ((gp R C (G2 g) n F p t).1 + 31) / 32 := by
  obtain ⟨w', e1, e2, e3⟩ := bw_gp (R := R) (C := C) (g := g) n hn F p t b
  rw [e1] at h
  cases h
  exact ⟨rfl, by omega⟩
def an_best (R C : Nat) (er : Nat → Int32) (bg sp : Nat) (x : Int32) : Int32 := if x = -(nI 1) then nI (br er sp bg 0 + ((gp R C (G2 (br er sp)) 15 (Fo0 R C er bg) bg 0).1 + 31) / 32) else if x < 0 then -(nI 6) else sgo (some (gp R C (G2 (br er sp)) 15 (Fo0 R C er bg) bg 0)) x.toNatClampNeg
theorem q_best (h : CS R C er bg sp pn pd j0 j1 o i0 i1 ext M) (x : Int32) : OC (d + 5) 50 [.ref 0, .int x] (DB o i0 i1 ext) M (CPo R C er bg sp pn pd j0 j1 M (an_best R C er bg sp x)) := by
  have h2 := h.2.1
  have h3 := h.2.2.1
  unfold an_best
  refine b_X4_best_0 _ (s_look h2 h3 (LL_len h3) h.2.2.2.2.1.1 (fun M' e1 e2 e3 => ?_))
  have hc := e2.2.1
  obtain ⟨w, hg, -, -⟩ := bw_gp (R := R) (C := C) (g := br er sp) 15 (by decide) (Fo0 R C er bg) bg 0 (br er sp bg 0)
  have hww := (bw_w (by decide) hg).2
  rw [show bwF (LL R C er bg sp) none = _ from hg] at hc
  refine ⟨fun e => ?_, fun e => s_signOf17 (h.look e1 e2 e3).1 hc (fun z => ?_) (fun i hi z => ?_)⟩
  · rw [if_pos e, hc.1, ← hww]; exact ⟨_, _, _, _, _, _, rfl, CPo.look h e1 e2 e3 _⟩
  · rw [if_neg e, if_pos z]; exact ⟨_, _, _, _, _, _, rfl, CPo.look h e1 e2 e3 _⟩
  · rw [if_neg e, if_neg (by rw [z]; exact nI_pos hi), z, n_cl hi]; exact ⟨_, _, _, _, _, _, rfl, CPo.look h e1 e2 e3 _⟩
/-- how many ways that cut all end at a place -/
def aw (R C : Nat) (er : Nat → Int32) (bg z : Nat) : Nat := (WW R C (pc (Fo0 R C er bg)) [(Fo0 R C er bg, bg)]).countP (fun s => decide (s = (0, z)))
theorem ae_aw (hw : WF R C er bg sp) (z : Nat) : aeF (LL R C er bg sp) z = aw R C er bg z := ae_W (F := Fo0 R C er bg) hw.1 hw.2.2.1 (Fo0_lt hw) (by have := Fo0_pc hw; have := pc_le (opn er (R * C)); omega)
theorem aw_out (hw : WF R C er bg sp) {z : Nat} (hz : R * C ≤ z) : aw R C er bg z = 0 := by
  unfold aw
  rw [List.countP_eq_zero]
  intro s hs
  have := (WW_inv hw.1 (Fo0_lt hw) hw.2.2.1 Fo0_bg _ s hs).2.1
  intro he
  have he := of_decide_eq_true he
  rw [he] at this
  exact absurd this (by dsimp only; omega)
theorem aw_sum (hw : WF R C er bg sp) : fb_sm (aw R C er bg) 16 = fb_sm (aw R C er bg) (R * C) := by
  have hl := hw.1.le
  have h := fb_sm_split (aw R C er bg) (R * C) (16 - R * C)
  rw [show R * C + (16 - R * C) = 16 by omega] at h
  have h2 : fb_sm (fun k => aw R C er bg (R * C + k)) (16 - R * C) = fb_sm (fun _ => 0) (16 - R * C) := fb_sm_cong (fun k _ => aw_out hw (Nat.le_add_right _ _))
  rw [fb_sm_const] at h2
  omega
def an_all (R C : Nat) (er : Nat → Int32) (bg : Nat) (x : Int32) : Int32 := if x = -(nI 1) then nI (fb_sm (aw R C er bg) (R * C)) else if x < 0 ∨ nI (R * C) ≤ x then -(nI 1) else nI (aw R C er bg x.toNatClampNeg)
theorem q_all (h : CS R C er bg sp pn pd j0 j1 o i0 i1 ext M) (x : Int32) : OC (d + 5) 48 [.ref 0, .int x] (DB o i0 i1 ext) M (CPo R C er bg sp pn pd j0 j1 M (an_all R C er bg x)) := by
  have h2 := h.2.1
  have h3 := h.2.2.1
  have hl := h3.1.le
  unfold an_all
  refine b_X4_all_0 _ ⟨fun e => ?_, fun e => ?_⟩
  · refine s_look h2 h3 (LL_len h3) h.2.2.2.2.1.1 (fun M' e1 e2 e3 => ?_)
    rw [if_pos e]
    have loop : ∀ n k, 16 - k = n → k ≤ 16 → T (d + 5) (fun r => ∃ v o i0 i1 ext M', r = (some (.int v), DB o i0 i1 ext, M') ∧ CPo R C er bg sp pn pd j0 j1 M (nI (fb_sm (aw R C er bg) (R * C))) v o i0 i1 ext M') (48, 24, [some (.ref 0), none, some (.int (nI (fb_sm (aw R C er bg) k))), some (.int (nI k))], [], (DB (some 2) i0 i1 ext), M') := by
      intro n
      induction n with
      | zero =>
        intro k h0 hk
        obtain rfl : k = 16 := by omega
        refine b_X4_all_24 _ _ ⟨fun _ => ?_, fun z => absurd (nI_le (Nat.le_refl _) (by decide)) z⟩
        rw [aw_sum h3]
        exact ⟨_, _, _, _, _, _, rfl, CPo.look h e1 e2 e3 _⟩
      | succ n ih =>
        intro k h0 hk
        refine b_X4_all_24 _ _ ⟨fun z => ?_, fun _ => ⟨n_in (by omega) (by decide), ?_⟩⟩
        · rw [n_le (by decide) (by omega)] at z; omega
        · rw [n_cl (by omega), e2.2.2 k (by omega), ae_aw h3, nI_add, nI_add]
          exact ih (k + 1) (by omega) (by omega)
    exact loop 16 0 rfl (by decide)
  · rw [if_neg e]
    refine s_has h2.2.2.1 hl (fun z => ⟨fun _ => ?_, fun z2 => absurd rfl z2⟩) (fun p hp z => ⟨fun z2 => absurd z2 (by decide), fun _ => ?_⟩)
    · rw [if_pos z]; exact ⟨_, _, _, _, _, _, rfl, CPo.same h _⟩
    · subst z
      rw [if_neg (inP_n h3.1 hp), n_cl (by omega)]
      refine s_look h2 h3 (LL_len h3) h.2.2.2.2.1.1 (fun M' e1 e2 e3 => ⟨n_in (by omega) (by decide), ?_⟩)
      rw [e2.2.2 p (by omega), ae_aw h3]
      exact ⟨_, _, _, _, _, _, rfl, CPo.look h e1 e2 e3 _⟩
theorem q_bound (h : CS R C er bg sp pn pd j0 j1 o i0 i1 ext M) : OC (d + 5) 49 [.ref 0] (DB o i0 i1 ext) M (CPo R C er bg sp pn pd j0 j1 M (nI (bnd R C (opn er (R * C)) bg))) := by
  have h2 := h.2.1
  have h3 := h.2.2.1
  have hl := h3.1.le
  have hb := h3.2.2.1
  refine b_X4_bound_0 ?_
  rw [h2.2.2.2.2.1]
  exact s_boundFrom h2 h3.1 (by omega) ⟨_, _, _, _, _, _, rfl, CPo.same h _⟩
/-- places with more than none, as bits -/
def lsb (a : Nat → Nat) : Nat → Nat
  | 0 => 0
  | k + 1 => if 0 < a k then sb (lsb a k) k else lsb a k
theorem lsb_out {a : Nat → Nat} {n : Nat} : ∀ j, (∀ k, n ≤ k → a k = 0) → lsb a (n + j) = lsb a n
  | 0, _ => rfl
  | j + 1, h => by
    show (if 0 < a (n + j) then _ else lsb a (n + j)) = _
    rw [if_neg (by rw [h _ (by omega)]; omega), lsb_out j h]
theorem lsb_lt {a : Nat → Nat} : ∀ n, n ≤ 16 → lsb a n < 65536
  | 0, _ => Nat.zero_lt_succ _
  | n + 1, h => by
    have ih := lsb_lt (a := a) n (by omega)
    unfold lsb
    split
    · exact sb_lt ih (by omega)
    · exact ih
theorem aw_small (hw : WF R C er bg sp) (z : Nat) : aw R C er bg z < 1000000 := by
  rw [← ae_aw hw]
  exact Nat.lt_of_le_of_lt (List.countP_le_length) (LL_len hw)
theorem q_last (h : CS R C er bg sp pn pd j0 j1 o i0 i1 ext M) : OC (d + 5) 55 [.ref 0] (DB o i0 i1 ext) M (CPo R C er bg sp pn pd j0 j1 M (nI (lsb (aw R C er bg) (R * C)))) := by
  have h2 := h.2.1
  have h3 := h.2.2.1
  have hl := h3.1.le
  refine b_X4_last_0 (s_look h2 h3 (LL_len h3) h.2.2.2.2.1.1 (fun M' e1 e2 e3 => ?_))
  have loop : ∀ n k, 16 - k = n → k ≤ 16 → T (d + 5) (fun r => ∃ v o i0 i1 ext M', r = (some (.int v), DB o i0 i1 ext, M') ∧ CPo R C er bg sp pn pd j0 j1 M (nI (lsb (aw R C er bg) (R * C))) v o i0 i1 ext M') (55, 6, [some (.ref 0), some (.int (nI (lsb (aw R C er bg) k))), some (.int (nI k))], [], (DB (some 2) i0 i1 ext), M') := by
    intro n
    induction n with
    | zero =>
      intro k h0 hk
      obtain rfl : k = 16 := by omega
      refine b_X4_last_6 _ _ ⟨fun _ => ?_, fun z => absurd (nI_le (Nat.le_refl _) (by decide)) z⟩
      have := lsb_out (a := aw R C er bg) (n := R * C) (16 - R * C) (fun k hk => aw_out h3 hk)
      rw [show R * C + (16 - R * C) = 16 by omega] at this
      rw [this]
      exact ⟨_, _, _, _, _, _, rfl, CPo.look h e1 e2 e3 _⟩
    | succ n ih =>
      intro k h0 hk
      have hs := aw_small h3 k
      have e := ih (k + 1) (by omega) (by omega)
      refine b_X4_last_6 _ _ ⟨fun z => ?_, fun _ => ⟨n_in (by omega) (by decide), ?_⟩⟩
      · rw [n_le (by decide) (by omega)] at z; omega
      · rw [n_cl (by omega), e2.2.2 k (by omega), ae_aw h3, nI_add, ← nI_0, n_le (by omega) (by decide), n_sb (by omega)]
        refine ⟨fun z => ?_, fun z => ?_⟩
        · rw [show lsb (aw R C er bg) (k + 1) = lsb (aw R C er bg) k from if_neg (by omega)] at e; exact e
        · rw [show lsb (aw R C er bg) (k + 1) = sb (lsb (aw R C er bg) k) k from if_pos (by omega)] at e; exact e
  exact loop 16 0 rfl (by decide)
end P1
