-- THE CLASS: its public calls, more that change no field
section P2
variable {d : Nat} {o i0 i1 : Option Nat} {ext : ADd} {M : AMm} {R C bg sp pn : Nat} {er pd : Nat → Int32} {j0 j1 : Option Fld}
/-- the told way stays in the field, is worth little -/
theorem gw_ok (hw : WF R C er bg sp) : ∀ (n i F p t b : Nat), p < R * C → F < 65536 → Sub F (opn er (R * C)) → F.testBit p = false → ∀ F' p' t' b' w', gw R C er sp pd n i F p t b = (F', p', t', b', w') → p' < R * C ∧ F' < 65536 ∧ Sub F' (opn er (R * C)) ∧ F'.testBit p' = false ∧ t' + pc F' = t + pc F ∧ b' + 9 * pc F' ≤ b + 9 * pc F := by
  have hl := hw.1.le
  intro n
  induction n with
  | zero =>
    intro i F p t b h1 h2 h3 h4 F' p' t' b' w' h
    cases h
    exact ⟨h1, h2, h3, h4, rfl, Nat.le_refl _⟩
  | succ n ih =>
    intro i F p t b h1 h2 h3 h4 F' p' t' b' w' h
    unfold gw at h
    have hk : (ds (pd i)).getD 0 < 4 := by
      cases hq : ds (pd i) with
      | none => decide
      | some k => exact ds_lt hq
    split at h
    · cases h
      exact ⟨h1, h2, h3, h4, rfl, Nat.le_refl _⟩
    · rename_i q hq
      split at h
      · rename_i hb
        have hq2 := (nb_ok hw.1 h1 hk hq).1
        have hp := pc_cb (by omega) hb
        have h9 := br9 hw hq2 (t := t + 1)
        obtain ⟨a1, a2, a3, a4, a5, a6⟩ := ih _ _ _ _ _ hq2 (cb_lt h2) (fun i hi => by rw [cb_t, Bool.and_eq_true] at hi; exact h3 i hi.1) (by rw [cb_t]; simp) _ _ _ _ _ h
        exact ⟨a1, a2, a3, a4, by omega, by omega⟩
      · cases h
        exact ⟨h1, h2, h3, h4, rfl, Nat.le_refl _⟩
theorem gw0_ok (hw : WF R C er bg sp) {F p t b w : Nat} (h : gw0 R C er bg sp pn pd = (F, p, t, b, w)) : p < R * C ∧ F < 65536 ∧ Sub F (opn er (R * C)) ∧ F.testBit p = false ∧ t + pc F + 1 = pc (opn er (R * C)) ∧ b ≤ 200 := by
  obtain ⟨a1, a2, a3, a4, a5, a6⟩ := gw_ok hw pn 0 _ bg 0 _ hw.2.2.1 (Fo0_lt hw) (fun i hi => by unfold Fo0 at hi; rw [cb_t, Bool.and_eq_true] at hi; exact hi.1) (Fo0_bg) F p t b w h
  have := Fo0_pc hw
  have := pc_le (opn er (R * C))
  have := br9 hw hw.2.2.1 (t := 0)
  exact ⟨a1, a2, a3, a4, by omega, by omega⟩
theorem EEl {g : Nat → Nat → Nat} : ∀ n F p t b, ∀ y ∈ EE R C g n F p t b, y.1.length ≤ n := by
  intro n
  induction n with
  | zero => intro F p t b y hy; rw [List.mem_singleton.mp hy]; exact Nat.le_refl _
  | succ n ih2 =>
    intro F p t b y hy
    rcases List.mem_cons.mp hy with rfl | hy
    · exact Nat.zero_le _
    · have one : ∀ k, y ∈ wk R C g (EE R C g n) F p t b k → y.1.length ≤ n + 1 := by
        intro k hy
        unfold wk at hy
        split at hy
        · obtain ⟨z, hz, rfl⟩ := List.mem_map.mp hy
          have := ih2 _ _ _ _ z hz
          simp only [List.length_cons]; omega
        · cases hy
      unfold wf at hy
      simp only [Nat.zero_le, if_true] at hy
      rcases List.mem_append.mp hy with hy | hy
      · exact one 0 hy
      rcases List.mem_append.mp hy with hy | hy
      · exact one 1 hy
      rcases List.mem_append.mp hy with hy | hy
      · exact one 2 hy
      · exact one 3 hy
def an_storm (R C : Nat) (er : Nat → Int32) (bg sp pn : Nat) (pd : Nat → Int32) (x y : Int32) : Int32 := if x < 0 ∨ nI 20 < x ∨ y < 0 ∨ nI 1 < y then -(nI 2) else if wft pd pn 0 ≠ none then -(nI 5) else if (gw0 R C er bg sp pn pd).2.2.2.2 ≠ 0 then -(nI 3) else
  if y = 0 then nI ((gw0 R C er bg sp pn pd).2.2.2.1 + ((gp R C (G2 (br er sp)) (min x.toNatClampNeg 15) (gw0 R C er bg sp pn pd).1 (gw0 R C er bg sp pn pd).2.1 (gw0 R C er bg sp pn pd).2.2.1).1 + 31) / 32) else sgo (some (gp R C (G2 (br er sp)) (min x.toNatClampNeg 15) (gw0 R C er bg sp pn pd).1 (gw0 R C er bg sp pn pd).2.1 (gw0 R C er bg sp pn pd).2.2.1)) 0
theorem q_storm (h : CS R C er bg sp pn pd j0 j1 o i0 i1 ext M) (x y : Int32) : OC (d + 5) 51 [.ref 0, .int x, .int y] (DB o i0 i1 ext) M (CPo R C er bg sp pn pd j0 j1 M (an_storm R C er bg sp pn pd x y)) := by
  obtain ⟨h1, h2, h3, h4, h5, h6⟩ := h
  have h : CS R C er bg sp pn pd j0 j1 o i0 i1 ext M := ⟨h1, h2, h3, h4, h5, h6⟩
  have hl := h3.1.le
  unfold an_storm
  refine b_X4_storm_0 _ _ ⟨fun e => ?_, fun e => ⟨fun e2 => ?_, fun e2 => ⟨fun e3 => ?_, fun e3 => ⟨fun e4 => ?_, fun e4 => ?_⟩⟩⟩⟩
  · rw [if_pos (Or.inl e)]; exact ⟨_, _, _, _, _, _, rfl, CPo.same h _⟩
  · rw [if_pos (Or.inr (Or.inl e2))]; exact ⟨_, _, _, _, _, _, rfl, CPo.same h _⟩
  · rw [if_pos (Or.inr (Or.inr (Or.inl e3)))]; exact ⟨_, _, _, _, _, _, rfl, CPo.same h _⟩
  · rw [if_neg (by rintro (z | z | z | z); exact e z; exact e2 z; exact e3 z; exact Int32.not_lt.mpr e4 z)]
    refine s_follow h1 h2 h3 h4 (fun e5 => ⟨fun z => absurd z (by decide), fun _ => ?_⟩) (fun e5 F p t b w M' f1 f2 f3 f4 f5 f6 f7 => ?_)
    · rw [if_pos e5]; exact ⟨_, _, _, _, _, _, rfl, CPo.same h _⟩
    · rw [if_neg (show ¬ wft pd pn 0 ≠ none from fun z => z e5), f1]
      by_cases hz : w = 0
      · rw [if_pos hz, if_neg (fun z => z hz)]
        refine ⟨fun _ => ?_, fun z => absurd rfl z⟩
        obtain ⟨k, hk, rfl⟩ := nI_of e
        rw [n_lt (by decide) hk] at e2
        rw [n_cl hk]
        obtain ⟨g1, g2, g3, g4, g5, g6⟩ := gw0_ok h3 f1
        have hlen := EE_len (g := br er sp) h3.1 (n := min k 15) (F := F) (p := p) (t := t) (b := b) (by omega) g1 (fun i hi => ((opn_t er _ i).mp (g3 i hi)).1) g4
        have hb : ∀ z ∈ EE R C (br er sp) (min k 15) F p t b, z.2.2.2 ≤ 900 := by
          intro z hz
          have := EE_b h3 g1 z hz
          have := EEl _ _ _ _ _ z hz
          omega
        obtain ⟨wv, hg, -, -⟩ := bw_gp (R := R) (C := C) (g := br er sp) (min k 15) (by omega) F p t b
        have hww := (bw_w (by omega) hg).2
        refine s_clear13 (fun M1 c1 c2 => s_goOn (er := er) (sp := sp) hk (by unfold WKI; rw [c2 7 (by decide) (by decide)]; exact f2) g1 g2 (by have := h4.2.1; omega) (fun M2 hI hM2 => ?_))
        have loop : ∀ (l : List Nd) (j : Nat) (q : Option (Nat × List Nat)) (M2 : AMm), IT M2 R C er sp (min k 15) t l → j + l.length < 1000000 → CHI M2 13 q → (∀ z ∈ l, z.2.2.2 ≤ 900) → (∀ a, (a < 7 ∨ 14 < a) → M2 a = M a) → bwF l q = some (wv, (gp R C (G2 (br er sp)) (min k 15) F p t).2) → T (d + 5) (fun r => ∃ v o i0 i1 ext M', r = (some (.int v), DB o i0 i1 ext, M') ∧ CPo R C er bg sp pn pd j0 j1 M (if y = 0 then nI (b + ((gp R C (G2 (br er sp)) (min k 15) F p t).1 + 31) / 32) else sgo (some (gp R C (G2 (br er sp)) (min k 15) F p t)) 0) v o i0 i1 ext M') (51, 32, [some (.ref 0), none, some (.int y), none, some (.int (nI j))], [], (DB (some 2) i0 i1 ext), M2) := by
          intro l
          induction l with
          | nil =>
            intro j q M2 hI hj hc hb hM hq
            have hq : q = _ := hq
            subst hq
            have fin : ∀ M3 : AMm, F8 M2 M3 → ((y = 0 → ∃ v o1 i01 i11 ext1 M', (some (Value.int (M3 13 0)), DB (some 2) i0 i1 ext, M3) = (some (Value.int v), DB o1 i01 i11 ext1, M') ∧ CPo R C er bg sp pn pd j0 j1 M (if y = 0 then nI (b + ((gp R C (G2 (br er sp)) (min k 15) F p t).1 + 31) / 32) else sgo (some (gp R C (G2 (br er sp)) (min k 15) F p t)) 0) v o1 i01 i11 ext1 M') ∧ (¬ y = 0 → CI (d + 4) 4 [.ref 13, .int (nI 0)] (DB (some 2) i0 i1 ext) M3 (DB (some 2) i0 i1 ext) (fun v4 M4 => ∃ v o1 i01 i11 ext1 M', (some (Value.int v4), DB (some 2) i0 i1 ext, M4) = (some (Value.int v), DB o1 i01 i11 ext1, M') ∧ CPo R C er bg sp pn pd j0 j1 M (if y = 0 then nI (b + ((gp R C (G2 (br er sp)) (min k 15) F p t).1 + 31) / 32) else sgo (some (gp R C (G2 (br er sp)) (min k 15) F p t)) 0) v o1 i01 i11 ext1 M'))) := by
              intro M3 h3'
              have hc3 : CHI M3 13 (some (wv, (gp R C (G2 (br er sp)) (min k 15) F p t).2)) := hc.of (h3' 13 (by omega)) (h3' 14 (by omega))
              have fr : ∀ a, (a < 7 ∨ 14 < a) → M3 a = M a := fun a ha => by rw [h3' a (by omega)]; exact hM a ha
              refine ⟨fun hy => ?_, fun hy => s_signOf13 (h1.of (fun a ha => fr a (by omega))) hc3 (fun z => absurd z (by decide)) (fun i hi z => ?_)⟩
              · rw [if_pos hy, hc3.1, hww]; exact ⟨_, _, _, _, _, _, rfl, CPo.fr h (Or.inr rfl) fr _⟩
              · rw [n_eq (by decide) hi] at z
                subst z
                rw [if_neg hy]; exact ⟨_, _, _, _, _, _, rfl, CPo.fr h (Or.inr rfl) fr _⟩
            refine b_X4_storm_32 _ _ ⟨fun z => ?_, fun _ => ?_⟩
            · rw [n_le (by decide) (by omega)] at z; omega
            · exact s_nextL (h2.of (hM _ (by omega)) (hM _ (by omega)) (hM _ (by omega)) (hM _ (by omega))) h3 hI (fun _ M3 hM3 => ⟨fun _ => fin M3 hM3, fun z => absurd rfl z⟩) (fun x l' h => by cases h)
          | cons u l ih =>
            intro j q M2 hI hj hc hb hM hq
            rw [List.length_cons] at hj
            refine b_X4_storm_32 _ _ ⟨fun z => ?_, fun _ => ?_⟩
            · rw [n_le (by decide) (by omega)] at z; omega
            · refine s_nextL (h2.of (hM _ (by omega)) (hM _ (by omega)) (hM _ (by omega)) (hM _ (by omega))) h3 hI (fun h => by cases h) (fun u' l' hu M3 hN hM3 => ?_)
              obtain ⟨rfl, rfl⟩ : u = u' ∧ l = l' := by cases hu; exact ⟨rfl, rfl⟩
              refine ⟨fun z => absurd z (by decide), fun _ => s_brought hN (s_offer13 hN (hc.of (hM3 13 (by omega)) (hM3 14 (by omega))) (Nat.lt_of_le_of_lt (hb u List.mem_cons_self) (by decide)) (fun M4 k1 k2 => ?_))⟩
              rw [nI_add]
              exact ih (j + 1) _ M4 (Or.inl ⟨u, hN.of (fun a z1 z2 => k2 a (by omega) (by omega))⟩) (by omega) k1 (fun z hz => hb z (List.mem_cons_of_mem _ hz)) (fun a ha => by rw [k2 a (by omega) (by omega), hM3 a (by omega)]; exact hM a ha) hq
        exact loop _ 0 none M2 hI (by omega) (c1.of (hM2 13 (by omega)) (hM2 14 (by omega))) hb (fun a ha => by rw [hM2 a (by omega), c2 a (by omega) (by omega), f7 a (by omega)]) hg
      · rw [if_neg hz, if_pos hz]
        exact ⟨fun z => absurd z (by decide), fun _ => ⟨_, _, _, _, _, _, rfl, CPo.fr h (Or.inl rfl) (fun a ha => f7 a (by omega)) _⟩⟩
  · rw [if_pos (Or.inr (Or.inr (Or.inr (Int32.not_le.mp e4))))]; exact ⟨_, _, _, _, _, _, rfl, CPo.same h _⟩
def an_goes (R C : Nat) (er : Nat → Int32) (bg sp pn : Nat) (pd : Nat → Int32) (x : Int32) : Int32 := if x < 0 ∨ nI 12 < x then -(nI 2) else if wft pd pn 0 ≠ none then -(nI 5) else if (gw0 R C er bg sp pn pd).2.2.2.2 ≠ 0 then -(nI 3) else nI (WW R C x.toNatClampNeg [((gw0 R C er bg sp pn pd).1, (gw0 R C er bg sp pn pd).2.1)]).length
theorem q_goesOn (h : CS R C er bg sp pn pd j0 j1 o i0 i1 ext M) (x : Int32) : OC (d + 5) 56 [.ref 0, .int x] (DB o i0 i1 ext) M (CPo R C er bg sp pn pd j0 j1 M (an_goes R C er bg sp pn pd x)) := by
  obtain ⟨h1, h2, h3, h4, h5, h6⟩ := h
  have h : CS R C er bg sp pn pd j0 j1 o i0 i1 ext M := ⟨h1, h2, h3, h4, h5, h6⟩
  have hl := h3.1.le
  unfold an_goes
  refine b_X4_goesOn_0 _ ⟨fun e => ?_, fun e => ⟨fun e2 => ?_, fun e2 => ?_⟩⟩
  · rw [if_pos (Or.inl e)]; exact ⟨_, _, _, _, _, _, rfl, CPo.same h _⟩
  · rw [if_neg (by rintro (z | z); exact e z; exact Int32.not_lt.mpr e2 z)]
    refine s_follow h1 h2 h3 h4 (fun e5 => ⟨fun z => absurd z (by decide), fun _ => ?_⟩) (fun e5 F p t b w M' f1 f2 f3 f4 f5 f6 f7 => ?_)
    · rw [if_pos e5]; exact ⟨_, _, _, _, _, _, rfl, CPo.same h _⟩
    · rw [if_neg (show ¬ wft pd pn 0 ≠ none from fun z => z e5), f1]
      by_cases hz : w = 0
      · rw [if_pos hz, if_neg (fun z => z hz)]
        refine ⟨fun _ => ?_, fun z => absurd rfl z⟩
        obtain ⟨k, hk, rfl⟩ := nI_of e
        rw [n_le hk (by decide)] at e2
        rw [n_cl hk]
        obtain ⟨g1, g2, g3, g4, g5, g6⟩ := gw0_ok h3 f1
        have hlen := EE_len (g := br er sp) h3.1 (n := min k 15) (F := F) (p := p) (t := t) (b := b) (by omega) g1 (fun i hi => ((opn_t er _ i).mp (g3 i hi)).1) g4
        have hgo := go_W (R := R) (C := C) (g := br er sp) (n := min k 15) (k := k) (F := F) (p := p) (t := t) (b := b) (by omega)
        refine s_goOn (er := er) (sp := sp) hk f2 g1 g2 (by have := h4.2.1; omega) (fun M2 hI hM2 => ?_)
        show T (d + 5) _ _
        rw [← hgo]
        have loop : ∀ (l : List Nd) (j c : Nat) (M2 : AMm), IT M2 R C er sp (min k 15) t l → j + l.length < 1000000 → (∀ a, (a < 7 ∨ 14 < a) → M2 a = M a) → c + l.countP (fun x => decide (x.1.length = k)) = (EE R C (br er sp) (min k 15) F p t b).countP (fun x => decide (x.1.length = k)) → T (d + 5) (fun r => ∃ v o i0 i1 ext M', r = (some (.int v), DB o i0 i1 ext, M') ∧ CPo R C er bg sp pn pd j0 j1 M (nI ((EE R C (br er sp) (min k 15) F p t b).countP (fun x => decide (x.1.length = k)))) v o i0 i1 ext M') (56, 26, [some (.ref 0), some (.int (nI k)), none, some (.int (nI c)), some (.int (nI j))], [], (DB (some 2) i0 i1 ext), M2) := by
          intro l
          induction l with
          | nil =>
            intro j c M2 hI hj hM hq
            rw [List.countP_nil, Nat.add_zero] at hq
            refine b_X4_goesOn_26 _ _ _ ⟨fun z => ?_, fun _ => ?_⟩
            · rw [n_le (by decide) (by omega)] at z; omega
            · refine s_nextL (h2.of (hM _ (by omega)) (hM _ (by omega)) (hM _ (by omega)) (hM _ (by omega))) h3 hI (fun _ M3 hM3 => ⟨fun _ => ?_, fun z => absurd rfl z⟩) (fun x l' h => by cases h)
              rw [hq]
              exact ⟨_, _, _, _, _, _, rfl, CPo.fr h (Or.inr rfl) (fun a ha => by rw [hM3 a (by omega)]; exact hM a ha) _⟩
          | cons u l ih =>
            intro j c M2 hI hj hM hq
            rw [List.length_cons] at hj
            refine b_X4_goesOn_26 _ _ _ ⟨fun z => ?_, fun _ => ?_⟩
            · rw [n_le (by decide) (by omega)] at z; omega
            · refine s_nextL (h2.of (hM _ (by omega)) (hM _ (by omega)) (hM _ (by omega)) (hM _ (by omega))) h3 hI (fun h => by cases h) (fun u' l' hu M3 hN hM3 => ?_)
              obtain ⟨rfl, rfl⟩ : u = u' ∧ l = l' := by cases hu; exact ⟨rfl, rfl⟩
              obtain ⟨d1, d2, d3, d4⟩ := nd_depth hN
              rw [d1, nI_add, nI_add, n_eq (by omega) hk]
              have fr : ∀ a, (a < 7 ∨ 14 < a) → M3 a = M a := fun a ha => by rw [hM3 a (by omega)]; exact hM a ha
              refine ⟨fun z => absurd z (by decide), fun _ => ⟨fun z => ?_, fun z => ?_⟩⟩
              · refine ih (j + 1) (c + 1) M3 (Or.inl ⟨u, hN⟩) (by omega) fr ?_
                rw [List.countP_cons_of_pos (by simpa using z)] at hq
                omega
              · refine ih (j + 1) c M3 (Or.inl ⟨u, hN⟩) (by omega) fr ?_
                rw [List.countP_cons_of_neg (by simpa using z)] at hq
                omega
        exact loop _ 0 0 M2 hI (by omega) (fun a ha => by rw [hM2 a (by omega), f7 a (by omega)]) (Nat.zero_add _)
      · rw [if_neg hz, if_pos hz]
        exact ⟨fun z => absurd z (by decide), fun _ => ⟨_, _, _, _, _, _, rfl, CPo.fr h (Or.inl rfl) (fun a ha => f7 a (by omega)) _⟩⟩
  · rw [if_pos (Or.inr (Int32.not_le.mp e2))]; exact ⟨_, _, _, _, _, _, rfl, CPo.same h _⟩
end P2
