-- THE CLASS: its public calls: two, game, where, drawn, told; those that change the state
section P3
variable {d : Nat} {o i0 i1 : Option Nat} {ext : ADd} {M : AMm} {R C bg sp pn : Nat} {er pd : Nat → Int32} {j0 j1 : Option Fld}
def an_two (R C : Nat) (er : Nat → Int32) (bg : Nat) : Int32 := if 12 < pc (opn er (R * C)) then -(nI 4) else nI (1 + ct R C 11 bg bg (Fo0 R C er bg))
theorem CK.ms {a : Nat} {v : Int32} (h : CK o M R C er bg sp) (ha : a = 15 ∨ a = 17) (hz : M 0 (a - 1) = nI 0) : CK o (ms M 0 a v) R C er bg sp := by
  obtain ⟨c1, c2, c3, c4⟩ := h
  refine ⟨?_, ?_, ?_, ?_⟩
  · rw [ms_b (by omega)]
    rcases c1 with z | ⟨z, z2, z3⟩
    · exact Or.inl z
    · exact Or.inr ⟨z, z2, z3.of (fun x z1 z2 => by funext y; exact ms_a (by omega))⟩
  · rw [ms_b (by omega), ms_b (by omega), ms_b (by omega)]; exact c2
  · rw [ms_b (by omega)]
    rcases c3 with z | ⟨z, z2⟩
    · exact Or.inl z
    · rcases ha with rfl | rfl
      · rw [hz] at z; exact absurd z (by decide)
      · exact Or.inr ⟨z, by rw [ms_b (by omega)]; exact z2⟩
  · rw [ms_b (by omega)]
    rcases c4 with z | ⟨z, z2⟩
    · exact Or.inl z
    · rcases ha with rfl | rfl
      · exact Or.inr ⟨z, by rw [ms_b (by omega)]; exact z2⟩
      · rw [hz] at z; exact absurd z (by decide)
theorem q_two (h : CS R C er bg sp pn pd j0 j1 o i0 i1 ext M) : OC (d + 30) 52 [.ref 0] (DB o i0 i1 ext) M (CPo R C er bg sp pn pd j0 j1 M (an_two R C er bg)) := by
  obtain ⟨h1, h2, h3, h4, h5, h6⟩ := h
  have h : CS R C er bg sp pn pd j0 j1 o i0 i1 ext M := ⟨h1, h2, h3, h4, h5, h6⟩
  have hl := h3.1.le
  have hb := h3.2.2.1
  have hpl := pc_le (opn er (R * C))
  have hpF := Fo0_pc h3
  unfold an_two
  refine b_X4_two_0 ?_
  rw [h2.2.2.2.1]
  refine s_bc (opn_lt hl) ?_
  rw [n_le (by omega) (by decide)]
  refine ⟨fun e => ?_, fun e => ?_⟩
  · rw [if_neg (by omega)]
    refine ⟨fun e2 => ?_, fun e2 => ?_⟩
    · rw [h2.2.2.2.2.1]
      refine s_freeFrom h2 (by omega) (s_reach h2 h3.1 (by omega) (Fo0_lt h3) ?_)
      obtain ⟨r1, r2, r3, -⟩ := rch_ok h3.1 (F := Fo0 R C er bg) (p := bg) (by omega)
      have e4 := ct_Z h3.1 11 bg bg (Fo0 R C er bg) (rch R C (Fo0 R C er bg) bg) (Fo0_lt h3) hb hb r3 r2 r2
      rw [show cb (opn er (R * C)) bg = Fo0 R C er bg from rfl, fa_and, show rit R C (Fo0 R C er bg) (2 ^ bg) 16 = rch R C (Fo0 R C er bg) bg from rfl]
      have hsub : pc (Fo0 R C er bg &&& rch R C (Fo0 R C er bg) bg) ≤ pc (Fo0 R C er bg) := pc_sub (fun i _ hi => by rw [Nat.testBit_and, Bool.and_eq_true] at hi; exact hi.1)
      refine s_cutT (d := d + 3) h2 h3.1 11 bg bg _ 0 (by omega) (and_lt16 (Fo0_lt h3)) hb hb (by decide) ?_
      rw [e4, nI_add]
      refine ⟨_, _, _, _, _, _, rfl, rfl, ⟨?_, ?_, h3, ?_, ?_, ?_⟩, fun a z1 => by funext y; rw [ms_a (by omega), ms_a (by omega)]⟩
      · exact h1.of (fun a ha => by funext y; rw [ms_a (by omega), ms_a (by omega)])
      · exact h2.of (by funext y; rw [ms_a (by omega), ms_a (by omega)]) (by funext y; rw [ms_a (by omega), ms_a (by omega)]) (by funext y; rw [ms_a (by omega), ms_a (by omega)]) (by funext y; rw [ms_a (by omega), ms_a (by omega)])
      · exact h4.of (by rw [ms_b (by omega), ms_b (by omega)]) (by funext y; rw [ms_a (by omega), ms_a (by omega)])
      · obtain ⟨c1, c2, c3, c4⟩ := h5.ms (a := 15) (v := nI (1 + ct R C 11 bg bg (Fo0 R C er bg))) (Or.inl rfl) (by rw [nI_0]; exact e2)
        refine ⟨?_, ?_, Or.inr ⟨ms_s _ _ _ _, by rw [ms_b (by omega)]; exact ms_s _ _ _ _⟩, ?_⟩
        · rw [ms_b (by omega)]
          rcases c1 with z | ⟨z, z2, z3⟩
          · exact Or.inl z
          · exact Or.inr ⟨z, z2, z3.of (fun x z1 z2 => by funext y; exact ms_a (by omega))⟩
        · rw [ms_b (by omega), ms_b (by omega), ms_b (by omega)]; exact c2
        · rw [ms_b (by omega), ms_b (by omega)]; exact c4
      · exact h6.of (fun a z1 z2 => by funext y; rw [ms_a (by omega), ms_a (by omega)])
    · rcases h5.2.2.1 with z | ⟨z, z2⟩
      · exact absurd (by rw [z]; rfl) e2
      · rw [z2]; exact ⟨_, _, _, _, _, _, rfl, CPo.same h _⟩
  · rw [if_pos (by omega)]; exact ⟨_, _, _, _, _, _, rfl, CPo.same h _⟩
def zI (z : Int) : Int32 := Int32.ofInt z
theorem zI_of {v : Int32} {z : Int} (h : v.toInt = z) : v = zI z := by rw [← h]; exact (Int32.ofInt_toInt v).symm
def an_game (R C : Nat) (er : Nat → Int32) (bg : Nat) : Int32 := if 12 < pc (opn er (R * C)) then -(nI 4) else nI 1000 + zI (la R C 11 bg bg (Fo0 R C er bg))
theorem q_game (h : CS R C er bg sp pn pd j0 j1 o i0 i1 ext M) : OC (d + 30) 53 [.ref 0] (DB o i0 i1 ext) M (CPo R C er bg sp pn pd j0 j1 M (an_game R C er bg)) := by
  obtain ⟨h1, h2, h3, h4, h5, h6⟩ := h
  have h : CS R C er bg sp pn pd j0 j1 o i0 i1 ext M := ⟨h1, h2, h3, h4, h5, h6⟩
  have hl := h3.1.le
  have hb := h3.2.2.1
  have hpl := pc_le (opn er (R * C))
  have hpF := Fo0_pc h3
  unfold an_game
  refine b_X4_game_0 ?_
  rw [h2.2.2.2.1]
  refine s_bc (opn_lt hl) ?_
  rw [n_le (by omega) (by decide)]
  refine ⟨fun e => ?_, fun e => ?_⟩
  · rw [if_neg (by omega)]
    refine ⟨fun e2 => ?_, fun e2 => ?_⟩
    · rw [h2.2.2.2.2.1]
      refine s_freeFrom h2 (by omega) ?_
      rw [show cb (opn er (R * C)) bg = Fo0 R C er bg from rfl]
      refine s_lead (d := d + 3) h2 h3.1 11 bg bg _ 0 (by omega) (Fo0_lt h3) hb hb (by decide) (fun v hv => ?_)
      refine ⟨_, _, _, _, _, _, rfl, by rw [zI_of hv], ⟨?_, ?_, h3, ?_, ?_, ?_⟩, fun a z1 => by funext y; rw [ms_a (by omega), ms_a (by omega)]⟩
      · exact h1.of (fun a ha => by funext y; rw [ms_a (by omega), ms_a (by omega)])
      · exact h2.of (by funext y; rw [ms_a (by omega), ms_a (by omega)]) (by funext y; rw [ms_a (by omega), ms_a (by omega)]) (by funext y; rw [ms_a (by omega), ms_a (by omega)]) (by funext y; rw [ms_a (by omega), ms_a (by omega)])
      · exact h4.of (by rw [ms_b (by omega), ms_b (by omega)]) (by funext y; rw [ms_a (by omega), ms_a (by omega)])
      · obtain ⟨c1, c2, c3, c4⟩ := h5.ms (a := 17) (v := v) (Or.inr rfl) (by rw [nI_0]; exact e2)
        refine ⟨?_, ?_, ?_, Or.inr ⟨ms_s _ _ _ _, by rw [ms_b (by omega), ms_s]; exact hv⟩⟩
        · rw [ms_b (by omega)]
          rcases c1 with z | ⟨z, z2, z3⟩
          · exact Or.inl z
          · exact Or.inr ⟨z, z2, z3.of (fun x z1 z2 => by funext y; exact ms_a (by omega))⟩
        · rw [ms_b (by omega), ms_b (by omega), ms_b (by omega)]; exact c2
        · rw [ms_b (by omega), ms_b (by omega)]; exact c3
      · exact h6.of (fun a z1 z2 => by funext y; rw [ms_a (by omega), ms_a (by omega)])
    · rcases h5.2.2.2 with z | ⟨z, z2⟩
      · exact absurd (by rw [z]; rfl) e2
      · rw [← zI_of z2]; exact ⟨_, _, _, _, _, _, rfl, CPo.same h _⟩
  · rw [if_pos (by omega)]; exact ⟨_, _, _, _, _, _, rfl, CPo.same h _⟩
def an_where (R C : Nat) (er : Nat → Int32) (x : Int32) : Int32 := if x < 0 ∨ nI 1 < x then -(nI 2) else if x = 0 then nI (wr R C (opn er (R * C)) (R * C)).1 else nI (wr R C (opn er (R * C)) (R * C)).2
theorem q_where (h : CS R C er bg sp pn pd j0 j1 o i0 i1 ext M) (x : Int32) : OC (d + 6) 54 [.ref 0, .int x] (DB o i0 i1 ext) M (CPo R C er bg sp pn pd j0 j1 M (an_where R C er x)) := by
  obtain ⟨h1, h2, h3, h4, h5, h6⟩ := h
  have h : CS R C er bg sp pn pd j0 j1 o i0 i1 ext M := ⟨h1, h2, h3, h4, h5, h6⟩
  unfold an_where
  refine b_X4_where_0 _ ⟨fun e => ?_, fun e => ⟨fun e2 => ?_, fun e2 => ?_⟩⟩
  · rw [if_pos (Or.inl e)]; exact ⟨_, _, _, _, _, _, rfl, CPo.same h _⟩
  · rw [if_neg (by rintro (z | z); exact e z; exact Int32.not_lt.mpr e2 z)]
    refine ⟨fun e3 => ?_, fun e3 => ?_⟩
    · refine s_lookWhere h2 h3 (fun M' k1 k2 k3 k4 => ?_)
      have hC : CS R C er bg sp pn pd j0 j1 (some 2) i0 i1 ext M' := by
        obtain ⟨c1, c2, c3, c4⟩ := h5
        refine ⟨h1.of (fun a ha => k4.1 a (by omega) (by omega)), h2.fw k4, h3, h4.of (k4.2 1 (by decide) (by decide) (by decide)) (k4.1 1 (by decide) (by omega)), ⟨?_, Or.inr ⟨k1, rfl, k2, k3⟩, ?_, ?_⟩, h6.of (fun a z1 z2 => k4.1 a (by omega) (by omega))⟩
        · rw [k4.2 7 (by decide) (by decide) (by decide)]
          rcases c1 with z | ⟨z, -, z3⟩
          · exact Or.inl z
          · exact Or.inr ⟨z, rfl, z3.of (fun a z1 z2 => k4.1 a (by omega) (by omega))⟩
        · rw [k4.2 14 (by decide) (by decide) (by decide), k4.2 15 (by decide) (by decide) (by decide)]; exact c3
        · rw [k4.2 16 (by decide) (by decide) (by decide), k4.2 17 (by decide) (by decide) (by decide)]; exact c4
      have hfr : ∀ a, ((20 ≤ a ∧ a ≤ 28) ∨ 36 < a) → M' a = M a := fun a z1 => k4.1 a (by omega) (by omega)
      refine ⟨fun z => ?_, fun z => ?_⟩
      · rw [if_pos z, k2]; exact ⟨_, _, _, _, _, _, rfl, rfl, hC, hfr⟩
      · rw [if_neg z, k3]; exact ⟨_, _, _, _, _, _, rfl, rfl, hC, hfr⟩
    · rcases h5.2.1 with z | ⟨z, z2, z3, z4⟩
      · exact absurd (by rw [z]; rfl) e3
      · refine ⟨fun y => ?_, fun y => ?_⟩
        · rw [if_pos y, z3]; exact ⟨_, _, _, _, _, _, rfl, CPo.same h _⟩
        · rw [if_neg y, z4]; exact ⟨_, _, _, _, _, _, rfl, CPo.same h _⟩
  · rw [if_pos (Or.inr (Int32.not_le.mp e2))]; exact ⟨_, _, _, _, _, _, rfl, CPo.same h _⟩
def an_drawn (R C : Nat) (er : Nat → Int32) (bg : Nat) (x y : Int32) : Int32 := if x < 0 ∨ nI 9999 < x ∨ y < 0 ∨ nI 1 < y then -(nI 2) else nI (if y = 0 then (dr R C 15 (Fo0 R C er bg) bg x.toNatClampNeg 1).1 else (dr R C 15 (Fo0 R C er bg) bg x.toNatClampNeg 1).2)
theorem q_drawn (h : CS R C er bg sp pn pd j0 j1 o i0 i1 ext M) (x y : Int32) : OC (d + 5) 57 [.ref 0, .int x, .int y] (DB o i0 i1 ext) M (CPo R C er bg sp pn pd j0 j1 M (an_drawn R C er bg x y)) := by
  have h2 := h.2.1
  have h3 := h.2.2.1
  unfold an_drawn
  refine s_drawn h2 h3 (fun e => ?_) (fun s w hs hw e1 e2 => ?_)
  · rw [if_pos e]; exact ⟨_, _, _, _, _, _, rfl, CPo.same h _⟩
  · subst e1 e2
    have hn : ¬ (nI s < 0 ∨ nI 9999 < nI s ∨ nI w < 0 ∨ nI 1 < nI w) := by
      rintro (z | z | z | z)
      · exact nI_pos (by omega) z
      · rw [n_lt (by decide) (by omega)] at z; omega
      · exact nI_pos (by omega) z
      · rw [n_lt (by decide) (by omega)] at z; omega
    rw [if_neg hn, n_cl (by omega)]
    by_cases hz : w = 0
    · rw [if_pos hz, if_pos ((n_e0 (by omega)).mpr hz)]; exact ⟨_, _, _, _, _, _, rfl, CPo.same h _⟩
    · rw [if_neg hz, if_neg (fun z => hz ((n_e0 (by omega)).mp z))]; exact ⟨_, _, _, _, _, _, rfl, CPo.same h _⟩
def an_told (R C : Nat) (er : Nat → Int32) (bg sp pn : Nat) (x : Int32) : Int32 := if x = nI 0 then nI pn else if x = nI 1 then nI R else if x = nI 2 then nI C else if x = nI 3 then nI (pc (opn er (R * C))) else if x = nI 4 then nI bg else if x = nI 5 then nI sp else -(nI 2)
theorem q_told (h : CS R C er bg sp pn pd j0 j1 o i0 i1 ext M) (x : Int32) : OC (d + 5) 60 [.ref 0, .int x] (DB o i0 i1 ext) M (CPo R C er bg sp pn pd j0 j1 M (an_told R C er bg sp pn x)) := by
  have h2 := h.2.1
  have h3 := h.2.2.1
  have h4 := h.2.2.2.1
  unfold an_told
  refine b_X4_told_0 _ ⟨fun z => ?_, fun z0 => ⟨fun z => ?_, fun z1 => ⟨fun z => ?_, fun z2 => ⟨fun z => ?_, fun z3 => ⟨fun z => ?_, fun z4 => ⟨fun z => ?_, fun z5 => ?_⟩⟩⟩⟩⟩⟩
  · rw [if_pos z, h4.1]; exact ⟨_, _, _, _, _, _, rfl, CPo.same h _⟩
  · rw [if_neg z0, if_pos z, h2.1]; exact ⟨_, _, _, _, _, _, rfl, CPo.same h _⟩
  · rw [if_neg z0, if_neg z1, if_pos z, h2.2.1]; exact ⟨_, _, _, _, _, _, rfl, CPo.same h _⟩
  · rw [if_neg z0, if_neg z1, if_neg z2, if_pos z, h2.2.2.2.1]
    exact s_bc (opn_lt h3.1.le) ⟨_, _, _, _, _, _, rfl, CPo.same h _⟩
  · rw [if_neg z0, if_neg z1, if_neg z2, if_neg z3, if_pos z, h2.2.2.2.2.1]; exact ⟨_, _, _, _, _, _, rfl, CPo.same h _⟩
  · rw [if_neg z0, if_neg z1, if_neg z2, if_neg z3, if_neg z4, if_pos z, h2.2.2.2.2.2.1]; exact ⟨_, _, _, _, _, _, rfl, CPo.same h _⟩
  · rw [if_neg z0, if_neg z1, if_neg z2, if_neg z3, if_neg z4, if_neg z5]; exact ⟨_, _, _, _, _, _, rfl, CPo.same h _⟩
end P3
