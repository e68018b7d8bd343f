-- THE CLASS: searches over all ways
section C9
variable {R C : Nat} {g : Nat → Nat → Nat}
/-- what holds of all ways on: by first steps -/
theorem EE_all {P : Nd → Prop} {V : Nat → Nat → Nat → Nat → Prop} (hd : Dm R C) (h0 : ∀ F p t b, V F p t b → P ([], F, p, b)) (hs : ∀ F p t b k q, V F p t b → k < 4 → nf R C F p k = some q → V (cb F q) q (t + 1) (b + g q (t + 1))) (hc : ∀ F p t b k q x, V F p t b → k < 4 → nf R C F p k = some q → P x → P (k :: x.1, x.2)) : ∀ n F p t b, V F p t b → ∀ x ∈ EE R C g n F p t b, P x := by
  intro n
  induction n with
  | zero =>
    intro F p t b hV x hx
    rw [List.mem_singleton.mp hx]
    exact h0 F p t b hV
  | succ n ih =>
    intro F p t b hV x hx
    rcases List.mem_cons.mp hx with rfl | hx
    · exact h0 F p t b hV
    · have one : ∀ k, k < 4 → x ∈ wk R C g (EE R C g n) F p t b k → P x := by
        intro k hk hx
        unfold wk at hx
        split at hx
        · rename_i q hq
          obtain ⟨y, hy, rfl⟩ := List.mem_map.mp hx
          exact hc F p t b k q y hV hk hq (ih _ _ _ _ (hs F p t b k q hV hk hq) y hy)
        · cases hx
      unfold wf at hx
      simp only [Nat.zero_le, if_true] at hx
      rcases List.mem_append.mp hx with hx | hx
      · exact one 0 (by decide) hx
      rcases List.mem_append.mp hx with hx | hx
      · exact one 1 (by decide) hx
      rcases List.mem_append.mp hx with hx | hx
      · exact one 2 (by decide) hx
      · exact one 3 (by decide) hx
theorem EE_b {er : Nat → Int32} {bg sp : Nat} (hw : WF R C er bg sp) {n F p t b : Nat} (hp : p < R * C) : ∀ x ∈ EE R C (br er sp) n F p t b, x.2.2.2 ≤ b + 9 * x.1.length := by
  have h := EE_all (g := br er sp) (P := fun x => x.2.2.2 ≤ x.2.2.2) hw.1 (V := fun _ _ _ _ => True) (fun _ _ _ _ _ => Nat.le_refl _) (fun _ _ _ _ _ _ _ _ _ => trivial) (fun _ _ _ _ _ _ _ _ _ _ h => h)
  have main : ∀ n F p t b, p < R * C → ∀ x ∈ EE R C (br er sp) n F p t b, x.2.2.2 ≤ b + 9 * x.1.length := by
    intro n
    induction n with
    | zero => intro F p t b hp x hx; rw [List.mem_singleton.mp hx]; exact Nat.le_add_right _ _
    | succ n ih =>
      intro F p t b hp x hx
      rcases List.mem_cons.mp hx with rfl | hx
      · exact Nat.le_add_right _ _
      · have one : ∀ k, k < 4 → x ∈ wk R C (br er sp) (EE R C (br er sp) n) F p t b k → x.2.2.2 ≤ b + 9 * x.1.length := by
          intro k hk hx
          unfold wk at hx
          split at hx
          · rename_i q hq
            obtain ⟨y, hy, rfl⟩ := List.mem_map.mp hx
            have hq2 := (nb_ok hw.1 hp hk (nf_some.mp hq).1).1
            have := ih _ _ _ _ hq2 y hy
            have hb : br er sp q (t + 1) ≤ 9 := by
              unfold br
              rcases hw.2.1 q hq2 with z | ⟨e, he, z⟩
              · rw [z]; exact Nat.le_trans (Nat.sub_le _ _) (by decide)
              · rw [z, n_cl (by omega)]; omega
            simp only [List.length_cons]
            omega
          · cases hx
        unfold wf at hx
        simp only [Nat.zero_le, if_true] at hx
        rcases List.mem_append.mp hx with hx | hx
        · exact one 0 (by decide) hx
        rcases List.mem_append.mp hx with hx | hx
        · exact one 1 (by decide) hx
        rcases List.mem_append.mp hx with hx | hx
        · exact one 2 (by decide) hx
        · exact one 3 (by decide) hx
  exact main n F p t b hp
def lwF (l : List Nd) (q : Option (Nat × List Nat)) : Option (Nat × List Nat) := l.foldl (fun q x => ch q (x.1.length + 1) x.1) q
def bwF (l : List Nd) (q : Option (Nat × List Nat)) : Option (Nat × List Nat) := l.foldl (fun q x => ch q x.2.2.2 x.1) q
def aeF (l : List Nd) (p : Nat) : Nat := l.countP (fun x => decide (x.2.1 = 0 ∧ x.2.2.1 = p))
variable {d : Nat} {o i0 i1 : Option Nat} {ext : ADd} {M : AMm} {bg sp : Nat} {er : Nat → Int32}
/-- all ways from the beginning -/
def LL (R C : Nat) (er : Nat → Int32) (bg sp : Nat) : List Nd := EE R C (br er sp) 15 (cb (opn er (R * C)) bg) bg 0 (br er sp bg 0)
/-- what is known of the ways -/
def WKn (M : AMm) (R C : Nat) (er : Nat → Int32) (bg sp : Nat) : Prop := CHI M 15 (lwF (LL R C er bg sp) none) ∧ CHI M 17 (bwF (LL R C er bg sp) none) ∧ ∀ p, p < 16 → M 19 p = nI (aeF (LL R C er bg sp) p)
/-- nothing is changed but the walk, what is known of the ways -/
def F9 (M M' : AMm) : Prop := (∀ a, a ≠ 0 → (a < 8 ∨ 19 < a ∨ a = 13 ∨ a = 14) → M' a = M a) ∧ ∀ b, b ≠ 7 → M' 0 b = M 0 b
theorem br9 (hw : WF R C er bg sp) {q t : Nat} (hq : q < R * C) : br er sp q t ≤ 9 := by
  unfold br
  rcases hw.2.1 q hq with z | ⟨e, he, z⟩
  · rw [z]; exact Nat.le_trans (Nat.sub_le _ _) (by decide)
  · rw [z, n_cl (by omega)]; omega
theorem FI.f9 {M M' : AMm} (h : FI M R C er bg sp) (hm : F9 M M') : FI M' R C er bg sp := h.of (hm.1 2 (by decide) (by omega)) (hm.1 3 (by decide) (by omega)) (hm.1 4 (by decide) (by omega)) (hm.1 5 (by decide) (by omega))
theorem s_look {K : AMm → Prop} (hF : FI M R C er bg sp) (hw : WF R C er bg sp) (hN : (LL R C er bg sp).length < 1000000) (hk : M 0 7 = nI 0 ∨ (M 0 7 = nI 1 ∧ o = some 2 ∧ WKn M R C er bg sp)) (h1 : ∀ M', M' 0 7 = nI 1 → WKn M' R C er bg sp → F9 M M' → K M') : CV (d + 4) 67 [.ref 0] (DB o i0 i1 ext) M (DB (some 2) i0 i1 ext) K := by
  have hl := hw.1.le
  have hbP := hw.2.2.1
  rcases hk with hk | ⟨hk, rfl, hW⟩
  · have fin : ∀ (l : List Nd) (k : Nat) (M1 : AMm) (ql qb : Option (Nat × List Nat)) (ae : Nat → Nat), IT M1 R C er sp 15 0 l → k + l.length < 1000000 → CHI M1 15 ql → CHI M1 17 qb → (∀ p, p < 16 → M1 19 p = nI (ae p)) → (∀ x ∈ l, x.2.2.2 ≤ 900) → F9 M M1 → M1 0 7 = nI 0 → (∀ M', M' 0 7 = nI 1 → CHI M' 15 (lwF l ql) → CHI M' 17 (bwF l qb) → (∀ p, p < 16 → M' 19 p = nI (ae p + aeF l p)) → F9 M M' → K M') → T (d + 4) (fun r => ∃ M', r = (none, DB (some 2) i0 i1 ext, M') ∧ K M') (67, 33, [some (.ref 0), some (.int (nI k)), none], [], (DB (some 2) i0 i1 ext), M1) := by
      intro l
      induction l with
      | nil =>
        intro k M1 ql qb ae hI hlen c15 c17 c19 hb hM h07 h1
        refine b_X4_lookAtAllWays_33 _ ⟨fun h => ?_, fun _ => ?_⟩
        · rw [n_le (by decide) (by omega)] at h; omega
        · refine s_nextL (hF.f9 hM) hw hI (fun _ M2 hM2 => ?_) (fun x l' h => by cases h)
          refine ⟨fun _ => ⟨_, rfl, h1 _ (ms_s _ _ _ _) ?_ ?_ (fun p hp => ?_) ⟨fun a z1 z2 => ?_, fun b hb => ?_⟩⟩, fun h => absurd rfl h⟩
          · exact c15.of (by funext b; rw [ms_a (by decide), hM2 _ (by omega)]) (by funext b; rw [ms_a (by decide), hM2 _ (by omega)])
          · exact c17.of (by funext b; rw [ms_a (by decide), hM2 _ (by omega)]) (by funext b; rw [ms_a (by decide), hM2 _ (by omega)])
          · rw [ms_a (by decide), hM2 _ (by omega), c19 p hp]; rfl
          · rw [← hM.1 a z1 z2, ← hM2 a (by omega)]; funext b; exact ms_a z1
          · rw [ms_b hb, hM2 0 (by omega)]; exact hM.2 b hb
      | cons x l ih =>
        intro k M1 ql qb ae hI hlen c15 c17 c19 hb hM h07 h1
        rw [List.length_cons] at hlen
        refine b_X4_lookAtAllWays_33 _ ⟨fun h => ?_, fun _ => ?_⟩
        · rw [n_le (by decide) (by omega)] at h; omega
        · refine s_nextL (hF.f9 hM) hw hI (fun h => by cases h) (fun x' l' h M2 hN2 hM2 => ?_)
          obtain ⟨rfl, rfl⟩ : x = x' ∧ l = l' := by cases h; exact ⟨rfl, rfl⟩
          refine ⟨fun h => absurd h (by decide), fun _ => ?_⟩
          obtain ⟨d1, d2, d3, d4⟩ := nd_depth hN2
          rw [d1, nI_add]
          refine s_offer15 hN2 (c15.of (hM2 _ (by omega)) (hM2 _ (by omega))) (by omega) (fun M3 e15 hM3 => ?_)
          have hN3 := hN2.of (M' := M3) (fun a z1 z2 => hM3 a (by omega) (by omega))
          refine s_brought hN3 (s_offer17 hN3 ((c17.of (hM2 _ (by omega)) (hM2 _ (by omega))).of (hM3 _ (by decide) (by decide)) (hM3 _ (by decide) (by decide))) (Nat.lt_of_le_of_lt (hb x List.mem_cons_self) (by decide)) (fun M4 e17 hM4 => ?_))
          have hN4 := hN3.of (M' := M4) (fun a z1 z2 => hM4 a (by omega) (by omega))
          have k15 : CHI M4 15 (ch ql (x.1.length + 1) x.1) := e15.of (hM4 _ (by decide) (by decide)) (hM4 _ (by decide) (by decide))
          have k19 : ∀ p, p < 16 → M4 19 p = nI (ae p) := fun p hp => by rw [hM4 _ (by decide) (by decide), hM3 _ (by decide) (by decide), hM2 _ (by omega)]; exact c19 p hp
          have kM : F9 M M4 := ⟨fun a z1 z2 => by rw [hM4 _ (by omega) (by omega), hM3 _ (by omega) (by omega), hM2 _ (by omega)]; exact hM.1 a z1 z2, fun b hb => by rw [hM4 _ (by omega) (by omega), hM3 _ (by omega) (by omega), hM2 _ (by omega)]; exact hM.2 b hb⟩
          have k07 : M4 0 7 = nI 0 := by rw [hM4 _ (by omega) (by omega), hM3 _ (by omega) (by omega), hM2 _ (by omega)]; exact h07
          refine s_end hN4 (s_leaves hN4 ?_)
          rw [bI_0, nI_add]
          refine ⟨fun h => ?_, fun h => s_hasN (hF.f9 kM).2.2.1 hl d4 ⟨fun h => absurd h (by decide), fun _ => ⟨n_in (by omega) (by decide), n_in (by omega) (by decide), ?_⟩⟩⟩
          · refine ih (k + 1) M4 _ _ ae (Or.inl ⟨x, hN4⟩) (by omega) k15 e17 k19 (fun y hy => hb y (List.mem_cons_of_mem _ hy)) kM k07 (fun M' a1 a2 a3 a4 a5 => h1 M' a1 a2 a3 (fun p hp => ?_) a5)
            rw [a4 p hp]
            unfold aeF
            rw [List.countP_cons_of_neg]
            intro hq
            have := of_decide_eq_true hq
            rw [decide_eq_true this.1] at h; cases h
          · have hz : x.2.1 = 0 := by
              cases hq : decide (x.2.1 = 0) with
              | false => exact absurd hq h
              | true => exact of_decide_eq_true hq
            rw [n_cl (by omega), k19 _ (by omega), nI_add]
            refine ih (k + 1) _ _ _ (fun p => if p = x.2.2.1 then ae p + 1 else ae p) (Or.inl ⟨x, hN4.of (fun a z1 z2 => by funext b; exact ms_a (by omega))⟩) (by omega) (k15.of (by funext b; exact ms_a (by decide)) (by funext b; exact ms_a (by decide))) (e17.of (by funext b; exact ms_a (by decide)) (by funext b; exact ms_a (by decide))) (fun p hp => ?_) (fun y hy => hb y (List.mem_cons_of_mem _ hy)) ⟨fun a z1 z2 => by rw [← kM.1 a z1 z2]; funext b; exact ms_a (by omega), fun b hb => by rw [ms_a (by decide)]; exact kM.2 b hb⟩ (by rw [ms_a (by decide)]; exact k07) (fun M' a1 a2 a3 a4 a5 => h1 M' a1 a2 a3 (fun p hp => ?_) a5)
            · by_cases hpx : p = x.2.2.1
              · subst hpx; rw [ms_s, if_pos rfl]
              · rw [ms_b hpx, if_neg hpx]; exact k19 p hp
            · rw [a4 p hp]
              unfold aeF
              by_cases hpx : p = x.2.2.1
              · rw [if_pos hpx, List.countP_cons_of_pos (by simp [hz, hpx])]
                congr 1; omega
              · rw [if_neg hpx, List.countP_cons_of_neg (by simp; exact fun _ q => hpx q.symm)]
    have mid : ∀ n k (M1 : AMm), 16 - k = n → k ≤ 16 → CHI M1 15 none → CHI M1 17 none → (∀ p, p < k → M1 19 p = nI 0) → F9 M M1 → M1 0 7 = nI 0 → T (d + 4) (fun r => ∃ M', r = (none, DB (some 2) i0 i1 ext, M') ∧ K M') (67, 12, [some (.ref 0), some (.int (nI k)), none], [], (DB o i0 i1 ext), M1) := by
      intro n
      induction n with
      | zero =>
        intro k M1 h0 hk c15 c17 c19 hM h07
        obtain rfl : k = 16 := by omega
        refine b_X4_lookAtAllWays_12 _ ⟨fun _ => ?_, fun h => absurd (nI_le (Nat.le_refl _) (by decide)) h⟩
        rw [(hF.f9 hM).2.2.2.2.1]
        refine s_from (hF.f9 hM) hw hbP (fun M2 hI hM2 => ?_)
        have hL15 : ∀ x ∈ LL R C er bg sp, x.2.2.2 ≤ 900 := by
          intro x hx
          have z1 := EE_b hw hbP x hx
          have z2 := br9 hw hbP (t := 0)
          have z3 : x.1.length ≤ 15 := by
            have : ∀ n F p t b, ∀ y ∈ EE R C (br er sp) n F p t b, y.1.length ≤ n := by
              intro n
              induction n with
              | zero => intro F p t b y hy; rw [List.mem_singleton.mp hy]; exact Nat.le_refl _
              | succ n ih2 =>
                intro F p t b y hy
                rcases List.mem_cons.mp hy with rfl | hy
                · exact Nat.zero_le _
                · have one : ∀ k, y ∈ wk R C (br er sp) (EE R C (br er sp) n) F p t b k → y.1.length ≤ n + 1 := by
                    intro k hy
                    unfold wk at hy
                    split at hy
                    · obtain ⟨z, hz, rfl⟩ := List.mem_map.mp hy
                      have := ih2 _ _ _ _ z hz
                      simp only [List.length_cons]; omega
                    · cases hy
                  unfold wf at hy
                  simp only [Nat.zero_le, if_true] at hy
                  rcases List.mem_append.mp hy with hy | hy
                  · exact one 0 hy
                  rcases List.mem_append.mp hy with hy | hy
                  · exact one 1 hy
                  rcases List.mem_append.mp hy with hy | hy
                  · exact one 2 hy
                  · exact one 3 hy
            exact this 15 _ _ _ _ x hx
          omega
        refine fin (LL R C er bg sp) 0 M2 none none (fun _ => 0) hI (by omega) (c15.of (hM2 _ (by omega)) (hM2 _ (by omega))) (c17.of (hM2 _ (by omega)) (hM2 _ (by omega))) (fun p hp => by rw [hM2 _ (by omega)]; exact c19 p hp) hL15 ⟨fun a z1 z2 => by rw [hM2 _ (by omega)]; exact hM.1 a z1 z2, fun b hb => by rw [hM2 _ (by omega)]; exact hM.2 b hb⟩ (by rw [hM2 _ (by omega)]; exact h07) (fun M' a1 a2 a3 a4 a5 => h1 M' a1 ⟨a2, a3, fun p hp => by rw [a4 p hp, Nat.zero_add]⟩ a5)
      | succ n ih =>
        intro k M1 h0 hk c15 c17 c19 hM h07
        refine b_X4_lookAtAllWays_12 _ ⟨fun h => ?_, fun _ => ⟨n_in (by omega) (by decide), ?_⟩⟩
        · rw [n_le (by decide) (by omega)] at h; omega
        · rw [n_cl (by omega), nI_add]
          refine ih (k + 1) _ (by omega) (by omega) (c15.of (by funext b; exact ms_a (by decide)) (by funext b; exact ms_a (by decide))) (c17.of (by funext b; exact ms_a (by decide)) (by funext b; exact ms_a (by decide))) (fun p hp => ?_) ⟨fun a z1 z2 => by rw [← hM.1 a z1 z2]; funext b; exact ms_a (by omega), fun b hb => by rw [ms_a (by decide)]; exact hM.2 b hb⟩ (by rw [ms_a (by decide)]; exact h07)
          by_cases hpk : p = k
          · subst hpk; exact ms_s _ _ _ _
          · rw [ms_b hpk]; exact c19 p (by omega)
    refine b_X4_lookAtAllWays_0 ⟨fun _ => ?_, fun h => absurd (by rw [hk]; rfl) h⟩
    refine s_clear15 (fun M2 c15 hM2 => s_clear17 (fun M3 c17 hM3 => ?_))
    refine mid 16 0 M3 rfl (by decide) (c15.of (hM3 _ (by decide) (by decide)) (hM3 _ (by decide) (by decide))) c17 (fun p hp => absurd hp (Nat.not_lt_zero p)) ⟨fun a z1 z2 => by rw [hM3 _ (by omega) (by omega), hM2 _ (by omega) (by omega)], fun b hb => by rw [hM3 _ (by decide) (by decide), hM2 _ (by decide) (by decide)]⟩ (by rw [hM3 _ (by decide) (by decide), hM2 _ (by decide) (by decide)]; exact hk)
  · exact b_X4_lookAtAllWays_0 ⟨fun h => absurd h (by rw [hk]; decide), fun _ => ⟨_, rfl, h1 M hk hW ⟨fun _ _ _ => rfl, fun _ _ => rfl⟩⟩⟩
end C9
