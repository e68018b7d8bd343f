-- SOUNDNESS of a step, whichever it is
theorem a_ex_len {ins : Instr} {aux : List Nat} {k j k' j' : Nat} {L L' : ALo} {st st' : List Value} {D D' : ADd} {M M' : AMm} (h : a_ex ins aux k j L st D M = some (.inl (k', j', L', st', D', M'))) : k' = k ∧ D.length ≤ D'.length ∧ a_szs D ≤ a_szs D' := by
  have fin : ∀ {j1 : Nat} {L1 : ALo} {st1 : List Value} {D1 : ADd} {M1 : AMm}, (some (.inl (k, j1, L1, st1, D1, M1)) : Option AOu) = some (.inl (k', j', L', st', D', M')) → D.length ≤ D1.length → a_szs D ≤ a_szs D1 → k' = k ∧ D.length ≤ D'.length ∧ a_szs D ≤ a_szs D' := by
    intro j1 L1 st1 D1 M1 h h1 h2
    simp only [Option.some.injEq, Sum.inl.injEq, Prod.mk.injEq] at h
    obtain ⟨rfl, rfl, rfl, rfl, rfl, rfl⟩ := h
    exact ⟨rfl, h1, h2⟩
  cases ins with
  | putfield i =>
    dsimp only [a_ex] at h
    split at h
    · obtain ⟨fs, hDa, -, hc⟩ := a_pf_at h
      rcases hc with ⟨z, -, -, -, h⟩ | ⟨q, -, -, h⟩
      · exact fin h (Nat.le_refl _) (Nat.le_refl _)
      · exact fin h (by rw [List.length_set]; exact Nat.le_refl _) (by rw [szs_set hDa (by show (fs.set _ _).length = _; rw [List.length_set]; rfl)]; exact Nat.le_refl _)
    · cases h
  | aastore =>
    dsimp only [a_ex] at h
    split at h
    · split at h
      · rename_i rs hDa
        split at h
        · cases h
        · split at h
          · exact fin h (by rw [List.length_set]; exact Nat.le_refl _) (by rw [szs_set hDa (by show (rs.set _ _).length = _; rw [List.length_set]; rfl)]; exact Nat.le_refl _)
          · cases h
      · cases h
    · cases h
  | new i =>
    dsimp only [a_ex] at h
    split at h
    · exact fin h (by rw [List.length_append]; omega) (by rw [szs_push]; omega)
    · cases h
  | newarray t =>
    dsimp only [a_ex] at h
    split at h
    · split at h
      · split at h
        · exact fin h (by rw [List.length_append]; omega) (by rw [szs_push]; omega)
        · cases h
      · cases h
    · cases h
  | anewarray t =>
    dsimp only [a_ex] at h
    split at h
    · split at h
      · split at h
        · exact fin h (by rw [List.length_append]; omega) (by rw [szs_push]; omega)
        · cases h
      · cases h
    · cases h
  | invokevirtual i => exact absurd h a_callv_no
  | invokestatic i =>
    dsimp only [a_ex] at h
    split at h
    · exact absurd h a_call_no
    · split at h
      · split at h
        · exact fin h (Nat.le_refl _) (Nat.le_refl _)
        · cases h
      · cases h
    · split at h
      · split at h
        · split at h
          · cases h
          · exact fin h (Nat.le_refl _) (Nat.le_refl _)
        · cases h
      · cases h
  | invokespecial i =>
    dsimp only [a_ex] at h
    split at h
    · exact absurd h a_calls_no
    · split at h
      · split at h
        · exact fin h (Nat.le_refl _) (Nat.le_refl _)
        · cases h
      · cases h
  | iload i =>
    dsimp only [a_ex] at h
    split at h
    · exact fin h (Nat.le_refl _) (Nat.le_refl _)
    · cases h
  | iload_n i =>
    dsimp only [a_ex] at h
    split at h
    · exact fin h (Nat.le_refl _) (Nat.le_refl _)
    · cases h
  | aload_n i =>
    dsimp only [a_ex] at h
    split at h
    · exact fin h (Nat.le_refl _) (Nat.le_refl _)
    · cases h
  | lload i =>
    dsimp only [a_ex] at h
    split at h
    · exact fin h (Nat.le_refl _) (Nat.le_refl _)
    · cases h
  | lload_n i =>
    dsimp only [a_ex] at h
    split at h
    · exact fin h (Nat.le_refl _) (Nat.le_refl _)
    · cases h
  | ineg =>
    dsimp only [a_ex] at h
    split at h
    · exact fin h (Nat.le_refl _) (Nat.le_refl _)
    · cases h
  | i2l =>
    dsimp only [a_ex] at h
    split at h
    · exact fin h (Nat.le_refl _) (Nat.le_refl _)
    · cases h
  | l2i =>
    dsimp only [a_ex] at h
    split at h
    · exact fin h (Nat.le_refl _) (Nat.le_refl _)
    · cases h
  | lcmp =>
    dsimp only [a_ex] at h
    split at h
    · exact fin h (Nat.le_refl _) (Nat.le_refl _)
    · cases h
  | pop =>
    dsimp only [a_ex] at h
    split at h
    · exact fin h (Nat.le_refl _) (Nat.le_refl _)
    · cases h
  | dup2 =>
    dsimp only [a_ex] at h
    split at h
    · exact fin h (Nat.le_refl _) (Nat.le_refl _)
    · cases h
  | tableswitch a b c d =>
    dsimp only [a_ex] at h
    split at h
    · exact fin h (Nat.le_refl _) (Nat.le_refl _)
    · cases h
  | iadd =>
    dsimp only [a_ex, a_b2, a_l2] at h
    split at h
    · exact fin h (Nat.le_refl _) (Nat.le_refl _)
    · cases h
  | isub =>
    dsimp only [a_ex, a_b2, a_l2] at h
    split at h
    · exact fin h (Nat.le_refl _) (Nat.le_refl _)
    · cases h
  | imul =>
    dsimp only [a_ex, a_b2, a_l2] at h
    split at h
    · exact fin h (Nat.le_refl _) (Nat.le_refl _)
    · cases h
  | iand =>
    dsimp only [a_ex, a_b2, a_l2] at h
    split at h
    · exact fin h (Nat.le_refl _) (Nat.le_refl _)
    · cases h
  | ior =>
    dsimp only [a_ex, a_b2, a_l2] at h
    split at h
    · exact fin h (Nat.le_refl _) (Nat.le_refl _)
    · cases h
  | ixor =>
    dsimp only [a_ex, a_b2, a_l2] at h
    split at h
    · exact fin h (Nat.le_refl _) (Nat.le_refl _)
    · cases h
  | ishl =>
    dsimp only [a_ex, a_b2, a_l2] at h
    split at h
    · exact fin h (Nat.le_refl _) (Nat.le_refl _)
    · cases h
  | ishr =>
    dsimp only [a_ex, a_b2, a_l2] at h
    split at h
    · exact fin h (Nat.le_refl _) (Nat.le_refl _)
    · cases h
  | iushr =>
    dsimp only [a_ex, a_b2, a_l2] at h
    split at h
    · exact fin h (Nat.le_refl _) (Nat.le_refl _)
    · cases h
  | ladd =>
    dsimp only [a_ex, a_b2, a_l2] at h
    split at h
    · exact fin h (Nat.le_refl _) (Nat.le_refl _)
    · cases h
  | lmul =>
    dsimp only [a_ex, a_b2, a_l2] at h
    split at h
    · exact fin h (Nat.le_refl _) (Nat.le_refl _)
    · cases h
  | istore i =>
    dsimp only [a_ex, a_sto] at h
    split at h
    · split at h
      · exact fin h (Nat.le_refl _) (Nat.le_refl _)
      · cases h
    · cases h
  | istore_n i =>
    dsimp only [a_ex, a_sto] at h
    split at h
    · split at h
      · exact fin h (Nat.le_refl _) (Nat.le_refl _)
      · cases h
    · cases h
  | astore_n i =>
    dsimp only [a_ex, a_sto] at h
    split at h
    · split at h
      · exact fin h (Nat.le_refl _) (Nat.le_refl _)
      · cases h
    · cases h
  | iinc i n =>
    dsimp only [a_ex, a_sto] at h
    split at h
    · split at h
      · exact fin h (Nat.le_refl _) (Nat.le_refl _)
      · cases h
    · cases h
  | idiv =>
    dsimp only [a_ex] at h
    split at h
    · split at h
      · cases h
      · exact fin h (Nat.le_refl _) (Nat.le_refl _)
    · cases h
  | irem =>
    dsimp only [a_ex] at h
    split at h
    · split at h
      · cases h
      · exact fin h (Nat.le_refl _) (Nat.le_refl _)
    · cases h
  | lrem =>
    dsimp only [a_ex] at h
    split at h
    · split at h
      · cases h
      · exact fin h (Nat.le_refl _) (Nat.le_refl _)
    · cases h
  | dup =>
    dsimp only [a_ex] at h
    split at h
    · exact fin h (Nat.le_refl _) (Nat.le_refl _)
    · exact fin h (Nat.le_refl _) (Nat.le_refl _)
    · cases h
  | ifnonnull o =>
    dsimp only [a_ex] at h
    split at h
    · exact fin h (Nat.le_refl _) (Nat.le_refl _)
    · exact fin h (Nat.le_refl _) (Nat.le_refl _)
    · cases h
  | ifCond c o =>
    dsimp only [a_ex] at h
    split at h
    · cases c <;> dsimp only [a_if] at h <;> split at h <;> exact fin h (Nat.le_refl _) (Nat.le_refl _)
    · cases h
  | if_icmp c o =>
    dsimp only [a_ex] at h
    split at h
    · cases c <;> dsimp only [a_if] at h <;> split at h <;> exact fin h (Nat.le_refl _) (Nat.le_refl _)
    · cases h
  | iconst n => exact fin h (Nat.le_refl _) (Nat.le_refl _)
  | bipush n => exact fin h (Nat.le_refl _) (Nat.le_refl _)
  | sipush n => exact fin h (Nat.le_refl _) (Nat.le_refl _)
  | ldc n => exact fin h (Nat.le_refl _) (Nat.le_refl _)
  | ldc_w n => exact fin h (Nat.le_refl _) (Nat.le_refl _)
  | lconst n => exact fin h (Nat.le_refl _) (Nat.le_refl _)
  | ldc2_w n => exact fin h (Nat.le_refl _) (Nat.le_refl _)
  | goto o => exact fin h (Nat.le_refl _) (Nat.le_refl _)
  | getstatic i => exact fin h (Nat.le_refl _) (Nat.le_refl _)
  | iaload =>
    dsimp only [a_ex, a_ald] at h
    split at h
    · split at h
      · split at h
        · split at h
          · cases h
          · exact fin h (Nat.le_refl _) (Nat.le_refl _)
        · cases h
      · split at h
        · split at h
          · split at h
            · cases h
            · exact fin h (Nat.le_refl _) (Nat.le_refl _)
          · cases h
        · cases h
    · cases h
  | baload =>
    dsimp only [a_ex, a_ald] at h
    split at h
    · split at h
      · split at h
        · split at h
          · cases h
          · exact fin h (Nat.le_refl _) (Nat.le_refl _)
        · cases h
      · split at h
        · split at h
          · split at h
            · cases h
            · exact fin h (Nat.le_refl _) (Nat.le_refl _)
          · cases h
        · cases h
    · cases h
  | iastore =>
    dsimp only [a_ex, a_ast] at h
    split at h
    · split at h
      · split at h
        · split at h
          · cases h
          · exact fin h (Nat.le_refl _) (Nat.le_refl _)
        · cases h
      · cases h
    · cases h
  | bastore =>
    dsimp only [a_ex, a_ast] at h
    split at h
    · split at h
      · split at h
        · split at h
          · split at h
            · cases h
            · exact fin h (Nat.le_refl _) (Nat.le_refl _)
          · cases h
        · cases h
      · cases h
    · cases h
  | aaload =>
    dsimp only [a_ex] at h
    split at h
    · split at h
      · split at h
        · cases h
        · exact fin h (Nat.le_refl _) (Nat.le_refl _)
      · cases h
    · cases h
  | arraylength =>
    dsimp only [a_ex] at h
    split at h
    · split at h
      · exact fin h (Nat.le_refl _) (Nat.le_refl _)
      · split at h
        · exact fin h (Nat.le_refl _) (Nat.le_refl _)
        · cases h
    · cases h
  | getfield i =>
    dsimp only [a_ex] at h
    split at h
    · split at h
      · exact fin h (Nat.le_refl _) (Nat.le_refl _)
      · cases h
    · cases h
  | ireturn =>
    dsimp only [a_ex] at h
    split at h
    · split at h <;> cases h
    · cases h
  | return_ =>
    dsimp only [a_ex] at h
    split at h <;> cases h
  | _ => exact absurd (show (none : Option AOu) = some _ from h) (fun q => by cases q)
theorem a_ex_cls {ins : Instr} {aux : List Nat} {k j : Nat} {L : ALo} {st : List Value} {D : ADd} {M : AMm} {x : AOu} (h : a_ex ins aux k j L st D M = some x) : (∃ s' : ASt, x = .inl s') ∨ (ins = .ireturn ∧ ∃ v, st = [.int v] ∧ (a_hd aux = 0 ∨ v = 0 ∨ v = 1) ∧ x = .inr (.inl (some (.int v), D, M))) ∨ (ins = .return_ ∧ st = [] ∧ x = .inr (.inl (none, D, M))) ∨ (∃ i, ins = .invokevirtual i ∧ a_callv D (a_hd aux) (a_hd aux.tail) (a_hd aux.tail.tail) st = some x) ∨ (∃ i c n, ins = .invokestatic i ∧ aux = [c, n] ∧ a_call c n st = some x) ∨ (∃ i c n, ins = .invokespecial i ∧ aux = [c, n] ∧ a_calls c n st = some x) := by
  cases ins with
  | putfield i =>
    dsimp only [a_ex] at h
    split at h
    · obtain ⟨fs, hDa, -, hc⟩ := a_pf_at h
      rcases hc with ⟨z, -, -, -, h⟩ | ⟨q, -, -, h⟩
      · exact Or.inl ⟨_, (Option.some.inj h).symm⟩
      · exact Or.inl ⟨_, (Option.some.inj h).symm⟩
    · cases h
  | aastore =>
    dsimp only [a_ex] at h
    split at h
    · split at h
      · rename_i rs hDa
        split at h
        · cases h
        · split at h
          · exact Or.inl ⟨_, (Option.some.inj h).symm⟩
          · cases h
      · cases h
    · cases h
  | new i =>
    dsimp only [a_ex] at h
    split at h
    · exact Or.inl ⟨_, (Option.some.inj h).symm⟩
    · cases h
  | newarray t =>
    dsimp only [a_ex] at h
    split at h
    · split at h
      · split at h
        · exact Or.inl ⟨_, (Option.some.inj h).symm⟩
        · cases h
      · cases h
    · cases h
  | anewarray t =>
    dsimp only [a_ex] at h
    split at h
    · split at h
      · split at h
        · exact Or.inl ⟨_, (Option.some.inj h).symm⟩
        · cases h
      · cases h
    · cases h
  | invokevirtual i => exact Or.inr (Or.inr (Or.inr (Or.inl ⟨i, rfl, h⟩)))
  | invokestatic i =>
    dsimp only [a_ex] at h
    split at h
    · exact Or.inr (Or.inr (Or.inr (Or.inr (Or.inl ⟨i, _, _, rfl, rfl, h⟩))))
    · split at h
      · split at h
        · exact Or.inl ⟨_, (Option.some.inj h).symm⟩
        · cases h
      · cases h
    · split at h
      · split at h
        · split at h
          · cases h
          · exact Or.inl ⟨_, (Option.some.inj h).symm⟩
        · cases h
      · cases h
  | invokespecial i =>
    dsimp only [a_ex] at h
    split at h
    · exact Or.inr (Or.inr (Or.inr (Or.inr (Or.inr ⟨i, _, _, rfl, rfl, h⟩))))
    · split at h
      · split at h
        · exact Or.inl ⟨_, (Option.some.inj h).symm⟩
        · cases h
      · cases h
  | iload i =>
    dsimp only [a_ex] at h
    split at h
    · exact Or.inl ⟨_, (Option.some.inj h).symm⟩
    · cases h
  | iload_n i =>
    dsimp only [a_ex] at h
    split at h
    · exact Or.inl ⟨_, (Option.some.inj h).symm⟩
    · cases h
  | aload_n i =>
    dsimp only [a_ex] at h
    split at h
    · exact Or.inl ⟨_, (Option.some.inj h).symm⟩
    · cases h
  | lload i =>
    dsimp only [a_ex] at h
    split at h
    · exact Or.inl ⟨_, (Option.some.inj h).symm⟩
    · cases h
  | lload_n i =>
    dsimp only [a_ex] at h
    split at h
    · exact Or.inl ⟨_, (Option.some.inj h).symm⟩
    · cases h
  | ineg =>
    dsimp only [a_ex] at h
    split at h
    · exact Or.inl ⟨_, (Option.some.inj h).symm⟩
    · cases h
  | i2l =>
    dsimp only [a_ex] at h
    split at h
    · exact Or.inl ⟨_, (Option.some.inj h).symm⟩
    · cases h
  | l2i =>
    dsimp only [a_ex] at h
    split at h
    · exact Or.inl ⟨_, (Option.some.inj h).symm⟩
    · cases h
  | lcmp =>
    dsimp only [a_ex] at h
    split at h
    · exact Or.inl ⟨_, (Option.some.inj h).symm⟩
    · cases h
  | pop =>
    dsimp only [a_ex] at h
    split at h
    · exact Or.inl ⟨_, (Option.some.inj h).symm⟩
    · cases h
  | dup2 =>
    dsimp only [a_ex] at h
    split at h
    · exact Or.inl ⟨_, (Option.some.inj h).symm⟩
    · cases h
  | tableswitch a b c d =>
    dsimp only [a_ex] at h
    split at h
    · exact Or.inl ⟨_, (Option.some.inj h).symm⟩
    · cases h
  | iadd =>
    dsimp only [a_ex, a_b2, a_l2] at h
    split at h
    · exact Or.inl ⟨_, (Option.some.inj h).symm⟩
    · cases h
  | isub =>
    dsimp only [a_ex, a_b2, a_l2] at h
    split at h
    · exact Or.inl ⟨_, (Option.some.inj h).symm⟩
    · cases h
  | imul =>
    dsimp only [a_ex, a_b2, a_l2] at h
    split at h
    · exact Or.inl ⟨_, (Option.some.inj h).symm⟩
    · cases h
  | iand =>
    dsimp only [a_ex, a_b2, a_l2] at h
    split at h
    · exact Or.inl ⟨_, (Option.some.inj h).symm⟩
    · cases h
  | ior =>
    dsimp only [a_ex, a_b2, a_l2] at h
    split at h
    · exact Or.inl ⟨_, (Option.some.inj h).symm⟩
    · cases h
  | ixor =>
    dsimp only [a_ex, a_b2, a_l2] at h
    split at h
    · exact Or.inl ⟨_, (Option.some.inj h).symm⟩
    · cases h
  | ishl =>
    dsimp only [a_ex, a_b2, a_l2] at h
    split at h
    · exact Or.inl ⟨_, (Option.some.inj h).symm⟩
    · cases h
  | ishr =>
    dsimp only [a_ex, a_b2, a_l2] at h
    split at h
    · exact Or.inl ⟨_, (Option.some.inj h).symm⟩
    · cases h
  | iushr =>
    dsimp only [a_ex, a_b2, a_l2] at h
    split at h
    · exact Or.inl ⟨_, (Option.some.inj h).symm⟩
    · cases h
  | ladd =>
    dsimp only [a_ex, a_b2, a_l2] at h
    split at h
    · exact Or.inl ⟨_, (Option.some.inj h).symm⟩
    · cases h
  | lmul =>
    dsimp only [a_ex, a_b2, a_l2] at h
    split at h
    · exact Or.inl ⟨_, (Option.some.inj h).symm⟩
    · cases h
  | istore i =>
    dsimp only [a_ex, a_sto] at h
    split at h
    · split at h
      · exact Or.inl ⟨_, (Option.some.inj h).symm⟩
      · cases h
    · cases h
  | istore_n i =>
    dsimp only [a_ex, a_sto] at h
    split at h
    · split at h
      · exact Or.inl ⟨_, (Option.some.inj h).symm⟩
      · cases h
    · cases h
  | astore_n i =>
    dsimp only [a_ex, a_sto] at h
    split at h
    · split at h
      · exact Or.inl ⟨_, (Option.some.inj h).symm⟩
      · cases h
    · cases h
  | iinc i n =>
    dsimp only [a_ex, a_sto] at h
    split at h
    · split at h
      · exact Or.inl ⟨_, (Option.some.inj h).symm⟩
      · cases h
    · cases h
  | idiv =>
    dsimp only [a_ex] at h
    split at h
    · split at h
      · cases h
      · exact Or.inl ⟨_, (Option.some.inj h).symm⟩
    · cases h
  | irem =>
    dsimp only [a_ex] at h
    split at h
    · split at h
      · cases h
      · exact Or.inl ⟨_, (Option.some.inj h).symm⟩
    · cases h
  | lrem =>
    dsimp only [a_ex] at h
    split at h
    · split at h
      · cases h
      · exact Or.inl ⟨_, (Option.some.inj h).symm⟩
    · cases h
  | dup =>
    dsimp only [a_ex] at h
    split at h
    · exact Or.inl ⟨_, (Option.some.inj h).symm⟩
    · exact Or.inl ⟨_, (Option.some.inj h).symm⟩
    · cases h
  | ifnonnull o =>
    dsimp only [a_ex] at h
    split at h
    · exact Or.inl ⟨_, (Option.some.inj h).symm⟩
    · exact Or.inl ⟨_, (Option.some.inj h).symm⟩
    · cases h
  | ifCond c o =>
    dsimp only [a_ex] at h
    split at h
    · cases c <;> dsimp only [a_if] at h <;> split at h <;> exact Or.inl ⟨_, (Option.some.inj h).symm⟩
    · cases h
  | if_icmp c o =>
    dsimp only [a_ex] at h
    split at h
    · cases c <;> dsimp only [a_if] at h <;> split at h <;> exact Or.inl ⟨_, (Option.some.inj h).symm⟩
    · cases h
  | iconst n => exact Or.inl ⟨_, (Option.some.inj h).symm⟩
  | bipush n => exact Or.inl ⟨_, (Option.some.inj h).symm⟩
  | sipush n => exact Or.inl ⟨_, (Option.some.inj h).symm⟩
  | ldc n => exact Or.inl ⟨_, (Option.some.inj h).symm⟩
  | ldc_w n => exact Or.inl ⟨_, (Option.some.inj h).symm⟩
  | lconst n => exact Or.inl ⟨_, (Option.some.inj h).symm⟩
  | ldc2_w n => exact Or.inl ⟨_, (Option.some.inj h).symm⟩
  | goto o => exact Or.inl ⟨_, (Option.some.inj h).symm⟩
  | getstatic i => exact Or.inl ⟨_, (Option.some.inj h).symm⟩
  | iaload =>
    dsimp only [a_ex, a_ald] at h
    split at h
    · split at h
      · split at h
        · split at h
          · cases h
          · exact Or.inl ⟨_, (Option.some.inj h).symm⟩
        · cases h
      · split at h
        · split at h
          · split at h
            · cases h
            · exact Or.inl ⟨_, (Option.some.inj h).symm⟩
          · cases h
        · cases h
    · cases h
  | baload =>
    dsimp only [a_ex, a_ald] at h
    split at h
    · split at h
      · split at h
        · split at h
          · cases h
          · exact Or.inl ⟨_, (Option.some.inj h).symm⟩
        · cases h
      · split at h
        · split at h
          · split at h
            · cases h
            · exact Or.inl ⟨_, (Option.some.inj h).symm⟩
          · cases h
        · cases h
    · cases h
  | iastore =>
    dsimp only [a_ex, a_ast] at h
    split at h
    · split at h
      · split at h
        · split at h
          · cases h
          · exact Or.inl ⟨_, (Option.some.inj h).symm⟩
        · cases h
      · cases h
    · cases h
  | bastore =>
    dsimp only [a_ex, a_ast] at h
    split at h
    · split at h
      · split at h
        · split at h
          · split at h
            · cases h
            · exact Or.inl ⟨_, (Option.some.inj h).symm⟩
          · cases h
        · cases h
      · cases h
    · cases h
  | aaload =>
    dsimp only [a_ex] at h
    split at h
    · split at h
      · split at h
        · cases h
        · exact Or.inl ⟨_, (Option.some.inj h).symm⟩
      · cases h
    · cases h
  | arraylength =>
    dsimp only [a_ex] at h
    split at h
    · split at h
      · exact Or.inl ⟨_, (Option.some.inj h).symm⟩
      · split at h
        · exact Or.inl ⟨_, (Option.some.inj h).symm⟩
        · cases h
    · cases h
  | getfield i =>
    dsimp only [a_ex] at h
    split at h
    · split at h
      · exact Or.inl ⟨_, (Option.some.inj h).symm⟩
      · cases h
    · cases h
  | ireturn =>
    dsimp only [a_ex] at h
    split at h
    · split at h
      · rename_i v hv
        exact Or.inr (Or.inl ⟨rfl, v, rfl, hv, (Option.some.inj h).symm⟩)
      · cases h
    · cases h
  | return_ =>
    dsimp only [a_ex] at h
    split at h
    · exact Or.inr (Or.inr (Or.inl ⟨rfl, rfl, (Option.some.inj h).symm⟩))
    · cases h
  | _ => exact absurd (show (none : Option AOu) = some _ from h) (fun q => by cases q)
theorem a_call_at {k na : Nat} {st : List Value} {x : AOu} (h : a_call k na st = some x) : x = .inr (.inr (k, (st.take na).reverse, st.drop na)) ∧ na ≤ st.length ∧ a_cat (st.drop na) ≤ 8 ∧ (a_sl (st.take na).reverse).length ≤ a_maxL k := by
  unfold a_call at h
  split at h
  · rename_i hc; exact ⟨(Option.some.inj h).symm, hc⟩
  · cases h
theorem a_callv_at {D : ADd} {k na ci : Nat} {st : List Value} {x : AOu} (h : a_callv D k na ci st = some x) : a_call k na st = some x ∧ 0 < na ∧ ∃ (a : Nat) (fs : List (Option (Option Nat))), st[na - 1]? = some (.ref a) ∧ D[a]? = some (.inl (ci, fs)) := by
  unfold a_callv at h
  split at h
  · rename_i a ha
    split at h
    · rename_i c fs hDa
      split at h
      · rename_i hc
        obtain ⟨rfl, hna⟩ := hc
        exact ⟨h, hna, a, fs, ha, hDa⟩
      · cases h
    · cases h
  · cases h
theorem a_calls_at {k na : Nat} {st : List Value} {x : AOu} (h : a_calls k na st = some x) : a_call k na st = some x ∧ 0 < na ∧ ∃ a : Nat, st[na - 1]? = some (.ref a) := by
  unfold a_calls at h
  split at h
  · rename_i a ha
    split at h
    · rename_i hna; exact ⟨h, hna, a, ha⟩
    · cases h
  · cases h
theorem stp_at {s : ASt} {x : AOu} (h : stp s = some x) : ∃ (mt : AMt) (e : AEn), methods[s.1]? = some mt ∧ mt.2.2.2.2[s.2.1]? = some e ∧ a_ex e.2.1 e.2.2.2.1 s.1 s.2.1 s.2.2.1 s.2.2.2.1 s.2.2.2.2.1 s.2.2.2.2.2 = some x := by
  unfold stp at h
  split at h
  · cases h
  · rename_i mt hm
    split at h
    · cases h
    · rename_i e he
      exact ⟨mt, e, hm, he, h⟩
theorem ex_len : ∀ (n d : Nat) (s : ASt) (r : ARs), ex d n s = some r → s.2.2.2.2.1.length ≤ r.2.1.length ∧ a_szs s.2.2.2.2.1 ≤ a_szs r.2.1 := by
  intro n
  induction n with
  | zero => intro d s r h; simp [ex] at h
  | succ n ih =>
    intro d s r h
    unfold ex at h
    cases hs : stp s with
    | none => rw [hs] at h; simp at h
    | some o =>
      rw [hs] at h
      obtain ⟨mt, e, -, -, hex⟩ := stp_at hs
      cases o with
      | inl s' =>
        have h1 := ih d s' r h
        obtain ⟨k', j', L', st', D', M'⟩ := s'
        have h2 := a_ex_len hex
        exact ⟨Nat.le_trans h2.2.1 h1.1, Nat.le_trans h2.2.2 h1.2⟩
      | inr o =>
        cases o with
        | inl r' =>
          have : r' = r := Option.some.inj h
          subst this
          rcases a_ex_cls hex with ⟨_, hq⟩ | ⟨-, v, -, -, hq⟩ | ⟨-, -, hq⟩ | ⟨_, -, hq⟩ | ⟨_, _, _, -, -, hq⟩ | ⟨_, _, _, -, -, hq⟩
          · cases hq
          · cases hq; exact ⟨Nat.le_refl _, Nat.le_refl _⟩
          · cases hq; exact ⟨Nat.le_refl _, Nat.le_refl _⟩
          · have := (a_call_at (a_callv_at hq).1).1; cases this
          · have := (a_call_at hq).1; cases this
          · have := (a_call_at (a_calls_at hq).1).1; cases this
        | inr c =>
          obtain ⟨k, as, rest⟩ := c
          cases d with
          | zero => simp at h
          | succ d' =>
            dsimp only at h
            cases hc : ex d' n (ent k as s.2.2.2.2.1 s.2.2.2.2.2) with
            | none => rw [hc] at h; simp at h
            | some r1 =>
              rw [hc] at h
              have h1 := ih d' _ r1 hc
              have h2 := ih (d' + 1) _ r h
              exact ⟨Nat.le_trans h1.1 h2.1, Nat.le_trans h1.2 h2.2⟩
section SS
variable {p : Program} {l : Launch} {e : Env} {R : Room} {s : State} {m : MethodId} {args : Array Value} {below : List Frame} {meth : Method} {c : Code} {H : Heap} {locs : List Loc} {cells slots : Nat} {Q : State → Prop} {bs : ByteArray} {own nm : String} {tb : List AEn} {ad : Nat → Nat} {ls : Array Slot} {nL k j pc len k' j' : Nat} {aux wx : List Nat} {L L' : ALo} {st st' : List Value} {D D' : ADd} {M M' : AMm}
variable {dC : Nat → ClassId} {dI : Nat → Nat → Nat} {cA : ClassId × ClassId × ClassId} {adr : Nat → Nat} {ro : Nat → Nat → Int32} {A : Nat → Prop}
theorem sn_step {ins : Instr} (hx : p.tables.exec = Jvm.exec) (hb : c.code = bs) (hml : c.maxLocals = nL) (hown : s.vm.findClass own = some m.cls) (hts : ∀ w ∈ GW, w.before args s = true) (hnm : nm = "<init>" → meth.name = "<init>") (hA : ∀ q, s.heap.size ≤ q → A q) (hE : EV dC dI cA adr ro A s) (hR1 : 1 ≤ R.frames ∧ 64 ≤ R.locals) (hR : cells + (D'.length - D.length) ≤ R.cells ∧ slots + (a_szs D' - a_szs D) ≤ R.slots) (hd : decode bs pc = .ok (ins, len)) (hok : ok_i own nm tb j pc ins len aux wx = true) (hs : a_ex ins aux k j L st D M = some (.inl (k', j', L', st', D', M'))) (hW : WH dC dI cA adr ro A s.heap H locs D M ad) (hL : LH ad ls nL L) (hLv : LV D.length L) (hSv : ∀ v ∈ st, vok D.length v) (hK : KON p l e R s m args below meth c Q dC dI cA adr ro A tb nL cells slots D ad j' L' st' D' M') : W p l e R s m args below meth c H locs cells slots Q (F0 m pc ls (st.map (cv ad))) := by
  have hK1 : k' = k → D' = D → M' = M → ∀ ls' : Array Slot, LH ad ls' nL L' → LV D.length L' → (∀ v ∈ st', vok D.length v) → W p l e R s m args below meth c H locs cells slots Q (F0 m (a_pc tb j') ls' (st'.map (cv ad))) := by
    intro _ h2 h3 ls' hL' hV' hS'
    subst h2
    subst h3
    exact hK.same rfl rfl hW hL' hV' hS'
  cases ins with
  | iconst v0 => exact sp_iconst hx hb hd hok hs hL hLv hSv hK1
  | bipush v0 => exact sp_bipush hx hb hd hok hs hL hLv hSv hK1
  | sipush v0 => exact sp_sipush hx hb hd hok hs hL hLv hSv hK1
  | ldc v0 => exact sp_ldc hx hb hd hok hown hts hs hL hLv hSv hK1
  | ldc_w v0 => exact sp_ldc_w hx hb hd hok hown hts hs hL hLv hSv hK1
  | lconst v0 => exact sp_lconst hx hb hd hok hs hL hLv hSv hK1
  | ldc2_w v0 => exact sp_ldc2_w hx hb hd hok hown hts hs hL hLv hSv hK1
  | iload v0 => exact sp_iload hx hb hd hok hs hL hLv hSv hK1
  | iload_n v0 => exact sp_iload_n hx hb hd hok hs hL hLv hSv hK1
  | aload_n v0 => exact sp_aload_n hx hb hd hok hs hL hLv hSv hK1
  | lload v0 => exact sp_lload hx hb hd hok hs hL hLv hSv hK1
  | lload_n v0 => exact sp_lload_n hx hb hd hok hs hL hLv hSv hK1
  | istore v0 => exact sp_istore hx hb hd hok hs hL hLv hSv hK1
  | istore_n v0 => exact sp_istore_n hx hb hd hok hs hL hLv hSv hK1
  | astore_n v0 => exact sp_astore_n hx hb hd hok hs hL hLv hSv hK1
  | iinc v0 v1 => exact sp_iinc hx hb hd hok hs hL hLv hSv hK1
  | iadd  => exact sp_iadd hx hb hd hok hs hL hLv hSv hK1
  | isub  => exact sp_isub hx hb hd hok hs hL hLv hSv hK1
  | imul  => exact sp_imul hx hb hd hok hs hL hLv hSv hK1
  | iand  => exact sp_iand hx hb hd hok hs hL hLv hSv hK1
  | ior  => exact sp_ior hx hb hd hok hs hL hLv hSv hK1
  | ixor  => exact sp_ixor hx hb hd hok hs hL hLv hSv hK1
  | ishl  => exact sp_ishl hx hb hd hok hs hL hLv hSv hK1
  | ishr  => exact sp_ishr hx hb hd hok hs hL hLv hSv hK1
  | iushr  => exact sp_iushr hx hb hd hok hs hL hLv hSv hK1
  | idiv  => exact sp_idiv hx hb hd hok hs hL hLv hSv hK1
  | irem  => exact sp_irem hx hb hd hok hs hL hLv hSv hK1
  | lrem  => exact sp_lrem hx hb hd hok hs hL hLv hSv hK1
  | ladd  => exact sp_ladd hx hb hd hok hs hL hLv hSv hK1
  | lmul  => exact sp_lmul hx hb hd hok hs hL hLv hSv hK1
  | lcmp  => exact sp_lcmp hx hb hd hok hs hL hLv hSv hK1
  | ineg  => exact sp_ineg hx hb hd hok hs hL hLv hSv hK1
  | i2l  => exact sp_i2l hx hb hd hok hs hL hLv hSv hK1
  | l2i  => exact sp_l2i hx hb hd hok hs hL hLv hSv hK1
  | pop  => exact sp_pop hx hb hd hok hs hL hLv hSv hK1
  | dup  => exact sp_dup hx hb hd hok hs hL hLv hSv hK1
  | dup2  => exact sp_dup2 hx hb hd hok hs hL hLv hSv hK1
  | goto v0 => exact sp_goto hx hb hd hok hs hL hLv hSv hK1
  | ifCond v0 v1 => exact sp_ifCond hx hb hd hok hs hL hLv hSv hK1
  | if_icmp v0 v1 => exact sp_if_icmp hx hb hd hok hs hL hLv hSv hK1
  | ifnonnull v0 => exact sp_ifnonnull hx hb hd hok hs hL hLv hSv hK1
  | tableswitch v0 v1 v2 v3 => exact sp_tableswitch hx hb hd hok hs hL hLv hSv hK1
  | iaload  => exact sh_iaload hx hb hml hown hts hnm hA hE hR1 hR hd hok hs hW hL hLv hSv hK
  | baload  => exact sh_baload hx hb hml hown hts hnm hA hE hR1 hR hd hok hs hW hL hLv hSv hK
  | iastore  => exact sh_iastore hx hb hml hown hts hnm hA hE hR1 hR hd hok hs hW hL hLv hSv hK
  | bastore  => exact sh_bastore hx hb hml hown hts hnm hA hE hR1 hR hd hok hs hW hL hLv hSv hK
  | aaload  => exact sh_aaload hx hb hml hown hts hnm hA hE hR1 hR hd hok hs hW hL hLv hSv hK
  | aastore  => exact sh_aastore hx hb hml hown hts hnm hA hE hR1 hR hd hok hs hW hL hLv hSv hK
  | arraylength  => exact sh_arraylength hx hb hml hown hts hnm hA hE hR1 hR hd hok hs hW hL hLv hSv hK
  | getfield v0 => exact sh_getfield hx hb hml hown hts hnm hA hE hR1 hR hd hok hs hW hL hLv hSv hK
  | putfield v0 => exact sh_putfield hx hb hml hown hts hnm hA hE hR1 hR hd hok hs hW hL hLv hSv hK
  | getstatic v0 => exact sh_getstatic hx hb hml hown hts hnm hA hE hR1 hR hd hok hs hW hL hLv hSv hK
  | new v0 => exact sh_new hx hb hml hown hts hnm hA hE hR1 hR hd hok hs hW hL hLv hSv hK
  | newarray v0 => exact sh_newarray hx hb hml hown hts hnm hA hE hR1 hR hd hok hs hW hL hLv hSv hK
  | anewarray v0 => exact sh_anewarray hx hb hml hown hts hnm hA hE hR1 hR hd hok hs hW hL hLv hSv hK
  | invokespecial v0 => exact sh_invokespecial hx hb hml hown hts hnm hA hE hR1 hR hd hok hs hW hL hLv hSv hK
  | invokestatic v0 => exact sh_invokestatic hx hb hml hown hts hnm hA hE hR1 hR hd hok hs hW hL hLv hSv hK
  | invokevirtual v0 => exact absurd hs a_callv_no
  | ireturn =>
    dsimp only [a_ex] at hs
    split at hs
    · split at hs <;> cases hs
    · cases hs
  | return_ =>
    dsimp only [a_ex] at hs
    split at hs <;> cases hs
  | _ => exact absurd (show (none : Option AOu) = some _ from hs) (fun q => by cases q)
end SS
