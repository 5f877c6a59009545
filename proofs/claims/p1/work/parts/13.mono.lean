def ie_hp (h h' : ie_H) : Prop := h' = h ∨ (∃ a c c', h' = h.set a c' ∧ h[a]? = some c ∧ ie_sz c' = ie_sz c) ∨ ∃ c, h' = h ++ [c]
theorem ie_hp.mono {h h' : ie_H} (k : ie_hp h h') : h.length ≤ h'.length ∧ ie_sm h ≤ ie_sm h' := by
  rcases k with rfl | ⟨a, c, c', rfl, h1, h2⟩ | ⟨c, rfl⟩
  · exact ⟨Nat.le_refl _, Nat.le_refl _⟩
  · exact ⟨by rw [List.length_set]; exact Nat.le_refl _, by rw [ie_sm_set h1 h2]; exact Nat.le_refl _⟩
  · exact ⟨by rw [List.length_append]; omega, by rw [ie_sm_push]; omega⟩
set_option maxHeartbeats 2000000 in
theorem ie_step_hp {X : ie_X} {m : Nat} {i : Instr} {r : Nat × Nat × Nat} {pc : Nat} {ls : ie_L} {st : List Value} {h : ie_H} {F : ie_F} (hs : ie_step X m i r pc ls st h = some (.inl F)) : ie_hp h F.2.2.2 := by
  cases i with
  | iconst _ | bipush _ | sipush _ | lconst _ | aconst_null | ldc_w _ | ldc2_w _ | goto _ => rw [ie_nx_inj hs]; exact Or.inl rfl
  | iload _ | iload_n _ => obtain ⟨_, _, rfl⟩ := ie_li_inv hs; exact Or.inl rfl
  | lload_n _ => obtain ⟨_, _, rfl⟩ := ie_ll_inv hs; exact Or.inl rfl
  | aload _ | aload_n _ => rcases ie_la_inv hs with ⟨_, _, rfl⟩ | ⟨_, rfl⟩ <;> exact Or.inl rfl
  | istore _ | istore_n _ => obtain ⟨_, _, _, rfl⟩ := ie_si_inv hs; exact Or.inl rfl
  | astore _ | astore_n _ => rcases ie_sa_inv hs with ⟨_, _, _, rfl⟩ | ⟨_, _, rfl⟩ <;> exact Or.inl rfl
  | iinc _ _ => obtain ⟨_, _, rfl⟩ := ie_inc_inv hs; exact Or.inl rfl
  | iadd | isub | imul | iand | ior | ixor | ishl | ishr | iushr => obtain ⟨_, _, _, _, rfl⟩ := ie_b_inv hs; exact Or.inl rfl
  | idiv | irem => obtain ⟨_, _, _, _, _, rfl⟩ := ie_d_inv hs; exact Or.inl rfl
  | land | lor => obtain ⟨_, _, _, _, rfl⟩ := ie_bl_inv hs; exact Or.inl rfl
  | lshl | lshr | lushr => obtain ⟨_, _, _, _, rfl⟩ := ie_sl_inv hs; exact Or.inl rfl
  | i2l | i2c => obtain ⟨_, _, _, rfl⟩ := ie_u_inv hs; exact Or.inl rfl
  | l2i => obtain ⟨_, _, _, rfl⟩ := ie_ul_inv hs; exact Or.inl rfl
  | lcmp =>
    simp only [ie_step] at hs
    split at hs
    · rw [ie_nx_inj hs]; exact Or.inl rfl
    · cases hs
  | ifCond _ _ => obtain ⟨_, _, _, rfl⟩ := ie_i0_inv hs; exact Or.inl rfl
  | if_icmp _ _ => obtain ⟨_, _, _, _, rfl⟩ := ie_i2_inv hs; exact Or.inl rfl
  | ifnull _ | ifnonnull _ => rcases ie_nu_inv hs with ⟨_, _, rfl⟩ | ⟨_, _, _, rfl⟩ <;> exact Or.inl rfl
  | tableswitch _ _ _ _ =>
    simp only [ie_step] at hs
    split at hs
    · rw [ie_nx_inj hs]; exact Or.inl rfl
    · cases hs
  | lookupswitch _ _ =>
    simp only [ie_step] at hs
    split at hs
    · rw [ie_nx_inj hs]; exact Or.inl rfl
    · cases hs
  | iaload | caload | baload =>
    obtain ⟨_, _, _, _, hh⟩ := ie_ia_inv hs
    rcases hh with ⟨_, _, _, rfl⟩ | ⟨_, _, _, _, _, rfl⟩ <;> exact Or.inl rfl
  | laload => obtain ⟨_, _, _, _, _, _, _, _, rfl⟩ := ie_lal_inv hs; exact Or.inl rfl
  | aaload => obtain ⟨_, _, _, _, _, _, _, _, _, _, rfl⟩ := ie_aal_inv hs; exact Or.inl rfl
  | iastore | castore | bastore => obtain ⟨_, _, _, _, _, _, _, hc, _, rfl⟩ := ie_ist_inv hs; exact Or.inr (Or.inl ⟨_, _, _, rfl, hc, rfl⟩)
  | lastore => obtain ⟨_, _, _, _, _, _, _, hc, _, rfl⟩ := ie_lst_inv hs; exact Or.inr (Or.inl ⟨_, _, _, rfl, hc, rfl⟩)
  | aastore =>
    rcases ie_ast_inv hs with ⟨_, _, _, _, _, _, _, _, _, hc, _, _, _, rfl⟩ | ⟨_, _, _, _, _, _, _, hc, _, _, rfl⟩
    · exact Or.inr (Or.inl ⟨_, _, _, rfl, hc, rfl⟩)
    · exact Or.inr (Or.inl ⟨_, _, _, rfl, hc, rfl⟩)
  | arraylength =>
    obtain ⟨_, _, _, hh⟩ := ie_len_inv hs
    rcases hh with ⟨_, rfl⟩ | ⟨_, _, _, _, _, _, rfl⟩ <;> exact Or.inl rfl
  | newarray _ | anewarray _ => obtain ⟨_, _, _, _, rfl⟩ := ie_na_inv hs; exact Or.inr (Or.inr ⟨_, rfl⟩)
  | new _ => obtain ⟨_, rfl⟩ := ie_new_inv hs; exact Or.inr (Or.inr ⟨_, rfl⟩)
  | dup => obtain ⟨_, _, _, _, rfl⟩ := ie_dup_inv hs; exact Or.inl rfl
  | dup2 => obtain ⟨_, _, _, _, _, _, rfl⟩ := ie_dup2_inv hs; exact Or.inl rfl
  | pop => obtain ⟨_, _, _, _, rfl⟩ := ie_pop_inv hs; exact Or.inl rfl
  | getfield _ => obtain ⟨_, _, _, _, _, _, _, rfl⟩ := ie_gf_inv hs; exact Or.inl rfl
  | putfield _ => obtain ⟨_, _, _, _, _, hc, _, _, rfl⟩ := ie_pf_inv hs; exact Or.inr (Or.inl ⟨_, _, _, rfl, hc, rfl⟩)
  | invokespecial _ => obtain ⟨_, _, _, _, _, rfl⟩ := ie_ip_inv hs; exact Or.inl rfl
  | invokestatic _ => obtain ⟨_, _, _, _, _, _, _, _, _, _, _, _, hc, _, rfl⟩ := ie_cp_inv (ie_is_inv hs).2; exact Or.inr (Or.inl ⟨_, _, _, rfl, hc, rfl⟩)
  | invokevirtual _ => exact (ie_iv_no hs).elim
  | ireturn => exact (ie_rv_no hs).elim
  | lreturn => exact (ie_rv_no hs).elim
  | areturn => exact (ie_rv_no hs).elim
  | return_ => exact (ie_r0_no hs).elim
  | _ => exact nomatch hs
theorem ie_nxe {pc : Nat} {ls : ie_L} {st : List Value} {h : ie_H} {q : ie_T ⊕ (ie_O × ie_H)} (hs : ie_nx pc ls st h = some (.inr q)) : False := by unfold ie_nx at hs; cases hs
theorem ie_rv_inv {k m : Nat} {st : List Value} {h : ie_H} {q : ie_O × ie_H} (hs : ie_rv k m st h = some (.inr (.inr q))) : ∃ v ty, st = [v] ∧ ie_ret m = some ty ∧ ie_kv k v = true ∧ ie_fitb ty v = true ∧ q = (.inl (some v), h) := by
  unfold ie_rv ie_end at hs
  split at hs
  · split at hs
    · rename_i v ty hty
      split at hs
      · rename_i h1
        split at hs
        · rename_i h2; exact ⟨_, _, rfl, hty, h1, h2, (Sum.inr.inj (Sum.inr.inj (Option.some.inj hs))).symm⟩
        · cases hs
      · cases hs
    · cases hs
  · cases hs
theorem ie_r0_inv {m : Nat} {st : List Value} {h : ie_H} {q : ie_O × ie_H} (hs : ie_r0 m st h = some (.inr (.inr q))) : st = [] ∧ ie_ret m = none ∧ q = (.inl none, h) := by
  unfold ie_r0 ie_end at hs
  split at hs
  · split at hs
    · rename_i hr; exact ⟨rfl, hr, (Sum.inr.inj (Sum.inr.inj (Option.some.inj hs))).symm⟩
    · cases hs
  · cases hs
theorem ie_new_end {ci pc : Nat} {ls : ie_L} {st : List Value} {h : ie_H} {q : ie_O × ie_H} (hs : ie_new ci pc ls st h = some (.inr (.inr q))) : ¬ ci < 11 ∧ ie_cat st ≤ 8 ∧ q = (.inr ci, h ++ [.inr (ci, [])]) := by
  unfold ie_new at hs
  split at hs
  · exact (ie_nxe hs).elim
  · rename_i hc
    unfold ie_end at hs
    split at hs
    · rename_i h8; exact ⟨hc, h8, (Sum.inr.inj (Sum.inr.inj (Option.some.inj hs))).symm⟩
    · cases hs
