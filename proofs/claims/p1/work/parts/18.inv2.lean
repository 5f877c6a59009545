set_option maxHeartbeats 4000000 in
theorem ie_step_end {X : ie_X} {m : Nat} {i : Instr} {r : Nat × Nat × Nat} {pc : Nat} {ls : ie_L} {st : List Value} {h : ie_H} {o : ie_O} {h' : ie_H} (hs : ie_step X m i r pc ls st h = some (.inr (.inr (o, h')))) :
    (∃ k v, i = ie_ri k ∧ st = v.toList ∧ o = .inl v ∧ h' = h ∧ ie_vok k m v) ∨ (∃ idx, i = .new idx ∧ ¬ r.1 < 11 ∧ ie_cat st ≤ 8 ∧ o = .inr r.1 ∧ h' = h ++ [.inr (r.1, [])]) := by
  cases i with
  | ireturn =>
    obtain ⟨v, ty, rfl, h1, h2, h3, h4⟩ := ie_rv_inv hs
    cases h4
    exact Or.inl ⟨0, some v, rfl, rfl, rfl, rfl, Or.inl ⟨by omega, v, ty, rfl, h1, h2, h3⟩⟩
  | lreturn =>
    obtain ⟨v, ty, rfl, h1, h2, h3, h4⟩ := ie_rv_inv hs
    cases h4
    exact Or.inl ⟨1, some v, rfl, rfl, rfl, rfl, Or.inl ⟨by omega, v, ty, rfl, h1, h2, h3⟩⟩
  | areturn =>
    obtain ⟨v, ty, rfl, h1, h2, h3, h4⟩ := ie_rv_inv hs
    cases h4
    exact Or.inl ⟨2, some v, rfl, rfl, rfl, rfl, Or.inl ⟨by omega, v, ty, rfl, h1, h2, h3⟩⟩
  | return_ =>
    obtain ⟨rfl, h1, h4⟩ := ie_r0_inv hs
    cases h4
    exact Or.inl ⟨3, none, rfl, rfl, rfl, rfl, Or.inr ⟨rfl, rfl, h1⟩⟩
  | new idx =>
    obtain ⟨h1, h2, h4⟩ := ie_new_end hs
    cases h4
    exact Or.inr ⟨idx, rfl, h1, h2, rfl, rfl⟩
  | _ =>
    exfalso
    (simp only [ie_step, ie_b, ie_d, ie_bl, ie_sl, ie_u, ie_ul, ie_li, ie_ll, ie_la, ie_si, ie_sa, ie_inc, ie_i0, ie_i2, ie_nu, ie_ia, ie_lal, ie_aal, ie_ist, ie_lst, ie_ast, ie_len, ie_na, ie_gf, ie_pf, ie_dup, ie_dup2, ie_pop, ie_iv, ie_ip, ie_is, ie_cp, ie_go, ie_nx] at hs) <;> repeat' (first | (cases hs; done) | split at hs)
set_option maxHeartbeats 4000000 in
theorem ie_step_call {X : ie_X} {m : Nat} {i : Instr} {r : Nat × Nat × Nat} {pc : Nat} {ls : ie_L} {st : List Value} {h : ie_H} {m' : Nat} {as rest : List Value} (hs : ie_step X m i r pc ls st h = some (.inr (.inl (m', as, rest)))) :
    m' = r.1 ∧ ie_cat rest ≤ 8 ∧ ((∃ idx b fs, i = .invokevirtual idx ∧ st.drop r.2.1 = .ref b :: rest ∧ h[b]? = some (.inr ((ie_info r.1).1.1, fs)) ∧ as = .ref b :: (st.take r.2.1).reverse) ∨
      (∃ idx b, i = .invokespecial idx ∧ r.1 ≠ 10000 ∧ st.drop r.2.1 = .ref b :: rest ∧ as = .ref b :: (st.take r.2.1).reverse) ∨
      (∃ idx, i = .invokestatic idx ∧ r.1 ≠ 10001 ∧ r.2.1 ≤ st.length ∧ as = (st.take r.2.1).reverse ∧ rest = st.drop r.2.1)) := by
  cases i with
  | invokevirtual idx =>
    simp only [ie_step, ie_iv, ie_go] at hs
    split at hs
    · rename_i b q hd
      split at hs
      · rename_i c fs hc
        split at hs
        · rename_i hcc
          subst hcc
          split at hs
          · rename_i h8
            cases hs
            exact ⟨rfl, h8, Or.inl ⟨idx, b, fs, rfl, hd, hc, rfl⟩⟩
          · cases hs
        · cases hs
      · cases hs
    · cases hs
  | invokespecial idx =>
    simp only [ie_step, ie_ip, ie_go] at hs
    split at hs
    · rename_i b q hd
      split at hs
      · rename_i h8
        split at hs
        · exact (ie_nx_go hs).elim
        · rename_i hm
          cases hs
          exact ⟨rfl, h8, Or.inr (Or.inl ⟨idx, b, rfl, hm, hd, rfl⟩)⟩
      · cases hs
    · cases hs
  | invokestatic idx =>
    simp only [ie_step, ie_is, ie_go] at hs
    split at hs
    · exfalso
      simp only [ie_cp, ie_nx] at hs
      repeat' split at hs
      all_goals cases hs
    · rename_i hm
      split at hs
      · rename_i h8
        cases hs
        exact ⟨rfl, h8.2, Or.inr (Or.inr ⟨idx, rfl, hm, h8.1, rfl, rfl⟩)⟩
      · cases hs
  | _ =>
    exfalso
    (simp only [ie_step, ie_b, ie_d, ie_bl, ie_sl, ie_u, ie_ul, ie_li, ie_ll, ie_la, ie_si, ie_sa, ie_inc, ie_i0, ie_i2, ie_nu, ie_ia, ie_lal, ie_aal, ie_ist, ie_lst, ie_ast, ie_len, ie_na, ie_gf, ie_pf, ie_dup, ie_dup2, ie_pop, ie_new, ie_rv, ie_r0, ie_end, ie_nx] at hs) <;> repeat' (first | (cases hs; done) | split at hs)
set_option maxHeartbeats 2000000 in
theorem ie_ev_inv {X : ie_X} {n d m pc : Nat} {ls : ie_L} {st : List Value} {h : ie_H} {o : ie_O} {h' : ie_H} (he : ie_ev X (n + 1) d m (pc, ls, st, h) = some (o, h')) : ∃ i len r, ie_at m pc = some ((i, len), r) ∧
    ((∃ F, ie_step X m i r pc ls st h = some (.inl F) ∧ ie_ev X n d m F = some (o, h')) ∨ ie_step X m i r pc ls st h = some (.inr (.inr (o, h'))) ∨
     (∃ m' as rest d', ie_step X m i r pc ls st h = some (.inr (.inl (m', as, rest))) ∧ d = d' + 1 ∧ (ie_lgs 0 as = ie_lg m' ∧ (ie_sp as).length ≤ ie_mx m') ∧
       ((∃ v h1, ie_ev X n d' m' (0, ie_en m' as, [], h) = some (.inl v, h1) ∧ ie_ev X n (d' + 1) m (pc + 3, ls, v.toList ++ rest, h1) = some (o, h')) ∨
        (∃ ci h1, ie_ev X n d' m' (0, ie_en m' as, [], h) = some (.inr ci, h1) ∧ ie_tm.contains m' = true ∧
          ((∃ t t' ls', ie_hd m pc ci = some t ∧ ie_ca m t ls = some (t', ls') ∧ ie_ev X n (d' + 1) m (t', ls', [], h1) = some (o, h')) ∨ (ie_hd m pc ci = none ∧ (ie_hs m).isEmpty = true ∧ o = .inr ci ∧ h' = h1)))))) := by
  unfold ie_ev at he
  split at he
  · cases he
  · rename_i i len r hat
    refine ⟨i, len, r, hat, ?_⟩
    split at he
    · cases he
    · rename_i F hs; exact Or.inl ⟨F, hs, he⟩
    · rename_i q hs
      cases he
      exact Or.inr (Or.inl hs)
    · rename_i m' as rest hs
      refine Or.inr (Or.inr ?_)
      cases d with
      | zero => cases he
      | succ d' =>
        simp only at he
        split at he
        · rename_i hlg
          refine ⟨m', as, rest, d', hs, rfl, hlg, ?_⟩
          split at he
          · cases he
          · rename_i v h1 hev; exact Or.inl ⟨v, h1, hev, he⟩
          · rename_i ci h1 hev
            split at he
            · rename_i htm
              refine Or.inr ⟨ci, h1, hev, htm, ?_⟩
              split at he
              · rename_i t hhd
                split at he
                · rename_i t' ls' hca; exact Or.inl ⟨t, t', ls', hhd, hca, he⟩
                · cases he
              · rename_i hhd
                split at he
                · rename_i hem
                  cases he
                  exact Or.inr ⟨hhd, hem, rfl, rfl⟩
                · cases he
            · cases he
        · cases he
theorem ie_ev_mono {X : ie_X} : ∀ (n d m : Nat) (F : ie_F) (o : ie_O) (h' : ie_H), ie_ev X n d m F = some (o, h') → F.2.2.2.length ≤ h'.length ∧ ie_sm F.2.2.2 ≤ ie_sm h'
  | 0, _, _, _, _, _, he => by unfold ie_ev at he; cases he
  | n + 1, d, m, (pc, ls, st, h), o, h', he => by
    obtain ⟨i, len, r, hat, hh⟩ := ie_ev_inv he
    rcases hh with ⟨F, hs, hev⟩ | hs | ⟨m', as, rest, d', hs, rfl, -, hh⟩
    · have h1 := (ie_step_hp hs).mono
      have h2 := ie_ev_mono n _ _ _ _ _ hev
      exact ⟨Nat.le_trans h1.1 h2.1, Nat.le_trans h1.2 h2.2⟩
    · rcases ie_step_end hs with ⟨k, v, -, -, -, rfl, -⟩ | ⟨idx, -, -, -, -, rfl⟩
      · exact ⟨Nat.le_refl _, Nat.le_refl _⟩
      · exact ⟨by rw [List.length_append]; simp, by rw [ie_sm_push]; simp⟩
    · rcases hh with ⟨v, h1, hev1, hev2⟩ | ⟨ci, h1, hev1, -, hh⟩
      · have a1 := ie_ev_mono n _ _ _ _ _ hev1
        have a2 := ie_ev_mono n _ _ _ _ _ hev2
        exact ⟨Nat.le_trans a1.1 a2.1, Nat.le_trans a1.2 a2.2⟩
      · have a1 := ie_ev_mono n _ _ _ _ _ hev1
        rcases hh with ⟨t, t', ls', -, -, hev2⟩ | ⟨-, -, -, rfl⟩
        · have a2 := ie_ev_mono n _ _ _ _ _ hev2
          exact ⟨Nat.le_trans a1.1 a2.1, Nat.le_trans a1.2 a2.2⟩
        · exact a1
