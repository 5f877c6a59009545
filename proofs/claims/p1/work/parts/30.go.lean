theorem ie_ev_fuel {X : ie_X} : ∀ (n k d m : Nat) (F : ie_F) (r : ie_O × ie_H), ie_ev X n d m F = some r → ie_ev X (n + k) d m F = some r
  | 0, _, _, _, _, _, he => by unfold ie_ev at he; cases he
  | n + 1, k, d, m, (pc, ls, st, h), (o, h'), he => by
    obtain ⟨i, len, r, hat, hh⟩ := ie_ev_inv he
    rw [show n + 1 + k = (n + k) + 1 by omega]
    unfold ie_ev
    rw [hat]
    simp only
    rcases hh with ⟨F, hs, hev⟩ | hs | ⟨m', as, rest, d', hs, rfl, hlg, hh⟩
    · rw [hs]; exact ie_ev_fuel n k _ _ _ _ hev
    · rw [hs]
    · rw [hs]
      simp only
      rw [if_pos hlg]
      rcases hh with ⟨v, h1, hev1, hev2⟩ | ⟨ci, h1, hev1, htm, hh⟩
      · rw [ie_ev_fuel n k _ _ _ _ hev1]
        exact ie_ev_fuel n k _ _ _ _ hev2
      · rw [ie_ev_fuel n k _ _ _ _ hev1]
        simp only
        rw [if_pos htm]
        rcases hh with ⟨t, t', ls', hhd, hca, hev2⟩ | ⟨hhd, hem, rfl, rfl⟩
        · rw [hhd]
          simp only
          rw [hca]
          exact ie_ev_fuel n k _ _ _ _ hev2
        · rw [hhd]
          simp only
          rw [if_pos hem]
def Go (X : ie_X) (d m : Nat) (F : ie_F) (o : ie_O) (h' : ie_H) : Prop := ∃ n, ie_ev X n d m F = some (o, h')
section GO
variable {X : ie_X} {d m pc len : Nat} {i : Instr} {r : Nat × Nat × Nat} {ls : ie_L} {st : List Value} {h : ie_H} {o : ie_O} {h' : ie_H}
theorem go_step {F : ie_F} (hat : ie_at m pc = some ((i, len), r)) (hs : ie_step X m i r pc ls st h = some (.inl F)) (k : Go X d m F o h') : Go X d m (pc, ls, st, h) o h' := by
  obtain ⟨n, hn⟩ := k
  refine ⟨n + 1, ?_⟩
  unfold ie_ev
  rw [hat]
  simp only
  rw [hs]
  exact hn
theorem go_end (hat : ie_at m pc = some ((i, len), r)) (hs : ie_step X m i r pc ls st h = some (.inr (.inr (o, h')))) : Go X d m (pc, ls, st, h) o h' := by
  refine ⟨1, ?_⟩
  unfold ie_ev
  rw [hat]
  simp only
  rw [hs]
theorem go_call {m' : Nat} {as rest : List Value} {v : Option Value} {h1 : ie_H} (hat : ie_at m pc = some ((i, len), r)) (hs : ie_step X m i r pc ls st h = some (.inr (.inl (m', as, rest)))) (hlg : ie_lgs 0 as = ie_lg m' ∧ (ie_sp as).length ≤ ie_mx m') (k1 : Go X d m' (0, ie_en m' as, [], h) (.inl v) h1) (k : Go X (d + 1) m (pc + 3, ls, v.toList ++ rest, h1) o h') : Go X (d + 1) m (pc, ls, st, h) o h' := by
  obtain ⟨n1, hn1⟩ := k1
  obtain ⟨n2, hn2⟩ := k
  refine ⟨n1 + n2 + 1, ?_⟩
  unfold ie_ev
  rw [hat]
  simp only
  rw [hs]
  simp only
  rw [if_pos hlg, ie_ev_fuel n1 n2 _ _ _ _ hn1]
  simp only
  rw [Nat.add_comm n1 n2]
  exact ie_ev_fuel n2 n1 _ _ _ _ hn2
theorem go_catch {m' ci t t' : Nat} {as rest : List Value} {ls' : ie_L} {h1 : ie_H} (hat : ie_at m pc = some ((i, len), r)) (hs : ie_step X m i r pc ls st h = some (.inr (.inl (m', as, rest)))) (hlg : ie_lgs 0 as = ie_lg m' ∧ (ie_sp as).length ≤ ie_mx m') (htm : ie_tm.contains m' = true) (hhd : ie_hd m pc ci = some t) (hca : ie_ca m t ls = some (t', ls')) (k1 : Go X d m' (0, ie_en m' as, [], h) (.inr ci) h1) (k : Go X (d + 1) m (t', ls', [], h1) o h') : Go X (d + 1) m (pc, ls, st, h) o h' := by
  obtain ⟨n1, hn1⟩ := k1
  obtain ⟨n2, hn2⟩ := k
  refine ⟨n1 + n2 + 1, ?_⟩
  unfold ie_ev
  rw [hat]
  simp only
  rw [hs]
  simp only
  rw [if_pos hlg, ie_ev_fuel n1 n2 _ _ _ _ hn1]
  simp only
  rw [if_pos htm, hhd]
  simp only
  rw [hca, Nat.add_comm n1 n2]
  exact ie_ev_fuel n2 n1 _ _ _ _ hn2
theorem go_out {m' ci : Nat} {as rest : List Value} {h1 : ie_H} (hat : ie_at m pc = some ((i, len), r)) (hs : ie_step X m i r pc ls st h = some (.inr (.inl (m', as, rest)))) (hlg : ie_lgs 0 as = ie_lg m' ∧ (ie_sp as).length ≤ ie_mx m') (htm : ie_tm.contains m' = true) (hem : (ie_hs m).isEmpty = true) (k1 : Go X d m' (0, ie_en m' as, [], h) (.inr ci) h1) : Go X (d + 1) m (pc, ls, st, h) (.inr ci) h1 := by
  obtain ⟨n1, hn1⟩ := k1
  have hhd : ie_hd m pc ci = none := by
    unfold ie_hd
    rw [List.isEmpty_iff.mp hem]
    rfl
  refine ⟨n1 + 1, ?_⟩
  unfold ie_ev
  rw [hat]
  simp only
  rw [hs]
  simp only
  rw [if_pos hlg, hn1]
  simp only
  rw [if_pos htm, hhd]
  simp only
  rw [if_pos hem]
theorem go_deeper : ∀ {d : Nat} (k : Nat), Go X d m (pc, ls, st, h) o h' → Go X (d + k) m (pc, ls, st, h) o h' := by
  intro d k ⟨n, hn⟩
  have key : ∀ (n d m : Nat) (F : ie_F) (r : ie_O × ie_H), ie_ev X n d m F = some r → ie_ev X n (d + k) m F = some r := by
    intro n
    induction n with
    | zero => intro d m F r he; unfold ie_ev at he; cases he
    | succ n ih =>
      intro d m F r he
      obtain ⟨pc, ls, st, h⟩ := F
      obtain ⟨o, h'⟩ := r
      obtain ⟨i, len, r, hat, hh⟩ := ie_ev_inv he
      unfold ie_ev
      rw [hat]
      simp only
      rcases hh with ⟨F, hs, hev⟩ | hs | ⟨m', as, rest, d', hs, rfl, hlg, hh⟩
      · rw [hs]; exact ih _ _ _ _ hev
      · rw [hs]
      · rw [hs, show d' + 1 + k = (d' + k) + 1 by omega]
        simp only
        rw [if_pos hlg]
        rcases hh with ⟨v, h1, hev1, hev2⟩ | ⟨ci, h1, hev1, htm, hh⟩
        · rw [ih _ _ _ _ hev1]
          have := ih _ _ _ _ hev2
          rw [show d' + 1 + k = (d' + k) + 1 by omega] at this
          exact this
        · rw [ih _ _ _ _ hev1]
          simp only
          rw [if_pos htm]
          rcases hh with ⟨t, t', ls', hhd, hca, hev2⟩ | ⟨hhd, hem, rfl, rfl⟩
          · rw [hhd]
            simp only
            rw [hca]
            have := ih _ _ _ _ hev2
            rw [show d' + 1 + k = (d' + k) + 1 by omega] at this
            exact this
          · rw [hhd]
            simp only
            rw [if_pos hem]
  exact ⟨n, key n d m _ _ hn⟩
end GO
def ie_run (X : ie_X) (m : Nat) : Nat → ie_F → Option ie_F
  | 0, F => some F
  | k + 1, (pc, ls, st, h) => match ie_at m pc with
    | some ((i, _), r) => (match ie_step X m i r pc ls st h with
      | some (.inl F) => ie_run X m k F
      | _ => none)
    | none => none
theorem go_run {X : ie_X} {d m : Nat} {o : ie_O} {h' : ie_H} : ∀ (k : Nat) {F F' : ie_F}, ie_run X m k F = some F' → Go X d m F' o h' → Go X d m F o h'
  | 0, F, F', he, hg => by cases he; exact hg
  | k + 1, (pc, ls, st, h), F', he, hg => by
    unfold ie_run at he
    split at he
    · rename_i i len r hat
      split at he
      · rename_i F hs
        exact go_step hat hs (go_run k he hg)
      · cases he
    · cases he
