theorem ie_cl_get : ∀ ci, ci < 16 → ie_cl[ci]? = some (ie_q ci)
  | 0, _ => rfl
  | 1, _ => rfl
  | 2, _ => rfl
  | 3, _ => rfl
  | 4, _ => rfl
  | 5, _ => rfl
  | 6, _ => rfl
  | 7, _ => rfl
  | 8, _ => rfl
  | 9, _ => rfl
  | 10, _ => rfl
  | 11, _ => rfl
  | 12, _ => rfl
  | 13, _ => rfl
  | 14, _ => rfl
  | 15, _ => rfl
  | n + 16, h => absurd h (by omega)
theorem ie_ulw : ∀ ci, ci < 11 → ∀ w ∈ u_ws (ie_q ci).1 (ie_q ci).2.1 (ie_q ci).2.2, w ∈ lw_tbl
  | 0, _ => fun w hw => by
    have h1 : w ∈ u_ws R_0 T_0 7 := hw
    rw [i_0] at h1
    obtain ⟨i, -, hi⟩ := List.mem_filterMap.mp h1
    exact List.mem_append_right _ (List.mem_of_getElem? hi)
  | 1, _ => fun w hw => by
    have h1 : w ∈ u_ws R_1 T_1 10 := hw
    rw [i_1] at h1
    obtain ⟨i, -, hi⟩ := List.mem_filterMap.mp h1
    exact List.mem_append_right _ (List.mem_of_getElem? hi)
  | 2, _ => fun w hw => by
    have h1 : w ∈ u_ws R_2 T_2 4 := hw
    rw [i_2] at h1
    obtain ⟨i, -, hi⟩ := List.mem_filterMap.mp h1
    exact List.mem_append_right _ (List.mem_of_getElem? hi)
  | 3, _ => fun w hw => by
    have h1 : w ∈ u_ws R_3 T_3 2 := hw
    rw [i_3] at h1
    obtain ⟨i, -, hi⟩ := List.mem_filterMap.mp h1
    exact List.mem_append_right _ (List.mem_of_getElem? hi)
  | 4, _ => fun w hw => by
    have h1 : w ∈ u_ws R_4 T_4 6 := hw
    rw [i_4] at h1
    obtain ⟨i, -, hi⟩ := List.mem_filterMap.mp h1
    exact List.mem_append_right _ (List.mem_of_getElem? hi)
  | 5, _ => fun w hw => by
    have h1 : w ∈ u_ws R_5 T_5 7 := hw
    rw [i_5] at h1
    obtain ⟨i, -, hi⟩ := List.mem_filterMap.mp h1
    exact List.mem_append_right _ (List.mem_of_getElem? hi)
  | 6, _ => fun w hw => by
    have h1 : w ∈ u_ws R_6 T_6 4 := hw
    rw [i_6] at h1
    obtain ⟨i, -, hi⟩ := List.mem_filterMap.mp h1
    exact List.mem_append_right _ (List.mem_of_getElem? hi)
  | 7, _ => fun w hw => by
    have h1 : w ∈ u_ws R_7 T_7 4 := hw
    rw [i_7] at h1
    obtain ⟨i, -, hi⟩ := List.mem_filterMap.mp h1
    exact List.mem_append_right _ (List.mem_of_getElem? hi)
  | 8, _ => fun w hw => by
    have h1 : w ∈ u_ws R_8 T_8 6 := hw
    rw [i_8] at h1
    obtain ⟨i, -, hi⟩ := List.mem_filterMap.mp h1
    exact List.mem_append_right _ (List.mem_of_getElem? hi)
  | 9, _ => fun w hw => by
    have h1 : w ∈ u_ws R_9 T_9 12 := hw
    rw [i_9] at h1
    obtain ⟨i, -, hi⟩ := List.mem_filterMap.mp h1
    exact List.mem_append_right _ (List.mem_of_getElem? hi)
  | 10, _ => fun w hw => by
    have h1 : w ∈ u_ws R_10 T_10 63 := hw
    rw [i_10] at h1
    obtain ⟨i, -, hi⟩ := List.mem_filterMap.mp h1
    exact List.mem_append_right _ (List.mem_of_getElem? hi)
  | n + 11, h => absurd h (by omega)
theorem ie_tyok : ∀ ci, ci < 11 → ∀ k, k < (ie_q ci).2.2 → parseFieldDescriptor ((ie_q ci).2.1 k).2.2.1 = some ((ie_fl.getD ci (fun _ => .int)) k)
  | 0, _ => t_0
  | 1, _ => t_1
  | 2, _ => t_2
  | 3, _ => t_3
  | 4, _ => t_4
  | 5, _ => t_5
  | 6, _ => t_6
  | 7, _ => t_7
  | 8, _ => t_8
  | 9, _ => t_9
  | 10, _ => t_10
  | n + 11, h => absurd h (by omega)
theorem ie_nmok : ∀ ci, ci < 11 → ∀ a, a < (ie_q ci).2.2 → ∀ b, b < (ie_q ci).2.2 → a ≠ b → ((ie_q ci).2.1 a).2.1 ≠ ((ie_q ci).2.1 b).2.1
  | 0, _ => n_0
  | 1, _ => n_1
  | 2, _ => n_2
  | 3, _ => n_3
  | 4, _ => n_4
  | 5, _ => n_5
  | 6, _ => n_6
  | 7, _ => n_7
  | 8, _ => n_8
  | 9, _ => n_9
  | 10, _ => n_10
  | n + 11, h => absurd h (by omega)
theorem ie_insok : ∀ ci, ci < 16 → Jvm.Cond.instantiable (ie_q ci).1 (if ci < 11 then (ie_q ci).2.2 else 6) ∈ lw_tbl ∧ Jvm.Cond.initialized (ie_q ci).1 ∈ lw_tbl
  | 0, _ => ⟨List.mem_of_getElem? (i := 122) (by decide +kernel), List.mem_of_getElem? (i := 99) (by decide +kernel)⟩
  | 1, _ => ⟨List.mem_of_getElem? (i := 574) (by decide +kernel), List.mem_of_getElem? (i := 114) (by decide +kernel)⟩
  | 2, _ => ⟨List.mem_of_getElem? (i := 519) (by decide +kernel), List.mem_of_getElem? (i := 112) (by decide +kernel)⟩
  | 3, _ => ⟨List.mem_of_getElem? (i := 145) (by decide +kernel), List.mem_of_getElem? (i := 102) (by decide +kernel)⟩
  | 4, _ => ⟨List.mem_of_getElem? (i := 139) (by decide +kernel), List.mem_of_getElem? (i := 101) (by decide +kernel)⟩
  | 5, _ => ⟨List.mem_of_getElem? (i := 280) (by decide +kernel), List.mem_of_getElem? (i := 105) (by decide +kernel)⟩
  | 6, _ => ⟨List.mem_of_getElem? (i := 186) (by decide +kernel), List.mem_of_getElem? (i := 103) (by decide +kernel)⟩
  | 7, _ => ⟨List.mem_of_getElem? (i := 546) (by decide +kernel), List.mem_of_getElem? (i := 113) (by decide +kernel)⟩
  | 8, _ => ⟨List.mem_of_getElem? (i := 130) (by decide +kernel), List.mem_of_getElem? (i := 100) (by decide +kernel)⟩
  | 9, _ => ⟨List.mem_of_getElem? (i := 330) (by decide +kernel), List.mem_of_getElem? (i := 106) (by decide +kernel)⟩
  | 10, _ => ⟨List.mem_of_getElem? (i := 1058) (by decide +kernel), List.mem_of_getElem? (i := 104) (by decide +kernel)⟩
  | 11, _ => ⟨List.mem_of_getElem? (i := 454) (by decide +kernel), List.mem_of_getElem? (i := 111) (by decide +kernel)⟩
  | 12, _ => ⟨List.mem_of_getElem? (i := 718) (by decide +kernel), List.mem_of_getElem? (i := 116) (by decide +kernel)⟩
  | 13, _ => ⟨List.mem_of_getElem? (i := 733) (by decide +kernel), List.mem_of_getElem? (i := 117) (by decide +kernel)⟩
  | 14, _ => ⟨List.mem_of_getElem? (i := 826) (by decide +kernel), List.mem_of_getElem? (i := 119) (by decide +kernel)⟩
  | 15, _ => ⟨List.mem_of_getElem? (i := 853) (by decide +kernel), List.mem_of_getElem? (i := 120) (by decide +kernel)⟩
  | n + 16, h => absurd h (by omega)
theorem ie_oin1 : Jvm.Cond.instanceMethod Lib.objectInit ∈ lw_tbl := List.mem_of_getElem? (i := 127) (by decide +kernel)
theorem ie_oin2 : Jvm.Cond.code Lib.objectInit ⟨#[0xb1]⟩ 1 none ∈ lw_tbl := List.mem_of_getElem? (i := 128) (by decide +kernel)
theorem ie_ac1 : Jvm.Cond.native arraycopyName ∈ lw_tbl := List.mem_of_getElem? (i := 807) (by decide +kernel)
theorem ie_ac2 : Jvm.Cond.static arraycopyName ∈ lw_tbl := List.mem_of_getElem? (i := 806) (by decide +kernel)
theorem ie_ac3 : Jvm.Cond.initialized "java/lang/System" ∈ lw_tbl := List.mem_of_getElem? (i := 118) (by decide +kernel)
theorem ie_ul_ok {ci : Nat} (h : ci < 11) {s : State} (hW : ie_Ws s) (a : Array Value) : ∀ w ∈ u_ws (ie_q ci).1 (ie_q ci).2.1 (ie_q ci).2.2, w.before a s = true := by
  intro w hw
  refine hW w (ie_ulw ci h w hw) ?_ a
  unfold u_ws at hw
  obtain ⟨k, -, rfl⟩ := List.mem_map.mp hw
  unfold u_lay
  split <;> rfl
theorem ie_fit_spec {b0 scr : Nat} {ty : FieldType} {v : Value} (h : ie_fitb ty v = true) : narrow ty (ie_cv b0 scr v) = ie_cv b0 scr v ∧ fits ty (ie_cv b0 scr v) = true := by
  cases ty <;> cases v <;> first | (cases h; done) | exact ⟨rfl, rfl⟩ | skip
  · rename_i x
    have h1 : 0 ≤ x.toInt ∧ x.toInt < 65536 := of_decide_eq_true h
    have h2 : vp_in x 65536 := vp_in_iff.mpr h1
    obtain ⟨q, hq, rfl⟩ := vp_in_of h2 (by decide)
    exact pk_charN hq
  · rename_i x
    have h1 : x = 0 ∨ x = 1 := of_decide_eq_true h
    rcases h1 with rfl | rfl <;> exact ⟨rfl, rfl⟩
theorem ie_kd_obj : ∀ u, 4 ≤ u → u < 8 → ie_kd[u]? = some (.object (ie_q (ie_kc u)).1)
  | 4, _, _ => rfl
  | 5, _, _ => rfl
  | 6, _, _ => rfl
  | 7, _, _ => rfl
  | 0, h, _ => absurd h (by omega)
  | 1, h, _ => absurd h (by omega)
  | 2, h, _ => absurd h (by omega)
  | 3, h, _ => absurd h (by omega)
  | n + 8, _, h => absurd h (by omega)
theorem ie_kc_lt (u : Nat) : ie_kc u < 11 := by unfold ie_kc; repeat (first | omega | split)
