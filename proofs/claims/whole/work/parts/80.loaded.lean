set_option maxRecDepth 100000 in
theorem vc_length_1 {X : ie_X} {d : Nat} {h : ie_H} {p1 nl cf cw : Int32} {pl : Nat} (c0 : h[0]? = some (.inr (0, [.ref 1, .int nl, .int cf, .int cw, .ref pl, .ref 2, .ref 133]))) (q1 : p1 < 0) : Go X (d + 3) 78 (0, ie_en 78 [.ref 0, .int p1, .ref 177], [], h) (.inl (some (.int 1))) (h ++ [.inr (14, [])]) := by
  refine go_run 0 (F' := (0, [some (.ref 0), some (.int p1), some (.ref 177), none], [], h)) rfl ?_
  refine go_run 4 (F' := (4, [some (.ref 0), some (.int p1), some (.ref 177), none], [.int p1, .ref 0, .int 0, .ref 177], h)) rfl ?_
  refine go_catch (m' := 79) (ci := 14) (h1 := (h ++ [.inr (14, [])])) rfl (by simp only [ie_step, ie_iv, List.drop, c0, if_true]; rfl) ⟨rfl, Nat.le_of_ble_eq_true rfl⟩ rfl rfl rfl ?_ ?_
  · refine go_run 0 (F' := (0, [some (.ref 0), some (.int p1)], [], h)) rfl ?_
    refine go_run 1 (F' := (1, [some (.ref 0), some (.int p1)], [.int p1], h)) rfl ?_
    refine go_out (m' := 80) rfl rfl ⟨rfl, Nat.le_of_ble_eq_true rfl⟩ rfl rfl ?_
    · refine go_run 0 (F' := (0, [some (.int p1)], [], h)) rfl ?_
      refine go_run 1 (F' := (1, [some (.int p1)], [.int p1], h)) rfl ?_
      refine go_call (m' := 33) (v := some (.int 0)) (h1 := h) rfl rfl ⟨rfl, Nat.le_of_ble_eq_true rfl⟩ ?_ ?_
      · refine go_run 0 (F' := (0, [some (.int p1)], [], h)) rfl ?_
        refine go_run 1 (F' := (1, [some (.int p1)], [.int p1], h)) rfl ?_
        refine go_step rfl rfl ?_
        rw [if_pos q1]
        refine go_run 0 (F' := (14, [some (.int p1)], [], h)) rfl ?_
        refine go_run 1 (F' := (15, [some (.int p1)], [.int 0], h)) rfl ?_
        exact go_end rfl rfl
      refine go_run 0 (F' := (4, [some (.int p1)], [.int 0], h)) rfl ?_
      refine go_run 1 (F' := (7, [some (.int p1)], [], h)) rfl ?_
      exact go_end rfl rfl
  refine go_run 0 (F' := (13, [some (.ref 0), some (.int p1), some (.ref 177), none], [], (h ++ [.inr (14, [])]))) rfl ?_
  refine go_run 1 (F' := (14, [some (.ref 0), some (.int p1), some (.ref 177), none], [.int 1], (h ++ [.inr (14, [])]))) rfl ?_
  exact go_end rfl rfl
set_option maxRecDepth 100000 in
theorem vc_length_2 {X : ie_X} {d : Nat} {h : ie_H} {p1 nl cf cw : Int32} {pl : Nat} (c0 : h[0]? = some (.inr (0, [.ref 1, .int nl, .int cf, .int cw, .ref pl, .ref 2, .ref 133]))) (q1 : ¬ (p1 < 0)) (q2 : 6 ≤ p1) : Go X (d + 3) 78 (0, ie_en 78 [.ref 0, .int p1, .ref 177], [], h) (.inl (some (.int 1))) (h ++ [.inr (14, [])]) := by
  refine go_run 0 (F' := (0, [some (.ref 0), some (.int p1), some (.ref 177), none], [], h)) rfl ?_
  refine go_run 4 (F' := (4, [some (.ref 0), some (.int p1), some (.ref 177), none], [.int p1, .ref 0, .int 0, .ref 177], h)) rfl ?_
  refine go_catch (m' := 79) (ci := 14) (h1 := (h ++ [.inr (14, [])])) rfl (by simp only [ie_step, ie_iv, List.drop, c0, if_true]; rfl) ⟨rfl, Nat.le_of_ble_eq_true rfl⟩ rfl rfl rfl ?_ ?_
  · refine go_run 0 (F' := (0, [some (.ref 0), some (.int p1)], [], h)) rfl ?_
    refine go_run 1 (F' := (1, [some (.ref 0), some (.int p1)], [.int p1], h)) rfl ?_
    refine go_out (m' := 80) rfl rfl ⟨rfl, Nat.le_of_ble_eq_true rfl⟩ rfl rfl ?_
    · refine go_run 0 (F' := (0, [some (.int p1)], [], h)) rfl ?_
      refine go_run 1 (F' := (1, [some (.int p1)], [.int p1], h)) rfl ?_
      refine go_call (m' := 33) (v := some (.int 0)) (h1 := h) rfl rfl ⟨rfl, Nat.le_of_ble_eq_true rfl⟩ ?_ ?_
      · refine go_run 0 (F' := (0, [some (.int p1)], [], h)) rfl ?_
        refine go_run 1 (F' := (1, [some (.int p1)], [.int p1], h)) rfl ?_
        refine go_step rfl rfl ?_
        rw [if_neg q1]
        refine go_run 0 (F' := (4, [some (.int p1)], [], h)) rfl ?_
        refine go_run 2 (F' := (7, [some (.int p1)], [.int 6, .int p1], h)) rfl ?_
        refine go_step rfl rfl ?_
        rw [if_pos q2]
        refine go_run 0 (F' := (14, [some (.int p1)], [], h)) rfl ?_
        refine go_run 1 (F' := (15, [some (.int p1)], [.int 0], h)) rfl ?_
        exact go_end rfl rfl
      refine go_run 0 (F' := (4, [some (.int p1)], [.int 0], h)) rfl ?_
      refine go_run 1 (F' := (7, [some (.int p1)], [], h)) rfl ?_
      exact go_end rfl rfl
  refine go_run 0 (F' := (13, [some (.ref 0), some (.int p1), some (.ref 177), none], [], (h ++ [.inr (14, [])]))) rfl ?_
  refine go_run 1 (F' := (14, [some (.ref 0), some (.int p1), some (.ref 177), none], [.int 1], (h ++ [.inr (14, [])]))) rfl ?_
  exact go_end rfl rfl
set_option maxRecDepth 100000 in
theorem vc_length_3 {X : ie_X} {d : Nat} {h : ie_H} {p1 nl cf cw crm csp v5 v6 v7 v10 : Int32} {pl a1 a8 : Nat} {z3 z4 z9 : Value} {fo : Nat → Int64} (c0 : h[0]? = some (.inr (0, [.ref 1, .int nl, .int cf, .int cw, .ref pl, .ref 2, .ref 133]))) (c2 : h[2]? = some (.inr (8, [.ref 3, .ref 4, .ref 5, .ref 6, .int crm, .int csp]))) (c3 : h[3]? = some (.inl (4, 6, .inr (.inr (.inr (.inr rf_3)))))) (c_a1 : h[a1]? = some (.inr (4, [.ref a8, z3, z4, .int v5, .int v6, .int v7]))) (c_a8 : h[a8]? = some (.inr (3, [z9, .int v10]))) (c177 : h[177]? = some (.inl (3, 1, .inr (.inl fo)))) (q1 : ¬ (p1 < 0)) (q2 : ¬ (6 ≤ p1)) (b_2 : 0 ≤ Int32.toInt p1 ∧ Int32.toInt p1 < (6 : Int)) (r_3 : rf_3 (Int32.toNatClampNeg p1) = some a1) (ne_177_a1 : 177 ≠ a1) (ne_177_a8 : 177 ≠ a8) : Go X (d + 3) 78 (0, ie_en 78 [.ref 0, .int p1, .ref 177], [], h) (.inl (some (.int 0))) (List.set h 177 (.inl (3, 1, .inr (.inl (vp_updL fo 0 (Int32.toInt64 v10)))))) := by
  refine go_run 0 (F' := (0, [some (.ref 0), some (.int p1), some (.ref 177), none], [], h)) rfl ?_
  refine go_run 4 (F' := (4, [some (.ref 0), some (.int p1), some (.ref 177), none], [.int p1, .ref 0, .int 0, .ref 177], h)) rfl ?_
  refine go_call (m' := 79) (v := some (.int v10)) (h1 := h) rfl (by simp only [ie_step, ie_iv, List.drop, c0, if_true]; rfl) ⟨rfl, Nat.le_of_ble_eq_true rfl⟩ ?_ ?_
  · refine go_run 0 (F' := (0, [some (.ref 0), some (.int p1)], [], h)) rfl ?_
    refine go_run 1 (F' := (1, [some (.ref 0), some (.int p1)], [.int p1], h)) rfl ?_
    refine go_call (m' := 80) (v := none) (h1 := h) rfl rfl ⟨rfl, Nat.le_of_ble_eq_true rfl⟩ ?_ ?_
    · refine go_run 0 (F' := (0, [some (.int p1)], [], h)) rfl ?_
      refine go_run 1 (F' := (1, [some (.int p1)], [.int p1], h)) rfl ?_
      refine go_call (m' := 33) (v := some (.int 1)) (h1 := h) rfl rfl ⟨rfl, Nat.le_of_ble_eq_true rfl⟩ ?_ ?_
      · refine go_run 0 (F' := (0, [some (.int p1)], [], h)) rfl ?_
        refine go_run 1 (F' := (1, [some (.int p1)], [.int p1], h)) rfl ?_
        refine go_step rfl rfl ?_
        rw [if_neg q1]
        refine go_run 0 (F' := (4, [some (.int p1)], [], h)) rfl ?_
        refine go_run 2 (F' := (7, [some (.int p1)], [.int 6, .int p1], h)) rfl ?_
        refine go_step rfl rfl ?_
        rw [if_neg q2]
        refine go_run 0 (F' := (10, [some (.int p1)], [], h)) rfl ?_
        refine go_run 2 (F' := (15, [some (.int p1)], [.int 1], h)) rfl ?_
        exact go_end rfl rfl
      refine go_run 0 (F' := (4, [some (.int p1)], [.int 1], h)) rfl ?_
      refine go_run 1 (F' := (15, [some (.int p1)], [], h)) rfl ?_
      exact go_end rfl rfl
    refine go_run 0 (F' := (4, [some (.ref 0), some (.int p1)], [], h)) rfl ?_
    refine go_run 1 (F' := (5, [some (.ref 0), some (.int p1)], [.ref 0], h)) rfl ?_
    refine go_call (m' := 81) (v := none) (h1 := h) rfl (by simp only [ie_step, ie_iv, List.drop, c0, if_true]; rfl) ⟨rfl, Nat.le_of_ble_eq_true rfl⟩ ?_ ?_
    · refine go_run 0 (F' := (0, [some (.ref 0)], [], h)) rfl ?_
      refine go_run 1 (F' := (1, [some (.ref 0)], [.ref 0], h)) rfl ?_
      refine go_gf rfl c0 rfl ?_
      refine go_run 0 (F' := (4, [some (.ref 0)], [.ref pl], h)) rfl ?_
      refine go_run 1 (F' := (15, [some (.ref 0)], [], h)) rfl ?_
      exact go_end rfl rfl
    refine go_run 0 (F' := (8, [some (.ref 0), some (.int p1)], [], h)) rfl ?_
    refine go_run 1 (F' := (9, [some (.ref 0), some (.int p1)], [.ref 0], h)) rfl ?_
    refine go_gf rfl c0 rfl ?_
    refine go_run 0 (F' := (12, [some (.ref 0), some (.int p1)], [.ref 2], h)) rfl ?_
    refine go_gf rfl c2 rfl ?_
    refine go_run 0 (F' := (15, [some (.ref 0), some (.int p1)], [.ref 3], h)) rfl ?_
    refine go_run 1 (F' := (16, [some (.ref 0), some (.int p1)], [.int p1, .ref 3], h)) rfl ?_
    refine go_aald rfl c3 (by decide) b_2 r_3 ?_
    refine go_run 0 (F' := (17, [some (.ref 0), some (.int p1)], [.ref a1], h)) rfl ?_
    refine go_gf rfl c_a1 rfl ?_
    refine go_run 0 (F' := (20, [some (.ref 0), some (.int p1)], [.ref a8], h)) rfl ?_
    refine go_gf rfl c_a8 rfl ?_
    refine go_run 0 (F' := (23, [some (.ref 0), some (.int p1)], [.int v10], h)) rfl ?_
    exact go_end rfl rfl
  refine go_run 0 (F' := (7, [some (.ref 0), some (.int p1), some (.ref 177), none], [.int v10, .int 0, .ref 177], h)) rfl ?_
  refine go_run 1 (F' := (8, [some (.ref 0), some (.int p1), some (.ref 177), none], [.long (Int32.toInt64 v10), .int 0, .ref 177], h)) rfl ?_
  refine go_last rfl c177 (by decide) rfl ?_
  refine go_run 0 (F' := (9, [some (.ref 0), some (.int p1), some (.ref 177), none], [], (List.set h 177 (.inl (3, 1, .inr (.inl (vp_updL fo 0 (Int32.toInt64 v10)))))))) rfl ?_
  refine go_run 2 (F' := (19, [some (.ref 0), some (.int p1), some (.ref 177), none], [.int 0], (List.set h 177 (.inl (3, 1, .inr (.inl (vp_updL fo 0 (Int32.toInt64 v10)))))))) rfl ?_
  exact go_end rfl rfl
set_option maxRecDepth 100000 in
theorem vm_length_1 {X : ie_X} {d : Nat} {h : ie_H} {p1 t_ ty fa wh ch it at_ bad co de st sz tp am bm mn rm sp be wo : Int32} (c134 : h[134]? = some (mo t_ ty fa wh ch it at_ bad co de 1 st sz tp am bm mn rm sp be wo)) (q1 : p1 < 0) : Go X (d + 1) 182 (0, ie_en 182 [.ref 134, .int p1], [], h) (.inl (some (.int 0))) (List.set h 134 (mo 1 ty fa wh ch it at_ bad co de 1 st sz tp am bm mn rm sp be wo)) := by
  refine go_run 0 (F' := (0, [some (.ref 134), some (.int p1)], [], h)) rfl ?_
  refine go_run 2 (F' := (2, [some (.ref 134), some (.int p1)], [.int p1, .ref 134], h)) rfl ?_
  refine go_call (m' := 183) (v := some (.int 1)) (h1 := h) rfl rfl ⟨rfl, Nat.le_of_ble_eq_true rfl⟩ ?_ ?_
  · refine go_run 0 (F' := (0, [some (.int p1)], [], h)) rfl ?_
    refine go_run 1 (F' := (1, [some (.int p1)], [.int p1], h)) rfl ?_
    refine go_step rfl rfl ?_
    rw [if_pos q1]
    refine go_run 0 (F' := (9, [some (.int p1)], [], h)) rfl ?_
    refine go_run 2 (F' := (14, [some (.int p1)], [.int 1], h)) rfl ?_
    exact go_end rfl rfl
  refine go_run 0 (F' := (5, [some (.ref 134), some (.int p1)], [.int 1, .ref 134], h)) rfl ?_
  refine go_run 3 (F' := (24, [some (.ref 134), some (.int p1)], [.int 1, .ref 134], h)) rfl ?_
  refine go_pf rfl c134 (Nat.le_of_ble_eq_true rfl) rfl rfl ?_
  refine go_run 0 (F' := (27, [some (.ref 134), some (.int p1)], [], (List.set h 134 (mo 1 ty fa wh ch it at_ bad co de 1 st sz tp am bm mn rm sp be wo)))) rfl ?_
  refine go_run 1 (F' := (28, [some (.ref 134), some (.int p1)], [.ref 134], (List.set h 134 (mo 1 ty fa wh ch it at_ bad co de 1 st sz tp am bm mn rm sp be wo)))) rfl ?_
  refine go_gf rfl (gs_self c134) rfl ?_
  refine go_run 0 (F' := (31, [some (.ref 134), some (.int p1)], [.int 1], (List.set h 134 (mo 1 ty fa wh ch it at_ bad co de 1 st sz tp am bm mn rm sp be wo)))) rfl ?_
  refine go_run 2 (F' := (44, [some (.ref 134), some (.int p1)], [.int 0], (List.set h 134 (mo 1 ty fa wh ch it at_ bad co de 1 st sz tp am bm mn rm sp be wo)))) rfl ?_
  exact go_end rfl rfl
set_option maxRecDepth 100000 in
theorem vm_length_2 {X : ie_X} {d : Nat} {h : ie_H} {p1 t_ ty fa wh ch it at_ bad co de st sz tp am bm mn rm sp be wo : Int32} {f161 : Nat → Int32} (c134 : h[134]? = some (mo t_ ty fa wh ch it at_ bad co de 1 st sz tp am bm mn rm sp be wo)) (c161 : h[161]? = some (.inl (0, 6, .inl f161))) (q1 : ¬ (p1 < 0)) (q2 : p1 ≤ 5) (b_2 : 0 ≤ Int32.toInt p1 ∧ Int32.toInt p1 < (6 : Int)) : Go X (d + 1) 182 (0, ie_en 182 [.ref 134, .int p1], [], h) (.inl (some (.int (f161 (Int32.toNatClampNeg p1))))) (List.set h 134 (mo 0 ty fa wh ch it at_ bad co de 1 st sz tp am bm mn rm sp be wo)) := by
  refine go_run 0 (F' := (0, [some (.ref 134), some (.int p1)], [], h)) rfl ?_
  refine go_run 2 (F' := (2, [some (.ref 134), some (.int p1)], [.int p1, .ref 134], h)) rfl ?_
  refine go_call (m' := 183) (v := some (.int 0)) (h1 := h) rfl rfl ⟨rfl, Nat.le_of_ble_eq_true rfl⟩ ?_ ?_
  · refine go_run 0 (F' := (0, [some (.int p1)], [], h)) rfl ?_
    refine go_run 1 (F' := (1, [some (.int p1)], [.int p1], h)) rfl ?_
    refine go_step rfl rfl ?_
    rw [if_neg q1]
    refine go_run 0 (F' := (4, [some (.int p1)], [], h)) rfl ?_
    refine go_run 2 (F' := (6, [some (.int p1)], [.int 5, .int p1], h)) rfl ?_
    refine go_step rfl rfl ?_
    rw [if_pos q2]
    refine go_run 0 (F' := (13, [some (.int p1)], [], h)) rfl ?_
    refine go_run 1 (F' := (14, [some (.int p1)], [.int 0], h)) rfl ?_
    exact go_end rfl rfl
  refine go_run 0 (F' := (5, [some (.ref 134), some (.int p1)], [.int 0, .ref 134], h)) rfl ?_
  refine go_run 2 (F' := (13, [some (.ref 134), some (.int p1)], [.ref 134, .ref 134], h)) rfl ?_
  refine go_gf rfl c134 rfl ?_
  refine go_run 0 (F' := (16, [some (.ref 134), some (.int p1)], [.int 1, .ref 134], h)) rfl ?_
  refine go_run 2 (F' := (24, [some (.ref 134), some (.int p1)], [.int 0, .ref 134], h)) rfl ?_
  refine go_pf rfl c134 (Nat.le_of_ble_eq_true rfl) rfl rfl ?_
  refine go_run 0 (F' := (27, [some (.ref 134), some (.int p1)], [], (List.set h 134 (mo 0 ty fa wh ch it at_ bad co de 1 st sz tp am bm mn rm sp be wo)))) rfl ?_
  refine go_run 1 (F' := (28, [some (.ref 134), some (.int p1)], [.ref 134], (List.set h 134 (mo 0 ty fa wh ch it at_ bad co de 1 st sz tp am bm mn rm sp be wo)))) rfl ?_
  refine go_gf rfl (gs_self c134) rfl ?_
  refine go_run 0 (F' := (31, [some (.ref 134), some (.int p1)], [.int 0], (List.set h 134 (mo 0 ty fa wh ch it at_ bad co de 1 st sz tp am bm mn rm sp be wo)))) rfl ?_
  refine go_run 2 (F' := (35, [some (.ref 134), some (.int p1)], [.ref 134], (List.set h 134 (mo 0 ty fa wh ch it at_ bad co de 1 st sz tp am bm mn rm sp be wo)))) rfl ?_
  refine go_gf rfl (gs_self c134) rfl ?_
  refine go_run 0 (F' := (38, [some (.ref 134), some (.int p1)], [.ref 161], (List.set h 134 (mo 0 ty fa wh ch it at_ bad co de 1 st sz tp am bm mn rm sp be wo)))) rfl ?_
  refine go_run 1 (F' := (39, [some (.ref 134), some (.int p1)], [.int p1, .ref 161], (List.set h 134 (mo 0 ty fa wh ch it at_ bad co de 1 st sz tp am bm mn rm sp be wo)))) rfl ?_
  refine go_iald rfl (by decide) (gs_ne (by decide) c161) b_2 rfl ?_
  refine go_run 0 (F' := (40, [some (.ref 134), some (.int p1)], [.int (f161 (Int32.toNatClampNeg p1))], (List.set h 134 (mo 0 ty fa wh ch it at_ bad co de 1 st sz tp am bm mn rm sp be wo)))) rfl ?_
  refine go_run 1 (F' := (44, [some (.ref 134), some (.int p1)], [.int (f161 (Int32.toNatClampNeg p1))], (List.set h 134 (mo 0 ty fa wh ch it at_ bad co de 1 st sz tp am bm mn rm sp be wo)))) rfl ?_
  exact go_end rfl rfl
set_option maxRecDepth 100000 in
theorem vm_length_3 {X : ie_X} {d : Nat} {h : ie_H} {p1 t_ ty fa wh ch it at_ bad co de st sz tp am bm mn rm sp be wo : Int32} (c134 : h[134]? = some (mo t_ ty fa wh ch it at_ bad co de 1 st sz tp am bm mn rm sp be wo)) (q1 : ¬ (p1 < 0)) (q2 : ¬ (p1 ≤ 5)) : Go X (d + 1) 182 (0, ie_en 182 [.ref 134, .int p1], [], h) (.inl (some (.int 0))) (List.set h 134 (mo 1 ty fa wh ch it at_ bad co de 1 st sz tp am bm mn rm sp be wo)) := by
  refine go_run 0 (F' := (0, [some (.ref 134), some (.int p1)], [], h)) rfl ?_
  refine go_run 2 (F' := (2, [some (.ref 134), some (.int p1)], [.int p1, .ref 134], h)) rfl ?_
  refine go_call (m' := 183) (v := some (.int 1)) (h1 := h) rfl rfl ⟨rfl, Nat.le_of_ble_eq_true rfl⟩ ?_ ?_
  · refine go_run 0 (F' := (0, [some (.int p1)], [], h)) rfl ?_
    refine go_run 1 (F' := (1, [some (.int p1)], [.int p1], h)) rfl ?_
    refine go_step rfl rfl ?_
    rw [if_neg q1]
    refine go_run 0 (F' := (4, [some (.int p1)], [], h)) rfl ?_
    refine go_run 2 (F' := (6, [some (.int p1)], [.int 5, .int p1], h)) rfl ?_
    refine go_step rfl rfl ?_
    rw [if_neg q2]
    refine go_run 0 (F' := (9, [some (.int p1)], [], h)) rfl ?_
    refine go_run 2 (F' := (14, [some (.int p1)], [.int 1], h)) rfl ?_
    exact go_end rfl rfl
  refine go_run 0 (F' := (5, [some (.ref 134), some (.int p1)], [.int 1, .ref 134], h)) rfl ?_
  refine go_run 3 (F' := (24, [some (.ref 134), some (.int p1)], [.int 1, .ref 134], h)) rfl ?_
  refine go_pf rfl c134 (Nat.le_of_ble_eq_true rfl) rfl rfl ?_
  refine go_run 0 (F' := (27, [some (.ref 134), some (.int p1)], [], (List.set h 134 (mo 1 ty fa wh ch it at_ bad co de 1 st sz tp am bm mn rm sp be wo)))) rfl ?_
  refine go_run 1 (F' := (28, [some (.ref 134), some (.int p1)], [.ref 134], (List.set h 134 (mo 1 ty fa wh ch it at_ bad co de 1 st sz tp am bm mn rm sp be wo)))) rfl ?_
  refine go_gf rfl (gs_self c134) rfl ?_
  refine go_run 0 (F' := (31, [some (.ref 134), some (.int p1)], [.int 1], (List.set h 134 (mo 1 ty fa wh ch it at_ bad co de 1 st sz tp am bm mn rm sp be wo)))) rfl ?_
  refine go_run 2 (F' := (44, [some (.ref 134), some (.int p1)], [.int 0], (List.set h 134 (mo 1 ty fa wh ch it at_ bad co de 1 st sz tp am bm mn rm sp be wo)))) rfl ?_
  exact go_end rfl rfl
set_option maxRecDepth 100000 in
theorem vc_letter_1 {X : ie_X} {d : Nat} {h : ie_H} {p1 p2 nl cf cw : Int32} {pl : Nat} (c0 : h[0]? = some (.inr (0, [.ref 1, .int nl, .int cf, .int cw, .ref pl, .ref 2, .ref 133]))) (q1 : p1 < 0) : Go X (d + 3) 82 (0, ie_en 82 [.ref 0, .int p1, .int p2, .ref 177], [], h) (.inl (some (.int 1))) (h ++ [.inr (14, [])]) := by
  refine go_run 0 (F' := (0, [some (.ref 0), some (.int p1), some (.int p2), some (.ref 177), none], [], h)) rfl ?_
  refine go_run 5 (F' := (5, [some (.ref 0), some (.int p1), some (.int p2), some (.ref 177), none], [.int p2, .int p1, .ref 0, .int 0, .ref 177], h)) rfl ?_
  refine go_catch (m' := 83) (ci := 14) (h1 := (h ++ [.inr (14, [])])) rfl (by simp only [ie_step, ie_iv, List.drop, c0, if_true]; rfl) ⟨rfl, Nat.le_of_ble_eq_true rfl⟩ rfl rfl rfl ?_ ?_
  · refine go_run 0 (F' := (0, [some (.ref 0), some (.int p1), some (.int p2), none], [], h)) rfl ?_
    refine go_run 1 (F' := (1, [some (.ref 0), some (.int p1), some (.int p2), none], [.int p1], h)) rfl ?_
    refine go_out (m' := 80) rfl rfl ⟨rfl, Nat.le_of_ble_eq_true rfl⟩ rfl rfl ?_
    · refine go_run 0 (F' := (0, [some (.int p1)], [], h)) rfl ?_
      refine go_run 1 (F' := (1, [some (.int p1)], [.int p1], h)) rfl ?_
      refine go_call (m' := 33) (v := some (.int 0)) (h1 := h) rfl rfl ⟨rfl, Nat.le_of_ble_eq_true rfl⟩ ?_ ?_
      · refine go_run 0 (F' := (0, [some (.int p1)], [], h)) rfl ?_
        refine go_run 1 (F' := (1, [some (.int p1)], [.int p1], h)) rfl ?_
        refine go_step rfl rfl ?_
        rw [if_pos q1]
        refine go_run 0 (F' := (14, [some (.int p1)], [], h)) rfl ?_
        refine go_run 1 (F' := (15, [some (.int p1)], [.int 0], h)) rfl ?_
        exact go_end rfl rfl
      refine go_run 0 (F' := (4, [some (.int p1)], [.int 0], h)) rfl ?_
      refine go_run 1 (F' := (7, [some (.int p1)], [], h)) rfl ?_
      exact go_end rfl rfl
  refine go_run 0 (F' := (15, [some (.ref 0), some (.int p1), some (.int p2), some (.ref 177), none], [], (h ++ [.inr (14, [])]))) rfl ?_
  refine go_run 1 (F' := (16, [some (.ref 0), some (.int p1), some (.int p2), some (.ref 177), none], [.int 1], (h ++ [.inr (14, [])]))) rfl ?_
  exact go_end rfl rfl
set_option maxRecDepth 100000 in
theorem vc_letter_2 {X : ie_X} {d : Nat} {h : ie_H} {p1 p2 nl cf cw : Int32} {pl : Nat} (c0 : h[0]? = some (.inr (0, [.ref 1, .int nl, .int cf, .int cw, .ref pl, .ref 2, .ref 133]))) (q1 : ¬ (p1 < 0)) (q2 : 6 ≤ p1) : Go X (d + 3) 82 (0, ie_en 82 [.ref 0, .int p1, .int p2, .ref 177], [], h) (.inl (some (.int 1))) (h ++ [.inr (14, [])]) := by
  refine go_run 0 (F' := (0, [some (.ref 0), some (.int p1), some (.int p2), some (.ref 177), none], [], h)) rfl ?_
  refine go_run 5 (F' := (5, [some (.ref 0), some (.int p1), some (.int p2), some (.ref 177), none], [.int p2, .int p1, .ref 0, .int 0, .ref 177], h)) rfl ?_
  refine go_catch (m' := 83) (ci := 14) (h1 := (h ++ [.inr (14, [])])) rfl (by simp only [ie_step, ie_iv, List.drop, c0, if_true]; rfl) ⟨rfl, Nat.le_of_ble_eq_true rfl⟩ rfl rfl rfl ?_ ?_
  · refine go_run 0 (F' := (0, [some (.ref 0), some (.int p1), some (.int p2), none], [], h)) rfl ?_
    refine go_run 1 (F' := (1, [some (.ref 0), some (.int p1), some (.int p2), none], [.int p1], h)) rfl ?_
    refine go_out (m' := 80) rfl rfl ⟨rfl, Nat.le_of_ble_eq_true rfl⟩ rfl rfl ?_
    · refine go_run 0 (F' := (0, [some (.int p1)], [], h)) rfl ?_
      refine go_run 1 (F' := (1, [some (.int p1)], [.int p1], h)) rfl ?_
      refine go_call (m' := 33) (v := some (.int 0)) (h1 := h) rfl rfl ⟨rfl, Nat.le_of_ble_eq_true rfl⟩ ?_ ?_
      · refine go_run 0 (F' := (0, [some (.int p1)], [], h)) rfl ?_
        refine go_run 1 (F' := (1, [some (.int p1)], [.int p1], h)) rfl ?_
        refine go_step rfl rfl ?_
        rw [if_neg q1]
        refine go_run 0 (F' := (4, [some (.int p1)], [], h)) rfl ?_
        refine go_run 2 (F' := (7, [some (.int p1)], [.int 6, .int p1], h)) rfl ?_
        refine go_step rfl rfl ?_
        rw [if_pos q2]
        refine go_run 0 (F' := (14, [some (.int p1)], [], h)) rfl ?_
        refine go_run 1 (F' := (15, [some (.int p1)], [.int 0], h)) rfl ?_
        exact go_end rfl rfl
      refine go_run 0 (F' := (4, [some (.int p1)], [.int 0], h)) rfl ?_
      refine go_run 1 (F' := (7, [some (.int p1)], [], h)) rfl ?_
      exact go_end rfl rfl
  refine go_run 0 (F' := (15, [some (.ref 0), some (.int p1), some (.int p2), some (.ref 177), none], [], (h ++ [.inr (14, [])]))) rfl ?_
  refine go_run 1 (F' := (16, [some (.ref 0), some (.int p1), some (.int p2), some (.ref 177), none], [.int 1], (h ++ [.inr (14, [])]))) rfl ?_
  exact go_end rfl rfl
set_option maxRecDepth 100000 in
theorem vc_letter_3 {X : ie_X} {d : Nat} {h : ie_H} {p1 p2 nl cf cw crm csp v5 v6 v7 : Int32} {pl a1 : Nat} {z3 z4 : Value} (c0 : h[0]? = some (.inr (0, [.ref 1, .int nl, .int cf, .int cw, .ref pl, .ref 2, .ref 133]))) (c2 : h[2]? = some (.inr (8, [.ref 3, .ref 4, .ref 5, .ref 6, .int crm, .int csp]))) (c3 : h[3]? = some (.inl (4, 6, .inr (.inr (.inr (.inr rf_3)))))) (c_a1 : h[a1]? = some (.inr (4, [.null, z3, z4, .int v5, .int v6, .int v7]))) (q1 : ¬ (p1 < 0)) (q2 : ¬ (6 ≤ p1)) (b_2 : 0 ≤ Int32.toInt p1 ∧ Int32.toInt p1 < (6 : Int)) (r_3 : rf_3 (Int32.toNatClampNeg p1) = some a1) (q3 : p2 < 0) : Go X (d + 3) 82 (0, ie_en 82 [.ref 0, .int p1, .int p2, .ref 177], [], h) (.inl (some (.int 3))) (h ++ [.inr (15, [])]) := by
  refine go_run 0 (F' := (0, [some (.ref 0), some (.int p1), some (.int p2), some (.ref 177), none], [], h)) rfl ?_
  refine go_run 5 (F' := (5, [some (.ref 0), some (.int p1), some (.int p2), some (.ref 177), none], [.int p2, .int p1, .ref 0, .int 0, .ref 177], h)) rfl ?_
  refine go_catch (m' := 83) (ci := 15) (h1 := (h ++ [.inr (15, [])])) rfl (by simp only [ie_step, ie_iv, List.drop, c0, if_true]; rfl) ⟨rfl, Nat.le_of_ble_eq_true rfl⟩ rfl rfl rfl ?_ ?_
  · refine go_run 0 (F' := (0, [some (.ref 0), some (.int p1), some (.int p2), none], [], h)) rfl ?_
    refine go_run 1 (F' := (1, [some (.ref 0), some (.int p1), some (.int p2), none], [.int p1], h)) rfl ?_
    refine go_call (m' := 80) (v := none) (h1 := h) rfl rfl ⟨rfl, Nat.le_of_ble_eq_true rfl⟩ ?_ ?_
    · refine go_run 0 (F' := (0, [some (.int p1)], [], h)) rfl ?_
      refine go_run 1 (F' := (1, [some (.int p1)], [.int p1], h)) rfl ?_
      refine go_call (m' := 33) (v := some (.int 1)) (h1 := h) rfl rfl ⟨rfl, Nat.le_of_ble_eq_true rfl⟩ ?_ ?_
      · refine go_run 0 (F' := (0, [some (.int p1)], [], h)) rfl ?_
        refine go_run 1 (F' := (1, [some (.int p1)], [.int p1], h)) rfl ?_
        refine go_step rfl rfl ?_
        rw [if_neg q1]
        refine go_run 0 (F' := (4, [some (.int p1)], [], h)) rfl ?_
        refine go_run 2 (F' := (7, [some (.int p1)], [.int 6, .int p1], h)) rfl ?_
        refine go_step rfl rfl ?_
        rw [if_neg q2]
        refine go_run 0 (F' := (10, [some (.int p1)], [], h)) rfl ?_
        refine go_run 2 (F' := (15, [some (.int p1)], [.int 1], h)) rfl ?_
        exact go_end rfl rfl
      refine go_run 0 (F' := (4, [some (.int p1)], [.int 1], h)) rfl ?_
      refine go_run 1 (F' := (15, [some (.int p1)], [], h)) rfl ?_
      exact go_end rfl rfl
    refine go_run 0 (F' := (4, [some (.ref 0), some (.int p1), some (.int p2), none], [], h)) rfl ?_
    refine go_run 1 (F' := (5, [some (.ref 0), some (.int p1), some (.int p2), none], [.ref 0], h)) rfl ?_
    refine go_call (m' := 81) (v := none) (h1 := h) rfl (by simp only [ie_step, ie_iv, List.drop, c0, if_true]; rfl) ⟨rfl, Nat.le_of_ble_eq_true rfl⟩ ?_ ?_
    · refine go_run 0 (F' := (0, [some (.ref 0)], [], h)) rfl ?_
      refine go_run 1 (F' := (1, [some (.ref 0)], [.ref 0], h)) rfl ?_
      refine go_gf rfl c0 rfl ?_
      refine go_run 0 (F' := (4, [some (.ref 0)], [.ref pl], h)) rfl ?_
      refine go_run 1 (F' := (15, [some (.ref 0)], [], h)) rfl ?_
      exact go_end rfl rfl
    refine go_run 0 (F' := (8, [some (.ref 0), some (.int p1), some (.int p2), none], [], h)) rfl ?_
    refine go_run 1 (F' := (9, [some (.ref 0), some (.int p1), some (.int p2), none], [.ref 0], h)) rfl ?_
    refine go_gf rfl c0 rfl ?_
    refine go_run 0 (F' := (12, [some (.ref 0), some (.int p1), some (.int p2), none], [.ref 2], h)) rfl ?_
    refine go_gf rfl c2 rfl ?_
    refine go_run 0 (F' := (15, [some (.ref 0), some (.int p1), some (.int p2), none], [.ref 3], h)) rfl ?_
    refine go_run 1 (F' := (16, [some (.ref 0), some (.int p1), some (.int p2), none], [.int p1, .ref 3], h)) rfl ?_
    refine go_aald rfl c3 (by decide) b_2 r_3 ?_
    refine go_run 0 (F' := (17, [some (.ref 0), some (.int p1), some (.int p2), none], [.ref a1], h)) rfl ?_
    refine go_gf rfl c_a1 rfl ?_
    refine go_run 0 (F' := (20, [some (.ref 0), some (.int p1), some (.int p2), none], [.null], h)) rfl ?_
    refine go_run 2 (F' := (22, [some (.ref 0), some (.int p1), some (.int p2), some (.null)], [.int p2], h)) rfl ?_
    refine go_step rfl rfl ?_
    rw [if_pos q3]
    refine go_run 0 (F' := (33, [some (.ref 0), some (.int p1), some (.int p2), some (.null)], [], h)) rfl ?_
    exact go_end rfl rfl
  refine go_run 0 (F' := (23, [some (.ref 0), some (.int p1), some (.int p2), some (.ref 177), none], [], (h ++ [.inr (15, [])]))) rfl ?_
  refine go_run 1 (F' := (24, [some (.ref 0), some (.int p1), some (.int p2), some (.ref 177), none], [.int 3], (h ++ [.inr (15, [])]))) rfl ?_
  exact go_end rfl rfl
set_option maxRecDepth 100000 in
theorem vc_letter_4 {X : ie_X} {d : Nat} {h : ie_H} {p1 p2 nl cf cw crm csp v5 v6 v7 : Int32} {pl a1 a8 : Nat} {z3 z4 : Value} (c0 : h[0]? = some (.inr (0, [.ref 1, .int nl, .int cf, .int cw, .ref pl, .ref 2, .ref 133]))) (c2 : h[2]? = some (.inr (8, [.ref 3, .ref 4, .ref 5, .ref 6, .int crm, .int csp]))) (c3 : h[3]? = some (.inl (4, 6, .inr (.inr (.inr (.inr rf_3)))))) (c_a1 : h[a1]? = some (.inr (4, [.ref a8, z3, z4, .int v5, .int v6, .int v7]))) (q1 : ¬ (p1 < 0)) (q2 : ¬ (6 ≤ p1)) (b_2 : 0 ≤ Int32.toInt p1 ∧ Int32.toInt p1 < (6 : Int)) (r_3 : rf_3 (Int32.toNatClampNeg p1) = some a1) (q3 : p2 < 0) : Go X (d + 3) 82 (0, ie_en 82 [.ref 0, .int p1, .int p2, .ref 177], [], h) (.inl (some (.int 3))) (h ++ [.inr (15, [])]) := by
  refine go_run 0 (F' := (0, [some (.ref 0), some (.int p1), some (.int p2), some (.ref 177), none], [], h)) rfl ?_
  refine go_run 5 (F' := (5, [some (.ref 0), some (.int p1), some (.int p2), some (.ref 177), none], [.int p2, .int p1, .ref 0, .int 0, .ref 177], h)) rfl ?_
  refine go_catch (m' := 83) (ci := 15) (h1 := (h ++ [.inr (15, [])])) rfl (by simp only [ie_step, ie_iv, List.drop, c0, if_true]; rfl) ⟨rfl, Nat.le_of_ble_eq_true rfl⟩ rfl rfl rfl ?_ ?_
  · refine go_run 0 (F' := (0, [some (.ref 0), some (.int p1), some (.int p2), none], [], h)) rfl ?_
    refine go_run 1 (F' := (1, [some (.ref 0), some (.int p1), some (.int p2), none], [.int p1], h)) rfl ?_
    refine go_call (m' := 80) (v := none) (h1 := h) rfl rfl ⟨rfl, Nat.le_of_ble_eq_true rfl⟩ ?_ ?_
    · refine go_run 0 (F' := (0, [some (.int p1)], [], h)) rfl ?_
      refine go_run 1 (F' := (1, [some (.int p1)], [.int p1], h)) rfl ?_
      refine go_call (m' := 33) (v := some (.int 1)) (h1 := h) rfl rfl ⟨rfl, Nat.le_of_ble_eq_true rfl⟩ ?_ ?_
      · refine go_run 0 (F' := (0, [some (.int p1)], [], h)) rfl ?_
        refine go_run 1 (F' := (1, [some (.int p1)], [.int p1], h)) rfl ?_
        refine go_step rfl rfl ?_
        rw [if_neg q1]
        refine go_run 0 (F' := (4, [some (.int p1)], [], h)) rfl ?_
        refine go_run 2 (F' := (7, [some (.int p1)], [.int 6, .int p1], h)) rfl ?_
        refine go_step rfl rfl ?_
        rw [if_neg q2]
        refine go_run 0 (F' := (10, [some (.int p1)], [], h)) rfl ?_
        refine go_run 2 (F' := (15, [some (.int p1)], [.int 1], h)) rfl ?_
        exact go_end rfl rfl
      refine go_run 0 (F' := (4, [some (.int p1)], [.int 1], h)) rfl ?_
      refine go_run 1 (F' := (15, [some (.int p1)], [], h)) rfl ?_
      exact go_end rfl rfl
    refine go_run 0 (F' := (4, [some (.ref 0), some (.int p1), some (.int p2), none], [], h)) rfl ?_
    refine go_run 1 (F' := (5, [some (.ref 0), some (.int p1), some (.int p2), none], [.ref 0], h)) rfl ?_
    refine go_call (m' := 81) (v := none) (h1 := h) rfl (by simp only [ie_step, ie_iv, List.drop, c0, if_true]; rfl) ⟨rfl, Nat.le_of_ble_eq_true rfl⟩ ?_ ?_
    · refine go_run 0 (F' := (0, [some (.ref 0)], [], h)) rfl ?_
      refine go_run 1 (F' := (1, [some (.ref 0)], [.ref 0], h)) rfl ?_
      refine go_gf rfl c0 rfl ?_
      refine go_run 0 (F' := (4, [some (.ref 0)], [.ref pl], h)) rfl ?_
      refine go_run 1 (F' := (15, [some (.ref 0)], [], h)) rfl ?_
      exact go_end rfl rfl
    refine go_run 0 (F' := (8, [some (.ref 0), some (.int p1), some (.int p2), none], [], h)) rfl ?_
    refine go_run 1 (F' := (9, [some (.ref 0), some (.int p1), some (.int p2), none], [.ref 0], h)) rfl ?_
    refine go_gf rfl c0 rfl ?_
    refine go_run 0 (F' := (12, [some (.ref 0), some (.int p1), some (.int p2), none], [.ref 2], h)) rfl ?_
    refine go_gf rfl c2 rfl ?_
    refine go_run 0 (F' := (15, [some (.ref 0), some (.int p1), some (.int p2), none], [.ref 3], h)) rfl ?_
    refine go_run 1 (F' := (16, [some (.ref 0), some (.int p1), some (.int p2), none], [.int p1, .ref 3], h)) rfl ?_
    refine go_aald rfl c3 (by decide) b_2 r_3 ?_
    refine go_run 0 (F' := (17, [some (.ref 0), some (.int p1), some (.int p2), none], [.ref a1], h)) rfl ?_
    refine go_gf rfl c_a1 rfl ?_
    refine go_run 0 (F' := (20, [some (.ref 0), some (.int p1), some (.int p2), none], [.ref a8], h)) rfl ?_
    refine go_run 2 (F' := (22, [some (.ref 0), some (.int p1), some (.int p2), some (.ref a8)], [.int p2], h)) rfl ?_
    refine go_step rfl rfl ?_
    rw [if_pos q3]
    refine go_run 0 (F' := (33, [some (.ref 0), some (.int p1), some (.int p2), some (.ref a8)], [], h)) rfl ?_
    exact go_end rfl rfl
  refine go_run 0 (F' := (23, [some (.ref 0), some (.int p1), some (.int p2), some (.ref 177), none], [], (h ++ [.inr (15, [])]))) rfl ?_
  refine go_run 1 (F' := (24, [some (.ref 0), some (.int p1), some (.int p2), some (.ref 177), none], [.int 3], (h ++ [.inr (15, [])]))) rfl ?_
  exact go_end rfl rfl
set_option maxRecDepth 100000 in
theorem vc_letter_5 {X : ie_X} {d : Nat} {h : ie_H} {p1 p2 nl cf cw crm csp v5 v6 v7 v10 : Int32} {pl a1 a8 : Nat} {z3 z4 z9 : Value} (c0 : h[0]? = some (.inr (0, [.ref 1, .int nl, .int cf, .int cw, .ref pl, .ref 2, .ref 133]))) (c2 : h[2]? = some (.inr (8, [.ref 3, .ref 4, .ref 5, .ref 6, .int crm, .int csp]))) (c3 : h[3]? = some (.inl (4, 6, .inr (.inr (.inr (.inr rf_3)))))) (c_a1 : h[a1]? = some (.inr (4, [.ref a8, z3, z4, .int v5, .int v6, .int v7]))) (c_a8 : h[a8]? = some (.inr (3, [z9, .int v10]))) (q1 : ¬ (p1 < 0)) (q2 : ¬ (6 ≤ p1)) (b_2 : 0 ≤ Int32.toInt p1 ∧ Int32.toInt p1 < (6 : Int)) (r_3 : rf_3 (Int32.toNatClampNeg p1) = some a1) (q3 : ¬ (p2 < 0)) (q4 : ¬ (p2 < v10)) : Go X (d + 3) 82 (0, ie_en 82 [.ref 0, .int p1, .int p2, .ref 177], [], h) (.inl (some (.int 3))) (h ++ [.inr (15, [])]) := by
  refine go_run 0 (F' := (0, [some (.ref 0), some (.int p1), some (.int p2), some (.ref 177), none], [], h)) rfl ?_
  refine go_run 5 (F' := (5, [some (.ref 0), some (.int p1), some (.int p2), some (.ref 177), none], [.int p2, .int p1, .ref 0, .int 0, .ref 177], h)) rfl ?_
  refine go_catch (m' := 83) (ci := 15) (h1 := (h ++ [.inr (15, [])])) rfl (by simp only [ie_step, ie_iv, List.drop, c0, if_true]; rfl) ⟨rfl, Nat.le_of_ble_eq_true rfl⟩ rfl rfl rfl ?_ ?_
  · refine go_run 0 (F' := (0, [some (.ref 0), some (.int p1), some (.int p2), none], [], h)) rfl ?_
    refine go_run 1 (F' := (1, [some (.ref 0), some (.int p1), some (.int p2), none], [.int p1], h)) rfl ?_
    refine go_call (m' := 80) (v := none) (h1 := h) rfl rfl ⟨rfl, Nat.le_of_ble_eq_true rfl⟩ ?_ ?_
    · refine go_run 0 (F' := (0, [some (.int p1)], [], h)) rfl ?_
      refine go_run 1 (F' := (1, [some (.int p1)], [.int p1], h)) rfl ?_
      refine go_call (m' := 33) (v := some (.int 1)) (h1 := h) rfl rfl ⟨rfl, Nat.le_of_ble_eq_true rfl⟩ ?_ ?_
      · refine go_run 0 (F' := (0, [some (.int p1)], [], h)) rfl ?_
        refine go_run 1 (F' := (1, [some (.int p1)], [.int p1], h)) rfl ?_
        refine go_step rfl rfl ?_
        rw [if_neg q1]
        refine go_run 0 (F' := (4, [some (.int p1)], [], h)) rfl ?_
        refine go_run 2 (F' := (7, [some (.int p1)], [.int 6, .int p1], h)) rfl ?_
        refine go_step rfl rfl ?_
        rw [if_neg q2]
        refine go_run 0 (F' := (10, [some (.int p1)], [], h)) rfl ?_
        refine go_run 2 (F' := (15, [some (.int p1)], [.int 1], h)) rfl ?_
        exact go_end rfl rfl
      refine go_run 0 (F' := (4, [some (.int p1)], [.int 1], h)) rfl ?_
      refine go_run 1 (F' := (15, [some (.int p1)], [], h)) rfl ?_
      exact go_end rfl rfl
    refine go_run 0 (F' := (4, [some (.ref 0), some (.int p1), some (.int p2), none], [], h)) rfl ?_
    refine go_run 1 (F' := (5, [some (.ref 0), some (.int p1), some (.int p2), none], [.ref 0], h)) rfl ?_
    refine go_call (m' := 81) (v := none) (h1 := h) rfl (by simp only [ie_step, ie_iv, List.drop, c0, if_true]; rfl) ⟨rfl, Nat.le_of_ble_eq_true rfl⟩ ?_ ?_
    · refine go_run 0 (F' := (0, [some (.ref 0)], [], h)) rfl ?_
      refine go_run 1 (F' := (1, [some (.ref 0)], [.ref 0], h)) rfl ?_
      refine go_gf rfl c0 rfl ?_
      refine go_run 0 (F' := (4, [some (.ref 0)], [.ref pl], h)) rfl ?_
      refine go_run 1 (F' := (15, [some (.ref 0)], [], h)) rfl ?_
      exact go_end rfl rfl
    refine go_run 0 (F' := (8, [some (.ref 0), some (.int p1), some (.int p2), none], [], h)) rfl ?_
    refine go_run 1 (F' := (9, [some (.ref 0), some (.int p1), some (.int p2), none], [.ref 0], h)) rfl ?_
    refine go_gf rfl c0 rfl ?_
    refine go_run 0 (F' := (12, [some (.ref 0), some (.int p1), some (.int p2), none], [.ref 2], h)) rfl ?_
    refine go_gf rfl c2 rfl ?_
    refine go_run 0 (F' := (15, [some (.ref 0), some (.int p1), some (.int p2), none], [.ref 3], h)) rfl ?_
    refine go_run 1 (F' := (16, [some (.ref 0), some (.int p1), some (.int p2), none], [.int p1, .ref 3], h)) rfl ?_
    refine go_aald rfl c3 (by decide) b_2 r_3 ?_
    refine go_run 0 (F' := (17, [some (.ref 0), some (.int p1), some (.int p2), none], [.ref a1], h)) rfl ?_
    refine go_gf rfl c_a1 rfl ?_
    refine go_run 0 (F' := (20, [some (.ref 0), some (.int p1), some (.int p2), none], [.ref a8], h)) rfl ?_
    refine go_run 2 (F' := (22, [some (.ref 0), some (.int p1), some (.int p2), some (.ref a8)], [.int p2], h)) rfl ?_
    refine go_step rfl rfl ?_
    rw [if_neg q3]
    refine go_run 0 (F' := (25, [some (.ref 0), some (.int p1), some (.int p2), some (.ref a8)], [], h)) rfl ?_
    refine go_run 2 (F' := (27, [some (.ref 0), some (.int p1), some (.int p2), some (.ref a8)], [.ref a8, .int p2], h)) rfl ?_
    refine go_gf rfl c_a8 rfl ?_
    refine go_run 0 (F' := (30, [some (.ref 0), some (.int p1), some (.int p2), some (.ref a8)], [.int v10, .int p2], h)) rfl ?_
    refine go_step rfl rfl ?_
    rw [if_neg q4]
    refine go_run 0 (F' := (33, [some (.ref 0), some (.int p1), some (.int p2), some (.ref a8)], [], h)) rfl ?_
    exact go_end rfl rfl
  refine go_run 0 (F' := (23, [some (.ref 0), some (.int p1), some (.int p2), some (.ref 177), none], [], (h ++ [.inr (15, [])]))) rfl ?_
  refine go_run 1 (F' := (24, [some (.ref 0), some (.int p1), some (.int p2), some (.ref 177), none], [.int 3], (h ++ [.inr (15, [])]))) rfl ?_
  exact go_end rfl rfl
set_option maxRecDepth 100000 in
theorem vc_letter_6 {X : ie_X} {d : Nat} {h : ie_H} {p1 p2 nl cf cw crm csp v5 v6 v7 v10 : Int32} {pl a1 a8 a11 n13 : Nat} {z3 z4 : Value} {f12 : Nat → Int32} {fo : Nat → Int64} (c0 : h[0]? = some (.inr (0, [.ref 1, .int nl, .int cf, .int cw, .ref pl, .ref 2, .ref 133]))) (c2 : h[2]? = some (.inr (8, [.ref 3, .ref 4, .ref 5, .ref 6, .int crm, .int csp]))) (c3 : h[3]? = some (.inl (4, 6, .inr (.inr (.inr (.inr rf_3)))))) (c_a1 : h[a1]? = some (.inr (4, [.ref a8, z3, z4, .int v5, .int v6, .int v7]))) (c_a8 : h[a8]? = some (.inr (3, [.ref a11, .int v10]))) (c_a11 : h[a11]? = some (.inl (1, n13, .inl f12))) (c177 : h[177]? = some (.inl (3, 1, .inr (.inl fo)))) (q1 : ¬ (p1 < 0)) (q2 : ¬ (6 ≤ p1)) (b_2 : 0 ≤ Int32.toInt p1 ∧ Int32.toInt p1 < (6 : Int)) (r_3 : rf_3 (Int32.toNatClampNeg p1) = some a1) (q3 : ¬ (p2 < 0)) (q4 : p2 < v10) (b_6 : 0 ≤ Int32.toInt p2 ∧ Int32.toInt p2 < (n13 : Int)) (nS_a11 : a11 ≠ ie_S) (ne_177_a1 : 177 ≠ a1) (ne_177_a8 : 177 ≠ a8) (ne_177_a11 : 177 ≠ a11) : Go X (d + 3) 82 (0, ie_en 82 [.ref 0, .int p1, .int p2, .ref 177], [], h) (.inl (some (.int 0))) (List.set h 177 (.inl (3, 1, .inr (.inl (vp_updL fo 0 (Int32.toInt64 (f12 (Int32.toNatClampNeg p2)))))))) := by
  refine go_run 0 (F' := (0, [some (.ref 0), some (.int p1), some (.int p2), some (.ref 177), none], [], h)) rfl ?_
  refine go_run 5 (F' := (5, [some (.ref 0), some (.int p1), some (.int p2), some (.ref 177), none], [.int p2, .int p1, .ref 0, .int 0, .ref 177], h)) rfl ?_
  refine go_call (m' := 83) (v := some (.int (f12 (Int32.toNatClampNeg p2)))) (h1 := h) rfl (by simp only [ie_step, ie_iv, List.drop, c0, if_true]; rfl) ⟨rfl, Nat.le_of_ble_eq_true rfl⟩ ?_ ?_
  · refine go_run 0 (F' := (0, [some (.ref 0), some (.int p1), some (.int p2), none], [], h)) rfl ?_
    refine go_run 1 (F' := (1, [some (.ref 0), some (.int p1), some (.int p2), none], [.int p1], h)) rfl ?_
    refine go_call (m' := 80) (v := none) (h1 := h) rfl rfl ⟨rfl, Nat.le_of_ble_eq_true rfl⟩ ?_ ?_
    · refine go_run 0 (F' := (0, [some (.int p1)], [], h)) rfl ?_
      refine go_run 1 (F' := (1, [some (.int p1)], [.int p1], h)) rfl ?_
      refine go_call (m' := 33) (v := some (.int 1)) (h1 := h) rfl rfl ⟨rfl, Nat.le_of_ble_eq_true rfl⟩ ?_ ?_
      · refine go_run 0 (F' := (0, [some (.int p1)], [], h)) rfl ?_
        refine go_run 1 (F' := (1, [some (.int p1)], [.int p1], h)) rfl ?_
        refine go_step rfl rfl ?_
        rw [if_neg q1]
        refine go_run 0 (F' := (4, [some (.int p1)], [], h)) rfl ?_
        refine go_run 2 (F' := (7, [some (.int p1)], [.int 6, .int p1], h)) rfl ?_
        refine go_step rfl rfl ?_
        rw [if_neg q2]
        refine go_run 0 (F' := (10, [some (.int p1)], [], h)) rfl ?_
        refine go_run 2 (F' := (15, [some (.int p1)], [.int 1], h)) rfl ?_
        exact go_end rfl rfl
      refine go_run 0 (F' := (4, [some (.int p1)], [.int 1], h)) rfl ?_
      refine go_run 1 (F' := (15, [some (.int p1)], [], h)) rfl ?_
      exact go_end rfl rfl
    refine go_run 0 (F' := (4, [some (.ref 0), some (.int p1), some (.int p2), none], [], h)) rfl ?_
    refine go_run 1 (F' := (5, [some (.ref 0), some (.int p1), some (.int p2), none], [.ref 0], h)) rfl ?_
    refine go_call (m' := 81) (v := none) (h1 := h) rfl (by simp only [ie_step, ie_iv, List.drop, c0, if_true]; rfl) ⟨rfl, Nat.le_of_ble_eq_true rfl⟩ ?_ ?_
    · refine go_run 0 (F' := (0, [some (.ref 0)], [], h)) rfl ?_
      refine go_run 1 (F' := (1, [some (.ref 0)], [.ref 0], h)) rfl ?_
      refine go_gf rfl c0 rfl ?_
      refine go_run 0 (F' := (4, [some (.ref 0)], [.ref pl], h)) rfl ?_
      refine go_run 1 (F' := (15, [some (.ref 0)], [], h)) rfl ?_
      exact go_end rfl rfl
    refine go_run 0 (F' := (8, [some (.ref 0), some (.int p1), some (.int p2), none], [], h)) rfl ?_
    refine go_run 1 (F' := (9, [some (.ref 0), some (.int p1), some (.int p2), none], [.ref 0], h)) rfl ?_
    refine go_gf rfl c0 rfl ?_
    refine go_run 0 (F' := (12, [some (.ref 0), some (.int p1), some (.int p2), none], [.ref 2], h)) rfl ?_
    refine go_gf rfl c2 rfl ?_
    refine go_run 0 (F' := (15, [some (.ref 0), some (.int p1), some (.int p2), none], [.ref 3], h)) rfl ?_
    refine go_run 1 (F' := (16, [some (.ref 0), some (.int p1), some (.int p2), none], [.int p1, .ref 3], h)) rfl ?_
    refine go_aald rfl c3 (by decide) b_2 r_3 ?_
    refine go_run 0 (F' := (17, [some (.ref 0), some (.int p1), some (.int p2), none], [.ref a1], h)) rfl ?_
    refine go_gf rfl c_a1 rfl ?_
    refine go_run 0 (F' := (20, [some (.ref 0), some (.int p1), some (.int p2), none], [.ref a8], h)) rfl ?_
    refine go_run 2 (F' := (22, [some (.ref 0), some (.int p1), some (.int p2), some (.ref a8)], [.int p2], h)) rfl ?_
    refine go_step rfl rfl ?_
    rw [if_neg q3]
    refine go_run 0 (F' := (25, [some (.ref 0), some (.int p1), some (.int p2), some (.ref a8)], [], h)) rfl ?_
    refine go_run 2 (F' := (27, [some (.ref 0), some (.int p1), some (.int p2), some (.ref a8)], [.ref a8, .int p2], h)) rfl ?_
    refine go_gf rfl c_a8 rfl ?_
    refine go_run 0 (F' := (30, [some (.ref 0), some (.int p1), some (.int p2), some (.ref a8)], [.int v10, .int p2], h)) rfl ?_
    refine go_step rfl rfl ?_
    rw [if_pos q4]
    refine go_run 0 (F' := (41, [some (.ref 0), some (.int p1), some (.int p2), some (.ref a8)], [], h)) rfl ?_
    refine go_run 1 (F' := (42, [some (.ref 0), some (.int p1), some (.int p2), some (.ref a8)], [.ref a8], h)) rfl ?_
    refine go_gf rfl c_a8 rfl ?_
    refine go_run 0 (F' := (45, [some (.ref 0), some (.int p1), some (.int p2), some (.ref a8)], [.ref a11], h)) rfl ?_
    refine go_run 1 (F' := (46, [some (.ref 0), some (.int p1), some (.int p2), some (.ref a8)], [.int p2, .ref a11], h)) rfl ?_
    refine go_cald rfl nS_a11 c_a11 b_6 rfl ?_
    refine go_run 0 (F' := (47, [some (.ref 0), some (.int p1), some (.int p2), some (.ref a8)], [.int (f12 (Int32.toNatClampNeg p2))], h)) rfl ?_
    exact go_end rfl rfl
  refine go_run 0 (F' := (8, [some (.ref 0), some (.int p1), some (.int p2), some (.ref 177), none], [.int (f12 (Int32.toNatClampNeg p2)), .int 0, .ref 177], h)) rfl ?_
  refine go_run 1 (F' := (9, [some (.ref 0), some (.int p1), some (.int p2), some (.ref 177), none], [.long (Int32.toInt64 (f12 (Int32.toNatClampNeg p2))), .int 0, .ref 177], h)) rfl ?_
  refine go_last rfl c177 (by decide) rfl ?_
  refine go_run 0 (F' := (10, [some (.ref 0), some (.int p1), some (.int p2), some (.ref 177), none], [], (List.set h 177 (.inl (3, 1, .inr (.inl (vp_updL fo 0 (Int32.toInt64 (f12 (Int32.toNatClampNeg p2)))))))))) rfl ?_
  refine go_run 2 (F' := (26, [some (.ref 0), some (.int p1), some (.int p2), some (.ref 177), none], [.int 0], (List.set h 177 (.inl (3, 1, .inr (.inl (vp_updL fo 0 (Int32.toInt64 (f12 (Int32.toNatClampNeg p2)))))))))) rfl ?_
  exact go_end rfl rfl
set_option maxRecDepth 100000 in
theorem vm_letter_1 {X : ie_X} {d : Nat} {h : ie_H} {p1 p2 t_ ty fa wh ch it at_ bad co de st sz tp am bm mn rm sp be wo : Int32} (c134 : h[134]? = some (mo t_ ty fa wh ch it at_ bad co de 1 st sz tp am bm mn rm sp be wo)) (q1 : p1 < 0) : Go X (d + 1) 184 (0, ie_en 184 [.ref 134, .int p1, .int p2], [], h) (.inl (some (.int 0))) (List.set h 134 (mo 1 ty fa wh ch it at_ bad co de 1 st sz tp am bm mn rm sp be wo)) := by
  refine go_run 0 (F' := (0, [some (.ref 134), some (.int p1), some (.int p2)], [], h)) rfl ?_
  refine go_run 2 (F' := (2, [some (.ref 134), some (.int p1), some (.int p2)], [.int p1, .ref 134], h)) rfl ?_
  refine go_call (m' := 183) (v := some (.int 1)) (h1 := h) rfl rfl ⟨rfl, Nat.le_of_ble_eq_true rfl⟩ ?_ ?_
  · refine go_run 0 (F' := (0, [some (.int p1)], [], h)) rfl ?_
    refine go_run 1 (F' := (1, [some (.int p1)], [.int p1], h)) rfl ?_
    refine go_step rfl rfl ?_
    rw [if_pos q1]
    refine go_run 0 (F' := (9, [some (.int p1)], [], h)) rfl ?_
    refine go_run 2 (F' := (14, [some (.int p1)], [.int 1], h)) rfl ?_
    exact go_end rfl rfl
  refine go_run 0 (F' := (5, [some (.ref 134), some (.int p1), some (.int p2)], [.int 1, .ref 134], h)) rfl ?_
  refine go_run 3 (F' := (42, [some (.ref 134), some (.int p1), some (.int p2)], [.int 1, .ref 134], h)) rfl ?_
  refine go_pf rfl c134 (Nat.le_of_ble_eq_true rfl) rfl rfl ?_
  refine go_run 0 (F' := (45, [some (.ref 134), some (.int p1), some (.int p2)], [], (List.set h 134 (mo 1 ty fa wh ch it at_ bad co de 1 st sz tp am bm mn rm sp be wo)))) rfl ?_
  refine go_run 1 (F' := (46, [some (.ref 134), some (.int p1), some (.int p2)], [.ref 134], (List.set h 134 (mo 1 ty fa wh ch it at_ bad co de 1 st sz tp am bm mn rm sp be wo)))) rfl ?_
  refine go_gf rfl (gs_self c134) rfl ?_
  refine go_run 0 (F' := (49, [some (.ref 134), some (.int p1), some (.int p2)], [.int 1], (List.set h 134 (mo 1 ty fa wh ch it at_ bad co de 1 st sz tp am bm mn rm sp be wo)))) rfl ?_
  refine go_run 2 (F' := (68, [some (.ref 134), some (.int p1), some (.int p2)], [.int 0], (List.set h 134 (mo 1 ty fa wh ch it at_ bad co de 1 st sz tp am bm mn rm sp be wo)))) rfl ?_
  exact go_end rfl rfl
set_option maxRecDepth 100000 in
theorem vm_letter_2 {X : ie_X} {d : Nat} {h : ie_H} {p1 p2 t_ ty fa wh ch it at_ bad co de st sz tp am bm mn rm sp be wo : Int32} (c134 : h[134]? = some (mo t_ ty fa wh ch it at_ bad co de 1 st sz tp am bm mn rm sp be wo)) (q1 : ¬ (p1 < 0)) (q2 : ¬ (p1 ≤ 5)) : Go X (d + 1) 184 (0, ie_en 184 [.ref 134, .int p1, .int p2], [], h) (.inl (some (.int 0))) (List.set h 134 (mo 1 ty fa wh ch it at_ bad co de 1 st sz tp am bm mn rm sp be wo)) := by
  refine go_run 0 (F' := (0, [some (.ref 134), some (.int p1), some (.int p2)], [], h)) rfl ?_
  refine go_run 2 (F' := (2, [some (.ref 134), some (.int p1), some (.int p2)], [.int p1, .ref 134], h)) rfl ?_
  refine go_call (m' := 183) (v := some (.int 1)) (h1 := h) rfl rfl ⟨rfl, Nat.le_of_ble_eq_true rfl⟩ ?_ ?_
  · refine go_run 0 (F' := (0, [some (.int p1)], [], h)) rfl ?_
    refine go_run 1 (F' := (1, [some (.int p1)], [.int p1], h)) rfl ?_
    refine go_step rfl rfl ?_
    rw [if_neg q1]
    refine go_run 0 (F' := (4, [some (.int p1)], [], h)) rfl ?_
    refine go_run 2 (F' := (6, [some (.int p1)], [.int 5, .int p1], h)) rfl ?_
    refine go_step rfl rfl ?_
    rw [if_neg q2]
    refine go_run 0 (F' := (9, [some (.int p1)], [], h)) rfl ?_
    refine go_run 2 (F' := (14, [some (.int p1)], [.int 1], h)) rfl ?_
    exact go_end rfl rfl
  refine go_run 0 (F' := (5, [some (.ref 134), some (.int p1), some (.int p2)], [.int 1, .ref 134], h)) rfl ?_
  refine go_run 3 (F' := (42, [some (.ref 134), some (.int p1), some (.int p2)], [.int 1, .ref 134], h)) rfl ?_
  refine go_pf rfl c134 (Nat.le_of_ble_eq_true rfl) rfl rfl ?_
  refine go_run 0 (F' := (45, [some (.ref 134), some (.int p1), some (.int p2)], [], (List.set h 134 (mo 1 ty fa wh ch it at_ bad co de 1 st sz tp am bm mn rm sp be wo)))) rfl ?_
  refine go_run 1 (F' := (46, [some (.ref 134), some (.int p1), some (.int p2)], [.ref 134], (List.set h 134 (mo 1 ty fa wh ch it at_ bad co de 1 st sz tp am bm mn rm sp be wo)))) rfl ?_
  refine go_gf rfl (gs_self c134) rfl ?_
  refine go_run 0 (F' := (49, [some (.ref 134), some (.int p1), some (.int p2)], [.int 1], (List.set h 134 (mo 1 ty fa wh ch it at_ bad co de 1 st sz tp am bm mn rm sp be wo)))) rfl ?_
  refine go_run 2 (F' := (68, [some (.ref 134), some (.int p1), some (.int p2)], [.int 0], (List.set h 134 (mo 1 ty fa wh ch it at_ bad co de 1 st sz tp am bm mn rm sp be wo)))) rfl ?_
  exact go_end rfl rfl
set_option maxRecDepth 100000 in
theorem vm_letter_3 {X : ie_X} {d : Nat} {h : ie_H} {p1 p2 t_ ty fa wh ch it at_ bad co de st sz tp am bm mn rm sp be wo : Int32} (c134 : h[134]? = some (mo t_ ty fa wh ch it at_ bad co de 1 st sz tp am bm mn rm sp be wo)) (q1 : ¬ (p1 < 0)) (q2 : p1 ≤ 5) (q3 : p2 < 0) : Go X (d + 1) 184 (0, ie_en 184 [.ref 134, .int p1, .int p2], [], h) (.inl (some (.int 0))) (List.set h 134 (mo 3 ty fa wh ch it at_ bad co de 1 st sz tp am bm mn rm sp be wo)) := by
  refine go_run 0 (F' := (0, [some (.ref 134), some (.int p1), some (.int p2)], [], h)) rfl ?_
  refine go_run 2 (F' := (2, [some (.ref 134), some (.int p1), some (.int p2)], [.int p1, .ref 134], h)) rfl ?_
  refine go_call (m' := 183) (v := some (.int 0)) (h1 := h) rfl rfl ⟨rfl, Nat.le_of_ble_eq_true rfl⟩ ?_ ?_
  · refine go_run 0 (F' := (0, [some (.int p1)], [], h)) rfl ?_
    refine go_run 1 (F' := (1, [some (.int p1)], [.int p1], h)) rfl ?_
    refine go_step rfl rfl ?_
    rw [if_neg q1]
    refine go_run 0 (F' := (4, [some (.int p1)], [], h)) rfl ?_
    refine go_run 2 (F' := (6, [some (.int p1)], [.int 5, .int p1], h)) rfl ?_
    refine go_step rfl rfl ?_
    rw [if_pos q2]
    refine go_run 0 (F' := (13, [some (.int p1)], [], h)) rfl ?_
    refine go_run 1 (F' := (14, [some (.int p1)], [.int 0], h)) rfl ?_
    exact go_end rfl rfl
  refine go_run 0 (F' := (5, [some (.ref 134), some (.int p1), some (.int p2)], [.int 0, .ref 134], h)) rfl ?_
  refine go_run 2 (F' := (13, [some (.ref 134), some (.int p1), some (.int p2)], [.ref 134, .ref 134], h)) rfl ?_
  refine go_gf rfl c134 rfl ?_
  refine go_run 0 (F' := (16, [some (.ref 134), some (.int p1), some (.int p2)], [.int 1, .ref 134], h)) rfl ?_
  refine go_run 2 (F' := (24, [some (.ref 134), some (.int p1), some (.int p2)], [.int p2, .ref 134], h)) rfl ?_
  refine go_step rfl rfl ?_
  rw [if_pos q3]
  refine go_run 0 (F' := (37, [some (.ref 134), some (.int p1), some (.int p2)], [.ref 134], h)) rfl ?_
  refine go_run 2 (F' := (42, [some (.ref 134), some (.int p1), some (.int p2)], [.int 3, .ref 134], h)) rfl ?_
  refine go_pf rfl c134 (Nat.le_of_ble_eq_true rfl) rfl rfl ?_
  refine go_run 0 (F' := (45, [some (.ref 134), some (.int p1), some (.int p2)], [], (List.set h 134 (mo 3 ty fa wh ch it at_ bad co de 1 st sz tp am bm mn rm sp be wo)))) rfl ?_
  refine go_run 1 (F' := (46, [some (.ref 134), some (.int p1), some (.int p2)], [.ref 134], (List.set h 134 (mo 3 ty fa wh ch it at_ bad co de 1 st sz tp am bm mn rm sp be wo)))) rfl ?_
  refine go_gf rfl (gs_self c134) rfl ?_
  refine go_run 0 (F' := (49, [some (.ref 134), some (.int p1), some (.int p2)], [.int 3], (List.set h 134 (mo 3 ty fa wh ch it at_ bad co de 1 st sz tp am bm mn rm sp be wo)))) rfl ?_
  refine go_run 2 (F' := (68, [some (.ref 134), some (.int p1), some (.int p2)], [.int 0], (List.set h 134 (mo 3 ty fa wh ch it at_ bad co de 1 st sz tp am bm mn rm sp be wo)))) rfl ?_
  exact go_end rfl rfl
set_option maxRecDepth 100000 in
theorem vm_letter_4 {X : ie_X} {d : Nat} {h : ie_H} {p1 p2 t_ ty fa wh ch it at_ bad co de st sz tp am bm mn rm sp be wo : Int32} {f161 f160 : Nat → Int32} (c134 : h[134]? = some (mo t_ ty fa wh ch it at_ bad co de 1 st sz tp am bm mn rm sp be wo)) (c161 : h[161]? = some (.inl (0, 6, .inl f161))) (c160 : h[160]? = some (.inl (0, 6000, .inl f160))) (q1 : ¬ (p1 < 0)) (q2 : p1 ≤ 5) (q3 : ¬ (p2 < 0)) (b_3 : 0 ≤ Int32.toInt p1 ∧ Int32.toInt p1 < (6 : Int)) (q4 : p2 < f161 (Int32.toNatClampNeg p1)) (b_5 : 0 ≤ Int32.toInt ((1000 * p1) + p2) ∧ Int32.toInt ((1000 * p1) + p2) < (6000 : Int)) : Go X (d + 1) 184 (0, ie_en 184 [.ref 134, .int p1, .int p2], [], h) (.inl (some (.int (f160 (Int32.toNatClampNeg ((1000 * p1) + p2)))))) (List.set h 134 (mo 0 ty fa wh ch it at_ bad co de 1 st sz tp am bm mn rm sp be wo)) := by
  refine go_run 0 (F' := (0, [some (.ref 134), some (.int p1), some (.int p2)], [], h)) rfl ?_
  refine go_run 2 (F' := (2, [some (.ref 134), some (.int p1), some (.int p2)], [.int p1, .ref 134], h)) rfl ?_
  refine go_call (m' := 183) (v := some (.int 0)) (h1 := h) rfl rfl ⟨rfl, Nat.le_of_ble_eq_true rfl⟩ ?_ ?_
  · refine go_run 0 (F' := (0, [some (.int p1)], [], h)) rfl ?_
    refine go_run 1 (F' := (1, [some (.int p1)], [.int p1], h)) rfl ?_
    refine go_step rfl rfl ?_
    rw [if_neg q1]
    refine go_run 0 (F' := (4, [some (.int p1)], [], h)) rfl ?_
    refine go_run 2 (F' := (6, [some (.int p1)], [.int 5, .int p1], h)) rfl ?_
    refine go_step rfl rfl ?_
    rw [if_pos q2]
    refine go_run 0 (F' := (13, [some (.int p1)], [], h)) rfl ?_
    refine go_run 1 (F' := (14, [some (.int p1)], [.int 0], h)) rfl ?_
    exact go_end rfl rfl
  refine go_run 0 (F' := (5, [some (.ref 134), some (.int p1), some (.int p2)], [.int 0, .ref 134], h)) rfl ?_
  refine go_run 2 (F' := (13, [some (.ref 134), some (.int p1), some (.int p2)], [.ref 134, .ref 134], h)) rfl ?_
  refine go_gf rfl c134 rfl ?_
  refine go_run 0 (F' := (16, [some (.ref 134), some (.int p1), some (.int p2)], [.int 1, .ref 134], h)) rfl ?_
  refine go_run 2 (F' := (24, [some (.ref 134), some (.int p1), some (.int p2)], [.int p2, .ref 134], h)) rfl ?_
  refine go_step rfl rfl ?_
  rw [if_neg q3]
  refine go_run 0 (F' := (27, [some (.ref 134), some (.int p1), some (.int p2)], [.ref 134], h)) rfl ?_
  refine go_run 2 (F' := (29, [some (.ref 134), some (.int p1), some (.int p2)], [.ref 134, .int p2, .ref 134], h)) rfl ?_
  refine go_gf rfl c134 rfl ?_
  refine go_run 0 (F' := (32, [some (.ref 134), some (.int p1), some (.int p2)], [.ref 161, .int p2, .ref 134], h)) rfl ?_
  refine go_run 1 (F' := (33, [some (.ref 134), some (.int p1), some (.int p2)], [.int p1, .ref 161, .int p2, .ref 134], h)) rfl ?_
  refine go_iald rfl (by decide) c161 b_3 rfl ?_
  refine go_run 0 (F' := (34, [some (.ref 134), some (.int p1), some (.int p2)], [.int (f161 (Int32.toNatClampNeg p1)), .int p2, .ref 134], h)) rfl ?_
  refine go_step rfl rfl ?_
  rw [if_pos q4]
  refine go_run 0 (F' := (41, [some (.ref 134), some (.int p1), some (.int p2)], [.ref 134], h)) rfl ?_
  refine go_run 1 (F' := (42, [some (.ref 134), some (.int p1), some (.int p2)], [.int 0, .ref 134], h)) rfl ?_
  refine go_pf rfl c134 (Nat.le_of_ble_eq_true rfl) rfl rfl ?_
  refine go_run 0 (F' := (45, [some (.ref 134), some (.int p1), some (.int p2)], [], (List.set h 134 (mo 0 ty fa wh ch it at_ bad co de 1 st sz tp am bm mn rm sp be wo)))) rfl ?_
  refine go_run 1 (F' := (46, [some (.ref 134), some (.int p1), some (.int p2)], [.ref 134], (List.set h 134 (mo 0 ty fa wh ch it at_ bad co de 1 st sz tp am bm mn rm sp be wo)))) rfl ?_
  refine go_gf rfl (gs_self c134) rfl ?_
  refine go_run 0 (F' := (49, [some (.ref 134), some (.int p1), some (.int p2)], [.int 0], (List.set h 134 (mo 0 ty fa wh ch it at_ bad co de 1 st sz tp am bm mn rm sp be wo)))) rfl ?_
  refine go_run 2 (F' := (53, [some (.ref 134), some (.int p1), some (.int p2)], [.ref 134], (List.set h 134 (mo 0 ty fa wh ch it at_ bad co de 1 st sz tp am bm mn rm sp be wo)))) rfl ?_
  refine go_gf rfl (gs_self c134) rfl ?_
  refine go_run 0 (F' := (56, [some (.ref 134), some (.int p1), some (.int p2)], [.ref 160], (List.set h 134 (mo 0 ty fa wh ch it at_ bad co de 1 st sz tp am bm mn rm sp be wo)))) rfl ?_
  refine go_run 5 (F' := (63, [some (.ref 134), some (.int p1), some (.int p2)], [.int ((1000 * p1) + p2), .ref 160], (List.set h 134 (mo 0 ty fa wh ch it at_ bad co de 1 st sz tp am bm mn rm sp be wo)))) rfl ?_
  refine go_iald rfl (by decide) (gs_ne (by decide) c160) b_5 rfl ?_
  refine go_run 0 (F' := (64, [some (.ref 134), some (.int p1), some (.int p2)], [.int (f160 (Int32.toNatClampNeg ((1000 * p1) + p2)))], (List.set h 134 (mo 0 ty fa wh ch it at_ bad co de 1 st sz tp am bm mn rm sp be wo)))) rfl ?_
  refine go_run 1 (F' := (68, [some (.ref 134), some (.int p1), some (.int p2)], [.int (f160 (Int32.toNatClampNeg ((1000 * p1) + p2)))], (List.set h 134 (mo 0 ty fa wh ch it at_ bad co de 1 st sz tp am bm mn rm sp be wo)))) rfl ?_
  exact go_end rfl rfl
set_option maxRecDepth 100000 in
theorem vm_letter_5 {X : ie_X} {d : Nat} {h : ie_H} {p1 p2 t_ ty fa wh ch it at_ bad co de st sz tp am bm mn rm sp be wo : Int32} {f161 : Nat → Int32} (c134 : h[134]? = some (mo t_ ty fa wh ch it at_ bad co de 1 st sz tp am bm mn rm sp be wo)) (c161 : h[161]? = some (.inl (0, 6, .inl f161))) (q1 : ¬ (p1 < 0)) (q2 : p1 ≤ 5) (q3 : ¬ (p2 < 0)) (b_3 : 0 ≤ Int32.toInt p1 ∧ Int32.toInt p1 < (6 : Int)) (q4 : ¬ (p2 < f161 (Int32.toNatClampNeg p1))) : Go X (d + 1) 184 (0, ie_en 184 [.ref 134, .int p1, .int p2], [], h) (.inl (some (.int 0))) (List.set h 134 (mo 3 ty fa wh ch it at_ bad co de 1 st sz tp am bm mn rm sp be wo)) := by
  refine go_run 0 (F' := (0, [some (.ref 134), some (.int p1), some (.int p2)], [], h)) rfl ?_
  refine go_run 2 (F' := (2, [some (.ref 134), some (.int p1), some (.int p2)], [.int p1, .ref 134], h)) rfl ?_
  refine go_call (m' := 183) (v := some (.int 0)) (h1 := h) rfl rfl ⟨rfl, Nat.le_of_ble_eq_true rfl⟩ ?_ ?_
  · refine go_run 0 (F' := (0, [some (.int p1)], [], h)) rfl ?_
    refine go_run 1 (F' := (1, [some (.int p1)], [.int p1], h)) rfl ?_
    refine go_step rfl rfl ?_
    rw [if_neg q1]
    refine go_run 0 (F' := (4, [some (.int p1)], [], h)) rfl ?_
    refine go_run 2 (F' := (6, [some (.int p1)], [.int 5, .int p1], h)) rfl ?_
    refine go_step rfl rfl ?_
    rw [if_pos q2]
    refine go_run 0 (F' := (13, [some (.int p1)], [], h)) rfl ?_
    refine go_run 1 (F' := (14, [some (.int p1)], [.int 0], h)) rfl ?_
    exact go_end rfl rfl
  refine go_run 0 (F' := (5, [some (.ref 134), some (.int p1), some (.int p2)], [.int 0, .ref 134], h)) rfl ?_
  refine go_run 2 (F' := (13, [some (.ref 134), some (.int p1), some (.int p2)], [.ref 134, .ref 134], h)) rfl ?_
  refine go_gf rfl c134 rfl ?_
  refine go_run 0 (F' := (16, [some (.ref 134), some (.int p1), some (.int p2)], [.int 1, .ref 134], h)) rfl ?_
  refine go_run 2 (F' := (24, [some (.ref 134), some (.int p1), some (.int p2)], [.int p2, .ref 134], h)) rfl ?_
  refine go_step rfl rfl ?_
  rw [if_neg q3]
  refine go_run 0 (F' := (27, [some (.ref 134), some (.int p1), some (.int p2)], [.ref 134], h)) rfl ?_
  refine go_run 2 (F' := (29, [some (.ref 134), some (.int p1), some (.int p2)], [.ref 134, .int p2, .ref 134], h)) rfl ?_
  refine go_gf rfl c134 rfl ?_
  refine go_run 0 (F' := (32, [some (.ref 134), some (.int p1), some (.int p2)], [.ref 161, .int p2, .ref 134], h)) rfl ?_
  refine go_run 1 (F' := (33, [some (.ref 134), some (.int p1), some (.int p2)], [.int p1, .ref 161, .int p2, .ref 134], h)) rfl ?_
  refine go_iald rfl (by decide) c161 b_3 rfl ?_
  refine go_run 0 (F' := (34, [some (.ref 134), some (.int p1), some (.int p2)], [.int (f161 (Int32.toNatClampNeg p1)), .int p2, .ref 134], h)) rfl ?_
  refine go_step rfl rfl ?_
  rw [if_neg q4]
  refine go_run 0 (F' := (37, [some (.ref 134), some (.int p1), some (.int p2)], [.ref 134], h)) rfl ?_
  refine go_run 2 (F' := (42, [some (.ref 134), some (.int p1), some (.int p2)], [.int 3, .ref 134], h)) rfl ?_
  refine go_pf rfl c134 (Nat.le_of_ble_eq_true rfl) rfl rfl ?_
  refine go_run 0 (F' := (45, [some (.ref 134), some (.int p1), some (.int p2)], [], (List.set h 134 (mo 3 ty fa wh ch it at_ bad co de 1 st sz tp am bm mn rm sp be wo)))) rfl ?_
  refine go_run 1 (F' := (46, [some (.ref 134), some (.int p1), some (.int p2)], [.ref 134], (List.set h 134 (mo 3 ty fa wh ch it at_ bad co de 1 st sz tp am bm mn rm sp be wo)))) rfl ?_
  refine go_gf rfl (gs_self c134) rfl ?_
  refine go_run 0 (F' := (49, [some (.ref 134), some (.int p1), some (.int p2)], [.int 3], (List.set h 134 (mo 3 ty fa wh ch it at_ bad co de 1 st sz tp am bm mn rm sp be wo)))) rfl ?_
  refine go_run 2 (F' := (68, [some (.ref 134), some (.int p1), some (.int p2)], [.int 0], (List.set h 134 (mo 3 ty fa wh ch it at_ bad co de 1 st sz tp am bm mn rm sp be wo)))) rfl ?_
  exact go_end rfl rfl
set_option maxRecDepth 100000 in
theorem vc_input_1 {X : ie_X} {d : Nat} {h : ie_H} {p1 p2 p3 nl cf cw : Int32} {pl : Nat} (c0 : h[0]? = some (.inr (0, [.ref 1, .int nl, .int cf, .int cw, .ref pl, .ref 2, .ref 133]))) (q1 : p1 < 0) : Go X (d + 3) 84 (0, ie_en 84 [.ref 0, .int p1, .int p2, .int p3, .ref 177], [], h) (.inl (some (.int 1))) (h ++ [.inr (14, [])]) := by
  refine go_run 0 (F' := (0, [some (.ref 0), some (.int p1), some (.int p2), some (.int p3), some (.ref 177), none], [], h)) rfl ?_
  refine go_run 6 (F' := (7, [some (.ref 0), some (.int p1), some (.int p2), some (.int p3), some (.ref 177), none], [.int p3, .int p2, .int p1, .ref 0, .int 0, .ref 177], h)) rfl ?_
  refine go_catch (m' := 85) (ci := 14) (h1 := (h ++ [.inr (14, [])])) rfl (by simp only [ie_step, ie_iv, List.drop, c0, if_true]; rfl) ⟨rfl, Nat.le_of_ble_eq_true rfl⟩ rfl rfl rfl ?_ ?_
  · refine go_run 0 (F' := (0, [some (.ref 0), some (.int p1), some (.int p2), some (.int p3), none, none], [], h)) rfl ?_
    refine go_run 2 (F' := (2, [some (.ref 0), some (.int p1), some (.int p2), some (.int p3), none, none], [.int p2, .int p1], h)) rfl ?_
    refine go_out (m' := 86) rfl rfl ⟨rfl, Nat.le_of_ble_eq_true rfl⟩ rfl rfl ?_
    · refine go_run 0 (F' := (0, [some (.int p1), some (.int p2)], [], h)) rfl ?_
      refine go_run 1 (F' := (1, [some (.int p1), some (.int p2)], [.int p1], h)) rfl ?_
      refine go_call (m' := 33) (v := some (.int 0)) (h1 := h) rfl rfl ⟨rfl, Nat.le_of_ble_eq_true rfl⟩ ?_ ?_
      · refine go_run 0 (F' := (0, [some (.int p1)], [], h)) rfl ?_
        refine go_run 1 (F' := (1, [some (.int p1)], [.int p1], h)) rfl ?_
        refine go_step rfl rfl ?_
        rw [if_pos q1]
        refine go_run 0 (F' := (14, [some (.int p1)], [], h)) rfl ?_
        refine go_run 1 (F' := (15, [some (.int p1)], [.int 0], h)) rfl ?_
        exact go_end rfl rfl
      refine go_run 0 (F' := (4, [some (.int p1), some (.int p2)], [.int 0], h)) rfl ?_
      refine go_run 1 (F' := (16, [some (.int p1), some (.int p2)], [], h)) rfl ?_
      exact go_end rfl rfl
  refine go_run 0 (F' := (17, [some (.ref 0), some (.int p1), some (.int p2), some (.int p3), some (.ref 177), none], [], (h ++ [.inr (14, [])]))) rfl ?_
  refine go_run 1 (F' := (18, [some (.ref 0), some (.int p1), some (.int p2), some (.int p3), some (.ref 177), none], [.int 1], (h ++ [.inr (14, [])]))) rfl ?_
  exact go_end rfl rfl
set_option maxRecDepth 100000 in
theorem vc_input_2 {X : ie_X} {d : Nat} {h : ie_H} {p1 p2 p3 nl cf cw : Int32} {pl : Nat} (c0 : h[0]? = some (.inr (0, [.ref 1, .int nl, .int cf, .int cw, .ref pl, .ref 2, .ref 133]))) (q1 : ¬ (p1 < 0)) (q2 : 6 ≤ p1) : Go X (d + 3) 84 (0, ie_en 84 [.ref 0, .int p1, .int p2, .int p3, .ref 177], [], h) (.inl (some (.int 1))) (h ++ [.inr (14, [])]) := by
  refine go_run 0 (F' := (0, [some (.ref 0), some (.int p1), some (.int p2), some (.int p3), some (.ref 177), none], [], h)) rfl ?_
  refine go_run 6 (F' := (7, [some (.ref 0), some (.int p1), some (.int p2), some (.int p3), some (.ref 177), none], [.int p3, .int p2, .int p1, .ref 0, .int 0, .ref 177], h)) rfl ?_
  refine go_catch (m' := 85) (ci := 14) (h1 := (h ++ [.inr (14, [])])) rfl (by simp only [ie_step, ie_iv, List.drop, c0, if_true]; rfl) ⟨rfl, Nat.le_of_ble_eq_true rfl⟩ rfl rfl rfl ?_ ?_
  · refine go_run 0 (F' := (0, [some (.ref 0), some (.int p1), some (.int p2), some (.int p3), none, none], [], h)) rfl ?_
    refine go_run 2 (F' := (2, [some (.ref 0), some (.int p1), some (.int p2), some (.int p3), none, none], [.int p2, .int p1], h)) rfl ?_
    refine go_out (m' := 86) rfl rfl ⟨rfl, Nat.le_of_ble_eq_true rfl⟩ rfl rfl ?_
    · refine go_run 0 (F' := (0, [some (.int p1), some (.int p2)], [], h)) rfl ?_
      refine go_run 1 (F' := (1, [some (.int p1), some (.int p2)], [.int p1], h)) rfl ?_
      refine go_call (m' := 33) (v := some (.int 0)) (h1 := h) rfl rfl ⟨rfl, Nat.le_of_ble_eq_true rfl⟩ ?_ ?_
      · refine go_run 0 (F' := (0, [some (.int p1)], [], h)) rfl ?_
        refine go_run 1 (F' := (1, [some (.int p1)], [.int p1], h)) rfl ?_
        refine go_step rfl rfl ?_
        rw [if_neg q1]
        refine go_run 0 (F' := (4, [some (.int p1)], [], h)) rfl ?_
        refine go_run 2 (F' := (7, [some (.int p1)], [.int 6, .int p1], h)) rfl ?_
        refine go_step rfl rfl ?_
        rw [if_pos q2]
        refine go_run 0 (F' := (14, [some (.int p1)], [], h)) rfl ?_
        refine go_run 1 (F' := (15, [some (.int p1)], [.int 0], h)) rfl ?_
        exact go_end rfl rfl
      refine go_run 0 (F' := (4, [some (.int p1), some (.int p2)], [.int 0], h)) rfl ?_
      refine go_run 1 (F' := (16, [some (.int p1), some (.int p2)], [], h)) rfl ?_
      exact go_end rfl rfl
  refine go_run 0 (F' := (17, [some (.ref 0), some (.int p1), some (.int p2), some (.int p3), some (.ref 177), none], [], (h ++ [.inr (14, [])]))) rfl ?_
  refine go_run 1 (F' := (18, [some (.ref 0), some (.int p1), some (.int p2), some (.int p3), some (.ref 177), none], [.int 1], (h ++ [.inr (14, [])]))) rfl ?_
  exact go_end rfl rfl
set_option maxRecDepth 100000 in
theorem vc_input_3 {X : ie_X} {d : Nat} {h : ie_H} {p1 p2 p3 nl cf cw : Int32} {pl : Nat} (c0 : h[0]? = some (.inr (0, [.ref 1, .int nl, .int cf, .int cw, .ref pl, .ref 2, .ref 133]))) (q1 : ¬ (p1 < 0)) (q2 : ¬ (6 ≤ p1)) (q3 : p2 < 0) : Go X (d + 3) 84 (0, ie_en 84 [.ref 0, .int p1, .int p2, .int p3, .ref 177], [], h) (.inl (some (.int 1))) (h ++ [.inr (14, [])]) := by
  refine go_run 0 (F' := (0, [some (.ref 0), some (.int p1), some (.int p2), some (.int p3), some (.ref 177), none], [], h)) rfl ?_
  refine go_run 6 (F' := (7, [some (.ref 0), some (.int p1), some (.int p2), some (.int p3), some (.ref 177), none], [.int p3, .int p2, .int p1, .ref 0, .int 0, .ref 177], h)) rfl ?_
  refine go_catch (m' := 85) (ci := 14) (h1 := (h ++ [.inr (14, [])])) rfl (by simp only [ie_step, ie_iv, List.drop, c0, if_true]; rfl) ⟨rfl, Nat.le_of_ble_eq_true rfl⟩ rfl rfl rfl ?_ ?_
  · refine go_run 0 (F' := (0, [some (.ref 0), some (.int p1), some (.int p2), some (.int p3), none, none], [], h)) rfl ?_
    refine go_run 2 (F' := (2, [some (.ref 0), some (.int p1), some (.int p2), some (.int p3), none, none], [.int p2, .int p1], h)) rfl ?_
    refine go_out (m' := 86) rfl rfl ⟨rfl, Nat.le_of_ble_eq_true rfl⟩ rfl rfl ?_
    · refine go_run 0 (F' := (0, [some (.int p1), some (.int p2)], [], h)) rfl ?_
      refine go_run 1 (F' := (1, [some (.int p1), some (.int p2)], [.int p1], h)) rfl ?_
      refine go_call (m' := 33) (v := some (.int 1)) (h1 := h) rfl rfl ⟨rfl, Nat.le_of_ble_eq_true rfl⟩ ?_ ?_
      · refine go_run 0 (F' := (0, [some (.int p1)], [], h)) rfl ?_
        refine go_run 1 (F' := (1, [some (.int p1)], [.int p1], h)) rfl ?_
        refine go_step rfl rfl ?_
        rw [if_neg q1]
        refine go_run 0 (F' := (4, [some (.int p1)], [], h)) rfl ?_
        refine go_run 2 (F' := (7, [some (.int p1)], [.int 6, .int p1], h)) rfl ?_
        refine go_step rfl rfl ?_
        rw [if_neg q2]
        refine go_run 0 (F' := (10, [some (.int p1)], [], h)) rfl ?_
        refine go_run 2 (F' := (15, [some (.int p1)], [.int 1], h)) rfl ?_
        exact go_end rfl rfl
      refine go_run 0 (F' := (4, [some (.int p1), some (.int p2)], [.int 1], h)) rfl ?_
      refine go_run 2 (F' := (8, [some (.int p1), some (.int p2)], [.int p2], h)) rfl ?_
      refine go_step rfl rfl ?_
      rw [if_pos q3]
      refine go_run 0 (F' := (16, [some (.int p1), some (.int p2)], [], h)) rfl ?_
      exact go_end rfl rfl
  refine go_run 0 (F' := (17, [some (.ref 0), some (.int p1), some (.int p2), some (.int p3), some (.ref 177), none], [], (h ++ [.inr (14, [])]))) rfl ?_
  refine go_run 1 (F' := (18, [some (.ref 0), some (.int p1), some (.int p2), some (.int p3), some (.ref 177), none], [.int 1], (h ++ [.inr (14, [])]))) rfl ?_
  exact go_end rfl rfl
set_option maxRecDepth 100000 in
theorem vc_input_4 {X : ie_X} {d : Nat} {h : ie_H} {p1 p2 p3 nl cf cw : Int32} {pl : Nat} (c0 : h[0]? = some (.inr (0, [.ref 1, .int nl, .int cf, .int cw, .ref pl, .ref 2, .ref 133]))) (q1 : ¬ (p1 < 0)) (q2 : ¬ (6 ≤ p1)) (q3 : ¬ (p2 < 0)) (q4 : ¬ (p2 < 4)) : Go X (d + 3) 84 (0, ie_en 84 [.ref 0, .int p1, .int p2, .int p3, .ref 177], [], h) (.inl (some (.int 1))) (h ++ [.inr (14, [])]) := by
  refine go_run 0 (F' := (0, [some (.ref 0), some (.int p1), some (.int p2), some (.int p3), some (.ref 177), none], [], h)) rfl ?_
  refine go_run 6 (F' := (7, [some (.ref 0), some (.int p1), some (.int p2), some (.int p3), some (.ref 177), none], [.int p3, .int p2, .int p1, .ref 0, .int 0, .ref 177], h)) rfl ?_
  refine go_catch (m' := 85) (ci := 14) (h1 := (h ++ [.inr (14, [])])) rfl (by simp only [ie_step, ie_iv, List.drop, c0, if_true]; rfl) ⟨rfl, Nat.le_of_ble_eq_true rfl⟩ rfl rfl rfl ?_ ?_
  · refine go_run 0 (F' := (0, [some (.ref 0), some (.int p1), some (.int p2), some (.int p3), none, none], [], h)) rfl ?_
    refine go_run 2 (F' := (2, [some (.ref 0), some (.int p1), some (.int p2), some (.int p3), none, none], [.int p2, .int p1], h)) rfl ?_
    refine go_out (m' := 86) rfl rfl ⟨rfl, Nat.le_of_ble_eq_true rfl⟩ rfl rfl ?_
    · refine go_run 0 (F' := (0, [some (.int p1), some (.int p2)], [], h)) rfl ?_
      refine go_run 1 (F' := (1, [some (.int p1), some (.int p2)], [.int p1], h)) rfl ?_
      refine go_call (m' := 33) (v := some (.int 1)) (h1 := h) rfl rfl ⟨rfl, Nat.le_of_ble_eq_true rfl⟩ ?_ ?_
      · refine go_run 0 (F' := (0, [some (.int p1)], [], h)) rfl ?_
        refine go_run 1 (F' := (1, [some (.int p1)], [.int p1], h)) rfl ?_
        refine go_step rfl rfl ?_
        rw [if_neg q1]
        refine go_run 0 (F' := (4, [some (.int p1)], [], h)) rfl ?_
        refine go_run 2 (F' := (7, [some (.int p1)], [.int 6, .int p1], h)) rfl ?_
        refine go_step rfl rfl ?_
        rw [if_neg q2]
        refine go_run 0 (F' := (10, [some (.int p1)], [], h)) rfl ?_
        refine go_run 2 (F' := (15, [some (.int p1)], [.int 1], h)) rfl ?_
        exact go_end rfl rfl
      refine go_run 0 (F' := (4, [some (.int p1), some (.int p2)], [.int 1], h)) rfl ?_
      refine go_run 2 (F' := (8, [some (.int p1), some (.int p2)], [.int p2], h)) rfl ?_
      refine go_step rfl rfl ?_
      rw [if_neg q3]
      refine go_run 0 (F' := (11, [some (.int p1), some (.int p2)], [], h)) rfl ?_
      refine go_run 2 (F' := (13, [some (.int p1), some (.int p2)], [.int 4, .int p2], h)) rfl ?_
      refine go_step rfl rfl ?_
      rw [if_neg q4]
      refine go_run 0 (F' := (16, [some (.int p1), some (.int p2)], [], h)) rfl ?_
      exact go_end rfl rfl
  refine go_run 0 (F' := (17, [some (.ref 0), some (.int p1), some (.int p2), some (.int p3), some (.ref 177), none], [], (h ++ [.inr (14, [])]))) rfl ?_
  refine go_run 1 (F' := (18, [some (.ref 0), some (.int p1), some (.int p2), some (.int p3), some (.ref 177), none], [.int 1], (h ++ [.inr (14, [])]))) rfl ?_
  exact go_end rfl rfl
set_option maxRecDepth 100000 in
theorem vc_input_5 {X : ie_X} {d : Nat} {h : ie_H} {p1 p2 p3 nl cf cw crm csp : Int32} {pl : Nat} {f5 f6 : Nat → Int32} {fo : Nat → Int64} (c0 : h[0]? = some (.inr (0, [.ref 1, .int nl, .int cf, .int cw, .ref pl, .ref 2, .ref 133]))) (c2 : h[2]? = some (.inr (8, [.ref 3, .ref 4, .ref 5, .ref 6, .int crm, .int csp]))) (c5 : h[5]? = some (.inl (0, 24, .inl f5))) (c6 : h[6]? = some (.inl (0, 24, .inl f6))) (c177 : h[177]? = some (.inl (3, 1, .inr (.inl fo)))) (q1 : ¬ (p1 < 0)) (q2 : ¬ (6 ≤ p1)) (q3 : ¬ (p2 < 0)) (q4 : p2 < 4) (q5 : csp = 0) (b_5 : 0 ≤ Int32.toInt ((p1 * 4) + p2) ∧ Int32.toInt ((p1 * 4) + p2) < (24 : Int)) : Go X (d + 3) 84 (0, ie_en 84 [.ref 0, .int p1, .int p2, .int p3, .ref 177], [], h) (.inl (some (.int 0))) (List.set (List.set (List.set h 5 (.inl (0, 24, .inl (upd f5 (Int32.toNatClampNeg ((p1 * 4) + p2)) p3)))) 6 (.inl (0, 24, .inl (upd f6 (Int32.toNatClampNeg ((p1 * 4) + p2)) p3)))) 177 (.inl (3, 1, .inr (.inl (vp_updL fo 0 (Int32.toInt64 (f5 (Int32.toNatClampNeg ((p1 * 4) + p2))))))))) := by
  refine go_run 0 (F' := (0, [some (.ref 0), some (.int p1), some (.int p2), some (.int p3), some (.ref 177), none], [], h)) rfl ?_
  refine go_run 6 (F' := (7, [some (.ref 0), some (.int p1), some (.int p2), some (.int p3), some (.ref 177), none], [.int p3, .int p2, .int p1, .ref 0, .int 0, .ref 177], h)) rfl ?_
  refine go_call (m' := 85) (v := some (.int (f5 (Int32.toNatClampNeg ((p1 * 4) + p2))))) (h1 := (List.set (List.set h 5 (.inl (0, 24, .inl (upd f5 (Int32.toNatClampNeg ((p1 * 4) + p2)) p3)))) 6 (.inl (0, 24, .inl (upd f6 (Int32.toNatClampNeg ((p1 * 4) + p2)) p3))))) rfl (by simp only [ie_step, ie_iv, List.drop, c0, if_true]; rfl) ⟨rfl, Nat.le_of_ble_eq_true rfl⟩ ?_ ?_
  · refine go_run 0 (F' := (0, [some (.ref 0), some (.int p1), some (.int p2), some (.int p3), none, none], [], h)) rfl ?_
    refine go_run 2 (F' := (2, [some (.ref 0), some (.int p1), some (.int p2), some (.int p3), none, none], [.int p2, .int p1], h)) rfl ?_
    refine go_call (m' := 86) (v := none) (h1 := h) rfl rfl ⟨rfl, Nat.le_of_ble_eq_true rfl⟩ ?_ ?_
    · refine go_run 0 (F' := (0, [some (.int p1), some (.int p2)], [], h)) rfl ?_
      refine go_run 1 (F' := (1, [some (.int p1), some (.int p2)], [.int p1], h)) rfl ?_
      refine go_call (m' := 33) (v := some (.int 1)) (h1 := h) rfl rfl ⟨rfl, Nat.le_of_ble_eq_true rfl⟩ ?_ ?_
      · refine go_run 0 (F' := (0, [some (.int p1)], [], h)) rfl ?_
        refine go_run 1 (F' := (1, [some (.int p1)], [.int p1], h)) rfl ?_
        refine go_step rfl rfl ?_
        rw [if_neg q1]
        refine go_run 0 (F' := (4, [some (.int p1)], [], h)) rfl ?_
        refine go_run 2 (F' := (7, [some (.int p1)], [.int 6, .int p1], h)) rfl ?_
        refine go_step rfl rfl ?_
        rw [if_neg q2]
        refine go_run 0 (F' := (10, [some (.int p1)], [], h)) rfl ?_
        refine go_run 2 (F' := (15, [some (.int p1)], [.int 1], h)) rfl ?_
        exact go_end rfl rfl
      refine go_run 0 (F' := (4, [some (.int p1), some (.int p2)], [.int 1], h)) rfl ?_
      refine go_run 2 (F' := (8, [some (.int p1), some (.int p2)], [.int p2], h)) rfl ?_
      refine go_step rfl rfl ?_
      rw [if_neg q3]
      refine go_run 0 (F' := (11, [some (.int p1), some (.int p2)], [], h)) rfl ?_
      refine go_run 2 (F' := (13, [some (.int p1), some (.int p2)], [.int 4, .int p2], h)) rfl ?_
      refine go_step rfl rfl ?_
      rw [if_pos q4]
      refine go_run 0 (F' := (24, [some (.int p1), some (.int p2)], [], h)) rfl ?_
      exact go_end rfl rfl
    refine go_run 0 (F' := (5, [some (.ref 0), some (.int p1), some (.int p2), some (.int p3), none, none], [], h)) rfl ?_
    refine go_run 1 (F' := (6, [some (.ref 0), some (.int p1), some (.int p2), some (.int p3), none, none], [.ref 0], h)) rfl ?_
    refine go_call (m' := 87) (v := none) (h1 := h) rfl (by simp only [ie_step, ie_iv, List.drop, c0, if_true]; rfl) ⟨rfl, Nat.le_of_ble_eq_true rfl⟩ ?_ ?_
    · refine go_run 0 (F' := (0, [some (.ref 0)], [], h)) rfl ?_
      refine go_run 1 (F' := (1, [some (.ref 0)], [.ref 0], h)) rfl ?_
      refine go_gf rfl c0 rfl ?_
      refine go_run 0 (F' := (4, [some (.ref 0)], [.ref pl], h)) rfl ?_
      refine go_run 2 (F' := (8, [some (.ref 0)], [.ref 0], h)) rfl ?_
      refine go_gf rfl c0 rfl ?_
      refine go_run 0 (F' := (11, [some (.ref 0)], [.ref 2], h)) rfl ?_
      refine go_gf rfl c2 rfl ?_
      refine go_run 0 (F' := (14, [some (.ref 0)], [.int csp], h)) rfl ?_
      refine go_step rfl rfl ?_
      rw [if_pos q5]
      refine go_run 0 (F' := (25, [some (.ref 0)], [], h)) rfl ?_
      exact go_end rfl rfl
    refine go_run 0 (F' := (9, [some (.ref 0), some (.int p1), some (.int p2), some (.int p3), none, none], [], h)) rfl ?_
    refine go_run 2 (F' := (11, [some (.ref 0), some (.int p1), some (.int p2), some (.int p3), none, none], [.int p2, .int p1], h)) rfl ?_
    refine go_call (m' := 88) (v := some (.int ((p1 * 4) + p2))) (h1 := h) rfl rfl ⟨rfl, Nat.le_of_ble_eq_true rfl⟩ ?_ ?_
    · refine go_run 0 (F' := (0, [some (.int p1), some (.int p2)], [], h)) rfl ?_
      refine go_run 5 (F' := (5, [some (.int p1), some (.int p2)], [.int ((p1 * 4) + p2)], h)) rfl ?_
      exact go_end rfl rfl
    refine go_run 0 (F' := (14, [some (.ref 0), some (.int p1), some (.int p2), some (.int p3), none, none], [.int ((p1 * 4) + p2)], h)) rfl ?_
    refine go_run 2 (F' := (17, [some (.ref 0), some (.int p1), some (.int p2), some (.int p3), some (.int ((p1 * 4) + p2)), none], [.ref 0], h)) rfl ?_
    refine go_gf rfl c0 rfl ?_
    refine go_run 0 (F' := (20, [some (.ref 0), some (.int p1), some (.int p2), some (.int p3), some (.int ((p1 * 4) + p2)), none], [.ref 2], h)) rfl ?_
    refine go_gf rfl c2 rfl ?_
    refine go_run 0 (F' := (23, [some (.ref 0), some (.int p1), some (.int p2), some (.int p3), some (.int ((p1 * 4) + p2)), none], [.ref 5], h)) rfl ?_
    refine go_run 1 (F' := (25, [some (.ref 0), some (.int p1), some (.int p2), some (.int p3), some (.int ((p1 * 4) + p2)), none], [.int ((p1 * 4) + p2), .ref 5], h)) rfl ?_
    refine go_iald rfl (by decide) c5 b_5 rfl ?_
    refine go_run 0 (F' := (26, [some (.ref 0), some (.int p1), some (.int p2), some (.int p3), some (.int ((p1 * 4) + p2)), none], [.int (f5 (Int32.toNatClampNeg ((p1 * 4) + p2)))], h)) rfl ?_
    refine go_run 2 (F' := (29, [some (.ref 0), some (.int p1), some (.int p2), some (.int p3), some (.int ((p1 * 4) + p2)), some (.int (f5 (Int32.toNatClampNeg ((p1 * 4) + p2))))], [.ref 0], h)) rfl ?_
    refine go_gf rfl c0 rfl ?_
    refine go_run 0 (F' := (32, [some (.ref 0), some (.int p1), some (.int p2), some (.int p3), some (.int ((p1 * 4) + p2)), some (.int (f5 (Int32.toNatClampNeg ((p1 * 4) + p2))))], [.ref 2], h)) rfl ?_
    refine go_gf rfl c2 rfl ?_
    refine go_run 0 (F' := (35, [some (.ref 0), some (.int p1), some (.int p2), some (.int p3), some (.int ((p1 * 4) + p2)), some (.int (f5 (Int32.toNatClampNeg ((p1 * 4) + p2))))], [.ref 5], h)) rfl ?_
    refine go_run 2 (F' := (38, [some (.ref 0), some (.int p1), some (.int p2), some (.int p3), some (.int ((p1 * 4) + p2)), some (.int (f5 (Int32.toNatClampNeg ((p1 * 4) + p2))))], [.int p3, .int ((p1 * 4) + p2), .ref 5], h)) rfl ?_
    refine go_iast rfl c5 b_5 rfl ?_
    refine go_run 0 (F' := (39, [some (.ref 0), some (.int p1), some (.int p2), some (.int p3), some (.int ((p1 * 4) + p2)), some (.int (f5 (Int32.toNatClampNeg ((p1 * 4) + p2))))], [], (List.set h 5 (.inl (0, 24, .inl (upd f5 (Int32.toNatClampNeg ((p1 * 4) + p2)) p3)))))) rfl ?_
    refine go_run 1 (F' := (40, [some (.ref 0), some (.int p1), some (.int p2), some (.int p3), some (.int ((p1 * 4) + p2)), some (.int (f5 (Int32.toNatClampNeg ((p1 * 4) + p2))))], [.ref 0], (List.set h 5 (.inl (0, 24, .inl (upd f5 (Int32.toNatClampNeg ((p1 * 4) + p2)) p3)))))) rfl ?_
    refine go_gf rfl (gs_ne (by decide) c0) rfl ?_
    refine go_run 0 (F' := (43, [some (.ref 0), some (.int p1), some (.int p2), some (.int p3), some (.int ((p1 * 4) + p2)), some (.int (f5 (Int32.toNatClampNeg ((p1 * 4) + p2))))], [.ref 2], (List.set h 5 (.inl (0, 24, .inl (upd f5 (Int32.toNatClampNeg ((p1 * 4) + p2)) p3)))))) rfl ?_
    refine go_gf rfl (gs_ne (by decide) c2) rfl ?_
    refine go_run 0 (F' := (46, [some (.ref 0), some (.int p1), some (.int p2), some (.int p3), some (.int ((p1 * 4) + p2)), some (.int (f5 (Int32.toNatClampNeg ((p1 * 4) + p2))))], [.ref 6], (List.set h 5 (.inl (0, 24, .inl (upd f5 (Int32.toNatClampNeg ((p1 * 4) + p2)) p3)))))) rfl ?_
    refine go_run 2 (F' := (49, [some (.ref 0), some (.int p1), some (.int p2), some (.int p3), some (.int ((p1 * 4) + p2)), some (.int (f5 (Int32.toNatClampNeg ((p1 * 4) + p2))))], [.int p3, .int ((p1 * 4) + p2), .ref 6], (List.set h 5 (.inl (0, 24, .inl (upd f5 (Int32.toNatClampNeg ((p1 * 4) + p2)) p3)))))) rfl ?_
    refine go_iast rfl (gs_ne (by decide) c6) b_5 rfl ?_
    refine go_run 0 (F' := (50, [some (.ref 0), some (.int p1), some (.int p2), some (.int p3), some (.int ((p1 * 4) + p2)), some (.int (f5 (Int32.toNatClampNeg ((p1 * 4) + p2))))], [], (List.set (List.set h 5 (.inl (0, 24, .inl (upd f5 (Int32.toNatClampNeg ((p1 * 4) + p2)) p3)))) 6 (.inl (0, 24, .inl (upd f6 (Int32.toNatClampNeg ((p1 * 4) + p2)) p3)))))) rfl ?_
    refine go_run 1 (F' := (52, [some (.ref 0), some (.int p1), some (.int p2), some (.int p3), some (.int ((p1 * 4) + p2)), some (.int (f5 (Int32.toNatClampNeg ((p1 * 4) + p2))))], [.int (f5 (Int32.toNatClampNeg ((p1 * 4) + p2)))], (List.set (List.set h 5 (.inl (0, 24, .inl (upd f5 (Int32.toNatClampNeg ((p1 * 4) + p2)) p3)))) 6 (.inl (0, 24, .inl (upd f6 (Int32.toNatClampNeg ((p1 * 4) + p2)) p3)))))) rfl ?_
    exact go_end rfl rfl
  refine go_run 0 (F' := (10, [some (.ref 0), some (.int p1), some (.int p2), some (.int p3), some (.ref 177), none], [.int (f5 (Int32.toNatClampNeg ((p1 * 4) + p2))), .int 0, .ref 177], (List.set (List.set h 5 (.inl (0, 24, .inl (upd f5 (Int32.toNatClampNeg ((p1 * 4) + p2)) p3)))) 6 (.inl (0, 24, .inl (upd f6 (Int32.toNatClampNeg ((p1 * 4) + p2)) p3)))))) rfl ?_
  refine go_run 1 (F' := (11, [some (.ref 0), some (.int p1), some (.int p2), some (.int p3), some (.ref 177), none], [.long (Int32.toInt64 (f5 (Int32.toNatClampNeg ((p1 * 4) + p2)))), .int 0, .ref 177], (List.set (List.set h 5 (.inl (0, 24, .inl (upd f5 (Int32.toNatClampNeg ((p1 * 4) + p2)) p3)))) 6 (.inl (0, 24, .inl (upd f6 (Int32.toNatClampNeg ((p1 * 4) + p2)) p3)))))) rfl ?_
  refine go_last rfl (gs_ne (by decide) (gs_ne (by decide) c177)) (by decide) rfl ?_
  refine go_run 0 (F' := (12, [some (.ref 0), some (.int p1), some (.int p2), some (.int p3), some (.ref 177), none], [], (List.set (List.set (List.set h 5 (.inl (0, 24, .inl (upd f5 (Int32.toNatClampNeg ((p1 * 4) + p2)) p3)))) 6 (.inl (0, 24, .inl (upd f6 (Int32.toNatClampNeg ((p1 * 4) + p2)) p3)))) 177 (.inl (3, 1, .inr (.inl (vp_updL fo 0 (Int32.toInt64 (f5 (Int32.toNatClampNeg ((p1 * 4) + p2))))))))))) rfl ?_
  refine go_run 2 (F' := (24, [some (.ref 0), some (.int p1), some (.int p2), some (.int p3), some (.ref 177), none], [.int 0], (List.set (List.set (List.set h 5 (.inl (0, 24, .inl (upd f5 (Int32.toNatClampNeg ((p1 * 4) + p2)) p3)))) 6 (.inl (0, 24, .inl (upd f6 (Int32.toNatClampNeg ((p1 * 4) + p2)) p3)))) 177 (.inl (3, 1, .inr (.inl (vp_updL fo 0 (Int32.toInt64 (f5 (Int32.toNatClampNeg ((p1 * 4) + p2))))))))))) rfl ?_
  exact go_end rfl rfl
set_option maxRecDepth 100000 in
theorem vc_input_6 {X : ie_X} {d : Nat} {h : ie_H} {p1 p2 p3 nl cf cw crm csp : Int32} {pl : Nat} (c0 : h[0]? = some (.inr (0, [.ref 1, .int nl, .int cf, .int cw, .ref pl, .ref 2, .ref 133]))) (c2 : h[2]? = some (.inr (8, [.ref 3, .ref 4, .ref 5, .ref 6, .int crm, .int csp]))) (q1 : ¬ (p1 < 0)) (q2 : ¬ (6 ≤ p1)) (q3 : ¬ (p2 < 0)) (q4 : p2 < 4) (q5 : ¬ (csp = 0)) : Go X (d + 3) 84 (0, ie_en 84 [.ref 0, .int p1, .int p2, .int p3, .ref 177], [], h) (.inl (some (.int 2))) (h ++ [.inr (12, [])]) := by
  refine go_run 0 (F' := (0, [some (.ref 0), some (.int p1), some (.int p2), some (.int p3), some (.ref 177), none], [], h)) rfl ?_
  refine go_run 6 (F' := (7, [some (.ref 0), some (.int p1), some (.int p2), some (.int p3), some (.ref 177), none], [.int p3, .int p2, .int p1, .ref 0, .int 0, .ref 177], h)) rfl ?_
  refine go_catch (m' := 85) (ci := 12) (h1 := (h ++ [.inr (12, [])])) rfl (by simp only [ie_step, ie_iv, List.drop, c0, if_true]; rfl) ⟨rfl, Nat.le_of_ble_eq_true rfl⟩ rfl rfl rfl ?_ ?_
  · refine go_run 0 (F' := (0, [some (.ref 0), some (.int p1), some (.int p2), some (.int p3), none, none], [], h)) rfl ?_
    refine go_run 2 (F' := (2, [some (.ref 0), some (.int p1), some (.int p2), some (.int p3), none, none], [.int p2, .int p1], h)) rfl ?_
    refine go_call (m' := 86) (v := none) (h1 := h) rfl rfl ⟨rfl, Nat.le_of_ble_eq_true rfl⟩ ?_ ?_
    · refine go_run 0 (F' := (0, [some (.int p1), some (.int p2)], [], h)) rfl ?_
      refine go_run 1 (F' := (1, [some (.int p1), some (.int p2)], [.int p1], h)) rfl ?_
      refine go_call (m' := 33) (v := some (.int 1)) (h1 := h) rfl rfl ⟨rfl, Nat.le_of_ble_eq_true rfl⟩ ?_ ?_
      · refine go_run 0 (F' := (0, [some (.int p1)], [], h)) rfl ?_
        refine go_run 1 (F' := (1, [some (.int p1)], [.int p1], h)) rfl ?_
        refine go_step rfl rfl ?_
        rw [if_neg q1]
        refine go_run 0 (F' := (4, [some (.int p1)], [], h)) rfl ?_
        refine go_run 2 (F' := (7, [some (.int p1)], [.int 6, .int p1], h)) rfl ?_
        refine go_step rfl rfl ?_
        rw [if_neg q2]
        refine go_run 0 (F' := (10, [some (.int p1)], [], h)) rfl ?_
        refine go_run 2 (F' := (15, [some (.int p1)], [.int 1], h)) rfl ?_
        exact go_end rfl rfl
      refine go_run 0 (F' := (4, [some (.int p1), some (.int p2)], [.int 1], h)) rfl ?_
      refine go_run 2 (F' := (8, [some (.int p1), some (.int p2)], [.int p2], h)) rfl ?_
      refine go_step rfl rfl ?_
      rw [if_neg q3]
      refine go_run 0 (F' := (11, [some (.int p1), some (.int p2)], [], h)) rfl ?_
      refine go_run 2 (F' := (13, [some (.int p1), some (.int p2)], [.int 4, .int p2], h)) rfl ?_
      refine go_step rfl rfl ?_
      rw [if_pos q4]
      refine go_run 0 (F' := (24, [some (.int p1), some (.int p2)], [], h)) rfl ?_
      exact go_end rfl rfl
    refine go_run 0 (F' := (5, [some (.ref 0), some (.int p1), some (.int p2), some (.int p3), none, none], [], h)) rfl ?_
    refine go_run 1 (F' := (6, [some (.ref 0), some (.int p1), some (.int p2), some (.int p3), none, none], [.ref 0], h)) rfl ?_
    refine go_out (m' := 87) rfl (by simp only [ie_step, ie_iv, List.drop, c0, if_true]; rfl) ⟨rfl, Nat.le_of_ble_eq_true rfl⟩ rfl rfl ?_
    · refine go_run 0 (F' := (0, [some (.ref 0)], [], h)) rfl ?_
      refine go_run 1 (F' := (1, [some (.ref 0)], [.ref 0], h)) rfl ?_
      refine go_gf rfl c0 rfl ?_
      refine go_run 0 (F' := (4, [some (.ref 0)], [.ref pl], h)) rfl ?_
      refine go_run 2 (F' := (8, [some (.ref 0)], [.ref 0], h)) rfl ?_
      refine go_gf rfl c0 rfl ?_
      refine go_run 0 (F' := (11, [some (.ref 0)], [.ref 2], h)) rfl ?_
      refine go_gf rfl c2 rfl ?_
      refine go_run 0 (F' := (14, [some (.ref 0)], [.int csp], h)) rfl ?_
      refine go_step rfl rfl ?_
      rw [if_neg q5]
      refine go_run 0 (F' := (17, [some (.ref 0)], [], h)) rfl ?_
      exact go_end rfl rfl
  refine go_run 0 (F' := (21, [some (.ref 0), some (.int p1), some (.int p2), some (.int p3), some (.ref 177), none], [], (h ++ [.inr (12, [])]))) rfl ?_
  refine go_run 1 (F' := (22, [some (.ref 0), some (.int p1), some (.int p2), some (.int p3), some (.ref 177), none], [.int 2], (h ++ [.inr (12, [])]))) rfl ?_
  exact go_end rfl rfl
set_option maxRecDepth 100000 in
theorem vm_input_1 {X : ie_X} {d : Nat} {h : ie_H} {p1 p2 p3 t_ ty fa wh ch it at_ bad co de st sz tp am bm mn rm sp be wo : Int32} (c134 : h[134]? = some (mo t_ ty fa wh ch it at_ bad co de 1 st sz tp am bm mn rm sp be wo)) (q1 : p1 < 0) : Go X (d + 1) 185 (0, ie_en 185 [.ref 134, .int p1, .int p2, .int p3], [], h) (.inl (some (.int 0))) (List.set h 134 (mo 1 ty fa wh ch it at_ bad co de 1 st sz tp am bm mn rm sp be wo)) := by
  refine go_run 0 (F' := (0, [some (.ref 134), some (.int p1), some (.int p2), some (.int p3), none], [], h)) rfl ?_
  refine go_run 2 (F' := (2, [some (.ref 134), some (.int p1), some (.int p2), some (.int p3), none], [.int p1, .ref 134], h)) rfl ?_
  refine go_call (m' := 183) (v := some (.int 1)) (h1 := h) rfl rfl ⟨rfl, Nat.le_of_ble_eq_true rfl⟩ ?_ ?_
  · refine go_run 0 (F' := (0, [some (.int p1)], [], h)) rfl ?_
    refine go_run 1 (F' := (1, [some (.int p1)], [.int p1], h)) rfl ?_
    refine go_step rfl rfl ?_
    rw [if_pos q1]
    refine go_run 0 (F' := (9, [some (.int p1)], [], h)) rfl ?_
    refine go_run 2 (F' := (14, [some (.int p1)], [.int 1], h)) rfl ?_
    exact go_end rfl rfl
  refine go_run 0 (F' := (5, [some (.ref 134), some (.int p1), some (.int p2), some (.int p3), none], [.int 1, .ref 134], h)) rfl ?_
  refine go_run 3 (F' := (38, [some (.ref 134), some (.int p1), some (.int p2), some (.int p3), none], [.int 1, .ref 134], h)) rfl ?_
  refine go_pf rfl c134 (Nat.le_of_ble_eq_true rfl) rfl rfl ?_
  refine go_run 0 (F' := (41, [some (.ref 134), some (.int p1), some (.int p2), some (.int p3), none], [], (List.set h 134 (mo 1 ty fa wh ch it at_ bad co de 1 st sz tp am bm mn rm sp be wo)))) rfl ?_
  refine go_run 1 (F' := (42, [some (.ref 134), some (.int p1), some (.int p2), some (.int p3), none], [.ref 134], (List.set h 134 (mo 1 ty fa wh ch it at_ bad co de 1 st sz tp am bm mn rm sp be wo)))) rfl ?_
  refine go_gf rfl (gs_self c134) rfl ?_
  refine go_run 0 (F' := (45, [some (.ref 134), some (.int p1), some (.int p2), some (.int p3), none], [.int 1], (List.set h 134 (mo 1 ty fa wh ch it at_ bad co de 1 st sz tp am bm mn rm sp be wo)))) rfl ?_
  refine go_run 2 (F' := (49, [some (.ref 134), some (.int p1), some (.int p2), some (.int p3), none], [.int 0], (List.set h 134 (mo 1 ty fa wh ch it at_ bad co de 1 st sz tp am bm mn rm sp be wo)))) rfl ?_
  exact go_end rfl rfl
set_option maxRecDepth 100000 in
theorem vm_input_2 {X : ie_X} {d : Nat} {h : ie_H} {p1 p2 p3 t_ ty fa wh ch it at_ bad co de st sz tp am bm mn rm sp be wo : Int32} (c134 : h[134]? = some (mo t_ ty fa wh ch it at_ bad co de 1 st sz tp am bm mn rm sp be wo)) (q1 : ¬ (p1 < 0)) (q2 : ¬ (p1 ≤ 5)) : Go X (d + 1) 185 (0, ie_en 185 [.ref 134, .int p1, .int p2, .int p3], [], h) (.inl (some (.int 0))) (List.set h 134 (mo 1 ty fa wh ch it at_ bad co de 1 st sz tp am bm mn rm sp be wo)) := by
  refine go_run 0 (F' := (0, [some (.ref 134), some (.int p1), some (.int p2), some (.int p3), none], [], h)) rfl ?_
  refine go_run 2 (F' := (2, [some (.ref 134), some (.int p1), some (.int p2), some (.int p3), none], [.int p1, .ref 134], h)) rfl ?_
  refine go_call (m' := 183) (v := some (.int 1)) (h1 := h) rfl rfl ⟨rfl, Nat.le_of_ble_eq_true rfl⟩ ?_ ?_
  · refine go_run 0 (F' := (0, [some (.int p1)], [], h)) rfl ?_
    refine go_run 1 (F' := (1, [some (.int p1)], [.int p1], h)) rfl ?_
    refine go_step rfl rfl ?_
    rw [if_neg q1]
    refine go_run 0 (F' := (4, [some (.int p1)], [], h)) rfl ?_
    refine go_run 2 (F' := (6, [some (.int p1)], [.int 5, .int p1], h)) rfl ?_
    refine go_step rfl rfl ?_
    rw [if_neg q2]
    refine go_run 0 (F' := (9, [some (.int p1)], [], h)) rfl ?_
    refine go_run 2 (F' := (14, [some (.int p1)], [.int 1], h)) rfl ?_
    exact go_end rfl rfl
  refine go_run 0 (F' := (5, [some (.ref 134), some (.int p1), some (.int p2), some (.int p3), none], [.int 1, .ref 134], h)) rfl ?_
  refine go_run 3 (F' := (38, [some (.ref 134), some (.int p1), some (.int p2), some (.int p3), none], [.int 1, .ref 134], h)) rfl ?_
  refine go_pf rfl c134 (Nat.le_of_ble_eq_true rfl) rfl rfl ?_
  refine go_run 0 (F' := (41, [some (.ref 134), some (.int p1), some (.int p2), some (.int p3), none], [], (List.set h 134 (mo 1 ty fa wh ch it at_ bad co de 1 st sz tp am bm mn rm sp be wo)))) rfl ?_
  refine go_run 1 (F' := (42, [some (.ref 134), some (.int p1), some (.int p2), some (.int p3), none], [.ref 134], (List.set h 134 (mo 1 ty fa wh ch it at_ bad co de 1 st sz tp am bm mn rm sp be wo)))) rfl ?_
  refine go_gf rfl (gs_self c134) rfl ?_
  refine go_run 0 (F' := (45, [some (.ref 134), some (.int p1), some (.int p2), some (.int p3), none], [.int 1], (List.set h 134 (mo 1 ty fa wh ch it at_ bad co de 1 st sz tp am bm mn rm sp be wo)))) rfl ?_
  refine go_run 2 (F' := (49, [some (.ref 134), some (.int p1), some (.int p2), some (.int p3), none], [.int 0], (List.set h 134 (mo 1 ty fa wh ch it at_ bad co de 1 st sz tp am bm mn rm sp be wo)))) rfl ?_
  exact go_end rfl rfl
set_option maxRecDepth 100000 in
theorem vm_input_3 {X : ie_X} {d : Nat} {h : ie_H} {p1 p2 p3 t_ ty fa wh ch it at_ bad co de st sz tp am bm mn rm sp be wo : Int32} (c134 : h[134]? = some (mo t_ ty fa wh ch it at_ bad co de 1 st sz tp am bm mn rm sp be wo)) (q1 : ¬ (p1 < 0)) (q2 : p1 ≤ 5) (q3 : p2 < 0) : Go X (d + 1) 185 (0, ie_en 185 [.ref 134, .int p1, .int p2, .int p3], [], h) (.inl (some (.int 0))) (List.set h 134 (mo 1 ty fa wh ch it at_ bad co de 1 st sz tp am bm mn rm sp be wo)) := by
  refine go_run 0 (F' := (0, [some (.ref 134), some (.int p1), some (.int p2), some (.int p3), none], [], h)) rfl ?_
  refine go_run 2 (F' := (2, [some (.ref 134), some (.int p1), some (.int p2), some (.int p3), none], [.int p1, .ref 134], h)) rfl ?_
  refine go_call (m' := 183) (v := some (.int 0)) (h1 := h) rfl rfl ⟨rfl, Nat.le_of_ble_eq_true rfl⟩ ?_ ?_
  · refine go_run 0 (F' := (0, [some (.int p1)], [], h)) rfl ?_
    refine go_run 1 (F' := (1, [some (.int p1)], [.int p1], h)) rfl ?_
    refine go_step rfl rfl ?_
    rw [if_neg q1]
    refine go_run 0 (F' := (4, [some (.int p1)], [], h)) rfl ?_
    refine go_run 2 (F' := (6, [some (.int p1)], [.int 5, .int p1], h)) rfl ?_
    refine go_step rfl rfl ?_
    rw [if_pos q2]
    refine go_run 0 (F' := (13, [some (.int p1)], [], h)) rfl ?_
    refine go_run 1 (F' := (14, [some (.int p1)], [.int 0], h)) rfl ?_
    exact go_end rfl rfl
  refine go_run 0 (F' := (5, [some (.ref 134), some (.int p1), some (.int p2), some (.int p3), none], [.int 0, .ref 134], h)) rfl ?_
  refine go_run 2 (F' := (9, [some (.ref 134), some (.int p1), some (.int p2), some (.int p3), none], [.int p2, .ref 134], h)) rfl ?_
  refine go_call (m' := 186) (v := some (.int 1)) (h1 := h) rfl rfl ⟨rfl, Nat.le_of_ble_eq_true rfl⟩ ?_ ?_
  · refine go_run 0 (F' := (0, [some (.int p2)], [], h)) rfl ?_
    refine go_run 1 (F' := (1, [some (.int p2)], [.int p2], h)) rfl ?_
    refine go_step rfl rfl ?_
    rw [if_pos q3]
    refine go_run 0 (F' := (9, [some (.int p2)], [], h)) rfl ?_
    refine go_run 2 (F' := (14, [some (.int p2)], [.int 1], h)) rfl ?_
    exact go_end rfl rfl
  refine go_run 0 (F' := (12, [some (.ref 134), some (.int p1), some (.int p2), some (.int p3), none], [.int 1, .ref 134], h)) rfl ?_
  refine go_run 3 (F' := (38, [some (.ref 134), some (.int p1), some (.int p2), some (.int p3), none], [.int 1, .ref 134], h)) rfl ?_
  refine go_pf rfl c134 (Nat.le_of_ble_eq_true rfl) rfl rfl ?_
  refine go_run 0 (F' := (41, [some (.ref 134), some (.int p1), some (.int p2), some (.int p3), none], [], (List.set h 134 (mo 1 ty fa wh ch it at_ bad co de 1 st sz tp am bm mn rm sp be wo)))) rfl ?_
  refine go_run 1 (F' := (42, [some (.ref 134), some (.int p1), some (.int p2), some (.int p3), none], [.ref 134], (List.set h 134 (mo 1 ty fa wh ch it at_ bad co de 1 st sz tp am bm mn rm sp be wo)))) rfl ?_
  refine go_gf rfl (gs_self c134) rfl ?_
  refine go_run 0 (F' := (45, [some (.ref 134), some (.int p1), some (.int p2), some (.int p3), none], [.int 1], (List.set h 134 (mo 1 ty fa wh ch it at_ bad co de 1 st sz tp am bm mn rm sp be wo)))) rfl ?_
  refine go_run 2 (F' := (49, [some (.ref 134), some (.int p1), some (.int p2), some (.int p3), none], [.int 0], (List.set h 134 (mo 1 ty fa wh ch it at_ bad co de 1 st sz tp am bm mn rm sp be wo)))) rfl ?_
  exact go_end rfl rfl
set_option maxRecDepth 100000 in
theorem vm_input_4 {X : ie_X} {d : Nat} {h : ie_H} {p1 p2 p3 t_ ty fa wh ch it at_ bad co de st sz tp am bm mn rm sp be wo : Int32} (c134 : h[134]? = some (mo t_ ty fa wh ch it at_ bad co de 1 st sz tp am bm mn rm sp be wo)) (q1 : ¬ (p1 < 0)) (q2 : p1 ≤ 5) (q3 : ¬ (p2 < 0)) (q4 : ¬ (p2 ≤ 3)) : Go X (d + 1) 185 (0, ie_en 185 [.ref 134, .int p1, .int p2, .int p3], [], h) (.inl (some (.int 0))) (List.set h 134 (mo 1 ty fa wh ch it at_ bad co de 1 st sz tp am bm mn rm sp be wo)) := by
  refine go_run 0 (F' := (0, [some (.ref 134), some (.int p1), some (.int p2), some (.int p3), none], [], h)) rfl ?_
  refine go_run 2 (F' := (2, [some (.ref 134), some (.int p1), some (.int p2), some (.int p3), none], [.int p1, .ref 134], h)) rfl ?_
  refine go_call (m' := 183) (v := some (.int 0)) (h1 := h) rfl rfl ⟨rfl, Nat.le_of_ble_eq_true rfl⟩ ?_ ?_
  · refine go_run 0 (F' := (0, [some (.int p1)], [], h)) rfl ?_
    refine go_run 1 (F' := (1, [some (.int p1)], [.int p1], h)) rfl ?_
    refine go_step rfl rfl ?_
    rw [if_neg q1]
    refine go_run 0 (F' := (4, [some (.int p1)], [], h)) rfl ?_
    refine go_run 2 (F' := (6, [some (.int p1)], [.int 5, .int p1], h)) rfl ?_
    refine go_step rfl rfl ?_
    rw [if_pos q2]
    refine go_run 0 (F' := (13, [some (.int p1)], [], h)) rfl ?_
    refine go_run 1 (F' := (14, [some (.int p1)], [.int 0], h)) rfl ?_
    exact go_end rfl rfl
  refine go_run 0 (F' := (5, [some (.ref 134), some (.int p1), some (.int p2), some (.int p3), none], [.int 0, .ref 134], h)) rfl ?_
  refine go_run 2 (F' := (9, [some (.ref 134), some (.int p1), some (.int p2), some (.int p3), none], [.int p2, .ref 134], h)) rfl ?_
  refine go_call (m' := 186) (v := some (.int 1)) (h1 := h) rfl rfl ⟨rfl, Nat.le_of_ble_eq_true rfl⟩ ?_ ?_
  · refine go_run 0 (F' := (0, [some (.int p2)], [], h)) rfl ?_
    refine go_run 1 (F' := (1, [some (.int p2)], [.int p2], h)) rfl ?_
    refine go_step rfl rfl ?_
    rw [if_neg q3]
    refine go_run 0 (F' := (4, [some (.int p2)], [], h)) rfl ?_
    refine go_run 2 (F' := (6, [some (.int p2)], [.int 3, .int p2], h)) rfl ?_
    refine go_step rfl rfl ?_
    rw [if_neg q4]
    refine go_run 0 (F' := (9, [some (.int p2)], [], h)) rfl ?_
    refine go_run 2 (F' := (14, [some (.int p2)], [.int 1], h)) rfl ?_
    exact go_end rfl rfl
  refine go_run 0 (F' := (12, [some (.ref 134), some (.int p1), some (.int p2), some (.int p3), none], [.int 1, .ref 134], h)) rfl ?_
  refine go_run 3 (F' := (38, [some (.ref 134), some (.int p1), some (.int p2), some (.int p3), none], [.int 1, .ref 134], h)) rfl ?_
  refine go_pf rfl c134 (Nat.le_of_ble_eq_true rfl) rfl rfl ?_
  refine go_run 0 (F' := (41, [some (.ref 134), some (.int p1), some (.int p2), some (.int p3), none], [], (List.set h 134 (mo 1 ty fa wh ch it at_ bad co de 1 st sz tp am bm mn rm sp be wo)))) rfl ?_
  refine go_run 1 (F' := (42, [some (.ref 134), some (.int p1), some (.int p2), some (.int p3), none], [.ref 134], (List.set h 134 (mo 1 ty fa wh ch it at_ bad co de 1 st sz tp am bm mn rm sp be wo)))) rfl ?_
  refine go_gf rfl (gs_self c134) rfl ?_
  refine go_run 0 (F' := (45, [some (.ref 134), some (.int p1), some (.int p2), some (.int p3), none], [.int 1], (List.set h 134 (mo 1 ty fa wh ch it at_ bad co de 1 st sz tp am bm mn rm sp be wo)))) rfl ?_
  refine go_run 2 (F' := (49, [some (.ref 134), some (.int p1), some (.int p2), some (.int p3), none], [.int 0], (List.set h 134 (mo 1 ty fa wh ch it at_ bad co de 1 st sz tp am bm mn rm sp be wo)))) rfl ?_
  exact go_end rfl rfl
set_option maxRecDepth 100000 in
theorem vm_input_5 {X : ie_X} {d : Nat} {h : ie_H} {p1 p2 p3 t_ ty fa wh ch it at_ bad co de st sz tp am bm mn rm sp be wo : Int32} {f167 f168 : Nat → Int32} (c134 : h[134]? = some (mo t_ ty fa wh ch it at_ bad co de 1 st sz tp am bm mn rm sp be wo)) (c167 : h[167]? = some (.inl (0, 24, .inl f167))) (c168 : h[168]? = some (.inl (0, 24, .inl f168))) (q1 : ¬ (p1 < 0)) (q2 : p1 ≤ 5) (q3 : ¬ (p2 < 0)) (q4 : p2 ≤ 3) (q5 : sp = 0) (b_5 : 0 ≤ Int32.toInt ((4 * p1) + p2) ∧ Int32.toInt ((4 * p1) + p2) < (24 : Int)) : Go X (d + 1) 185 (0, ie_en 185 [.ref 134, .int p1, .int p2, .int p3], [], h) (.inl (some (.int (f167 (Int32.toNatClampNeg ((4 * p1) + p2)))))) (List.set (List.set (List.set h 134 (mo 0 ty fa wh ch it at_ bad co de 1 st sz tp am bm mn rm sp be wo)) 167 (.inl (0, 24, .inl (upd f167 (Int32.toNatClampNeg ((4 * p1) + p2)) p3)))) 168 (.inl (0, 24, .inl (upd f168 (Int32.toNatClampNeg ((4 * p1) + p2)) p3)))) := by
  refine go_run 0 (F' := (0, [some (.ref 134), some (.int p1), some (.int p2), some (.int p3), none], [], h)) rfl ?_
  refine go_run 2 (F' := (2, [some (.ref 134), some (.int p1), some (.int p2), some (.int p3), none], [.int p1, .ref 134], h)) rfl ?_
  refine go_call (m' := 183) (v := some (.int 0)) (h1 := h) rfl rfl ⟨rfl, Nat.le_of_ble_eq_true rfl⟩ ?_ ?_
  · refine go_run 0 (F' := (0, [some (.int p1)], [], h)) rfl ?_
    refine go_run 1 (F' := (1, [some (.int p1)], [.int p1], h)) rfl ?_
    refine go_step rfl rfl ?_
    rw [if_neg q1]
    refine go_run 0 (F' := (4, [some (.int p1)], [], h)) rfl ?_
    refine go_run 2 (F' := (6, [some (.int p1)], [.int 5, .int p1], h)) rfl ?_
    refine go_step rfl rfl ?_
    rw [if_pos q2]
    refine go_run 0 (F' := (13, [some (.int p1)], [], h)) rfl ?_
    refine go_run 1 (F' := (14, [some (.int p1)], [.int 0], h)) rfl ?_
    exact go_end rfl rfl
  refine go_run 0 (F' := (5, [some (.ref 134), some (.int p1), some (.int p2), some (.int p3), none], [.int 0, .ref 134], h)) rfl ?_
  refine go_run 2 (F' := (9, [some (.ref 134), some (.int p1), some (.int p2), some (.int p3), none], [.int p2, .ref 134], h)) rfl ?_
  refine go_call (m' := 186) (v := some (.int 0)) (h1 := h) rfl rfl ⟨rfl, Nat.le_of_ble_eq_true rfl⟩ ?_ ?_
  · refine go_run 0 (F' := (0, [some (.int p2)], [], h)) rfl ?_
    refine go_run 1 (F' := (1, [some (.int p2)], [.int p2], h)) rfl ?_
    refine go_step rfl rfl ?_
    rw [if_neg q3]
    refine go_run 0 (F' := (4, [some (.int p2)], [], h)) rfl ?_
    refine go_run 2 (F' := (6, [some (.int p2)], [.int 3, .int p2], h)) rfl ?_
    refine go_step rfl rfl ?_
    rw [if_pos q4]
    refine go_run 0 (F' := (13, [some (.int p2)], [], h)) rfl ?_
    refine go_run 1 (F' := (14, [some (.int p2)], [.int 0], h)) rfl ?_
    exact go_end rfl rfl
  refine go_run 0 (F' := (12, [some (.ref 134), some (.int p1), some (.int p2), some (.int p3), none], [.int 0, .ref 134], h)) rfl ?_
  refine go_run 2 (F' := (20, [some (.ref 134), some (.int p1), some (.int p2), some (.int p3), none], [.ref 134, .ref 134], h)) rfl ?_
  refine go_gf rfl c134 rfl ?_
  refine go_run 0 (F' := (23, [some (.ref 134), some (.int p1), some (.int p2), some (.int p3), none], [.int 1, .ref 134], h)) rfl ?_
  refine go_run 2 (F' := (27, [some (.ref 134), some (.int p1), some (.int p2), some (.int p3), none], [.ref 134, .ref 134], h)) rfl ?_
  refine go_gf rfl c134 rfl ?_
  refine go_run 0 (F' := (30, [some (.ref 134), some (.int p1), some (.int p2), some (.int p3), none], [.int sp, .ref 134], h)) rfl ?_
  refine go_step rfl rfl ?_
  rw [if_pos q5]
  refine go_run 0 (F' := (37, [some (.ref 134), some (.int p1), some (.int p2), some (.int p3), none], [.ref 134], h)) rfl ?_
  refine go_run 1 (F' := (38, [some (.ref 134), some (.int p1), some (.int p2), some (.int p3), none], [.int 0, .ref 134], h)) rfl ?_
  refine go_pf rfl c134 (Nat.le_of_ble_eq_true rfl) rfl rfl ?_
  refine go_run 0 (F' := (41, [some (.ref 134), some (.int p1), some (.int p2), some (.int p3), none], [], (List.set h 134 (mo 0 ty fa wh ch it at_ bad co de 1 st sz tp am bm mn rm sp be wo)))) rfl ?_
  refine go_run 1 (F' := (42, [some (.ref 134), some (.int p1), some (.int p2), some (.int p3), none], [.ref 134], (List.set h 134 (mo 0 ty fa wh ch it at_ bad co de 1 st sz tp am bm mn rm sp be wo)))) rfl ?_
  refine go_gf rfl (gs_self c134) rfl ?_
  refine go_run 0 (F' := (45, [some (.ref 134), some (.int p1), some (.int p2), some (.int p3), none], [.int 0], (List.set h 134 (mo 0 ty fa wh ch it at_ bad co de 1 st sz tp am bm mn rm sp be wo)))) rfl ?_
  refine go_run 2 (F' := (51, [some (.ref 134), some (.int p1), some (.int p2), some (.int p3), none], [.ref 134], (List.set h 134 (mo 0 ty fa wh ch it at_ bad co de 1 st sz tp am bm mn rm sp be wo)))) rfl ?_
  refine go_gf rfl (gs_self c134) rfl ?_
  refine go_run 0 (F' := (54, [some (.ref 134), some (.int p1), some (.int p2), some (.int p3), none], [.ref 167], (List.set h 134 (mo 0 ty fa wh ch it at_ bad co de 1 st sz tp am bm mn rm sp be wo)))) rfl ?_
  refine go_run 5 (F' := (59, [some (.ref 134), some (.int p1), some (.int p2), some (.int p3), none], [.int ((4 * p1) + p2), .ref 167], (List.set h 134 (mo 0 ty fa wh ch it at_ bad co de 1 st sz tp am bm mn rm sp be wo)))) rfl ?_
  refine go_iald rfl (by decide) (gs_ne (by decide) c167) b_5 rfl ?_
  refine go_run 0 (F' := (60, [some (.ref 134), some (.int p1), some (.int p2), some (.int p3), none], [.int (f167 (Int32.toNatClampNeg ((4 * p1) + p2)))], (List.set h 134 (mo 0 ty fa wh ch it at_ bad co de 1 st sz tp am bm mn rm sp be wo)))) rfl ?_
  refine go_run 2 (F' := (63, [some (.ref 134), some (.int p1), some (.int p2), some (.int p3), some (.int (f167 (Int32.toNatClampNeg ((4 * p1) + p2))))], [.ref 134], (List.set h 134 (mo 0 ty fa wh ch it at_ bad co de 1 st sz tp am bm mn rm sp be wo)))) rfl ?_
  refine go_gf rfl (gs_self c134) rfl ?_
  refine go_run 0 (F' := (66, [some (.ref 134), some (.int p1), some (.int p2), some (.int p3), some (.int (f167 (Int32.toNatClampNeg ((4 * p1) + p2))))], [.ref 167], (List.set h 134 (mo 0 ty fa wh ch it at_ bad co de 1 st sz tp am bm mn rm sp be wo)))) rfl ?_
  refine go_run 6 (F' := (72, [some (.ref 134), some (.int p1), some (.int p2), some (.int p3), some (.int (f167 (Int32.toNatClampNeg ((4 * p1) + p2))))], [.int p3, .int ((4 * p1) + p2), .ref 167], (List.set h 134 (mo 0 ty fa wh ch it at_ bad co de 1 st sz tp am bm mn rm sp be wo)))) rfl ?_
  refine go_iast rfl (gs_ne (by decide) c167) b_5 rfl ?_
  refine go_run 0 (F' := (73, [some (.ref 134), some (.int p1), some (.int p2), some (.int p3), some (.int (f167 (Int32.toNatClampNeg ((4 * p1) + p2))))], [], (List.set (List.set h 134 (mo 0 ty fa wh ch it at_ bad co de 1 st sz tp am bm mn rm sp be wo)) 167 (.inl (0, 24, .inl (upd f167 (Int32.toNatClampNeg ((4 * p1) + p2)) p3)))))) rfl ?_
  refine go_run 1 (F' := (74, [some (.ref 134), some (.int p1), some (.int p2), some (.int p3), some (.int (f167 (Int32.toNatClampNeg ((4 * p1) + p2))))], [.ref 134], (List.set (List.set h 134 (mo 0 ty fa wh ch it at_ bad co de 1 st sz tp am bm mn rm sp be wo)) 167 (.inl (0, 24, .inl (upd f167 (Int32.toNatClampNeg ((4 * p1) + p2)) p3)))))) rfl ?_
  refine go_gf rfl (gs_ne (by decide) (gs_self c134)) rfl ?_
  refine go_run 0 (F' := (77, [some (.ref 134), some (.int p1), some (.int p2), some (.int p3), some (.int (f167 (Int32.toNatClampNeg ((4 * p1) + p2))))], [.ref 168], (List.set (List.set h 134 (mo 0 ty fa wh ch it at_ bad co de 1 st sz tp am bm mn rm sp be wo)) 167 (.inl (0, 24, .inl (upd f167 (Int32.toNatClampNeg ((4 * p1) + p2)) p3)))))) rfl ?_
  refine go_run 6 (F' := (83, [some (.ref 134), some (.int p1), some (.int p2), some (.int p3), some (.int (f167 (Int32.toNatClampNeg ((4 * p1) + p2))))], [.int p3, .int ((4 * p1) + p2), .ref 168], (List.set (List.set h 134 (mo 0 ty fa wh ch it at_ bad co de 1 st sz tp am bm mn rm sp be wo)) 167 (.inl (0, 24, .inl (upd f167 (Int32.toNatClampNeg ((4 * p1) + p2)) p3)))))) rfl ?_
  refine go_iast rfl (gs_ne (by decide) (gs_ne (by decide) c168)) b_5 rfl ?_
  refine go_run 0 (F' := (84, [some (.ref 134), some (.int p1), some (.int p2), some (.int p3), some (.int (f167 (Int32.toNatClampNeg ((4 * p1) + p2))))], [], (List.set (List.set (List.set h 134 (mo 0 ty fa wh ch it at_ bad co de 1 st sz tp am bm mn rm sp be wo)) 167 (.inl (0, 24, .inl (upd f167 (Int32.toNatClampNeg ((4 * p1) + p2)) p3)))) 168 (.inl (0, 24, .inl (upd f168 (Int32.toNatClampNeg ((4 * p1) + p2)) p3)))))) rfl ?_
  refine go_run 1 (F' := (86, [some (.ref 134), some (.int p1), some (.int p2), some (.int p3), some (.int (f167 (Int32.toNatClampNeg ((4 * p1) + p2))))], [.int (f167 (Int32.toNatClampNeg ((4 * p1) + p2)))], (List.set (List.set (List.set h 134 (mo 0 ty fa wh ch it at_ bad co de 1 st sz tp am bm mn rm sp be wo)) 167 (.inl (0, 24, .inl (upd f167 (Int32.toNatClampNeg ((4 * p1) + p2)) p3)))) 168 (.inl (0, 24, .inl (upd f168 (Int32.toNatClampNeg ((4 * p1) + p2)) p3)))))) rfl ?_
  exact go_end rfl rfl
set_option maxRecDepth 100000 in
theorem vm_input_6 {X : ie_X} {d : Nat} {h : ie_H} {p1 p2 p3 t_ ty fa wh ch it at_ bad co de st sz tp am bm mn rm sp be wo : Int32} (c134 : h[134]? = some (mo t_ ty fa wh ch it at_ bad co de 1 st sz tp am bm mn rm sp be wo)) (q1 : ¬ (p1 < 0)) (q2 : p1 ≤ 5) (q3 : ¬ (p2 < 0)) (q4 : p2 ≤ 3) (q5 : ¬ (sp = 0)) : Go X (d + 1) 185 (0, ie_en 185 [.ref 134, .int p1, .int p2, .int p3], [], h) (.inl (some (.int 0))) (List.set h 134 (mo 2 ty fa wh ch it at_ bad co de 1 st sz tp am bm mn rm sp be wo)) := by
  refine go_run 0 (F' := (0, [some (.ref 134), some (.int p1), some (.int p2), some (.int p3), none], [], h)) rfl ?_
  refine go_run 2 (F' := (2, [some (.ref 134), some (.int p1), some (.int p2), some (.int p3), none], [.int p1, .ref 134], h)) rfl ?_
  refine go_call (m' := 183) (v := some (.int 0)) (h1 := h) rfl rfl ⟨rfl, Nat.le_of_ble_eq_true rfl⟩ ?_ ?_
  · refine go_run 0 (F' := (0, [some (.int p1)], [], h)) rfl ?_
    refine go_run 1 (F' := (1, [some (.int p1)], [.int p1], h)) rfl ?_
    refine go_step rfl rfl ?_
    rw [if_neg q1]
    refine go_run 0 (F' := (4, [some (.int p1)], [], h)) rfl ?_
    refine go_run 2 (F' := (6, [some (.int p1)], [.int 5, .int p1], h)) rfl ?_
    refine go_step rfl rfl ?_
    rw [if_pos q2]
    refine go_run 0 (F' := (13, [some (.int p1)], [], h)) rfl ?_
    refine go_run 1 (F' := (14, [some (.int p1)], [.int 0], h)) rfl ?_
    exact go_end rfl rfl
  refine go_run 0 (F' := (5, [some (.ref 134), some (.int p1), some (.int p2), some (.int p3), none], [.int 0, .ref 134], h)) rfl ?_
  refine go_run 2 (F' := (9, [some (.ref 134), some (.int p1), some (.int p2), some (.int p3), none], [.int p2, .ref 134], h)) rfl ?_
  refine go_call (m' := 186) (v := some (.int 0)) (h1 := h) rfl rfl ⟨rfl, Nat.le_of_ble_eq_true rfl⟩ ?_ ?_
  · refine go_run 0 (F' := (0, [some (.int p2)], [], h)) rfl ?_
    refine go_run 1 (F' := (1, [some (.int p2)], [.int p2], h)) rfl ?_
    refine go_step rfl rfl ?_
    rw [if_neg q3]
    refine go_run 0 (F' := (4, [some (.int p2)], [], h)) rfl ?_
    refine go_run 2 (F' := (6, [some (.int p2)], [.int 3, .int p2], h)) rfl ?_
    refine go_step rfl rfl ?_
    rw [if_pos q4]
    refine go_run 0 (F' := (13, [some (.int p2)], [], h)) rfl ?_
    refine go_run 1 (F' := (14, [some (.int p2)], [.int 0], h)) rfl ?_
    exact go_end rfl rfl
  refine go_run 0 (F' := (12, [some (.ref 134), some (.int p1), some (.int p2), some (.int p3), none], [.int 0, .ref 134], h)) rfl ?_
  refine go_run 2 (F' := (20, [some (.ref 134), some (.int p1), some (.int p2), some (.int p3), none], [.ref 134, .ref 134], h)) rfl ?_
  refine go_gf rfl c134 rfl ?_
  refine go_run 0 (F' := (23, [some (.ref 134), some (.int p1), some (.int p2), some (.int p3), none], [.int 1, .ref 134], h)) rfl ?_
  refine go_run 2 (F' := (27, [some (.ref 134), some (.int p1), some (.int p2), some (.int p3), none], [.ref 134, .ref 134], h)) rfl ?_
  refine go_gf rfl c134 rfl ?_
  refine go_run 0 (F' := (30, [some (.ref 134), some (.int p1), some (.int p2), some (.int p3), none], [.int sp, .ref 134], h)) rfl ?_
  refine go_step rfl rfl ?_
  rw [if_neg q5]
  refine go_run 0 (F' := (33, [some (.ref 134), some (.int p1), some (.int p2), some (.int p3), none], [.ref 134], h)) rfl ?_
  refine go_run 2 (F' := (38, [some (.ref 134), some (.int p1), some (.int p2), some (.int p3), none], [.int 2, .ref 134], h)) rfl ?_
  refine go_pf rfl c134 (Nat.le_of_ble_eq_true rfl) rfl rfl ?_
  refine go_run 0 (F' := (41, [some (.ref 134), some (.int p1), some (.int p2), some (.int p3), none], [], (List.set h 134 (mo 2 ty fa wh ch it at_ bad co de 1 st sz tp am bm mn rm sp be wo)))) rfl ?_
  refine go_run 1 (F' := (42, [some (.ref 134), some (.int p1), some (.int p2), some (.int p3), none], [.ref 134], (List.set h 134 (mo 2 ty fa wh ch it at_ bad co de 1 st sz tp am bm mn rm sp be wo)))) rfl ?_
  refine go_gf rfl (gs_self c134) rfl ?_
  refine go_run 0 (F' := (45, [some (.ref 134), some (.int p1), some (.int p2), some (.int p3), none], [.int 2], (List.set h 134 (mo 2 ty fa wh ch it at_ bad co de 1 st sz tp am bm mn rm sp be wo)))) rfl ?_
  refine go_run 2 (F' := (49, [some (.ref 134), some (.int p1), some (.int p2), some (.int p3), none], [.int 0], (List.set h 134 (mo 2 ty fa wh ch it at_ bad co de 1 st sz tp am bm mn rm sp be wo)))) rfl ?_
  exact go_end rfl rfl
set_option maxRecDepth 100000 in
theorem vc_variable_1 {X : ie_X} {d : Nat} {h : ie_H} {p1 p2 nl cf cw : Int32} {pl : Nat} (c0 : h[0]? = some (.inr (0, [.ref 1, .int nl, .int cf, .int cw, .ref pl, .ref 2, .ref 133]))) (q1 : p1 < 0) : Go X (d + 3) 116 (0, ie_en 116 [.ref 0, .int p1, .int p2, .ref 177], [], h) (.inl (some (.int 1))) (h ++ [.inr (14, [])]) := by
  refine go_run 0 (F' := (0, [some (.ref 0), some (.int p1), some (.int p2), some (.ref 177), none], [], h)) rfl ?_
  refine go_run 5 (F' := (5, [some (.ref 0), some (.int p1), some (.int p2), some (.ref 177), none], [.int p2, .int p1, .ref 0, .int 0, .ref 177], h)) rfl ?_
  refine go_catch (m' := 117) (ci := 14) (h1 := (h ++ [.inr (14, [])])) rfl (by simp only [ie_step, ie_iv, List.drop, c0, if_true]; rfl) ⟨rfl, Nat.le_of_ble_eq_true rfl⟩ rfl rfl rfl ?_ ?_
  · refine go_run 0 (F' := (0, [some (.ref 0), some (.int p1), some (.int p2)], [], h)) rfl ?_
    refine go_run 2 (F' := (2, [some (.ref 0), some (.int p1), some (.int p2)], [.int p2, .int p1], h)) rfl ?_
    refine go_out (m' := 86) rfl rfl ⟨rfl, Nat.le_of_ble_eq_true rfl⟩ rfl rfl ?_
    · refine go_run 0 (F' := (0, [some (.int p1), some (.int p2)], [], h)) rfl ?_
      refine go_run 1 (F' := (1, [some (.int p1), some (.int p2)], [.int p1], h)) rfl ?_
      refine go_call (m' := 33) (v := some (.int 0)) (h1 := h) rfl rfl ⟨rfl, Nat.le_of_ble_eq_true rfl⟩ ?_ ?_
      · refine go_run 0 (F' := (0, [some (.int p1)], [], h)) rfl ?_
        refine go_run 1 (F' := (1, [some (.int p1)], [.int p1], h)) rfl ?_
        refine go_step rfl rfl ?_
        rw [if_pos q1]
        refine go_run 0 (F' := (14, [some (.int p1)], [], h)) rfl ?_
        refine go_run 1 (F' := (15, [some (.int p1)], [.int 0], h)) rfl ?_
        exact go_end rfl rfl
      refine go_run 0 (F' := (4, [some (.int p1), some (.int p2)], [.int 0], h)) rfl ?_
      refine go_run 1 (F' := (16, [some (.int p1), some (.int p2)], [], h)) rfl ?_
      exact go_end rfl rfl
  refine go_run 0 (F' := (15, [some (.ref 0), some (.int p1), some (.int p2), some (.ref 177), none], [], (h ++ [.inr (14, [])]))) rfl ?_
  refine go_run 1 (F' := (16, [some (.ref 0), some (.int p1), some (.int p2), some (.ref 177), none], [.int 1], (h ++ [.inr (14, [])]))) rfl ?_
  exact go_end rfl rfl
set_option maxRecDepth 100000 in
theorem vc_variable_2 {X : ie_X} {d : Nat} {h : ie_H} {p1 p2 nl cf cw : Int32} {pl : Nat} (c0 : h[0]? = some (.inr (0, [.ref 1, .int nl, .int cf, .int cw, .ref pl, .ref 2, .ref 133]))) (q1 : ¬ (p1 < 0)) (q2 : 6 ≤ p1) : Go X (d + 3) 116 (0, ie_en 116 [.ref 0, .int p1, .int p2, .ref 177], [], h) (.inl (some (.int 1))) (h ++ [.inr (14, [])]) := by
  refine go_run 0 (F' := (0, [some (.ref 0), some (.int p1), some (.int p2), some (.ref 177), none], [], h)) rfl ?_
  refine go_run 5 (F' := (5, [some (.ref 0), some (.int p1), some (.int p2), some (.ref 177), none], [.int p2, .int p1, .ref 0, .int 0, .ref 177], h)) rfl ?_
  refine go_catch (m' := 117) (ci := 14) (h1 := (h ++ [.inr (14, [])])) rfl (by simp only [ie_step, ie_iv, List.drop, c0, if_true]; rfl) ⟨rfl, Nat.le_of_ble_eq_true rfl⟩ rfl rfl rfl ?_ ?_
  · refine go_run 0 (F' := (0, [some (.ref 0), some (.int p1), some (.int p2)], [], h)) rfl ?_
    refine go_run 2 (F' := (2, [some (.ref 0), some (.int p1), some (.int p2)], [.int p2, .int p1], h)) rfl ?_
    refine go_out (m' := 86) rfl rfl ⟨rfl, Nat.le_of_ble_eq_true rfl⟩ rfl rfl ?_
    · refine go_run 0 (F' := (0, [some (.int p1), some (.int p2)], [], h)) rfl ?_
      refine go_run 1 (F' := (1, [some (.int p1), some (.int p2)], [.int p1], h)) rfl ?_
      refine go_call (m' := 33) (v := some (.int 0)) (h1 := h) rfl rfl ⟨rfl, Nat.le_of_ble_eq_true rfl⟩ ?_ ?_
      · refine go_run 0 (F' := (0, [some (.int p1)], [], h)) rfl ?_
        refine go_run 1 (F' := (1, [some (.int p1)], [.int p1], h)) rfl ?_
        refine go_step rfl rfl ?_
        rw [if_neg q1]
        refine go_run 0 (F' := (4, [some (.int p1)], [], h)) rfl ?_
        refine go_run 2 (F' := (7, [some (.int p1)], [.int 6, .int p1], h)) rfl ?_
        refine go_step rfl rfl ?_
        rw [if_pos q2]
        refine go_run 0 (F' := (14, [some (.int p1)], [], h)) rfl ?_
        refine go_run 1 (F' := (15, [some (.int p1)], [.int 0], h)) rfl ?_
        exact go_end rfl rfl
      refine go_run 0 (F' := (4, [some (.int p1), some (.int p2)], [.int 0], h)) rfl ?_
      refine go_run 1 (F' := (16, [some (.int p1), some (.int p2)], [], h)) rfl ?_
      exact go_end rfl rfl
  refine go_run 0 (F' := (15, [some (.ref 0), some (.int p1), some (.int p2), some (.ref 177), none], [], (h ++ [.inr (14, [])]))) rfl ?_
  refine go_run 1 (F' := (16, [some (.ref 0), some (.int p1), some (.int p2), some (.ref 177), none], [.int 1], (h ++ [.inr (14, [])]))) rfl ?_
  exact go_end rfl rfl
set_option maxRecDepth 100000 in
theorem vc_variable_3 {X : ie_X} {d : Nat} {h : ie_H} {p1 p2 nl cf cw : Int32} {pl : Nat} (c0 : h[0]? = some (.inr (0, [.ref 1, .int nl, .int cf, .int cw, .ref pl, .ref 2, .ref 133]))) (q1 : ¬ (p1 < 0)) (q2 : ¬ (6 ≤ p1)) (q3 : p2 < 0) : Go X (d + 3) 116 (0, ie_en 116 [.ref 0, .int p1, .int p2, .ref 177], [], h) (.inl (some (.int 1))) (h ++ [.inr (14, [])]) := by
  refine go_run 0 (F' := (0, [some (.ref 0), some (.int p1), some (.int p2), some (.ref 177), none], [], h)) rfl ?_
  refine go_run 5 (F' := (5, [some (.ref 0), some (.int p1), some (.int p2), some (.ref 177), none], [.int p2, .int p1, .ref 0, .int 0, .ref 177], h)) rfl ?_
  refine go_catch (m' := 117) (ci := 14) (h1 := (h ++ [.inr (14, [])])) rfl (by simp only [ie_step, ie_iv, List.drop, c0, if_true]; rfl) ⟨rfl, Nat.le_of_ble_eq_true rfl⟩ rfl rfl rfl ?_ ?_
  · refine go_run 0 (F' := (0, [some (.ref 0), some (.int p1), some (.int p2)], [], h)) rfl ?_
    refine go_run 2 (F' := (2, [some (.ref 0), some (.int p1), some (.int p2)], [.int p2, .int p1], h)) rfl ?_
    refine go_out (m' := 86) rfl rfl ⟨rfl, Nat.le_of_ble_eq_true rfl⟩ rfl rfl ?_
    · refine go_run 0 (F' := (0, [some (.int p1), some (.int p2)], [], h)) rfl ?_
      refine go_run 1 (F' := (1, [some (.int p1), some (.int p2)], [.int p1], h)) rfl ?_
      refine go_call (m' := 33) (v := some (.int 1)) (h1 := h) rfl rfl ⟨rfl, Nat.le_of_ble_eq_true rfl⟩ ?_ ?_
      · refine go_run 0 (F' := (0, [some (.int p1)], [], h)) rfl ?_
        refine go_run 1 (F' := (1, [some (.int p1)], [.int p1], h)) rfl ?_
        refine go_step rfl rfl ?_
        rw [if_neg q1]
        refine go_run 0 (F' := (4, [some (.int p1)], [], h)) rfl ?_
        refine go_run 2 (F' := (7, [some (.int p1)], [.int 6, .int p1], h)) rfl ?_
        refine go_step rfl rfl ?_
        rw [if_neg q2]
        refine go_run 0 (F' := (10, [some (.int p1)], [], h)) rfl ?_
        refine go_run 2 (F' := (15, [some (.int p1)], [.int 1], h)) rfl ?_
        exact go_end rfl rfl
      refine go_run 0 (F' := (4, [some (.int p1), some (.int p2)], [.int 1], h)) rfl ?_
      refine go_run 2 (F' := (8, [some (.int p1), some (.int p2)], [.int p2], h)) rfl ?_
      refine go_step rfl rfl ?_
      rw [if_pos q3]
      refine go_run 0 (F' := (16, [some (.int p1), some (.int p2)], [], h)) rfl ?_
      exact go_end rfl rfl
  refine go_run 0 (F' := (15, [some (.ref 0), some (.int p1), some (.int p2), some (.ref 177), none], [], (h ++ [.inr (14, [])]))) rfl ?_
  refine go_run 1 (F' := (16, [some (.ref 0), some (.int p1), some (.int p2), some (.ref 177), none], [.int 1], (h ++ [.inr (14, [])]))) rfl ?_
  exact go_end rfl rfl
set_option maxRecDepth 100000 in
theorem vc_variable_4 {X : ie_X} {d : Nat} {h : ie_H} {p1 p2 nl cf cw crm csp : Int32} {pl : Nat} {f6 : Nat → Int32} {fo : Nat → Int64} (c0 : h[0]? = some (.inr (0, [.ref 1, .int nl, .int cf, .int cw, .ref pl, .ref 2, .ref 133]))) (c2 : h[2]? = some (.inr (8, [.ref 3, .ref 4, .ref 5, .ref 6, .int crm, .int csp]))) (c6 : h[6]? = some (.inl (0, 24, .inl f6))) (c177 : h[177]? = some (.inl (3, 1, .inr (.inl fo)))) (q1 : ¬ (p1 < 0)) (q2 : ¬ (6 ≤ p1)) (q3 : ¬ (p2 < 0)) (q4 : p2 < 4) (b_4 : 0 ≤ Int32.toInt ((p1 * 4) + p2) ∧ Int32.toInt ((p1 * 4) + p2) < (24 : Int)) : Go X (d + 3) 116 (0, ie_en 116 [.ref 0, .int p1, .int p2, .ref 177], [], h) (.inl (some (.int 0))) (List.set h 177 (.inl (3, 1, .inr (.inl (vp_updL fo 0 (Int32.toInt64 (f6 (Int32.toNatClampNeg ((p1 * 4) + p2))))))))) := by
  refine go_run 0 (F' := (0, [some (.ref 0), some (.int p1), some (.int p2), some (.ref 177), none], [], h)) rfl ?_
  refine go_run 5 (F' := (5, [some (.ref 0), some (.int p1), some (.int p2), some (.ref 177), none], [.int p2, .int p1, .ref 0, .int 0, .ref 177], h)) rfl ?_
  refine go_call (m' := 117) (v := some (.int (f6 (Int32.toNatClampNeg ((p1 * 4) + p2))))) (h1 := h) rfl (by simp only [ie_step, ie_iv, List.drop, c0, if_true]; rfl) ⟨rfl, Nat.le_of_ble_eq_true rfl⟩ ?_ ?_
  · refine go_run 0 (F' := (0, [some (.ref 0), some (.int p1), some (.int p2)], [], h)) rfl ?_
    refine go_run 2 (F' := (2, [some (.ref 0), some (.int p1), some (.int p2)], [.int p2, .int p1], h)) rfl ?_
    refine go_call (m' := 86) (v := none) (h1 := h) rfl rfl ⟨rfl, Nat.le_of_ble_eq_true rfl⟩ ?_ ?_
    · refine go_run 0 (F' := (0, [some (.int p1), some (.int p2)], [], h)) rfl ?_
      refine go_run 1 (F' := (1, [some (.int p1), some (.int p2)], [.int p1], h)) rfl ?_
      refine go_call (m' := 33) (v := some (.int 1)) (h1 := h) rfl rfl ⟨rfl, Nat.le_of_ble_eq_true rfl⟩ ?_ ?_
      · refine go_run 0 (F' := (0, [some (.int p1)], [], h)) rfl ?_
        refine go_run 1 (F' := (1, [some (.int p1)], [.int p1], h)) rfl ?_
        refine go_step rfl rfl ?_
        rw [if_neg q1]
        refine go_run 0 (F' := (4, [some (.int p1)], [], h)) rfl ?_
        refine go_run 2 (F' := (7, [some (.int p1)], [.int 6, .int p1], h)) rfl ?_
        refine go_step rfl rfl ?_
        rw [if_neg q2]
        refine go_run 0 (F' := (10, [some (.int p1)], [], h)) rfl ?_
        refine go_run 2 (F' := (15, [some (.int p1)], [.int 1], h)) rfl ?_
        exact go_end rfl rfl
      refine go_run 0 (F' := (4, [some (.int p1), some (.int p2)], [.int 1], h)) rfl ?_
      refine go_run 2 (F' := (8, [some (.int p1), some (.int p2)], [.int p2], h)) rfl ?_
      refine go_step rfl rfl ?_
      rw [if_neg q3]
      refine go_run 0 (F' := (11, [some (.int p1), some (.int p2)], [], h)) rfl ?_
      refine go_run 2 (F' := (13, [some (.int p1), some (.int p2)], [.int 4, .int p2], h)) rfl ?_
      refine go_step rfl rfl ?_
      rw [if_pos q4]
      refine go_run 0 (F' := (24, [some (.int p1), some (.int p2)], [], h)) rfl ?_
      exact go_end rfl rfl
    refine go_run 0 (F' := (5, [some (.ref 0), some (.int p1), some (.int p2)], [], h)) rfl ?_
    refine go_run 1 (F' := (6, [some (.ref 0), some (.int p1), some (.int p2)], [.ref 0], h)) rfl ?_
    refine go_gf rfl c0 rfl ?_
    refine go_run 0 (F' := (9, [some (.ref 0), some (.int p1), some (.int p2)], [.ref 2], h)) rfl ?_
    refine go_gf rfl c2 rfl ?_
    refine go_run 0 (F' := (12, [some (.ref 0), some (.int p1), some (.int p2)], [.ref 6], h)) rfl ?_
    refine go_run 2 (F' := (14, [some (.ref 0), some (.int p1), some (.int p2)], [.int p2, .int p1, .ref 6], h)) rfl ?_
    refine go_call (m' := 88) (v := some (.int ((p1 * 4) + p2))) (h1 := h) rfl rfl ⟨rfl, Nat.le_of_ble_eq_true rfl⟩ ?_ ?_
    · refine go_run 0 (F' := (0, [some (.int p1), some (.int p2)], [], h)) rfl ?_
      refine go_run 5 (F' := (5, [some (.int p1), some (.int p2)], [.int ((p1 * 4) + p2)], h)) rfl ?_
      exact go_end rfl rfl
    refine go_run 0 (F' := (17, [some (.ref 0), some (.int p1), some (.int p2)], [.int ((p1 * 4) + p2), .ref 6], h)) rfl ?_
    refine go_iald rfl (by decide) c6 b_4 rfl ?_
    refine go_run 0 (F' := (18, [some (.ref 0), some (.int p1), some (.int p2)], [.int (f6 (Int32.toNatClampNeg ((p1 * 4) + p2)))], h)) rfl ?_
    exact go_end rfl rfl
  refine go_run 0 (F' := (8, [some (.ref 0), some (.int p1), some (.int p2), some (.ref 177), none], [.int (f6 (Int32.toNatClampNeg ((p1 * 4) + p2))), .int 0, .ref 177], h)) rfl ?_
  refine go_run 1 (F' := (9, [some (.ref 0), some (.int p1), some (.int p2), some (.ref 177), none], [.long (Int32.toInt64 (f6 (Int32.toNatClampNeg ((p1 * 4) + p2)))), .int 0, .ref 177], h)) rfl ?_
  refine go_last rfl c177 (by decide) rfl ?_
  refine go_run 0 (F' := (10, [some (.ref 0), some (.int p1), some (.int p2), some (.ref 177), none], [], (List.set h 177 (.inl (3, 1, .inr (.inl (vp_updL fo 0 (Int32.toInt64 (f6 (Int32.toNatClampNeg ((p1 * 4) + p2))))))))))) rfl ?_
  refine go_run 2 (F' := (18, [some (.ref 0), some (.int p1), some (.int p2), some (.ref 177), none], [.int 0], (List.set h 177 (.inl (3, 1, .inr (.inl (vp_updL fo 0 (Int32.toInt64 (f6 (Int32.toNatClampNeg ((p1 * 4) + p2))))))))))) rfl ?_
  exact go_end rfl rfl
set_option maxRecDepth 100000 in
theorem vc_variable_5 {X : ie_X} {d : Nat} {h : ie_H} {p1 p2 nl cf cw : Int32} {pl : Nat} (c0 : h[0]? = some (.inr (0, [.ref 1, .int nl, .int cf, .int cw, .ref pl, .ref 2, .ref 133]))) (q1 : ¬ (p1 < 0)) (q2 : ¬ (6 ≤ p1)) (q3 : ¬ (p2 < 0)) (q4 : ¬ (p2 < 4)) : Go X (d + 3) 116 (0, ie_en 116 [.ref 0, .int p1, .int p2, .ref 177], [], h) (.inl (some (.int 1))) (h ++ [.inr (14, [])]) := by
  refine go_run 0 (F' := (0, [some (.ref 0), some (.int p1), some (.int p2), some (.ref 177), none], [], h)) rfl ?_
  refine go_run 5 (F' := (5, [some (.ref 0), some (.int p1), some (.int p2), some (.ref 177), none], [.int p2, .int p1, .ref 0, .int 0, .ref 177], h)) rfl ?_
  refine go_catch (m' := 117) (ci := 14) (h1 := (h ++ [.inr (14, [])])) rfl (by simp only [ie_step, ie_iv, List.drop, c0, if_true]; rfl) ⟨rfl, Nat.le_of_ble_eq_true rfl⟩ rfl rfl rfl ?_ ?_
  · refine go_run 0 (F' := (0, [some (.ref 0), some (.int p1), some (.int p2)], [], h)) rfl ?_
    refine go_run 2 (F' := (2, [some (.ref 0), some (.int p1), some (.int p2)], [.int p2, .int p1], h)) rfl ?_
    refine go_out (m' := 86) rfl rfl ⟨rfl, Nat.le_of_ble_eq_true rfl⟩ rfl rfl ?_
    · refine go_run 0 (F' := (0, [some (.int p1), some (.int p2)], [], h)) rfl ?_
      refine go_run 1 (F' := (1, [some (.int p1), some (.int p2)], [.int p1], h)) rfl ?_
      refine go_call (m' := 33) (v := some (.int 1)) (h1 := h) rfl rfl ⟨rfl, Nat.le_of_ble_eq_true rfl⟩ ?_ ?_
      · refine go_run 0 (F' := (0, [some (.int p1)], [], h)) rfl ?_
        refine go_run 1 (F' := (1, [some (.int p1)], [.int p1], h)) rfl ?_
        refine go_step rfl rfl ?_
        rw [if_neg q1]
        refine go_run 0 (F' := (4, [some (.int p1)], [], h)) rfl ?_
        refine go_run 2 (F' := (7, [some (.int p1)], [.int 6, .int p1], h)) rfl ?_
        refine go_step rfl rfl ?_
        rw [if_neg q2]
        refine go_run 0 (F' := (10, [some (.int p1)], [], h)) rfl ?_
        refine go_run 2 (F' := (15, [some (.int p1)], [.int 1], h)) rfl ?_
        exact go_end rfl rfl
      refine go_run 0 (F' := (4, [some (.int p1), some (.int p2)], [.int 1], h)) rfl ?_
      refine go_run 2 (F' := (8, [some (.int p1), some (.int p2)], [.int p2], h)) rfl ?_
      refine go_step rfl rfl ?_
      rw [if_neg q3]
      refine go_run 0 (F' := (11, [some (.int p1), some (.int p2)], [], h)) rfl ?_
      refine go_run 2 (F' := (13, [some (.int p1), some (.int p2)], [.int 4, .int p2], h)) rfl ?_
      refine go_step rfl rfl ?_
      rw [if_neg q4]
      refine go_run 0 (F' := (16, [some (.int p1), some (.int p2)], [], h)) rfl ?_
      exact go_end rfl rfl
  refine go_run 0 (F' := (15, [some (.ref 0), some (.int p1), some (.int p2), some (.ref 177), none], [], (h ++ [.inr (14, [])]))) rfl ?_
  refine go_run 1 (F' := (16, [some (.ref 0), some (.int p1), some (.int p2), some (.ref 177), none], [.int 1], (h ++ [.inr (14, [])]))) rfl ?_
  exact go_end rfl rfl
set_option maxRecDepth 100000 in
theorem vm_variable_1 {X : ie_X} {d : Nat} {h : ie_H} {p1 p2 t_ ty fa wh ch it at_ bad co de st sz tp am bm mn rm sp be wo : Int32} (c134 : h[134]? = some (mo t_ ty fa wh ch it at_ bad co de 1 st sz tp am bm mn rm sp be wo)) (q1 : p1 < 0) : Go X (d + 1) 211 (0, ie_en 211 [.ref 134, .int p1, .int p2], [], h) (.inl (some (.int 0))) (List.set h 134 (mo 1 ty fa wh ch it at_ bad co de 1 st sz tp am bm mn rm sp be wo)) := by
  refine go_run 0 (F' := (0, [some (.ref 134), some (.int p1), some (.int p2)], [], h)) rfl ?_
  refine go_run 2 (F' := (2, [some (.ref 134), some (.int p1), some (.int p2)], [.int p1, .ref 134], h)) rfl ?_
  refine go_call (m' := 183) (v := some (.int 1)) (h1 := h) rfl rfl ⟨rfl, Nat.le_of_ble_eq_true rfl⟩ ?_ ?_
  · refine go_run 0 (F' := (0, [some (.int p1)], [], h)) rfl ?_
    refine go_run 1 (F' := (1, [some (.int p1)], [.int p1], h)) rfl ?_
    refine go_step rfl rfl ?_
    rw [if_pos q1]
    refine go_run 0 (F' := (9, [some (.int p1)], [], h)) rfl ?_
    refine go_run 2 (F' := (14, [some (.int p1)], [.int 1], h)) rfl ?_
    exact go_end rfl rfl
  refine go_run 0 (F' := (5, [some (.ref 134), some (.int p1), some (.int p2)], [.int 1, .ref 134], h)) rfl ?_
  refine go_run 3 (F' := (20, [some (.ref 134), some (.int p1), some (.int p2)], [.int 1, .ref 134], h)) rfl ?_
  refine go_pf rfl c134 (Nat.le_of_ble_eq_true rfl) rfl rfl ?_
  refine go_run 0 (F' := (23, [some (.ref 134), some (.int p1), some (.int p2)], [], (List.set h 134 (mo 1 ty fa wh ch it at_ bad co de 1 st sz tp am bm mn rm sp be wo)))) rfl ?_
  refine go_run 1 (F' := (24, [some (.ref 134), some (.int p1), some (.int p2)], [.ref 134], (List.set h 134 (mo 1 ty fa wh ch it at_ bad co de 1 st sz tp am bm mn rm sp be wo)))) rfl ?_
  refine go_gf rfl (gs_self c134) rfl ?_
  refine go_run 0 (F' := (27, [some (.ref 134), some (.int p1), some (.int p2)], [.int 1], (List.set h 134 (mo 1 ty fa wh ch it at_ bad co de 1 st sz tp am bm mn rm sp be wo)))) rfl ?_
  refine go_run 2 (F' := (44, [some (.ref 134), some (.int p1), some (.int p2)], [.int 0], (List.set h 134 (mo 1 ty fa wh ch it at_ bad co de 1 st sz tp am bm mn rm sp be wo)))) rfl ?_
  exact go_end rfl rfl
set_option maxRecDepth 100000 in
theorem vm_variable_2 {X : ie_X} {d : Nat} {h : ie_H} {p1 p2 t_ ty fa wh ch it at_ bad co de st sz tp am bm mn rm sp be wo : Int32} (c134 : h[134]? = some (mo t_ ty fa wh ch it at_ bad co de 1 st sz tp am bm mn rm sp be wo)) (q1 : ¬ (p1 < 0)) (q2 : ¬ (p1 ≤ 5)) : Go X (d + 1) 211 (0, ie_en 211 [.ref 134, .int p1, .int p2], [], h) (.inl (some (.int 0))) (List.set h 134 (mo 1 ty fa wh ch it at_ bad co de 1 st sz tp am bm mn rm sp be wo)) := by
  refine go_run 0 (F' := (0, [some (.ref 134), some (.int p1), some (.int p2)], [], h)) rfl ?_
  refine go_run 2 (F' := (2, [some (.ref 134), some (.int p1), some (.int p2)], [.int p1, .ref 134], h)) rfl ?_
  refine go_call (m' := 183) (v := some (.int 1)) (h1 := h) rfl rfl ⟨rfl, Nat.le_of_ble_eq_true rfl⟩ ?_ ?_
  · refine go_run 0 (F' := (0, [some (.int p1)], [], h)) rfl ?_
    refine go_run 1 (F' := (1, [some (.int p1)], [.int p1], h)) rfl ?_
    refine go_step rfl rfl ?_
    rw [if_neg q1]
    refine go_run 0 (F' := (4, [some (.int p1)], [], h)) rfl ?_
    refine go_run 2 (F' := (6, [some (.int p1)], [.int 5, .int p1], h)) rfl ?_
    refine go_step rfl rfl ?_
    rw [if_neg q2]
    refine go_run 0 (F' := (9, [some (.int p1)], [], h)) rfl ?_
    refine go_run 2 (F' := (14, [some (.int p1)], [.int 1], h)) rfl ?_
    exact go_end rfl rfl
  refine go_run 0 (F' := (5, [some (.ref 134), some (.int p1), some (.int p2)], [.int 1, .ref 134], h)) rfl ?_
  refine go_run 3 (F' := (20, [some (.ref 134), some (.int p1), some (.int p2)], [.int 1, .ref 134], h)) rfl ?_
  refine go_pf rfl c134 (Nat.le_of_ble_eq_true rfl) rfl rfl ?_
  refine go_run 0 (F' := (23, [some (.ref 134), some (.int p1), some (.int p2)], [], (List.set h 134 (mo 1 ty fa wh ch it at_ bad co de 1 st sz tp am bm mn rm sp be wo)))) rfl ?_
  refine go_run 1 (F' := (24, [some (.ref 134), some (.int p1), some (.int p2)], [.ref 134], (List.set h 134 (mo 1 ty fa wh ch it at_ bad co de 1 st sz tp am bm mn rm sp be wo)))) rfl ?_
  refine go_gf rfl (gs_self c134) rfl ?_
  refine go_run 0 (F' := (27, [some (.ref 134), some (.int p1), some (.int p2)], [.int 1], (List.set h 134 (mo 1 ty fa wh ch it at_ bad co de 1 st sz tp am bm mn rm sp be wo)))) rfl ?_
  refine go_run 2 (F' := (44, [some (.ref 134), some (.int p1), some (.int p2)], [.int 0], (List.set h 134 (mo 1 ty fa wh ch it at_ bad co de 1 st sz tp am bm mn rm sp be wo)))) rfl ?_
  exact go_end rfl rfl
set_option maxRecDepth 100000 in
theorem vm_variable_3 {X : ie_X} {d : Nat} {h : ie_H} {p1 p2 t_ ty fa wh ch it at_ bad co de st sz tp am bm mn rm sp be wo : Int32} (c134 : h[134]? = some (mo t_ ty fa wh ch it at_ bad co de 1 st sz tp am bm mn rm sp be wo)) (q1 : ¬ (p1 < 0)) (q2 : p1 ≤ 5) (q3 : p2 < 0) : Go X (d + 1) 211 (0, ie_en 211 [.ref 134, .int p1, .int p2], [], h) (.inl (some (.int 0))) (List.set h 134 (mo 1 ty fa wh ch it at_ bad co de 1 st sz tp am bm mn rm sp be wo)) := by
  refine go_run 0 (F' := (0, [some (.ref 134), some (.int p1), some (.int p2)], [], h)) rfl ?_
  refine go_run 2 (F' := (2, [some (.ref 134), some (.int p1), some (.int p2)], [.int p1, .ref 134], h)) rfl ?_
  refine go_call (m' := 183) (v := some (.int 0)) (h1 := h) rfl rfl ⟨rfl, Nat.le_of_ble_eq_true rfl⟩ ?_ ?_
  · refine go_run 0 (F' := (0, [some (.int p1)], [], h)) rfl ?_
    refine go_run 1 (F' := (1, [some (.int p1)], [.int p1], h)) rfl ?_
    refine go_step rfl rfl ?_
    rw [if_neg q1]
    refine go_run 0 (F' := (4, [some (.int p1)], [], h)) rfl ?_
    refine go_run 2 (F' := (6, [some (.int p1)], [.int 5, .int p1], h)) rfl ?_
    refine go_step rfl rfl ?_
    rw [if_pos q2]
    refine go_run 0 (F' := (13, [some (.int p1)], [], h)) rfl ?_
    refine go_run 1 (F' := (14, [some (.int p1)], [.int 0], h)) rfl ?_
    exact go_end rfl rfl
  refine go_run 0 (F' := (5, [some (.ref 134), some (.int p1), some (.int p2)], [.int 0, .ref 134], h)) rfl ?_
  refine go_run 2 (F' := (9, [some (.ref 134), some (.int p1), some (.int p2)], [.int p2, .ref 134], h)) rfl ?_
  refine go_call (m' := 186) (v := some (.int 1)) (h1 := h) rfl rfl ⟨rfl, Nat.le_of_ble_eq_true rfl⟩ ?_ ?_
  · refine go_run 0 (F' := (0, [some (.int p2)], [], h)) rfl ?_
    refine go_run 1 (F' := (1, [some (.int p2)], [.int p2], h)) rfl ?_
    refine go_step rfl rfl ?_
    rw [if_pos q3]
    refine go_run 0 (F' := (9, [some (.int p2)], [], h)) rfl ?_
    refine go_run 2 (F' := (14, [some (.int p2)], [.int 1], h)) rfl ?_
    exact go_end rfl rfl
  refine go_run 0 (F' := (12, [some (.ref 134), some (.int p1), some (.int p2)], [.int 1, .ref 134], h)) rfl ?_
  refine go_run 3 (F' := (20, [some (.ref 134), some (.int p1), some (.int p2)], [.int 1, .ref 134], h)) rfl ?_
  refine go_pf rfl c134 (Nat.le_of_ble_eq_true rfl) rfl rfl ?_
  refine go_run 0 (F' := (23, [some (.ref 134), some (.int p1), some (.int p2)], [], (List.set h 134 (mo 1 ty fa wh ch it at_ bad co de 1 st sz tp am bm mn rm sp be wo)))) rfl ?_
  refine go_run 1 (F' := (24, [some (.ref 134), some (.int p1), some (.int p2)], [.ref 134], (List.set h 134 (mo 1 ty fa wh ch it at_ bad co de 1 st sz tp am bm mn rm sp be wo)))) rfl ?_
  refine go_gf rfl (gs_self c134) rfl ?_
  refine go_run 0 (F' := (27, [some (.ref 134), some (.int p1), some (.int p2)], [.int 1], (List.set h 134 (mo 1 ty fa wh ch it at_ bad co de 1 st sz tp am bm mn rm sp be wo)))) rfl ?_
  refine go_run 2 (F' := (44, [some (.ref 134), some (.int p1), some (.int p2)], [.int 0], (List.set h 134 (mo 1 ty fa wh ch it at_ bad co de 1 st sz tp am bm mn rm sp be wo)))) rfl ?_
  exact go_end rfl rfl
set_option maxRecDepth 100000 in
theorem vm_variable_4 {X : ie_X} {d : Nat} {h : ie_H} {p1 p2 t_ ty fa wh ch it at_ bad co de st sz tp am bm mn rm sp be wo : Int32} {f168 : Nat → Int32} (c134 : h[134]? = some (mo t_ ty fa wh ch it at_ bad co de 1 st sz tp am bm mn rm sp be wo)) (c168 : h[168]? = some (.inl (0, 24, .inl f168))) (q1 : ¬ (p1 < 0)) (q2 : p1 ≤ 5) (q3 : ¬ (p2 < 0)) (q4 : p2 ≤ 3) (b_4 : 0 ≤ Int32.toInt ((4 * p1) + p2) ∧ Int32.toInt ((4 * p1) + p2) < (24 : Int)) : Go X (d + 1) 211 (0, ie_en 211 [.ref 134, .int p1, .int p2], [], h) (.inl (some (.int (f168 (Int32.toNatClampNeg ((4 * p1) + p2)))))) (List.set h 134 (mo 0 ty fa wh ch it at_ bad co de 1 st sz tp am bm mn rm sp be wo)) := by
  refine go_run 0 (F' := (0, [some (.ref 134), some (.int p1), some (.int p2)], [], h)) rfl ?_
  refine go_run 2 (F' := (2, [some (.ref 134), some (.int p1), some (.int p2)], [.int p1, .ref 134], h)) rfl ?_
  refine go_call (m' := 183) (v := some (.int 0)) (h1 := h) rfl rfl ⟨rfl, Nat.le_of_ble_eq_true rfl⟩ ?_ ?_
  · refine go_run 0 (F' := (0, [some (.int p1)], [], h)) rfl ?_
    refine go_run 1 (F' := (1, [some (.int p1)], [.int p1], h)) rfl ?_
    refine go_step rfl rfl ?_
    rw [if_neg q1]
    refine go_run 0 (F' := (4, [some (.int p1)], [], h)) rfl ?_
    refine go_run 2 (F' := (6, [some (.int p1)], [.int 5, .int p1], h)) rfl ?_
    refine go_step rfl rfl ?_
    rw [if_pos q2]
    refine go_run 0 (F' := (13, [some (.int p1)], [], h)) rfl ?_
    refine go_run 1 (F' := (14, [some (.int p1)], [.int 0], h)) rfl ?_
    exact go_end rfl rfl
  refine go_run 0 (F' := (5, [some (.ref 134), some (.int p1), some (.int p2)], [.int 0, .ref 134], h)) rfl ?_
  refine go_run 2 (F' := (9, [some (.ref 134), some (.int p1), some (.int p2)], [.int p2, .ref 134], h)) rfl ?_
  refine go_call (m' := 186) (v := some (.int 0)) (h1 := h) rfl rfl ⟨rfl, Nat.le_of_ble_eq_true rfl⟩ ?_ ?_
  · refine go_run 0 (F' := (0, [some (.int p2)], [], h)) rfl ?_
    refine go_run 1 (F' := (1, [some (.int p2)], [.int p2], h)) rfl ?_
    refine go_step rfl rfl ?_
    rw [if_neg q3]
    refine go_run 0 (F' := (4, [some (.int p2)], [], h)) rfl ?_
    refine go_run 2 (F' := (6, [some (.int p2)], [.int 3, .int p2], h)) rfl ?_
    refine go_step rfl rfl ?_
    rw [if_pos q4]
    refine go_run 0 (F' := (13, [some (.int p2)], [], h)) rfl ?_
    refine go_run 1 (F' := (14, [some (.int p2)], [.int 0], h)) rfl ?_
    exact go_end rfl rfl
  refine go_run 0 (F' := (12, [some (.ref 134), some (.int p1), some (.int p2)], [.int 0, .ref 134], h)) rfl ?_
  refine go_run 2 (F' := (20, [some (.ref 134), some (.int p1), some (.int p2)], [.int 0, .ref 134], h)) rfl ?_
  refine go_pf rfl c134 (Nat.le_of_ble_eq_true rfl) rfl rfl ?_
  refine go_run 0 (F' := (23, [some (.ref 134), some (.int p1), some (.int p2)], [], (List.set h 134 (mo 0 ty fa wh ch it at_ bad co de 1 st sz tp am bm mn rm sp be wo)))) rfl ?_
  refine go_run 1 (F' := (24, [some (.ref 134), some (.int p1), some (.int p2)], [.ref 134], (List.set h 134 (mo 0 ty fa wh ch it at_ bad co de 1 st sz tp am bm mn rm sp be wo)))) rfl ?_
  refine go_gf rfl (gs_self c134) rfl ?_
  refine go_run 0 (F' := (27, [some (.ref 134), some (.int p1), some (.int p2)], [.int 0], (List.set h 134 (mo 0 ty fa wh ch it at_ bad co de 1 st sz tp am bm mn rm sp be wo)))) rfl ?_
  refine go_run 2 (F' := (31, [some (.ref 134), some (.int p1), some (.int p2)], [.ref 134], (List.set h 134 (mo 0 ty fa wh ch it at_ bad co de 1 st sz tp am bm mn rm sp be wo)))) rfl ?_
  refine go_gf rfl (gs_self c134) rfl ?_
  refine go_run 0 (F' := (34, [some (.ref 134), some (.int p1), some (.int p2)], [.ref 168], (List.set h 134 (mo 0 ty fa wh ch it at_ bad co de 1 st sz tp am bm mn rm sp be wo)))) rfl ?_
  refine go_run 5 (F' := (39, [some (.ref 134), some (.int p1), some (.int p2)], [.int ((4 * p1) + p2), .ref 168], (List.set h 134 (mo 0 ty fa wh ch it at_ bad co de 1 st sz tp am bm mn rm sp be wo)))) rfl ?_
  refine go_iald rfl (by decide) (gs_ne (by decide) c168) b_4 rfl ?_
  refine go_run 0 (F' := (40, [some (.ref 134), some (.int p1), some (.int p2)], [.int (f168 (Int32.toNatClampNeg ((4 * p1) + p2)))], (List.set h 134 (mo 0 ty fa wh ch it at_ bad co de 1 st sz tp am bm mn rm sp be wo)))) rfl ?_
  refine go_run 1 (F' := (44, [some (.ref 134), some (.int p1), some (.int p2)], [.int (f168 (Int32.toNatClampNeg ((4 * p1) + p2)))], (List.set h 134 (mo 0 ty fa wh ch it at_ bad co de 1 st sz tp am bm mn rm sp be wo)))) rfl ?_
  exact go_end rfl rfl
set_option maxRecDepth 100000 in
theorem vm_variable_5 {X : ie_X} {d : Nat} {h : ie_H} {p1 p2 t_ ty fa wh ch it at_ bad co de st sz tp am bm mn rm sp be wo : Int32} (c134 : h[134]? = some (mo t_ ty fa wh ch it at_ bad co de 1 st sz tp am bm mn rm sp be wo)) (q1 : ¬ (p1 < 0)) (q2 : p1 ≤ 5) (q3 : ¬ (p2 < 0)) (q4 : ¬ (p2 ≤ 3)) : Go X (d + 1) 211 (0, ie_en 211 [.ref 134, .int p1, .int p2], [], h) (.inl (some (.int 0))) (List.set h 134 (mo 1 ty fa wh ch it at_ bad co de 1 st sz tp am bm mn rm sp be wo)) := by
  refine go_run 0 (F' := (0, [some (.ref 134), some (.int p1), some (.int p2)], [], h)) rfl ?_
  refine go_run 2 (F' := (2, [some (.ref 134), some (.int p1), some (.int p2)], [.int p1, .ref 134], h)) rfl ?_
  refine go_call (m' := 183) (v := some (.int 0)) (h1 := h) rfl rfl ⟨rfl, Nat.le_of_ble_eq_true rfl⟩ ?_ ?_
  · refine go_run 0 (F' := (0, [some (.int p1)], [], h)) rfl ?_
    refine go_run 1 (F' := (1, [some (.int p1)], [.int p1], h)) rfl ?_
    refine go_step rfl rfl ?_
    rw [if_neg q1]
    refine go_run 0 (F' := (4, [some (.int p1)], [], h)) rfl ?_
    refine go_run 2 (F' := (6, [some (.int p1)], [.int 5, .int p1], h)) rfl ?_
    refine go_step rfl rfl ?_
    rw [if_pos q2]
    refine go_run 0 (F' := (13, [some (.int p1)], [], h)) rfl ?_
    refine go_run 1 (F' := (14, [some (.int p1)], [.int 0], h)) rfl ?_
    exact go_end rfl rfl
  refine go_run 0 (F' := (5, [some (.ref 134), some (.int p1), some (.int p2)], [.int 0, .ref 134], h)) rfl ?_
  refine go_run 2 (F' := (9, [some (.ref 134), some (.int p1), some (.int p2)], [.int p2, .ref 134], h)) rfl ?_
  refine go_call (m' := 186) (v := some (.int 1)) (h1 := h) rfl rfl ⟨rfl, Nat.le_of_ble_eq_true rfl⟩ ?_ ?_
  · refine go_run 0 (F' := (0, [some (.int p2)], [], h)) rfl ?_
    refine go_run 1 (F' := (1, [some (.int p2)], [.int p2], h)) rfl ?_
    refine go_step rfl rfl ?_
    rw [if_neg q3]
    refine go_run 0 (F' := (4, [some (.int p2)], [], h)) rfl ?_
    refine go_run 2 (F' := (6, [some (.int p2)], [.int 3, .int p2], h)) rfl ?_
    refine go_step rfl rfl ?_
    rw [if_neg q4]
    refine go_run 0 (F' := (9, [some (.int p2)], [], h)) rfl ?_
    refine go_run 2 (F' := (14, [some (.int p2)], [.int 1], h)) rfl ?_
    exact go_end rfl rfl
  refine go_run 0 (F' := (12, [some (.ref 134), some (.int p1), some (.int p2)], [.int 1, .ref 134], h)) rfl ?_
  refine go_run 3 (F' := (20, [some (.ref 134), some (.int p1), some (.int p2)], [.int 1, .ref 134], h)) rfl ?_
  refine go_pf rfl c134 (Nat.le_of_ble_eq_true rfl) rfl rfl ?_
  refine go_run 0 (F' := (23, [some (.ref 134), some (.int p1), some (.int p2)], [], (List.set h 134 (mo 1 ty fa wh ch it at_ bad co de 1 st sz tp am bm mn rm sp be wo)))) rfl ?_
  refine go_run 1 (F' := (24, [some (.ref 134), some (.int p1), some (.int p2)], [.ref 134], (List.set h 134 (mo 1 ty fa wh ch it at_ bad co de 1 st sz tp am bm mn rm sp be wo)))) rfl ?_
  refine go_gf rfl (gs_self c134) rfl ?_
  refine go_run 0 (F' := (27, [some (.ref 134), some (.int p1), some (.int p2)], [.int 1], (List.set h 134 (mo 1 ty fa wh ch it at_ bad co de 1 st sz tp am bm mn rm sp be wo)))) rfl ?_
  refine go_run 2 (F' := (44, [some (.ref 134), some (.int p1), some (.int p2)], [.int 0], (List.set h 134 (mo 1 ty fa wh ch it at_ bad co de 1 st sz tp am bm mn rm sp be wo)))) rfl ?_
  exact go_end rfl rfl
set_option maxRecDepth 100000 in
theorem vc_queue_1 {X : ie_X} {d : Nat} {h : ie_H} {p1 p2 nl cf cw : Int32} {pl : Nat} (c0 : h[0]? = some (.inr (0, [.ref 1, .int nl, .int cf, .int cw, .ref pl, .ref 2, .ref 133]))) (q1 : p1 < 0) : Go X (d + 3) 118 (0, ie_en 118 [.ref 0, .int p1, .int p2, .ref 177], [], h) (.inl (some (.int 1))) (h ++ [.inr (14, [])]) := by
  refine go_run 0 (F' := (0, [some (.ref 0), some (.int p1), some (.int p2), some (.ref 177), none], [], h)) rfl ?_
  refine go_run 5 (F' := (5, [some (.ref 0), some (.int p1), some (.int p2), some (.ref 177), none], [.int p2, .int p1, .ref 0, .int 0, .ref 177], h)) rfl ?_
  refine go_catch (m' := 119) (ci := 14) (h1 := (h ++ [.inr (14, [])])) rfl (by simp only [ie_step, ie_iv, List.drop, c0, if_true]; rfl) ⟨rfl, Nat.le_of_ble_eq_true rfl⟩ rfl rfl rfl ?_ ?_
  · refine go_run 0 (F' := (0, [some (.ref 0), some (.int p1), some (.int p2)], [], h)) rfl ?_
    refine go_run 2 (F' := (2, [some (.ref 0), some (.int p1), some (.int p2)], [.int p2, .int p1], h)) rfl ?_
    refine go_out (m' := 120) rfl rfl ⟨rfl, Nat.le_of_ble_eq_true rfl⟩ rfl rfl ?_
    · refine go_run 0 (F' := (0, [some (.int p1), some (.int p2)], [], h)) rfl ?_
      refine go_run 1 (F' := (1, [some (.int p1), some (.int p2)], [.int p1], h)) rfl ?_
      refine go_call (m' := 33) (v := some (.int 0)) (h1 := h) rfl rfl ⟨rfl, Nat.le_of_ble_eq_true rfl⟩ ?_ ?_
      · refine go_run 0 (F' := (0, [some (.int p1)], [], h)) rfl ?_
        refine go_run 1 (F' := (1, [some (.int p1)], [.int p1], h)) rfl ?_
        refine go_step rfl rfl ?_
        rw [if_pos q1]
        refine go_run 0 (F' := (14, [some (.int p1)], [], h)) rfl ?_
        refine go_run 1 (F' := (15, [some (.int p1)], [.int 0], h)) rfl ?_
        exact go_end rfl rfl
      refine go_run 0 (F' := (4, [some (.int p1), some (.int p2)], [.int 0], h)) rfl ?_
      refine go_run 1 (F' := (19, [some (.int p1), some (.int p2)], [], h)) rfl ?_
      exact go_end rfl rfl
  refine go_run 0 (F' := (15, [some (.ref 0), some (.int p1), some (.int p2), some (.ref 177), none], [], (h ++ [.inr (14, [])]))) rfl ?_
  refine go_run 1 (F' := (16, [some (.ref 0), some (.int p1), some (.int p2), some (.ref 177), none], [.int 1], (h ++ [.inr (14, [])]))) rfl ?_
  exact go_end rfl rfl
set_option maxRecDepth 100000 in
theorem vc_queue_2 {X : ie_X} {d : Nat} {h : ie_H} {p1 p2 nl cf cw : Int32} {pl : Nat} (c0 : h[0]? = some (.inr (0, [.ref 1, .int nl, .int cf, .int cw, .ref pl, .ref 2, .ref 133]))) (q1 : ¬ (p1 < 0)) (q2 : 6 ≤ p1) : Go X (d + 3) 118 (0, ie_en 118 [.ref 0, .int p1, .int p2, .ref 177], [], h) (.inl (some (.int 1))) (h ++ [.inr (14, [])]) := by
  refine go_run 0 (F' := (0, [some (.ref 0), some (.int p1), some (.int p2), some (.ref 177), none], [], h)) rfl ?_
  refine go_run 5 (F' := (5, [some (.ref 0), some (.int p1), some (.int p2), some (.ref 177), none], [.int p2, .int p1, .ref 0, .int 0, .ref 177], h)) rfl ?_
  refine go_catch (m' := 119) (ci := 14) (h1 := (h ++ [.inr (14, [])])) rfl (by simp only [ie_step, ie_iv, List.drop, c0, if_true]; rfl) ⟨rfl, Nat.le_of_ble_eq_true rfl⟩ rfl rfl rfl ?_ ?_
  · refine go_run 0 (F' := (0, [some (.ref 0), some (.int p1), some (.int p2)], [], h)) rfl ?_
    refine go_run 2 (F' := (2, [some (.ref 0), some (.int p1), some (.int p2)], [.int p2, .int p1], h)) rfl ?_
    refine go_out (m' := 120) rfl rfl ⟨rfl, Nat.le_of_ble_eq_true rfl⟩ rfl rfl ?_
    · refine go_run 0 (F' := (0, [some (.int p1), some (.int p2)], [], h)) rfl ?_
      refine go_run 1 (F' := (1, [some (.int p1), some (.int p2)], [.int p1], h)) rfl ?_
      refine go_call (m' := 33) (v := some (.int 0)) (h1 := h) rfl rfl ⟨rfl, Nat.le_of_ble_eq_true rfl⟩ ?_ ?_
      · refine go_run 0 (F' := (0, [some (.int p1)], [], h)) rfl ?_
        refine go_run 1 (F' := (1, [some (.int p1)], [.int p1], h)) rfl ?_
        refine go_step rfl rfl ?_
        rw [if_neg q1]
        refine go_run 0 (F' := (4, [some (.int p1)], [], h)) rfl ?_
        refine go_run 2 (F' := (7, [some (.int p1)], [.int 6, .int p1], h)) rfl ?_
        refine go_step rfl rfl ?_
        rw [if_pos q2]
        refine go_run 0 (F' := (14, [some (.int p1)], [], h)) rfl ?_
        refine go_run 1 (F' := (15, [some (.int p1)], [.int 0], h)) rfl ?_
        exact go_end rfl rfl
      refine go_run 0 (F' := (4, [some (.int p1), some (.int p2)], [.int 0], h)) rfl ?_
      refine go_run 1 (F' := (19, [some (.int p1), some (.int p2)], [], h)) rfl ?_
      exact go_end rfl rfl
  refine go_run 0 (F' := (15, [some (.ref 0), some (.int p1), some (.int p2), some (.ref 177), none], [], (h ++ [.inr (14, [])]))) rfl ?_
  refine go_run 1 (F' := (16, [some (.ref 0), some (.int p1), some (.int p2), some (.ref 177), none], [.int 1], (h ++ [.inr (14, [])]))) rfl ?_
  exact go_end rfl rfl
set_option maxRecDepth 100000 in
theorem vc_queue_3 {X : ie_X} {d : Nat} {h : ie_H} {p1 p2 nl cf cw : Int32} {pl : Nat} (c0 : h[0]? = some (.inr (0, [.ref 1, .int nl, .int cf, .int cw, .ref pl, .ref 2, .ref 133]))) (q1 : ¬ (p1 < 0)) (q2 : ¬ (6 ≤ p1)) (q3 : p2 < 0) : Go X (d + 3) 118 (0, ie_en 118 [.ref 0, .int p1, .int p2, .ref 177], [], h) (.inl (some (.int 1))) (h ++ [.inr (14, [])]) := by
  refine go_run 0 (F' := (0, [some (.ref 0), some (.int p1), some (.int p2), some (.ref 177), none], [], h)) rfl ?_
  refine go_run 5 (F' := (5, [some (.ref 0), some (.int p1), some (.int p2), some (.ref 177), none], [.int p2, .int p1, .ref 0, .int 0, .ref 177], h)) rfl ?_
  refine go_catch (m' := 119) (ci := 14) (h1 := (h ++ [.inr (14, [])])) rfl (by simp only [ie_step, ie_iv, List.drop, c0, if_true]; rfl) ⟨rfl, Nat.le_of_ble_eq_true rfl⟩ rfl rfl rfl ?_ ?_
  · refine go_run 0 (F' := (0, [some (.ref 0), some (.int p1), some (.int p2)], [], h)) rfl ?_
    refine go_run 2 (F' := (2, [some (.ref 0), some (.int p1), some (.int p2)], [.int p2, .int p1], h)) rfl ?_
    refine go_out (m' := 120) rfl rfl ⟨rfl, Nat.le_of_ble_eq_true rfl⟩ rfl rfl ?_
    · refine go_run 0 (F' := (0, [some (.int p1), some (.int p2)], [], h)) rfl ?_
      refine go_run 1 (F' := (1, [some (.int p1), some (.int p2)], [.int p1], h)) rfl ?_
      refine go_call (m' := 33) (v := some (.int 1)) (h1 := h) rfl rfl ⟨rfl, Nat.le_of_ble_eq_true rfl⟩ ?_ ?_
      · refine go_run 0 (F' := (0, [some (.int p1)], [], h)) rfl ?_
        refine go_run 1 (F' := (1, [some (.int p1)], [.int p1], h)) rfl ?_
        refine go_step rfl rfl ?_
        rw [if_neg q1]
        refine go_run 0 (F' := (4, [some (.int p1)], [], h)) rfl ?_
        refine go_run 2 (F' := (7, [some (.int p1)], [.int 6, .int p1], h)) rfl ?_
        refine go_step rfl rfl ?_
        rw [if_neg q2]
        refine go_run 0 (F' := (10, [some (.int p1)], [], h)) rfl ?_
        refine go_run 2 (F' := (15, [some (.int p1)], [.int 1], h)) rfl ?_
        exact go_end rfl rfl
      refine go_run 0 (F' := (4, [some (.int p1), some (.int p2)], [.int 1], h)) rfl ?_
      refine go_run 2 (F' := (8, [some (.int p1), some (.int p2)], [.int p2], h)) rfl ?_
      refine go_call (m' := 33) (v := some (.int 0)) (h1 := h) rfl rfl ⟨rfl, Nat.le_of_ble_eq_true rfl⟩ ?_ ?_
      · refine go_run 0 (F' := (0, [some (.int p2)], [], h)) rfl ?_
        refine go_run 1 (F' := (1, [some (.int p2)], [.int p2], h)) rfl ?_
        refine go_step rfl rfl ?_
        rw [if_pos q3]
        refine go_run 0 (F' := (14, [some (.int p2)], [], h)) rfl ?_
        refine go_run 1 (F' := (15, [some (.int p2)], [.int 0], h)) rfl ?_
        exact go_end rfl rfl
      refine go_run 0 (F' := (11, [some (.int p1), some (.int p2)], [.int 0], h)) rfl ?_
      refine go_run 1 (F' := (19, [some (.int p1), some (.int p2)], [], h)) rfl ?_
      exact go_end rfl rfl
  refine go_run 0 (F' := (15, [some (.ref 0), some (.int p1), some (.int p2), some (.ref 177), none], [], (h ++ [.inr (14, [])]))) rfl ?_
  refine go_run 1 (F' := (16, [some (.ref 0), some (.int p1), some (.int p2), some (.ref 177), none], [.int 1], (h ++ [.inr (14, [])]))) rfl ?_
  exact go_end rfl rfl
set_option maxRecDepth 100000 in
theorem vc_queue_4 {X : ie_X} {d : Nat} {h : ie_H} {p1 p2 nl cf cw : Int32} {pl : Nat} (c0 : h[0]? = some (.inr (0, [.ref 1, .int nl, .int cf, .int cw, .ref pl, .ref 2, .ref 133]))) (q1 : ¬ (p1 < 0)) (q2 : ¬ (6 ≤ p1)) (q3 : ¬ (p2 < 0)) (q4 : 6 ≤ p2) : Go X (d + 3) 118 (0, ie_en 118 [.ref 0, .int p1, .int p2, .ref 177], [], h) (.inl (some (.int 1))) (h ++ [.inr (14, [])]) := by
  refine go_run 0 (F' := (0, [some (.ref 0), some (.int p1), some (.int p2), some (.ref 177), none], [], h)) rfl ?_
  refine go_run 5 (F' := (5, [some (.ref 0), some (.int p1), some (.int p2), some (.ref 177), none], [.int p2, .int p1, .ref 0, .int 0, .ref 177], h)) rfl ?_
  refine go_catch (m' := 119) (ci := 14) (h1 := (h ++ [.inr (14, [])])) rfl (by simp only [ie_step, ie_iv, List.drop, c0, if_true]; rfl) ⟨rfl, Nat.le_of_ble_eq_true rfl⟩ rfl rfl rfl ?_ ?_
  · refine go_run 0 (F' := (0, [some (.ref 0), some (.int p1), some (.int p2)], [], h)) rfl ?_
    refine go_run 2 (F' := (2, [some (.ref 0), some (.int p1), some (.int p2)], [.int p2, .int p1], h)) rfl ?_
    refine go_out (m' := 120) rfl rfl ⟨rfl, Nat.le_of_ble_eq_true rfl⟩ rfl rfl ?_
    · refine go_run 0 (F' := (0, [some (.int p1), some (.int p2)], [], h)) rfl ?_
      refine go_run 1 (F' := (1, [some (.int p1), some (.int p2)], [.int p1], h)) rfl ?_
      refine go_call (m' := 33) (v := some (.int 1)) (h1 := h) rfl rfl ⟨rfl, Nat.le_of_ble_eq_true rfl⟩ ?_ ?_
      · refine go_run 0 (F' := (0, [some (.int p1)], [], h)) rfl ?_
        refine go_run 1 (F' := (1, [some (.int p1)], [.int p1], h)) rfl ?_
        refine go_step rfl rfl ?_
        rw [if_neg q1]
        refine go_run 0 (F' := (4, [some (.int p1)], [], h)) rfl ?_
        refine go_run 2 (F' := (7, [some (.int p1)], [.int 6, .int p1], h)) rfl ?_
        refine go_step rfl rfl ?_
        rw [if_neg q2]
        refine go_run 0 (F' := (10, [some (.int p1)], [], h)) rfl ?_
        refine go_run 2 (F' := (15, [some (.int p1)], [.int 1], h)) rfl ?_
        exact go_end rfl rfl
      refine go_run 0 (F' := (4, [some (.int p1), some (.int p2)], [.int 1], h)) rfl ?_
      refine go_run 2 (F' := (8, [some (.int p1), some (.int p2)], [.int p2], h)) rfl ?_
      refine go_call (m' := 33) (v := some (.int 0)) (h1 := h) rfl rfl ⟨rfl, Nat.le_of_ble_eq_true rfl⟩ ?_ ?_
      · refine go_run 0 (F' := (0, [some (.int p2)], [], h)) rfl ?_
        refine go_run 1 (F' := (1, [some (.int p2)], [.int p2], h)) rfl ?_
        refine go_step rfl rfl ?_
        rw [if_neg q3]
        refine go_run 0 (F' := (4, [some (.int p2)], [], h)) rfl ?_
        refine go_run 2 (F' := (7, [some (.int p2)], [.int 6, .int p2], h)) rfl ?_
        refine go_step rfl rfl ?_
        rw [if_pos q4]
        refine go_run 0 (F' := (14, [some (.int p2)], [], h)) rfl ?_
        refine go_run 1 (F' := (15, [some (.int p2)], [.int 0], h)) rfl ?_
        exact go_end rfl rfl
      refine go_run 0 (F' := (11, [some (.int p1), some (.int p2)], [.int 0], h)) rfl ?_
      refine go_run 1 (F' := (19, [some (.int p1), some (.int p2)], [], h)) rfl ?_
      exact go_end rfl rfl
  refine go_run 0 (F' := (15, [some (.ref 0), some (.int p1), some (.int p2), some (.ref 177), none], [], (h ++ [.inr (14, [])]))) rfl ?_
  refine go_run 1 (F' := (16, [some (.ref 0), some (.int p1), some (.int p2), some (.ref 177), none], [.int 1], (h ++ [.inr (14, [])]))) rfl ?_
  exact go_end rfl rfl
set_option maxRecDepth 100000 in
theorem vc_queue_5 {X : ie_X} {d : Nat} {h : ie_H} {p1 p2 nl cf cw : Int32} {pl : Nat} (c0 : h[0]? = some (.inr (0, [.ref 1, .int nl, .int cf, .int cw, .ref pl, .ref 2, .ref 133]))) (q1 : ¬ (p1 < 0)) (q2 : ¬ (6 ≤ p1)) (q3 : ¬ (p2 < 0)) (q4 : ¬ (6 ≤ p2)) (q5 : p1 = p2) : Go X (d + 3) 118 (0, ie_en 118 [.ref 0, .int p1, .int p2, .ref 177], [], h) (.inl (some (.int 1))) (h ++ [.inr (14, [])]) := by
  refine go_run 0 (F' := (0, [some (.ref 0), some (.int p1), some (.int p2), some (.ref 177), none], [], h)) rfl ?_
  refine go_run 5 (F' := (5, [some (.ref 0), some (.int p1), some (.int p2), some (.ref 177), none], [.int p2, .int p1, .ref 0, .int 0, .ref 177], h)) rfl ?_
  refine go_catch (m' := 119) (ci := 14) (h1 := (h ++ [.inr (14, [])])) rfl (by simp only [ie_step, ie_iv, List.drop, c0, if_true]; rfl) ⟨rfl, Nat.le_of_ble_eq_true rfl⟩ rfl rfl rfl ?_ ?_
  · refine go_run 0 (F' := (0, [some (.ref 0), some (.int p1), some (.int p2)], [], h)) rfl ?_
    refine go_run 2 (F' := (2, [some (.ref 0), some (.int p1), some (.int p2)], [.int p2, .int p1], h)) rfl ?_
    refine go_out (m' := 120) rfl rfl ⟨rfl, Nat.le_of_ble_eq_true rfl⟩ rfl rfl ?_
    · refine go_run 0 (F' := (0, [some (.int p1), some (.int p2)], [], h)) rfl ?_
      refine go_run 1 (F' := (1, [some (.int p1), some (.int p2)], [.int p1], h)) rfl ?_
      refine go_call (m' := 33) (v := some (.int 1)) (h1 := h) rfl rfl ⟨rfl, Nat.le_of_ble_eq_true rfl⟩ ?_ ?_
      · refine go_run 0 (F' := (0, [some (.int p1)], [], h)) rfl ?_
        refine go_run 1 (F' := (1, [some (.int p1)], [.int p1], h)) rfl ?_
        refine go_step rfl rfl ?_
        rw [if_neg q1]
        refine go_run 0 (F' := (4, [some (.int p1)], [], h)) rfl ?_
        refine go_run 2 (F' := (7, [some (.int p1)], [.int 6, .int p1], h)) rfl ?_
        refine go_step rfl rfl ?_
        rw [if_neg q2]
        refine go_run 0 (F' := (10, [some (.int p1)], [], h)) rfl ?_
        refine go_run 2 (F' := (15, [some (.int p1)], [.int 1], h)) rfl ?_
        exact go_end rfl rfl
      refine go_run 0 (F' := (4, [some (.int p1), some (.int p2)], [.int 1], h)) rfl ?_
      refine go_run 2 (F' := (8, [some (.int p1), some (.int p2)], [.int p2], h)) rfl ?_
      refine go_call (m' := 33) (v := some (.int 1)) (h1 := h) rfl rfl ⟨rfl, Nat.le_of_ble_eq_true rfl⟩ ?_ ?_
      · refine go_run 0 (F' := (0, [some (.int p2)], [], h)) rfl ?_
        refine go_run 1 (F' := (1, [some (.int p2)], [.int p2], h)) rfl ?_
        refine go_step rfl rfl ?_
        rw [if_neg q3]
        refine go_run 0 (F' := (4, [some (.int p2)], [], h)) rfl ?_
        refine go_run 2 (F' := (7, [some (.int p2)], [.int 6, .int p2], h)) rfl ?_
        refine go_step rfl rfl ?_
        rw [if_neg q4]
        refine go_run 0 (F' := (10, [some (.int p2)], [], h)) rfl ?_
        refine go_run 2 (F' := (15, [some (.int p2)], [.int 1], h)) rfl ?_
        exact go_end rfl rfl
      refine go_run 0 (F' := (11, [some (.int p1), some (.int p2)], [.int 1], h)) rfl ?_
      refine go_run 3 (F' := (16, [some (.int p1), some (.int p2)], [.int p2, .int p1], h)) rfl ?_
      refine go_step rfl rfl ?_
      rw [if_pos q5]
      refine go_run 0 (F' := (19, [some (.int p1), some (.int p2)], [], h)) rfl ?_
      exact go_end rfl rfl
  refine go_run 0 (F' := (15, [some (.ref 0), some (.int p1), some (.int p2), some (.ref 177), none], [], (h ++ [.inr (14, [])]))) rfl ?_
  refine go_run 1 (F' := (16, [some (.ref 0), some (.int p1), some (.int p2), some (.ref 177), none], [.int 1], (h ++ [.inr (14, [])]))) rfl ?_
  exact go_end rfl rfl
set_option maxRecDepth 100000 in
theorem vc_queue_6 {X : ie_X} {d : Nat} {h : ie_H} {p1 p2 nl cf cw crm csp v4 v5 : Int32} {pl a1 : Nat} {z2 z3 : Value} {fo : Nat → Int64} (c0 : h[0]? = some (.inr (0, [.ref 1, .int nl, .int cf, .int cw, .ref pl, .ref 2, .ref 133]))) (c2 : h[2]? = some (.inr (8, [.ref 3, .ref 4, .ref 5, .ref 6, .int crm, .int csp]))) (c4 : h[4]? = some (.inl (5, 36, .inr (.inr (.inr (.inr rf_4)))))) (c_a1 : h[a1]? = some (.inr (6, [z2, z3, .int v4, .int v5]))) (c177 : h[177]? = some (.inl (3, 1, .inr (.inl fo)))) (q1 : ¬ (p1 < 0)) (q2 : ¬ (6 ≤ p1)) (q3 : ¬ (p2 < 0)) (q4 : ¬ (6 ≤ p2)) (q5 : ¬ (p1 = p2)) (b_5 : 0 ≤ Int32.toInt ((p1 * 6) + p2) ∧ Int32.toInt ((p1 * 6) + p2) < (36 : Int)) (r_6 : rf_4 (Int32.toNatClampNeg ((p1 * 6) + p2)) = some a1) (ne_177_a1 : 177 ≠ a1) : Go X (d + 3) 118 (0, ie_en 118 [.ref 0, .int p1, .int p2, .ref 177], [], h) (.inl (some (.int 0))) (List.set h 177 (.inl (3, 1, .inr (.inl (vp_updL fo 0 (Int32.toInt64 v5)))))) := by
  refine go_run 0 (F' := (0, [some (.ref 0), some (.int p1), some (.int p2), some (.ref 177), none], [], h)) rfl ?_
  refine go_run 5 (F' := (5, [some (.ref 0), some (.int p1), some (.int p2), some (.ref 177), none], [.int p2, .int p1, .ref 0, .int 0, .ref 177], h)) rfl ?_
  refine go_call (m' := 119) (v := some (.int v5)) (h1 := h) rfl (by simp only [ie_step, ie_iv, List.drop, c0, if_true]; rfl) ⟨rfl, Nat.le_of_ble_eq_true rfl⟩ ?_ ?_
  · refine go_run 0 (F' := (0, [some (.ref 0), some (.int p1), some (.int p2)], [], h)) rfl ?_
    refine go_run 2 (F' := (2, [some (.ref 0), some (.int p1), some (.int p2)], [.int p2, .int p1], h)) rfl ?_
    refine go_call (m' := 120) (v := none) (h1 := h) rfl rfl ⟨rfl, Nat.le_of_ble_eq_true rfl⟩ ?_ ?_
    · refine go_run 0 (F' := (0, [some (.int p1), some (.int p2)], [], h)) rfl ?_
      refine go_run 1 (F' := (1, [some (.int p1), some (.int p2)], [.int p1], h)) rfl ?_
      refine go_call (m' := 33) (v := some (.int 1)) (h1 := h) rfl rfl ⟨rfl, Nat.le_of_ble_eq_true rfl⟩ ?_ ?_
      · refine go_run 0 (F' := (0, [some (.int p1)], [], h)) rfl ?_
        refine go_run 1 (F' := (1, [some (.int p1)], [.int p1], h)) rfl ?_
        refine go_step rfl rfl ?_
        rw [if_neg q1]
        refine go_run 0 (F' := (4, [some (.int p1)], [], h)) rfl ?_
        refine go_run 2 (F' := (7, [some (.int p1)], [.int 6, .int p1], h)) rfl ?_
        refine go_step rfl rfl ?_
        rw [if_neg q2]
        refine go_run 0 (F' := (10, [some (.int p1)], [], h)) rfl ?_
        refine go_run 2 (F' := (15, [some (.int p1)], [.int 1], h)) rfl ?_
        exact go_end rfl rfl
      refine go_run 0 (F' := (4, [some (.int p1), some (.int p2)], [.int 1], h)) rfl ?_
      refine go_run 2 (F' := (8, [some (.int p1), some (.int p2)], [.int p2], h)) rfl ?_
      refine go_call (m' := 33) (v := some (.int 1)) (h1 := h) rfl rfl ⟨rfl, Nat.le_of_ble_eq_true rfl⟩ ?_ ?_
      · refine go_run 0 (F' := (0, [some (.int p2)], [], h)) rfl ?_
        refine go_run 1 (F' := (1, [some (.int p2)], [.int p2], h)) rfl ?_
        refine go_step rfl rfl ?_
        rw [if_neg q3]
        refine go_run 0 (F' := (4, [some (.int p2)], [], h)) rfl ?_
        refine go_run 2 (F' := (7, [some (.int p2)], [.int 6, .int p2], h)) rfl ?_
        refine go_step rfl rfl ?_
        rw [if_neg q4]
        refine go_run 0 (F' := (10, [some (.int p2)], [], h)) rfl ?_
        refine go_run 2 (F' := (15, [some (.int p2)], [.int 1], h)) rfl ?_
        exact go_end rfl rfl
      refine go_run 0 (F' := (11, [some (.int p1), some (.int p2)], [.int 1], h)) rfl ?_
      refine go_run 3 (F' := (16, [some (.int p1), some (.int p2)], [.int p2, .int p1], h)) rfl ?_
      refine go_step rfl rfl ?_
      rw [if_neg q5]
      refine go_run 0 (F' := (27, [some (.int p1), some (.int p2)], [], h)) rfl ?_
      exact go_end rfl rfl
    refine go_run 0 (F' := (5, [some (.ref 0), some (.int p1), some (.int p2)], [], h)) rfl ?_
    refine go_run 1 (F' := (6, [some (.ref 0), some (.int p1), some (.int p2)], [.ref 0], h)) rfl ?_
    refine go_gf rfl c0 rfl ?_
    refine go_run 0 (F' := (9, [some (.ref 0), some (.int p1), some (.int p2)], [.ref 2], h)) rfl ?_
    refine go_run 2 (F' := (11, [some (.ref 0), some (.int p1), some (.int p2)], [.int p2, .int p1, .ref 2], h)) rfl ?_
    refine go_call (m' := 104) (v := some (.ref a1)) (h1 := h) rfl (by simp only [ie_step, ie_iv, List.drop, c2, if_true]; rfl) ⟨rfl, Nat.le_of_ble_eq_true rfl⟩ ?_ ?_
    · refine go_run 0 (F' := (0, [some (.ref 2), some (.int p1), some (.int p2)], [], h)) rfl ?_
      refine go_run 1 (F' := (1, [some (.ref 2), some (.int p1), some (.int p2)], [.ref 2], h)) rfl ?_
      refine go_gf rfl c2 rfl ?_
      refine go_run 0 (F' := (4, [some (.ref 2), some (.int p1), some (.int p2)], [.ref 4], h)) rfl ?_
      refine go_run 5 (F' := (10, [some (.ref 2), some (.int p1), some (.int p2)], [.int ((p1 * 6) + p2), .ref 4], h)) rfl ?_
      refine go_aald rfl c4 (by decide) b_5 r_6 ?_
      refine go_run 0 (F' := (11, [some (.ref 2), some (.int p1), some (.int p2)], [.ref a1], h)) rfl ?_
      exact go_end rfl rfl
    refine go_run 0 (F' := (14, [some (.ref 0), some (.int p1), some (.int p2)], [.ref a1], h)) rfl ?_
    refine go_gf rfl c_a1 rfl ?_
    refine go_run 0 (F' := (17, [some (.ref 0), some (.int p1), some (.int p2)], [.int v5], h)) rfl ?_
    exact go_end rfl rfl
  refine go_run 0 (F' := (8, [some (.ref 0), some (.int p1), some (.int p2), some (.ref 177), none], [.int v5, .int 0, .ref 177], h)) rfl ?_
  refine go_run 1 (F' := (9, [some (.ref 0), some (.int p1), some (.int p2), some (.ref 177), none], [.long (Int32.toInt64 v5), .int 0, .ref 177], h)) rfl ?_
  refine go_last rfl c177 (by decide) rfl ?_
  refine go_run 0 (F' := (10, [some (.ref 0), some (.int p1), some (.int p2), some (.ref 177), none], [], (List.set h 177 (.inl (3, 1, .inr (.inl (vp_updL fo 0 (Int32.toInt64 v5)))))))) rfl ?_
  refine go_run 2 (F' := (18, [some (.ref 0), some (.int p1), some (.int p2), some (.ref 177), none], [.int 0], (List.set h 177 (.inl (3, 1, .inr (.inl (vp_updL fo 0 (Int32.toInt64 v5)))))))) rfl ?_
  exact go_end rfl rfl
set_option maxRecDepth 100000 in
theorem vm_queue_1 {X : ie_X} {d : Nat} {h : ie_H} {p1 p2 t_ ty fa wh ch it at_ bad co de st sz tp am bm mn rm sp be wo : Int32} (c134 : h[134]? = some (mo t_ ty fa wh ch it at_ bad co de 1 st sz tp am bm mn rm sp be wo)) (q1 : p1 < 0) : Go X (d + 2) 212 (0, ie_en 212 [.ref 134, .int p1, .int p2], [], h) (.inl (some (.int 0))) (List.set h 134 (mo 1 ty fa wh ch it at_ bad co de 1 st sz tp am bm mn rm sp be wo)) := by
  refine go_run 0 (F' := (0, [some (.ref 134), some (.int p1), some (.int p2)], [], h)) rfl ?_
  refine go_run 3 (F' := (3, [some (.ref 134), some (.int p1), some (.int p2)], [.int p2, .int p1, .ref 134], h)) rfl ?_
  refine go_call (m' := 213) (v := some (.int 1)) (h1 := h) rfl rfl ⟨rfl, Nat.le_of_ble_eq_true rfl⟩ ?_ ?_
  · refine go_run 0 (F' := (0, [some (.int p1), some (.int p2)], [], h)) rfl ?_
    refine go_run 1 (F' := (1, [some (.int p1), some (.int p2)], [.int p1], h)) rfl ?_
    refine go_call (m' := 183) (v := some (.int 1)) (h1 := h) rfl rfl ⟨rfl, Nat.le_of_ble_eq_true rfl⟩ ?_ ?_
    · refine go_run 0 (F' := (0, [some (.int p1)], [], h)) rfl ?_
      refine go_run 1 (F' := (1, [some (.int p1)], [.int p1], h)) rfl ?_
      refine go_step rfl rfl ?_
      rw [if_pos q1]
      refine go_run 0 (F' := (9, [some (.int p1)], [], h)) rfl ?_
      refine go_run 2 (F' := (14, [some (.int p1)], [.int 1], h)) rfl ?_
      exact go_end rfl rfl
    refine go_run 0 (F' := (4, [some (.int p1), some (.int p2)], [.int 1], h)) rfl ?_
    refine go_run 3 (F' := (24, [some (.int p1), some (.int p2)], [.int 1], h)) rfl ?_
    exact go_end rfl rfl
  refine go_run 0 (F' := (6, [some (.ref 134), some (.int p1), some (.int p2)], [.int 1, .ref 134], h)) rfl ?_
  refine go_run 3 (F' := (14, [some (.ref 134), some (.int p1), some (.int p2)], [.int 1, .ref 134], h)) rfl ?_
  refine go_pf rfl c134 (Nat.le_of_ble_eq_true rfl) rfl rfl ?_
  refine go_run 0 (F' := (17, [some (.ref 134), some (.int p1), some (.int p2)], [], (List.set h 134 (mo 1 ty fa wh ch it at_ bad co de 1 st sz tp am bm mn rm sp be wo)))) rfl ?_
  refine go_run 1 (F' := (18, [some (.ref 134), some (.int p1), some (.int p2)], [.ref 134], (List.set h 134 (mo 1 ty fa wh ch it at_ bad co de 1 st sz tp am bm mn rm sp be wo)))) rfl ?_
  refine go_gf rfl (gs_self c134) rfl ?_
  refine go_run 0 (F' := (21, [some (.ref 134), some (.int p1), some (.int p2)], [.int 1], (List.set h 134 (mo 1 ty fa wh ch it at_ bad co de 1 st sz tp am bm mn rm sp be wo)))) rfl ?_
  refine go_run 2 (F' := (39, [some (.ref 134), some (.int p1), some (.int p2)], [.int 0], (List.set h 134 (mo 1 ty fa wh ch it at_ bad co de 1 st sz tp am bm mn rm sp be wo)))) rfl ?_
  exact go_end rfl rfl
set_option maxRecDepth 100000 in
theorem vm_queue_2 {X : ie_X} {d : Nat} {h : ie_H} {p1 p2 t_ ty fa wh ch it at_ bad co de st sz tp am bm mn rm sp be wo : Int32} (c134 : h[134]? = some (mo t_ ty fa wh ch it at_ bad co de 1 st sz tp am bm mn rm sp be wo)) (q1 : ¬ (p1 < 0)) (q2 : ¬ (p1 ≤ 5)) : Go X (d + 2) 212 (0, ie_en 212 [.ref 134, .int p1, .int p2], [], h) (.inl (some (.int 0))) (List.set h 134 (mo 1 ty fa wh ch it at_ bad co de 1 st sz tp am bm mn rm sp be wo)) := by
  refine go_run 0 (F' := (0, [some (.ref 134), some (.int p1), some (.int p2)], [], h)) rfl ?_
  refine go_run 3 (F' := (3, [some (.ref 134), some (.int p1), some (.int p2)], [.int p2, .int p1, .ref 134], h)) rfl ?_
  refine go_call (m' := 213) (v := some (.int 1)) (h1 := h) rfl rfl ⟨rfl, Nat.le_of_ble_eq_true rfl⟩ ?_ ?_
  · refine go_run 0 (F' := (0, [some (.int p1), some (.int p2)], [], h)) rfl ?_
    refine go_run 1 (F' := (1, [some (.int p1), some (.int p2)], [.int p1], h)) rfl ?_
    refine go_call (m' := 183) (v := some (.int 1)) (h1 := h) rfl rfl ⟨rfl, Nat.le_of_ble_eq_true rfl⟩ ?_ ?_
    · refine go_run 0 (F' := (0, [some (.int p1)], [], h)) rfl ?_
      refine go_run 1 (F' := (1, [some (.int p1)], [.int p1], h)) rfl ?_
      refine go_step rfl rfl ?_
      rw [if_neg q1]
      refine go_run 0 (F' := (4, [some (.int p1)], [], h)) rfl ?_
      refine go_run 2 (F' := (6, [some (.int p1)], [.int 5, .int p1], h)) rfl ?_
      refine go_step rfl rfl ?_
      rw [if_neg q2]
      refine go_run 0 (F' := (9, [some (.int p1)], [], h)) rfl ?_
      refine go_run 2 (F' := (14, [some (.int p1)], [.int 1], h)) rfl ?_
      exact go_end rfl rfl
    refine go_run 0 (F' := (4, [some (.int p1), some (.int p2)], [.int 1], h)) rfl ?_
    refine go_run 3 (F' := (24, [some (.int p1), some (.int p2)], [.int 1], h)) rfl ?_
    exact go_end rfl rfl
  refine go_run 0 (F' := (6, [some (.ref 134), some (.int p1), some (.int p2)], [.int 1, .ref 134], h)) rfl ?_
  refine go_run 3 (F' := (14, [some (.ref 134), some (.int p1), some (.int p2)], [.int 1, .ref 134], h)) rfl ?_
  refine go_pf rfl c134 (Nat.le_of_ble_eq_true rfl) rfl rfl ?_
  refine go_run 0 (F' := (17, [some (.ref 134), some (.int p1), some (.int p2)], [], (List.set h 134 (mo 1 ty fa wh ch it at_ bad co de 1 st sz tp am bm mn rm sp be wo)))) rfl ?_
  refine go_run 1 (F' := (18, [some (.ref 134), some (.int p1), some (.int p2)], [.ref 134], (List.set h 134 (mo 1 ty fa wh ch it at_ bad co de 1 st sz tp am bm mn rm sp be wo)))) rfl ?_
  refine go_gf rfl (gs_self c134) rfl ?_
  refine go_run 0 (F' := (21, [some (.ref 134), some (.int p1), some (.int p2)], [.int 1], (List.set h 134 (mo 1 ty fa wh ch it at_ bad co de 1 st sz tp am bm mn rm sp be wo)))) rfl ?_
  refine go_run 2 (F' := (39, [some (.ref 134), some (.int p1), some (.int p2)], [.int 0], (List.set h 134 (mo 1 ty fa wh ch it at_ bad co de 1 st sz tp am bm mn rm sp be wo)))) rfl ?_
  exact go_end rfl rfl
set_option maxRecDepth 100000 in
theorem vm_queue_3 {X : ie_X} {d : Nat} {h : ie_H} {p1 p2 t_ ty fa wh ch it at_ bad co de st sz tp am bm mn rm sp be wo : Int32} (c134 : h[134]? = some (mo t_ ty fa wh ch it at_ bad co de 1 st sz tp am bm mn rm sp be wo)) (q1 : ¬ (p1 < 0)) (q2 : p1 ≤ 5) (q3 : p2 < 0) : Go X (d + 2) 212 (0, ie_en 212 [.ref 134, .int p1, .int p2], [], h) (.inl (some (.int 0))) (List.set h 134 (mo 1 ty fa wh ch it at_ bad co de 1 st sz tp am bm mn rm sp be wo)) := by
  refine go_run 0 (F' := (0, [some (.ref 134), some (.int p1), some (.int p2)], [], h)) rfl ?_
  refine go_run 3 (F' := (3, [some (.ref 134), some (.int p1), some (.int p2)], [.int p2, .int p1, .ref 134], h)) rfl ?_
  refine go_call (m' := 213) (v := some (.int 1)) (h1 := h) rfl rfl ⟨rfl, Nat.le_of_ble_eq_true rfl⟩ ?_ ?_
  · refine go_run 0 (F' := (0, [some (.int p1), some (.int p2)], [], h)) rfl ?_
    refine go_run 1 (F' := (1, [some (.int p1), some (.int p2)], [.int p1], h)) rfl ?_
    refine go_call (m' := 183) (v := some (.int 0)) (h1 := h) rfl rfl ⟨rfl, Nat.le_of_ble_eq_true rfl⟩ ?_ ?_
    · refine go_run 0 (F' := (0, [some (.int p1)], [], h)) rfl ?_
      refine go_run 1 (F' := (1, [some (.int p1)], [.int p1], h)) rfl ?_
      refine go_step rfl rfl ?_
      rw [if_neg q1]
      refine go_run 0 (F' := (4, [some (.int p1)], [], h)) rfl ?_
      refine go_run 2 (F' := (6, [some (.int p1)], [.int 5, .int p1], h)) rfl ?_
      refine go_step rfl rfl ?_
      rw [if_pos q2]
      refine go_run 0 (F' := (13, [some (.int p1)], [], h)) rfl ?_
      refine go_run 1 (F' := (14, [some (.int p1)], [.int 0], h)) rfl ?_
      exact go_end rfl rfl
    refine go_run 0 (F' := (4, [some (.int p1), some (.int p2)], [.int 0], h)) rfl ?_
    refine go_run 2 (F' := (8, [some (.int p1), some (.int p2)], [.int p2], h)) rfl ?_
    refine go_call (m' := 183) (v := some (.int 1)) (h1 := h) rfl rfl ⟨rfl, Nat.le_of_ble_eq_true rfl⟩ ?_ ?_
    · refine go_run 0 (F' := (0, [some (.int p2)], [], h)) rfl ?_
      refine go_run 1 (F' := (1, [some (.int p2)], [.int p2], h)) rfl ?_
      refine go_step rfl rfl ?_
      rw [if_pos q3]
      refine go_run 0 (F' := (9, [some (.int p2)], [], h)) rfl ?_
      refine go_run 2 (F' := (14, [some (.int p2)], [.int 1], h)) rfl ?_
      exact go_end rfl rfl
    refine go_run 0 (F' := (11, [some (.int p1), some (.int p2)], [.int 1], h)) rfl ?_
    refine go_run 3 (F' := (24, [some (.int p1), some (.int p2)], [.int 1], h)) rfl ?_
    exact go_end rfl rfl
  refine go_run 0 (F' := (6, [some (.ref 134), some (.int p1), some (.int p2)], [.int 1, .ref 134], h)) rfl ?_
  refine go_run 3 (F' := (14, [some (.ref 134), some (.int p1), some (.int p2)], [.int 1, .ref 134], h)) rfl ?_
  refine go_pf rfl c134 (Nat.le_of_ble_eq_true rfl) rfl rfl ?_
  refine go_run 0 (F' := (17, [some (.ref 134), some (.int p1), some (.int p2)], [], (List.set h 134 (mo 1 ty fa wh ch it at_ bad co de 1 st sz tp am bm mn rm sp be wo)))) rfl ?_
  refine go_run 1 (F' := (18, [some (.ref 134), some (.int p1), some (.int p2)], [.ref 134], (List.set h 134 (mo 1 ty fa wh ch it at_ bad co de 1 st sz tp am bm mn rm sp be wo)))) rfl ?_
  refine go_gf rfl (gs_self c134) rfl ?_
  refine go_run 0 (F' := (21, [some (.ref 134), some (.int p1), some (.int p2)], [.int 1], (List.set h 134 (mo 1 ty fa wh ch it at_ bad co de 1 st sz tp am bm mn rm sp be wo)))) rfl ?_
  refine go_run 2 (F' := (39, [some (.ref 134), some (.int p1), some (.int p2)], [.int 0], (List.set h 134 (mo 1 ty fa wh ch it at_ bad co de 1 st sz tp am bm mn rm sp be wo)))) rfl ?_
  exact go_end rfl rfl
set_option maxRecDepth 100000 in
theorem vm_queue_4 {X : ie_X} {d : Nat} {h : ie_H} {p1 p2 t_ ty fa wh ch it at_ bad co de st sz tp am bm mn rm sp be wo : Int32} (c134 : h[134]? = some (mo t_ ty fa wh ch it at_ bad co de 1 st sz tp am bm mn rm sp be wo)) (q1 : ¬ (p1 < 0)) (q2 : p1 ≤ 5) (q3 : ¬ (p2 < 0)) (q4 : ¬ (p2 ≤ 5)) : Go X (d + 2) 212 (0, ie_en 212 [.ref 134, .int p1, .int p2], [], h) (.inl (some (.int 0))) (List.set h 134 (mo 1 ty fa wh ch it at_ bad co de 1 st sz tp am bm mn rm sp be wo)) := by
  refine go_run 0 (F' := (0, [some (.ref 134), some (.int p1), some (.int p2)], [], h)) rfl ?_
  refine go_run 3 (F' := (3, [some (.ref 134), some (.int p1), some (.int p2)], [.int p2, .int p1, .ref 134], h)) rfl ?_
  refine go_call (m' := 213) (v := some (.int 1)) (h1 := h) rfl rfl ⟨rfl, Nat.le_of_ble_eq_true rfl⟩ ?_ ?_
  · refine go_run 0 (F' := (0, [some (.int p1), some (.int p2)], [], h)) rfl ?_
    refine go_run 1 (F' := (1, [some (.int p1), some (.int p2)], [.int p1], h)) rfl ?_
    refine go_call (m' := 183) (v := some (.int 0)) (h1 := h) rfl rfl ⟨rfl, Nat.le_of_ble_eq_true rfl⟩ ?_ ?_
    · refine go_run 0 (F' := (0, [some (.int p1)], [], h)) rfl ?_
      refine go_run 1 (F' := (1, [some (.int p1)], [.int p1], h)) rfl ?_
      refine go_step rfl rfl ?_
      rw [if_neg q1]
      refine go_run 0 (F' := (4, [some (.int p1)], [], h)) rfl ?_
      refine go_run 2 (F' := (6, [some (.int p1)], [.int 5, .int p1], h)) rfl ?_
      refine go_step rfl rfl ?_
      rw [if_pos q2]
      refine go_run 0 (F' := (13, [some (.int p1)], [], h)) rfl ?_
      refine go_run 1 (F' := (14, [some (.int p1)], [.int 0], h)) rfl ?_
      exact go_end rfl rfl
    refine go_run 0 (F' := (4, [some (.int p1), some (.int p2)], [.int 0], h)) rfl ?_
    refine go_run 2 (F' := (8, [some (.int p1), some (.int p2)], [.int p2], h)) rfl ?_
    refine go_call (m' := 183) (v := some (.int 1)) (h1 := h) rfl rfl ⟨rfl, Nat.le_of_ble_eq_true rfl⟩ ?_ ?_
    · refine go_run 0 (F' := (0, [some (.int p2)], [], h)) rfl ?_
      refine go_run 1 (F' := (1, [some (.int p2)], [.int p2], h)) rfl ?_
      refine go_step rfl rfl ?_
      rw [if_neg q3]
      refine go_run 0 (F' := (4, [some (.int p2)], [], h)) rfl ?_
      refine go_run 2 (F' := (6, [some (.int p2)], [.int 5, .int p2], h)) rfl ?_
      refine go_step rfl rfl ?_
      rw [if_neg q4]
      refine go_run 0 (F' := (9, [some (.int p2)], [], h)) rfl ?_
      refine go_run 2 (F' := (14, [some (.int p2)], [.int 1], h)) rfl ?_
      exact go_end rfl rfl
    refine go_run 0 (F' := (11, [some (.int p1), some (.int p2)], [.int 1], h)) rfl ?_
    refine go_run 3 (F' := (24, [some (.int p1), some (.int p2)], [.int 1], h)) rfl ?_
    exact go_end rfl rfl
  refine go_run 0 (F' := (6, [some (.ref 134), some (.int p1), some (.int p2)], [.int 1, .ref 134], h)) rfl ?_
  refine go_run 3 (F' := (14, [some (.ref 134), some (.int p1), some (.int p2)], [.int 1, .ref 134], h)) rfl ?_
  refine go_pf rfl c134 (Nat.le_of_ble_eq_true rfl) rfl rfl ?_
  refine go_run 0 (F' := (17, [some (.ref 134), some (.int p1), some (.int p2)], [], (List.set h 134 (mo 1 ty fa wh ch it at_ bad co de 1 st sz tp am bm mn rm sp be wo)))) rfl ?_
  refine go_run 1 (F' := (18, [some (.ref 134), some (.int p1), some (.int p2)], [.ref 134], (List.set h 134 (mo 1 ty fa wh ch it at_ bad co de 1 st sz tp am bm mn rm sp be wo)))) rfl ?_
  refine go_gf rfl (gs_self c134) rfl ?_
  refine go_run 0 (F' := (21, [some (.ref 134), some (.int p1), some (.int p2)], [.int 1], (List.set h 134 (mo 1 ty fa wh ch it at_ bad co de 1 st sz tp am bm mn rm sp be wo)))) rfl ?_
  refine go_run 2 (F' := (39, [some (.ref 134), some (.int p1), some (.int p2)], [.int 0], (List.set h 134 (mo 1 ty fa wh ch it at_ bad co de 1 st sz tp am bm mn rm sp be wo)))) rfl ?_
  exact go_end rfl rfl
set_option maxRecDepth 100000 in
theorem vm_queue_5 {X : ie_X} {d : Nat} {h : ie_H} {p1 p2 t_ ty fa wh ch it at_ bad co de st sz tp am bm mn rm sp be wo : Int32} (c134 : h[134]? = some (mo t_ ty fa wh ch it at_ bad co de 1 st sz tp am bm mn rm sp be wo)) (q1 : ¬ (p1 < 0)) (q2 : p1 ≤ 5) (q3 : ¬ (p2 < 0)) (q4 : p2 ≤ 5) (q5 : p1 = p2) : Go X (d + 2) 212 (0, ie_en 212 [.ref 134, .int p1, .int p2], [], h) (.inl (some (.int 0))) (List.set h 134 (mo 1 ty fa wh ch it at_ bad co de 1 st sz tp am bm mn rm sp be wo)) := by
  refine go_run 0 (F' := (0, [some (.ref 134), some (.int p1), some (.int p2)], [], h)) rfl ?_
  refine go_run 3 (F' := (3, [some (.ref 134), some (.int p1), some (.int p2)], [.int p2, .int p1, .ref 134], h)) rfl ?_
  refine go_call (m' := 213) (v := some (.int 1)) (h1 := h) rfl rfl ⟨rfl, Nat.le_of_ble_eq_true rfl⟩ ?_ ?_
  · refine go_run 0 (F' := (0, [some (.int p1), some (.int p2)], [], h)) rfl ?_
    refine go_run 1 (F' := (1, [some (.int p1), some (.int p2)], [.int p1], h)) rfl ?_
    refine go_call (m' := 183) (v := some (.int 0)) (h1 := h) rfl rfl ⟨rfl, Nat.le_of_ble_eq_true rfl⟩ ?_ ?_
    · refine go_run 0 (F' := (0, [some (.int p1)], [], h)) rfl ?_
      refine go_run 1 (F' := (1, [some (.int p1)], [.int p1], h)) rfl ?_
      refine go_step rfl rfl ?_
      rw [if_neg q1]
      refine go_run 0 (F' := (4, [some (.int p1)], [], h)) rfl ?_
      refine go_run 2 (F' := (6, [some (.int p1)], [.int 5, .int p1], h)) rfl ?_
      refine go_step rfl rfl ?_
      rw [if_pos q2]
      refine go_run 0 (F' := (13, [some (.int p1)], [], h)) rfl ?_
      refine go_run 1 (F' := (14, [some (.int p1)], [.int 0], h)) rfl ?_
      exact go_end rfl rfl
    refine go_run 0 (F' := (4, [some (.int p1), some (.int p2)], [.int 0], h)) rfl ?_
    refine go_run 2 (F' := (8, [some (.int p1), some (.int p2)], [.int p2], h)) rfl ?_
    refine go_call (m' := 183) (v := some (.int 0)) (h1 := h) rfl rfl ⟨rfl, Nat.le_of_ble_eq_true rfl⟩ ?_ ?_
    · refine go_run 0 (F' := (0, [some (.int p2)], [], h)) rfl ?_
      refine go_run 1 (F' := (1, [some (.int p2)], [.int p2], h)) rfl ?_
      refine go_step rfl rfl ?_
      rw [if_neg q3]
      refine go_run 0 (F' := (4, [some (.int p2)], [], h)) rfl ?_
      refine go_run 2 (F' := (6, [some (.int p2)], [.int 5, .int p2], h)) rfl ?_
      refine go_step rfl rfl ?_
      rw [if_pos q4]
      refine go_run 0 (F' := (13, [some (.int p2)], [], h)) rfl ?_
      refine go_run 1 (F' := (14, [some (.int p2)], [.int 0], h)) rfl ?_
      exact go_end rfl rfl
    refine go_run 0 (F' := (11, [some (.int p1), some (.int p2)], [.int 0], h)) rfl ?_
    refine go_run 3 (F' := (16, [some (.int p1), some (.int p2)], [.int p2, .int p1], h)) rfl ?_
    refine go_step rfl rfl ?_
    rw [if_pos q5]
    refine go_run 0 (F' := (19, [some (.int p1), some (.int p2)], [], h)) rfl ?_
    refine go_run 2 (F' := (24, [some (.int p1), some (.int p2)], [.int 1], h)) rfl ?_
    exact go_end rfl rfl
  refine go_run 0 (F' := (6, [some (.ref 134), some (.int p1), some (.int p2)], [.int 1, .ref 134], h)) rfl ?_
  refine go_run 3 (F' := (14, [some (.ref 134), some (.int p1), some (.int p2)], [.int 1, .ref 134], h)) rfl ?_
  refine go_pf rfl c134 (Nat.le_of_ble_eq_true rfl) rfl rfl ?_
  refine go_run 0 (F' := (17, [some (.ref 134), some (.int p1), some (.int p2)], [], (List.set h 134 (mo 1 ty fa wh ch it at_ bad co de 1 st sz tp am bm mn rm sp be wo)))) rfl ?_
  refine go_run 1 (F' := (18, [some (.ref 134), some (.int p1), some (.int p2)], [.ref 134], (List.set h 134 (mo 1 ty fa wh ch it at_ bad co de 1 st sz tp am bm mn rm sp be wo)))) rfl ?_
  refine go_gf rfl (gs_self c134) rfl ?_
  refine go_run 0 (F' := (21, [some (.ref 134), some (.int p1), some (.int p2)], [.int 1], (List.set h 134 (mo 1 ty fa wh ch it at_ bad co de 1 st sz tp am bm mn rm sp be wo)))) rfl ?_
  refine go_run 2 (F' := (39, [some (.ref 134), some (.int p1), some (.int p2)], [.int 0], (List.set h 134 (mo 1 ty fa wh ch it at_ bad co de 1 st sz tp am bm mn rm sp be wo)))) rfl ?_
  exact go_end rfl rfl
set_option maxRecDepth 100000 in
theorem vm_queue_6 {X : ie_X} {d : Nat} {h : ie_H} {p1 p2 t_ ty fa wh ch it at_ bad co de st sz tp am bm mn rm sp be wo : Int32} {f173 : Nat → Int32} (c134 : h[134]? = some (mo t_ ty fa wh ch it at_ bad co de 1 st sz tp am bm mn rm sp be wo)) (c173 : h[173]? = some (.inl (0, 36, .inl f173))) (q1 : ¬ (p1 < 0)) (q2 : p1 ≤ 5) (q3 : ¬ (p2 < 0)) (q4 : p2 ≤ 5) (q5 : ¬ (p1 = p2)) (b_5 : 0 ≤ Int32.toInt ((6 * p1) + p2) ∧ Int32.toInt ((6 * p1) + p2) < (36 : Int)) : Go X (d + 2) 212 (0, ie_en 212 [.ref 134, .int p1, .int p2], [], h) (.inl (some (.int (f173 (Int32.toNatClampNeg ((6 * p1) + p2)))))) (List.set h 134 (mo 0 ty fa wh ch it at_ bad co de 1 st sz tp am bm mn rm sp be wo)) := by
  refine go_run 0 (F' := (0, [some (.ref 134), some (.int p1), some (.int p2)], [], h)) rfl ?_
  refine go_run 3 (F' := (3, [some (.ref 134), some (.int p1), some (.int p2)], [.int p2, .int p1, .ref 134], h)) rfl ?_
  refine go_call (m' := 213) (v := some (.int 0)) (h1 := h) rfl rfl ⟨rfl, Nat.le_of_ble_eq_true rfl⟩ ?_ ?_
  · refine go_run 0 (F' := (0, [some (.int p1), some (.int p2)], [], h)) rfl ?_
    refine go_run 1 (F' := (1, [some (.int p1), some (.int p2)], [.int p1], h)) rfl ?_
    refine go_call (m' := 183) (v := some (.int 0)) (h1 := h) rfl rfl ⟨rfl, Nat.le_of_ble_eq_true rfl⟩ ?_ ?_
    · refine go_run 0 (F' := (0, [some (.int p1)], [], h)) rfl ?_
      refine go_run 1 (F' := (1, [some (.int p1)], [.int p1], h)) rfl ?_
      refine go_step rfl rfl ?_
      rw [if_neg q1]
      refine go_run 0 (F' := (4, [some (.int p1)], [], h)) rfl ?_
      refine go_run 2 (F' := (6, [some (.int p1)], [.int 5, .int p1], h)) rfl ?_
      refine go_step rfl rfl ?_
      rw [if_pos q2]
      refine go_run 0 (F' := (13, [some (.int p1)], [], h)) rfl ?_
      refine go_run 1 (F' := (14, [some (.int p1)], [.int 0], h)) rfl ?_
      exact go_end rfl rfl
    refine go_run 0 (F' := (4, [some (.int p1), some (.int p2)], [.int 0], h)) rfl ?_
    refine go_run 2 (F' := (8, [some (.int p1), some (.int p2)], [.int p2], h)) rfl ?_
    refine go_call (m' := 183) (v := some (.int 0)) (h1 := h) rfl rfl ⟨rfl, Nat.le_of_ble_eq_true rfl⟩ ?_ ?_
    · refine go_run 0 (F' := (0, [some (.int p2)], [], h)) rfl ?_
      refine go_run 1 (F' := (1, [some (.int p2)], [.int p2], h)) rfl ?_
      refine go_step rfl rfl ?_
      rw [if_neg q3]
      refine go_run 0 (F' := (4, [some (.int p2)], [], h)) rfl ?_
      refine go_run 2 (F' := (6, [some (.int p2)], [.int 5, .int p2], h)) rfl ?_
      refine go_step rfl rfl ?_
      rw [if_pos q4]
      refine go_run 0 (F' := (13, [some (.int p2)], [], h)) rfl ?_
      refine go_run 1 (F' := (14, [some (.int p2)], [.int 0], h)) rfl ?_
      exact go_end rfl rfl
    refine go_run 0 (F' := (11, [some (.int p1), some (.int p2)], [.int 0], h)) rfl ?_
    refine go_run 3 (F' := (16, [some (.int p1), some (.int p2)], [.int p2, .int p1], h)) rfl ?_
    refine go_step rfl rfl ?_
    rw [if_neg q5]
    refine go_run 0 (F' := (23, [some (.int p1), some (.int p2)], [], h)) rfl ?_
    refine go_run 1 (F' := (24, [some (.int p1), some (.int p2)], [.int 0], h)) rfl ?_
    exact go_end rfl rfl
  refine go_run 0 (F' := (6, [some (.ref 134), some (.int p1), some (.int p2)], [.int 0, .ref 134], h)) rfl ?_
  refine go_run 2 (F' := (14, [some (.ref 134), some (.int p1), some (.int p2)], [.int 0, .ref 134], h)) rfl ?_
  refine go_pf rfl c134 (Nat.le_of_ble_eq_true rfl) rfl rfl ?_
  refine go_run 0 (F' := (17, [some (.ref 134), some (.int p1), some (.int p2)], [], (List.set h 134 (mo 0 ty fa wh ch it at_ bad co de 1 st sz tp am bm mn rm sp be wo)))) rfl ?_
  refine go_run 1 (F' := (18, [some (.ref 134), some (.int p1), some (.int p2)], [.ref 134], (List.set h 134 (mo 0 ty fa wh ch it at_ bad co de 1 st sz tp am bm mn rm sp be wo)))) rfl ?_
  refine go_gf rfl (gs_self c134) rfl ?_
  refine go_run 0 (F' := (21, [some (.ref 134), some (.int p1), some (.int p2)], [.int 0], (List.set h 134 (mo 0 ty fa wh ch it at_ bad co de 1 st sz tp am bm mn rm sp be wo)))) rfl ?_
  refine go_run 2 (F' := (25, [some (.ref 134), some (.int p1), some (.int p2)], [.ref 134], (List.set h 134 (mo 0 ty fa wh ch it at_ bad co de 1 st sz tp am bm mn rm sp be wo)))) rfl ?_
  refine go_gf rfl (gs_self c134) rfl ?_
  refine go_run 0 (F' := (28, [some (.ref 134), some (.int p1), some (.int p2)], [.ref 173], (List.set h 134 (mo 0 ty fa wh ch it at_ bad co de 1 st sz tp am bm mn rm sp be wo)))) rfl ?_
  refine go_run 5 (F' := (34, [some (.ref 134), some (.int p1), some (.int p2)], [.int ((6 * p1) + p2), .ref 173], (List.set h 134 (mo 0 ty fa wh ch it at_ bad co de 1 st sz tp am bm mn rm sp be wo)))) rfl ?_
  refine go_iald rfl (by decide) (gs_ne (by decide) c173) b_5 rfl ?_
  refine go_run 0 (F' := (35, [some (.ref 134), some (.int p1), some (.int p2)], [.int (f173 (Int32.toNatClampNeg ((6 * p1) + p2)))], (List.set h 134 (mo 0 ty fa wh ch it at_ bad co de 1 st sz tp am bm mn rm sp be wo)))) rfl ?_
  refine go_run 1 (F' := (39, [some (.ref 134), some (.int p1), some (.int p2)], [.int (f173 (Int32.toNatClampNeg ((6 * p1) + p2)))], (List.set h 134 (mo 0 ty fa wh ch it at_ bad co de 1 st sz tp am bm mn rm sp be wo)))) rfl ?_
  exact go_end rfl rfl
set_option maxRecDepth 100000 in
theorem vc_message_1 {X : ie_X} {d : Nat} {h : ie_H} {p1 p2 p3 nl cf cw : Int32} {pl : Nat} (c0 : h[0]? = some (.inr (0, [.ref 1, .int nl, .int cf, .int cw, .ref pl, .ref 2, .ref 133]))) (q1 : p1 < 0) : Go X (d + 4) 121 (0, ie_en 121 [.ref 0, .int p1, .int p2, .int p3, .ref 177], [], h) (.inl (some (.int 1))) (h ++ [.inr (14, [])]) := by
  refine go_run 0 (F' := (0, [some (.ref 0), some (.int p1), some (.int p2), some (.int p3), some (.ref 177), none], [], h)) rfl ?_
  refine go_run 6 (F' := (7, [some (.ref 0), some (.int p1), some (.int p2), some (.int p3), some (.ref 177), none], [.int p3, .int p2, .int p1, .ref 0, .int 0, .ref 177], h)) rfl ?_
  refine go_catch (m' := 122) (ci := 14) (h1 := (h ++ [.inr (14, [])])) rfl (by simp only [ie_step, ie_iv, List.drop, c0, if_true]; rfl) ⟨rfl, Nat.le_of_ble_eq_true rfl⟩ rfl rfl rfl ?_ ?_
  · refine go_run 0 (F' := (0, [some (.ref 0), some (.int p1), some (.int p2), some (.int p3)], [], h)) rfl ?_
    refine go_run 4 (F' := (4, [some (.ref 0), some (.int p1), some (.int p2), some (.int p3)], [.int p3, .int p2, .int p1, .ref 0], h)) rfl ?_
    refine go_out (m' := 123) rfl (by simp only [ie_step, ie_iv, List.drop, c0, if_true]; rfl) ⟨rfl, Nat.le_of_ble_eq_true rfl⟩ rfl rfl ?_
    · refine go_run 0 (F' := (0, [some (.ref 0), some (.int p1), some (.int p2), some (.int p3)], [], h)) rfl ?_
      refine go_run 2 (F' := (2, [some (.ref 0), some (.int p1), some (.int p2), some (.int p3)], [.int p2, .int p1], h)) rfl ?_
      refine go_out (m' := 120) rfl rfl ⟨rfl, Nat.le_of_ble_eq_true rfl⟩ rfl rfl ?_
      · refine go_run 0 (F' := (0, [some (.int p1), some (.int p2)], [], h)) rfl ?_
        refine go_run 1 (F' := (1, [some (.int p1), some (.int p2)], [.int p1], h)) rfl ?_
        refine go_call (m' := 33) (v := some (.int 0)) (h1 := h) rfl rfl ⟨rfl, Nat.le_of_ble_eq_true rfl⟩ ?_ ?_
        · refine go_run 0 (F' := (0, [some (.int p1)], [], h)) rfl ?_
          refine go_run 1 (F' := (1, [some (.int p1)], [.int p1], h)) rfl ?_
          refine go_step rfl rfl ?_
          rw [if_pos q1]
          refine go_run 0 (F' := (14, [some (.int p1)], [], h)) rfl ?_
          refine go_run 1 (F' := (15, [some (.int p1)], [.int 0], h)) rfl ?_
          exact go_end rfl rfl
        refine go_run 0 (F' := (4, [some (.int p1), some (.int p2)], [.int 0], h)) rfl ?_
        refine go_run 1 (F' := (19, [some (.int p1), some (.int p2)], [], h)) rfl ?_
        exact go_end rfl rfl
  refine go_run 0 (F' := (17, [some (.ref 0), some (.int p1), some (.int p2), some (.int p3), some (.ref 177), none], [], (h ++ [.inr (14, [])]))) rfl ?_
  refine go_run 1 (F' := (18, [some (.ref 0), some (.int p1), some (.int p2), some (.int p3), some (.ref 177), none], [.int 1], (h ++ [.inr (14, [])]))) rfl ?_
  exact go_end rfl rfl
set_option maxRecDepth 100000 in
theorem vc_message_2 {X : ie_X} {d : Nat} {h : ie_H} {p1 p2 p3 nl cf cw : Int32} {pl : Nat} (c0 : h[0]? = some (.inr (0, [.ref 1, .int nl, .int cf, .int cw, .ref pl, .ref 2, .ref 133]))) (q1 : ¬ (p1 < 0)) (q2 : 6 ≤ p1) : Go X (d + 4) 121 (0, ie_en 121 [.ref 0, .int p1, .int p2, .int p3, .ref 177], [], h) (.inl (some (.int 1))) (h ++ [.inr (14, [])]) := by
  refine go_run 0 (F' := (0, [some (.ref 0), some (.int p1), some (.int p2), some (.int p3), some (.ref 177), none], [], h)) rfl ?_
  refine go_run 6 (F' := (7, [some (.ref 0), some (.int p1), some (.int p2), some (.int p3), some (.ref 177), none], [.int p3, .int p2, .int p1, .ref 0, .int 0, .ref 177], h)) rfl ?_
  refine go_catch (m' := 122) (ci := 14) (h1 := (h ++ [.inr (14, [])])) rfl (by simp only [ie_step, ie_iv, List.drop, c0, if_true]; rfl) ⟨rfl, Nat.le_of_ble_eq_true rfl⟩ rfl rfl rfl ?_ ?_
  · refine go_run 0 (F' := (0, [some (.ref 0), some (.int p1), some (.int p2), some (.int p3)], [], h)) rfl ?_
    refine go_run 4 (F' := (4, [some (.ref 0), some (.int p1), some (.int p2), some (.int p3)], [.int p3, .int p2, .int p1, .ref 0], h)) rfl ?_
    refine go_out (m' := 123) rfl (by simp only [ie_step, ie_iv, List.drop, c0, if_true]; rfl) ⟨rfl, Nat.le_of_ble_eq_true rfl⟩ rfl rfl ?_
    · refine go_run 0 (F' := (0, [some (.ref 0), some (.int p1), some (.int p2), some (.int p3)], [], h)) rfl ?_
      refine go_run 2 (F' := (2, [some (.ref 0), some (.int p1), some (.int p2), some (.int p3)], [.int p2, .int p1], h)) rfl ?_
      refine go_out (m' := 120) rfl rfl ⟨rfl, Nat.le_of_ble_eq_true rfl⟩ rfl rfl ?_
      · refine go_run 0 (F' := (0, [some (.int p1), some (.int p2)], [], h)) rfl ?_
        refine go_run 1 (F' := (1, [some (.int p1), some (.int p2)], [.int p1], h)) rfl ?_
        refine go_call (m' := 33) (v := some (.int 0)) (h1 := h) rfl rfl ⟨rfl, Nat.le_of_ble_eq_true rfl⟩ ?_ ?_
        · refine go_run 0 (F' := (0, [some (.int p1)], [], h)) rfl ?_
          refine go_run 1 (F' := (1, [some (.int p1)], [.int p1], h)) rfl ?_
          refine go_step rfl rfl ?_
          rw [if_neg q1]
          refine go_run 0 (F' := (4, [some (.int p1)], [], h)) rfl ?_
          refine go_run 2 (F' := (7, [some (.int p1)], [.int 6, .int p1], h)) rfl ?_
          refine go_step rfl rfl ?_
          rw [if_pos q2]
          refine go_run 0 (F' := (14, [some (.int p1)], [], h)) rfl ?_
          refine go_run 1 (F' := (15, [some (.int p1)], [.int 0], h)) rfl ?_
          exact go_end rfl rfl
        refine go_run 0 (F' := (4, [some (.int p1), some (.int p2)], [.int 0], h)) rfl ?_
        refine go_run 1 (F' := (19, [some (.int p1), some (.int p2)], [], h)) rfl ?_
        exact go_end rfl rfl
  refine go_run 0 (F' := (17, [some (.ref 0), some (.int p1), some (.int p2), some (.int p3), some (.ref 177), none], [], (h ++ [.inr (14, [])]))) rfl ?_
  refine go_run 1 (F' := (18, [some (.ref 0), some (.int p1), some (.int p2), some (.int p3), some (.ref 177), none], [.int 1], (h ++ [.inr (14, [])]))) rfl ?_
  exact go_end rfl rfl
set_option maxRecDepth 100000 in
theorem vc_message_3 {X : ie_X} {d : Nat} {h : ie_H} {p1 p2 p3 nl cf cw : Int32} {pl : Nat} (c0 : h[0]? = some (.inr (0, [.ref 1, .int nl, .int cf, .int cw, .ref pl, .ref 2, .ref 133]))) (q1 : ¬ (p1 < 0)) (q2 : ¬ (6 ≤ p1)) (q3 : p2 < 0) : Go X (d + 4) 121 (0, ie_en 121 [.ref 0, .int p1, .int p2, .int p3, .ref 177], [], h) (.inl (some (.int 1))) (h ++ [.inr (14, [])]) := by
  refine go_run 0 (F' := (0, [some (.ref 0), some (.int p1), some (.int p2), some (.int p3), some (.ref 177), none], [], h)) rfl ?_
  refine go_run 6 (F' := (7, [some (.ref 0), some (.int p1), some (.int p2), some (.int p3), some (.ref 177), none], [.int p3, .int p2, .int p1, .ref 0, .int 0, .ref 177], h)) rfl ?_
  refine go_catch (m' := 122) (ci := 14) (h1 := (h ++ [.inr (14, [])])) rfl (by simp only [ie_step, ie_iv, List.drop, c0, if_true]; rfl) ⟨rfl, Nat.le_of_ble_eq_true rfl⟩ rfl rfl rfl ?_ ?_
  · refine go_run 0 (F' := (0, [some (.ref 0), some (.int p1), some (.int p2), some (.int p3)], [], h)) rfl ?_
    refine go_run 4 (F' := (4, [some (.ref 0), some (.int p1), some (.int p2), some (.int p3)], [.int p3, .int p2, .int p1, .ref 0], h)) rfl ?_
    refine go_out (m' := 123) rfl (by simp only [ie_step, ie_iv, List.drop, c0, if_true]; rfl) ⟨rfl, Nat.le_of_ble_eq_true rfl⟩ rfl rfl ?_
    · refine go_run 0 (F' := (0, [some (.ref 0), some (.int p1), some (.int p2), some (.int p3)], [], h)) rfl ?_
      refine go_run 2 (F' := (2, [some (.ref 0), some (.int p1), some (.int p2), some (.int p3)], [.int p2, .int p1], h)) rfl ?_
      refine go_out (m' := 120) rfl rfl ⟨rfl, Nat.le_of_ble_eq_true rfl⟩ rfl rfl ?_
      · refine go_run 0 (F' := (0, [some (.int p1), some (.int p2)], [], h)) rfl ?_
        refine go_run 1 (F' := (1, [some (.int p1), some (.int p2)], [.int p1], h)) rfl ?_
        refine go_call (m' := 33) (v := some (.int 1)) (h1 := h) rfl rfl ⟨rfl, Nat.le_of_ble_eq_true rfl⟩ ?_ ?_
        · refine go_run 0 (F' := (0, [some (.int p1)], [], h)) rfl ?_
          refine go_run 1 (F' := (1, [some (.int p1)], [.int p1], h)) rfl ?_
          refine go_step rfl rfl ?_
          rw [if_neg q1]
          refine go_run 0 (F' := (4, [some (.int p1)], [], h)) rfl ?_
          refine go_run 2 (F' := (7, [some (.int p1)], [.int 6, .int p1], h)) rfl ?_
          refine go_step rfl rfl ?_
          rw [if_neg q2]
          refine go_run 0 (F' := (10, [some (.int p1)], [], h)) rfl ?_
          refine go_run 2 (F' := (15, [some (.int p1)], [.int 1], h)) rfl ?_
          exact go_end rfl rfl
        refine go_run 0 (F' := (4, [some (.int p1), some (.int p2)], [.int 1], h)) rfl ?_
        refine go_run 2 (F' := (8, [some (.int p1), some (.int p2)], [.int p2], h)) rfl ?_
        refine go_call (m' := 33) (v := some (.int 0)) (h1 := h) rfl rfl ⟨rfl, Nat.le_of_ble_eq_true rfl⟩ ?_ ?_
        · refine go_run 0 (F' := (0, [some (.int p2)], [], h)) rfl ?_
          refine go_run 1 (F' := (1, [some (.int p2)], [.int p2], h)) rfl ?_
          refine go_step rfl rfl ?_
          rw [if_pos q3]
          refine go_run 0 (F' := (14, [some (.int p2)], [], h)) rfl ?_
          refine go_run 1 (F' := (15, [some (.int p2)], [.int 0], h)) rfl ?_
          exact go_end rfl rfl
        refine go_run 0 (F' := (11, [some (.int p1), some (.int p2)], [.int 0], h)) rfl ?_
        refine go_run 1 (F' := (19, [some (.int p1), some (.int p2)], [], h)) rfl ?_
        exact go_end rfl rfl
  refine go_run 0 (F' := (17, [some (.ref 0), some (.int p1), some (.int p2), some (.int p3), some (.ref 177), none], [], (h ++ [.inr (14, [])]))) rfl ?_
  refine go_run 1 (F' := (18, [some (.ref 0), some (.int p1), some (.int p2), some (.int p3), some (.ref 177), none], [.int 1], (h ++ [.inr (14, [])]))) rfl ?_
  exact go_end rfl rfl
set_option maxRecDepth 100000 in
theorem vc_message_4 {X : ie_X} {d : Nat} {h : ie_H} {p1 p2 p3 nl cf cw : Int32} {pl : Nat} (c0 : h[0]? = some (.inr (0, [.ref 1, .int nl, .int cf, .int cw, .ref pl, .ref 2, .ref 133]))) (q1 : ¬ (p1 < 0)) (q2 : ¬ (6 ≤ p1)) (q3 : ¬ (p2 < 0)) (q4 : 6 ≤ p2) : Go X (d + 4) 121 (0, ie_en 121 [.ref 0, .int p1, .int p2, .int p3, .ref 177], [], h) (.inl (some (.int 1))) (h ++ [.inr (14, [])]) := by
  refine go_run 0 (F' := (0, [some (.ref 0), some (.int p1), some (.int p2), some (.int p3), some (.ref 177), none], [], h)) rfl ?_
  refine go_run 6 (F' := (7, [some (.ref 0), some (.int p1), some (.int p2), some (.int p3), some (.ref 177), none], [.int p3, .int p2, .int p1, .ref 0, .int 0, .ref 177], h)) rfl ?_
  refine go_catch (m' := 122) (ci := 14) (h1 := (h ++ [.inr (14, [])])) rfl (by simp only [ie_step, ie_iv, List.drop, c0, if_true]; rfl) ⟨rfl, Nat.le_of_ble_eq_true rfl⟩ rfl rfl rfl ?_ ?_
  · refine go_run 0 (F' := (0, [some (.ref 0), some (.int p1), some (.int p2), some (.int p3)], [], h)) rfl ?_
    refine go_run 4 (F' := (4, [some (.ref 0), some (.int p1), some (.int p2), some (.int p3)], [.int p3, .int p2, .int p1, .ref 0], h)) rfl ?_
    refine go_out (m' := 123) rfl (by simp only [ie_step, ie_iv, List.drop, c0, if_true]; rfl) ⟨rfl, Nat.le_of_ble_eq_true rfl⟩ rfl rfl ?_
    · refine go_run 0 (F' := (0, [some (.ref 0), some (.int p1), some (.int p2), some (.int p3)], [], h)) rfl ?_
      refine go_run 2 (F' := (2, [some (.ref 0), some (.int p1), some (.int p2), some (.int p3)], [.int p2, .int p1], h)) rfl ?_
      refine go_out (m' := 120) rfl rfl ⟨rfl, Nat.le_of_ble_eq_true rfl⟩ rfl rfl ?_
      · refine go_run 0 (F' := (0, [some (.int p1), some (.int p2)], [], h)) rfl ?_
        refine go_run 1 (F' := (1, [some (.int p1), some (.int p2)], [.int p1], h)) rfl ?_
        refine go_call (m' := 33) (v := some (.int 1)) (h1 := h) rfl rfl ⟨rfl, Nat.le_of_ble_eq_true rfl⟩ ?_ ?_
        · refine go_run 0 (F' := (0, [some (.int p1)], [], h)) rfl ?_
          refine go_run 1 (F' := (1, [some (.int p1)], [.int p1], h)) rfl ?_
          refine go_step rfl rfl ?_
          rw [if_neg q1]
          refine go_run 0 (F' := (4, [some (.int p1)], [], h)) rfl ?_
          refine go_run 2 (F' := (7, [some (.int p1)], [.int 6, .int p1], h)) rfl ?_
          refine go_step rfl rfl ?_
          rw [if_neg q2]
          refine go_run 0 (F' := (10, [some (.int p1)], [], h)) rfl ?_
          refine go_run 2 (F' := (15, [some (.int p1)], [.int 1], h)) rfl ?_
          exact go_end rfl rfl
        refine go_run 0 (F' := (4, [some (.int p1), some (.int p2)], [.int 1], h)) rfl ?_
        refine go_run 2 (F' := (8, [some (.int p1), some (.int p2)], [.int p2], h)) rfl ?_
        refine go_call (m' := 33) (v := some (.int 0)) (h1 := h) rfl rfl ⟨rfl, Nat.le_of_ble_eq_true rfl⟩ ?_ ?_
        · refine go_run 0 (F' := (0, [some (.int p2)], [], h)) rfl ?_
          refine go_run 1 (F' := (1, [some (.int p2)], [.int p2], h)) rfl ?_
          refine go_step rfl rfl ?_
          rw [if_neg q3]
          refine go_run 0 (F' := (4, [some (.int p2)], [], h)) rfl ?_
          refine go_run 2 (F' := (7, [some (.int p2)], [.int 6, .int p2], h)) rfl ?_
          refine go_step rfl rfl ?_
          rw [if_pos q4]
          refine go_run 0 (F' := (14, [some (.int p2)], [], h)) rfl ?_
          refine go_run 1 (F' := (15, [some (.int p2)], [.int 0], h)) rfl ?_
          exact go_end rfl rfl
        refine go_run 0 (F' := (11, [some (.int p1), some (.int p2)], [.int 0], h)) rfl ?_
        refine go_run 1 (F' := (19, [some (.int p1), some (.int p2)], [], h)) rfl ?_
        exact go_end rfl rfl
  refine go_run 0 (F' := (17, [some (.ref 0), some (.int p1), some (.int p2), some (.int p3), some (.ref 177), none], [], (h ++ [.inr (14, [])]))) rfl ?_
  refine go_run 1 (F' := (18, [some (.ref 0), some (.int p1), some (.int p2), some (.int p3), some (.ref 177), none], [.int 1], (h ++ [.inr (14, [])]))) rfl ?_
  exact go_end rfl rfl
set_option maxRecDepth 100000 in
theorem vc_message_5 {X : ie_X} {d : Nat} {h : ie_H} {p1 p2 p3 nl cf cw : Int32} {pl : Nat} (c0 : h[0]? = some (.inr (0, [.ref 1, .int nl, .int cf, .int cw, .ref pl, .ref 2, .ref 133]))) (q1 : ¬ (p1 < 0)) (q2 : ¬ (6 ≤ p1)) (q3 : ¬ (p2 < 0)) (q4 : ¬ (6 ≤ p2)) (q5 : p1 = p2) : Go X (d + 4) 121 (0, ie_en 121 [.ref 0, .int p1, .int p2, .int p3, .ref 177], [], h) (.inl (some (.int 1))) (h ++ [.inr (14, [])]) := by
  refine go_run 0 (F' := (0, [some (.ref 0), some (.int p1), some (.int p2), some (.int p3), some (.ref 177), none], [], h)) rfl ?_
  refine go_run 6 (F' := (7, [some (.ref 0), some (.int p1), some (.int p2), some (.int p3), some (.ref 177), none], [.int p3, .int p2, .int p1, .ref 0, .int 0, .ref 177], h)) rfl ?_
  refine go_catch (m' := 122) (ci := 14) (h1 := (h ++ [.inr (14, [])])) rfl (by simp only [ie_step, ie_iv, List.drop, c0, if_true]; rfl) ⟨rfl, Nat.le_of_ble_eq_true rfl⟩ rfl rfl rfl ?_ ?_
  · refine go_run 0 (F' := (0, [some (.ref 0), some (.int p1), some (.int p2), some (.int p3)], [], h)) rfl ?_
    refine go_run 4 (F' := (4, [some (.ref 0), some (.int p1), some (.int p2), some (.int p3)], [.int p3, .int p2, .int p1, .ref 0], h)) rfl ?_
    refine go_out (m' := 123) rfl (by simp only [ie_step, ie_iv, List.drop, c0, if_true]; rfl) ⟨rfl, Nat.le_of_ble_eq_true rfl⟩ rfl rfl ?_
    · refine go_run 0 (F' := (0, [some (.ref 0), some (.int p1), some (.int p2), some (.int p3)], [], h)) rfl ?_
      refine go_run 2 (F' := (2, [some (.ref 0), some (.int p1), some (.int p2), some (.int p3)], [.int p2, .int p1], h)) rfl ?_
      refine go_out (m' := 120) rfl rfl ⟨rfl, Nat.le_of_ble_eq_true rfl⟩ rfl rfl ?_
      · refine go_run 0 (F' := (0, [some (.int p1), some (.int p2)], [], h)) rfl ?_
        refine go_run 1 (F' := (1, [some (.int p1), some (.int p2)], [.int p1], h)) rfl ?_
        refine go_call (m' := 33) (v := some (.int 1)) (h1 := h) rfl rfl ⟨rfl, Nat.le_of_ble_eq_true rfl⟩ ?_ ?_
        · refine go_run 0 (F' := (0, [some (.int p1)], [], h)) rfl ?_
          refine go_run 1 (F' := (1, [some (.int p1)], [.int p1], h)) rfl ?_
          refine go_step rfl rfl ?_
          rw [if_neg q1]
          refine go_run 0 (F' := (4, [some (.int p1)], [], h)) rfl ?_
          refine go_run 2 (F' := (7, [some (.int p1)], [.int 6, .int p1], h)) rfl ?_
          refine go_step rfl rfl ?_
          rw [if_neg q2]
          refine go_run 0 (F' := (10, [some (.int p1)], [], h)) rfl ?_
          refine go_run 2 (F' := (15, [some (.int p1)], [.int 1], h)) rfl ?_
          exact go_end rfl rfl
        refine go_run 0 (F' := (4, [some (.int p1), some (.int p2)], [.int 1], h)) rfl ?_
        refine go_run 2 (F' := (8, [some (.int p1), some (.int p2)], [.int p2], h)) rfl ?_
        refine go_call (m' := 33) (v := some (.int 1)) (h1 := h) rfl rfl ⟨rfl, Nat.le_of_ble_eq_true rfl⟩ ?_ ?_
        · refine go_run 0 (F' := (0, [some (.int p2)], [], h)) rfl ?_
          refine go_run 1 (F' := (1, [some (.int p2)], [.int p2], h)) rfl ?_
          refine go_step rfl rfl ?_
          rw [if_neg q3]
          refine go_run 0 (F' := (4, [some (.int p2)], [], h)) rfl ?_
          refine go_run 2 (F' := (7, [some (.int p2)], [.int 6, .int p2], h)) rfl ?_
          refine go_step rfl rfl ?_
          rw [if_neg q4]
          refine go_run 0 (F' := (10, [some (.int p2)], [], h)) rfl ?_
          refine go_run 2 (F' := (15, [some (.int p2)], [.int 1], h)) rfl ?_
          exact go_end rfl rfl
        refine go_run 0 (F' := (11, [some (.int p1), some (.int p2)], [.int 1], h)) rfl ?_
        refine go_run 3 (F' := (16, [some (.int p1), some (.int p2)], [.int p2, .int p1], h)) rfl ?_
        refine go_step rfl rfl ?_
        rw [if_pos q5]
        refine go_run 0 (F' := (19, [some (.int p1), some (.int p2)], [], h)) rfl ?_
        exact go_end rfl rfl
  refine go_run 0 (F' := (17, [some (.ref 0), some (.int p1), some (.int p2), some (.int p3), some (.ref 177), none], [], (h ++ [.inr (14, [])]))) rfl ?_
  refine go_run 1 (F' := (18, [some (.ref 0), some (.int p1), some (.int p2), some (.int p3), some (.ref 177), none], [.int 1], (h ++ [.inr (14, [])]))) rfl ?_
  exact go_end rfl rfl
set_option maxRecDepth 100000 in
theorem vc_message_6 {X : ie_X} {d : Nat} {h : ie_H} {p1 p2 p3 nl cf cw : Int32} {pl : Nat} (c0 : h[0]? = some (.inr (0, [.ref 1, .int nl, .int cf, .int cw, .ref pl, .ref 2, .ref 133]))) (q1 : ¬ (p1 < 0)) (q2 : ¬ (6 ≤ p1)) (q3 : ¬ (p2 < 0)) (q4 : ¬ (6 ≤ p2)) (q5 : ¬ (p1 = p2)) (q6 : p3 < 0) : Go X (d + 4) 121 (0, ie_en 121 [.ref 0, .int p1, .int p2, .int p3, .ref 177], [], h) (.inl (some (.int 2))) (h ++ [.inr (15, [])]) := by
  refine go_run 0 (F' := (0, [some (.ref 0), some (.int p1), some (.int p2), some (.int p3), some (.ref 177), none], [], h)) rfl ?_
  refine go_run 6 (F' := (7, [some (.ref 0), some (.int p1), some (.int p2), some (.int p3), some (.ref 177), none], [.int p3, .int p2, .int p1, .ref 0, .int 0, .ref 177], h)) rfl ?_
  refine go_catch (m' := 122) (ci := 15) (h1 := (h ++ [.inr (15, [])])) rfl (by simp only [ie_step, ie_iv, List.drop, c0, if_true]; rfl) ⟨rfl, Nat.le_of_ble_eq_true rfl⟩ rfl rfl rfl ?_ ?_
  · refine go_run 0 (F' := (0, [some (.ref 0), some (.int p1), some (.int p2), some (.int p3)], [], h)) rfl ?_
    refine go_run 4 (F' := (4, [some (.ref 0), some (.int p1), some (.int p2), some (.int p3)], [.int p3, .int p2, .int p1, .ref 0], h)) rfl ?_
    refine go_out (m' := 123) rfl (by simp only [ie_step, ie_iv, List.drop, c0, if_true]; rfl) ⟨rfl, Nat.le_of_ble_eq_true rfl⟩ rfl rfl ?_
    · refine go_run 0 (F' := (0, [some (.ref 0), some (.int p1), some (.int p2), some (.int p3)], [], h)) rfl ?_
      refine go_run 2 (F' := (2, [some (.ref 0), some (.int p1), some (.int p2), some (.int p3)], [.int p2, .int p1], h)) rfl ?_
      refine go_call (m' := 120) (v := none) (h1 := h) rfl rfl ⟨rfl, Nat.le_of_ble_eq_true rfl⟩ ?_ ?_
      · refine go_run 0 (F' := (0, [some (.int p1), some (.int p2)], [], h)) rfl ?_
        refine go_run 1 (F' := (1, [some (.int p1), some (.int p2)], [.int p1], h)) rfl ?_
        refine go_call (m' := 33) (v := some (.int 1)) (h1 := h) rfl rfl ⟨rfl, Nat.le_of_ble_eq_true rfl⟩ ?_ ?_
        · refine go_run 0 (F' := (0, [some (.int p1)], [], h)) rfl ?_
          refine go_run 1 (F' := (1, [some (.int p1)], [.int p1], h)) rfl ?_
          refine go_step rfl rfl ?_
          rw [if_neg q1]
          refine go_run 0 (F' := (4, [some (.int p1)], [], h)) rfl ?_
          refine go_run 2 (F' := (7, [some (.int p1)], [.int 6, .int p1], h)) rfl ?_
          refine go_step rfl rfl ?_
          rw [if_neg q2]
          refine go_run 0 (F' := (10, [some (.int p1)], [], h)) rfl ?_
          refine go_run 2 (F' := (15, [some (.int p1)], [.int 1], h)) rfl ?_
          exact go_end rfl rfl
        refine go_run 0 (F' := (4, [some (.int p1), some (.int p2)], [.int 1], h)) rfl ?_
        refine go_run 2 (F' := (8, [some (.int p1), some (.int p2)], [.int p2], h)) rfl ?_
        refine go_call (m' := 33) (v := some (.int 1)) (h1 := h) rfl rfl ⟨rfl, Nat.le_of_ble_eq_true rfl⟩ ?_ ?_
        · refine go_run 0 (F' := (0, [some (.int p2)], [], h)) rfl ?_
          refine go_run 1 (F' := (1, [some (.int p2)], [.int p2], h)) rfl ?_
          refine go_step rfl rfl ?_
          rw [if_neg q3]
          refine go_run 0 (F' := (4, [some (.int p2)], [], h)) rfl ?_
          refine go_run 2 (F' := (7, [some (.int p2)], [.int 6, .int p2], h)) rfl ?_
          refine go_step rfl rfl ?_
          rw [if_neg q4]
          refine go_run 0 (F' := (10, [some (.int p2)], [], h)) rfl ?_
          refine go_run 2 (F' := (15, [some (.int p2)], [.int 1], h)) rfl ?_
          exact go_end rfl rfl
        refine go_run 0 (F' := (11, [some (.int p1), some (.int p2)], [.int 1], h)) rfl ?_
        refine go_run 3 (F' := (16, [some (.int p1), some (.int p2)], [.int p2, .int p1], h)) rfl ?_
        refine go_step rfl rfl ?_
        rw [if_neg q5]
        refine go_run 0 (F' := (27, [some (.int p1), some (.int p2)], [], h)) rfl ?_
        exact go_end rfl rfl
      refine go_run 0 (F' := (5, [some (.ref 0), some (.int p1), some (.int p2), some (.int p3)], [], h)) rfl ?_
      refine go_run 1 (F' := (6, [some (.ref 0), some (.int p1), some (.int p2), some (.int p3)], [.int p3], h)) rfl ?_
      refine go_step rfl rfl ?_
      rw [if_pos q6]
      refine go_run 0 (F' := (25, [some (.ref 0), some (.int p1), some (.int p2), some (.int p3)], [], h)) rfl ?_
      exact go_end rfl rfl
  refine go_run 0 (F' := (21, [some (.ref 0), some (.int p1), some (.int p2), some (.int p3), some (.ref 177), none], [], (h ++ [.inr (15, [])]))) rfl ?_
  refine go_run 1 (F' := (22, [some (.ref 0), some (.int p1), some (.int p2), some (.int p3), some (.ref 177), none], [.int 2], (h ++ [.inr (15, [])]))) rfl ?_
  exact go_end rfl rfl
set_option maxRecDepth 100000 in
theorem vc_message_7 {X : ie_X} {d : Nat} {h : ie_H} {p1 p2 p3 nl cf cw crm csp v4 v5 : Int32} {pl a1 : Nat} {z2 z3 : Value} (c0 : h[0]? = some (.inr (0, [.ref 1, .int nl, .int cf, .int cw, .ref pl, .ref 2, .ref 133]))) (c2 : h[2]? = some (.inr (8, [.ref 3, .ref 4, .ref 5, .ref 6, .int crm, .int csp]))) (c4 : h[4]? = some (.inl (5, 36, .inr (.inr (.inr (.inr rf_4)))))) (c_a1 : h[a1]? = some (.inr (6, [z2, z3, .int v4, .int v5]))) (q1 : ¬ (p1 < 0)) (q2 : ¬ (6 ≤ p1)) (q3 : ¬ (p2 < 0)) (q4 : ¬ (6 ≤ p2)) (q5 : ¬ (p1 = p2)) (q6 : ¬ (p3 < 0)) (b_6 : 0 ≤ Int32.toInt ((p1 * 6) + p2) ∧ Int32.toInt ((p1 * 6) + p2) < (36 : Int)) (r_7 : rf_4 (Int32.toNatClampNeg ((p1 * 6) + p2)) = some a1) (q7 : ¬ (p3 < v5)) : Go X (d + 4) 121 (0, ie_en 121 [.ref 0, .int p1, .int p2, .int p3, .ref 177], [], h) (.inl (some (.int 2))) (h ++ [.inr (15, [])]) := by
  refine go_run 0 (F' := (0, [some (.ref 0), some (.int p1), some (.int p2), some (.int p3), some (.ref 177), none], [], h)) rfl ?_
  refine go_run 6 (F' := (7, [some (.ref 0), some (.int p1), some (.int p2), some (.int p3), some (.ref 177), none], [.int p3, .int p2, .int p1, .ref 0, .int 0, .ref 177], h)) rfl ?_
  refine go_catch (m' := 122) (ci := 15) (h1 := (h ++ [.inr (15, [])])) rfl (by simp only [ie_step, ie_iv, List.drop, c0, if_true]; rfl) ⟨rfl, Nat.le_of_ble_eq_true rfl⟩ rfl rfl rfl ?_ ?_
  · refine go_run 0 (F' := (0, [some (.ref 0), some (.int p1), some (.int p2), some (.int p3)], [], h)) rfl ?_
    refine go_run 4 (F' := (4, [some (.ref 0), some (.int p1), some (.int p2), some (.int p3)], [.int p3, .int p2, .int p1, .ref 0], h)) rfl ?_
    refine go_out (m' := 123) rfl (by simp only [ie_step, ie_iv, List.drop, c0, if_true]; rfl) ⟨rfl, Nat.le_of_ble_eq_true rfl⟩ rfl rfl ?_
    · refine go_run 0 (F' := (0, [some (.ref 0), some (.int p1), some (.int p2), some (.int p3)], [], h)) rfl ?_
      refine go_run 2 (F' := (2, [some (.ref 0), some (.int p1), some (.int p2), some (.int p3)], [.int p2, .int p1], h)) rfl ?_
      refine go_call (m' := 120) (v := none) (h1 := h) rfl rfl ⟨rfl, Nat.le_of_ble_eq_true rfl⟩ ?_ ?_
      · refine go_run 0 (F' := (0, [some (.int p1), some (.int p2)], [], h)) rfl ?_
        refine go_run 1 (F' := (1, [some (.int p1), some (.int p2)], [.int p1], h)) rfl ?_
        refine go_call (m' := 33) (v := some (.int 1)) (h1 := h) rfl rfl ⟨rfl, Nat.le_of_ble_eq_true rfl⟩ ?_ ?_
        · refine go_run 0 (F' := (0, [some (.int p1)], [], h)) rfl ?_
          refine go_run 1 (F' := (1, [some (.int p1)], [.int p1], h)) rfl ?_
          refine go_step rfl rfl ?_
          rw [if_neg q1]
          refine go_run 0 (F' := (4, [some (.int p1)], [], h)) rfl ?_
          refine go_run 2 (F' := (7, [some (.int p1)], [.int 6, .int p1], h)) rfl ?_
          refine go_step rfl rfl ?_
          rw [if_neg q2]
          refine go_run 0 (F' := (10, [some (.int p1)], [], h)) rfl ?_
          refine go_run 2 (F' := (15, [some (.int p1)], [.int 1], h)) rfl ?_
          exact go_end rfl rfl
        refine go_run 0 (F' := (4, [some (.int p1), some (.int p2)], [.int 1], h)) rfl ?_
        refine go_run 2 (F' := (8, [some (.int p1), some (.int p2)], [.int p2], h)) rfl ?_
        refine go_call (m' := 33) (v := some (.int 1)) (h1 := h) rfl rfl ⟨rfl, Nat.le_of_ble_eq_true rfl⟩ ?_ ?_
        · refine go_run 0 (F' := (0, [some (.int p2)], [], h)) rfl ?_
          refine go_run 1 (F' := (1, [some (.int p2)], [.int p2], h)) rfl ?_
          refine go_step rfl rfl ?_
          rw [if_neg q3]
          refine go_run 0 (F' := (4, [some (.int p2)], [], h)) rfl ?_
          refine go_run 2 (F' := (7, [some (.int p2)], [.int 6, .int p2], h)) rfl ?_
          refine go_step rfl rfl ?_
          rw [if_neg q4]
          refine go_run 0 (F' := (10, [some (.int p2)], [], h)) rfl ?_
          refine go_run 2 (F' := (15, [some (.int p2)], [.int 1], h)) rfl ?_
          exact go_end rfl rfl
        refine go_run 0 (F' := (11, [some (.int p1), some (.int p2)], [.int 1], h)) rfl ?_
        refine go_run 3 (F' := (16, [some (.int p1), some (.int p2)], [.int p2, .int p1], h)) rfl ?_
        refine go_step rfl rfl ?_
        rw [if_neg q5]
        refine go_run 0 (F' := (27, [some (.int p1), some (.int p2)], [], h)) rfl ?_
        exact go_end rfl rfl
      refine go_run 0 (F' := (5, [some (.ref 0), some (.int p1), some (.int p2), some (.int p3)], [], h)) rfl ?_
      refine go_run 1 (F' := (6, [some (.ref 0), some (.int p1), some (.int p2), some (.int p3)], [.int p3], h)) rfl ?_
      refine go_step rfl rfl ?_
      rw [if_neg q6]
      refine go_run 0 (F' := (9, [some (.ref 0), some (.int p1), some (.int p2), some (.int p3)], [], h)) rfl ?_
      refine go_run 2 (F' := (11, [some (.ref 0), some (.int p1), some (.int p2), some (.int p3)], [.ref 0, .int p3], h)) rfl ?_
      refine go_gf rfl c0 rfl ?_
      refine go_run 0 (F' := (14, [some (.ref 0), some (.int p1), some (.int p2), some (.int p3)], [.ref 2, .int p3], h)) rfl ?_
      refine go_run 2 (F' := (16, [some (.ref 0), some (.int p1), some (.int p2), some (.int p3)], [.int p2, .int p1, .ref 2, .int p3], h)) rfl ?_
      refine go_call (m' := 104) (v := some (.ref a1)) (h1 := h) rfl (by simp only [ie_step, ie_iv, List.drop, c2, if_true]; rfl) ⟨rfl, Nat.le_of_ble_eq_true rfl⟩ ?_ ?_
      · refine go_run 0 (F' := (0, [some (.ref 2), some (.int p1), some (.int p2)], [], h)) rfl ?_
        refine go_run 1 (F' := (1, [some (.ref 2), some (.int p1), some (.int p2)], [.ref 2], h)) rfl ?_
        refine go_gf rfl c2 rfl ?_
        refine go_run 0 (F' := (4, [some (.ref 2), some (.int p1), some (.int p2)], [.ref 4], h)) rfl ?_
        refine go_run 5 (F' := (10, [some (.ref 2), some (.int p1), some (.int p2)], [.int ((p1 * 6) + p2), .ref 4], h)) rfl ?_
        refine go_aald rfl c4 (by decide) b_6 r_7 ?_
        refine go_run 0 (F' := (11, [some (.ref 2), some (.int p1), some (.int p2)], [.ref a1], h)) rfl ?_
        exact go_end rfl rfl
      refine go_run 0 (F' := (19, [some (.ref 0), some (.int p1), some (.int p2), some (.int p3)], [.ref a1, .int p3], h)) rfl ?_
      refine go_gf rfl c_a1 rfl ?_
      refine go_run 0 (F' := (22, [some (.ref 0), some (.int p1), some (.int p2), some (.int p3)], [.int v5, .int p3], h)) rfl ?_
      refine go_step rfl rfl ?_
      rw [if_neg q7]
      refine go_run 0 (F' := (25, [some (.ref 0), some (.int p1), some (.int p2), some (.int p3)], [], h)) rfl ?_
      exact go_end rfl rfl
  refine go_run 0 (F' := (21, [some (.ref 0), some (.int p1), some (.int p2), some (.int p3), some (.ref 177), none], [], (h ++ [.inr (15, [])]))) rfl ?_
  refine go_run 1 (F' := (22, [some (.ref 0), some (.int p1), some (.int p2), some (.int p3), some (.ref 177), none], [.int 2], (h ++ [.inr (15, [])]))) rfl ?_
  exact go_end rfl rfl
set_option maxRecDepth 100000 in
theorem vc_message_8 {X : ie_X} {d : Nat} {h : ie_H} {p1 p2 p3 nl cf cw crm csp v4 v5 v9 v10 : Int32} {pl a1 a6 a11 n13 : Nat} {z2 z3 z8 : Value} {f12 : Nat → Int32} {fo : Nat → Int64} (c0 : h[0]? = some (.inr (0, [.ref 1, .int nl, .int cf, .int cw, .ref pl, .ref 2, .ref 133]))) (c2 : h[2]? = some (.inr (8, [.ref 3, .ref 4, .ref 5, .ref 6, .int crm, .int csp]))) (c4 : h[4]? = some (.inl (5, 36, .inr (.inr (.inr (.inr rf_4)))))) (c_a1 : h[a1]? = some (.inr (6, [z2, z3, .int v4, .int v5]))) (c_a6 : h[a6]? = some (.inr (6, [.ref a11, z8, .int v9, .int v10]))) (c_a11 : h[a11]? = some (.inl (0, n13, .inl f12))) (c177 : h[177]? = some (.inl (3, 1, .inr (.inl fo)))) (q1 : ¬ (p1 < 0)) (q2 : ¬ (6 ≤ p1)) (q3 : ¬ (p2 < 0)) (q4 : ¬ (6 ≤ p2)) (q5 : ¬ (p1 = p2)) (q6 : ¬ (p3 < 0)) (b_6 : 0 ≤ Int32.toInt ((p1 * 6) + p2) ∧ Int32.toInt ((p1 * 6) + p2) < (36 : Int)) (r_7 : rf_4 (Int32.toNatClampNeg ((p1 * 6) + p2)) = some a1) (q7 : p3 < v5) (r_9 : rf_4 (Int32.toNatClampNeg ((p1 * 6) + p2)) = some a6) (b_10 : 0 ≤ Int32.toInt ((v9 + p3) - (v9 + p3) / 8 * 8) ∧ Int32.toInt ((v9 + p3) - (v9 + p3) / 8 * 8) < (n13 : Int)) (nS_a11 : a11 ≠ ie_S) (ne_177_a1 : 177 ≠ a1) (ne_177_a6 : 177 ≠ a6) (ne_177_a11 : 177 ≠ a11) : Go X (d + 4) 121 (0, ie_en 121 [.ref 0, .int p1, .int p2, .int p3, .ref 177], [], h) (.inl (some (.int 0))) (List.set h 177 (.inl (3, 1, .inr (.inl (vp_updL fo 0 (Int32.toInt64 (f12 (Int32.toNatClampNeg ((v9 + p3) - (v9 + p3) / 8 * 8))))))))) := by
  refine go_run 0 (F' := (0, [some (.ref 0), some (.int p1), some (.int p2), some (.int p3), some (.ref 177), none], [], h)) rfl ?_
  refine go_run 6 (F' := (7, [some (.ref 0), some (.int p1), some (.int p2), some (.int p3), some (.ref 177), none], [.int p3, .int p2, .int p1, .ref 0, .int 0, .ref 177], h)) rfl ?_
  refine go_call (m' := 122) (v := some (.int (f12 (Int32.toNatClampNeg ((v9 + p3) - (v9 + p3) / 8 * 8))))) (h1 := h) rfl (by simp only [ie_step, ie_iv, List.drop, c0, if_true]; rfl) ⟨rfl, Nat.le_of_ble_eq_true rfl⟩ ?_ ?_
  · refine go_run 0 (F' := (0, [some (.ref 0), some (.int p1), some (.int p2), some (.int p3)], [], h)) rfl ?_
    refine go_run 4 (F' := (4, [some (.ref 0), some (.int p1), some (.int p2), some (.int p3)], [.int p3, .int p2, .int p1, .ref 0], h)) rfl ?_
    refine go_call (m' := 123) (v := none) (h1 := h) rfl (by simp only [ie_step, ie_iv, List.drop, c0, if_true]; rfl) ⟨rfl, Nat.le_of_ble_eq_true rfl⟩ ?_ ?_
    · refine go_run 0 (F' := (0, [some (.ref 0), some (.int p1), some (.int p2), some (.int p3)], [], h)) rfl ?_
      refine go_run 2 (F' := (2, [some (.ref 0), some (.int p1), some (.int p2), some (.int p3)], [.int p2, .int p1], h)) rfl ?_
      refine go_call (m' := 120) (v := none) (h1 := h) rfl rfl ⟨rfl, Nat.le_of_ble_eq_true rfl⟩ ?_ ?_
      · refine go_run 0 (F' := (0, [some (.int p1), some (.int p2)], [], h)) rfl ?_
        refine go_run 1 (F' := (1, [some (.int p1), some (.int p2)], [.int p1], h)) rfl ?_
        refine go_call (m' := 33) (v := some (.int 1)) (h1 := h) rfl rfl ⟨rfl, Nat.le_of_ble_eq_true rfl⟩ ?_ ?_
        · refine go_run 0 (F' := (0, [some (.int p1)], [], h)) rfl ?_
          refine go_run 1 (F' := (1, [some (.int p1)], [.int p1], h)) rfl ?_
          refine go_step rfl rfl ?_
          rw [if_neg q1]
          refine go_run 0 (F' := (4, [some (.int p1)], [], h)) rfl ?_
          refine go_run 2 (F' := (7, [some (.int p1)], [.int 6, .int p1], h)) rfl ?_
          refine go_step rfl rfl ?_
          rw [if_neg q2]
          refine go_run 0 (F' := (10, [some (.int p1)], [], h)) rfl ?_
          refine go_run 2 (F' := (15, [some (.int p1)], [.int 1], h)) rfl ?_
          exact go_end rfl rfl
        refine go_run 0 (F' := (4, [some (.int p1), some (.int p2)], [.int 1], h)) rfl ?_
        refine go_run 2 (F' := (8, [some (.int p1), some (.int p2)], [.int p2], h)) rfl ?_
        refine go_call (m' := 33) (v := some (.int 1)) (h1 := h) rfl rfl ⟨rfl, Nat.le_of_ble_eq_true rfl⟩ ?_ ?_
        · refine go_run 0 (F' := (0, [some (.int p2)], [], h)) rfl ?_
          refine go_run 1 (F' := (1, [some (.int p2)], [.int p2], h)) rfl ?_
          refine go_step rfl rfl ?_
          rw [if_neg q3]
          refine go_run 0 (F' := (4, [some (.int p2)], [], h)) rfl ?_
          refine go_run 2 (F' := (7, [some (.int p2)], [.int 6, .int p2], h)) rfl ?_
          refine go_step rfl rfl ?_
          rw [if_neg q4]
          refine go_run 0 (F' := (10, [some (.int p2)], [], h)) rfl ?_
          refine go_run 2 (F' := (15, [some (.int p2)], [.int 1], h)) rfl ?_
          exact go_end rfl rfl
        refine go_run 0 (F' := (11, [some (.int p1), some (.int p2)], [.int 1], h)) rfl ?_
        refine go_run 3 (F' := (16, [some (.int p1), some (.int p2)], [.int p2, .int p1], h)) rfl ?_
        refine go_step rfl rfl ?_
        rw [if_neg q5]
        refine go_run 0 (F' := (27, [some (.int p1), some (.int p2)], [], h)) rfl ?_
        exact go_end rfl rfl
      refine go_run 0 (F' := (5, [some (.ref 0), some (.int p1), some (.int p2), some (.int p3)], [], h)) rfl ?_
      refine go_run 1 (F' := (6, [some (.ref 0), some (.int p1), some (.int p2), some (.int p3)], [.int p3], h)) rfl ?_
      refine go_step rfl rfl ?_
      rw [if_neg q6]
      refine go_run 0 (F' := (9, [some (.ref 0), some (.int p1), some (.int p2), some (.int p3)], [], h)) rfl ?_
      refine go_run 2 (F' := (11, [some (.ref 0), some (.int p1), some (.int p2), some (.int p3)], [.ref 0, .int p3], h)) rfl ?_
      refine go_gf rfl c0 rfl ?_
      refine go_run 0 (F' := (14, [some (.ref 0), some (.int p1), some (.int p2), some (.int p3)], [.ref 2, .int p3], h)) rfl ?_
      refine go_run 2 (F' := (16, [some (.ref 0), some (.int p1), some (.int p2), some (.int p3)], [.int p2, .int p1, .ref 2, .int p3], h)) rfl ?_
      refine go_call (m' := 104) (v := some (.ref a1)) (h1 := h) rfl (by simp only [ie_step, ie_iv, List.drop, c2, if_true]; rfl) ⟨rfl, Nat.le_of_ble_eq_true rfl⟩ ?_ ?_
      · refine go_run 0 (F' := (0, [some (.ref 2), some (.int p1), some (.int p2)], [], h)) rfl ?_
        refine go_run 1 (F' := (1, [some (.ref 2), some (.int p1), some (.int p2)], [.ref 2], h)) rfl ?_
        refine go_gf rfl c2 rfl ?_
        refine go_run 0 (F' := (4, [some (.ref 2), some (.int p1), some (.int p2)], [.ref 4], h)) rfl ?_
        refine go_run 5 (F' := (10, [some (.ref 2), some (.int p1), some (.int p2)], [.int ((p1 * 6) + p2), .ref 4], h)) rfl ?_
        refine go_aald rfl c4 (by decide) b_6 r_7 ?_
        refine go_run 0 (F' := (11, [some (.ref 2), some (.int p1), some (.int p2)], [.ref a1], h)) rfl ?_
        exact go_end rfl rfl
      refine go_run 0 (F' := (19, [some (.ref 0), some (.int p1), some (.int p2), some (.int p3)], [.ref a1, .int p3], h)) rfl ?_
      refine go_gf rfl c_a1 rfl ?_
      refine go_run 0 (F' := (22, [some (.ref 0), some (.int p1), some (.int p2), some (.int p3)], [.int v5, .int p3], h)) rfl ?_
      refine go_step rfl rfl ?_
      rw [if_pos q7]
      refine go_run 0 (F' := (33, [some (.ref 0), some (.int p1), some (.int p2), some (.int p3)], [], h)) rfl ?_
      exact go_end rfl rfl
    refine go_run 0 (F' := (7, [some (.ref 0), some (.int p1), some (.int p2), some (.int p3)], [], h)) rfl ?_
    refine go_run 1 (F' := (8, [some (.ref 0), some (.int p1), some (.int p2), some (.int p3)], [.ref 0], h)) rfl ?_
    refine go_gf rfl c0 rfl ?_
    refine go_run 0 (F' := (11, [some (.ref 0), some (.int p1), some (.int p2), some (.int p3)], [.ref 2], h)) rfl ?_
    refine go_run 2 (F' := (13, [some (.ref 0), some (.int p1), some (.int p2), some (.int p3)], [.int p2, .int p1, .ref 2], h)) rfl ?_
    refine go_call (m' := 104) (v := some (.ref a6)) (h1 := h) rfl (by simp only [ie_step, ie_iv, List.drop, c2, if_true]; rfl) ⟨rfl, Nat.le_of_ble_eq_true rfl⟩ ?_ ?_
    · refine go_run 0 (F' := (0, [some (.ref 2), some (.int p1), some (.int p2)], [], h)) rfl ?_
      refine go_run 1 (F' := (1, [some (.ref 2), some (.int p1), some (.int p2)], [.ref 2], h)) rfl ?_
      refine go_gf rfl c2 rfl ?_
      refine go_run 0 (F' := (4, [some (.ref 2), some (.int p1), some (.int p2)], [.ref 4], h)) rfl ?_
      refine go_run 5 (F' := (10, [some (.ref 2), some (.int p1), some (.int p2)], [.int ((p1 * 6) + p2), .ref 4], h)) rfl ?_
      refine go_aald rfl c4 (by decide) b_6 r_9 ?_
      refine go_run 0 (F' := (11, [some (.ref 2), some (.int p1), some (.int p2)], [.ref a6], h)) rfl ?_
      exact go_end rfl rfl
    refine go_run 0 (F' := (16, [some (.ref 0), some (.int p1), some (.int p2), some (.int p3)], [.ref a6], h)) rfl ?_
    refine go_run 1 (F' := (17, [some (.ref 0), some (.int p1), some (.int p2), some (.int p3)], [.int p3, .ref a6], h)) rfl ?_
    refine go_call (m' := 110) (v := some (.int (f12 (Int32.toNatClampNeg ((v9 + p3) - (v9 + p3) / 8 * 8))))) (h1 := h) rfl (by simp only [ie_step, ie_iv, List.drop, c_a6, if_true]; rfl) ⟨rfl, Nat.le_of_ble_eq_true rfl⟩ ?_ ?_
    · refine go_run 0 (F' := (0, [some (.ref a6), some (.int p3)], [], h)) rfl ?_
      refine go_run 1 (F' := (1, [some (.ref a6), some (.int p3)], [.ref a6], h)) rfl ?_
      refine go_gf rfl c_a6 rfl ?_
      refine go_run 0 (F' := (4, [some (.ref a6), some (.int p3)], [.ref a11], h)) rfl ?_
      refine go_run 1 (F' := (5, [some (.ref a6), some (.int p3)], [.ref a6, .ref a11], h)) rfl ?_
      refine go_gf rfl c_a6 rfl ?_
      refine go_run 0 (F' := (8, [some (.ref a6), some (.int p3)], [.int v9, .ref a11], h)) rfl ?_
      refine go_run 4 (F' := (13, [some (.ref a6), some (.int p3)], [.int ((v9 + p3) - (v9 + p3) / 8 * 8), .ref a11], h)) rfl ?_
      refine go_iald rfl nS_a11 c_a11 b_10 rfl ?_
      refine go_run 0 (F' := (14, [some (.ref a6), some (.int p3)], [.int (f12 (Int32.toNatClampNeg ((v9 + p3) - (v9 + p3) / 8 * 8)))], h)) rfl ?_
      exact go_end rfl rfl
    refine go_run 0 (F' := (20, [some (.ref 0), some (.int p1), some (.int p2), some (.int p3)], [.int (f12 (Int32.toNatClampNeg ((v9 + p3) - (v9 + p3) / 8 * 8)))], h)) rfl ?_
    exact go_end rfl rfl
  refine go_run 0 (F' := (10, [some (.ref 0), some (.int p1), some (.int p2), some (.int p3), some (.ref 177), none], [.int (f12 (Int32.toNatClampNeg ((v9 + p3) - (v9 + p3) / 8 * 8))), .int 0, .ref 177], h)) rfl ?_
  refine go_run 1 (F' := (11, [some (.ref 0), some (.int p1), some (.int p2), some (.int p3), some (.ref 177), none], [.long (Int32.toInt64 (f12 (Int32.toNatClampNeg ((v9 + p3) - (v9 + p3) / 8 * 8)))), .int 0, .ref 177], h)) rfl ?_
  refine go_last rfl c177 (by decide) rfl ?_
  refine go_run 0 (F' := (12, [some (.ref 0), some (.int p1), some (.int p2), some (.int p3), some (.ref 177), none], [], (List.set h 177 (.inl (3, 1, .inr (.inl (vp_updL fo 0 (Int32.toInt64 (f12 (Int32.toNatClampNeg ((v9 + p3) - (v9 + p3) / 8 * 8))))))))))) rfl ?_
  refine go_run 2 (F' := (24, [some (.ref 0), some (.int p1), some (.int p2), some (.int p3), some (.ref 177), none], [.int 0], (List.set h 177 (.inl (3, 1, .inr (.inl (vp_updL fo 0 (Int32.toInt64 (f12 (Int32.toNatClampNeg ((v9 + p3) - (v9 + p3) / 8 * 8))))))))))) rfl ?_
  exact go_end rfl rfl
set_option maxRecDepth 100000 in
theorem vm_message_1 {X : ie_X} {d : Nat} {h : ie_H} {p1 p2 p3 t_ ty fa wh ch it at_ bad co de st sz tp am bm mn rm sp be wo : Int32} (c134 : h[134]? = some (mo t_ ty fa wh ch it at_ bad co de 1 st sz tp am bm mn rm sp be wo)) (q1 : p1 < 0) : Go X (d + 3) 214 (0, ie_en 214 [.ref 134, .int p1, .int p2, .int p3], [], h) (.inl (some (.int 0))) (List.set h 134 (mo 1 ty fa wh ch it at_ bad co de 1 st sz tp am bm mn rm sp be wo)) := by
  refine go_run 0 (F' := (0, [some (.ref 134), some (.int p1), some (.int p2), some (.int p3)], [], h)) rfl ?_
  refine go_run 5 (F' := (5, [some (.ref 134), some (.int p1), some (.int p2), some (.int p3)], [.int p3, .int p2, .int p1, .ref 134, .ref 134], h)) rfl ?_
  refine go_call (m' := 215) (v := some (.int 1)) (h1 := h) rfl (by simp only [ie_step, ie_iv, List.drop, c134, mo, if_true]; rfl) ⟨rfl, Nat.le_of_ble_eq_true rfl⟩ ?_ ?_
  · refine go_run 0 (F' := (0, [some (.ref 134), some (.int p1), some (.int p2), some (.int p3)], [], h)) rfl ?_
    refine go_run 2 (F' := (2, [some (.ref 134), some (.int p1), some (.int p2), some (.int p3)], [.int p2, .int p1], h)) rfl ?_
    refine go_call (m' := 213) (v := some (.int 1)) (h1 := h) rfl rfl ⟨rfl, Nat.le_of_ble_eq_true rfl⟩ ?_ ?_
    · refine go_run 0 (F' := (0, [some (.int p1), some (.int p2)], [], h)) rfl ?_
      refine go_run 1 (F' := (1, [some (.int p1), some (.int p2)], [.int p1], h)) rfl ?_
      refine go_call (m' := 183) (v := some (.int 1)) (h1 := h) rfl rfl ⟨rfl, Nat.le_of_ble_eq_true rfl⟩ ?_ ?_
      · refine go_run 0 (F' := (0, [some (.int p1)], [], h)) rfl ?_
        refine go_run 1 (F' := (1, [some (.int p1)], [.int p1], h)) rfl ?_
        refine go_step rfl rfl ?_
        rw [if_pos q1]
        refine go_run 0 (F' := (9, [some (.int p1)], [], h)) rfl ?_
        refine go_run 2 (F' := (14, [some (.int p1)], [.int 1], h)) rfl ?_
        exact go_end rfl rfl
      refine go_run 0 (F' := (4, [some (.int p1), some (.int p2)], [.int 1], h)) rfl ?_
      refine go_run 3 (F' := (24, [some (.int p1), some (.int p2)], [.int 1], h)) rfl ?_
      exact go_end rfl rfl
    refine go_run 0 (F' := (5, [some (.ref 134), some (.int p1), some (.int p2), some (.int p3)], [.int 1], h)) rfl ?_
    refine go_run 3 (F' := (36, [some (.ref 134), some (.int p1), some (.int p2), some (.int p3)], [.int 1], h)) rfl ?_
    exact go_end rfl rfl
  refine go_run 0 (F' := (8, [some (.ref 134), some (.int p1), some (.int p2), some (.int p3)], [.int 1, .ref 134], h)) rfl ?_
  refine go_pf rfl c134 (Nat.le_of_ble_eq_true rfl) rfl rfl ?_
  refine go_run 0 (F' := (11, [some (.ref 134), some (.int p1), some (.int p2), some (.int p3)], [], (List.set h 134 (mo 1 ty fa wh ch it at_ bad co de 1 st sz tp am bm mn rm sp be wo)))) rfl ?_
  refine go_run 1 (F' := (12, [some (.ref 134), some (.int p1), some (.int p2), some (.int p3)], [.ref 134], (List.set h 134 (mo 1 ty fa wh ch it at_ bad co de 1 st sz tp am bm mn rm sp be wo)))) rfl ?_
  refine go_gf rfl (gs_self c134) rfl ?_
  refine go_run 0 (F' := (15, [some (.ref 134), some (.int p1), some (.int p2), some (.int p3)], [.int 1], (List.set h 134 (mo 1 ty fa wh ch it at_ bad co de 1 st sz tp am bm mn rm sp be wo)))) rfl ?_
  refine go_run 2 (F' := (38, [some (.ref 134), some (.int p1), some (.int p2), some (.int p3)], [.int 0], (List.set h 134 (mo 1 ty fa wh ch it at_ bad co de 1 st sz tp am bm mn rm sp be wo)))) rfl ?_
  exact go_end rfl rfl
set_option maxRecDepth 100000 in
theorem vm_message_2 {X : ie_X} {d : Nat} {h : ie_H} {p1 p2 p3 t_ ty fa wh ch it at_ bad co de st sz tp am bm mn rm sp be wo : Int32} (c134 : h[134]? = some (mo t_ ty fa wh ch it at_ bad co de 1 st sz tp am bm mn rm sp be wo)) (q1 : ¬ (p1 < 0)) (q2 : ¬ (p1 ≤ 5)) : Go X (d + 3) 214 (0, ie_en 214 [.ref 134, .int p1, .int p2, .int p3], [], h) (.inl (some (.int 0))) (List.set h 134 (mo 1 ty fa wh ch it at_ bad co de 1 st sz tp am bm mn rm sp be wo)) := by
  refine go_run 0 (F' := (0, [some (.ref 134), some (.int p1), some (.int p2), some (.int p3)], [], h)) rfl ?_
  refine go_run 5 (F' := (5, [some (.ref 134), some (.int p1), some (.int p2), some (.int p3)], [.int p3, .int p2, .int p1, .ref 134, .ref 134], h)) rfl ?_
  refine go_call (m' := 215) (v := some (.int 1)) (h1 := h) rfl (by simp only [ie_step, ie_iv, List.drop, c134, mo, if_true]; rfl) ⟨rfl, Nat.le_of_ble_eq_true rfl⟩ ?_ ?_
  · refine go_run 0 (F' := (0, [some (.ref 134), some (.int p1), some (.int p2), some (.int p3)], [], h)) rfl ?_
    refine go_run 2 (F' := (2, [some (.ref 134), some (.int p1), some (.int p2), some (.int p3)], [.int p2, .int p1], h)) rfl ?_
    refine go_call (m' := 213) (v := some (.int 1)) (h1 := h) rfl rfl ⟨rfl, Nat.le_of_ble_eq_true rfl⟩ ?_ ?_
    · refine go_run 0 (F' := (0, [some (.int p1), some (.int p2)], [], h)) rfl ?_
      refine go_run 1 (F' := (1, [some (.int p1), some (.int p2)], [.int p1], h)) rfl ?_
      refine go_call (m' := 183) (v := some (.int 1)) (h1 := h) rfl rfl ⟨rfl, Nat.le_of_ble_eq_true rfl⟩ ?_ ?_
      · refine go_run 0 (F' := (0, [some (.int p1)], [], h)) rfl ?_
        refine go_run 1 (F' := (1, [some (.int p1)], [.int p1], h)) rfl ?_
        refine go_step rfl rfl ?_
        rw [if_neg q1]
        refine go_run 0 (F' := (4, [some (.int p1)], [], h)) rfl ?_
        refine go_run 2 (F' := (6, [some (.int p1)], [.int 5, .int p1], h)) rfl ?_
        refine go_step rfl rfl ?_
        rw [if_neg q2]
        refine go_run 0 (F' := (9, [some (.int p1)], [], h)) rfl ?_
        refine go_run 2 (F' := (14, [some (.int p1)], [.int 1], h)) rfl ?_
        exact go_end rfl rfl
      refine go_run 0 (F' := (4, [some (.int p1), some (.int p2)], [.int 1], h)) rfl ?_
      refine go_run 3 (F' := (24, [some (.int p1), some (.int p2)], [.int 1], h)) rfl ?_
      exact go_end rfl rfl
    refine go_run 0 (F' := (5, [some (.ref 134), some (.int p1), some (.int p2), some (.int p3)], [.int 1], h)) rfl ?_
    refine go_run 3 (F' := (36, [some (.ref 134), some (.int p1), some (.int p2), some (.int p3)], [.int 1], h)) rfl ?_
    exact go_end rfl rfl
  refine go_run 0 (F' := (8, [some (.ref 134), some (.int p1), some (.int p2), some (.int p3)], [.int 1, .ref 134], h)) rfl ?_
  refine go_pf rfl c134 (Nat.le_of_ble_eq_true rfl) rfl rfl ?_
  refine go_run 0 (F' := (11, [some (.ref 134), some (.int p1), some (.int p2), some (.int p3)], [], (List.set h 134 (mo 1 ty fa wh ch it at_ bad co de 1 st sz tp am bm mn rm sp be wo)))) rfl ?_
  refine go_run 1 (F' := (12, [some (.ref 134), some (.int p1), some (.int p2), some (.int p3)], [.ref 134], (List.set h 134 (mo 1 ty fa wh ch it at_ bad co de 1 st sz tp am bm mn rm sp be wo)))) rfl ?_
  refine go_gf rfl (gs_self c134) rfl ?_
  refine go_run 0 (F' := (15, [some (.ref 134), some (.int p1), some (.int p2), some (.int p3)], [.int 1], (List.set h 134 (mo 1 ty fa wh ch it at_ bad co de 1 st sz tp am bm mn rm sp be wo)))) rfl ?_
  refine go_run 2 (F' := (38, [some (.ref 134), some (.int p1), some (.int p2), some (.int p3)], [.int 0], (List.set h 134 (mo 1 ty fa wh ch it at_ bad co de 1 st sz tp am bm mn rm sp be wo)))) rfl ?_
  exact go_end rfl rfl
set_option maxRecDepth 100000 in
theorem vm_message_3 {X : ie_X} {d : Nat} {h : ie_H} {p1 p2 p3 t_ ty fa wh ch it at_ bad co de st sz tp am bm mn rm sp be wo : Int32} (c134 : h[134]? = some (mo t_ ty fa wh ch it at_ bad co de 1 st sz tp am bm mn rm sp be wo)) (q1 : ¬ (p1 < 0)) (q2 : p1 ≤ 5) (q3 : p2 < 0) : Go X (d + 3) 214 (0, ie_en 214 [.ref 134, .int p1, .int p2, .int p3], [], h) (.inl (some (.int 0))) (List.set h 134 (mo 1 ty fa wh ch it at_ bad co de 1 st sz tp am bm mn rm sp be wo)) := by
  refine go_run 0 (F' := (0, [some (.ref 134), some (.int p1), some (.int p2), some (.int p3)], [], h)) rfl ?_
  refine go_run 5 (F' := (5, [some (.ref 134), some (.int p1), some (.int p2), some (.int p3)], [.int p3, .int p2, .int p1, .ref 134, .ref 134], h)) rfl ?_
  refine go_call (m' := 215) (v := some (.int 1)) (h1 := h) rfl (by simp only [ie_step, ie_iv, List.drop, c134, mo, if_true]; rfl) ⟨rfl, Nat.le_of_ble_eq_true rfl⟩ ?_ ?_
  · refine go_run 0 (F' := (0, [some (.ref 134), some (.int p1), some (.int p2), some (.int p3)], [], h)) rfl ?_
    refine go_run 2 (F' := (2, [some (.ref 134), some (.int p1), some (.int p2), some (.int p3)], [.int p2, .int p1], h)) rfl ?_
    refine go_call (m' := 213) (v := some (.int 1)) (h1 := h) rfl rfl ⟨rfl, Nat.le_of_ble_eq_true rfl⟩ ?_ ?_
    · refine go_run 0 (F' := (0, [some (.int p1), some (.int p2)], [], h)) rfl ?_
      refine go_run 1 (F' := (1, [some (.int p1), some (.int p2)], [.int p1], h)) rfl ?_
      refine go_call (m' := 183) (v := some (.int 0)) (h1 := h) rfl rfl ⟨rfl, Nat.le_of_ble_eq_true rfl⟩ ?_ ?_
      · refine go_run 0 (F' := (0, [some (.int p1)], [], h)) rfl ?_
        refine go_run 1 (F' := (1, [some (.int p1)], [.int p1], h)) rfl ?_
        refine go_step rfl rfl ?_
        rw [if_neg q1]
        refine go_run 0 (F' := (4, [some (.int p1)], [], h)) rfl ?_
        refine go_run 2 (F' := (6, [some (.int p1)], [.int 5, .int p1], h)) rfl ?_
        refine go_step rfl rfl ?_
        rw [if_pos q2]
        refine go_run 0 (F' := (13, [some (.int p1)], [], h)) rfl ?_
        refine go_run 1 (F' := (14, [some (.int p1)], [.int 0], h)) rfl ?_
        exact go_end rfl rfl
      refine go_run 0 (F' := (4, [some (.int p1), some (.int p2)], [.int 0], h)) rfl ?_
      refine go_run 2 (F' := (8, [some (.int p1), some (.int p2)], [.int p2], h)) rfl ?_
      refine go_call (m' := 183) (v := some (.int 1)) (h1 := h) rfl rfl ⟨rfl, Nat.le_of_ble_eq_true rfl⟩ ?_ ?_
      · refine go_run 0 (F' := (0, [some (.int p2)], [], h)) rfl ?_
        refine go_run 1 (F' := (1, [some (.int p2)], [.int p2], h)) rfl ?_
        refine go_step rfl rfl ?_
        rw [if_pos q3]
        refine go_run 0 (F' := (9, [some (.int p2)], [], h)) rfl ?_
        refine go_run 2 (F' := (14, [some (.int p2)], [.int 1], h)) rfl ?_
        exact go_end rfl rfl
      refine go_run 0 (F' := (11, [some (.int p1), some (.int p2)], [.int 1], h)) rfl ?_
      refine go_run 3 (F' := (24, [some (.int p1), some (.int p2)], [.int 1], h)) rfl ?_
      exact go_end rfl rfl
    refine go_run 0 (F' := (5, [some (.ref 134), some (.int p1), some (.int p2), some (.int p3)], [.int 1], h)) rfl ?_
    refine go_run 3 (F' := (36, [some (.ref 134), some (.int p1), some (.int p2), some (.int p3)], [.int 1], h)) rfl ?_
    exact go_end rfl rfl
  refine go_run 0 (F' := (8, [some (.ref 134), some (.int p1), some (.int p2), some (.int p3)], [.int 1, .ref 134], h)) rfl ?_
  refine go_pf rfl c134 (Nat.le_of_ble_eq_true rfl) rfl rfl ?_
  refine go_run 0 (F' := (11, [some (.ref 134), some (.int p1), some (.int p2), some (.int p3)], [], (List.set h 134 (mo 1 ty fa wh ch it at_ bad co de 1 st sz tp am bm mn rm sp be wo)))) rfl ?_
  refine go_run 1 (F' := (12, [some (.ref 134), some (.int p1), some (.int p2), some (.int p3)], [.ref 134], (List.set h 134 (mo 1 ty fa wh ch it at_ bad co de 1 st sz tp am bm mn rm sp be wo)))) rfl ?_
  refine go_gf rfl (gs_self c134) rfl ?_
  refine go_run 0 (F' := (15, [some (.ref 134), some (.int p1), some (.int p2), some (.int p3)], [.int 1], (List.set h 134 (mo 1 ty fa wh ch it at_ bad co de 1 st sz tp am bm mn rm sp be wo)))) rfl ?_
  refine go_run 2 (F' := (38, [some (.ref 134), some (.int p1), some (.int p2), some (.int p3)], [.int 0], (List.set h 134 (mo 1 ty fa wh ch it at_ bad co de 1 st sz tp am bm mn rm sp be wo)))) rfl ?_
  exact go_end rfl rfl
set_option maxRecDepth 100000 in
theorem vm_message_4 {X : ie_X} {d : Nat} {h : ie_H} {p1 p2 p3 t_ ty fa wh ch it at_ bad co de st sz tp am bm mn rm sp be wo : Int32} (c134 : h[134]? = some (mo t_ ty fa wh ch it at_ bad co de 1 st sz tp am bm mn rm sp be wo)) (q1 : ¬ (p1 < 0)) (q2 : p1 ≤ 5) (q3 : ¬ (p2 < 0)) (q4 : ¬ (p2 ≤ 5)) : Go X (d + 3) 214 (0, ie_en 214 [.ref 134, .int p1, .int p2, .int p3], [], h) (.inl (some (.int 0))) (List.set h 134 (mo 1 ty fa wh ch it at_ bad co de 1 st sz tp am bm mn rm sp be wo)) := by
  refine go_run 0 (F' := (0, [some (.ref 134), some (.int p1), some (.int p2), some (.int p3)], [], h)) rfl ?_
  refine go_run 5 (F' := (5, [some (.ref 134), some (.int p1), some (.int p2), some (.int p3)], [.int p3, .int p2, .int p1, .ref 134, .ref 134], h)) rfl ?_
  refine go_call (m' := 215) (v := some (.int 1)) (h1 := h) rfl (by simp only [ie_step, ie_iv, List.drop, c134, mo, if_true]; rfl) ⟨rfl, Nat.le_of_ble_eq_true rfl⟩ ?_ ?_
  · refine go_run 0 (F' := (0, [some (.ref 134), some (.int p1), some (.int p2), some (.int p3)], [], h)) rfl ?_
    refine go_run 2 (F' := (2, [some (.ref 134), some (.int p1), some (.int p2), some (.int p3)], [.int p2, .int p1], h)) rfl ?_
    refine go_call (m' := 213) (v := some (.int 1)) (h1 := h) rfl rfl ⟨rfl, Nat.le_of_ble_eq_true rfl⟩ ?_ ?_
    · refine go_run 0 (F' := (0, [some (.int p1), some (.int p2)], [], h)) rfl ?_
      refine go_run 1 (F' := (1, [some (.int p1), some (.int p2)], [.int p1], h)) rfl ?_
      refine go_call (m' := 183) (v := some (.int 0)) (h1 := h) rfl rfl ⟨rfl, Nat.le_of_ble_eq_true rfl⟩ ?_ ?_
      · refine go_run 0 (F' := (0, [some (.int p1)], [], h)) rfl ?_
        refine go_run 1 (F' := (1, [some (.int p1)], [.int p1], h)) rfl ?_
        refine go_step rfl rfl ?_
        rw [if_neg q1]
        refine go_run 0 (F' := (4, [some (.int p1)], [], h)) rfl ?_
        refine go_run 2 (F' := (6, [some (.int p1)], [.int 5, .int p1], h)) rfl ?_
        refine go_step rfl rfl ?_
        rw [if_pos q2]
        refine go_run 0 (F' := (13, [some (.int p1)], [], h)) rfl ?_
        refine go_run 1 (F' := (14, [some (.int p1)], [.int 0], h)) rfl ?_
        exact go_end rfl rfl
      refine go_run 0 (F' := (4, [some (.int p1), some (.int p2)], [.int 0], h)) rfl ?_
      refine go_run 2 (F' := (8, [some (.int p1), some (.int p2)], [.int p2], h)) rfl ?_
      refine go_call (m' := 183) (v := some (.int 1)) (h1 := h) rfl rfl ⟨rfl, Nat.le_of_ble_eq_true rfl⟩ ?_ ?_
      · refine go_run 0 (F' := (0, [some (.int p2)], [], h)) rfl ?_
        refine go_run 1 (F' := (1, [some (.int p2)], [.int p2], h)) rfl ?_
        refine go_step rfl rfl ?_
        rw [if_neg q3]
        refine go_run 0 (F' := (4, [some (.int p2)], [], h)) rfl ?_
        refine go_run 2 (F' := (6, [some (.int p2)], [.int 5, .int p2], h)) rfl ?_
        refine go_step rfl rfl ?_
        rw [if_neg q4]
        refine go_run 0 (F' := (9, [some (.int p2)], [], h)) rfl ?_
        refine go_run 2 (F' := (14, [some (.int p2)], [.int 1], h)) rfl ?_
        exact go_end rfl rfl
      refine go_run 0 (F' := (11, [some (.int p1), some (.int p2)], [.int 1], h)) rfl ?_
      refine go_run 3 (F' := (24, [some (.int p1), some (.int p2)], [.int 1], h)) rfl ?_
      exact go_end rfl rfl
    refine go_run 0 (F' := (5, [some (.ref 134), some (.int p1), some (.int p2), some (.int p3)], [.int 1], h)) rfl ?_
    refine go_run 3 (F' := (36, [some (.ref 134), some (.int p1), some (.int p2), some (.int p3)], [.int 1], h)) rfl ?_
    exact go_end rfl rfl
  refine go_run 0 (F' := (8, [some (.ref 134), some (.int p1), some (.int p2), some (.int p3)], [.int 1, .ref 134], h)) rfl ?_
  refine go_pf rfl c134 (Nat.le_of_ble_eq_true rfl) rfl rfl ?_
  refine go_run 0 (F' := (11, [some (.ref 134), some (.int p1), some (.int p2), some (.int p3)], [], (List.set h 134 (mo 1 ty fa wh ch it at_ bad co de 1 st sz tp am bm mn rm sp be wo)))) rfl ?_
  refine go_run 1 (F' := (12, [some (.ref 134), some (.int p1), some (.int p2), some (.int p3)], [.ref 134], (List.set h 134 (mo 1 ty fa wh ch it at_ bad co de 1 st sz tp am bm mn rm sp be wo)))) rfl ?_
  refine go_gf rfl (gs_self c134) rfl ?_
  refine go_run 0 (F' := (15, [some (.ref 134), some (.int p1), some (.int p2), some (.int p3)], [.int 1], (List.set h 134 (mo 1 ty fa wh ch it at_ bad co de 1 st sz tp am bm mn rm sp be wo)))) rfl ?_
  refine go_run 2 (F' := (38, [some (.ref 134), some (.int p1), some (.int p2), some (.int p3)], [.int 0], (List.set h 134 (mo 1 ty fa wh ch it at_ bad co de 1 st sz tp am bm mn rm sp be wo)))) rfl ?_
  exact go_end rfl rfl
set_option maxRecDepth 100000 in
theorem vm_message_5 {X : ie_X} {d : Nat} {h : ie_H} {p1 p2 p3 t_ ty fa wh ch it at_ bad co de st sz tp am bm mn rm sp be wo : Int32} (c134 : h[134]? = some (mo t_ ty fa wh ch it at_ bad co de 1 st sz tp am bm mn rm sp be wo)) (q1 : ¬ (p1 < 0)) (q2 : p1 ≤ 5) (q3 : ¬ (p2 < 0)) (q4 : p2 ≤ 5) (q5 : p1 = p2) : Go X (d + 3) 214 (0, ie_en 214 [.ref 134, .int p1, .int p2, .int p3], [], h) (.inl (some (.int 0))) (List.set h 134 (mo 1 ty fa wh ch it at_ bad co de 1 st sz tp am bm mn rm sp be wo)) := by
  refine go_run 0 (F' := (0, [some (.ref 134), some (.int p1), some (.int p2), some (.int p3)], [], h)) rfl ?_
  refine go_run 5 (F' := (5, [some (.ref 134), some (.int p1), some (.int p2), some (.int p3)], [.int p3, .int p2, .int p1, .ref 134, .ref 134], h)) rfl ?_
  refine go_call (m' := 215) (v := some (.int 1)) (h1 := h) rfl (by simp only [ie_step, ie_iv, List.drop, c134, mo, if_true]; rfl) ⟨rfl, Nat.le_of_ble_eq_true rfl⟩ ?_ ?_
  · refine go_run 0 (F' := (0, [some (.ref 134), some (.int p1), some (.int p2), some (.int p3)], [], h)) rfl ?_
    refine go_run 2 (F' := (2, [some (.ref 134), some (.int p1), some (.int p2), some (.int p3)], [.int p2, .int p1], h)) rfl ?_
    refine go_call (m' := 213) (v := some (.int 1)) (h1 := h) rfl rfl ⟨rfl, Nat.le_of_ble_eq_true rfl⟩ ?_ ?_
    · refine go_run 0 (F' := (0, [some (.int p1), some (.int p2)], [], h)) rfl ?_
      refine go_run 1 (F' := (1, [some (.int p1), some (.int p2)], [.int p1], h)) rfl ?_
      refine go_call (m' := 183) (v := some (.int 0)) (h1 := h) rfl rfl ⟨rfl, Nat.le_of_ble_eq_true rfl⟩ ?_ ?_
      · refine go_run 0 (F' := (0, [some (.int p1)], [], h)) rfl ?_
        refine go_run 1 (F' := (1, [some (.int p1)], [.int p1], h)) rfl ?_
        refine go_step rfl rfl ?_
        rw [if_neg q1]
        refine go_run 0 (F' := (4, [some (.int p1)], [], h)) rfl ?_
        refine go_run 2 (F' := (6, [some (.int p1)], [.int 5, .int p1], h)) rfl ?_
        refine go_step rfl rfl ?_
        rw [if_pos q2]
        refine go_run 0 (F' := (13, [some (.int p1)], [], h)) rfl ?_
        refine go_run 1 (F' := (14, [some (.int p1)], [.int 0], h)) rfl ?_
        exact go_end rfl rfl
      refine go_run 0 (F' := (4, [some (.int p1), some (.int p2)], [.int 0], h)) rfl ?_
      refine go_run 2 (F' := (8, [some (.int p1), some (.int p2)], [.int p2], h)) rfl ?_
      refine go_call (m' := 183) (v := some (.int 0)) (h1 := h) rfl rfl ⟨rfl, Nat.le_of_ble_eq_true rfl⟩ ?_ ?_
      · refine go_run 0 (F' := (0, [some (.int p2)], [], h)) rfl ?_
        refine go_run 1 (F' := (1, [some (.int p2)], [.int p2], h)) rfl ?_
        refine go_step rfl rfl ?_
        rw [if_neg q3]
        refine go_run 0 (F' := (4, [some (.int p2)], [], h)) rfl ?_
        refine go_run 2 (F' := (6, [some (.int p2)], [.int 5, .int p2], h)) rfl ?_
        refine go_step rfl rfl ?_
        rw [if_pos q4]
        refine go_run 0 (F' := (13, [some (.int p2)], [], h)) rfl ?_
        refine go_run 1 (F' := (14, [some (.int p2)], [.int 0], h)) rfl ?_
        exact go_end rfl rfl
      refine go_run 0 (F' := (11, [some (.int p1), some (.int p2)], [.int 0], h)) rfl ?_
      refine go_run 3 (F' := (16, [some (.int p1), some (.int p2)], [.int p2, .int p1], h)) rfl ?_
      refine go_step rfl rfl ?_
      rw [if_pos q5]
      refine go_run 0 (F' := (19, [some (.int p1), some (.int p2)], [], h)) rfl ?_
      refine go_run 2 (F' := (24, [some (.int p1), some (.int p2)], [.int 1], h)) rfl ?_
      exact go_end rfl rfl
    refine go_run 0 (F' := (5, [some (.ref 134), some (.int p1), some (.int p2), some (.int p3)], [.int 1], h)) rfl ?_
    refine go_run 3 (F' := (36, [some (.ref 134), some (.int p1), some (.int p2), some (.int p3)], [.int 1], h)) rfl ?_
    exact go_end rfl rfl
  refine go_run 0 (F' := (8, [some (.ref 134), some (.int p1), some (.int p2), some (.int p3)], [.int 1, .ref 134], h)) rfl ?_
  refine go_pf rfl c134 (Nat.le_of_ble_eq_true rfl) rfl rfl ?_
  refine go_run 0 (F' := (11, [some (.ref 134), some (.int p1), some (.int p2), some (.int p3)], [], (List.set h 134 (mo 1 ty fa wh ch it at_ bad co de 1 st sz tp am bm mn rm sp be wo)))) rfl ?_
  refine go_run 1 (F' := (12, [some (.ref 134), some (.int p1), some (.int p2), some (.int p3)], [.ref 134], (List.set h 134 (mo 1 ty fa wh ch it at_ bad co de 1 st sz tp am bm mn rm sp be wo)))) rfl ?_
  refine go_gf rfl (gs_self c134) rfl ?_
  refine go_run 0 (F' := (15, [some (.ref 134), some (.int p1), some (.int p2), some (.int p3)], [.int 1], (List.set h 134 (mo 1 ty fa wh ch it at_ bad co de 1 st sz tp am bm mn rm sp be wo)))) rfl ?_
  refine go_run 2 (F' := (38, [some (.ref 134), some (.int p1), some (.int p2), some (.int p3)], [.int 0], (List.set h 134 (mo 1 ty fa wh ch it at_ bad co de 1 st sz tp am bm mn rm sp be wo)))) rfl ?_
  exact go_end rfl rfl
set_option maxRecDepth 100000 in
theorem vm_message_6 {X : ie_X} {d : Nat} {h : ie_H} {p1 p2 p3 t_ ty fa wh ch it at_ bad co de st sz tp am bm mn rm sp be wo : Int32} (c134 : h[134]? = some (mo t_ ty fa wh ch it at_ bad co de 1 st sz tp am bm mn rm sp be wo)) (q1 : ¬ (p1 < 0)) (q2 : p1 ≤ 5) (q3 : ¬ (p2 < 0)) (q4 : p2 ≤ 5) (q5 : ¬ (p1 = p2)) (q6 : p3 < 0) : Go X (d + 3) 214 (0, ie_en 214 [.ref 134, .int p1, .int p2, .int p3], [], h) (.inl (some (.int 0))) (List.set h 134 (mo 2 ty fa wh ch it at_ bad co de 1 st sz tp am bm mn rm sp be wo)) := by
  refine go_run 0 (F' := (0, [some (.ref 134), some (.int p1), some (.int p2), some (.int p3)], [], h)) rfl ?_
  refine go_run 5 (F' := (5, [some (.ref 134), some (.int p1), some (.int p2), some (.int p3)], [.int p3, .int p2, .int p1, .ref 134, .ref 134], h)) rfl ?_
  refine go_call (m' := 215) (v := some (.int 2)) (h1 := h) rfl (by simp only [ie_step, ie_iv, List.drop, c134, mo, if_true]; rfl) ⟨rfl, Nat.le_of_ble_eq_true rfl⟩ ?_ ?_
  · refine go_run 0 (F' := (0, [some (.ref 134), some (.int p1), some (.int p2), some (.int p3)], [], h)) rfl ?_
    refine go_run 2 (F' := (2, [some (.ref 134), some (.int p1), some (.int p2), some (.int p3)], [.int p2, .int p1], h)) rfl ?_
    refine go_call (m' := 213) (v := some (.int 0)) (h1 := h) rfl rfl ⟨rfl, Nat.le_of_ble_eq_true rfl⟩ ?_ ?_
    · refine go_run 0 (F' := (0, [some (.int p1), some (.int p2)], [], h)) rfl ?_
      refine go_run 1 (F' := (1, [some (.int p1), some (.int p2)], [.int p1], h)) rfl ?_
      refine go_call (m' := 183) (v := some (.int 0)) (h1 := h) rfl rfl ⟨rfl, Nat.le_of_ble_eq_true rfl⟩ ?_ ?_
      · refine go_run 0 (F' := (0, [some (.int p1)], [], h)) rfl ?_
        refine go_run 1 (F' := (1, [some (.int p1)], [.int p1], h)) rfl ?_
        refine go_step rfl rfl ?_
        rw [if_neg q1]
        refine go_run 0 (F' := (4, [some (.int p1)], [], h)) rfl ?_
        refine go_run 2 (F' := (6, [some (.int p1)], [.int 5, .int p1], h)) rfl ?_
        refine go_step rfl rfl ?_
        rw [if_pos q2]
        refine go_run 0 (F' := (13, [some (.int p1)], [], h)) rfl ?_
        refine go_run 1 (F' := (14, [some (.int p1)], [.int 0], h)) rfl ?_
        exact go_end rfl rfl
      refine go_run 0 (F' := (4, [some (.int p1), some (.int p2)], [.int 0], h)) rfl ?_
      refine go_run 2 (F' := (8, [some (.int p1), some (.int p2)], [.int p2], h)) rfl ?_
      refine go_call (m' := 183) (v := some (.int 0)) (h1 := h) rfl rfl ⟨rfl, Nat.le_of_ble_eq_true rfl⟩ ?_ ?_
      · refine go_run 0 (F' := (0, [some (.int p2)], [], h)) rfl ?_
        refine go_run 1 (F' := (1, [some (.int p2)], [.int p2], h)) rfl ?_
        refine go_step rfl rfl ?_
        rw [if_neg q3]
        refine go_run 0 (F' := (4, [some (.int p2)], [], h)) rfl ?_
        refine go_run 2 (F' := (6, [some (.int p2)], [.int 5, .int p2], h)) rfl ?_
        refine go_step rfl rfl ?_
        rw [if_pos q4]
        refine go_run 0 (F' := (13, [some (.int p2)], [], h)) rfl ?_
        refine go_run 1 (F' := (14, [some (.int p2)], [.int 0], h)) rfl ?_
        exact go_end rfl rfl
      refine go_run 0 (F' := (11, [some (.int p1), some (.int p2)], [.int 0], h)) rfl ?_
      refine go_run 3 (F' := (16, [some (.int p1), some (.int p2)], [.int p2, .int p1], h)) rfl ?_
      refine go_step rfl rfl ?_
      rw [if_neg q5]
      refine go_run 0 (F' := (23, [some (.int p1), some (.int p2)], [], h)) rfl ?_
      refine go_run 1 (F' := (24, [some (.int p1), some (.int p2)], [.int 0], h)) rfl ?_
      exact go_end rfl rfl
    refine go_run 0 (F' := (5, [some (.ref 134), some (.int p1), some (.int p2), some (.int p3)], [.int 0], h)) rfl ?_
    refine go_run 2 (F' := (13, [some (.ref 134), some (.int p1), some (.int p2), some (.int p3)], [.int p3], h)) rfl ?_
    refine go_step rfl rfl ?_
    rw [if_pos q6]
    refine go_run 0 (F' := (31, [some (.ref 134), some (.int p1), some (.int p2), some (.int p3)], [], h)) rfl ?_
    refine go_run 2 (F' := (36, [some (.ref 134), some (.int p1), some (.int p2), some (.int p3)], [.int 2], h)) rfl ?_
    exact go_end rfl rfl
  refine go_run 0 (F' := (8, [some (.ref 134), some (.int p1), some (.int p2), some (.int p3)], [.int 2, .ref 134], h)) rfl ?_
  refine go_pf rfl c134 (Nat.le_of_ble_eq_true rfl) rfl rfl ?_
  refine go_run 0 (F' := (11, [some (.ref 134), some (.int p1), some (.int p2), some (.int p3)], [], (List.set h 134 (mo 2 ty fa wh ch it at_ bad co de 1 st sz tp am bm mn rm sp be wo)))) rfl ?_
  refine go_run 1 (F' := (12, [some (.ref 134), some (.int p1), some (.int p2), some (.int p3)], [.ref 134], (List.set h 134 (mo 2 ty fa wh ch it at_ bad co de 1 st sz tp am bm mn rm sp be wo)))) rfl ?_
  refine go_gf rfl (gs_self c134) rfl ?_
  refine go_run 0 (F' := (15, [some (.ref 134), some (.int p1), some (.int p2), some (.int p3)], [.int 2], (List.set h 134 (mo 2 ty fa wh ch it at_ bad co de 1 st sz tp am bm mn rm sp be wo)))) rfl ?_
  refine go_run 2 (F' := (38, [some (.ref 134), some (.int p1), some (.int p2), some (.int p3)], [.int 0], (List.set h 134 (mo 2 ty fa wh ch it at_ bad co de 1 st sz tp am bm mn rm sp be wo)))) rfl ?_
  exact go_end rfl rfl
set_option maxRecDepth 100000 in
theorem vm_message_7 {X : ie_X} {d : Nat} {h : ie_H} {p1 p2 p3 t_ ty fa wh ch it at_ bad co de st sz tp am bm mn rm sp be wo : Int32} {f173 f174 : Nat → Int32} (c134 : h[134]? = some (mo t_ ty fa wh ch it at_ bad co de 1 st sz tp am bm mn rm sp be wo)) (c173 : h[173]? = some (.inl (0, 36, .inl f173))) (c174 : h[174]? = some (.inl (0, 288, .inl f174))) (q1 : ¬ (p1 < 0)) (q2 : p1 ≤ 5) (q3 : ¬ (p2 < 0)) (q4 : p2 ≤ 5) (q5 : ¬ (p1 = p2)) (q6 : ¬ (p3 < 0)) (b_6 : 0 ≤ Int32.toInt ((6 * p1) + p2) ∧ Int32.toInt ((6 * p1) + p2) < (36 : Int)) (q7 : p3 < f173 (Int32.toNatClampNeg ((6 * p1) + p2))) (b_8 : 0 ≤ Int32.toInt ((8 * ((6 * p1) + p2)) + p3) ∧ Int32.toInt ((8 * ((6 * p1) + p2)) + p3) < (288 : Int)) : Go X (d + 3) 214 (0, ie_en 214 [.ref 134, .int p1, .int p2, .int p3], [], h) (.inl (some (.int (f174 (Int32.toNatClampNeg ((8 * ((6 * p1) + p2)) + p3)))))) (List.set h 134 (mo 0 ty fa wh ch it at_ bad co de 1 st sz tp am bm mn rm sp be wo)) := by
  refine go_run 0 (F' := (0, [some (.ref 134), some (.int p1), some (.int p2), some (.int p3)], [], h)) rfl ?_
  refine go_run 5 (F' := (5, [some (.ref 134), some (.int p1), some (.int p2), some (.int p3)], [.int p3, .int p2, .int p1, .ref 134, .ref 134], h)) rfl ?_
  refine go_call (m' := 215) (v := some (.int 0)) (h1 := h) rfl (by simp only [ie_step, ie_iv, List.drop, c134, mo, if_true]; rfl) ⟨rfl, Nat.le_of_ble_eq_true rfl⟩ ?_ ?_
  · refine go_run 0 (F' := (0, [some (.ref 134), some (.int p1), some (.int p2), some (.int p3)], [], h)) rfl ?_
    refine go_run 2 (F' := (2, [some (.ref 134), some (.int p1), some (.int p2), some (.int p3)], [.int p2, .int p1], h)) rfl ?_
    refine go_call (m' := 213) (v := some (.int 0)) (h1 := h) rfl rfl ⟨rfl, Nat.le_of_ble_eq_true rfl⟩ ?_ ?_
    · refine go_run 0 (F' := (0, [some (.int p1), some (.int p2)], [], h)) rfl ?_
      refine go_run 1 (F' := (1, [some (.int p1), some (.int p2)], [.int p1], h)) rfl ?_
      refine go_call (m' := 183) (v := some (.int 0)) (h1 := h) rfl rfl ⟨rfl, Nat.le_of_ble_eq_true rfl⟩ ?_ ?_
      · refine go_run 0 (F' := (0, [some (.int p1)], [], h)) rfl ?_
        refine go_run 1 (F' := (1, [some (.int p1)], [.int p1], h)) rfl ?_
        refine go_step rfl rfl ?_
        rw [if_neg q1]
        refine go_run 0 (F' := (4, [some (.int p1)], [], h)) rfl ?_
        refine go_run 2 (F' := (6, [some (.int p1)], [.int 5, .int p1], h)) rfl ?_
        refine go_step rfl rfl ?_
        rw [if_pos q2]
        refine go_run 0 (F' := (13, [some (.int p1)], [], h)) rfl ?_
        refine go_run 1 (F' := (14, [some (.int p1)], [.int 0], h)) rfl ?_
        exact go_end rfl rfl
      refine go_run 0 (F' := (4, [some (.int p1), some (.int p2)], [.int 0], h)) rfl ?_
      refine go_run 2 (F' := (8, [some (.int p1), some (.int p2)], [.int p2], h)) rfl ?_
      refine go_call (m' := 183) (v := some (.int 0)) (h1 := h) rfl rfl ⟨rfl, Nat.le_of_ble_eq_true rfl⟩ ?_ ?_
      · refine go_run 0 (F' := (0, [some (.int p2)], [], h)) rfl ?_
        refine go_run 1 (F' := (1, [some (.int p2)], [.int p2], h)) rfl ?_
        refine go_step rfl rfl ?_
        rw [if_neg q3]
        refine go_run 0 (F' := (4, [some (.int p2)], [], h)) rfl ?_
        refine go_run 2 (F' := (6, [some (.int p2)], [.int 5, .int p2], h)) rfl ?_
        refine go_step rfl rfl ?_
        rw [if_pos q4]
        refine go_run 0 (F' := (13, [some (.int p2)], [], h)) rfl ?_
        refine go_run 1 (F' := (14, [some (.int p2)], [.int 0], h)) rfl ?_
        exact go_end rfl rfl
      refine go_run 0 (F' := (11, [some (.int p1), some (.int p2)], [.int 0], h)) rfl ?_
      refine go_run 3 (F' := (16, [some (.int p1), some (.int p2)], [.int p2, .int p1], h)) rfl ?_
      refine go_step rfl rfl ?_
      rw [if_neg q5]
      refine go_run 0 (F' := (23, [some (.int p1), some (.int p2)], [], h)) rfl ?_
      refine go_run 1 (F' := (24, [some (.int p1), some (.int p2)], [.int 0], h)) rfl ?_
      exact go_end rfl rfl
    refine go_run 0 (F' := (5, [some (.ref 134), some (.int p1), some (.int p2), some (.int p3)], [.int 0], h)) rfl ?_
    refine go_run 2 (F' := (13, [some (.ref 134), some (.int p1), some (.int p2), some (.int p3)], [.int p3], h)) rfl ?_
    refine go_step rfl rfl ?_
    rw [if_neg q6]
    refine go_run 0 (F' := (16, [some (.ref 134), some (.int p1), some (.int p2), some (.int p3)], [], h)) rfl ?_
    refine go_run 2 (F' := (18, [some (.ref 134), some (.int p1), some (.int p2), some (.int p3)], [.ref 134, .int p3], h)) rfl ?_
    refine go_gf rfl c134 rfl ?_
    refine go_run 0 (F' := (21, [some (.ref 134), some (.int p1), some (.int p2), some (.int p3)], [.ref 173, .int p3], h)) rfl ?_
    refine go_run 5 (F' := (27, [some (.ref 134), some (.int p1), some (.int p2), some (.int p3)], [.int ((6 * p1) + p2), .ref 173, .int p3], h)) rfl ?_
    refine go_iald rfl (by decide) c173 b_6 rfl ?_
    refine go_run 0 (F' := (28, [some (.ref 134), some (.int p1), some (.int p2), some (.int p3)], [.int (f173 (Int32.toNatClampNeg ((6 * p1) + p2))), .int p3], h)) rfl ?_
    refine go_step rfl rfl ?_
    rw [if_pos q7]
    refine go_run 0 (F' := (35, [some (.ref 134), some (.int p1), some (.int p2), some (.int p3)], [], h)) rfl ?_
    refine go_run 1 (F' := (36, [some (.ref 134), some (.int p1), some (.int p2), some (.int p3)], [.int 0], h)) rfl ?_
    exact go_end rfl rfl
  refine go_run 0 (F' := (8, [some (.ref 134), some (.int p1), some (.int p2), some (.int p3)], [.int 0, .ref 134], h)) rfl ?_
  refine go_pf rfl c134 (Nat.le_of_ble_eq_true rfl) rfl rfl ?_
  refine go_run 0 (F' := (11, [some (.ref 134), some (.int p1), some (.int p2), some (.int p3)], [], (List.set h 134 (mo 0 ty fa wh ch it at_ bad co de 1 st sz tp am bm mn rm sp be wo)))) rfl ?_
  refine go_run 1 (F' := (12, [some (.ref 134), some (.int p1), some (.int p2), some (.int p3)], [.ref 134], (List.set h 134 (mo 0 ty fa wh ch it at_ bad co de 1 st sz tp am bm mn rm sp be wo)))) rfl ?_
  refine go_gf rfl (gs_self c134) rfl ?_
  refine go_run 0 (F' := (15, [some (.ref 134), some (.int p1), some (.int p2), some (.int p3)], [.int 0], (List.set h 134 (mo 0 ty fa wh ch it at_ bad co de 1 st sz tp am bm mn rm sp be wo)))) rfl ?_
  refine go_run 2 (F' := (19, [some (.ref 134), some (.int p1), some (.int p2), some (.int p3)], [.ref 134], (List.set h 134 (mo 0 ty fa wh ch it at_ bad co de 1 st sz tp am bm mn rm sp be wo)))) rfl ?_
  refine go_gf rfl (gs_self c134) rfl ?_
  refine go_run 0 (F' := (22, [some (.ref 134), some (.int p1), some (.int p2), some (.int p3)], [.ref 174], (List.set h 134 (mo 0 ty fa wh ch it at_ bad co de 1 st sz tp am bm mn rm sp be wo)))) rfl ?_
  refine go_run 9 (F' := (33, [some (.ref 134), some (.int p1), some (.int p2), some (.int p3)], [.int ((8 * ((6 * p1) + p2)) + p3), .ref 174], (List.set h 134 (mo 0 ty fa wh ch it at_ bad co de 1 st sz tp am bm mn rm sp be wo)))) rfl ?_
  refine go_iald rfl (by decide) (gs_ne (by decide) c174) b_8 rfl ?_
  refine go_run 0 (F' := (34, [some (.ref 134), some (.int p1), some (.int p2), some (.int p3)], [.int (f174 (Int32.toNatClampNeg ((8 * ((6 * p1) + p2)) + p3)))], (List.set h 134 (mo 0 ty fa wh ch it at_ bad co de 1 st sz tp am bm mn rm sp be wo)))) rfl ?_
  refine go_run 1 (F' := (38, [some (.ref 134), some (.int p1), some (.int p2), some (.int p3)], [.int (f174 (Int32.toNatClampNeg ((8 * ((6 * p1) + p2)) + p3)))], (List.set h 134 (mo 0 ty fa wh ch it at_ bad co de 1 st sz tp am bm mn rm sp be wo)))) rfl ?_
  exact go_end rfl rfl
set_option maxRecDepth 100000 in
theorem vm_message_8 {X : ie_X} {d : Nat} {h : ie_H} {p1 p2 p3 t_ ty fa wh ch it at_ bad co de st sz tp am bm mn rm sp be wo : Int32} {f173 : Nat → Int32} (c134 : h[134]? = some (mo t_ ty fa wh ch it at_ bad co de 1 st sz tp am bm mn rm sp be wo)) (c173 : h[173]? = some (.inl (0, 36, .inl f173))) (q1 : ¬ (p1 < 0)) (q2 : p1 ≤ 5) (q3 : ¬ (p2 < 0)) (q4 : p2 ≤ 5) (q5 : ¬ (p1 = p2)) (q6 : ¬ (p3 < 0)) (b_6 : 0 ≤ Int32.toInt ((6 * p1) + p2) ∧ Int32.toInt ((6 * p1) + p2) < (36 : Int)) (q7 : ¬ (p3 < f173 (Int32.toNatClampNeg ((6 * p1) + p2)))) : Go X (d + 3) 214 (0, ie_en 214 [.ref 134, .int p1, .int p2, .int p3], [], h) (.inl (some (.int 0))) (List.set h 134 (mo 2 ty fa wh ch it at_ bad co de 1 st sz tp am bm mn rm sp be wo)) := by
  refine go_run 0 (F' := (0, [some (.ref 134), some (.int p1), some (.int p2), some (.int p3)], [], h)) rfl ?_
  refine go_run 5 (F' := (5, [some (.ref 134), some (.int p1), some (.int p2), some (.int p3)], [.int p3, .int p2, .int p1, .ref 134, .ref 134], h)) rfl ?_
  refine go_call (m' := 215) (v := some (.int 2)) (h1 := h) rfl (by simp only [ie_step, ie_iv, List.drop, c134, mo, if_true]; rfl) ⟨rfl, Nat.le_of_ble_eq_true rfl⟩ ?_ ?_
  · refine go_run 0 (F' := (0, [some (.ref 134), some (.int p1), some (.int p2), some (.int p3)], [], h)) rfl ?_
    refine go_run 2 (F' := (2, [some (.ref 134), some (.int p1), some (.int p2), some (.int p3)], [.int p2, .int p1], h)) rfl ?_
    refine go_call (m' := 213) (v := some (.int 0)) (h1 := h) rfl rfl ⟨rfl, Nat.le_of_ble_eq_true rfl⟩ ?_ ?_
    · refine go_run 0 (F' := (0, [some (.int p1), some (.int p2)], [], h)) rfl ?_
      refine go_run 1 (F' := (1, [some (.int p1), some (.int p2)], [.int p1], h)) rfl ?_
      refine go_call (m' := 183) (v := some (.int 0)) (h1 := h) rfl rfl ⟨rfl, Nat.le_of_ble_eq_true rfl⟩ ?_ ?_
      · refine go_run 0 (F' := (0, [some (.int p1)], [], h)) rfl ?_
        refine go_run 1 (F' := (1, [some (.int p1)], [.int p1], h)) rfl ?_
        refine go_step rfl rfl ?_
        rw [if_neg q1]
        refine go_run 0 (F' := (4, [some (.int p1)], [], h)) rfl ?_
        refine go_run 2 (F' := (6, [some (.int p1)], [.int 5, .int p1], h)) rfl ?_
        refine go_step rfl rfl ?_
        rw [if_pos q2]
        refine go_run 0 (F' := (13, [some (.int p1)], [], h)) rfl ?_
        refine go_run 1 (F' := (14, [some (.int p1)], [.int 0], h)) rfl ?_
        exact go_end rfl rfl
      refine go_run 0 (F' := (4, [some (.int p1), some (.int p2)], [.int 0], h)) rfl ?_
      refine go_run 2 (F' := (8, [some (.int p1), some (.int p2)], [.int p2], h)) rfl ?_
      refine go_call (m' := 183) (v := some (.int 0)) (h1 := h) rfl rfl ⟨rfl, Nat.le_of_ble_eq_true rfl⟩ ?_ ?_
      · refine go_run 0 (F' := (0, [some (.int p2)], [], h)) rfl ?_
        refine go_run 1 (F' := (1, [some (.int p2)], [.int p2], h)) rfl ?_
        refine go_step rfl rfl ?_
        rw [if_neg q3]
        refine go_run 0 (F' := (4, [some (.int p2)], [], h)) rfl ?_
        refine go_run 2 (F' := (6, [some (.int p2)], [.int 5, .int p2], h)) rfl ?_
        refine go_step rfl rfl ?_
        rw [if_pos q4]
        refine go_run 0 (F' := (13, [some (.int p2)], [], h)) rfl ?_
        refine go_run 1 (F' := (14, [some (.int p2)], [.int 0], h)) rfl ?_
        exact go_end rfl rfl
      refine go_run 0 (F' := (11, [some (.int p1), some (.int p2)], [.int 0], h)) rfl ?_
      refine go_run 3 (F' := (16, [some (.int p1), some (.int p2)], [.int p2, .int p1], h)) rfl ?_
      refine go_step rfl rfl ?_
      rw [if_neg q5]
      refine go_run 0 (F' := (23, [some (.int p1), some (.int p2)], [], h)) rfl ?_
      refine go_run 1 (F' := (24, [some (.int p1), some (.int p2)], [.int 0], h)) rfl ?_
      exact go_end rfl rfl
    refine go_run 0 (F' := (5, [some (.ref 134), some (.int p1), some (.int p2), some (.int p3)], [.int 0], h)) rfl ?_
    refine go_run 2 (F' := (13, [some (.ref 134), some (.int p1), some (.int p2), some (.int p3)], [.int p3], h)) rfl ?_
    refine go_step rfl rfl ?_
    rw [if_neg q6]
    refine go_run 0 (F' := (16, [some (.ref 134), some (.int p1), some (.int p2), some (.int p3)], [], h)) rfl ?_
    refine go_run 2 (F' := (18, [some (.ref 134), some (.int p1), some (.int p2), some (.int p3)], [.ref 134, .int p3], h)) rfl ?_
    refine go_gf rfl c134 rfl ?_
    refine go_run 0 (F' := (21, [some (.ref 134), some (.int p1), some (.int p2), some (.int p3)], [.ref 173, .int p3], h)) rfl ?_
    refine go_run 5 (F' := (27, [some (.ref 134), some (.int p1), some (.int p2), some (.int p3)], [.int ((6 * p1) + p2), .ref 173, .int p3], h)) rfl ?_
    refine go_iald rfl (by decide) c173 b_6 rfl ?_
    refine go_run 0 (F' := (28, [some (.ref 134), some (.int p1), some (.int p2), some (.int p3)], [.int (f173 (Int32.toNatClampNeg ((6 * p1) + p2))), .int p3], h)) rfl ?_
    refine go_step rfl rfl ?_
    rw [if_neg q7]
    refine go_run 0 (F' := (31, [some (.ref 134), some (.int p1), some (.int p2), some (.int p3)], [], h)) rfl ?_
    refine go_run 2 (F' := (36, [some (.ref 134), some (.int p1), some (.int p2), some (.int p3)], [.int 2], h)) rfl ?_
    exact go_end rfl rfl
  refine go_run 0 (F' := (8, [some (.ref 134), some (.int p1), some (.int p2), some (.int p3)], [.int 2, .ref 134], h)) rfl ?_
  refine go_pf rfl c134 (Nat.le_of_ble_eq_true rfl) rfl rfl ?_
  refine go_run 0 (F' := (11, [some (.ref 134), some (.int p1), some (.int p2), some (.int p3)], [], (List.set h 134 (mo 2 ty fa wh ch it at_ bad co de 1 st sz tp am bm mn rm sp be wo)))) rfl ?_
  refine go_run 1 (F' := (12, [some (.ref 134), some (.int p1), some (.int p2), some (.int p3)], [.ref 134], (List.set h 134 (mo 2 ty fa wh ch it at_ bad co de 1 st sz tp am bm mn rm sp be wo)))) rfl ?_
  refine go_gf rfl (gs_self c134) rfl ?_
  refine go_run 0 (F' := (15, [some (.ref 134), some (.int p1), some (.int p2), some (.int p3)], [.int 2], (List.set h 134 (mo 2 ty fa wh ch it at_ bad co de 1 st sz tp am bm mn rm sp be wo)))) rfl ?_
  refine go_run 2 (F' := (38, [some (.ref 134), some (.int p1), some (.int p2), some (.int p3)], [.int 0], (List.set h 134 (mo 2 ty fa wh ch it at_ bad co de 1 st sz tp am bm mn rm sp be wo)))) rfl ?_
  exact go_end rfl rfl
set_option maxRecDepth 100000 in
theorem vc_label_1 {X : ie_X} {d : Nat} {h : ie_H} {p1 p2 p3 nl cf cw : Int32} {pl : Nat} (c0 : h[0]? = some (.inr (0, [.ref 1, .int nl, .int cf, .int cw, .ref pl, .ref 2, .ref 133]))) (q1 : p1 < 0) : Go X (d + 4) 124 (0, ie_en 124 [.ref 0, .int p1, .int p2, .int p3, .ref 177], [], h) (.inl (some (.int 1))) (h ++ [.inr (14, [])]) := by
  refine go_run 0 (F' := (0, [some (.ref 0), some (.int p1), some (.int p2), some (.int p3), some (.ref 177), none], [], h)) rfl ?_
  refine go_run 6 (F' := (7, [some (.ref 0), some (.int p1), some (.int p2), some (.int p3), some (.ref 177), none], [.int p3, .int p2, .int p1, .ref 0, .int 0, .ref 177], h)) rfl ?_
  refine go_catch (m' := 125) (ci := 14) (h1 := (h ++ [.inr (14, [])])) rfl (by simp only [ie_step, ie_iv, List.drop, c0, if_true]; rfl) ⟨rfl, Nat.le_of_ble_eq_true rfl⟩ rfl rfl rfl ?_ ?_
  · refine go_run 0 (F' := (0, [some (.ref 0), some (.int p1), some (.int p2), some (.int p3)], [], h)) rfl ?_
    refine go_run 4 (F' := (4, [some (.ref 0), some (.int p1), some (.int p2), some (.int p3)], [.int p3, .int p2, .int p1, .ref 0], h)) rfl ?_
    refine go_out (m' := 123) rfl (by simp only [ie_step, ie_iv, List.drop, c0, if_true]; rfl) ⟨rfl, Nat.le_of_ble_eq_true rfl⟩ rfl rfl ?_
    · refine go_run 0 (F' := (0, [some (.ref 0), some (.int p1), some (.int p2), some (.int p3)], [], h)) rfl ?_
      refine go_run 2 (F' := (2, [some (.ref 0), some (.int p1), some (.int p2), some (.int p3)], [.int p2, .int p1], h)) rfl ?_
      refine go_out (m' := 120) rfl rfl ⟨rfl, Nat.le_of_ble_eq_true rfl⟩ rfl rfl ?_
      · refine go_run 0 (F' := (0, [some (.int p1), some (.int p2)], [], h)) rfl ?_
        refine go_run 1 (F' := (1, [some (.int p1), some (.int p2)], [.int p1], h)) rfl ?_
        refine go_call (m' := 33) (v := some (.int 0)) (h1 := h) rfl rfl ⟨rfl, Nat.le_of_ble_eq_true rfl⟩ ?_ ?_
        · refine go_run 0 (F' := (0, [some (.int p1)], [], h)) rfl ?_
          refine go_run 1 (F' := (1, [some (.int p1)], [.int p1], h)) rfl ?_
          refine go_step rfl rfl ?_
          rw [if_pos q1]
          refine go_run 0 (F' := (14, [some (.int p1)], [], h)) rfl ?_
          refine go_run 1 (F' := (15, [some (.int p1)], [.int 0], h)) rfl ?_
          exact go_end rfl rfl
        refine go_run 0 (F' := (4, [some (.int p1), some (.int p2)], [.int 0], h)) rfl ?_
        refine go_run 1 (F' := (19, [some (.int p1), some (.int p2)], [], h)) rfl ?_
        exact go_end rfl rfl
  refine go_run 0 (F' := (24, [some (.ref 0), some (.int p1), some (.int p2), some (.int p3), some (.ref 177), none], [], (h ++ [.inr (14, [])]))) rfl ?_
  refine go_run 1 (F' := (25, [some (.ref 0), some (.int p1), some (.int p2), some (.int p3), some (.ref 177), none], [.int 1], (h ++ [.inr (14, [])]))) rfl ?_
  exact go_end rfl rfl
set_option maxRecDepth 100000 in
theorem vc_label_2 {X : ie_X} {d : Nat} {h : ie_H} {p1 p2 p3 nl cf cw : Int32} {pl : Nat} (c0 : h[0]? = some (.inr (0, [.ref 1, .int nl, .int cf, .int cw, .ref pl, .ref 2, .ref 133]))) (q1 : ¬ (p1 < 0)) (q2 : 6 ≤ p1) : Go X (d + 4) 124 (0, ie_en 124 [.ref 0, .int p1, .int p2, .int p3, .ref 177], [], h) (.inl (some (.int 1))) (h ++ [.inr (14, [])]) := by
  refine go_run 0 (F' := (0, [some (.ref 0), some (.int p1), some (.int p2), some (.int p3), some (.ref 177), none], [], h)) rfl ?_
  refine go_run 6 (F' := (7, [some (.ref 0), some (.int p1), some (.int p2), some (.int p3), some (.ref 177), none], [.int p3, .int p2, .int p1, .ref 0, .int 0, .ref 177], h)) rfl ?_
  refine go_catch (m' := 125) (ci := 14) (h1 := (h ++ [.inr (14, [])])) rfl (by simp only [ie_step, ie_iv, List.drop, c0, if_true]; rfl) ⟨rfl, Nat.le_of_ble_eq_true rfl⟩ rfl rfl rfl ?_ ?_
  · refine go_run 0 (F' := (0, [some (.ref 0), some (.int p1), some (.int p2), some (.int p3)], [], h)) rfl ?_
    refine go_run 4 (F' := (4, [some (.ref 0), some (.int p1), some (.int p2), some (.int p3)], [.int p3, .int p2, .int p1, .ref 0], h)) rfl ?_
    refine go_out (m' := 123) rfl (by simp only [ie_step, ie_iv, List.drop, c0, if_true]; rfl) ⟨rfl, Nat.le_of_ble_eq_true rfl⟩ rfl rfl ?_
    · refine go_run 0 (F' := (0, [some (.ref 0), some (.int p1), some (.int p2), some (.int p3)], [], h)) rfl ?_
      refine go_run 2 (F' := (2, [some (.ref 0), some (.int p1), some (.int p2), some (.int p3)], [.int p2, .int p1], h)) rfl ?_
      refine go_out (m' := 120) rfl rfl ⟨rfl, Nat.le_of_ble_eq_true rfl⟩ rfl rfl ?_
      · refine go_run 0 (F' := (0, [some (.int p1), some (.int p2)], [], h)) rfl ?_
        refine go_run 1 (F' := (1, [some (.int p1), some (.int p2)], [.int p1], h)) rfl ?_
        refine go_call (m' := 33) (v := some (.int 0)) (h1 := h) rfl rfl ⟨rfl, Nat.le_of_ble_eq_true rfl⟩ ?_ ?_
        · refine go_run 0 (F' := (0, [some (.int p1)], [], h)) rfl ?_
          refine go_run 1 (F' := (1, [some (.int p1)], [.int p1], h)) rfl ?_
          refine go_step rfl rfl ?_
          rw [if_neg q1]
          refine go_run 0 (F' := (4, [some (.int p1)], [], h)) rfl ?_
          refine go_run 2 (F' := (7, [some (.int p1)], [.int 6, .int p1], h)) rfl ?_
          refine go_step rfl rfl ?_
          rw [if_pos q2]
          refine go_run 0 (F' := (14, [some (.int p1)], [], h)) rfl ?_
          refine go_run 1 (F' := (15, [some (.int p1)], [.int 0], h)) rfl ?_
          exact go_end rfl rfl
        refine go_run 0 (F' := (4, [some (.int p1), some (.int p2)], [.int 0], h)) rfl ?_
        refine go_run 1 (F' := (19, [some (.int p1), some (.int p2)], [], h)) rfl ?_
        exact go_end rfl rfl
  refine go_run 0 (F' := (24, [some (.ref 0), some (.int p1), some (.int p2), some (.int p3), some (.ref 177), none], [], (h ++ [.inr (14, [])]))) rfl ?_
  refine go_run 1 (F' := (25, [some (.ref 0), some (.int p1), some (.int p2), some (.int p3), some (.ref 177), none], [.int 1], (h ++ [.inr (14, [])]))) rfl ?_
  exact go_end rfl rfl
set_option maxRecDepth 100000 in
theorem vc_label_3 {X : ie_X} {d : Nat} {h : ie_H} {p1 p2 p3 nl cf cw : Int32} {pl : Nat} (c0 : h[0]? = some (.inr (0, [.ref 1, .int nl, .int cf, .int cw, .ref pl, .ref 2, .ref 133]))) (q1 : ¬ (p1 < 0)) (q2 : ¬ (6 ≤ p1)) (q3 : p2 < 0) : Go X (d + 4) 124 (0, ie_en 124 [.ref 0, .int p1, .int p2, .int p3, .ref 177], [], h) (.inl (some (.int 1))) (h ++ [.inr (14, [])]) := by
  refine go_run 0 (F' := (0, [some (.ref 0), some (.int p1), some (.int p2), some (.int p3), some (.ref 177), none], [], h)) rfl ?_
  refine go_run 6 (F' := (7, [some (.ref 0), some (.int p1), some (.int p2), some (.int p3), some (.ref 177), none], [.int p3, .int p2, .int p1, .ref 0, .int 0, .ref 177], h)) rfl ?_
  refine go_catch (m' := 125) (ci := 14) (h1 := (h ++ [.inr (14, [])])) rfl (by simp only [ie_step, ie_iv, List.drop, c0, if_true]; rfl) ⟨rfl, Nat.le_of_ble_eq_true rfl⟩ rfl rfl rfl ?_ ?_
  · refine go_run 0 (F' := (0, [some (.ref 0), some (.int p1), some (.int p2), some (.int p3)], [], h)) rfl ?_
    refine go_run 4 (F' := (4, [some (.ref 0), some (.int p1), some (.int p2), some (.int p3)], [.int p3, .int p2, .int p1, .ref 0], h)) rfl ?_
    refine go_out (m' := 123) rfl (by simp only [ie_step, ie_iv, List.drop, c0, if_true]; rfl) ⟨rfl, Nat.le_of_ble_eq_true rfl⟩ rfl rfl ?_
    · refine go_run 0 (F' := (0, [some (.ref 0), some (.int p1), some (.int p2), some (.int p3)], [], h)) rfl ?_
      refine go_run 2 (F' := (2, [some (.ref 0), some (.int p1), some (.int p2), some (.int p3)], [.int p2, .int p1], h)) rfl ?_
      refine go_out (m' := 120) rfl rfl ⟨rfl, Nat.le_of_ble_eq_true rfl⟩ rfl rfl ?_
      · refine go_run 0 (F' := (0, [some (.int p1), some (.int p2)], [], h)) rfl ?_
        refine go_run 1 (F' := (1, [some (.int p1), some (.int p2)], [.int p1], h)) rfl ?_
        refine go_call (m' := 33) (v := some (.int 1)) (h1 := h) rfl rfl ⟨rfl, Nat.le_of_ble_eq_true rfl⟩ ?_ ?_
        · refine go_run 0 (F' := (0, [some (.int p1)], [], h)) rfl ?_
          refine go_run 1 (F' := (1, [some (.int p1)], [.int p1], h)) rfl ?_
          refine go_step rfl rfl ?_
          rw [if_neg q1]
          refine go_run 0 (F' := (4, [some (.int p1)], [], h)) rfl ?_
          refine go_run 2 (F' := (7, [some (.int p1)], [.int 6, .int p1], h)) rfl ?_
          refine go_step rfl rfl ?_
          rw [if_neg q2]
          refine go_run 0 (F' := (10, [some (.int p1)], [], h)) rfl ?_
          refine go_run 2 (F' := (15, [some (.int p1)], [.int 1], h)) rfl ?_
          exact go_end rfl rfl
        refine go_run 0 (F' := (4, [some (.int p1), some (.int p2)], [.int 1], h)) rfl ?_
        refine go_run 2 (F' := (8, [some (.int p1), some (.int p2)], [.int p2], h)) rfl ?_
        refine go_call (m' := 33) (v := some (.int 0)) (h1 := h) rfl rfl ⟨rfl, Nat.le_of_ble_eq_true rfl⟩ ?_ ?_
        · refine go_run 0 (F' := (0, [some (.int p2)], [], h)) rfl ?_
          refine go_run 1 (F' := (1, [some (.int p2)], [.int p2], h)) rfl ?_
          refine go_step rfl rfl ?_
          rw [if_pos q3]
          refine go_run 0 (F' := (14, [some (.int p2)], [], h)) rfl ?_
          refine go_run 1 (F' := (15, [some (.int p2)], [.int 0], h)) rfl ?_
          exact go_end rfl rfl
        refine go_run 0 (F' := (11, [some (.int p1), some (.int p2)], [.int 0], h)) rfl ?_
        refine go_run 1 (F' := (19, [some (.int p1), some (.int p2)], [], h)) rfl ?_
        exact go_end rfl rfl
  refine go_run 0 (F' := (24, [some (.ref 0), some (.int p1), some (.int p2), some (.int p3), some (.ref 177), none], [], (h ++ [.inr (14, [])]))) rfl ?_
  refine go_run 1 (F' := (25, [some (.ref 0), some (.int p1), some (.int p2), some (.int p3), some (.ref 177), none], [.int 1], (h ++ [.inr (14, [])]))) rfl ?_
  exact go_end rfl rfl
set_option maxRecDepth 100000 in
theorem vc_label_4 {X : ie_X} {d : Nat} {h : ie_H} {p1 p2 p3 nl cf cw : Int32} {pl : Nat} (c0 : h[0]? = some (.inr (0, [.ref 1, .int nl, .int cf, .int cw, .ref pl, .ref 2, .ref 133]))) (q1 : ¬ (p1 < 0)) (q2 : ¬ (6 ≤ p1)) (q3 : ¬ (p2 < 0)) (q4 : 6 ≤ p2) : Go X (d + 4) 124 (0, ie_en 124 [.ref 0, .int p1, .int p2, .int p3, .ref 177], [], h) (.inl (some (.int 1))) (h ++ [.inr (14, [])]) := by
  refine go_run 0 (F' := (0, [some (.ref 0), some (.int p1), some (.int p2), some (.int p3), some (.ref 177), none], [], h)) rfl ?_
  refine go_run 6 (F' := (7, [some (.ref 0), some (.int p1), some (.int p2), some (.int p3), some (.ref 177), none], [.int p3, .int p2, .int p1, .ref 0, .int 0, .ref 177], h)) rfl ?_
  refine go_catch (m' := 125) (ci := 14) (h1 := (h ++ [.inr (14, [])])) rfl (by simp only [ie_step, ie_iv, List.drop, c0, if_true]; rfl) ⟨rfl, Nat.le_of_ble_eq_true rfl⟩ rfl rfl rfl ?_ ?_
  · refine go_run 0 (F' := (0, [some (.ref 0), some (.int p1), some (.int p2), some (.int p3)], [], h)) rfl ?_
    refine go_run 4 (F' := (4, [some (.ref 0), some (.int p1), some (.int p2), some (.int p3)], [.int p3, .int p2, .int p1, .ref 0], h)) rfl ?_
    refine go_out (m' := 123) rfl (by simp only [ie_step, ie_iv, List.drop, c0, if_true]; rfl) ⟨rfl, Nat.le_of_ble_eq_true rfl⟩ rfl rfl ?_
    · refine go_run 0 (F' := (0, [some (.ref 0), some (.int p1), some (.int p2), some (.int p3)], [], h)) rfl ?_
      refine go_run 2 (F' := (2, [some (.ref 0), some (.int p1), some (.int p2), some (.int p3)], [.int p2, .int p1], h)) rfl ?_
      refine go_out (m' := 120) rfl rfl ⟨rfl, Nat.le_of_ble_eq_true rfl⟩ rfl rfl ?_
      · refine go_run 0 (F' := (0, [some (.int p1), some (.int p2)], [], h)) rfl ?_
        refine go_run 1 (F' := (1, [some (.int p1), some (.int p2)], [.int p1], h)) rfl ?_
        refine go_call (m' := 33) (v := some (.int 1)) (h1 := h) rfl rfl ⟨rfl, Nat.le_of_ble_eq_true rfl⟩ ?_ ?_
        · refine go_run 0 (F' := (0, [some (.int p1)], [], h)) rfl ?_
          refine go_run 1 (F' := (1, [some (.int p1)], [.int p1], h)) rfl ?_
          refine go_step rfl rfl ?_
          rw [if_neg q1]
          refine go_run 0 (F' := (4, [some (.int p1)], [], h)) rfl ?_
          refine go_run 2 (F' := (7, [some (.int p1)], [.int 6, .int p1], h)) rfl ?_
          refine go_step rfl rfl ?_
          rw [if_neg q2]
          refine go_run 0 (F' := (10, [some (.int p1)], [], h)) rfl ?_
          refine go_run 2 (F' := (15, [some (.int p1)], [.int 1], h)) rfl ?_
          exact go_end rfl rfl
        refine go_run 0 (F' := (4, [some (.int p1), some (.int p2)], [.int 1], h)) rfl ?_
        refine go_run 2 (F' := (8, [some (.int p1), some (.int p2)], [.int p2], h)) rfl ?_
        refine go_call (m' := 33) (v := some (.int 0)) (h1 := h) rfl rfl ⟨rfl, Nat.le_of_ble_eq_true rfl⟩ ?_ ?_
        · refine go_run 0 (F' := (0, [some (.int p2)], [], h)) rfl ?_
          refine go_run 1 (F' := (1, [some (.int p2)], [.int p2], h)) rfl ?_
          refine go_step rfl rfl ?_
          rw [if_neg q3]
          refine go_run 0 (F' := (4, [some (.int p2)], [], h)) rfl ?_
          refine go_run 2 (F' := (7, [some (.int p2)], [.int 6, .int p2], h)) rfl ?_
          refine go_step rfl rfl ?_
          rw [if_pos q4]
          refine go_run 0 (F' := (14, [some (.int p2)], [], h)) rfl ?_
          refine go_run 1 (F' := (15, [some (.int p2)], [.int 0], h)) rfl ?_
          exact go_end rfl rfl
        refine go_run 0 (F' := (11, [some (.int p1), some (.int p2)], [.int 0], h)) rfl ?_
        refine go_run 1 (F' := (19, [some (.int p1), some (.int p2)], [], h)) rfl ?_
        exact go_end rfl rfl
  refine go_run 0 (F' := (24, [some (.ref 0), some (.int p1), some (.int p2), some (.int p3), some (.ref 177), none], [], (h ++ [.inr (14, [])]))) rfl ?_
  refine go_run 1 (F' := (25, [some (.ref 0), some (.int p1), some (.int p2), some (.int p3), some (.ref 177), none], [.int 1], (h ++ [.inr (14, [])]))) rfl ?_
  exact go_end rfl rfl
set_option maxRecDepth 100000 in
theorem vc_label_5 {X : ie_X} {d : Nat} {h : ie_H} {p1 p2 p3 nl cf cw : Int32} {pl : Nat} (c0 : h[0]? = some (.inr (0, [.ref 1, .int nl, .int cf, .int cw, .ref pl, .ref 2, .ref 133]))) (q1 : ¬ (p1 < 0)) (q2 : ¬ (6 ≤ p1)) (q3 : ¬ (p2 < 0)) (q4 : ¬ (6 ≤ p2)) (q5 : p1 = p2) : Go X (d + 4) 124 (0, ie_en 124 [.ref 0, .int p1, .int p2, .int p3, .ref 177], [], h) (.inl (some (.int 1))) (h ++ [.inr (14, [])]) := by
  refine go_run 0 (F' := (0, [some (.ref 0), some (.int p1), some (.int p2), some (.int p3), some (.ref 177), none], [], h)) rfl ?_
  refine go_run 6 (F' := (7, [some (.ref 0), some (.int p1), some (.int p2), some (.int p3), some (.ref 177), none], [.int p3, .int p2, .int p1, .ref 0, .int 0, .ref 177], h)) rfl ?_
  refine go_catch (m' := 125) (ci := 14) (h1 := (h ++ [.inr (14, [])])) rfl (by simp only [ie_step, ie_iv, List.drop, c0, if_true]; rfl) ⟨rfl, Nat.le_of_ble_eq_true rfl⟩ rfl rfl rfl ?_ ?_
  · refine go_run 0 (F' := (0, [some (.ref 0), some (.int p1), some (.int p2), some (.int p3)], [], h)) rfl ?_
    refine go_run 4 (F' := (4, [some (.ref 0), some (.int p1), some (.int p2), some (.int p3)], [.int p3, .int p2, .int p1, .ref 0], h)) rfl ?_
    refine go_out (m' := 123) rfl (by simp only [ie_step, ie_iv, List.drop, c0, if_true]; rfl) ⟨rfl, Nat.le_of_ble_eq_true rfl⟩ rfl rfl ?_
    · refine go_run 0 (F' := (0, [some (.ref 0), some (.int p1), some (.int p2), some (.int p3)], [], h)) rfl ?_
      refine go_run 2 (F' := (2, [some (.ref 0), some (.int p1), some (.int p2), some (.int p3)], [.int p2, .int p1], h)) rfl ?_
      refine go_out (m' := 120) rfl rfl ⟨rfl, Nat.le_of_ble_eq_true rfl⟩ rfl rfl ?_
      · refine go_run 0 (F' := (0, [some (.int p1), some (.int p2)], [], h)) rfl ?_
        refine go_run 1 (F' := (1, [some (.int p1), some (.int p2)], [.int p1], h)) rfl ?_
        refine go_call (m' := 33) (v := some (.int 1)) (h1 := h) rfl rfl ⟨rfl, Nat.le_of_ble_eq_true rfl⟩ ?_ ?_
        · refine go_run 0 (F' := (0, [some (.int p1)], [], h)) rfl ?_
          refine go_run 1 (F' := (1, [some (.int p1)], [.int p1], h)) rfl ?_
          refine go_step rfl rfl ?_
          rw [if_neg q1]
          refine go_run 0 (F' := (4, [some (.int p1)], [], h)) rfl ?_
          refine go_run 2 (F' := (7, [some (.int p1)], [.int 6, .int p1], h)) rfl ?_
          refine go_step rfl rfl ?_
          rw [if_neg q2]
          refine go_run 0 (F' := (10, [some (.int p1)], [], h)) rfl ?_
          refine go_run 2 (F' := (15, [some (.int p1)], [.int 1], h)) rfl ?_
          exact go_end rfl rfl
        refine go_run 0 (F' := (4, [some (.int p1), some (.int p2)], [.int 1], h)) rfl ?_
        refine go_run 2 (F' := (8, [some (.int p1), some (.int p2)], [.int p2], h)) rfl ?_
        refine go_call (m' := 33) (v := some (.int 1)) (h1 := h) rfl rfl ⟨rfl, Nat.le_of_ble_eq_true rfl⟩ ?_ ?_
        · refine go_run 0 (F' := (0, [some (.int p2)], [], h)) rfl ?_
          refine go_run 1 (F' := (1, [some (.int p2)], [.int p2], h)) rfl ?_
          refine go_step rfl rfl ?_
          rw [if_neg q3]
          refine go_run 0 (F' := (4, [some (.int p2)], [], h)) rfl ?_
          refine go_run 2 (F' := (7, [some (.int p2)], [.int 6, .int p2], h)) rfl ?_
          refine go_step rfl rfl ?_
          rw [if_neg q4]
          refine go_run 0 (F' := (10, [some (.int p2)], [], h)) rfl ?_
          refine go_run 2 (F' := (15, [some (.int p2)], [.int 1], h)) rfl ?_
          exact go_end rfl rfl
        refine go_run 0 (F' := (11, [some (.int p1), some (.int p2)], [.int 1], h)) rfl ?_
        refine go_run 3 (F' := (16, [some (.int p1), some (.int p2)], [.int p2, .int p1], h)) rfl ?_
        refine go_step rfl rfl ?_
        rw [if_pos q5]
        refine go_run 0 (F' := (19, [some (.int p1), some (.int p2)], [], h)) rfl ?_
        exact go_end rfl rfl
  refine go_run 0 (F' := (24, [some (.ref 0), some (.int p1), some (.int p2), some (.int p3), some (.ref 177), none], [], (h ++ [.inr (14, [])]))) rfl ?_
  refine go_run 1 (F' := (25, [some (.ref 0), some (.int p1), some (.int p2), some (.int p3), some (.ref 177), none], [.int 1], (h ++ [.inr (14, [])]))) rfl ?_
  exact go_end rfl rfl
set_option maxRecDepth 100000 in
theorem vc_label_6 {X : ie_X} {d : Nat} {h : ie_H} {p1 p2 p3 nl cf cw : Int32} {pl : Nat} (c0 : h[0]? = some (.inr (0, [.ref 1, .int nl, .int cf, .int cw, .ref pl, .ref 2, .ref 133]))) (q1 : ¬ (p1 < 0)) (q2 : ¬ (6 ≤ p1)) (q3 : ¬ (p2 < 0)) (q4 : ¬ (6 ≤ p2)) (q5 : ¬ (p1 = p2)) (q6 : p3 < 0) : Go X (d + 4) 124 (0, ie_en 124 [.ref 0, .int p1, .int p2, .int p3, .ref 177], [], h) (.inl (some (.int 2))) (h ++ [.inr (15, [])]) := by
  refine go_run 0 (F' := (0, [some (.ref 0), some (.int p1), some (.int p2), some (.int p3), some (.ref 177), none], [], h)) rfl ?_
  refine go_run 6 (F' := (7, [some (.ref 0), some (.int p1), some (.int p2), some (.int p3), some (.ref 177), none], [.int p3, .int p2, .int p1, .ref 0, .int 0, .ref 177], h)) rfl ?_
  refine go_catch (m' := 125) (ci := 15) (h1 := (h ++ [.inr (15, [])])) rfl (by simp only [ie_step, ie_iv, List.drop, c0, if_true]; rfl) ⟨rfl, Nat.le_of_ble_eq_true rfl⟩ rfl rfl rfl ?_ ?_
  · refine go_run 0 (F' := (0, [some (.ref 0), some (.int p1), some (.int p2), some (.int p3)], [], h)) rfl ?_
    refine go_run 4 (F' := (4, [some (.ref 0), some (.int p1), some (.int p2), some (.int p3)], [.int p3, .int p2, .int p1, .ref 0], h)) rfl ?_
    refine go_out (m' := 123) rfl (by simp only [ie_step, ie_iv, List.drop, c0, if_true]; rfl) ⟨rfl, Nat.le_of_ble_eq_true rfl⟩ rfl rfl ?_
    · refine go_run 0 (F' := (0, [some (.ref 0), some (.int p1), some (.int p2), some (.int p3)], [], h)) rfl ?_
      refine go_run 2 (F' := (2, [some (.ref 0), some (.int p1), some (.int p2), some (.int p3)], [.int p2, .int p1], h)) rfl ?_
      refine go_call (m' := 120) (v := none) (h1 := h) rfl rfl ⟨rfl, Nat.le_of_ble_eq_true rfl⟩ ?_ ?_
      · refine go_run 0 (F' := (0, [some (.int p1), some (.int p2)], [], h)) rfl ?_
        refine go_run 1 (F' := (1, [some (.int p1), some (.int p2)], [.int p1], h)) rfl ?_
        refine go_call (m' := 33) (v := some (.int 1)) (h1 := h) rfl rfl ⟨rfl, Nat.le_of_ble_eq_true rfl⟩ ?_ ?_
        · refine go_run 0 (F' := (0, [some (.int p1)], [], h)) rfl ?_
          refine go_run 1 (F' := (1, [some (.int p1)], [.int p1], h)) rfl ?_
          refine go_step rfl rfl ?_
          rw [if_neg q1]
          refine go_run 0 (F' := (4, [some (.int p1)], [], h)) rfl ?_
          refine go_run 2 (F' := (7, [some (.int p1)], [.int 6, .int p1], h)) rfl ?_
          refine go_step rfl rfl ?_
          rw [if_neg q2]
          refine go_run 0 (F' := (10, [some (.int p1)], [], h)) rfl ?_
          refine go_run 2 (F' := (15, [some (.int p1)], [.int 1], h)) rfl ?_
          exact go_end rfl rfl
        refine go_run 0 (F' := (4, [some (.int p1), some (.int p2)], [.int 1], h)) rfl ?_
        refine go_run 2 (F' := (8, [some (.int p1), some (.int p2)], [.int p2], h)) rfl ?_
        refine go_call (m' := 33) (v := some (.int 1)) (h1 := h) rfl rfl ⟨rfl, Nat.le_of_ble_eq_true rfl⟩ ?_ ?_
        · refine go_run 0 (F' := (0, [some (.int p2)], [], h)) rfl ?_
          refine go_run 1 (F' := (1, [some (.int p2)], [.int p2], h)) rfl ?_
          refine go_step rfl rfl ?_
          rw [if_neg q3]
          refine go_run 0 (F' := (4, [some (.int p2)], [], h)) rfl ?_
          refine go_run 2 (F' := (7, [some (.int p2)], [.int 6, .int p2], h)) rfl ?_
          refine go_step rfl rfl ?_
          rw [if_neg q4]
          refine go_run 0 (F' := (10, [some (.int p2)], [], h)) rfl ?_
          refine go_run 2 (F' := (15, [some (.int p2)], [.int 1], h)) rfl ?_
          exact go_end rfl rfl
        refine go_run 0 (F' := (11, [some (.int p1), some (.int p2)], [.int 1], h)) rfl ?_
        refine go_run 3 (F' := (16, [some (.int p1), some (.int p2)], [.int p2, .int p1], h)) rfl ?_
        refine go_step rfl rfl ?_
        rw [if_neg q5]
        refine go_run 0 (F' := (27, [some (.int p1), some (.int p2)], [], h)) rfl ?_
        exact go_end rfl rfl
      refine go_run 0 (F' := (5, [some (.ref 0), some (.int p1), some (.int p2), some (.int p3)], [], h)) rfl ?_
      refine go_run 1 (F' := (6, [some (.ref 0), some (.int p1), some (.int p2), some (.int p3)], [.int p3], h)) rfl ?_
      refine go_step rfl rfl ?_
      rw [if_pos q6]
      refine go_run 0 (F' := (25, [some (.ref 0), some (.int p1), some (.int p2), some (.int p3)], [], h)) rfl ?_
      exact go_end rfl rfl
  refine go_run 0 (F' := (28, [some (.ref 0), some (.int p1), some (.int p2), some (.int p3), some (.ref 177), none], [], (h ++ [.inr (15, [])]))) rfl ?_
  refine go_run 1 (F' := (29, [some (.ref 0), some (.int p1), some (.int p2), some (.int p3), some (.ref 177), none], [.int 2], (h ++ [.inr (15, [])]))) rfl ?_
  exact go_end rfl rfl
set_option maxRecDepth 100000 in
theorem vc_label_7 {X : ie_X} {d : Nat} {h : ie_H} {p1 p2 p3 nl cf cw crm csp v4 v5 : Int32} {pl a1 : Nat} {z2 z3 : Value} (c0 : h[0]? = some (.inr (0, [.ref 1, .int nl, .int cf, .int cw, .ref pl, .ref 2, .ref 133]))) (c2 : h[2]? = some (.inr (8, [.ref 3, .ref 4, .ref 5, .ref 6, .int crm, .int csp]))) (c4 : h[4]? = some (.inl (5, 36, .inr (.inr (.inr (.inr rf_4)))))) (c_a1 : h[a1]? = some (.inr (6, [z2, z3, .int v4, .int v5]))) (q1 : ¬ (p1 < 0)) (q2 : ¬ (6 ≤ p1)) (q3 : ¬ (p2 < 0)) (q4 : ¬ (6 ≤ p2)) (q5 : ¬ (p1 = p2)) (q6 : ¬ (p3 < 0)) (b_6 : 0 ≤ Int32.toInt ((p1 * 6) + p2) ∧ Int32.toInt ((p1 * 6) + p2) < (36 : Int)) (r_7 : rf_4 (Int32.toNatClampNeg ((p1 * 6) + p2)) = some a1) (q7 : ¬ (p3 < v5)) : Go X (d + 4) 124 (0, ie_en 124 [.ref 0, .int p1, .int p2, .int p3, .ref 177], [], h) (.inl (some (.int 2))) (h ++ [.inr (15, [])]) := by
  refine go_run 0 (F' := (0, [some (.ref 0), some (.int p1), some (.int p2), some (.int p3), some (.ref 177), none], [], h)) rfl ?_
  refine go_run 6 (F' := (7, [some (.ref 0), some (.int p1), some (.int p2), some (.int p3), some (.ref 177), none], [.int p3, .int p2, .int p1, .ref 0, .int 0, .ref 177], h)) rfl ?_
  refine go_catch (m' := 125) (ci := 15) (h1 := (h ++ [.inr (15, [])])) rfl (by simp only [ie_step, ie_iv, List.drop, c0, if_true]; rfl) ⟨rfl, Nat.le_of_ble_eq_true rfl⟩ rfl rfl rfl ?_ ?_
  · refine go_run 0 (F' := (0, [some (.ref 0), some (.int p1), some (.int p2), some (.int p3)], [], h)) rfl ?_
    refine go_run 4 (F' := (4, [some (.ref 0), some (.int p1), some (.int p2), some (.int p3)], [.int p3, .int p2, .int p1, .ref 0], h)) rfl ?_
    refine go_out (m' := 123) rfl (by simp only [ie_step, ie_iv, List.drop, c0, if_true]; rfl) ⟨rfl, Nat.le_of_ble_eq_true rfl⟩ rfl rfl ?_
    · refine go_run 0 (F' := (0, [some (.ref 0), some (.int p1), some (.int p2), some (.int p3)], [], h)) rfl ?_
      refine go_run 2 (F' := (2, [some (.ref 0), some (.int p1), some (.int p2), some (.int p3)], [.int p2, .int p1], h)) rfl ?_
      refine go_call (m' := 120) (v := none) (h1 := h) rfl rfl ⟨rfl, Nat.le_of_ble_eq_true rfl⟩ ?_ ?_
      · refine go_run 0 (F' := (0, [some (.int p1), some (.int p2)], [], h)) rfl ?_
        refine go_run 1 (F' := (1, [some (.int p1), some (.int p2)], [.int p1], h)) rfl ?_
        refine go_call (m' := 33) (v := some (.int 1)) (h1 := h) rfl rfl ⟨rfl, Nat.le_of_ble_eq_true rfl⟩ ?_ ?_
        · refine go_run 0 (F' := (0, [some (.int p1)], [], h)) rfl ?_
          refine go_run 1 (F' := (1, [some (.int p1)], [.int p1], h)) rfl ?_
          refine go_step rfl rfl ?_
          rw [if_neg q1]
          refine go_run 0 (F' := (4, [some (.int p1)], [], h)) rfl ?_
          refine go_run 2 (F' := (7, [some (.int p1)], [.int 6, .int p1], h)) rfl ?_
          refine go_step rfl rfl ?_
          rw [if_neg q2]
          refine go_run 0 (F' := (10, [some (.int p1)], [], h)) rfl ?_
          refine go_run 2 (F' := (15, [some (.int p1)], [.int 1], h)) rfl ?_
          exact go_end rfl rfl
        refine go_run 0 (F' := (4, [some (.int p1), some (.int p2)], [.int 1], h)) rfl ?_
        refine go_run 2 (F' := (8, [some (.int p1), some (.int p2)], [.int p2], h)) rfl ?_
        refine go_call (m' := 33) (v := some (.int 1)) (h1 := h) rfl rfl ⟨rfl, Nat.le_of_ble_eq_true rfl⟩ ?_ ?_
        · refine go_run 0 (F' := (0, [some (.int p2)], [], h)) rfl ?_
          refine go_run 1 (F' := (1, [some (.int p2)], [.int p2], h)) rfl ?_
          refine go_step rfl rfl ?_
          rw [if_neg q3]
          refine go_run 0 (F' := (4, [some (.int p2)], [], h)) rfl ?_
          refine go_run 2 (F' := (7, [some (.int p2)], [.int 6, .int p2], h)) rfl ?_
          refine go_step rfl rfl ?_
          rw [if_neg q4]
          refine go_run 0 (F' := (10, [some (.int p2)], [], h)) rfl ?_
          refine go_run 2 (F' := (15, [some (.int p2)], [.int 1], h)) rfl ?_
          exact go_end rfl rfl
        refine go_run 0 (F' := (11, [some (.int p1), some (.int p2)], [.int 1], h)) rfl ?_
        refine go_run 3 (F' := (16, [some (.int p1), some (.int p2)], [.int p2, .int p1], h)) rfl ?_
        refine go_step rfl rfl ?_
        rw [if_neg q5]
        refine go_run 0 (F' := (27, [some (.int p1), some (.int p2)], [], h)) rfl ?_
        exact go_end rfl rfl
      refine go_run 0 (F' := (5, [some (.ref 0), some (.int p1), some (.int p2), some (.int p3)], [], h)) rfl ?_
      refine go_run 1 (F' := (6, [some (.ref 0), some (.int p1), some (.int p2), some (.int p3)], [.int p3], h)) rfl ?_
      refine go_step rfl rfl ?_
      rw [if_neg q6]
      refine go_run 0 (F' := (9, [some (.ref 0), some (.int p1), some (.int p2), some (.int p3)], [], h)) rfl ?_
      refine go_run 2 (F' := (11, [some (.ref 0), some (.int p1), some (.int p2), some (.int p3)], [.ref 0, .int p3], h)) rfl ?_
      refine go_gf rfl c0 rfl ?_
      refine go_run 0 (F' := (14, [some (.ref 0), some (.int p1), some (.int p2), some (.int p3)], [.ref 2, .int p3], h)) rfl ?_
      refine go_run 2 (F' := (16, [some (.ref 0), some (.int p1), some (.int p2), some (.int p3)], [.int p2, .int p1, .ref 2, .int p3], h)) rfl ?_
      refine go_call (m' := 104) (v := some (.ref a1)) (h1 := h) rfl (by simp only [ie_step, ie_iv, List.drop, c2, if_true]; rfl) ⟨rfl, Nat.le_of_ble_eq_true rfl⟩ ?_ ?_
      · refine go_run 0 (F' := (0, [some (.ref 2), some (.int p1), some (.int p2)], [], h)) rfl ?_
        refine go_run 1 (F' := (1, [some (.ref 2), some (.int p1), some (.int p2)], [.ref 2], h)) rfl ?_
        refine go_gf rfl c2 rfl ?_
        refine go_run 0 (F' := (4, [some (.ref 2), some (.int p1), some (.int p2)], [.ref 4], h)) rfl ?_
        refine go_run 5 (F' := (10, [some (.ref 2), some (.int p1), some (.int p2)], [.int ((p1 * 6) + p2), .ref 4], h)) rfl ?_
        refine go_aald rfl c4 (by decide) b_6 r_7 ?_
        refine go_run 0 (F' := (11, [some (.ref 2), some (.int p1), some (.int p2)], [.ref a1], h)) rfl ?_
        exact go_end rfl rfl
      refine go_run 0 (F' := (19, [some (.ref 0), some (.int p1), some (.int p2), some (.int p3)], [.ref a1, .int p3], h)) rfl ?_
      refine go_gf rfl c_a1 rfl ?_
      refine go_run 0 (F' := (22, [some (.ref 0), some (.int p1), some (.int p2), some (.int p3)], [.int v5, .int p3], h)) rfl ?_
      refine go_step rfl rfl ?_
      rw [if_neg q7]
      refine go_run 0 (F' := (25, [some (.ref 0), some (.int p1), some (.int p2), some (.int p3)], [], h)) rfl ?_
      exact go_end rfl rfl
  refine go_run 0 (F' := (28, [some (.ref 0), some (.int p1), some (.int p2), some (.int p3), some (.ref 177), none], [], (h ++ [.inr (15, [])]))) rfl ?_
  refine go_run 1 (F' := (29, [some (.ref 0), some (.int p1), some (.int p2), some (.int p3), some (.ref 177), none], [.int 2], (h ++ [.inr (15, [])]))) rfl ?_
  exact go_end rfl rfl
set_option maxRecDepth 100000 in
theorem vc_label_8 {X : ie_X} {d : Nat} {h : ie_H} {p1 p2 p3 nl cf cw crm csp v4 v5 v9 v10 : Int32} {pl a1 a6 a11 n13 : Nat} {z2 z3 z7 : Value} {f12 : Nat → Int32} {fo : Nat → Int64} (c0 : h[0]? = some (.inr (0, [.ref 1, .int nl, .int cf, .int cw, .ref pl, .ref 2, .ref 133]))) (c2 : h[2]? = some (.inr (8, [.ref 3, .ref 4, .ref 5, .ref 6, .int crm, .int csp]))) (c4 : h[4]? = some (.inl (5, 36, .inr (.inr (.inr (.inr rf_4)))))) (c_a1 : h[a1]? = some (.inr (6, [z2, z3, .int v4, .int v5]))) (c_a6 : h[a6]? = some (.inr (6, [z7, .ref a11, .int v9, .int v10]))) (c_a11 : h[a11]? = some (.inl (2, n13, .inl f12))) (c177 : h[177]? = some (.inl (3, 1, .inr (.inl fo)))) (q1 : ¬ (p1 < 0)) (q2 : ¬ (6 ≤ p1)) (q3 : ¬ (p2 < 0)) (q4 : ¬ (6 ≤ p2)) (q5 : ¬ (p1 = p2)) (q6 : ¬ (p3 < 0)) (b_6 : 0 ≤ Int32.toInt ((p1 * 6) + p2) ∧ Int32.toInt ((p1 * 6) + p2) < (36 : Int)) (r_7 : rf_4 (Int32.toNatClampNeg ((p1 * 6) + p2)) = some a1) (q7 : p3 < v5) (r_9 : rf_4 (Int32.toNatClampNeg ((p1 * 6) + p2)) = some a6) (b_10 : 0 ≤ Int32.toInt ((v9 + p3) - (v9 + p3) / 8 * 8) ∧ Int32.toInt ((v9 + p3) - (v9 + p3) / 8 * 8) < (n13 : Int)) (nS_a11 : a11 ≠ ie_S) (z_12 : f12 (Int32.toNatClampNeg ((v9 + p3) - (v9 + p3) / 8 * 8)) = 0 ∨ f12 (Int32.toNatClampNeg ((v9 + p3) - (v9 + p3) / 8 * 8)) = 1) (z_13 : f12 (Int32.toNatClampNeg ((v9 + p3) - (v9 + p3) / 8 * 8)) = 0 ∨ f12 (Int32.toNatClampNeg ((v9 + p3) - (v9 + p3) / 8 * 8)) = 1) (q8 : f12 (Int32.toNatClampNeg ((v9 + p3) - (v9 + p3) / 8 * 8)) = 0) (ne_177_a1 : 177 ≠ a1) (ne_177_a6 : 177 ≠ a6) (ne_177_a11 : 177 ≠ a11) : Go X (d + 4) 124 (0, ie_en 124 [.ref 0, .int p1, .int p2, .int p3, .ref 177], [], h) (.inl (some (.int 0))) (List.set h 177 (.inl (3, 1, .inr (.inl (vp_updL fo 0 0))))) := by
  refine go_run 0 (F' := (0, [some (.ref 0), some (.int p1), some (.int p2), some (.int p3), some (.ref 177), none], [], h)) rfl ?_
  refine go_run 6 (F' := (7, [some (.ref 0), some (.int p1), some (.int p2), some (.int p3), some (.ref 177), none], [.int p3, .int p2, .int p1, .ref 0, .int 0, .ref 177], h)) rfl ?_
  refine go_call (m' := 125) (v := some (.int (f12 (Int32.toNatClampNeg ((v9 + p3) - (v9 + p3) / 8 * 8))))) (h1 := h) rfl (by simp only [ie_step, ie_iv, List.drop, c0, if_true]; rfl) ⟨rfl, Nat.le_of_ble_eq_true rfl⟩ ?_ ?_
  · refine go_run 0 (F' := (0, [some (.ref 0), some (.int p1), some (.int p2), some (.int p3)], [], h)) rfl ?_
    refine go_run 4 (F' := (4, [some (.ref 0), some (.int p1), some (.int p2), some (.int p3)], [.int p3, .int p2, .int p1, .ref 0], h)) rfl ?_
    refine go_call (m' := 123) (v := none) (h1 := h) rfl (by simp only [ie_step, ie_iv, List.drop, c0, if_true]; rfl) ⟨rfl, Nat.le_of_ble_eq_true rfl⟩ ?_ ?_
    · refine go_run 0 (F' := (0, [some (.ref 0), some (.int p1), some (.int p2), some (.int p3)], [], h)) rfl ?_
      refine go_run 2 (F' := (2, [some (.ref 0), some (.int p1), some (.int p2), some (.int p3)], [.int p2, .int p1], h)) rfl ?_
      refine go_call (m' := 120) (v := none) (h1 := h) rfl rfl ⟨rfl, Nat.le_of_ble_eq_true rfl⟩ ?_ ?_
      · refine go_run 0 (F' := (0, [some (.int p1), some (.int p2)], [], h)) rfl ?_
        refine go_run 1 (F' := (1, [some (.int p1), some (.int p2)], [.int p1], h)) rfl ?_
        refine go_call (m' := 33) (v := some (.int 1)) (h1 := h) rfl rfl ⟨rfl, Nat.le_of_ble_eq_true rfl⟩ ?_ ?_
        · refine go_run 0 (F' := (0, [some (.int p1)], [], h)) rfl ?_
          refine go_run 1 (F' := (1, [some (.int p1)], [.int p1], h)) rfl ?_
          refine go_step rfl rfl ?_
          rw [if_neg q1]
          refine go_run 0 (F' := (4, [some (.int p1)], [], h)) rfl ?_
          refine go_run 2 (F' := (7, [some (.int p1)], [.int 6, .int p1], h)) rfl ?_
          refine go_step rfl rfl ?_
          rw [if_neg q2]
          refine go_run 0 (F' := (10, [some (.int p1)], [], h)) rfl ?_
          refine go_run 2 (F' := (15, [some (.int p1)], [.int 1], h)) rfl ?_
          exact go_end rfl rfl
        refine go_run 0 (F' := (4, [some (.int p1), some (.int p2)], [.int 1], h)) rfl ?_
        refine go_run 2 (F' := (8, [some (.int p1), some (.int p2)], [.int p2], h)) rfl ?_
        refine go_call (m' := 33) (v := some (.int 1)) (h1 := h) rfl rfl ⟨rfl, Nat.le_of_ble_eq_true rfl⟩ ?_ ?_
        · refine go_run 0 (F' := (0, [some (.int p2)], [], h)) rfl ?_
          refine go_run 1 (F' := (1, [some (.int p2)], [.int p2], h)) rfl ?_
          refine go_step rfl rfl ?_
          rw [if_neg q3]
          refine go_run 0 (F' := (4, [some (.int p2)], [], h)) rfl ?_
          refine go_run 2 (F' := (7, [some (.int p2)], [.int 6, .int p2], h)) rfl ?_
          refine go_step rfl rfl ?_
          rw [if_neg q4]
          refine go_run 0 (F' := (10, [some (.int p2)], [], h)) rfl ?_
          refine go_run 2 (F' := (15, [some (.int p2)], [.int 1], h)) rfl ?_
          exact go_end rfl rfl
        refine go_run 0 (F' := (11, [some (.int p1), some (.int p2)], [.int 1], h)) rfl ?_
        refine go_run 3 (F' := (16, [some (.int p1), some (.int p2)], [.int p2, .int p1], h)) rfl ?_
        refine go_step rfl rfl ?_
        rw [if_neg q5]
        refine go_run 0 (F' := (27, [some (.int p1), some (.int p2)], [], h)) rfl ?_
        exact go_end rfl rfl
      refine go_run 0 (F' := (5, [some (.ref 0), some (.int p1), some (.int p2), some (.int p3)], [], h)) rfl ?_
      refine go_run 1 (F' := (6, [some (.ref 0), some (.int p1), some (.int p2), some (.int p3)], [.int p3], h)) rfl ?_
      refine go_step rfl rfl ?_
      rw [if_neg q6]
      refine go_run 0 (F' := (9, [some (.ref 0), some (.int p1), some (.int p2), some (.int p3)], [], h)) rfl ?_
      refine go_run 2 (F' := (11, [some (.ref 0), some (.int p1), some (.int p2), some (.int p3)], [.ref 0, .int p3], h)) rfl ?_
      refine go_gf rfl c0 rfl ?_
      refine go_run 0 (F' := (14, [some (.ref 0), some (.int p1), some (.int p2), some (.int p3)], [.ref 2, .int p3], h)) rfl ?_
      refine go_run 2 (F' := (16, [some (.ref 0), some (.int p1), some (.int p2), some (.int p3)], [.int p2, .int p1, .ref 2, .int p3], h)) rfl ?_
      refine go_call (m' := 104) (v := some (.ref a1)) (h1 := h) rfl (by simp only [ie_step, ie_iv, List.drop, c2, if_true]; rfl) ⟨rfl, Nat.le_of_ble_eq_true rfl⟩ ?_ ?_
      · refine go_run 0 (F' := (0, [some (.ref 2), some (.int p1), some (.int p2)], [], h)) rfl ?_
        refine go_run 1 (F' := (1, [some (.ref 2), some (.int p1), some (.int p2)], [.ref 2], h)) rfl ?_
        refine go_gf rfl c2 rfl ?_
        refine go_run 0 (F' := (4, [some (.ref 2), some (.int p1), some (.int p2)], [.ref 4], h)) rfl ?_
        refine go_run 5 (F' := (10, [some (.ref 2), some (.int p1), some (.int p2)], [.int ((p1 * 6) + p2), .ref 4], h)) rfl ?_
        refine go_aald rfl c4 (by decide) b_6 r_7 ?_
        refine go_run 0 (F' := (11, [some (.ref 2), some (.int p1), some (.int p2)], [.ref a1], h)) rfl ?_
        exact go_end rfl rfl
      refine go_run 0 (F' := (19, [some (.ref 0), some (.int p1), some (.int p2), some (.int p3)], [.ref a1, .int p3], h)) rfl ?_
      refine go_gf rfl c_a1 rfl ?_
      refine go_run 0 (F' := (22, [some (.ref 0), some (.int p1), some (.int p2), some (.int p3)], [.int v5, .int p3], h)) rfl ?_
      refine go_step rfl rfl ?_
      rw [if_pos q7]
      refine go_run 0 (F' := (33, [some (.ref 0), some (.int p1), some (.int p2), some (.int p3)], [], h)) rfl ?_
      exact go_end rfl rfl
    refine go_run 0 (F' := (7, [some (.ref 0), some (.int p1), some (.int p2), some (.int p3)], [], h)) rfl ?_
    refine go_run 1 (F' := (8, [some (.ref 0), some (.int p1), some (.int p2), some (.int p3)], [.ref 0], h)) rfl ?_
    refine go_gf rfl c0 rfl ?_
    refine go_run 0 (F' := (11, [some (.ref 0), some (.int p1), some (.int p2), some (.int p3)], [.ref 2], h)) rfl ?_
    refine go_run 2 (F' := (13, [some (.ref 0), some (.int p1), some (.int p2), some (.int p3)], [.int p2, .int p1, .ref 2], h)) rfl ?_
    refine go_call (m' := 104) (v := some (.ref a6)) (h1 := h) rfl (by simp only [ie_step, ie_iv, List.drop, c2, if_true]; rfl) ⟨rfl, Nat.le_of_ble_eq_true rfl⟩ ?_ ?_
    · refine go_run 0 (F' := (0, [some (.ref 2), some (.int p1), some (.int p2)], [], h)) rfl ?_
      refine go_run 1 (F' := (1, [some (.ref 2), some (.int p1), some (.int p2)], [.ref 2], h)) rfl ?_
      refine go_gf rfl c2 rfl ?_
      refine go_run 0 (F' := (4, [some (.ref 2), some (.int p1), some (.int p2)], [.ref 4], h)) rfl ?_
      refine go_run 5 (F' := (10, [some (.ref 2), some (.int p1), some (.int p2)], [.int ((p1 * 6) + p2), .ref 4], h)) rfl ?_
      refine go_aald rfl c4 (by decide) b_6 r_9 ?_
      refine go_run 0 (F' := (11, [some (.ref 2), some (.int p1), some (.int p2)], [.ref a6], h)) rfl ?_
      exact go_end rfl rfl
    refine go_run 0 (F' := (16, [some (.ref 0), some (.int p1), some (.int p2), some (.int p3)], [.ref a6], h)) rfl ?_
    refine go_run 1 (F' := (17, [some (.ref 0), some (.int p1), some (.int p2), some (.int p3)], [.int p3, .ref a6], h)) rfl ?_
    refine go_call (m' := 126) (v := some (.int (f12 (Int32.toNatClampNeg ((v9 + p3) - (v9 + p3) / 8 * 8))))) (h1 := h) rfl (by simp only [ie_step, ie_iv, List.drop, c_a6, if_true]; rfl) ⟨rfl, Nat.le_of_ble_eq_true rfl⟩ ?_ ?_
    · refine go_run 0 (F' := (0, [some (.ref a6), some (.int p3)], [], h)) rfl ?_
      refine go_run 1 (F' := (1, [some (.ref a6), some (.int p3)], [.ref a6], h)) rfl ?_
      refine go_gf rfl c_a6 rfl ?_
      refine go_run 0 (F' := (4, [some (.ref a6), some (.int p3)], [.ref a11], h)) rfl ?_
      refine go_run 1 (F' := (5, [some (.ref a6), some (.int p3)], [.ref a6, .ref a11], h)) rfl ?_
      refine go_gf rfl c_a6 rfl ?_
      refine go_run 0 (F' := (8, [some (.ref a6), some (.int p3)], [.int v9, .ref a11], h)) rfl ?_
      refine go_run 4 (F' := (13, [some (.ref a6), some (.int p3)], [.int ((v9 + p3) - (v9 + p3) / 8 * 8), .ref a11], h)) rfl ?_
      refine go_bald rfl nS_a11 c_a11 b_10 rfl ?_
      refine go_run 0 (F' := (14, [some (.ref a6), some (.int p3)], [.int (f12 (Int32.toNatClampNeg ((v9 + p3) - (v9 + p3) / 8 * 8)))], h)) rfl ?_
      exact go_ret rfl rfl rfl (decide_eq_true z_12)
    refine go_run 0 (F' := (20, [some (.ref 0), some (.int p1), some (.int p2), some (.int p3)], [.int (f12 (Int32.toNatClampNeg ((v9 + p3) - (v9 + p3) / 8 * 8)))], h)) rfl ?_
    exact go_ret rfl rfl rfl (decide_eq_true z_13)
  refine go_run 0 (F' := (10, [some (.ref 0), some (.int p1), some (.int p2), some (.int p3), some (.ref 177), none], [.int (f12 (Int32.toNatClampNeg ((v9 + p3) - (v9 + p3) / 8 * 8))), .int 0, .ref 177], h)) rfl ?_
  refine go_step rfl rfl ?_
  rw [if_pos q8]
  refine go_run 0 (F' := (17, [some (.ref 0), some (.int p1), some (.int p2), some (.int p3), some (.ref 177), none], [.int 0, .ref 177], h)) rfl ?_
  refine go_run 1 (F' := (18, [some (.ref 0), some (.int p1), some (.int p2), some (.int p3), some (.ref 177), none], [.long 0, .int 0, .ref 177], h)) rfl ?_
  refine go_last rfl c177 (by decide) rfl ?_
  refine go_run 0 (F' := (19, [some (.ref 0), some (.int p1), some (.int p2), some (.int p3), some (.ref 177), none], [], (List.set h 177 (.inl (3, 1, .inr (.inl (vp_updL fo 0 0))))))) rfl ?_
  refine go_run 2 (F' := (31, [some (.ref 0), some (.int p1), some (.int p2), some (.int p3), some (.ref 177), none], [.int 0], (List.set h 177 (.inl (3, 1, .inr (.inl (vp_updL fo 0 0))))))) rfl ?_
  exact go_end rfl rfl
set_option maxRecDepth 100000 in
theorem vc_label_9 {X : ie_X} {d : Nat} {h : ie_H} {p1 p2 p3 nl cf cw crm csp v4 v5 v9 v10 : Int32} {pl a1 a6 a11 n13 : Nat} {z2 z3 z7 : Value} {f12 : Nat → Int32} {fo : Nat → Int64} (c0 : h[0]? = some (.inr (0, [.ref 1, .int nl, .int cf, .int cw, .ref pl, .ref 2, .ref 133]))) (c2 : h[2]? = some (.inr (8, [.ref 3, .ref 4, .ref 5, .ref 6, .int crm, .int csp]))) (c4 : h[4]? = some (.inl (5, 36, .inr (.inr (.inr (.inr rf_4)))))) (c_a1 : h[a1]? = some (.inr (6, [z2, z3, .int v4, .int v5]))) (c_a6 : h[a6]? = some (.inr (6, [z7, .ref a11, .int v9, .int v10]))) (c_a11 : h[a11]? = some (.inl (2, n13, .inl f12))) (c177 : h[177]? = some (.inl (3, 1, .inr (.inl fo)))) (q1 : ¬ (p1 < 0)) (q2 : ¬ (6 ≤ p1)) (q3 : ¬ (p2 < 0)) (q4 : ¬ (6 ≤ p2)) (q5 : ¬ (p1 = p2)) (q6 : ¬ (p3 < 0)) (b_6 : 0 ≤ Int32.toInt ((p1 * 6) + p2) ∧ Int32.toInt ((p1 * 6) + p2) < (36 : Int)) (r_7 : rf_4 (Int32.toNatClampNeg ((p1 * 6) + p2)) = some a1) (q7 : p3 < v5) (r_9 : rf_4 (Int32.toNatClampNeg ((p1 * 6) + p2)) = some a6) (b_10 : 0 ≤ Int32.toInt ((v9 + p3) - (v9 + p3) / 8 * 8) ∧ Int32.toInt ((v9 + p3) - (v9 + p3) / 8 * 8) < (n13 : Int)) (nS_a11 : a11 ≠ ie_S) (z_12 : f12 (Int32.toNatClampNeg ((v9 + p3) - (v9 + p3) / 8 * 8)) = 0 ∨ f12 (Int32.toNatClampNeg ((v9 + p3) - (v9 + p3) / 8 * 8)) = 1) (z_13 : f12 (Int32.toNatClampNeg ((v9 + p3) - (v9 + p3) / 8 * 8)) = 0 ∨ f12 (Int32.toNatClampNeg ((v9 + p3) - (v9 + p3) / 8 * 8)) = 1) (q8 : ¬ (f12 (Int32.toNatClampNeg ((v9 + p3) - (v9 + p3) / 8 * 8)) = 0)) (ne_177_a1 : 177 ≠ a1) (ne_177_a6 : 177 ≠ a6) (ne_177_a11 : 177 ≠ a11) : Go X (d + 4) 124 (0, ie_en 124 [.ref 0, .int p1, .int p2, .int p3, .ref 177], [], h) (.inl (some (.int 0))) (List.set h 177 (.inl (3, 1, .inr (.inl (vp_updL fo 0 1))))) := by
  refine go_run 0 (F' := (0, [some (.ref 0), some (.int p1), some (.int p2), some (.int p3), some (.ref 177), none], [], h)) rfl ?_
  refine go_run 6 (F' := (7, [some (.ref 0), some (.int p1), some (.int p2), some (.int p3), some (.ref 177), none], [.int p3, .int p2, .int p1, .ref 0, .int 0, .ref 177], h)) rfl ?_
  refine go_call (m' := 125) (v := some (.int (f12 (Int32.toNatClampNeg ((v9 + p3) - (v9 + p3) / 8 * 8))))) (h1 := h) rfl (by simp only [ie_step, ie_iv, List.drop, c0, if_true]; rfl) ⟨rfl, Nat.le_of_ble_eq_true rfl⟩ ?_ ?_
  · refine go_run 0 (F' := (0, [some (.ref 0), some (.int p1), some (.int p2), some (.int p3)], [], h)) rfl ?_
    refine go_run 4 (F' := (4, [some (.ref 0), some (.int p1), some (.int p2), some (.int p3)], [.int p3, .int p2, .int p1, .ref 0], h)) rfl ?_
    refine go_call (m' := 123) (v := none) (h1 := h) rfl (by simp only [ie_step, ie_iv, List.drop, c0, if_true]; rfl) ⟨rfl, Nat.le_of_ble_eq_true rfl⟩ ?_ ?_
    · refine go_run 0 (F' := (0, [some (.ref 0), some (.int p1), some (.int p2), some (.int p3)], [], h)) rfl ?_
      refine go_run 2 (F' := (2, [some (.ref 0), some (.int p1), some (.int p2), some (.int p3)], [.int p2, .int p1], h)) rfl ?_
      refine go_call (m' := 120) (v := none) (h1 := h) rfl rfl ⟨rfl, Nat.le_of_ble_eq_true rfl⟩ ?_ ?_
      · refine go_run 0 (F' := (0, [some (.int p1), some (.int p2)], [], h)) rfl ?_
        refine go_run 1 (F' := (1, [some (.int p1), some (.int p2)], [.int p1], h)) rfl ?_
        refine go_call (m' := 33) (v := some (.int 1)) (h1 := h) rfl rfl ⟨rfl, Nat.le_of_ble_eq_true rfl⟩ ?_ ?_
        · refine go_run 0 (F' := (0, [some (.int p1)], [], h)) rfl ?_
          refine go_run 1 (F' := (1, [some (.int p1)], [.int p1], h)) rfl ?_
          refine go_step rfl rfl ?_
          rw [if_neg q1]
          refine go_run 0 (F' := (4, [some (.int p1)], [], h)) rfl ?_
          refine go_run 2 (F' := (7, [some (.int p1)], [.int 6, .int p1], h)) rfl ?_
          refine go_step rfl rfl ?_
          rw [if_neg q2]
          refine go_run 0 (F' := (10, [some (.int p1)], [], h)) rfl ?_
          refine go_run 2 (F' := (15, [some (.int p1)], [.int 1], h)) rfl ?_
          exact go_end rfl rfl
        refine go_run 0 (F' := (4, [some (.int p1), some (.int p2)], [.int 1], h)) rfl ?_
        refine go_run 2 (F' := (8, [some (.int p1), some (.int p2)], [.int p2], h)) rfl ?_
        refine go_call (m' := 33) (v := some (.int 1)) (h1 := h) rfl rfl ⟨rfl, Nat.le_of_ble_eq_true rfl⟩ ?_ ?_
        · refine go_run 0 (F' := (0, [some (.int p2)], [], h)) rfl ?_
          refine go_run 1 (F' := (1, [some (.int p2)], [.int p2], h)) rfl ?_
          refine go_step rfl rfl ?_
          rw [if_neg q3]
          refine go_run 0 (F' := (4, [some (.int p2)], [], h)) rfl ?_
          refine go_run 2 (F' := (7, [some (.int p2)], [.int 6, .int p2], h)) rfl ?_
          refine go_step rfl rfl ?_
          rw [if_neg q4]
          refine go_run 0 (F' := (10, [some (.int p2)], [], h)) rfl ?_
          refine go_run 2 (F' := (15, [some (.int p2)], [.int 1], h)) rfl ?_
          exact go_end rfl rfl
        refine go_run 0 (F' := (11, [some (.int p1), some (.int p2)], [.int 1], h)) rfl ?_
        refine go_run 3 (F' := (16, [some (.int p1), some (.int p2)], [.int p2, .int p1], h)) rfl ?_
        refine go_step rfl rfl ?_
        rw [if_neg q5]
        refine go_run 0 (F' := (27, [some (.int p1), some (.int p2)], [], h)) rfl ?_
        exact go_end rfl rfl
      refine go_run 0 (F' := (5, [some (.ref 0), some (.int p1), some (.int p2), some (.int p3)], [], h)) rfl ?_
      refine go_run 1 (F' := (6, [some (.ref 0), some (.int p1), some (.int p2), some (.int p3)], [.int p3], h)) rfl ?_
      refine go_step rfl rfl ?_
      rw [if_neg q6]
      refine go_run 0 (F' := (9, [some (.ref 0), some (.int p1), some (.int p2), some (.int p3)], [], h)) rfl ?_
      refine go_run 2 (F' := (11, [some (.ref 0), some (.int p1), some (.int p2), some (.int p3)], [.ref 0, .int p3], h)) rfl ?_
      refine go_gf rfl c0 rfl ?_
      refine go_run 0 (F' := (14, [some (.ref 0), some (.int p1), some (.int p2), some (.int p3)], [.ref 2, .int p3], h)) rfl ?_
      refine go_run 2 (F' := (16, [some (.ref 0), some (.int p1), some (.int p2), some (.int p3)], [.int p2, .int p1, .ref 2, .int p3], h)) rfl ?_
      refine go_call (m' := 104) (v := some (.ref a1)) (h1 := h) rfl (by simp only [ie_step, ie_iv, List.drop, c2, if_true]; rfl) ⟨rfl, Nat.le_of_ble_eq_true rfl⟩ ?_ ?_
      · refine go_run 0 (F' := (0, [some (.ref 2), some (.int p1), some (.int p2)], [], h)) rfl ?_
        refine go_run 1 (F' := (1, [some (.ref 2), some (.int p1), some (.int p2)], [.ref 2], h)) rfl ?_
        refine go_gf rfl c2 rfl ?_
        refine go_run 0 (F' := (4, [some (.ref 2), some (.int p1), some (.int p2)], [.ref 4], h)) rfl ?_
        refine go_run 5 (F' := (10, [some (.ref 2), some (.int p1), some (.int p2)], [.int ((p1 * 6) + p2), .ref 4], h)) rfl ?_
        refine go_aald rfl c4 (by decide) b_6 r_7 ?_
        refine go_run 0 (F' := (11, [some (.ref 2), some (.int p1), some (.int p2)], [.ref a1], h)) rfl ?_
        exact go_end rfl rfl
      refine go_run 0 (F' := (19, [some (.ref 0), some (.int p1), some (.int p2), some (.int p3)], [.ref a1, .int p3], h)) rfl ?_
      refine go_gf rfl c_a1 rfl ?_
      refine go_run 0 (F' := (22, [some (.ref 0), some (.int p1), some (.int p2), some (.int p3)], [.int v5, .int p3], h)) rfl ?_
      refine go_step rfl rfl ?_
      rw [if_pos q7]
      refine go_run 0 (F' := (33, [some (.ref 0), some (.int p1), some (.int p2), some (.int p3)], [], h)) rfl ?_
      exact go_end rfl rfl
    refine go_run 0 (F' := (7, [some (.ref 0), some (.int p1), some (.int p2), some (.int p3)], [], h)) rfl ?_
    refine go_run 1 (F' := (8, [some (.ref 0), some (.int p1), some (.int p2), some (.int p3)], [.ref 0], h)) rfl ?_
    refine go_gf rfl c0 rfl ?_
    refine go_run 0 (F' := (11, [some (.ref 0), some (.int p1), some (.int p2), some (.int p3)], [.ref 2], h)) rfl ?_
    refine go_run 2 (F' := (13, [some (.ref 0), some (.int p1), some (.int p2), some (.int p3)], [.int p2, .int p1, .ref 2], h)) rfl ?_
    refine go_call (m' := 104) (v := some (.ref a6)) (h1 := h) rfl (by simp only [ie_step, ie_iv, List.drop, c2, if_true]; rfl) ⟨rfl, Nat.le_of_ble_eq_true rfl⟩ ?_ ?_
    · refine go_run 0 (F' := (0, [some (.ref 2), some (.int p1), some (.int p2)], [], h)) rfl ?_
      refine go_run 1 (F' := (1, [some (.ref 2), some (.int p1), some (.int p2)], [.ref 2], h)) rfl ?_
      refine go_gf rfl c2 rfl ?_
      refine go_run 0 (F' := (4, [some (.ref 2), some (.int p1), some (.int p2)], [.ref 4], h)) rfl ?_
      refine go_run 5 (F' := (10, [some (.ref 2), some (.int p1), some (.int p2)], [.int ((p1 * 6) + p2), .ref 4], h)) rfl ?_
      refine go_aald rfl c4 (by decide) b_6 r_9 ?_
      refine go_run 0 (F' := (11, [some (.ref 2), some (.int p1), some (.int p2)], [.ref a6], h)) rfl ?_
      exact go_end rfl rfl
    refine go_run 0 (F' := (16, [some (.ref 0), some (.int p1), some (.int p2), some (.int p3)], [.ref a6], h)) rfl ?_
    refine go_run 1 (F' := (17, [some (.ref 0), some (.int p1), some (.int p2), some (.int p3)], [.int p3, .ref a6], h)) rfl ?_
    refine go_call (m' := 126) (v := some (.int (f12 (Int32.toNatClampNeg ((v9 + p3) - (v9 + p3) / 8 * 8))))) (h1 := h) rfl (by simp only [ie_step, ie_iv, List.drop, c_a6, if_true]; rfl) ⟨rfl, Nat.le_of_ble_eq_true rfl⟩ ?_ ?_
    · refine go_run 0 (F' := (0, [some (.ref a6), some (.int p3)], [], h)) rfl ?_
      refine go_run 1 (F' := (1, [some (.ref a6), some (.int p3)], [.ref a6], h)) rfl ?_
      refine go_gf rfl c_a6 rfl ?_
      refine go_run 0 (F' := (4, [some (.ref a6), some (.int p3)], [.ref a11], h)) rfl ?_
      refine go_run 1 (F' := (5, [some (.ref a6), some (.int p3)], [.ref a6, .ref a11], h)) rfl ?_
      refine go_gf rfl c_a6 rfl ?_
      refine go_run 0 (F' := (8, [some (.ref a6), some (.int p3)], [.int v9, .ref a11], h)) rfl ?_
      refine go_run 4 (F' := (13, [some (.ref a6), some (.int p3)], [.int ((v9 + p3) - (v9 + p3) / 8 * 8), .ref a11], h)) rfl ?_
      refine go_bald rfl nS_a11 c_a11 b_10 rfl ?_
      refine go_run 0 (F' := (14, [some (.ref a6), some (.int p3)], [.int (f12 (Int32.toNatClampNeg ((v9 + p3) - (v9 + p3) / 8 * 8)))], h)) rfl ?_
      exact go_ret rfl rfl rfl (decide_eq_true z_12)
    refine go_run 0 (F' := (20, [some (.ref 0), some (.int p1), some (.int p2), some (.int p3)], [.int (f12 (Int32.toNatClampNeg ((v9 + p3) - (v9 + p3) / 8 * 8)))], h)) rfl ?_
    exact go_ret rfl rfl rfl (decide_eq_true z_13)
  refine go_run 0 (F' := (10, [some (.ref 0), some (.int p1), some (.int p2), some (.int p3), some (.ref 177), none], [.int (f12 (Int32.toNatClampNeg ((v9 + p3) - (v9 + p3) / 8 * 8))), .int 0, .ref 177], h)) rfl ?_
  refine go_step rfl rfl ?_
  rw [if_neg q8]
  refine go_run 0 (F' := (13, [some (.ref 0), some (.int p1), some (.int p2), some (.int p3), some (.ref 177), none], [.int 0, .ref 177], h)) rfl ?_
  refine go_run 2 (F' := (18, [some (.ref 0), some (.int p1), some (.int p2), some (.int p3), some (.ref 177), none], [.long 1, .int 0, .ref 177], h)) rfl ?_
  refine go_last rfl c177 (by decide) rfl ?_
  refine go_run 0 (F' := (19, [some (.ref 0), some (.int p1), some (.int p2), some (.int p3), some (.ref 177), none], [], (List.set h 177 (.inl (3, 1, .inr (.inl (vp_updL fo 0 1))))))) rfl ?_
  refine go_run 2 (F' := (31, [some (.ref 0), some (.int p1), some (.int p2), some (.int p3), some (.ref 177), none], [.int 0], (List.set h 177 (.inl (3, 1, .inr (.inl (vp_updL fo 0 1))))))) rfl ?_
  exact go_end rfl rfl
set_option maxRecDepth 100000 in
theorem vm_label_1 {X : ie_X} {d : Nat} {h : ie_H} {p1 p2 p3 t_ ty fa wh ch it at_ bad co de st sz tp am bm mn rm sp be wo : Int32} (c134 : h[134]? = some (mo t_ ty fa wh ch it at_ bad co de 1 st sz tp am bm mn rm sp be wo)) (q1 : p1 < 0) : Go X (d + 3) 216 (0, ie_en 216 [.ref 134, .int p1, .int p2, .int p3], [], h) (.inl (some (.int 0))) (List.set h 134 (mo 1 ty fa wh ch it at_ bad co de 1 st sz tp am bm mn rm sp be wo)) := by
  refine go_run 0 (F' := (0, [some (.ref 134), some (.int p1), some (.int p2), some (.int p3)], [], h)) rfl ?_
  refine go_run 5 (F' := (5, [some (.ref 134), some (.int p1), some (.int p2), some (.int p3)], [.int p3, .int p2, .int p1, .ref 134, .ref 134], h)) rfl ?_
  refine go_call (m' := 215) (v := some (.int 1)) (h1 := h) rfl (by simp only [ie_step, ie_iv, List.drop, c134, mo, if_true]; rfl) ⟨rfl, Nat.le_of_ble_eq_true rfl⟩ ?_ ?_
  · refine go_run 0 (F' := (0, [some (.ref 134), some (.int p1), some (.int p2), some (.int p3)], [], h)) rfl ?_
    refine go_run 2 (F' := (2, [some (.ref 134), some (.int p1), some (.int p2), some (.int p3)], [.int p2, .int p1], h)) rfl ?_
    refine go_call (m' := 213) (v := some (.int 1)) (h1 := h) rfl rfl ⟨rfl, Nat.le_of_ble_eq_true rfl⟩ ?_ ?_
    · refine go_run 0 (F' := (0, [some (.int p1), some (.int p2)], [], h)) rfl ?_
      refine go_run 1 (F' := (1, [some (.int p1), some (.int p2)], [.int p1], h)) rfl ?_
      refine go_call (m' := 183) (v := some (.int 1)) (h1 := h) rfl rfl ⟨rfl, Nat.le_of_ble_eq_true rfl⟩ ?_ ?_
      · refine go_run 0 (F' := (0, [some (.int p1)], [], h)) rfl ?_
        refine go_run 1 (F' := (1, [some (.int p1)], [.int p1], h)) rfl ?_
        refine go_step rfl rfl ?_
        rw [if_pos q1]
        refine go_run 0 (F' := (9, [some (.int p1)], [], h)) rfl ?_
        refine go_run 2 (F' := (14, [some (.int p1)], [.int 1], h)) rfl ?_
        exact go_end rfl rfl
      refine go_run 0 (F' := (4, [some (.int p1), some (.int p2)], [.int 1], h)) rfl ?_
      refine go_run 3 (F' := (24, [some (.int p1), some (.int p2)], [.int 1], h)) rfl ?_
      exact go_end rfl rfl
    refine go_run 0 (F' := (5, [some (.ref 134), some (.int p1), some (.int p2), some (.int p3)], [.int 1], h)) rfl ?_
    refine go_run 3 (F' := (36, [some (.ref 134), some (.int p1), some (.int p2), some (.int p3)], [.int 1], h)) rfl ?_
    exact go_end rfl rfl
  refine go_run 0 (F' := (8, [some (.ref 134), some (.int p1), some (.int p2), some (.int p3)], [.int 1, .ref 134], h)) rfl ?_
  refine go_pf rfl c134 (Nat.le_of_ble_eq_true rfl) rfl rfl ?_
  refine go_run 0 (F' := (11, [some (.ref 134), some (.int p1), some (.int p2), some (.int p3)], [], (List.set h 134 (mo 1 ty fa wh ch it at_ bad co de 1 st sz tp am bm mn rm sp be wo)))) rfl ?_
  refine go_run 1 (F' := (12, [some (.ref 134), some (.int p1), some (.int p2), some (.int p3)], [.ref 134], (List.set h 134 (mo 1 ty fa wh ch it at_ bad co de 1 st sz tp am bm mn rm sp be wo)))) rfl ?_
  refine go_gf rfl (gs_self c134) rfl ?_
  refine go_run 0 (F' := (15, [some (.ref 134), some (.int p1), some (.int p2), some (.int p3)], [.int 1], (List.set h 134 (mo 1 ty fa wh ch it at_ bad co de 1 st sz tp am bm mn rm sp be wo)))) rfl ?_
  refine go_run 2 (F' := (42, [some (.ref 134), some (.int p1), some (.int p2), some (.int p3)], [.int 0], (List.set h 134 (mo 1 ty fa wh ch it at_ bad co de 1 st sz tp am bm mn rm sp be wo)))) rfl ?_
  exact go_end rfl rfl
set_option maxRecDepth 100000 in
theorem vm_label_2 {X : ie_X} {d : Nat} {h : ie_H} {p1 p2 p3 t_ ty fa wh ch it at_ bad co de st sz tp am bm mn rm sp be wo : Int32} (c134 : h[134]? = some (mo t_ ty fa wh ch it at_ bad co de 1 st sz tp am bm mn rm sp be wo)) (q1 : ¬ (p1 < 0)) (q2 : ¬ (p1 ≤ 5)) : Go X (d + 3) 216 (0, ie_en 216 [.ref 134, .int p1, .int p2, .int p3], [], h) (.inl (some (.int 0))) (List.set h 134 (mo 1 ty fa wh ch it at_ bad co de 1 st sz tp am bm mn rm sp be wo)) := by
  refine go_run 0 (F' := (0, [some (.ref 134), some (.int p1), some (.int p2), some (.int p3)], [], h)) rfl ?_
  refine go_run 5 (F' := (5, [some (.ref 134), some (.int p1), some (.int p2), some (.int p3)], [.int p3, .int p2, .int p1, .ref 134, .ref 134], h)) rfl ?_
  refine go_call (m' := 215) (v := some (.int 1)) (h1 := h) rfl (by simp only [ie_step, ie_iv, List.drop, c134, mo, if_true]; rfl) ⟨rfl, Nat.le_of_ble_eq_true rfl⟩ ?_ ?_
  · refine go_run 0 (F' := (0, [some (.ref 134), some (.int p1), some (.int p2), some (.int p3)], [], h)) rfl ?_
    refine go_run 2 (F' := (2, [some (.ref 134), some (.int p1), some (.int p2), some (.int p3)], [.int p2, .int p1], h)) rfl ?_
    refine go_call (m' := 213) (v := some (.int 1)) (h1 := h) rfl rfl ⟨rfl, Nat.le_of_ble_eq_true rfl⟩ ?_ ?_
    · refine go_run 0 (F' := (0, [some (.int p1), some (.int p2)], [], h)) rfl ?_
      refine go_run 1 (F' := (1, [some (.int p1), some (.int p2)], [.int p1], h)) rfl ?_
      refine go_call (m' := 183) (v := some (.int 1)) (h1 := h) rfl rfl ⟨rfl, Nat.le_of_ble_eq_true rfl⟩ ?_ ?_
      · refine go_run 0 (F' := (0, [some (.int p1)], [], h)) rfl ?_
        refine go_run 1 (F' := (1, [some (.int p1)], [.int p1], h)) rfl ?_
        refine go_step rfl rfl ?_
        rw [if_neg q1]
        refine go_run 0 (F' := (4, [some (.int p1)], [], h)) rfl ?_
        refine go_run 2 (F' := (6, [some (.int p1)], [.int 5, .int p1], h)) rfl ?_
        refine go_step rfl rfl ?_
        rw [if_neg q2]
        refine go_run 0 (F' := (9, [some (.int p1)], [], h)) rfl ?_
        refine go_run 2 (F' := (14, [some (.int p1)], [.int 1], h)) rfl ?_
        exact go_end rfl rfl
      refine go_run 0 (F' := (4, [some (.int p1), some (.int p2)], [.int 1], h)) rfl ?_
      refine go_run 3 (F' := (24, [some (.int p1), some (.int p2)], [.int 1], h)) rfl ?_
      exact go_end rfl rfl
    refine go_run 0 (F' := (5, [some (.ref 134), some (.int p1), some (.int p2), some (.int p3)], [.int 1], h)) rfl ?_
    refine go_run 3 (F' := (36, [some (.ref 134), some (.int p1), some (.int p2), some (.int p3)], [.int 1], h)) rfl ?_
    exact go_end rfl rfl
  refine go_run 0 (F' := (8, [some (.ref 134), some (.int p1), some (.int p2), some (.int p3)], [.int 1, .ref 134], h)) rfl ?_
  refine go_pf rfl c134 (Nat.le_of_ble_eq_true rfl) rfl rfl ?_
  refine go_run 0 (F' := (11, [some (.ref 134), some (.int p1), some (.int p2), some (.int p3)], [], (List.set h 134 (mo 1 ty fa wh ch it at_ bad co de 1 st sz tp am bm mn rm sp be wo)))) rfl ?_
  refine go_run 1 (F' := (12, [some (.ref 134), some (.int p1), some (.int p2), some (.int p3)], [.ref 134], (List.set h 134 (mo 1 ty fa wh ch it at_ bad co de 1 st sz tp am bm mn rm sp be wo)))) rfl ?_
  refine go_gf rfl (gs_self c134) rfl ?_
  refine go_run 0 (F' := (15, [some (.ref 134), some (.int p1), some (.int p2), some (.int p3)], [.int 1], (List.set h 134 (mo 1 ty fa wh ch it at_ bad co de 1 st sz tp am bm mn rm sp be wo)))) rfl ?_
  refine go_run 2 (F' := (42, [some (.ref 134), some (.int p1), some (.int p2), some (.int p3)], [.int 0], (List.set h 134 (mo 1 ty fa wh ch it at_ bad co de 1 st sz tp am bm mn rm sp be wo)))) rfl ?_
  exact go_end rfl rfl
set_option maxRecDepth 100000 in
theorem vm_label_3 {X : ie_X} {d : Nat} {h : ie_H} {p1 p2 p3 t_ ty fa wh ch it at_ bad co de st sz tp am bm mn rm sp be wo : Int32} (c134 : h[134]? = some (mo t_ ty fa wh ch it at_ bad co de 1 st sz tp am bm mn rm sp be wo)) (q1 : ¬ (p1 < 0)) (q2 : p1 ≤ 5) (q3 : p2 < 0) : Go X (d + 3) 216 (0, ie_en 216 [.ref 134, .int p1, .int p2, .int p3], [], h) (.inl (some (.int 0))) (List.set h 134 (mo 1 ty fa wh ch it at_ bad co de 1 st sz tp am bm mn rm sp be wo)) := by
  refine go_run 0 (F' := (0, [some (.ref 134), some (.int p1), some (.int p2), some (.int p3)], [], h)) rfl ?_
  refine go_run 5 (F' := (5, [some (.ref 134), some (.int p1), some (.int p2), some (.int p3)], [.int p3, .int p2, .int p1, .ref 134, .ref 134], h)) rfl ?_
  refine go_call (m' := 215) (v := some (.int 1)) (h1 := h) rfl (by simp only [ie_step, ie_iv, List.drop, c134, mo, if_true]; rfl) ⟨rfl, Nat.le_of_ble_eq_true rfl⟩ ?_ ?_
  · refine go_run 0 (F' := (0, [some (.ref 134), some (.int p1), some (.int p2), some (.int p3)], [], h)) rfl ?_
    refine go_run 2 (F' := (2, [some (.ref 134), some (.int p1), some (.int p2), some (.int p3)], [.int p2, .int p1], h)) rfl ?_
    refine go_call (m' := 213) (v := some (.int 1)) (h1 := h) rfl rfl ⟨rfl, Nat.le_of_ble_eq_true rfl⟩ ?_ ?_
    · refine go_run 0 (F' := (0, [some (.int p1), some (.int p2)], [], h)) rfl ?_
      refine go_run 1 (F' := (1, [some (.int p1), some (.int p2)], [.int p1], h)) rfl ?_
      refine go_call (m' := 183) (v := some (.int 0)) (h1 := h) rfl rfl ⟨rfl, Nat.le_of_ble_eq_true rfl⟩ ?_ ?_
      · refine go_run 0 (F' := (0, [some (.int p1)], [], h)) rfl ?_
        refine go_run 1 (F' := (1, [some (.int p1)], [.int p1], h)) rfl ?_
        refine go_step rfl rfl ?_
        rw [if_neg q1]
        refine go_run 0 (F' := (4, [some (.int p1)], [], h)) rfl ?_
        refine go_run 2 (F' := (6, [some (.int p1)], [.int 5, .int p1], h)) rfl ?_
        refine go_step rfl rfl ?_
        rw [if_pos q2]
        refine go_run 0 (F' := (13, [some (.int p1)], [], h)) rfl ?_
        refine go_run 1 (F' := (14, [some (.int p1)], [.int 0], h)) rfl ?_
        exact go_end rfl rfl
      refine go_run 0 (F' := (4, [some (.int p1), some (.int p2)], [.int 0], h)) rfl ?_
      refine go_run 2 (F' := (8, [some (.int p1), some (.int p2)], [.int p2], h)) rfl ?_
      refine go_call (m' := 183) (v := some (.int 1)) (h1 := h) rfl rfl ⟨rfl, Nat.le_of_ble_eq_true rfl⟩ ?_ ?_
      · refine go_run 0 (F' := (0, [some (.int p2)], [], h)) rfl ?_
        refine go_run 1 (F' := (1, [some (.int p2)], [.int p2], h)) rfl ?_
        refine go_step rfl rfl ?_
        rw [if_pos q3]
        refine go_run 0 (F' := (9, [some (.int p2)], [], h)) rfl ?_
        refine go_run 2 (F' := (14, [some (.int p2)], [.int 1], h)) rfl ?_
        exact go_end rfl rfl
      refine go_run 0 (F' := (11, [some (.int p1), some (.int p2)], [.int 1], h)) rfl ?_
      refine go_run 3 (F' := (24, [some (.int p1), some (.int p2)], [.int 1], h)) rfl ?_
      exact go_end rfl rfl
    refine go_run 0 (F' := (5, [some (.ref 134), some (.int p1), some (.int p2), some (.int p3)], [.int 1], h)) rfl ?_
    refine go_run 3 (F' := (36, [some (.ref 134), some (.int p1), some (.int p2), some (.int p3)], [.int 1], h)) rfl ?_
    exact go_end rfl rfl
  refine go_run 0 (F' := (8, [some (.ref 134), some (.int p1), some (.int p2), some (.int p3)], [.int 1, .ref 134], h)) rfl ?_
  refine go_pf rfl c134 (Nat.le_of_ble_eq_true rfl) rfl rfl ?_
  refine go_run 0 (F' := (11, [some (.ref 134), some (.int p1), some (.int p2), some (.int p3)], [], (List.set h 134 (mo 1 ty fa wh ch it at_ bad co de 1 st sz tp am bm mn rm sp be wo)))) rfl ?_
  refine go_run 1 (F' := (12, [some (.ref 134), some (.int p1), some (.int p2), some (.int p3)], [.ref 134], (List.set h 134 (mo 1 ty fa wh ch it at_ bad co de 1 st sz tp am bm mn rm sp be wo)))) rfl ?_
  refine go_gf rfl (gs_self c134) rfl ?_
  refine go_run 0 (F' := (15, [some (.ref 134), some (.int p1), some (.int p2), some (.int p3)], [.int 1], (List.set h 134 (mo 1 ty fa wh ch it at_ bad co de 1 st sz tp am bm mn rm sp be wo)))) rfl ?_
  refine go_run 2 (F' := (42, [some (.ref 134), some (.int p1), some (.int p2), some (.int p3)], [.int 0], (List.set h 134 (mo 1 ty fa wh ch it at_ bad co de 1 st sz tp am bm mn rm sp be wo)))) rfl ?_
  exact go_end rfl rfl
set_option maxRecDepth 100000 in
theorem vm_label_4 {X : ie_X} {d : Nat} {h : ie_H} {p1 p2 p3 t_ ty fa wh ch it at_ bad co de st sz tp am bm mn rm sp be wo : Int32} (c134 : h[134]? = some (mo t_ ty fa wh ch it at_ bad co de 1 st sz tp am bm mn rm sp be wo)) (q1 : ¬ (p1 < 0)) (q2 : p1 ≤ 5) (q3 : ¬ (p2 < 0)) (q4 : ¬ (p2 ≤ 5)) : Go X (d + 3) 216 (0, ie_en 216 [.ref 134, .int p1, .int p2, .int p3], [], h) (.inl (some (.int 0))) (List.set h 134 (mo 1 ty fa wh ch it at_ bad co de 1 st sz tp am bm mn rm sp be wo)) := by
  refine go_run 0 (F' := (0, [some (.ref 134), some (.int p1), some (.int p2), some (.int p3)], [], h)) rfl ?_
  refine go_run 5 (F' := (5, [some (.ref 134), some (.int p1), some (.int p2), some (.int p3)], [.int p3, .int p2, .int p1, .ref 134, .ref 134], h)) rfl ?_
  refine go_call (m' := 215) (v := some (.int 1)) (h1 := h) rfl (by simp only [ie_step, ie_iv, List.drop, c134, mo, if_true]; rfl) ⟨rfl, Nat.le_of_ble_eq_true rfl⟩ ?_ ?_
  · refine go_run 0 (F' := (0, [some (.ref 134), some (.int p1), some (.int p2), some (.int p3)], [], h)) rfl ?_
    refine go_run 2 (F' := (2, [some (.ref 134), some (.int p1), some (.int p2), some (.int p3)], [.int p2, .int p1], h)) rfl ?_
    refine go_call (m' := 213) (v := some (.int 1)) (h1 := h) rfl rfl ⟨rfl, Nat.le_of_ble_eq_true rfl⟩ ?_ ?_
    · refine go_run 0 (F' := (0, [some (.int p1), some (.int p2)], [], h)) rfl ?_
      refine go_run 1 (F' := (1, [some (.int p1), some (.int p2)], [.int p1], h)) rfl ?_
      refine go_call (m' := 183) (v := some (.int 0)) (h1 := h) rfl rfl ⟨rfl, Nat.le_of_ble_eq_true rfl⟩ ?_ ?_
      · refine go_run 0 (F' := (0, [some (.int p1)], [], h)) rfl ?_
        refine go_run 1 (F' := (1, [some (.int p1)], [.int p1], h)) rfl ?_
        refine go_step rfl rfl ?_
        rw [if_neg q1]
        refine go_run 0 (F' := (4, [some (.int p1)], [], h)) rfl ?_
        refine go_run 2 (F' := (6, [some (.int p1)], [.int 5, .int p1], h)) rfl ?_
        refine go_step rfl rfl ?_
        rw [if_pos q2]
        refine go_run 0 (F' := (13, [some (.int p1)], [], h)) rfl ?_
        refine go_run 1 (F' := (14, [some (.int p1)], [.int 0], h)) rfl ?_
        exact go_end rfl rfl
      refine go_run 0 (F' := (4, [some (.int p1), some (.int p2)], [.int 0], h)) rfl ?_
      refine go_run 2 (F' := (8, [some (.int p1), some (.int p2)], [.int p2], h)) rfl ?_
      refine go_call (m' := 183) (v := some (.int 1)) (h1 := h) rfl rfl ⟨rfl, Nat.le_of_ble_eq_true rfl⟩ ?_ ?_
      · refine go_run 0 (F' := (0, [some (.int p2)], [], h)) rfl ?_
        refine go_run 1 (F' := (1, [some (.int p2)], [.int p2], h)) rfl ?_
        refine go_step rfl rfl ?_
        rw [if_neg q3]
        refine go_run 0 (F' := (4, [some (.int p2)], [], h)) rfl ?_
        refine go_run 2 (F' := (6, [some (.int p2)], [.int 5, .int p2], h)) rfl ?_
        refine go_step rfl rfl ?_
        rw [if_neg q4]
        refine go_run 0 (F' := (9, [some (.int p2)], [], h)) rfl ?_
        refine go_run 2 (F' := (14, [some (.int p2)], [.int 1], h)) rfl ?_
        exact go_end rfl rfl
      refine go_run 0 (F' := (11, [some (.int p1), some (.int p2)], [.int 1], h)) rfl ?_
      refine go_run 3 (F' := (24, [some (.int p1), some (.int p2)], [.int 1], h)) rfl ?_
      exact go_end rfl rfl
    refine go_run 0 (F' := (5, [some (.ref 134), some (.int p1), some (.int p2), some (.int p3)], [.int 1], h)) rfl ?_
    refine go_run 3 (F' := (36, [some (.ref 134), some (.int p1), some (.int p2), some (.int p3)], [.int 1], h)) rfl ?_
    exact go_end rfl rfl
  refine go_run 0 (F' := (8, [some (.ref 134), some (.int p1), some (.int p2), some (.int p3)], [.int 1, .ref 134], h)) rfl ?_
  refine go_pf rfl c134 (Nat.le_of_ble_eq_true rfl) rfl rfl ?_
  refine go_run 0 (F' := (11, [some (.ref 134), some (.int p1), some (.int p2), some (.int p3)], [], (List.set h 134 (mo 1 ty fa wh ch it at_ bad co de 1 st sz tp am bm mn rm sp be wo)))) rfl ?_
  refine go_run 1 (F' := (12, [some (.ref 134), some (.int p1), some (.int p2), some (.int p3)], [.ref 134], (List.set h 134 (mo 1 ty fa wh ch it at_ bad co de 1 st sz tp am bm mn rm sp be wo)))) rfl ?_
  refine go_gf rfl (gs_self c134) rfl ?_
  refine go_run 0 (F' := (15, [some (.ref 134), some (.int p1), some (.int p2), some (.int p3)], [.int 1], (List.set h 134 (mo 1 ty fa wh ch it at_ bad co de 1 st sz tp am bm mn rm sp be wo)))) rfl ?_
  refine go_run 2 (F' := (42, [some (.ref 134), some (.int p1), some (.int p2), some (.int p3)], [.int 0], (List.set h 134 (mo 1 ty fa wh ch it at_ bad co de 1 st sz tp am bm mn rm sp be wo)))) rfl ?_
  exact go_end rfl rfl
set_option maxRecDepth 100000 in
theorem vm_label_5 {X : ie_X} {d : Nat} {h : ie_H} {p1 p2 p3 t_ ty fa wh ch it at_ bad co de st sz tp am bm mn rm sp be wo : Int32} (c134 : h[134]? = some (mo t_ ty fa wh ch it at_ bad co de 1 st sz tp am bm mn rm sp be wo)) (q1 : ¬ (p1 < 0)) (q2 : p1 ≤ 5) (q3 : ¬ (p2 < 0)) (q4 : p2 ≤ 5) (q5 : p1 = p2) : Go X (d + 3) 216 (0, ie_en 216 [.ref 134, .int p1, .int p2, .int p3], [], h) (.inl (some (.int 0))) (List.set h 134 (mo 1 ty fa wh ch it at_ bad co de 1 st sz tp am bm mn rm sp be wo)) := by
  refine go_run 0 (F' := (0, [some (.ref 134), some (.int p1), some (.int p2), some (.int p3)], [], h)) rfl ?_
  refine go_run 5 (F' := (5, [some (.ref 134), some (.int p1), some (.int p2), some (.int p3)], [.int p3, .int p2, .int p1, .ref 134, .ref 134], h)) rfl ?_
  refine go_call (m' := 215) (v := some (.int 1)) (h1 := h) rfl (by simp only [ie_step, ie_iv, List.drop, c134, mo, if_true]; rfl) ⟨rfl, Nat.le_of_ble_eq_true rfl⟩ ?_ ?_
  · refine go_run 0 (F' := (0, [some (.ref 134), some (.int p1), some (.int p2), some (.int p3)], [], h)) rfl ?_
    refine go_run 2 (F' := (2, [some (.ref 134), some (.int p1), some (.int p2), some (.int p3)], [.int p2, .int p1], h)) rfl ?_
    refine go_call (m' := 213) (v := some (.int 1)) (h1 := h) rfl rfl ⟨rfl, Nat.le_of_ble_eq_true rfl⟩ ?_ ?_
    · refine go_run 0 (F' := (0, [some (.int p1), some (.int p2)], [], h)) rfl ?_
      refine go_run 1 (F' := (1, [some (.int p1), some (.int p2)], [.int p1], h)) rfl ?_
      refine go_call (m' := 183) (v := some (.int 0)) (h1 := h) rfl rfl ⟨rfl, Nat.le_of_ble_eq_true rfl⟩ ?_ ?_
      · refine go_run 0 (F' := (0, [some (.int p1)], [], h)) rfl ?_
        refine go_run 1 (F' := (1, [some (.int p1)], [.int p1], h)) rfl ?_
        refine go_step rfl rfl ?_
        rw [if_neg q1]
        refine go_run 0 (F' := (4, [some (.int p1)], [], h)) rfl ?_
        refine go_run 2 (F' := (6, [some (.int p1)], [.int 5, .int p1], h)) rfl ?_
        refine go_step rfl rfl ?_
        rw [if_pos q2]
        refine go_run 0 (F' := (13, [some (.int p1)], [], h)) rfl ?_
        refine go_run 1 (F' := (14, [some (.int p1)], [.int 0], h)) rfl ?_
        exact go_end rfl rfl
      refine go_run 0 (F' := (4, [some (.int p1), some (.int p2)], [.int 0], h)) rfl ?_
      refine go_run 2 (F' := (8, [some (.int p1), some (.int p2)], [.int p2], h)) rfl ?_
      refine go_call (m' := 183) (v := some (.int 0)) (h1 := h) rfl rfl ⟨rfl, Nat.le_of_ble_eq_true rfl⟩ ?_ ?_
      · refine go_run 0 (F' := (0, [some (.int p2)], [], h)) rfl ?_
        refine go_run 1 (F' := (1, [some (.int p2)], [.int p2], h)) rfl ?_
        refine go_step rfl rfl ?_
        rw [if_neg q3]
        refine go_run 0 (F' := (4, [some (.int p2)], [], h)) rfl ?_
        refine go_run 2 (F' := (6, [some (.int p2)], [.int 5, .int p2], h)) rfl ?_
        refine go_step rfl rfl ?_
        rw [if_pos q4]
        refine go_run 0 (F' := (13, [some (.int p2)], [], h)) rfl ?_
        refine go_run 1 (F' := (14, [some (.int p2)], [.int 0], h)) rfl ?_
        exact go_end rfl rfl
      refine go_run 0 (F' := (11, [some (.int p1), some (.int p2)], [.int 0], h)) rfl ?_
      refine go_run 3 (F' := (16, [some (.int p1), some (.int p2)], [.int p2, .int p1], h)) rfl ?_
      refine go_step rfl rfl ?_
      rw [if_pos q5]
      refine go_run 0 (F' := (19, [some (.int p1), some (.int p2)], [], h)) rfl ?_
      refine go_run 2 (F' := (24, [some (.int p1), some (.int p2)], [.int 1], h)) rfl ?_
      exact go_end rfl rfl
    refine go_run 0 (F' := (5, [some (.ref 134), some (.int p1), some (.int p2), some (.int p3)], [.int 1], h)) rfl ?_
    refine go_run 3 (F' := (36, [some (.ref 134), some (.int p1), some (.int p2), some (.int p3)], [.int 1], h)) rfl ?_
    exact go_end rfl rfl
  refine go_run 0 (F' := (8, [some (.ref 134), some (.int p1), some (.int p2), some (.int p3)], [.int 1, .ref 134], h)) rfl ?_
  refine go_pf rfl c134 (Nat.le_of_ble_eq_true rfl) rfl rfl ?_
  refine go_run 0 (F' := (11, [some (.ref 134), some (.int p1), some (.int p2), some (.int p3)], [], (List.set h 134 (mo 1 ty fa wh ch it at_ bad co de 1 st sz tp am bm mn rm sp be wo)))) rfl ?_
  refine go_run 1 (F' := (12, [some (.ref 134), some (.int p1), some (.int p2), some (.int p3)], [.ref 134], (List.set h 134 (mo 1 ty fa wh ch it at_ bad co de 1 st sz tp am bm mn rm sp be wo)))) rfl ?_
  refine go_gf rfl (gs_self c134) rfl ?_
  refine go_run 0 (F' := (15, [some (.ref 134), some (.int p1), some (.int p2), some (.int p3)], [.int 1], (List.set h 134 (mo 1 ty fa wh ch it at_ bad co de 1 st sz tp am bm mn rm sp be wo)))) rfl ?_
  refine go_run 2 (F' := (42, [some (.ref 134), some (.int p1), some (.int p2), some (.int p3)], [.int 0], (List.set h 134 (mo 1 ty fa wh ch it at_ bad co de 1 st sz tp am bm mn rm sp be wo)))) rfl ?_
  exact go_end rfl rfl
set_option maxRecDepth 100000 in
theorem vm_label_6 {X : ie_X} {d : Nat} {h : ie_H} {p1 p2 p3 t_ ty fa wh ch it at_ bad co de st sz tp am bm mn rm sp be wo : Int32} (c134 : h[134]? = some (mo t_ ty fa wh ch it at_ bad co de 1 st sz tp am bm mn rm sp be wo)) (q1 : ¬ (p1 < 0)) (q2 : p1 ≤ 5) (q3 : ¬ (p2 < 0)) (q4 : p2 ≤ 5) (q5 : ¬ (p1 = p2)) (q6 : p3 < 0) : Go X (d + 3) 216 (0, ie_en 216 [.ref 134, .int p1, .int p2, .int p3], [], h) (.inl (some (.int 0))) (List.set h 134 (mo 2 ty fa wh ch it at_ bad co de 1 st sz tp am bm mn rm sp be wo)) := by
  refine go_run 0 (F' := (0, [some (.ref 134), some (.int p1), some (.int p2), some (.int p3)], [], h)) rfl ?_
  refine go_run 5 (F' := (5, [some (.ref 134), some (.int p1), some (.int p2), some (.int p3)], [.int p3, .int p2, .int p1, .ref 134, .ref 134], h)) rfl ?_
  refine go_call (m' := 215) (v := some (.int 2)) (h1 := h) rfl (by simp only [ie_step, ie_iv, List.drop, c134, mo, if_true]; rfl) ⟨rfl, Nat.le_of_ble_eq_true rfl⟩ ?_ ?_
  · refine go_run 0 (F' := (0, [some (.ref 134), some (.int p1), some (.int p2), some (.int p3)], [], h)) rfl ?_
    refine go_run 2 (F' := (2, [some (.ref 134), some (.int p1), some (.int p2), some (.int p3)], [.int p2, .int p1], h)) rfl ?_
    refine go_call (m' := 213) (v := some (.int 0)) (h1 := h) rfl rfl ⟨rfl, Nat.le_of_ble_eq_true rfl⟩ ?_ ?_
    · refine go_run 0 (F' := (0, [some (.int p1), some (.int p2)], [], h)) rfl ?_
      refine go_run 1 (F' := (1, [some (.int p1), some (.int p2)], [.int p1], h)) rfl ?_
      refine go_call (m' := 183) (v := some (.int 0)) (h1 := h) rfl rfl ⟨rfl, Nat.le_of_ble_eq_true rfl⟩ ?_ ?_
      · refine go_run 0 (F' := (0, [some (.int p1)], [], h)) rfl ?_
        refine go_run 1 (F' := (1, [some (.int p1)], [.int p1], h)) rfl ?_
        refine go_step rfl rfl ?_
        rw [if_neg q1]
        refine go_run 0 (F' := (4, [some (.int p1)], [], h)) rfl ?_
        refine go_run 2 (F' := (6, [some (.int p1)], [.int 5, .int p1], h)) rfl ?_
        refine go_step rfl rfl ?_
        rw [if_pos q2]
        refine go_run 0 (F' := (13, [some (.int p1)], [], h)) rfl ?_
        refine go_run 1 (F' := (14, [some (.int p1)], [.int 0], h)) rfl ?_
        exact go_end rfl rfl
      refine go_run 0 (F' := (4, [some (.int p1), some (.int p2)], [.int 0], h)) rfl ?_
      refine go_run 2 (F' := (8, [some (.int p1), some (.int p2)], [.int p2], h)) rfl ?_
      refine go_call (m' := 183) (v := some (.int 0)) (h1 := h) rfl rfl ⟨rfl, Nat.le_of_ble_eq_true rfl⟩ ?_ ?_
      · refine go_run 0 (F' := (0, [some (.int p2)], [], h)) rfl ?_
        refine go_run 1 (F' := (1, [some (.int p2)], [.int p2], h)) rfl ?_
        refine go_step rfl rfl ?_
        rw [if_neg q3]
        refine go_run 0 (F' := (4, [some (.int p2)], [], h)) rfl ?_
        refine go_run 2 (F' := (6, [some (.int p2)], [.int 5, .int p2], h)) rfl ?_
        refine go_step rfl rfl ?_
        rw [if_pos q4]
        refine go_run 0 (F' := (13, [some (.int p2)], [], h)) rfl ?_
        refine go_run 1 (F' := (14, [some (.int p2)], [.int 0], h)) rfl ?_
        exact go_end rfl rfl
      refine go_run 0 (F' := (11, [some (.int p1), some (.int p2)], [.int 0], h)) rfl ?_
      refine go_run 3 (F' := (16, [some (.int p1), some (.int p2)], [.int p2, .int p1], h)) rfl ?_
      refine go_step rfl rfl ?_
      rw [if_neg q5]
      refine go_run 0 (F' := (23, [some (.int p1), some (.int p2)], [], h)) rfl ?_
      refine go_run 1 (F' := (24, [some (.int p1), some (.int p2)], [.int 0], h)) rfl ?_
      exact go_end rfl rfl
    refine go_run 0 (F' := (5, [some (.ref 134), some (.int p1), some (.int p2), some (.int p3)], [.int 0], h)) rfl ?_
    refine go_run 2 (F' := (13, [some (.ref 134), some (.int p1), some (.int p2), some (.int p3)], [.int p3], h)) rfl ?_
    refine go_step rfl rfl ?_
    rw [if_pos q6]
    refine go_run 0 (F' := (31, [some (.ref 134), some (.int p1), some (.int p2), some (.int p3)], [], h)) rfl ?_
    refine go_run 2 (F' := (36, [some (.ref 134), some (.int p1), some (.int p2), some (.int p3)], [.int 2], h)) rfl ?_
    exact go_end rfl rfl
  refine go_run 0 (F' := (8, [some (.ref 134), some (.int p1), some (.int p2), some (.int p3)], [.int 2, .ref 134], h)) rfl ?_
  refine go_pf rfl c134 (Nat.le_of_ble_eq_true rfl) rfl rfl ?_
  refine go_run 0 (F' := (11, [some (.ref 134), some (.int p1), some (.int p2), some (.int p3)], [], (List.set h 134 (mo 2 ty fa wh ch it at_ bad co de 1 st sz tp am bm mn rm sp be wo)))) rfl ?_
  refine go_run 1 (F' := (12, [some (.ref 134), some (.int p1), some (.int p2), some (.int p3)], [.ref 134], (List.set h 134 (mo 2 ty fa wh ch it at_ bad co de 1 st sz tp am bm mn rm sp be wo)))) rfl ?_
  refine go_gf rfl (gs_self c134) rfl ?_
  refine go_run 0 (F' := (15, [some (.ref 134), some (.int p1), some (.int p2), some (.int p3)], [.int 2], (List.set h 134 (mo 2 ty fa wh ch it at_ bad co de 1 st sz tp am bm mn rm sp be wo)))) rfl ?_
  refine go_run 2 (F' := (42, [some (.ref 134), some (.int p1), some (.int p2), some (.int p3)], [.int 0], (List.set h 134 (mo 2 ty fa wh ch it at_ bad co de 1 st sz tp am bm mn rm sp be wo)))) rfl ?_
  exact go_end rfl rfl
set_option maxRecDepth 100000 in
theorem vm_label_7 {X : ie_X} {d : Nat} {h : ie_H} {p1 p2 p3 t_ ty fa wh ch it at_ bad co de st sz tp am bm mn rm sp be wo : Int32} {f173 : Nat → Int32} (c134 : h[134]? = some (mo t_ ty fa wh ch it at_ bad co de 1 st sz tp am bm mn rm sp be wo)) (c173 : h[173]? = some (.inl (0, 36, .inl f173))) (q1 : ¬ (p1 < 0)) (q2 : p1 ≤ 5) (q3 : ¬ (p2 < 0)) (q4 : p2 ≤ 5) (q5 : ¬ (p1 = p2)) (q6 : ¬ (p3 < 0)) (b_6 : 0 ≤ Int32.toInt ((6 * p1) + p2) ∧ Int32.toInt ((6 * p1) + p2) < (36 : Int)) (q7 : ¬ (p3 < f173 (Int32.toNatClampNeg ((6 * p1) + p2)))) : Go X (d + 3) 216 (0, ie_en 216 [.ref 134, .int p1, .int p2, .int p3], [], h) (.inl (some (.int 0))) (List.set h 134 (mo 2 ty fa wh ch it at_ bad co de 1 st sz tp am bm mn rm sp be wo)) := by
  refine go_run 0 (F' := (0, [some (.ref 134), some (.int p1), some (.int p2), some (.int p3)], [], h)) rfl ?_
  refine go_run 5 (F' := (5, [some (.ref 134), some (.int p1), some (.int p2), some (.int p3)], [.int p3, .int p2, .int p1, .ref 134, .ref 134], h)) rfl ?_
  refine go_call (m' := 215) (v := some (.int 2)) (h1 := h) rfl (by simp only [ie_step, ie_iv, List.drop, c134, mo, if_true]; rfl) ⟨rfl, Nat.le_of_ble_eq_true rfl⟩ ?_ ?_
  · refine go_run 0 (F' := (0, [some (.ref 134), some (.int p1), some (.int p2), some (.int p3)], [], h)) rfl ?_
    refine go_run 2 (F' := (2, [some (.ref 134), some (.int p1), some (.int p2), some (.int p3)], [.int p2, .int p1], h)) rfl ?_
    refine go_call (m' := 213) (v := some (.int 0)) (h1 := h) rfl rfl ⟨rfl, Nat.le_of_ble_eq_true rfl⟩ ?_ ?_
    · refine go_run 0 (F' := (0, [some (.int p1), some (.int p2)], [], h)) rfl ?_
      refine go_run 1 (F' := (1, [some (.int p1), some (.int p2)], [.int p1], h)) rfl ?_
      refine go_call (m' := 183) (v := some (.int 0)) (h1 := h) rfl rfl ⟨rfl, Nat.le_of_ble_eq_true rfl⟩ ?_ ?_
      · refine go_run 0 (F' := (0, [some (.int p1)], [], h)) rfl ?_
        refine go_run 1 (F' := (1, [some (.int p1)], [.int p1], h)) rfl ?_
        refine go_step rfl rfl ?_
        rw [if_neg q1]
        refine go_run 0 (F' := (4, [some (.int p1)], [], h)) rfl ?_
        refine go_run 2 (F' := (6, [some (.int p1)], [.int 5, .int p1], h)) rfl ?_
        refine go_step rfl rfl ?_
        rw [if_pos q2]
        refine go_run 0 (F' := (13, [some (.int p1)], [], h)) rfl ?_
        refine go_run 1 (F' := (14, [some (.int p1)], [.int 0], h)) rfl ?_
        exact go_end rfl rfl
      refine go_run 0 (F' := (4, [some (.int p1), some (.int p2)], [.int 0], h)) rfl ?_
      refine go_run 2 (F' := (8, [some (.int p1), some (.int p2)], [.int p2], h)) rfl ?_
      refine go_call (m' := 183) (v := some (.int 0)) (h1 := h) rfl rfl ⟨rfl, Nat.le_of_ble_eq_true rfl⟩ ?_ ?_
      · refine go_run 0 (F' := (0, [some (.int p2)], [], h)) rfl ?_
        refine go_run 1 (F' := (1, [some (.int p2)], [.int p2], h)) rfl ?_
        refine go_step rfl rfl ?_
        rw [if_neg q3]
        refine go_run 0 (F' := (4, [some (.int p2)], [], h)) rfl ?_
        refine go_run 2 (F' := (6, [some (.int p2)], [.int 5, .int p2], h)) rfl ?_
        refine go_step rfl rfl ?_
        rw [if_pos q4]
        refine go_run 0 (F' := (13, [some (.int p2)], [], h)) rfl ?_
        refine go_run 1 (F' := (14, [some (.int p2)], [.int 0], h)) rfl ?_
        exact go_end rfl rfl
      refine go_run 0 (F' := (11, [some (.int p1), some (.int p2)], [.int 0], h)) rfl ?_
      refine go_run 3 (F' := (16, [some (.int p1), some (.int p2)], [.int p2, .int p1], h)) rfl ?_
      refine go_step rfl rfl ?_
      rw [if_neg q5]
      refine go_run 0 (F' := (23, [some (.int p1), some (.int p2)], [], h)) rfl ?_
      refine go_run 1 (F' := (24, [some (.int p1), some (.int p2)], [.int 0], h)) rfl ?_
      exact go_end rfl rfl
    refine go_run 0 (F' := (5, [some (.ref 134), some (.int p1), some (.int p2), some (.int p3)], [.int 0], h)) rfl ?_
    refine go_run 2 (F' := (13, [some (.ref 134), some (.int p1), some (.int p2), some (.int p3)], [.int p3], h)) rfl ?_
    refine go_step rfl rfl ?_
    rw [if_neg q6]
    refine go_run 0 (F' := (16, [some (.ref 134), some (.int p1), some (.int p2), some (.int p3)], [], h)) rfl ?_
    refine go_run 2 (F' := (18, [some (.ref 134), some (.int p1), some (.int p2), some (.int p3)], [.ref 134, .int p3], h)) rfl ?_
    refine go_gf rfl c134 rfl ?_
    refine go_run 0 (F' := (21, [some (.ref 134), some (.int p1), some (.int p2), some (.int p3)], [.ref 173, .int p3], h)) rfl ?_
    refine go_run 5 (F' := (27, [some (.ref 134), some (.int p1), some (.int p2), some (.int p3)], [.int ((6 * p1) + p2), .ref 173, .int p3], h)) rfl ?_
    refine go_iald rfl (by decide) c173 b_6 rfl ?_
    refine go_run 0 (F' := (28, [some (.ref 134), some (.int p1), some (.int p2), some (.int p3)], [.int (f173 (Int32.toNatClampNeg ((6 * p1) + p2))), .int p3], h)) rfl ?_
    refine go_step rfl rfl ?_
    rw [if_neg q7]
    refine go_run 0 (F' := (31, [some (.ref 134), some (.int p1), some (.int p2), some (.int p3)], [], h)) rfl ?_
    refine go_run 2 (F' := (36, [some (.ref 134), some (.int p1), some (.int p2), some (.int p3)], [.int 2], h)) rfl ?_
    exact go_end rfl rfl
  refine go_run 0 (F' := (8, [some (.ref 134), some (.int p1), some (.int p2), some (.int p3)], [.int 2, .ref 134], h)) rfl ?_
  refine go_pf rfl c134 (Nat.le_of_ble_eq_true rfl) rfl rfl ?_
  refine go_run 0 (F' := (11, [some (.ref 134), some (.int p1), some (.int p2), some (.int p3)], [], (List.set h 134 (mo 2 ty fa wh ch it at_ bad co de 1 st sz tp am bm mn rm sp be wo)))) rfl ?_
  refine go_run 1 (F' := (12, [some (.ref 134), some (.int p1), some (.int p2), some (.int p3)], [.ref 134], (List.set h 134 (mo 2 ty fa wh ch it at_ bad co de 1 st sz tp am bm mn rm sp be wo)))) rfl ?_
  refine go_gf rfl (gs_self c134) rfl ?_
  refine go_run 0 (F' := (15, [some (.ref 134), some (.int p1), some (.int p2), some (.int p3)], [.int 2], (List.set h 134 (mo 2 ty fa wh ch it at_ bad co de 1 st sz tp am bm mn rm sp be wo)))) rfl ?_
  refine go_run 2 (F' := (42, [some (.ref 134), some (.int p1), some (.int p2), some (.int p3)], [.int 0], (List.set h 134 (mo 2 ty fa wh ch it at_ bad co de 1 st sz tp am bm mn rm sp be wo)))) rfl ?_
  exact go_end rfl rfl
set_option maxRecDepth 100000 in
theorem vm_label_8 {X : ie_X} {d : Nat} {h : ie_H} {p1 p2 p3 t_ ty fa wh ch it at_ bad co de st sz tp am bm mn rm sp be wo : Int32} {f173 f175 : Nat → Int32} (c134 : h[134]? = some (mo t_ ty fa wh ch it at_ bad co de 1 st sz tp am bm mn rm sp be wo)) (c173 : h[173]? = some (.inl (0, 36, .inl f173))) (c175 : h[175]? = some (.inl (2, 288, .inl f175))) (q1 : ¬ (p1 < 0)) (q2 : p1 ≤ 5) (q3 : ¬ (p2 < 0)) (q4 : p2 ≤ 5) (q5 : ¬ (p1 = p2)) (q6 : ¬ (p3 < 0)) (b_6 : 0 ≤ Int32.toInt ((6 * p1) + p2) ∧ Int32.toInt ((6 * p1) + p2) < (36 : Int)) (q7 : p3 < f173 (Int32.toNatClampNeg ((6 * p1) + p2))) (b_8 : 0 ≤ Int32.toInt ((8 * ((6 * p1) + p2)) + p3) ∧ Int32.toInt ((8 * ((6 * p1) + p2)) + p3) < (288 : Int)) (q8 : f175 (Int32.toNatClampNeg ((8 * ((6 * p1) + p2)) + p3)) = 0) : Go X (d + 3) 216 (0, ie_en 216 [.ref 134, .int p1, .int p2, .int p3], [], h) (.inl (some (.int 0))) (List.set h 134 (mo 0 ty fa wh ch it at_ bad co de 1 st sz tp am bm mn rm sp be wo)) := by
  refine go_run 0 (F' := (0, [some (.ref 134), some (.int p1), some (.int p2), some (.int p3)], [], h)) rfl ?_
  refine go_run 5 (F' := (5, [some (.ref 134), some (.int p1), some (.int p2), some (.int p3)], [.int p3, .int p2, .int p1, .ref 134, .ref 134], h)) rfl ?_
  refine go_call (m' := 215) (v := some (.int 0)) (h1 := h) rfl (by simp only [ie_step, ie_iv, List.drop, c134, mo, if_true]; rfl) ⟨rfl, Nat.le_of_ble_eq_true rfl⟩ ?_ ?_
  · refine go_run 0 (F' := (0, [some (.ref 134), some (.int p1), some (.int p2), some (.int p3)], [], h)) rfl ?_
    refine go_run 2 (F' := (2, [some (.ref 134), some (.int p1), some (.int p2), some (.int p3)], [.int p2, .int p1], h)) rfl ?_
    refine go_call (m' := 213) (v := some (.int 0)) (h1 := h) rfl rfl ⟨rfl, Nat.le_of_ble_eq_true rfl⟩ ?_ ?_
    · refine go_run 0 (F' := (0, [some (.int p1), some (.int p2)], [], h)) rfl ?_
      refine go_run 1 (F' := (1, [some (.int p1), some (.int p2)], [.int p1], h)) rfl ?_
      refine go_call (m' := 183) (v := some (.int 0)) (h1 := h) rfl rfl ⟨rfl, Nat.le_of_ble_eq_true rfl⟩ ?_ ?_
      · refine go_run 0 (F' := (0, [some (.int p1)], [], h)) rfl ?_
        refine go_run 1 (F' := (1, [some (.int p1)], [.int p1], h)) rfl ?_
        refine go_step rfl rfl ?_
        rw [if_neg q1]
        refine go_run 0 (F' := (4, [some (.int p1)], [], h)) rfl ?_
        refine go_run 2 (F' := (6, [some (.int p1)], [.int 5, .int p1], h)) rfl ?_
        refine go_step rfl rfl ?_
        rw [if_pos q2]
        refine go_run 0 (F' := (13, [some (.int p1)], [], h)) rfl ?_
        refine go_run 1 (F' := (14, [some (.int p1)], [.int 0], h)) rfl ?_
        exact go_end rfl rfl
      refine go_run 0 (F' := (4, [some (.int p1), some (.int p2)], [.int 0], h)) rfl ?_
      refine go_run 2 (F' := (8, [some (.int p1), some (.int p2)], [.int p2], h)) rfl ?_
      refine go_call (m' := 183) (v := some (.int 0)) (h1 := h) rfl rfl ⟨rfl, Nat.le_of_ble_eq_true rfl⟩ ?_ ?_
      · refine go_run 0 (F' := (0, [some (.int p2)], [], h)) rfl ?_
        refine go_run 1 (F' := (1, [some (.int p2)], [.int p2], h)) rfl ?_
        refine go_step rfl rfl ?_
        rw [if_neg q3]
        refine go_run 0 (F' := (4, [some (.int p2)], [], h)) rfl ?_
        refine go_run 2 (F' := (6, [some (.int p2)], [.int 5, .int p2], h)) rfl ?_
        refine go_step rfl rfl ?_
        rw [if_pos q4]
        refine go_run 0 (F' := (13, [some (.int p2)], [], h)) rfl ?_
        refine go_run 1 (F' := (14, [some (.int p2)], [.int 0], h)) rfl ?_
        exact go_end rfl rfl
      refine go_run 0 (F' := (11, [some (.int p1), some (.int p2)], [.int 0], h)) rfl ?_
      refine go_run 3 (F' := (16, [some (.int p1), some (.int p2)], [.int p2, .int p1], h)) rfl ?_
      refine go_step rfl rfl ?_
      rw [if_neg q5]
      refine go_run 0 (F' := (23, [some (.int p1), some (.int p2)], [], h)) rfl ?_
      refine go_run 1 (F' := (24, [some (.int p1), some (.int p2)], [.int 0], h)) rfl ?_
      exact go_end rfl rfl
    refine go_run 0 (F' := (5, [some (.ref 134), some (.int p1), some (.int p2), some (.int p3)], [.int 0], h)) rfl ?_
    refine go_run 2 (F' := (13, [some (.ref 134), some (.int p1), some (.int p2), some (.int p3)], [.int p3], h)) rfl ?_
    refine go_step rfl rfl ?_
    rw [if_neg q6]
    refine go_run 0 (F' := (16, [some (.ref 134), some (.int p1), some (.int p2), some (.int p3)], [], h)) rfl ?_
    refine go_run 2 (F' := (18, [some (.ref 134), some (.int p1), some (.int p2), some (.int p3)], [.ref 134, .int p3], h)) rfl ?_
    refine go_gf rfl c134 rfl ?_
    refine go_run 0 (F' := (21, [some (.ref 134), some (.int p1), some (.int p2), some (.int p3)], [.ref 173, .int p3], h)) rfl ?_
    refine go_run 5 (F' := (27, [some (.ref 134), some (.int p1), some (.int p2), some (.int p3)], [.int ((6 * p1) + p2), .ref 173, .int p3], h)) rfl ?_
    refine go_iald rfl (by decide) c173 b_6 rfl ?_
    refine go_run 0 (F' := (28, [some (.ref 134), some (.int p1), some (.int p2), some (.int p3)], [.int (f173 (Int32.toNatClampNeg ((6 * p1) + p2))), .int p3], h)) rfl ?_
    refine go_step rfl rfl ?_
    rw [if_pos q7]
    refine go_run 0 (F' := (35, [some (.ref 134), some (.int p1), some (.int p2), some (.int p3)], [], h)) rfl ?_
    refine go_run 1 (F' := (36, [some (.ref 134), some (.int p1), some (.int p2), some (.int p3)], [.int 0], h)) rfl ?_
    exact go_end rfl rfl
  refine go_run 0 (F' := (8, [some (.ref 134), some (.int p1), some (.int p2), some (.int p3)], [.int 0, .ref 134], h)) rfl ?_
  refine go_pf rfl c134 (Nat.le_of_ble_eq_true rfl) rfl rfl ?_
  refine go_run 0 (F' := (11, [some (.ref 134), some (.int p1), some (.int p2), some (.int p3)], [], (List.set h 134 (mo 0 ty fa wh ch it at_ bad co de 1 st sz tp am bm mn rm sp be wo)))) rfl ?_
  refine go_run 1 (F' := (12, [some (.ref 134), some (.int p1), some (.int p2), some (.int p3)], [.ref 134], (List.set h 134 (mo 0 ty fa wh ch it at_ bad co de 1 st sz tp am bm mn rm sp be wo)))) rfl ?_
  refine go_gf rfl (gs_self c134) rfl ?_
  refine go_run 0 (F' := (15, [some (.ref 134), some (.int p1), some (.int p2), some (.int p3)], [.int 0], (List.set h 134 (mo 0 ty fa wh ch it at_ bad co de 1 st sz tp am bm mn rm sp be wo)))) rfl ?_
  refine go_run 2 (F' := (19, [some (.ref 134), some (.int p1), some (.int p2), some (.int p3)], [.ref 134], (List.set h 134 (mo 0 ty fa wh ch it at_ bad co de 1 st sz tp am bm mn rm sp be wo)))) rfl ?_
  refine go_gf rfl (gs_self c134) rfl ?_
  refine go_run 0 (F' := (22, [some (.ref 134), some (.int p1), some (.int p2), some (.int p3)], [.ref 175], (List.set h 134 (mo 0 ty fa wh ch it at_ bad co de 1 st sz tp am bm mn rm sp be wo)))) rfl ?_
  refine go_run 9 (F' := (33, [some (.ref 134), some (.int p1), some (.int p2), some (.int p3)], [.int ((8 * ((6 * p1) + p2)) + p3), .ref 175], (List.set h 134 (mo 0 ty fa wh ch it at_ bad co de 1 st sz tp am bm mn rm sp be wo)))) rfl ?_
  refine go_bald rfl (by decide) (gs_ne (by decide) c175) b_8 rfl ?_
  refine go_run 0 (F' := (34, [some (.ref 134), some (.int p1), some (.int p2), some (.int p3)], [.int (f175 (Int32.toNatClampNeg ((8 * ((6 * p1) + p2)) + p3)))], (List.set h 134 (mo 0 ty fa wh ch it at_ bad co de 1 st sz tp am bm mn rm sp be wo)))) rfl ?_
  refine go_step rfl rfl ?_
  rw [if_pos q8]
  refine go_run 0 (F' := (41, [some (.ref 134), some (.int p1), some (.int p2), some (.int p3)], [], (List.set h 134 (mo 0 ty fa wh ch it at_ bad co de 1 st sz tp am bm mn rm sp be wo)))) rfl ?_
  refine go_run 1 (F' := (42, [some (.ref 134), some (.int p1), some (.int p2), some (.int p3)], [.int 0], (List.set h 134 (mo 0 ty fa wh ch it at_ bad co de 1 st sz tp am bm mn rm sp be wo)))) rfl ?_
  exact go_end rfl rfl
set_option maxRecDepth 100000 in
theorem vm_label_9 {X : ie_X} {d : Nat} {h : ie_H} {p1 p2 p3 t_ ty fa wh ch it at_ bad co de st sz tp am bm mn rm sp be wo : Int32} {f173 f175 : Nat → Int32} (c134 : h[134]? = some (mo t_ ty fa wh ch it at_ bad co de 1 st sz tp am bm mn rm sp be wo)) (c173 : h[173]? = some (.inl (0, 36, .inl f173))) (c175 : h[175]? = some (.inl (2, 288, .inl f175))) (q1 : ¬ (p1 < 0)) (q2 : p1 ≤ 5) (q3 : ¬ (p2 < 0)) (q4 : p2 ≤ 5) (q5 : ¬ (p1 = p2)) (q6 : ¬ (p3 < 0)) (b_6 : 0 ≤ Int32.toInt ((6 * p1) + p2) ∧ Int32.toInt ((6 * p1) + p2) < (36 : Int)) (q7 : p3 < f173 (Int32.toNatClampNeg ((6 * p1) + p2))) (b_8 : 0 ≤ Int32.toInt ((8 * ((6 * p1) + p2)) + p3) ∧ Int32.toInt ((8 * ((6 * p1) + p2)) + p3) < (288 : Int)) (q8 : ¬ (f175 (Int32.toNatClampNeg ((8 * ((6 * p1) + p2)) + p3)) = 0)) : Go X (d + 3) 216 (0, ie_en 216 [.ref 134, .int p1, .int p2, .int p3], [], h) (.inl (some (.int 1))) (List.set h 134 (mo 0 ty fa wh ch it at_ bad co de 1 st sz tp am bm mn rm sp be wo)) := by
  refine go_run 0 (F' := (0, [some (.ref 134), some (.int p1), some (.int p2), some (.int p3)], [], h)) rfl ?_
  refine go_run 5 (F' := (5, [some (.ref 134), some (.int p1), some (.int p2), some (.int p3)], [.int p3, .int p2, .int p1, .ref 134, .ref 134], h)) rfl ?_
  refine go_call (m' := 215) (v := some (.int 0)) (h1 := h) rfl (by simp only [ie_step, ie_iv, List.drop, c134, mo, if_true]; rfl) ⟨rfl, Nat.le_of_ble_eq_true rfl⟩ ?_ ?_
  · refine go_run 0 (F' := (0, [some (.ref 134), some (.int p1), some (.int p2), some (.int p3)], [], h)) rfl ?_
    refine go_run 2 (F' := (2, [some (.ref 134), some (.int p1), some (.int p2), some (.int p3)], [.int p2, .int p1], h)) rfl ?_
    refine go_call (m' := 213) (v := some (.int 0)) (h1 := h) rfl rfl ⟨rfl, Nat.le_of_ble_eq_true rfl⟩ ?_ ?_
    · refine go_run 0 (F' := (0, [some (.int p1), some (.int p2)], [], h)) rfl ?_
      refine go_run 1 (F' := (1, [some (.int p1), some (.int p2)], [.int p1], h)) rfl ?_
      refine go_call (m' := 183) (v := some (.int 0)) (h1 := h) rfl rfl ⟨rfl, Nat.le_of_ble_eq_true rfl⟩ ?_ ?_
      · refine go_run 0 (F' := (0, [some (.int p1)], [], h)) rfl ?_
        refine go_run 1 (F' := (1, [some (.int p1)], [.int p1], h)) rfl ?_
        refine go_step rfl rfl ?_
        rw [if_neg q1]
        refine go_run 0 (F' := (4, [some (.int p1)], [], h)) rfl ?_
        refine go_run 2 (F' := (6, [some (.int p1)], [.int 5, .int p1], h)) rfl ?_
        refine go_step rfl rfl ?_
        rw [if_pos q2]
        refine go_run 0 (F' := (13, [some (.int p1)], [], h)) rfl ?_
        refine go_run 1 (F' := (14, [some (.int p1)], [.int 0], h)) rfl ?_
        exact go_end rfl rfl
      refine go_run 0 (F' := (4, [some (.int p1), some (.int p2)], [.int 0], h)) rfl ?_
      refine go_run 2 (F' := (8, [some (.int p1), some (.int p2)], [.int p2], h)) rfl ?_
      refine go_call (m' := 183) (v := some (.int 0)) (h1 := h) rfl rfl ⟨rfl, Nat.le_of_ble_eq_true rfl⟩ ?_ ?_
      · refine go_run 0 (F' := (0, [some (.int p2)], [], h)) rfl ?_
        refine go_run 1 (F' := (1, [some (.int p2)], [.int p2], h)) rfl ?_
        refine go_step rfl rfl ?_
        rw [if_neg q3]
        refine go_run 0 (F' := (4, [some (.int p2)], [], h)) rfl ?_
        refine go_run 2 (F' := (6, [some (.int p2)], [.int 5, .int p2], h)) rfl ?_
        refine go_step rfl rfl ?_
        rw [if_pos q4]
        refine go_run 0 (F' := (13, [some (.int p2)], [], h)) rfl ?_
        refine go_run 1 (F' := (14, [some (.int p2)], [.int 0], h)) rfl ?_
        exact go_end rfl rfl
      refine go_run 0 (F' := (11, [some (.int p1), some (.int p2)], [.int 0], h)) rfl ?_
      refine go_run 3 (F' := (16, [some (.int p1), some (.int p2)], [.int p2, .int p1], h)) rfl ?_
      refine go_step rfl rfl ?_
      rw [if_neg q5]
      refine go_run 0 (F' := (23, [some (.int p1), some (.int p2)], [], h)) rfl ?_
      refine go_run 1 (F' := (24, [some (.int p1), some (.int p2)], [.int 0], h)) rfl ?_
      exact go_end rfl rfl
    refine go_run 0 (F' := (5, [some (.ref 134), some (.int p1), some (.int p2), some (.int p3)], [.int 0], h)) rfl ?_
    refine go_run 2 (F' := (13, [some (.ref 134), some (.int p1), some (.int p2), some (.int p3)], [.int p3], h)) rfl ?_
    refine go_step rfl rfl ?_
    rw [if_neg q6]
    refine go_run 0 (F' := (16, [some (.ref 134), some (.int p1), some (.int p2), some (.int p3)], [], h)) rfl ?_
    refine go_run 2 (F' := (18, [some (.ref 134), some (.int p1), some (.int p2), some (.int p3)], [.ref 134, .int p3], h)) rfl ?_
    refine go_gf rfl c134 rfl ?_
    refine go_run 0 (F' := (21, [some (.ref 134), some (.int p1), some (.int p2), some (.int p3)], [.ref 173, .int p3], h)) rfl ?_
    refine go_run 5 (F' := (27, [some (.ref 134), some (.int p1), some (.int p2), some (.int p3)], [.int ((6 * p1) + p2), .ref 173, .int p3], h)) rfl ?_
    refine go_iald rfl (by decide) c173 b_6 rfl ?_
    refine go_run 0 (F' := (28, [some (.ref 134), some (.int p1), some (.int p2), some (.int p3)], [.int (f173 (Int32.toNatClampNeg ((6 * p1) + p2))), .int p3], h)) rfl ?_
    refine go_step rfl rfl ?_
    rw [if_pos q7]
    refine go_run 0 (F' := (35, [some (.ref 134), some (.int p1), some (.int p2), some (.int p3)], [], h)) rfl ?_
    refine go_run 1 (F' := (36, [some (.ref 134), some (.int p1), some (.int p2), some (.int p3)], [.int 0], h)) rfl ?_
    exact go_end rfl rfl
  refine go_run 0 (F' := (8, [some (.ref 134), some (.int p1), some (.int p2), some (.int p3)], [.int 0, .ref 134], h)) rfl ?_
  refine go_pf rfl c134 (Nat.le_of_ble_eq_true rfl) rfl rfl ?_
  refine go_run 0 (F' := (11, [some (.ref 134), some (.int p1), some (.int p2), some (.int p3)], [], (List.set h 134 (mo 0 ty fa wh ch it at_ bad co de 1 st sz tp am bm mn rm sp be wo)))) rfl ?_
  refine go_run 1 (F' := (12, [some (.ref 134), some (.int p1), some (.int p2), some (.int p3)], [.ref 134], (List.set h 134 (mo 0 ty fa wh ch it at_ bad co de 1 st sz tp am bm mn rm sp be wo)))) rfl ?_
  refine go_gf rfl (gs_self c134) rfl ?_
  refine go_run 0 (F' := (15, [some (.ref 134), some (.int p1), some (.int p2), some (.int p3)], [.int 0], (List.set h 134 (mo 0 ty fa wh ch it at_ bad co de 1 st sz tp am bm mn rm sp be wo)))) rfl ?_
  refine go_run 2 (F' := (19, [some (.ref 134), some (.int p1), some (.int p2), some (.int p3)], [.ref 134], (List.set h 134 (mo 0 ty fa wh ch it at_ bad co de 1 st sz tp am bm mn rm sp be wo)))) rfl ?_
  refine go_gf rfl (gs_self c134) rfl ?_
  refine go_run 0 (F' := (22, [some (.ref 134), some (.int p1), some (.int p2), some (.int p3)], [.ref 175], (List.set h 134 (mo 0 ty fa wh ch it at_ bad co de 1 st sz tp am bm mn rm sp be wo)))) rfl ?_
  refine go_run 9 (F' := (33, [some (.ref 134), some (.int p1), some (.int p2), some (.int p3)], [.int ((8 * ((6 * p1) + p2)) + p3), .ref 175], (List.set h 134 (mo 0 ty fa wh ch it at_ bad co de 1 st sz tp am bm mn rm sp be wo)))) rfl ?_
  refine go_bald rfl (by decide) (gs_ne (by decide) c175) b_8 rfl ?_
  refine go_run 0 (F' := (34, [some (.ref 134), some (.int p1), some (.int p2), some (.int p3)], [.int (f175 (Int32.toNatClampNeg ((8 * ((6 * p1) + p2)) + p3)))], (List.set h 134 (mo 0 ty fa wh ch it at_ bad co de 1 st sz tp am bm mn rm sp be wo)))) rfl ?_
  refine go_step rfl rfl ?_
  rw [if_neg q8]
  refine go_run 0 (F' := (37, [some (.ref 134), some (.int p1), some (.int p2), some (.int p3)], [], (List.set h 134 (mo 0 ty fa wh ch it at_ bad co de 1 st sz tp am bm mn rm sp be wo)))) rfl ?_
  refine go_run 2 (F' := (42, [some (.ref 134), some (.int p1), some (.int p2), some (.int p3)], [.int 1], (List.set h 134 (mo 0 ty fa wh ch it at_ bad co de 1 st sz tp am bm mn rm sp be wo)))) rfl ?_
  exact go_end rfl rfl
set_option maxRecDepth 100000 in
theorem vc_wanted_1 {X : ie_X} {d : Nat} {h : ie_H} {p1 p2 nl cf cw : Int32} {pl : Nat} (c0 : h[0]? = some (.inr (0, [.ref 1, .int nl, .int cf, .int cw, .ref pl, .ref 2, .ref 133]))) (q1 : p1 < 0) : Go X (d + 3) 131 (0, ie_en 131 [.ref 0, .int p1, .int p2, .ref 177], [], h) (.inl (some (.int 1))) (h ++ [.inr (14, [])]) := by
  refine go_run 0 (F' := (0, [some (.ref 0), some (.int p1), some (.int p2), some (.ref 177), none], [], h)) rfl ?_
  refine go_run 5 (F' := (5, [some (.ref 0), some (.int p1), some (.int p2), some (.ref 177), none], [.int p2, .int p1, .ref 0, .int 0, .ref 177], h)) rfl ?_
  refine go_catch (m' := 132) (ci := 14) (h1 := (h ++ [.inr (14, [])])) rfl (by simp only [ie_step, ie_iv, List.drop, c0, if_true]; rfl) ⟨rfl, Nat.le_of_ble_eq_true rfl⟩ rfl rfl rfl ?_ ?_
  · refine go_run 0 (F' := (0, [some (.ref 0), some (.int p1), some (.int p2)], [], h)) rfl ?_
    refine go_run 2 (F' := (2, [some (.ref 0), some (.int p1), some (.int p2)], [.int p2, .int p1], h)) rfl ?_
    refine go_out (m' := 86) rfl rfl ⟨rfl, Nat.le_of_ble_eq_true rfl⟩ rfl rfl ?_
    · refine go_run 0 (F' := (0, [some (.int p1), some (.int p2)], [], h)) rfl ?_
      refine go_run 1 (F' := (1, [some (.int p1), some (.int p2)], [.int p1], h)) rfl ?_
      refine go_call (m' := 33) (v := some (.int 0)) (h1 := h) rfl rfl ⟨rfl, Nat.le_of_ble_eq_true rfl⟩ ?_ ?_
      · refine go_run 0 (F' := (0, [some (.int p1)], [], h)) rfl ?_
        refine go_run 1 (F' := (1, [some (.int p1)], [.int p1], h)) rfl ?_
        refine go_step rfl rfl ?_
        rw [if_pos q1]
        refine go_run 0 (F' := (14, [some (.int p1)], [], h)) rfl ?_
        refine go_run 1 (F' := (15, [some (.int p1)], [.int 0], h)) rfl ?_
        exact go_end rfl rfl
      refine go_run 0 (F' := (4, [some (.int p1), some (.int p2)], [.int 0], h)) rfl ?_
      refine go_run 1 (F' := (16, [some (.int p1), some (.int p2)], [], h)) rfl ?_
      exact go_end rfl rfl
  refine go_run 0 (F' := (15, [some (.ref 0), some (.int p1), some (.int p2), some (.ref 177), none], [], (h ++ [.inr (14, [])]))) rfl ?_
  refine go_run 1 (F' := (16, [some (.ref 0), some (.int p1), some (.int p2), some (.ref 177), none], [.int 1], (h ++ [.inr (14, [])]))) rfl ?_
  exact go_end rfl rfl
set_option maxRecDepth 100000 in
theorem vc_wanted_2 {X : ie_X} {d : Nat} {h : ie_H} {p1 p2 nl cf cw : Int32} {pl : Nat} (c0 : h[0]? = some (.inr (0, [.ref 1, .int nl, .int cf, .int cw, .ref pl, .ref 2, .ref 133]))) (q1 : ¬ (p1 < 0)) (q2 : 6 ≤ p1) : Go X (d + 3) 131 (0, ie_en 131 [.ref 0, .int p1, .int p2, .ref 177], [], h) (.inl (some (.int 1))) (h ++ [.inr (14, [])]) := by
  refine go_run 0 (F' := (0, [some (.ref 0), some (.int p1), some (.int p2), some (.ref 177), none], [], h)) rfl ?_
  refine go_run 5 (F' := (5, [some (.ref 0), some (.int p1), some (.int p2), some (.ref 177), none], [.int p2, .int p1, .ref 0, .int 0, .ref 177], h)) rfl ?_
  refine go_catch (m' := 132) (ci := 14) (h1 := (h ++ [.inr (14, [])])) rfl (by simp only [ie_step, ie_iv, List.drop, c0, if_true]; rfl) ⟨rfl, Nat.le_of_ble_eq_true rfl⟩ rfl rfl rfl ?_ ?_
  · refine go_run 0 (F' := (0, [some (.ref 0), some (.int p1), some (.int p2)], [], h)) rfl ?_
    refine go_run 2 (F' := (2, [some (.ref 0), some (.int p1), some (.int p2)], [.int p2, .int p1], h)) rfl ?_
    refine go_out (m' := 86) rfl rfl ⟨rfl, Nat.le_of_ble_eq_true rfl⟩ rfl rfl ?_
    · refine go_run 0 (F' := (0, [some (.int p1), some (.int p2)], [], h)) rfl ?_
      refine go_run 1 (F' := (1, [some (.int p1), some (.int p2)], [.int p1], h)) rfl ?_
      refine go_call (m' := 33) (v := some (.int 0)) (h1 := h) rfl rfl ⟨rfl, Nat.le_of_ble_eq_true rfl⟩ ?_ ?_
      · refine go_run 0 (F' := (0, [some (.int p1)], [], h)) rfl ?_
        refine go_run 1 (F' := (1, [some (.int p1)], [.int p1], h)) rfl ?_
        refine go_step rfl rfl ?_
        rw [if_neg q1]
        refine go_run 0 (F' := (4, [some (.int p1)], [], h)) rfl ?_
        refine go_run 2 (F' := (7, [some (.int p1)], [.int 6, .int p1], h)) rfl ?_
        refine go_step rfl rfl ?_
        rw [if_pos q2]
        refine go_run 0 (F' := (14, [some (.int p1)], [], h)) rfl ?_
        refine go_run 1 (F' := (15, [some (.int p1)], [.int 0], h)) rfl ?_
        exact go_end rfl rfl
      refine go_run 0 (F' := (4, [some (.int p1), some (.int p2)], [.int 0], h)) rfl ?_
      refine go_run 1 (F' := (16, [some (.int p1), some (.int p2)], [], h)) rfl ?_
      exact go_end rfl rfl
  refine go_run 0 (F' := (15, [some (.ref 0), some (.int p1), some (.int p2), some (.ref 177), none], [], (h ++ [.inr (14, [])]))) rfl ?_
  refine go_run 1 (F' := (16, [some (.ref 0), some (.int p1), some (.int p2), some (.ref 177), none], [.int 1], (h ++ [.inr (14, [])]))) rfl ?_
  exact go_end rfl rfl
set_option maxRecDepth 100000 in
theorem vc_wanted_3 {X : ie_X} {d : Nat} {h : ie_H} {p1 p2 nl cf cw : Int32} {pl : Nat} (c0 : h[0]? = some (.inr (0, [.ref 1, .int nl, .int cf, .int cw, .ref pl, .ref 2, .ref 133]))) (q1 : ¬ (p1 < 0)) (q2 : ¬ (6 ≤ p1)) (q3 : p2 < 0) : Go X (d + 3) 131 (0, ie_en 131 [.ref 0, .int p1, .int p2, .ref 177], [], h) (.inl (some (.int 1))) (h ++ [.inr (14, [])]) := by
  refine go_run 0 (F' := (0, [some (.ref 0), some (.int p1), some (.int p2), some (.ref 177), none], [], h)) rfl ?_
  refine go_run 5 (F' := (5, [some (.ref 0), some (.int p1), some (.int p2), some (.ref 177), none], [.int p2, .int p1, .ref 0, .int 0, .ref 177], h)) rfl ?_
  refine go_catch (m' := 132) (ci := 14) (h1 := (h ++ [.inr (14, [])])) rfl (by simp only [ie_step, ie_iv, List.drop, c0, if_true]; rfl) ⟨rfl, Nat.le_of_ble_eq_true rfl⟩ rfl rfl rfl ?_ ?_
  · refine go_run 0 (F' := (0, [some (.ref 0), some (.int p1), some (.int p2)], [], h)) rfl ?_
    refine go_run 2 (F' := (2, [some (.ref 0), some (.int p1), some (.int p2)], [.int p2, .int p1], h)) rfl ?_
    refine go_out (m' := 86) rfl rfl ⟨rfl, Nat.le_of_ble_eq_true rfl⟩ rfl rfl ?_
    · refine go_run 0 (F' := (0, [some (.int p1), some (.int p2)], [], h)) rfl ?_
      refine go_run 1 (F' := (1, [some (.int p1), some (.int p2)], [.int p1], h)) rfl ?_
      refine go_call (m' := 33) (v := some (.int 1)) (h1 := h) rfl rfl ⟨rfl, Nat.le_of_ble_eq_true rfl⟩ ?_ ?_
      · refine go_run 0 (F' := (0, [some (.int p1)], [], h)) rfl ?_
        refine go_run 1 (F' := (1, [some (.int p1)], [.int p1], h)) rfl ?_
        refine go_step rfl rfl ?_
        rw [if_neg q1]
        refine go_run 0 (F' := (4, [some (.int p1)], [], h)) rfl ?_
        refine go_run 2 (F' := (7, [some (.int p1)], [.int 6, .int p1], h)) rfl ?_
        refine go_step rfl rfl ?_
        rw [if_neg q2]
        refine go_run 0 (F' := (10, [some (.int p1)], [], h)) rfl ?_
        refine go_run 2 (F' := (15, [some (.int p1)], [.int 1], h)) rfl ?_
        exact go_end rfl rfl
      refine go_run 0 (F' := (4, [some (.int p1), some (.int p2)], [.int 1], h)) rfl ?_
      refine go_run 2 (F' := (8, [some (.int p1), some (.int p2)], [.int p2], h)) rfl ?_
      refine go_step rfl rfl ?_
      rw [if_pos q3]
      refine go_run 0 (F' := (16, [some (.int p1), some (.int p2)], [], h)) rfl ?_
      exact go_end rfl rfl
  refine go_run 0 (F' := (15, [some (.ref 0), some (.int p1), some (.int p2), some (.ref 177), none], [], (h ++ [.inr (14, [])]))) rfl ?_
  refine go_run 1 (F' := (16, [some (.ref 0), some (.int p1), some (.int p2), some (.ref 177), none], [.int 1], (h ++ [.inr (14, [])]))) rfl ?_
  exact go_end rfl rfl
set_option maxRecDepth 100000 in
theorem vc_wanted_4 {X : ie_X} {d : Nat} {h : ie_H} {p1 p2 nl cf cw : Int32} {pl : Nat} {f133 : Nat → Int32} {fo : Nat → Int64} (c0 : h[0]? = some (.inr (0, [.ref 1, .int nl, .int cf, .int cw, .ref pl, .ref 2, .ref 133]))) (c133 : h[133]? = some (.inl (0, 24, .inl f133))) (c177 : h[177]? = some (.inl (3, 1, .inr (.inl fo)))) (q1 : ¬ (p1 < 0)) (q2 : ¬ (6 ≤ p1)) (q3 : ¬ (p2 < 0)) (q4 : p2 < 4) (b_4 : 0 ≤ Int32.toInt ((p1 * 4) + p2) ∧ Int32.toInt ((p1 * 4) + p2) < (24 : Int)) : Go X (d + 3) 131 (0, ie_en 131 [.ref 0, .int p1, .int p2, .ref 177], [], h) (.inl (some (.int 0))) (List.set h 177 (.inl (3, 1, .inr (.inl (vp_updL fo 0 (Int32.toInt64 (f133 (Int32.toNatClampNeg ((p1 * 4) + p2))))))))) := by
  refine go_run 0 (F' := (0, [some (.ref 0), some (.int p1), some (.int p2), some (.ref 177), none], [], h)) rfl ?_
  refine go_run 5 (F' := (5, [some (.ref 0), some (.int p1), some (.int p2), some (.ref 177), none], [.int p2, .int p1, .ref 0, .int 0, .ref 177], h)) rfl ?_
  refine go_call (m' := 132) (v := some (.int (f133 (Int32.toNatClampNeg ((p1 * 4) + p2))))) (h1 := h) rfl (by simp only [ie_step, ie_iv, List.drop, c0, if_true]; rfl) ⟨rfl, Nat.le_of_ble_eq_true rfl⟩ ?_ ?_
  · refine go_run 0 (F' := (0, [some (.ref 0), some (.int p1), some (.int p2)], [], h)) rfl ?_
    refine go_run 2 (F' := (2, [some (.ref 0), some (.int p1), some (.int p2)], [.int p2, .int p1], h)) rfl ?_
    refine go_call (m' := 86) (v := none) (h1 := h) rfl rfl ⟨rfl, Nat.le_of_ble_eq_true rfl⟩ ?_ ?_
    · refine go_run 0 (F' := (0, [some (.int p1), some (.int p2)], [], h)) rfl ?_
      refine go_run 1 (F' := (1, [some (.int p1), some (.int p2)], [.int p1], h)) rfl ?_
      refine go_call (m' := 33) (v := some (.int 1)) (h1 := h) rfl rfl ⟨rfl, Nat.le_of_ble_eq_true rfl⟩ ?_ ?_
      · refine go_run 0 (F' := (0, [some (.int p1)], [], h)) rfl ?_
        refine go_run 1 (F' := (1, [some (.int p1)], [.int p1], h)) rfl ?_
        refine go_step rfl rfl ?_
        rw [if_neg q1]
        refine go_run 0 (F' := (4, [some (.int p1)], [], h)) rfl ?_
        refine go_run 2 (F' := (7, [some (.int p1)], [.int 6, .int p1], h)) rfl ?_
        refine go_step rfl rfl ?_
        rw [if_neg q2]
        refine go_run 0 (F' := (10, [some (.int p1)], [], h)) rfl ?_
        refine go_run 2 (F' := (15, [some (.int p1)], [.int 1], h)) rfl ?_
        exact go_end rfl rfl
      refine go_run 0 (F' := (4, [some (.int p1), some (.int p2)], [.int 1], h)) rfl ?_
      refine go_run 2 (F' := (8, [some (.int p1), some (.int p2)], [.int p2], h)) rfl ?_
      refine go_step rfl rfl ?_
      rw [if_neg q3]
      refine go_run 0 (F' := (11, [some (.int p1), some (.int p2)], [], h)) rfl ?_
      refine go_run 2 (F' := (13, [some (.int p1), some (.int p2)], [.int 4, .int p2], h)) rfl ?_
      refine go_step rfl rfl ?_
      rw [if_pos q4]
      refine go_run 0 (F' := (24, [some (.int p1), some (.int p2)], [], h)) rfl ?_
      exact go_end rfl rfl
    refine go_run 0 (F' := (5, [some (.ref 0), some (.int p1), some (.int p2)], [], h)) rfl ?_
    refine go_run 1 (F' := (6, [some (.ref 0), some (.int p1), some (.int p2)], [.ref 0], h)) rfl ?_
    refine go_gf rfl c0 rfl ?_
    refine go_run 0 (F' := (9, [some (.ref 0), some (.int p1), some (.int p2)], [.ref 133], h)) rfl ?_
    refine go_run 2 (F' := (11, [some (.ref 0), some (.int p1), some (.int p2)], [.int p2, .int p1, .ref 133], h)) rfl ?_
    refine go_call (m' := 88) (v := some (.int ((p1 * 4) + p2))) (h1 := h) rfl rfl ⟨rfl, Nat.le_of_ble_eq_true rfl⟩ ?_ ?_
    · refine go_run 0 (F' := (0, [some (.int p1), some (.int p2)], [], h)) rfl ?_
      refine go_run 5 (F' := (5, [some (.int p1), some (.int p2)], [.int ((p1 * 4) + p2)], h)) rfl ?_
      exact go_end rfl rfl
    refine go_run 0 (F' := (14, [some (.ref 0), some (.int p1), some (.int p2)], [.int ((p1 * 4) + p2), .ref 133], h)) rfl ?_
    refine go_iald rfl (by decide) c133 b_4 rfl ?_
    refine go_run 0 (F' := (15, [some (.ref 0), some (.int p1), some (.int p2)], [.int (f133 (Int32.toNatClampNeg ((p1 * 4) + p2)))], h)) rfl ?_
    exact go_end rfl rfl
  refine go_run 0 (F' := (8, [some (.ref 0), some (.int p1), some (.int p2), some (.ref 177), none], [.int (f133 (Int32.toNatClampNeg ((p1 * 4) + p2))), .int 0, .ref 177], h)) rfl ?_
  refine go_run 1 (F' := (9, [some (.ref 0), some (.int p1), some (.int p2), some (.ref 177), none], [.long (Int32.toInt64 (f133 (Int32.toNatClampNeg ((p1 * 4) + p2)))), .int 0, .ref 177], h)) rfl ?_
  refine go_last rfl c177 (by decide) rfl ?_
  refine go_run 0 (F' := (10, [some (.ref 0), some (.int p1), some (.int p2), some (.ref 177), none], [], (List.set h 177 (.inl (3, 1, .inr (.inl (vp_updL fo 0 (Int32.toInt64 (f133 (Int32.toNatClampNeg ((p1 * 4) + p2))))))))))) rfl ?_
  refine go_run 2 (F' := (18, [some (.ref 0), some (.int p1), some (.int p2), some (.ref 177), none], [.int 0], (List.set h 177 (.inl (3, 1, .inr (.inl (vp_updL fo 0 (Int32.toInt64 (f133 (Int32.toNatClampNeg ((p1 * 4) + p2))))))))))) rfl ?_
  exact go_end rfl rfl
set_option maxRecDepth 100000 in
theorem vc_wanted_5 {X : ie_X} {d : Nat} {h : ie_H} {p1 p2 nl cf cw : Int32} {pl : Nat} (c0 : h[0]? = some (.inr (0, [.ref 1, .int nl, .int cf, .int cw, .ref pl, .ref 2, .ref 133]))) (q1 : ¬ (p1 < 0)) (q2 : ¬ (6 ≤ p1)) (q3 : ¬ (p2 < 0)) (q4 : ¬ (p2 < 4)) : Go X (d + 3) 131 (0, ie_en 131 [.ref 0, .int p1, .int p2, .ref 177], [], h) (.inl (some (.int 1))) (h ++ [.inr (14, [])]) := by
  refine go_run 0 (F' := (0, [some (.ref 0), some (.int p1), some (.int p2), some (.ref 177), none], [], h)) rfl ?_
  refine go_run 5 (F' := (5, [some (.ref 0), some (.int p1), some (.int p2), some (.ref 177), none], [.int p2, .int p1, .ref 0, .int 0, .ref 177], h)) rfl ?_
  refine go_catch (m' := 132) (ci := 14) (h1 := (h ++ [.inr (14, [])])) rfl (by simp only [ie_step, ie_iv, List.drop, c0, if_true]; rfl) ⟨rfl, Nat.le_of_ble_eq_true rfl⟩ rfl rfl rfl ?_ ?_
  · refine go_run 0 (F' := (0, [some (.ref 0), some (.int p1), some (.int p2)], [], h)) rfl ?_
    refine go_run 2 (F' := (2, [some (.ref 0), some (.int p1), some (.int p2)], [.int p2, .int p1], h)) rfl ?_
    refine go_out (m' := 86) rfl rfl ⟨rfl, Nat.le_of_ble_eq_true rfl⟩ rfl rfl ?_
    · refine go_run 0 (F' := (0, [some (.int p1), some (.int p2)], [], h)) rfl ?_
      refine go_run 1 (F' := (1, [some (.int p1), some (.int p2)], [.int p1], h)) rfl ?_
      refine go_call (m' := 33) (v := some (.int 1)) (h1 := h) rfl rfl ⟨rfl, Nat.le_of_ble_eq_true rfl⟩ ?_ ?_
      · refine go_run 0 (F' := (0, [some (.int p1)], [], h)) rfl ?_
        refine go_run 1 (F' := (1, [some (.int p1)], [.int p1], h)) rfl ?_
        refine go_step rfl rfl ?_
        rw [if_neg q1]
        refine go_run 0 (F' := (4, [some (.int p1)], [], h)) rfl ?_
        refine go_run 2 (F' := (7, [some (.int p1)], [.int 6, .int p1], h)) rfl ?_
        refine go_step rfl rfl ?_
        rw [if_neg q2]
        refine go_run 0 (F' := (10, [some (.int p1)], [], h)) rfl ?_
        refine go_run 2 (F' := (15, [some (.int p1)], [.int 1], h)) rfl ?_
        exact go_end rfl rfl
      refine go_run 0 (F' := (4, [some (.int p1), some (.int p2)], [.int 1], h)) rfl ?_
      refine go_run 2 (F' := (8, [some (.int p1), some (.int p2)], [.int p2], h)) rfl ?_
      refine go_step rfl rfl ?_
      rw [if_neg q3]
      refine go_run 0 (F' := (11, [some (.int p1), some (.int p2)], [], h)) rfl ?_
      refine go_run 2 (F' := (13, [some (.int p1), some (.int p2)], [.int 4, .int p2], h)) rfl ?_
      refine go_step rfl rfl ?_
      rw [if_neg q4]
      refine go_run 0 (F' := (16, [some (.int p1), some (.int p2)], [], h)) rfl ?_
      exact go_end rfl rfl
  refine go_run 0 (F' := (15, [some (.ref 0), some (.int p1), some (.int p2), some (.ref 177), none], [], (h ++ [.inr (14, [])]))) rfl ?_
  refine go_run 1 (F' := (16, [some (.ref 0), some (.int p1), some (.int p2), some (.ref 177), none], [.int 1], (h ++ [.inr (14, [])]))) rfl ?_
  exact go_end rfl rfl
set_option maxRecDepth 100000 in
theorem vm_wanted_1 {X : ie_X} {d : Nat} {h : ie_H} {p1 p2 t_ ty fa wh ch it at_ bad co de st sz tp am bm mn rm sp be wo : Int32} (c134 : h[134]? = some (mo t_ ty fa wh ch it at_ bad co de 1 st sz tp am bm mn rm sp be wo)) (q1 : p1 < 0) : Go X (d + 1) 221 (0, ie_en 221 [.ref 134, .int p1, .int p2], [], h) (.inl (some (.int 0))) (List.set h 134 (mo 1 ty fa wh ch it at_ bad co de 1 st sz tp am bm mn rm sp be wo)) := by
  refine go_run 0 (F' := (0, [some (.ref 134), some (.int p1), some (.int p2)], [], h)) rfl ?_
  refine go_run 2 (F' := (2, [some (.ref 134), some (.int p1), some (.int p2)], [.int p1, .ref 134], h)) rfl ?_
  refine go_call (m' := 183) (v := some (.int 1)) (h1 := h) rfl rfl ⟨rfl, Nat.le_of_ble_eq_true rfl⟩ ?_ ?_
  · refine go_run 0 (F' := (0, [some (.int p1)], [], h)) rfl ?_
    refine go_run 1 (F' := (1, [some (.int p1)], [.int p1], h)) rfl ?_
    refine go_step rfl rfl ?_
    rw [if_pos q1]
    refine go_run 0 (F' := (9, [some (.int p1)], [], h)) rfl ?_
    refine go_run 2 (F' := (14, [some (.int p1)], [.int 1], h)) rfl ?_
    exact go_end rfl rfl
  refine go_run 0 (F' := (5, [some (.ref 134), some (.int p1), some (.int p2)], [.int 1, .ref 134], h)) rfl ?_
  refine go_run 3 (F' := (20, [some (.ref 134), some (.int p1), some (.int p2)], [.int 1, .ref 134], h)) rfl ?_
  refine go_pf rfl c134 (Nat.le_of_ble_eq_true rfl) rfl rfl ?_
  refine go_run 0 (F' := (23, [some (.ref 134), some (.int p1), some (.int p2)], [], (List.set h 134 (mo 1 ty fa wh ch it at_ bad co de 1 st sz tp am bm mn rm sp be wo)))) rfl ?_
  refine go_run 1 (F' := (24, [some (.ref 134), some (.int p1), some (.int p2)], [.ref 134], (List.set h 134 (mo 1 ty fa wh ch it at_ bad co de 1 st sz tp am bm mn rm sp be wo)))) rfl ?_
  refine go_gf rfl (gs_self c134) rfl ?_
  refine go_run 0 (F' := (27, [some (.ref 134), some (.int p1), some (.int p2)], [.int 1], (List.set h 134 (mo 1 ty fa wh ch it at_ bad co de 1 st sz tp am bm mn rm sp be wo)))) rfl ?_
  refine go_run 2 (F' := (44, [some (.ref 134), some (.int p1), some (.int p2)], [.int 0], (List.set h 134 (mo 1 ty fa wh ch it at_ bad co de 1 st sz tp am bm mn rm sp be wo)))) rfl ?_
  exact go_end rfl rfl
set_option maxRecDepth 100000 in
theorem vm_wanted_2 {X : ie_X} {d : Nat} {h : ie_H} {p1 p2 t_ ty fa wh ch it at_ bad co de st sz tp am bm mn rm sp be wo : Int32} (c134 : h[134]? = some (mo t_ ty fa wh ch it at_ bad co de 1 st sz tp am bm mn rm sp be wo)) (q1 : ¬ (p1 < 0)) (q2 : ¬ (p1 ≤ 5)) : Go X (d + 1) 221 (0, ie_en 221 [.ref 134, .int p1, .int p2], [], h) (.inl (some (.int 0))) (List.set h 134 (mo 1 ty fa wh ch it at_ bad co de 1 st sz tp am bm mn rm sp be wo)) := by
  refine go_run 0 (F' := (0, [some (.ref 134), some (.int p1), some (.int p2)], [], h)) rfl ?_
  refine go_run 2 (F' := (2, [some (.ref 134), some (.int p1), some (.int p2)], [.int p1, .ref 134], h)) rfl ?_
  refine go_call (m' := 183) (v := some (.int 1)) (h1 := h) rfl rfl ⟨rfl, Nat.le_of_ble_eq_true rfl⟩ ?_ ?_
  · refine go_run 0 (F' := (0, [some (.int p1)], [], h)) rfl ?_
    refine go_run 1 (F' := (1, [some (.int p1)], [.int p1], h)) rfl ?_
    refine go_step rfl rfl ?_
    rw [if_neg q1]
    refine go_run 0 (F' := (4, [some (.int p1)], [], h)) rfl ?_
    refine go_run 2 (F' := (6, [some (.int p1)], [.int 5, .int p1], h)) rfl ?_
    refine go_step rfl rfl ?_
    rw [if_neg q2]
    refine go_run 0 (F' := (9, [some (.int p1)], [], h)) rfl ?_
    refine go_run 2 (F' := (14, [some (.int p1)], [.int 1], h)) rfl ?_
    exact go_end rfl rfl
  refine go_run 0 (F' := (5, [some (.ref 134), some (.int p1), some (.int p2)], [.int 1, .ref 134], h)) rfl ?_
  refine go_run 3 (F' := (20, [some (.ref 134), some (.int p1), some (.int p2)], [.int 1, .ref 134], h)) rfl ?_
  refine go_pf rfl c134 (Nat.le_of_ble_eq_true rfl) rfl rfl ?_
  refine go_run 0 (F' := (23, [some (.ref 134), some (.int p1), some (.int p2)], [], (List.set h 134 (mo 1 ty fa wh ch it at_ bad co de 1 st sz tp am bm mn rm sp be wo)))) rfl ?_
  refine go_run 1 (F' := (24, [some (.ref 134), some (.int p1), some (.int p2)], [.ref 134], (List.set h 134 (mo 1 ty fa wh ch it at_ bad co de 1 st sz tp am bm mn rm sp be wo)))) rfl ?_
  refine go_gf rfl (gs_self c134) rfl ?_
  refine go_run 0 (F' := (27, [some (.ref 134), some (.int p1), some (.int p2)], [.int 1], (List.set h 134 (mo 1 ty fa wh ch it at_ bad co de 1 st sz tp am bm mn rm sp be wo)))) rfl ?_
  refine go_run 2 (F' := (44, [some (.ref 134), some (.int p1), some (.int p2)], [.int 0], (List.set h 134 (mo 1 ty fa wh ch it at_ bad co de 1 st sz tp am bm mn rm sp be wo)))) rfl ?_
  exact go_end rfl rfl
set_option maxRecDepth 100000 in
theorem vm_wanted_3 {X : ie_X} {d : Nat} {h : ie_H} {p1 p2 t_ ty fa wh ch it at_ bad co de st sz tp am bm mn rm sp be wo : Int32} (c134 : h[134]? = some (mo t_ ty fa wh ch it at_ bad co de 1 st sz tp am bm mn rm sp be wo)) (q1 : ¬ (p1 < 0)) (q2 : p1 ≤ 5) (q3 : p2 < 0) : Go X (d + 1) 221 (0, ie_en 221 [.ref 134, .int p1, .int p2], [], h) (.inl (some (.int 0))) (List.set h 134 (mo 1 ty fa wh ch it at_ bad co de 1 st sz tp am bm mn rm sp be wo)) := by
  refine go_run 0 (F' := (0, [some (.ref 134), some (.int p1), some (.int p2)], [], h)) rfl ?_
  refine go_run 2 (F' := (2, [some (.ref 134), some (.int p1), some (.int p2)], [.int p1, .ref 134], h)) rfl ?_
  refine go_call (m' := 183) (v := some (.int 0)) (h1 := h) rfl rfl ⟨rfl, Nat.le_of_ble_eq_true rfl⟩ ?_ ?_
  · refine go_run 0 (F' := (0, [some (.int p1)], [], h)) rfl ?_
    refine go_run 1 (F' := (1, [some (.int p1)], [.int p1], h)) rfl ?_
    refine go_step rfl rfl ?_
    rw [if_neg q1]
    refine go_run 0 (F' := (4, [some (.int p1)], [], h)) rfl ?_
    refine go_run 2 (F' := (6, [some (.int p1)], [.int 5, .int p1], h)) rfl ?_
    refine go_step rfl rfl ?_
    rw [if_pos q2]
    refine go_run 0 (F' := (13, [some (.int p1)], [], h)) rfl ?_
    refine go_run 1 (F' := (14, [some (.int p1)], [.int 0], h)) rfl ?_
    exact go_end rfl rfl
  refine go_run 0 (F' := (5, [some (.ref 134), some (.int p1), some (.int p2)], [.int 0, .ref 134], h)) rfl ?_
  refine go_run 2 (F' := (9, [some (.ref 134), some (.int p1), some (.int p2)], [.int p2, .ref 134], h)) rfl ?_
  refine go_call (m' := 186) (v := some (.int 1)) (h1 := h) rfl rfl ⟨rfl, Nat.le_of_ble_eq_true rfl⟩ ?_ ?_
  · refine go_run 0 (F' := (0, [some (.int p2)], [], h)) rfl ?_
    refine go_run 1 (F' := (1, [some (.int p2)], [.int p2], h)) rfl ?_
    refine go_step rfl rfl ?_
    rw [if_pos q3]
    refine go_run 0 (F' := (9, [some (.int p2)], [], h)) rfl ?_
    refine go_run 2 (F' := (14, [some (.int p2)], [.int 1], h)) rfl ?_
    exact go_end rfl rfl
  refine go_run 0 (F' := (12, [some (.ref 134), some (.int p1), some (.int p2)], [.int 1, .ref 134], h)) rfl ?_
  refine go_run 3 (F' := (20, [some (.ref 134), some (.int p1), some (.int p2)], [.int 1, .ref 134], h)) rfl ?_
  refine go_pf rfl c134 (Nat.le_of_ble_eq_true rfl) rfl rfl ?_
  refine go_run 0 (F' := (23, [some (.ref 134), some (.int p1), some (.int p2)], [], (List.set h 134 (mo 1 ty fa wh ch it at_ bad co de 1 st sz tp am bm mn rm sp be wo)))) rfl ?_
  refine go_run 1 (F' := (24, [some (.ref 134), some (.int p1), some (.int p2)], [.ref 134], (List.set h 134 (mo 1 ty fa wh ch it at_ bad co de 1 st sz tp am bm mn rm sp be wo)))) rfl ?_
  refine go_gf rfl (gs_self c134) rfl ?_
  refine go_run 0 (F' := (27, [some (.ref 134), some (.int p1), some (.int p2)], [.int 1], (List.set h 134 (mo 1 ty fa wh ch it at_ bad co de 1 st sz tp am bm mn rm sp be wo)))) rfl ?_
  refine go_run 2 (F' := (44, [some (.ref 134), some (.int p1), some (.int p2)], [.int 0], (List.set h 134 (mo 1 ty fa wh ch it at_ bad co de 1 st sz tp am bm mn rm sp be wo)))) rfl ?_
  exact go_end rfl rfl
set_option maxRecDepth 100000 in
theorem vm_wanted_4 {X : ie_X} {d : Nat} {h : ie_H} {p1 p2 t_ ty fa wh ch it at_ bad co de st sz tp am bm mn rm sp be wo : Int32} {f169 : Nat → Int32} (c134 : h[134]? = some (mo t_ ty fa wh ch it at_ bad co de 1 st sz tp am bm mn rm sp be wo)) (c169 : h[169]? = some (.inl (0, 24, .inl f169))) (q1 : ¬ (p1 < 0)) (q2 : p1 ≤ 5) (q3 : ¬ (p2 < 0)) (q4 : p2 ≤ 3) (b_4 : 0 ≤ Int32.toInt ((4 * p1) + p2) ∧ Int32.toInt ((4 * p1) + p2) < (24 : Int)) : Go X (d + 1) 221 (0, ie_en 221 [.ref 134, .int p1, .int p2], [], h) (.inl (some (.int (f169 (Int32.toNatClampNeg ((4 * p1) + p2)))))) (List.set h 134 (mo 0 ty fa wh ch it at_ bad co de 1 st sz tp am bm mn rm sp be wo)) := by
  refine go_run 0 (F' := (0, [some (.ref 134), some (.int p1), some (.int p2)], [], h)) rfl ?_
  refine go_run 2 (F' := (2, [some (.ref 134), some (.int p1), some (.int p2)], [.int p1, .ref 134], h)) rfl ?_
  refine go_call (m' := 183) (v := some (.int 0)) (h1 := h) rfl rfl ⟨rfl, Nat.le_of_ble_eq_true rfl⟩ ?_ ?_
  · refine go_run 0 (F' := (0, [some (.int p1)], [], h)) rfl ?_
    refine go_run 1 (F' := (1, [some (.int p1)], [.int p1], h)) rfl ?_
    refine go_step rfl rfl ?_
    rw [if_neg q1]
    refine go_run 0 (F' := (4, [some (.int p1)], [], h)) rfl ?_
    refine go_run 2 (F' := (6, [some (.int p1)], [.int 5, .int p1], h)) rfl ?_
    refine go_step rfl rfl ?_
    rw [if_pos q2]
    refine go_run 0 (F' := (13, [some (.int p1)], [], h)) rfl ?_
    refine go_run 1 (F' := (14, [some (.int p1)], [.int 0], h)) rfl ?_
    exact go_end rfl rfl
  refine go_run 0 (F' := (5, [some (.ref 134), some (.int p1), some (.int p2)], [.int 0, .ref 134], h)) rfl ?_
  refine go_run 2 (F' := (9, [some (.ref 134), some (.int p1), some (.int p2)], [.int p2, .ref 134], h)) rfl ?_
  refine go_call (m' := 186) (v := some (.int 0)) (h1 := h) rfl rfl ⟨rfl, Nat.le_of_ble_eq_true rfl⟩ ?_ ?_
  · refine go_run 0 (F' := (0, [some (.int p2)], [], h)) rfl ?_
    refine go_run 1 (F' := (1, [some (.int p2)], [.int p2], h)) rfl ?_
    refine go_step rfl rfl ?_
    rw [if_neg q3]
    refine go_run 0 (F' := (4, [some (.int p2)], [], h)) rfl ?_
    refine go_run 2 (F' := (6, [some (.int p2)], [.int 3, .int p2], h)) rfl ?_
    refine go_step rfl rfl ?_
    rw [if_pos q4]
    refine go_run 0 (F' := (13, [some (.int p2)], [], h)) rfl ?_
    refine go_run 1 (F' := (14, [some (.int p2)], [.int 0], h)) rfl ?_
    exact go_end rfl rfl
  refine go_run 0 (F' := (12, [some (.ref 134), some (.int p1), some (.int p2)], [.int 0, .ref 134], h)) rfl ?_
  refine go_run 2 (F' := (20, [some (.ref 134), some (.int p1), some (.int p2)], [.int 0, .ref 134], h)) rfl ?_
  refine go_pf rfl c134 (Nat.le_of_ble_eq_true rfl) rfl rfl ?_
  refine go_run 0 (F' := (23, [some (.ref 134), some (.int p1), some (.int p2)], [], (List.set h 134 (mo 0 ty fa wh ch it at_ bad co de 1 st sz tp am bm mn rm sp be wo)))) rfl ?_
  refine go_run 1 (F' := (24, [some (.ref 134), some (.int p1), some (.int p2)], [.ref 134], (List.set h 134 (mo 0 ty fa wh ch it at_ bad co de 1 st sz tp am bm mn rm sp be wo)))) rfl ?_
  refine go_gf rfl (gs_self c134) rfl ?_
  refine go_run 0 (F' := (27, [some (.ref 134), some (.int p1), some (.int p2)], [.int 0], (List.set h 134 (mo 0 ty fa wh ch it at_ bad co de 1 st sz tp am bm mn rm sp be wo)))) rfl ?_
  refine go_run 2 (F' := (31, [some (.ref 134), some (.int p1), some (.int p2)], [.ref 134], (List.set h 134 (mo 0 ty fa wh ch it at_ bad co de 1 st sz tp am bm mn rm sp be wo)))) rfl ?_
  refine go_gf rfl (gs_self c134) rfl ?_
  refine go_run 0 (F' := (34, [some (.ref 134), some (.int p1), some (.int p2)], [.ref 169], (List.set h 134 (mo 0 ty fa wh ch it at_ bad co de 1 st sz tp am bm mn rm sp be wo)))) rfl ?_
  refine go_run 5 (F' := (39, [some (.ref 134), some (.int p1), some (.int p2)], [.int ((4 * p1) + p2), .ref 169], (List.set h 134 (mo 0 ty fa wh ch it at_ bad co de 1 st sz tp am bm mn rm sp be wo)))) rfl ?_
  refine go_iald rfl (by decide) (gs_ne (by decide) c169) b_4 rfl ?_
  refine go_run 0 (F' := (40, [some (.ref 134), some (.int p1), some (.int p2)], [.int (f169 (Int32.toNatClampNeg ((4 * p1) + p2)))], (List.set h 134 (mo 0 ty fa wh ch it at_ bad co de 1 st sz tp am bm mn rm sp be wo)))) rfl ?_
  refine go_run 1 (F' := (44, [some (.ref 134), some (.int p1), some (.int p2)], [.int (f169 (Int32.toNatClampNeg ((4 * p1) + p2)))], (List.set h 134 (mo 0 ty fa wh ch it at_ bad co de 1 st sz tp am bm mn rm sp be wo)))) rfl ?_
  exact go_end rfl rfl
set_option maxRecDepth 100000 in
theorem vm_wanted_5 {X : ie_X} {d : Nat} {h : ie_H} {p1 p2 t_ ty fa wh ch it at_ bad co de st sz tp am bm mn rm sp be wo : Int32} (c134 : h[134]? = some (mo t_ ty fa wh ch it at_ bad co de 1 st sz tp am bm mn rm sp be wo)) (q1 : ¬ (p1 < 0)) (q2 : p1 ≤ 5) (q3 : ¬ (p2 < 0)) (q4 : ¬ (p2 ≤ 3)) : Go X (d + 1) 221 (0, ie_en 221 [.ref 134, .int p1, .int p2], [], h) (.inl (some (.int 0))) (List.set h 134 (mo 1 ty fa wh ch it at_ bad co de 1 st sz tp am bm mn rm sp be wo)) := by
  refine go_run 0 (F' := (0, [some (.ref 134), some (.int p1), some (.int p2)], [], h)) rfl ?_
  refine go_run 2 (F' := (2, [some (.ref 134), some (.int p1), some (.int p2)], [.int p1, .ref 134], h)) rfl ?_
  refine go_call (m' := 183) (v := some (.int 0)) (h1 := h) rfl rfl ⟨rfl, Nat.le_of_ble_eq_true rfl⟩ ?_ ?_
  · refine go_run 0 (F' := (0, [some (.int p1)], [], h)) rfl ?_
    refine go_run 1 (F' := (1, [some (.int p1)], [.int p1], h)) rfl ?_
    refine go_step rfl rfl ?_
    rw [if_neg q1]
    refine go_run 0 (F' := (4, [some (.int p1)], [], h)) rfl ?_
    refine go_run 2 (F' := (6, [some (.int p1)], [.int 5, .int p1], h)) rfl ?_
    refine go_step rfl rfl ?_
    rw [if_pos q2]
    refine go_run 0 (F' := (13, [some (.int p1)], [], h)) rfl ?_
    refine go_run 1 (F' := (14, [some (.int p1)], [.int 0], h)) rfl ?_
    exact go_end rfl rfl
  refine go_run 0 (F' := (5, [some (.ref 134), some (.int p1), some (.int p2)], [.int 0, .ref 134], h)) rfl ?_
  refine go_run 2 (F' := (9, [some (.ref 134), some (.int p1), some (.int p2)], [.int p2, .ref 134], h)) rfl ?_
  refine go_call (m' := 186) (v := some (.int 1)) (h1 := h) rfl rfl ⟨rfl, Nat.le_of_ble_eq_true rfl⟩ ?_ ?_
  · refine go_run 0 (F' := (0, [some (.int p2)], [], h)) rfl ?_
    refine go_run 1 (F' := (1, [some (.int p2)], [.int p2], h)) rfl ?_
    refine go_step rfl rfl ?_
    rw [if_neg q3]
    refine go_run 0 (F' := (4, [some (.int p2)], [], h)) rfl ?_
    refine go_run 2 (F' := (6, [some (.int p2)], [.int 3, .int p2], h)) rfl ?_
    refine go_step rfl rfl ?_
    rw [if_neg q4]
    refine go_run 0 (F' := (9, [some (.int p2)], [], h)) rfl ?_
    refine go_run 2 (F' := (14, [some (.int p2)], [.int 1], h)) rfl ?_
    exact go_end rfl rfl
  refine go_run 0 (F' := (12, [some (.ref 134), some (.int p1), some (.int p2)], [.int 1, .ref 134], h)) rfl ?_
  refine go_run 3 (F' := (20, [some (.ref 134), some (.int p1), some (.int p2)], [.int 1, .ref 134], h)) rfl ?_
  refine go_pf rfl c134 (Nat.le_of_ble_eq_true rfl) rfl rfl ?_
  refine go_run 0 (F' := (23, [some (.ref 134), some (.int p1), some (.int p2)], [], (List.set h 134 (mo 1 ty fa wh ch it at_ bad co de 1 st sz tp am bm mn rm sp be wo)))) rfl ?_
  refine go_run 1 (F' := (24, [some (.ref 134), some (.int p1), some (.int p2)], [.ref 134], (List.set h 134 (mo 1 ty fa wh ch it at_ bad co de 1 st sz tp am bm mn rm sp be wo)))) rfl ?_
  refine go_gf rfl (gs_self c134) rfl ?_
  refine go_run 0 (F' := (27, [some (.ref 134), some (.int p1), some (.int p2)], [.int 1], (List.set h 134 (mo 1 ty fa wh ch it at_ bad co de 1 st sz tp am bm mn rm sp be wo)))) rfl ?_
  refine go_run 2 (F' := (44, [some (.ref 134), some (.int p1), some (.int p2)], [.int 0], (List.set h 134 (mo 1 ty fa wh ch it at_ bad co de 1 st sz tp am bm mn rm sp be wo)))) rfl ?_
  exact go_end rfl rfl
set_option maxRecDepth 100000 in
theorem vc_room_1 {X : ie_X} {d : Nat} {h : ie_H} {p1 nl cf cw : Int32} {pl : Nat} (c0 : h[0]? = some (.inr (0, [.ref 1, .int nl, .int cf, .int cw, .ref pl, .ref 2, .ref 133]))) (q1 : p1 < 1) : Go X (d + 1) 89 (0, ie_en 89 [.ref 0, .int p1], [], h) (.inl (some (.int 1))) (h ++ [.inr (11, [])]) := by
  refine go_run 0 (F' := (0, [some (.ref 0), some (.int p1), none], [], h)) rfl ?_
  refine go_run 2 (F' := (2, [some (.ref 0), some (.int p1), none], [.int p1, .ref 0], h)) rfl ?_
  refine go_catch (m' := 90) (ci := 11) (h1 := (h ++ [.inr (11, [])])) rfl (by simp only [ie_step, ie_iv, List.drop, c0, if_true]; rfl) ⟨rfl, Nat.le_of_ble_eq_true rfl⟩ rfl rfl rfl ?_ ?_
  · refine go_run 0 (F' := (0, [some (.ref 0), some (.int p1)], [], h)) rfl ?_
    refine go_run 2 (F' := (2, [some (.ref 0), some (.int p1)], [.int 1, .int p1], h)) rfl ?_
    refine go_step rfl rfl ?_
    rw [if_pos q1]
    refine go_run 0 (F' := (11, [some (.ref 0), some (.int p1)], [], h)) rfl ?_
    exact go_end rfl rfl
  refine go_run 0 (F' := (9, [some (.ref 0), some (.int p1), none], [], (h ++ [.inr (11, [])]))) rfl ?_
  refine go_run 1 (F' := (10, [some (.ref 0), some (.int p1), none], [.int 1], (h ++ [.inr (11, [])]))) rfl ?_
  exact go_end rfl rfl
set_option maxRecDepth 100000 in
theorem vc_room_2 {X : ie_X} {d : Nat} {h : ie_H} {p1 nl cf cw : Int32} {pl : Nat} (c0 : h[0]? = some (.inr (0, [.ref 1, .int nl, .int cf, .int cw, .ref pl, .ref 2, .ref 133]))) (q1 : ¬ (p1 < 1)) (q2 : ¬ (p1 ≤ 8)) : Go X (d + 1) 89 (0, ie_en 89 [.ref 0, .int p1], [], h) (.inl (some (.int 1))) (h ++ [.inr (11, [])]) := by
  refine go_run 0 (F' := (0, [some (.ref 0), some (.int p1), none], [], h)) rfl ?_
  refine go_run 2 (F' := (2, [some (.ref 0), some (.int p1), none], [.int p1, .ref 0], h)) rfl ?_
  refine go_catch (m' := 90) (ci := 11) (h1 := (h ++ [.inr (11, [])])) rfl (by simp only [ie_step, ie_iv, List.drop, c0, if_true]; rfl) ⟨rfl, Nat.le_of_ble_eq_true rfl⟩ rfl rfl rfl ?_ ?_
  · refine go_run 0 (F' := (0, [some (.ref 0), some (.int p1)], [], h)) rfl ?_
    refine go_run 2 (F' := (2, [some (.ref 0), some (.int p1)], [.int 1, .int p1], h)) rfl ?_
    refine go_step rfl rfl ?_
    rw [if_neg q1]
    refine go_run 0 (F' := (5, [some (.ref 0), some (.int p1)], [], h)) rfl ?_
    refine go_run 2 (F' := (8, [some (.ref 0), some (.int p1)], [.int 8, .int p1], h)) rfl ?_
    refine go_step rfl rfl ?_
    rw [if_neg q2]
    refine go_run 0 (F' := (11, [some (.ref 0), some (.int p1)], [], h)) rfl ?_
    exact go_end rfl rfl
  refine go_run 0 (F' := (9, [some (.ref 0), some (.int p1), none], [], (h ++ [.inr (11, [])]))) rfl ?_
  refine go_run 1 (F' := (10, [some (.ref 0), some (.int p1), none], [.int 1], (h ++ [.inr (11, [])]))) rfl ?_
  exact go_end rfl rfl
set_option maxRecDepth 100000 in
theorem vc_room_3 {X : ie_X} {d : Nat} {h : ie_H} {p1 nl cf cw crm csp : Int32} {pl : Nat} (c0 : h[0]? = some (.inr (0, [.ref 1, .int nl, .int cf, .int cw, .ref pl, .ref 2, .ref 133]))) (c2 : h[2]? = some (.inr (8, [.ref 3, .ref 4, .ref 5, .ref 6, .int crm, .int csp]))) (q1 : ¬ (p1 < 1)) (q2 : p1 ≤ 8) (q3 : csp = 0) : Go X (d + 2) 89 (0, ie_en 89 [.ref 0, .int p1], [], h) (.inl (some (.int 0))) (List.set h 2 (.inr (8, [.ref 3, .ref 4, .ref 5, .ref 6, .int p1, .int csp]))) := by
  refine go_run 0 (F' := (0, [some (.ref 0), some (.int p1), none], [], h)) rfl ?_
  refine go_run 2 (F' := (2, [some (.ref 0), some (.int p1), none], [.int p1, .ref 0], h)) rfl ?_
  refine go_call (m' := 90) (v := none) (h1 := (List.set h 2 (.inr (8, [.ref 3, .ref 4, .ref 5, .ref 6, .int p1, .int csp])))) rfl (by simp only [ie_step, ie_iv, List.drop, c0, if_true]; rfl) ⟨rfl, Nat.le_of_ble_eq_true rfl⟩ ?_ ?_
  · refine go_run 0 (F' := (0, [some (.ref 0), some (.int p1)], [], h)) rfl ?_
    refine go_run 2 (F' := (2, [some (.ref 0), some (.int p1)], [.int 1, .int p1], h)) rfl ?_
    refine go_step rfl rfl ?_
    rw [if_neg q1]
    refine go_run 0 (F' := (5, [some (.ref 0), some (.int p1)], [], h)) rfl ?_
    refine go_run 2 (F' := (8, [some (.ref 0), some (.int p1)], [.int 8, .int p1], h)) rfl ?_
    refine go_step rfl rfl ?_
    rw [if_pos q2]
    refine go_run 0 (F' := (19, [some (.ref 0), some (.int p1)], [], h)) rfl ?_
    refine go_run 1 (F' := (20, [some (.ref 0), some (.int p1)], [.ref 0], h)) rfl ?_
    refine go_call (m' := 87) (v := none) (h1 := h) rfl (by simp only [ie_step, ie_iv, List.drop, c0, if_true]; rfl) ⟨rfl, Nat.le_of_ble_eq_true rfl⟩ ?_ ?_
    · refine go_run 0 (F' := (0, [some (.ref 0)], [], h)) rfl ?_
      refine go_run 1 (F' := (1, [some (.ref 0)], [.ref 0], h)) rfl ?_
      refine go_gf rfl c0 rfl ?_
      refine go_run 0 (F' := (4, [some (.ref 0)], [.ref pl], h)) rfl ?_
      refine go_run 2 (F' := (8, [some (.ref 0)], [.ref 0], h)) rfl ?_
      refine go_gf rfl c0 rfl ?_
      refine go_run 0 (F' := (11, [some (.ref 0)], [.ref 2], h)) rfl ?_
      refine go_gf rfl c2 rfl ?_
      refine go_run 0 (F' := (14, [some (.ref 0)], [.int csp], h)) rfl ?_
      refine go_step rfl rfl ?_
      rw [if_pos q3]
      refine go_run 0 (F' := (25, [some (.ref 0)], [], h)) rfl ?_
      exact go_end rfl rfl
    refine go_run 0 (F' := (23, [some (.ref 0), some (.int p1)], [], h)) rfl ?_
    refine go_run 1 (F' := (24, [some (.ref 0), some (.int p1)], [.ref 0], h)) rfl ?_
    refine go_gf rfl c0 rfl ?_
    refine go_run 0 (F' := (27, [some (.ref 0), some (.int p1)], [.ref 2], h)) rfl ?_
    refine go_run 1 (F' := (28, [some (.ref 0), some (.int p1)], [.int p1, .ref 2], h)) rfl ?_
    refine go_pf rfl c2 (Nat.le_of_ble_eq_true rfl) rfl rfl ?_
    refine go_run 0 (F' := (31, [some (.ref 0), some (.int p1)], [], (List.set h 2 (.inr (8, [.ref 3, .ref 4, .ref 5, .ref 6, .int p1, .int csp]))))) rfl ?_
    exact go_end rfl rfl
  refine go_run 0 (F' := (5, [some (.ref 0), some (.int p1), none], [], (List.set h 2 (.inr (8, [.ref 3, .ref 4, .ref 5, .ref 6, .int p1, .int csp]))))) rfl ?_
  refine go_run 2 (F' := (15, [some (.ref 0), some (.int p1), none], [.int 0], (List.set h 2 (.inr (8, [.ref 3, .ref 4, .ref 5, .ref 6, .int p1, .int csp]))))) rfl ?_
  exact go_end rfl rfl
set_option maxRecDepth 100000 in
theorem vc_room_4 {X : ie_X} {d : Nat} {h : ie_H} {p1 nl cf cw crm csp : Int32} {pl : Nat} (c0 : h[0]? = some (.inr (0, [.ref 1, .int nl, .int cf, .int cw, .ref pl, .ref 2, .ref 133]))) (c2 : h[2]? = some (.inr (8, [.ref 3, .ref 4, .ref 5, .ref 6, .int crm, .int csp]))) (q1 : ¬ (p1 < 1)) (q2 : p1 ≤ 8) (q3 : ¬ (csp = 0)) : Go X (d + 2) 89 (0, ie_en 89 [.ref 0, .int p1], [], h) (.inl (some (.int 2))) (h ++ [.inr (12, [])]) := by
  refine go_run 0 (F' := (0, [some (.ref 0), some (.int p1), none], [], h)) rfl ?_
  refine go_run 2 (F' := (2, [some (.ref 0), some (.int p1), none], [.int p1, .ref 0], h)) rfl ?_
  refine go_catch (m' := 90) (ci := 12) (h1 := (h ++ [.inr (12, [])])) rfl (by simp only [ie_step, ie_iv, List.drop, c0, if_true]; rfl) ⟨rfl, Nat.le_of_ble_eq_true rfl⟩ rfl rfl rfl ?_ ?_
  · refine go_run 0 (F' := (0, [some (.ref 0), some (.int p1)], [], h)) rfl ?_
    refine go_run 2 (F' := (2, [some (.ref 0), some (.int p1)], [.int 1, .int p1], h)) rfl ?_
    refine go_step rfl rfl ?_
    rw [if_neg q1]
    refine go_run 0 (F' := (5, [some (.ref 0), some (.int p1)], [], h)) rfl ?_
    refine go_run 2 (F' := (8, [some (.ref 0), some (.int p1)], [.int 8, .int p1], h)) rfl ?_
    refine go_step rfl rfl ?_
    rw [if_pos q2]
    refine go_run 0 (F' := (19, [some (.ref 0), some (.int p1)], [], h)) rfl ?_
    refine go_run 1 (F' := (20, [some (.ref 0), some (.int p1)], [.ref 0], h)) rfl ?_
    refine go_out (m' := 87) rfl (by simp only [ie_step, ie_iv, List.drop, c0, if_true]; rfl) ⟨rfl, Nat.le_of_ble_eq_true rfl⟩ rfl rfl ?_
    · refine go_run 0 (F' := (0, [some (.ref 0)], [], h)) rfl ?_
      refine go_run 1 (F' := (1, [some (.ref 0)], [.ref 0], h)) rfl ?_
      refine go_gf rfl c0 rfl ?_
      refine go_run 0 (F' := (4, [some (.ref 0)], [.ref pl], h)) rfl ?_
      refine go_run 2 (F' := (8, [some (.ref 0)], [.ref 0], h)) rfl ?_
      refine go_gf rfl c0 rfl ?_
      refine go_run 0 (F' := (11, [some (.ref 0)], [.ref 2], h)) rfl ?_
      refine go_gf rfl c2 rfl ?_
      refine go_run 0 (F' := (14, [some (.ref 0)], [.int csp], h)) rfl ?_
      refine go_step rfl rfl ?_
      rw [if_neg q3]
      refine go_run 0 (F' := (17, [some (.ref 0)], [], h)) rfl ?_
      exact go_end rfl rfl
  refine go_run 0 (F' := (12, [some (.ref 0), some (.int p1), none], [], (h ++ [.inr (12, [])]))) rfl ?_
  refine go_run 1 (F' := (13, [some (.ref 0), some (.int p1), none], [.int 2], (h ++ [.inr (12, [])]))) rfl ?_
  exact go_end rfl rfl
set_option maxRecDepth 100000 in
theorem vm_room_1 {X : ie_X} {d : Nat} {h : ie_H} {p1 t_ ty fa wh ch it at_ bad co de st sz tp am bm mn rm sp be wo : Int32} (c134 : h[134]? = some (mo t_ ty fa wh ch it at_ bad co de 1 st sz tp am bm mn rm sp be wo)) (q1 : p1 < 1) : Go X (d) 187 (0, ie_en 187 [.ref 134, .int p1], [], h) (.inl none) (List.set h 134 (mo 1 ty fa wh ch it at_ bad co de 1 st sz tp am bm mn rm sp be wo)) := by
  refine go_run 0 (F' := (0, [some (.ref 134), some (.int p1)], [], h)) rfl ?_
  refine go_run 3 (F' := (3, [some (.ref 134), some (.int p1)], [.int 1, .int p1, .ref 134], h)) rfl ?_
  refine go_step rfl rfl ?_
  rw [if_pos q1]
  refine go_run 0 (F' := (12, [some (.ref 134), some (.int p1)], [.ref 134], h)) rfl ?_
  refine go_run 2 (F' := (35, [some (.ref 134), some (.int p1)], [.int 1, .ref 134], h)) rfl ?_
  refine go_pf rfl c134 (Nat.le_of_ble_eq_true rfl) rfl rfl ?_
  refine go_run 0 (F' := (38, [some (.ref 134), some (.int p1)], [], (List.set h 134 (mo 1 ty fa wh ch it at_ bad co de 1 st sz tp am bm mn rm sp be wo)))) rfl ?_
  refine go_run 1 (F' := (39, [some (.ref 134), some (.int p1)], [.ref 134], (List.set h 134 (mo 1 ty fa wh ch it at_ bad co de 1 st sz tp am bm mn rm sp be wo)))) rfl ?_
  refine go_gf rfl (gs_self c134) rfl ?_
  refine go_run 0 (F' := (42, [some (.ref 134), some (.int p1)], [.int 1], (List.set h 134 (mo 1 ty fa wh ch it at_ bad co de 1 st sz tp am bm mn rm sp be wo)))) rfl ?_
  refine go_run 1 (F' := (50, [some (.ref 134), some (.int p1)], [], (List.set h 134 (mo 1 ty fa wh ch it at_ bad co de 1 st sz tp am bm mn rm sp be wo)))) rfl ?_
  exact go_end rfl rfl
set_option maxRecDepth 100000 in
theorem vm_room_2 {X : ie_X} {d : Nat} {h : ie_H} {p1 t_ ty fa wh ch it at_ bad co de st sz tp am bm mn rm sp be wo : Int32} (c134 : h[134]? = some (mo t_ ty fa wh ch it at_ bad co de 1 st sz tp am bm mn rm sp be wo)) (q1 : ¬ (p1 < 1)) (q2 : ¬ (p1 ≤ 8)) : Go X (d) 187 (0, ie_en 187 [.ref 134, .int p1], [], h) (.inl none) (List.set h 134 (mo 1 ty fa wh ch it at_ bad co de 1 st sz tp am bm mn rm sp be wo)) := by
  refine go_run 0 (F' := (0, [some (.ref 134), some (.int p1)], [], h)) rfl ?_
  refine go_run 3 (F' := (3, [some (.ref 134), some (.int p1)], [.int 1, .int p1, .ref 134], h)) rfl ?_
  refine go_step rfl rfl ?_
  rw [if_neg q1]
  refine go_run 0 (F' := (6, [some (.ref 134), some (.int p1)], [.ref 134], h)) rfl ?_
  refine go_run 2 (F' := (9, [some (.ref 134), some (.int p1)], [.int 8, .int p1, .ref 134], h)) rfl ?_
  refine go_step rfl rfl ?_
  rw [if_neg q2]
  refine go_run 0 (F' := (12, [some (.ref 134), some (.int p1)], [.ref 134], h)) rfl ?_
  refine go_run 2 (F' := (35, [some (.ref 134), some (.int p1)], [.int 1, .ref 134], h)) rfl ?_
  refine go_pf rfl c134 (Nat.le_of_ble_eq_true rfl) rfl rfl ?_
  refine go_run 0 (F' := (38, [some (.ref 134), some (.int p1)], [], (List.set h 134 (mo 1 ty fa wh ch it at_ bad co de 1 st sz tp am bm mn rm sp be wo)))) rfl ?_
  refine go_run 1 (F' := (39, [some (.ref 134), some (.int p1)], [.ref 134], (List.set h 134 (mo 1 ty fa wh ch it at_ bad co de 1 st sz tp am bm mn rm sp be wo)))) rfl ?_
  refine go_gf rfl (gs_self c134) rfl ?_
  refine go_run 0 (F' := (42, [some (.ref 134), some (.int p1)], [.int 1], (List.set h 134 (mo 1 ty fa wh ch it at_ bad co de 1 st sz tp am bm mn rm sp be wo)))) rfl ?_
  refine go_run 1 (F' := (50, [some (.ref 134), some (.int p1)], [], (List.set h 134 (mo 1 ty fa wh ch it at_ bad co de 1 st sz tp am bm mn rm sp be wo)))) rfl ?_
  exact go_end rfl rfl
set_option maxRecDepth 100000 in
theorem vm_room_3 {X : ie_X} {d : Nat} {h : ie_H} {p1 t_ ty fa wh ch it at_ bad co de st sz tp am bm mn rm sp be wo : Int32} (c134 : h[134]? = some (mo t_ ty fa wh ch it at_ bad co de 1 st sz tp am bm mn rm sp be wo)) (q1 : ¬ (p1 < 1)) (q2 : p1 ≤ 8) (q3 : sp = 0) : Go X (d) 187 (0, ie_en 187 [.ref 134, .int p1], [], h) (.inl none) (List.set (List.set h 134 (mo 0 ty fa wh ch it at_ bad co de 1 st sz tp am bm mn rm sp be wo)) 134 (mo 0 ty fa wh ch it at_ bad co de 1 st sz tp am bm mn p1 sp be wo)) := by
  refine go_run 0 (F' := (0, [some (.ref 134), some (.int p1)], [], h)) rfl ?_
  refine go_run 3 (F' := (3, [some (.ref 134), some (.int p1)], [.int 1, .int p1, .ref 134], h)) rfl ?_
  refine go_step rfl rfl ?_
  rw [if_neg q1]
  refine go_run 0 (F' := (6, [some (.ref 134), some (.int p1)], [.ref 134], h)) rfl ?_
  refine go_run 2 (F' := (9, [some (.ref 134), some (.int p1)], [.int 8, .int p1, .ref 134], h)) rfl ?_
  refine go_step rfl rfl ?_
  rw [if_pos q2]
  refine go_run 0 (F' := (16, [some (.ref 134), some (.int p1)], [.ref 134], h)) rfl ?_
  refine go_run 1 (F' := (17, [some (.ref 134), some (.int p1)], [.ref 134, .ref 134], h)) rfl ?_
  refine go_gf rfl c134 rfl ?_
  refine go_run 0 (F' := (20, [some (.ref 134), some (.int p1)], [.int 1, .ref 134], h)) rfl ?_
  refine go_run 2 (F' := (24, [some (.ref 134), some (.int p1)], [.ref 134, .ref 134], h)) rfl ?_
  refine go_gf rfl c134 rfl ?_
  refine go_run 0 (F' := (27, [some (.ref 134), some (.int p1)], [.int sp, .ref 134], h)) rfl ?_
  refine go_step rfl rfl ?_
  rw [if_pos q3]
  refine go_run 0 (F' := (34, [some (.ref 134), some (.int p1)], [.ref 134], h)) rfl ?_
  refine go_run 1 (F' := (35, [some (.ref 134), some (.int p1)], [.int 0, .ref 134], h)) rfl ?_
  refine go_pf rfl c134 (Nat.le_of_ble_eq_true rfl) rfl rfl ?_
  refine go_run 0 (F' := (38, [some (.ref 134), some (.int p1)], [], (List.set h 134 (mo 0 ty fa wh ch it at_ bad co de 1 st sz tp am bm mn rm sp be wo)))) rfl ?_
  refine go_run 1 (F' := (39, [some (.ref 134), some (.int p1)], [.ref 134], (List.set h 134 (mo 0 ty fa wh ch it at_ bad co de 1 st sz tp am bm mn rm sp be wo)))) rfl ?_
  refine go_gf rfl (gs_self c134) rfl ?_
  refine go_run 0 (F' := (42, [some (.ref 134), some (.int p1)], [.int 0], (List.set h 134 (mo 0 ty fa wh ch it at_ bad co de 1 st sz tp am bm mn rm sp be wo)))) rfl ?_
  refine go_run 3 (F' := (47, [some (.ref 134), some (.int p1)], [.int p1, .ref 134], (List.set h 134 (mo 0 ty fa wh ch it at_ bad co de 1 st sz tp am bm mn rm sp be wo)))) rfl ?_
  refine go_pf rfl (gs_self c134) (Nat.le_of_ble_eq_true rfl) rfl rfl ?_
  refine go_run 0 (F' := (50, [some (.ref 134), some (.int p1)], [], (List.set (List.set h 134 (mo 0 ty fa wh ch it at_ bad co de 1 st sz tp am bm mn rm sp be wo)) 134 (mo 0 ty fa wh ch it at_ bad co de 1 st sz tp am bm mn p1 sp be wo)))) rfl ?_
  exact go_end rfl rfl
set_option maxRecDepth 100000 in
theorem vm_room_4 {X : ie_X} {d : Nat} {h : ie_H} {p1 t_ ty fa wh ch it at_ bad co de st sz tp am bm mn rm sp be wo : Int32} (c134 : h[134]? = some (mo t_ ty fa wh ch it at_ bad co de 1 st sz tp am bm mn rm sp be wo)) (q1 : ¬ (p1 < 1)) (q2 : p1 ≤ 8) (q3 : ¬ (sp = 0)) : Go X (d) 187 (0, ie_en 187 [.ref 134, .int p1], [], h) (.inl none) (List.set h 134 (mo 2 ty fa wh ch it at_ bad co de 1 st sz tp am bm mn rm sp be wo)) := by
  refine go_run 0 (F' := (0, [some (.ref 134), some (.int p1)], [], h)) rfl ?_
  refine go_run 3 (F' := (3, [some (.ref 134), some (.int p1)], [.int 1, .int p1, .ref 134], h)) rfl ?_
  refine go_step rfl rfl ?_
  rw [if_neg q1]
  refine go_run 0 (F' := (6, [some (.ref 134), some (.int p1)], [.ref 134], h)) rfl ?_
  refine go_run 2 (F' := (9, [some (.ref 134), some (.int p1)], [.int 8, .int p1, .ref 134], h)) rfl ?_
  refine go_step rfl rfl ?_
  rw [if_pos q2]
  refine go_run 0 (F' := (16, [some (.ref 134), some (.int p1)], [.ref 134], h)) rfl ?_
  refine go_run 1 (F' := (17, [some (.ref 134), some (.int p1)], [.ref 134, .ref 134], h)) rfl ?_
  refine go_gf rfl c134 rfl ?_
  refine go_run 0 (F' := (20, [some (.ref 134), some (.int p1)], [.int 1, .ref 134], h)) rfl ?_
  refine go_run 2 (F' := (24, [some (.ref 134), some (.int p1)], [.ref 134, .ref 134], h)) rfl ?_
  refine go_gf rfl c134 rfl ?_
  refine go_run 0 (F' := (27, [some (.ref 134), some (.int p1)], [.int sp, .ref 134], h)) rfl ?_
  refine go_step rfl rfl ?_
  rw [if_neg q3]
  refine go_run 0 (F' := (30, [some (.ref 134), some (.int p1)], [.ref 134], h)) rfl ?_
  refine go_run 2 (F' := (35, [some (.ref 134), some (.int p1)], [.int 2, .ref 134], h)) rfl ?_
  refine go_pf rfl c134 (Nat.le_of_ble_eq_true rfl) rfl rfl ?_
  refine go_run 0 (F' := (38, [some (.ref 134), some (.int p1)], [], (List.set h 134 (mo 2 ty fa wh ch it at_ bad co de 1 st sz tp am bm mn rm sp be wo)))) rfl ?_
  refine go_run 1 (F' := (39, [some (.ref 134), some (.int p1)], [.ref 134], (List.set h 134 (mo 2 ty fa wh ch it at_ bad co de 1 st sz tp am bm mn rm sp be wo)))) rfl ?_
  refine go_gf rfl (gs_self c134) rfl ?_
  refine go_run 0 (F' := (42, [some (.ref 134), some (.int p1)], [.int 2], (List.set h 134 (mo 2 ty fa wh ch it at_ bad co de 1 st sz tp am bm mn rm sp be wo)))) rfl ?_
  refine go_run 1 (F' := (50, [some (.ref 134), some (.int p1)], [], (List.set h 134 (mo 2 ty fa wh ch it at_ bad co de 1 st sz tp am bm mn rm sp be wo)))) rfl ?_
  exact go_end rfl rfl
