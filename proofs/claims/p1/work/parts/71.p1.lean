theorem hp_00 : hp_0[0]? = some (.inr (0, [.ref 1, .int (Int32.ofNat 0), .int (-1), .int (-1), .null, .ref 2, .ref 133])) := rfl
theorem hp_01 : hp_0[1]? = some (.inl (1, 200, .inl (fun _ => 0))) := rfl
theorem hp_0m : hp_0[134]? = some (mo 0 (Int32.ofNat 0) (-1) (-1) 0 0 0 0 0 0 0 0 0 0 0 0 0 4 0 0 0) := rfl
theorem hp_0t : hp_0[135]? = some (.inl (0, 200, .inl (fun _ => 0))) := rfl
set_option maxRecDepth 1000000 in
theorem hp_0n : hp_0.length = 178 := rfl
set_option maxRecDepth 1000000 in
theorem hp_0s : ie_sm hp_0 ≤ 7302232 := Nat.le_of_ble_eq_true rfl
theorem p1_0 (xs : Nat → Int32) (hop : xs 0 &&& 31 = 0) : ∃ h9 : ie_H, Go (4, xs) 10 222 (32, [some (.ref ie_S), some (.ref 0), some (.ref 134), some (.ref 177), some (.int 0), none, none], [], hp_0) (.inl (some (.int 1))) h9 ∧ h9.length ≤ 600002 ∧ ie_sm h9 ≤ 7302232 := by
  cases hs : ty_sc (by_g (((xs 1).toInt64 <<< (Int32.toInt64 32 &&& 63)) ||| ((xs 2).toInt64 &&& 4294967295))) 8 0 with
  | none =>
    have hno : ty_no (((xs 1).toInt64 <<< (Int32.toInt64 32 &&& 63)) ||| ((xs 2).toInt64 &&& 4294967295)) 0 := by unfold ty_no; rw [hs]; trivial
    have g1 := uc_type_no (X := (4, xs)) (d := 8) (Nat.zero_le _) hp_00 hno
    have g2 := um_type_no (X := (4, xs)) (d := 9) (Nat.zero_le _) hp_0m hno
    refine ⟨_, lw_op0 hop hi_0 rfl hi_1 rfl hi_2 rfl g1 g2 hp_00 hp_0m (lw_next (lw_exit hx_4)), ?_, ?_⟩
    · rw [List.length_set, hp_0n]; decide
    · rw [ie_sm_set hp_0m rfl]; exact hp_0s
  | some n =>
    have hn := ty_sc_le _ _ _ _ hs
    have hc : 0 + n ≤ 200 := by omega
    have g1 := uc_type_yes (X := (4, xs)) (d := 8) hp_00 hp_01 hs hc
    have q1 := gs_ne (a := 0) (b := 134) (c := .inr (0, [.ref 1, .int (Int32.ofNat (0 + n)), .int (-1), .int (-1), .null, .ref 2, .ref 133])) (by decide) (gs_ne (a := 1) (b := 134) (c := .inl (1, 200, .inl (ty_cp (by_g (((xs 1).toInt64 <<< (Int32.toInt64 32 &&& 63)) ||| ((xs 2).toInt64 &&& 4294967295))) (fun _ => 0) 0 n))) (by decide) hp_0m)
    have q2 := gs_ne (a := 0) (b := 135) (c := .inr (0, [.ref 1, .int (Int32.ofNat (0 + n)), .int (-1), .int (-1), .null, .ref 2, .ref 133])) (by decide) (gs_ne (a := 1) (b := 135) (c := .inl (1, 200, .inl (ty_cp (by_g (((xs 1).toInt64 <<< (Int32.toInt64 32 &&& 63)) ||| ((xs 2).toInt64 &&& 4294967295))) (fun _ => 0) 0 n))) (by decide) hp_0t)
    have g2 := um_type_yes (X := (4, xs)) (d := 9) q1 q2 hs hc
    refine ⟨_, lw_op0 hop hi_0 rfl hi_1 rfl hi_2 rfl g1 g2 hp_00 q1 (lw_next (lw_exit hx_4)), ?_, ?_⟩
    · simp only [List.length_set, hp_0n]; decide
    · refine Nat.le_trans (Nat.le_of_eq (ie_sm_set (a := 134) (gs_ne (a := 135) (b := 134) (by decide) (gs_self q1)) rfl)) ?_
      refine Nat.le_trans (Nat.le_of_eq (ie_sm_set (a := 135) (gs_ne (a := 134) (b := 135) (by decide) q2) rfl)) ?_
      refine Nat.le_trans (Nat.le_of_eq (ie_sm_set (a := 134) q1 rfl)) ?_
      refine Nat.le_trans (Nat.le_of_eq (ie_sm_set (a := 0) (gs_ne (a := 1) (b := 0) (by decide) hp_00) rfl)) ?_
      refine Nat.le_trans (Nat.le_of_eq (ie_sm_set (a := 1) hp_01 rfl)) ?_
      exact hp_0s
