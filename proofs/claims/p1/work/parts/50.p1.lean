theorem hx_4 {xs : Nat → Int32} : Int32.ofNat ((4, xs) : ie_X).1 - 4 < (0 : Int32) + 4 := by show Int32.ofNat 4 - 4 < (0 : Int32) + 4; decide
theorem hi_0 {xs : Nat → Int32} : 0 ≤ (0 : Int32).toInt ∧ (0 : Int32).toInt < (((4, xs) : ie_X).1 : Int) := by show 0 ≤ (0 : Int32).toInt ∧ (0 : Int32).toInt < ((4 : Nat) : Int); decide
theorem hi_1 {xs : Nat → Int32} : 0 ≤ (0 + 1 : Int32).toInt ∧ (0 + 1 : Int32).toInt < (((4, xs) : ie_X).1 : Int) := by show 0 ≤ (0 + 1 : Int32).toInt ∧ (0 + 1 : Int32).toInt < ((4 : Nat) : Int); decide
theorem hi_2 {xs : Nat → Int32} : 0 ≤ (0 + 2 : Int32).toInt ∧ (0 + 2 : Int32).toInt < (((4, xs) : ie_X).1 : Int) := by show 0 ≤ (0 + 2 : Int32).toInt ∧ (0 + 2 : Int32).toInt < ((4 : Nat) : Int); decide
theorem hi_3 {xs : Nat → Int32} : 0 ≤ (0 + 3 : Int32).toInt ∧ (0 + 3 : Int32).toInt < (((4, xs) : ie_X).1 : Int) := by show 0 ≤ (0 + 3 : Int32).toInt ∧ (0 + 3 : Int32).toInt < ((4 : Nat) : Int); decide
theorem i_65p {p : Int32} (h : ¬ 6 ≤ p) : p ≤ 5 := by
  rw [Int32.le_iff_toInt_le] at *
  have e6 : (6 : Int32).toInt = 6 := rfl
  have e5 : (5 : Int32).toInt = 5 := rfl
  omega
theorem i_65n {p : Int32} (h : 6 ≤ p) : ¬ p ≤ 5 := by
  rw [Int32.le_iff_toInt_le] at *
  have e6 : (6 : Int32).toInt = 6 := rfl
  have e5 : (5 : Int32).toInt = 5 := rfl
  omega
theorem i_43p {p : Int32} (h : p < 4) : p ≤ 3 := by
  rw [Int32.lt_iff_toInt_lt] at h
  rw [Int32.le_iff_toInt_le]
  have e6 : (4 : Int32).toInt = 4 := rfl
  have e5 : (3 : Int32).toInt = 3 := rfl
  omega
theorem i_43n {p : Int32} (h : ¬ p < 4) : ¬ p ≤ 3 := by
  rw [Int32.lt_iff_toInt_lt] at h
  rw [Int32.le_iff_toInt_le]
  have e6 : (4 : Int32).toInt = 4 := rfl
  have e5 : (3 : Int32).toInt = 3 := rfl
  omega
theorem i_ix {p q : Int32} {a : Int32} {n : Int} (ha : a.toInt = n) (hn : 0 ≤ n ∧ n ≤ 10) (h1 : 0 ≤ p.toInt ∧ p.toInt ≤ 1000) (h2 : 0 ≤ q.toInt ∧ q.toInt ≤ 1000) : (p * a + q).toInt = p.toInt * n + q.toInt := by
  have hb : 0 ≤ p.toInt * n ∧ p.toInt * n ≤ 10000 := by
    refine ⟨Int.mul_nonneg h1.1 hn.1, ?_⟩
    have := Int.mul_le_mul h1.2 hn.2 hn.1 (by decide : (0 : Int) ≤ 1000)
    omega
  have e1 : (p * a).toInt = p.toInt * n := by
    rw [Int32.toInt_mul, ha, Int.bmod_eq_of_le (by omega) (by omega)]
  rw [Int32.toInt_add, e1, Int.bmod_eq_of_le (by omega) (by omega)]
theorem ix4 {p q : Int32} (h1 : ¬ p < 0) (h2 : ¬ 6 ≤ p) (h3 : ¬ q < 0) (h4 : q < 4) : 0 ≤ Int32.toInt ((p * 4) + q) ∧ Int32.toInt ((p * 4) + q) < (24 : Int) := by
  rw [Int32.lt_iff_toInt_lt] at h1 h3 h4
  rw [Int32.le_iff_toInt_le] at h2
  have e0 : (0 : Int32).toInt = 0 := rfl
  have e4 : (4 : Int32).toInt = 4 := rfl
  have e6 : (6 : Int32).toInt = 6 := rfl
  rw [i_ix e4 (by omega) (by omega) (by omega)]
  omega
theorem ix6 {p q : Int32} (h1 : ¬ p < 0) (h2 : ¬ 6 ≤ p) (h3 : ¬ q < 0) (h4 : ¬ 6 ≤ q) : 0 ≤ Int32.toInt ((p * 6) + q) ∧ Int32.toInt ((p * 6) + q) < (36 : Int) := by
  rw [Int32.lt_iff_toInt_lt] at h1 h3
  rw [Int32.le_iff_toInt_le] at h2 h4
  have e0 : (0 : Int32).toInt = 0 := rfl
  have e6 : (6 : Int32).toInt = 6 := rfl
  rw [i_ix e6 (by omega) (by omega) (by omega)]
  omega
theorem ix4' {p q : Int32} (h1 : ¬ p < 0) (h2 : ¬ 6 ≤ p) (h3 : ¬ q < 0) (h4 : q < 4) : 0 ≤ Int32.toInt ((4 * p) + q) ∧ Int32.toInt ((4 * p) + q) < (24 : Int) := by
  rw [Int32.mul_comm]; exact ix4 h1 h2 h3 h4
theorem ix6' {p q : Int32} (h1 : ¬ p < 0) (h2 : ¬ 6 ≤ p) (h3 : ¬ q < 0) (h4 : ¬ 6 ≤ q) : 0 ≤ Int32.toInt ((6 * p) + q) ∧ Int32.toInt ((6 * p) + q) < (36 : Int) := by
  rw [Int32.mul_comm]; exact ix6 h1 h2 h3 h4
theorem fresh_k : ∀ (k : Nat), k < 36 → ∃ x1 x2 a : Nat, rf_4 k = some a ∧ hp_0[a]? = some (.inr (6, [.ref x1, .ref x2, .int 0, .int 0])) ∧ 177 ≠ a
  | 0, _ => ⟨_, _, _, rfl, rfl, by decide⟩
  | 1, _ => ⟨_, _, _, rfl, rfl, by decide⟩
  | 2, _ => ⟨_, _, _, rfl, rfl, by decide⟩
  | 3, _ => ⟨_, _, _, rfl, rfl, by decide⟩
  | 4, _ => ⟨_, _, _, rfl, rfl, by decide⟩
  | 5, _ => ⟨_, _, _, rfl, rfl, by decide⟩
  | 6, _ => ⟨_, _, _, rfl, rfl, by decide⟩
  | 7, _ => ⟨_, _, _, rfl, rfl, by decide⟩
  | 8, _ => ⟨_, _, _, rfl, rfl, by decide⟩
  | 9, _ => ⟨_, _, _, rfl, rfl, by decide⟩
  | 10, _ => ⟨_, _, _, rfl, rfl, by decide⟩
  | 11, _ => ⟨_, _, _, rfl, rfl, by decide⟩
  | 12, _ => ⟨_, _, _, rfl, rfl, by decide⟩
  | 13, _ => ⟨_, _, _, rfl, rfl, by decide⟩
  | 14, _ => ⟨_, _, _, rfl, rfl, by decide⟩
  | 15, _ => ⟨_, _, _, rfl, rfl, by decide⟩
  | 16, _ => ⟨_, _, _, rfl, rfl, by decide⟩
  | 17, _ => ⟨_, _, _, rfl, rfl, by decide⟩
  | 18, _ => ⟨_, _, _, rfl, rfl, by decide⟩
  | 19, _ => ⟨_, _, _, rfl, rfl, by decide⟩
  | 20, _ => ⟨_, _, _, rfl, rfl, by decide⟩
  | 21, _ => ⟨_, _, _, rfl, rfl, by decide⟩
  | 22, _ => ⟨_, _, _, rfl, rfl, by decide⟩
  | 23, _ => ⟨_, _, _, rfl, rfl, by decide⟩
  | 24, _ => ⟨_, _, _, rfl, rfl, by decide⟩
  | 25, _ => ⟨_, _, _, rfl, rfl, by decide⟩
  | 26, _ => ⟨_, _, _, rfl, rfl, by decide⟩
  | 27, _ => ⟨_, _, _, rfl, rfl, by decide⟩
  | 28, _ => ⟨_, _, _, rfl, rfl, by decide⟩
  | 29, _ => ⟨_, _, _, rfl, rfl, by decide⟩
  | 30, _ => ⟨_, _, _, rfl, rfl, by decide⟩
  | 31, _ => ⟨_, _, _, rfl, rfl, by decide⟩
  | 32, _ => ⟨_, _, _, rfl, rfl, by decide⟩
  | 33, _ => ⟨_, _, _, rfl, rfl, by decide⟩
  | 34, _ => ⟨_, _, _, rfl, rfl, by decide⟩
  | 35, _ => ⟨_, _, _, rfl, rfl, by decide⟩
  | n + 36, h => absurd h (by omega)
theorem fresh_q {p q : Int32} (h1 : ¬ p < 0) (h2 : ¬ 6 ≤ p) (h3 : ¬ q < 0) (h4 : ¬ 6 ≤ q) : ∃ x1 x2 a : Nat, rf_4 (Int32.toNatClampNeg ((p * 6) + q)) = some a ∧ hp_0[a]? = some (.inr (6, [.ref x1, .ref x2, .int 0, .int 0])) ∧ 177 ≠ a := by
  refine fresh_k _ ?_
  have := ix6 h1 h2 h3 h4
  unfold Int32.toNatClampNeg
  omega
set_option maxRecDepth 1000000 in
set_option maxHeartbeats 4000000 in
theorem p1_4 (xs : Nat → Int32) (hop : xs 0 &&& 31 = 4) : ∃ h9 : ie_H, Go (4, xs) 10 222 (32, [some (.ref ie_S), some (.ref 0), some (.ref 134), some (.ref 177), some (.int 0), none, none], [], hp_0) (.inl (some (.int 1))) h9 ∧ h9.length ≤ 600002 ∧ ie_sm h9 ≤ 7302232 := by
  by_cases q1 : xs 1 < 0
  · exact ⟨_, lw_op4 hop hi_0 rfl (hi_1) rfl (uc_length_1 rfl q1) (um_length_1 rfl q1) rfl rfl rfl (fun hk => absurd hk (by decide)) (lw_next (lw_exit hx_4)), Nat.le_of_ble_eq_true rfl, Nat.le_of_ble_eq_true rfl⟩
  · by_cases q2 : 6 ≤ xs 1
    · exact ⟨_, lw_op4 hop hi_0 rfl (hi_1) rfl (uc_length_2 rfl q1 q2) (um_length_3 rfl q1 (i_65n q2)) rfl rfl rfl (fun hk => absurd hk (by decide)) (lw_next (lw_exit hx_4)), Nat.le_of_ble_eq_true rfl, Nat.le_of_ble_eq_true rfl⟩
    · exact ⟨_, lw_op4 hop hi_0 rfl (hi_1) rfl (uc_length_3 rfl q1 q2) (um_length_2 rfl q1 (i_65p q2)) rfl rfl rfl (fun hk => absurd hk (by decide)) (lw_next (lw_exit hx_4)), Nat.le_of_ble_eq_true rfl, Nat.le_of_ble_eq_true rfl⟩
set_option maxRecDepth 1000000 in
set_option maxHeartbeats 4000000 in
theorem p1_5 (xs : Nat → Int32) (hop : xs 0 &&& 31 = 5) : ∃ h9 : ie_H, Go (4, xs) 10 222 (32, [some (.ref ie_S), some (.ref 0), some (.ref 134), some (.ref 177), some (.int 0), none, none], [], hp_0) (.inl (some (.int 1))) h9 ∧ h9.length ≤ 600002 ∧ ie_sm h9 ≤ 7302232 := by
  by_cases q1 : xs 1 < 0
  · exact ⟨_, lw_op5 hop hi_0 rfl (hi_1) rfl (hi_2) rfl (uc_letter_1 rfl q1) (um_letter_1 rfl q1) rfl rfl rfl (fun hk => absurd hk (by decide)) (lw_next (lw_exit hx_4)), Nat.le_of_ble_eq_true rfl, Nat.le_of_ble_eq_true rfl⟩
  · by_cases q2 : 6 ≤ xs 1
    · exact ⟨_, lw_op5 hop hi_0 rfl (hi_1) rfl (hi_2) rfl (uc_letter_2 rfl q1 q2) (um_letter_3 rfl q1 (i_65n q2)) rfl rfl rfl (fun hk => absurd hk (by decide)) (lw_next (lw_exit hx_4)), Nat.le_of_ble_eq_true rfl, Nat.le_of_ble_eq_true rfl⟩
    · exact ⟨_, lw_op5 hop hi_0 rfl (hi_1) rfl (hi_2) rfl (uc_letter_3 rfl q1 q2) (um_letter_2 rfl q1 (i_65p q2)) rfl rfl rfl (fun hk => absurd hk (by decide)) (lw_next (lw_exit hx_4)), Nat.le_of_ble_eq_true rfl, Nat.le_of_ble_eq_true rfl⟩
set_option maxRecDepth 1000000 in
set_option maxHeartbeats 4000000 in
theorem p1_6 (xs : Nat → Int32) (hop : xs 0 &&& 31 = 6) : ∃ h9 : ie_H, Go (4, xs) 10 222 (32, [some (.ref ie_S), some (.ref 0), some (.ref 134), some (.ref 177), some (.int 0), none, none], [], hp_0) (.inl (some (.int 1))) h9 ∧ h9.length ≤ 600002 ∧ ie_sm h9 ≤ 7302232 := by
  by_cases q1 : xs 1 < 0
  · exact ⟨_, lw_op6 hop hi_0 rfl (hi_1) rfl (hi_2) rfl (hi_3) rfl (uc_input_1 rfl q1) (um_input_1 rfl q1) rfl rfl rfl (fun hk => absurd hk (by decide)) (lw_next (lw_exit hx_4)), Nat.le_of_ble_eq_true rfl, Nat.le_of_ble_eq_true rfl⟩
  · by_cases q2 : 6 ≤ xs 1
    · exact ⟨_, lw_op6 hop hi_0 rfl (hi_1) rfl (hi_2) rfl (hi_3) rfl (uc_input_2 rfl q1 q2) (um_input_2 rfl q1 (i_65n q2)) rfl rfl rfl (fun hk => absurd hk (by decide)) (lw_next (lw_exit hx_4)), Nat.le_of_ble_eq_true rfl, Nat.le_of_ble_eq_true rfl⟩
    · by_cases q3 : xs 2 < 0
      · exact ⟨_, lw_op6 hop hi_0 rfl (hi_1) rfl (hi_2) rfl (hi_3) rfl (uc_input_3 rfl q1 q2 q3) (um_input_3 rfl q1 (i_65p q2) q3) rfl rfl rfl (fun hk => absurd hk (by decide)) (lw_next (lw_exit hx_4)), Nat.le_of_ble_eq_true rfl, Nat.le_of_ble_eq_true rfl⟩
      · by_cases q4 : xs 2 < 4
        · exact ⟨_, lw_op6 hop hi_0 rfl (hi_1) rfl (hi_2) rfl (hi_3) rfl (uc_input_4 rfl q1 q2 q3 q4) (um_input_4 rfl q1 (i_65p q2) q3 (i_43p q4)) rfl rfl rfl (fun hk => absurd hk (by decide)) (lw_next (lw_exit hx_4)), Nat.le_of_ble_eq_true rfl, Nat.le_of_ble_eq_true rfl⟩
        · exact ⟨_, lw_op6 hop hi_0 rfl (hi_1) rfl (hi_2) rfl (hi_3) rfl (uc_input_5 rfl q1 q2 q3 q4) (um_input_5 rfl q1 (i_65p q2) q3 (i_43n q4)) rfl rfl rfl (fun hk => absurd hk (by decide)) (lw_next (lw_exit hx_4)), Nat.le_of_ble_eq_true rfl, Nat.le_of_ble_eq_true rfl⟩
set_option maxRecDepth 1000000 in
set_option maxHeartbeats 4000000 in
theorem p1_9 (xs : Nat → Int32) (hop : xs 0 &&& 31 = 9) : ∃ h9 : ie_H, Go (4, xs) 10 222 (32, [some (.ref ie_S), some (.ref 0), some (.ref 134), some (.ref 177), some (.int 0), none, none], [], hp_0) (.inl (some (.int 1))) h9 ∧ h9.length ≤ 600002 ∧ ie_sm h9 ≤ 7302232 := by
  by_cases q1 : xs 1 < 0
  · exact ⟨_, lw_op9 hop hi_0 rfl (hi_1) rfl (uc_step_1 rfl q1) (um_step_1 rfl q1) rfl rfl rfl (fun hk => absurd hk (by decide)) (lw_next (lw_exit hx_4)), Nat.le_of_ble_eq_true rfl, Nat.le_of_ble_eq_true rfl⟩
  · by_cases q2 : 6 ≤ xs 1
    · exact ⟨_, lw_op9 hop hi_0 rfl (hi_1) rfl (uc_step_2 rfl q1 q2) (um_step_3 rfl q1 (i_65n q2)) rfl rfl rfl (fun hk => absurd hk (by decide)) (lw_next (lw_exit hx_4)), Nat.le_of_ble_eq_true rfl, Nat.le_of_ble_eq_true rfl⟩
    · exact ⟨_, lw_op9 hop hi_0 rfl (hi_1) rfl (uc_step_3 rfl q1 q2) (um_step_2 rfl q1 (i_65p q2)) rfl rfl rfl (fun hk => absurd hk (by decide)) (lw_next (lw_exit hx_4)), Nat.le_of_ble_eq_true rfl, Nat.le_of_ble_eq_true rfl⟩
set_option maxRecDepth 1000000 in
set_option maxHeartbeats 4000000 in
theorem p1_10 (xs : Nat → Int32) (hop : xs 0 &&& 31 = 10) : ∃ h9 : ie_H, Go (4, xs) 10 222 (32, [some (.ref ie_S), some (.ref 0), some (.ref 134), some (.ref 177), some (.int 0), none, none], [], hp_0) (.inl (some (.int 1))) h9 ∧ h9.length ≤ 600002 ∧ ie_sm h9 ≤ 7302232 := by
  by_cases q1 : xs 1 < 0
  · exact ⟨_, lw_op10 hop hi_0 rfl (hi_1) rfl (hi_2) rfl (uc_run_1 rfl q1) (um_run_1 rfl q1) rfl rfl rfl (fun hk => absurd hk (by decide)) (lw_next (lw_exit hx_4)), Nat.le_of_ble_eq_true rfl, Nat.le_of_ble_eq_true rfl⟩
  · by_cases q2 : 6 ≤ xs 1
    · exact ⟨_, lw_op10 hop hi_0 rfl (hi_1) rfl (hi_2) rfl (uc_run_2 rfl q1 q2) (um_run_2 rfl q1 (i_65n q2)) rfl rfl rfl (fun hk => absurd hk (by decide)) (lw_next (lw_exit hx_4)), Nat.le_of_ble_eq_true rfl, Nat.le_of_ble_eq_true rfl⟩
    · by_cases q3 : xs 2 < 0
      · exact ⟨_, lw_op10 hop hi_0 rfl (hi_1) rfl (hi_2) rfl (uc_run_3 rfl q1 q2 q3) (um_run_3 rfl q1 (i_65p q2) q3) rfl rfl rfl (fun hk => absurd hk (by decide)) (lw_next (lw_exit hx_4)), Nat.le_of_ble_eq_true rfl, Nat.le_of_ble_eq_true rfl⟩
      · by_cases q4 : xs 2 ≤ 300
        · exact ⟨_, lw_op10 hop hi_0 rfl (hi_1) rfl (hi_2) rfl (uc_run_4 rfl q1 q2 q3 q4) (um_run_4 rfl q1 (i_65p q2) q3 q4) rfl rfl rfl (fun hk => absurd hk (by decide)) (lw_next (lw_exit hx_4)), Nat.le_of_ble_eq_true rfl, Nat.le_of_ble_eq_true rfl⟩
        · exact ⟨_, lw_op10 hop hi_0 rfl (hi_1) rfl (hi_2) rfl (uc_run_5 rfl q1 q2 q3 q4) (um_run_5 rfl q1 (i_65p q2) q3 q4) rfl rfl rfl (fun hk => absurd hk (by decide)) (lw_next (lw_exit hx_4)), Nat.le_of_ble_eq_true rfl, Nat.le_of_ble_eq_true rfl⟩
set_option maxRecDepth 1000000 in
set_option maxHeartbeats 4000000 in
theorem p1_11 (xs : Nat → Int32) (hop : xs 0 &&& 31 = 11) : ∃ h9 : ie_H, Go (4, xs) 10 222 (32, [some (.ref ie_S), some (.ref 0), some (.ref 134), some (.ref 177), some (.int 0), none, none], [], hp_0) (.inl (some (.int 1))) h9 ∧ h9.length ≤ 600002 ∧ ie_sm h9 ≤ 7302232 := by
  by_cases q1 : xs 1 < 0
  · exact ⟨_, lw_op11 hop hi_0 rfl (hi_1) rfl (uc_at_1 rfl q1) (um_at_1 rfl q1) rfl rfl rfl (fun hk => absurd hk (by decide)) (lw_next (lw_exit hx_4)), Nat.le_of_ble_eq_true rfl, Nat.le_of_ble_eq_true rfl⟩
  · by_cases q2 : 6 ≤ xs 1
    · exact ⟨_, lw_op11 hop hi_0 rfl (hi_1) rfl (uc_at_2 rfl q1 q2) (um_at_3 rfl q1 (i_65n q2)) rfl rfl rfl (fun hk => absurd hk (by decide)) (lw_next (lw_exit hx_4)), Nat.le_of_ble_eq_true rfl, Nat.le_of_ble_eq_true rfl⟩
    · exact ⟨_, lw_op11 hop hi_0 rfl (hi_1) rfl (uc_at_3 rfl q1 q2) (um_at_2 rfl q1 (i_65p q2)) rfl rfl rfl (fun hk => absurd hk (by decide)) (lw_next (lw_exit hx_4)), Nat.le_of_ble_eq_true rfl, Nat.le_of_ble_eq_true rfl⟩
set_option maxRecDepth 1000000 in
set_option maxHeartbeats 4000000 in
theorem p1_12 (xs : Nat → Int32) (hop : xs 0 &&& 31 = 12) : ∃ h9 : ie_H, Go (4, xs) 10 222 (32, [some (.ref ie_S), some (.ref 0), some (.ref 134), some (.ref 177), some (.int 0), none, none], [], hp_0) (.inl (some (.int 1))) h9 ∧ h9.length ≤ 600002 ∧ ie_sm h9 ≤ 7302232 := by
  by_cases q1 : xs 1 < 0
  · exact ⟨_, lw_op12 hop hi_0 rfl (hi_1) rfl (hi_2) rfl (uc_variable_1 rfl q1) (um_variable_1 rfl q1) rfl rfl rfl (fun hk => absurd hk (by decide)) (lw_next (lw_exit hx_4)), Nat.le_of_ble_eq_true rfl, Nat.le_of_ble_eq_true rfl⟩
  · by_cases q2 : 6 ≤ xs 1
    · exact ⟨_, lw_op12 hop hi_0 rfl (hi_1) rfl (hi_2) rfl (uc_variable_2 rfl q1 q2) (um_variable_2 rfl q1 (i_65n q2)) rfl rfl rfl (fun hk => absurd hk (by decide)) (lw_next (lw_exit hx_4)), Nat.le_of_ble_eq_true rfl, Nat.le_of_ble_eq_true rfl⟩
    · by_cases q3 : xs 2 < 0
      · exact ⟨_, lw_op12 hop hi_0 rfl (hi_1) rfl (hi_2) rfl (uc_variable_3 rfl q1 q2 q3) (um_variable_3 rfl q1 (i_65p q2) q3) rfl rfl rfl (fun hk => absurd hk (by decide)) (lw_next (lw_exit hx_4)), Nat.le_of_ble_eq_true rfl, Nat.le_of_ble_eq_true rfl⟩
      · by_cases q4 : xs 2 < 4
        · exact ⟨_, lw_op12 hop hi_0 rfl (hi_1) rfl (hi_2) rfl (uc_variable_4 rfl rfl rfl rfl q1 q2 q3 q4 (ix4 q1 q2 q3 q4)) (um_variable_4 rfl rfl q1 (i_65p q2) q3 (i_43p q4) (ix4' q1 q2 q3 q4)) rfl rfl rfl (fun _ => ⟨_, rfl, rfl⟩) (lw_next (lw_exit hx_4)), Nat.le_of_ble_eq_true rfl, Nat.le_of_ble_eq_true rfl⟩
        · exact ⟨_, lw_op12 hop hi_0 rfl (hi_1) rfl (hi_2) rfl (uc_variable_5 rfl q1 q2 q3 q4) (um_variable_5 rfl q1 (i_65p q2) q3 (i_43n q4)) rfl rfl rfl (fun hk => absurd hk (by decide)) (lw_next (lw_exit hx_4)), Nat.le_of_ble_eq_true rfl, Nat.le_of_ble_eq_true rfl⟩
set_option maxRecDepth 1000000 in
set_option maxHeartbeats 4000000 in
theorem p1_13 (xs : Nat → Int32) (hop : xs 0 &&& 31 = 13) : ∃ h9 : ie_H, Go (4, xs) 10 222 (32, [some (.ref ie_S), some (.ref 0), some (.ref 134), some (.ref 177), some (.int 0), none, none], [], hp_0) (.inl (some (.int 1))) h9 ∧ h9.length ≤ 600002 ∧ ie_sm h9 ≤ 7302232 := by
  by_cases q1 : xs 1 < 0
  · exact ⟨_, lw_op13 hop hi_0 rfl (hi_1) rfl (hi_2) rfl (uc_queue_1 rfl q1) (um_queue_1 rfl q1) rfl rfl rfl (fun hk => absurd hk (by decide)) (lw_next (lw_exit hx_4)), Nat.le_of_ble_eq_true rfl, Nat.le_of_ble_eq_true rfl⟩
  · by_cases q2 : 6 ≤ xs 1
    · exact ⟨_, lw_op13 hop hi_0 rfl (hi_1) rfl (hi_2) rfl (uc_queue_2 rfl q1 q2) (um_queue_2 rfl q1 (i_65n q2)) rfl rfl rfl (fun hk => absurd hk (by decide)) (lw_next (lw_exit hx_4)), Nat.le_of_ble_eq_true rfl, Nat.le_of_ble_eq_true rfl⟩
    · by_cases q3 : xs 2 < 0
      · exact ⟨_, lw_op13 hop hi_0 rfl (hi_1) rfl (hi_2) rfl (uc_queue_3 rfl q1 q2 q3) (um_queue_3 rfl q1 (i_65p q2) q3) rfl rfl rfl (fun hk => absurd hk (by decide)) (lw_next (lw_exit hx_4)), Nat.le_of_ble_eq_true rfl, Nat.le_of_ble_eq_true rfl⟩
      · by_cases q4 : 6 ≤ xs 2
        · exact ⟨_, lw_op13 hop hi_0 rfl (hi_1) rfl (hi_2) rfl (uc_queue_4 rfl q1 q2 q3 q4) (um_queue_4 rfl q1 (i_65p q2) q3 (i_65n q4)) rfl rfl rfl (fun hk => absurd hk (by decide)) (lw_next (lw_exit hx_4)), Nat.le_of_ble_eq_true rfl, Nat.le_of_ble_eq_true rfl⟩
        · by_cases q5 : xs 1 = xs 2
          · exact ⟨_, lw_op13 hop hi_0 rfl (hi_1) rfl (hi_2) rfl (uc_queue_5 rfl q1 q2 q3 q4 q5) (um_queue_5 rfl q1 (i_65p q2) q3 (i_65p q4) q5) rfl rfl rfl (fun hk => absurd hk (by decide)) (lw_next (lw_exit hx_4)), Nat.le_of_ble_eq_true rfl, Nat.le_of_ble_eq_true rfl⟩
          · obtain ⟨x1, x2, a1, er, ea, hn⟩ := fresh_q q1 q2 q3 q4
            exact ⟨_, lw_op13 hop hi_0 rfl (hi_1) rfl (hi_2) rfl (uc_queue_6 rfl rfl rfl ea rfl q1 q2 q3 q4 q5 (ix6 q1 q2 q3 q4) er hn) (um_queue_6 rfl rfl q1 (i_65p q2) q3 (i_65p q4) q5 (ix6' q1 q2 q3 q4)) rfl rfl rfl (fun _ => ⟨_, rfl, rfl⟩) (lw_next (lw_exit hx_4)), Nat.le_of_ble_eq_true rfl, Nat.le_of_ble_eq_true rfl⟩
set_option maxRecDepth 1000000 in
set_option maxHeartbeats 4000000 in
theorem p1_14 (xs : Nat → Int32) (hop : xs 0 &&& 31 = 14) : ∃ h9 : ie_H, Go (4, xs) 10 222 (32, [some (.ref ie_S), some (.ref 0), some (.ref 134), some (.ref 177), some (.int 0), none, none], [], hp_0) (.inl (some (.int 1))) h9 ∧ h9.length ≤ 600002 ∧ ie_sm h9 ≤ 7302232 := by
  by_cases q1 : xs 1 < 0
  · exact ⟨_, lw_op14 hop hi_0 rfl (hi_1) rfl (hi_2) rfl (hi_3) rfl (uc_message_1 rfl q1) (um_message_1 rfl q1) rfl rfl rfl (fun hk => absurd hk (by decide)) (lw_next (lw_exit hx_4)), Nat.le_of_ble_eq_true rfl, Nat.le_of_ble_eq_true rfl⟩
  · by_cases q2 : 6 ≤ xs 1
    · exact ⟨_, lw_op14 hop hi_0 rfl (hi_1) rfl (hi_2) rfl (hi_3) rfl (uc_message_2 rfl q1 q2) (um_message_2 rfl q1 (i_65n q2)) rfl rfl rfl (fun hk => absurd hk (by decide)) (lw_next (lw_exit hx_4)), Nat.le_of_ble_eq_true rfl, Nat.le_of_ble_eq_true rfl⟩
    · by_cases q3 : xs 2 < 0
      · exact ⟨_, lw_op14 hop hi_0 rfl (hi_1) rfl (hi_2) rfl (hi_3) rfl (uc_message_3 rfl q1 q2 q3) (um_message_3 rfl q1 (i_65p q2) q3) rfl rfl rfl (fun hk => absurd hk (by decide)) (lw_next (lw_exit hx_4)), Nat.le_of_ble_eq_true rfl, Nat.le_of_ble_eq_true rfl⟩
      · by_cases q4 : 6 ≤ xs 2
        · exact ⟨_, lw_op14 hop hi_0 rfl (hi_1) rfl (hi_2) rfl (hi_3) rfl (uc_message_4 rfl q1 q2 q3 q4) (um_message_4 rfl q1 (i_65p q2) q3 (i_65n q4)) rfl rfl rfl (fun hk => absurd hk (by decide)) (lw_next (lw_exit hx_4)), Nat.le_of_ble_eq_true rfl, Nat.le_of_ble_eq_true rfl⟩
        · by_cases q5 : xs 1 = xs 2
          · exact ⟨_, lw_op14 hop hi_0 rfl (hi_1) rfl (hi_2) rfl (hi_3) rfl (uc_message_5 rfl q1 q2 q3 q4 q5) (um_message_5 rfl q1 (i_65p q2) q3 (i_65p q4) q5) rfl rfl rfl (fun hk => absurd hk (by decide)) (lw_next (lw_exit hx_4)), Nat.le_of_ble_eq_true rfl, Nat.le_of_ble_eq_true rfl⟩
          · by_cases q6 : xs 3 < 0
            · exact ⟨_, lw_op14 hop hi_0 rfl (hi_1) rfl (hi_2) rfl (hi_3) rfl (uc_message_6 rfl q1 q2 q3 q4 q5 q6) (um_message_6 rfl q1 (i_65p q2) q3 (i_65p q4) q5 q6) rfl rfl rfl (fun hk => absurd hk (by decide)) (lw_next (lw_exit hx_4)), Nat.le_of_ble_eq_true rfl, Nat.le_of_ble_eq_true rfl⟩
            · obtain ⟨x1, x2, a1, er, ea, hn⟩ := fresh_q q1 q2 q3 q4
              exact ⟨_, lw_op14 hop hi_0 rfl (hi_1) rfl (hi_2) rfl (hi_3) rfl (uc_message_7 rfl rfl rfl ea q1 q2 q3 q4 q5 q6 (ix6 q1 q2 q3 q4) er q6) (um_message_8 rfl rfl q1 (i_65p q2) q3 (i_65p q4) q5 q6 (ix6' q1 q2 q3 q4) q6) rfl rfl rfl (fun hk => absurd hk (by decide)) (lw_next (lw_exit hx_4)), Nat.le_of_ble_eq_true rfl, Nat.le_of_ble_eq_true rfl⟩
set_option maxRecDepth 1000000 in
set_option maxHeartbeats 4000000 in
theorem p1_15 (xs : Nat → Int32) (hop : xs 0 &&& 31 = 15) : ∃ h9 : ie_H, Go (4, xs) 10 222 (32, [some (.ref ie_S), some (.ref 0), some (.ref 134), some (.ref 177), some (.int 0), none, none], [], hp_0) (.inl (some (.int 1))) h9 ∧ h9.length ≤ 600002 ∧ ie_sm h9 ≤ 7302232 := by
  by_cases q1 : xs 1 < 0
  · exact ⟨_, lw_op15 hop hi_0 rfl (hi_1) rfl (hi_2) rfl (hi_3) rfl (uc_label_1 rfl q1) (um_label_1 rfl q1) rfl rfl rfl (fun hk => absurd hk (by decide)) (lw_next (lw_exit hx_4)), Nat.le_of_ble_eq_true rfl, Nat.le_of_ble_eq_true rfl⟩
  · by_cases q2 : 6 ≤ xs 1
    · exact ⟨_, lw_op15 hop hi_0 rfl (hi_1) rfl (hi_2) rfl (hi_3) rfl (uc_label_2 rfl q1 q2) (um_label_2 rfl q1 (i_65n q2)) rfl rfl rfl (fun hk => absurd hk (by decide)) (lw_next (lw_exit hx_4)), Nat.le_of_ble_eq_true rfl, Nat.le_of_ble_eq_true rfl⟩
    · by_cases q3 : xs 2 < 0
      · exact ⟨_, lw_op15 hop hi_0 rfl (hi_1) rfl (hi_2) rfl (hi_3) rfl (uc_label_3 rfl q1 q2 q3) (um_label_3 rfl q1 (i_65p q2) q3) rfl rfl rfl (fun hk => absurd hk (by decide)) (lw_next (lw_exit hx_4)), Nat.le_of_ble_eq_true rfl, Nat.le_of_ble_eq_true rfl⟩
      · by_cases q4 : 6 ≤ xs 2
        · exact ⟨_, lw_op15 hop hi_0 rfl (hi_1) rfl (hi_2) rfl (hi_3) rfl (uc_label_4 rfl q1 q2 q3 q4) (um_label_4 rfl q1 (i_65p q2) q3 (i_65n q4)) rfl rfl rfl (fun hk => absurd hk (by decide)) (lw_next (lw_exit hx_4)), Nat.le_of_ble_eq_true rfl, Nat.le_of_ble_eq_true rfl⟩
        · by_cases q5 : xs 1 = xs 2
          · exact ⟨_, lw_op15 hop hi_0 rfl (hi_1) rfl (hi_2) rfl (hi_3) rfl (uc_label_5 rfl q1 q2 q3 q4 q5) (um_label_5 rfl q1 (i_65p q2) q3 (i_65p q4) q5) rfl rfl rfl (fun hk => absurd hk (by decide)) (lw_next (lw_exit hx_4)), Nat.le_of_ble_eq_true rfl, Nat.le_of_ble_eq_true rfl⟩
          · by_cases q6 : xs 3 < 0
            · exact ⟨_, lw_op15 hop hi_0 rfl (hi_1) rfl (hi_2) rfl (hi_3) rfl (uc_label_6 rfl q1 q2 q3 q4 q5 q6) (um_label_6 rfl q1 (i_65p q2) q3 (i_65p q4) q5 q6) rfl rfl rfl (fun hk => absurd hk (by decide)) (lw_next (lw_exit hx_4)), Nat.le_of_ble_eq_true rfl, Nat.le_of_ble_eq_true rfl⟩
            · obtain ⟨x1, x2, a1, er, ea, hn⟩ := fresh_q q1 q2 q3 q4
              exact ⟨_, lw_op15 hop hi_0 rfl (hi_1) rfl (hi_2) rfl (hi_3) rfl (uc_label_7 rfl rfl rfl ea q1 q2 q3 q4 q5 q6 (ix6 q1 q2 q3 q4) er q6) (um_label_7 rfl rfl q1 (i_65p q2) q3 (i_65p q4) q5 q6 (ix6' q1 q2 q3 q4) q6) rfl rfl rfl (fun hk => absurd hk (by decide)) (lw_next (lw_exit hx_4)), Nat.le_of_ble_eq_true rfl, Nat.le_of_ble_eq_true rfl⟩
set_option maxRecDepth 1000000 in
set_option maxHeartbeats 4000000 in
theorem p1_16 (xs : Nat → Int32) (hop : xs 0 &&& 31 = 16) : ∃ h9 : ie_H, Go (4, xs) 10 222 (32, [some (.ref ie_S), some (.ref 0), some (.ref 134), some (.ref 177), some (.int 0), none, none], [], hp_0) (.inl (some (.int 1))) h9 ∧ h9.length ≤ 600002 ∧ ie_sm h9 ≤ 7302232 := by
  by_cases q1 : xs 1 < 0
  · exact ⟨_, lw_op16 hop hi_0 rfl (hi_1) rfl (uc_whole_1 rfl q1) (um_whole_1 rfl q1) rfl rfl rfl (fun hk => absurd hk (by decide)) (lw_next (lw_exit hx_4)), Nat.le_of_ble_eq_true rfl, Nat.le_of_ble_eq_true rfl⟩
  · by_cases q2 : xs 1 ≤ 2000
    · exact ⟨_, lw_op16 hop hi_0 rfl (hi_1) rfl (uc_whole_2 rfl q1 q2) (um_whole_2 rfl q1 q2) rfl rfl rfl (fun hk => absurd hk (by decide)) (lw_next (lw_exit hx_4)), Nat.le_of_ble_eq_true rfl, Nat.le_of_ble_eq_true rfl⟩
    · exact ⟨_, lw_op16 hop hi_0 rfl (hi_1) rfl (uc_whole_3 rfl q1 q2) (um_whole_3 rfl q1 q2) rfl rfl rfl (fun hk => absurd hk (by decide)) (lw_next (lw_exit hx_4)), Nat.le_of_ble_eq_true rfl, Nat.le_of_ble_eq_true rfl⟩
set_option maxRecDepth 1000000 in
set_option maxHeartbeats 4000000 in
theorem p1_17 (xs : Nat → Int32) (hop : xs 0 &&& 31 = 17) : ∃ h9 : ie_H, Go (4, xs) 10 222 (32, [some (.ref ie_S), some (.ref 0), some (.ref 134), some (.ref 177), some (.int 0), none, none], [], hp_0) (.inl (some (.int 1))) h9 ∧ h9.length ≤ 600002 ∧ ie_sm h9 ≤ 7302232 := by
  by_cases q1 : xs 1 < 0
  · exact ⟨_, lw_op17 hop hi_0 rfl (hi_1) rfl (hi_2) rfl (uc_wanted_1 rfl q1) (um_wanted_1 rfl q1) rfl rfl rfl (fun hk => absurd hk (by decide)) (lw_next (lw_exit hx_4)), Nat.le_of_ble_eq_true rfl, Nat.le_of_ble_eq_true rfl⟩
  · by_cases q2 : 6 ≤ xs 1
    · exact ⟨_, lw_op17 hop hi_0 rfl (hi_1) rfl (hi_2) rfl (uc_wanted_2 rfl q1 q2) (um_wanted_2 rfl q1 (i_65n q2)) rfl rfl rfl (fun hk => absurd hk (by decide)) (lw_next (lw_exit hx_4)), Nat.le_of_ble_eq_true rfl, Nat.le_of_ble_eq_true rfl⟩
    · by_cases q3 : xs 2 < 0
      · exact ⟨_, lw_op17 hop hi_0 rfl (hi_1) rfl (hi_2) rfl (uc_wanted_3 rfl q1 q2 q3) (um_wanted_3 rfl q1 (i_65p q2) q3) rfl rfl rfl (fun hk => absurd hk (by decide)) (lw_next (lw_exit hx_4)), Nat.le_of_ble_eq_true rfl, Nat.le_of_ble_eq_true rfl⟩
      · by_cases q4 : xs 2 < 4
        · exact ⟨_, lw_op17 hop hi_0 rfl (hi_1) rfl (hi_2) rfl (uc_wanted_4 rfl rfl rfl q1 q2 q3 q4 (ix4 q1 q2 q3 q4)) (um_wanted_4 rfl rfl q1 (i_65p q2) q3 (i_43p q4) (ix4' q1 q2 q3 q4)) rfl rfl rfl (fun _ => ⟨_, rfl, rfl⟩) (lw_next (lw_exit hx_4)), Nat.le_of_ble_eq_true rfl, Nat.le_of_ble_eq_true rfl⟩
        · exact ⟨_, lw_op17 hop hi_0 rfl (hi_1) rfl (hi_2) rfl (uc_wanted_5 rfl q1 q2 q3 q4) (um_wanted_5 rfl q1 (i_65p q2) q3 (i_43n q4)) rfl rfl rfl (fun hk => absurd hk (by decide)) (lw_next (lw_exit hx_4)), Nat.le_of_ble_eq_true rfl, Nat.le_of_ble_eq_true rfl⟩
set_option maxRecDepth 1000000 in
set_option maxHeartbeats 4000000 in
theorem p1_7 (xs : Nat → Int32) (hop : xs 0 &&& 31 = 7) : ∃ h9 : ie_H, Go (4, xs) 10 222 (32, [some (.ref ie_S), some (.ref 0), some (.ref 134), some (.ref 177), some (.int 0), none, none], [], hp_0) (.inl (some (.int 1))) h9 ∧ h9.length ≤ 600002 ∧ ie_sm h9 ≤ 7302232 := by
  by_cases q1 : xs 1 < 1
  · exact ⟨_, lw_op7 hop hi_0 rfl (hi_1) rfl (uc_room_1 rfl q1) (um_room_1 rfl q1) rfl rfl rfl (lw_next (lw_exit hx_4)), Nat.le_of_ble_eq_true rfl, Nat.le_of_ble_eq_true rfl⟩
  · by_cases q2 : xs 1 ≤ 8
    · exact ⟨_, lw_op7 hop hi_0 rfl (hi_1) rfl (uc_room_2 rfl q1 q2) (um_room_2 rfl q1 q2) rfl rfl rfl (lw_next (lw_exit hx_4)), Nat.le_of_ble_eq_true rfl, Nat.le_of_ble_eq_true rfl⟩
    · exact ⟨_, lw_op7 hop hi_0 rfl (hi_1) rfl (uc_room_3 rfl q1 q2) (um_room_3 rfl q1 q2) rfl rfl rfl (lw_next (lw_exit hx_4)), Nat.le_of_ble_eq_true rfl, Nat.le_of_ble_eq_true rfl⟩
set_option maxRecDepth 1000000 in
set_option maxHeartbeats 4000000 in
theorem p1_8 (xs : Nat → Int32) (hop : xs 0 &&& 31 = 8) : ∃ h9 : ie_H, Go (4, xs) 10 222 (32, [some (.ref ie_S), some (.ref 0), some (.ref 134), some (.ref 177), some (.int 0), none, none], [], hp_0) (.inl (some (.int 1))) h9 ∧ h9.length ≤ 600002 ∧ ie_sm h9 ≤ 7302232 := by
  exact ⟨_, lw_op8 hop hi_0 rfl (uc_reset_1 rfl) (um_reset_1 rfl) rfl rfl rfl (lw_next (lw_exit hx_4)), Nat.le_of_ble_eq_true rfl, Nat.le_of_ble_eq_true rfl⟩
set_option maxRecDepth 1000000 in
set_option maxHeartbeats 4000000 in
theorem p1_2 (xs : Nat → Int32) (hop : xs 0 &&& 31 = 2) : ∃ h9 : ie_H, Go (4, xs) 10 222 (32, [some (.ref ie_S), some (.ref 0), some (.ref 134), some (.ref 177), some (.int 0), none, none], [], hp_0) (.inl (some (.int 1))) h9 ∧ h9.length ≤ 600002 ∧ ie_sm h9 ≤ 7302232 := by
  exact ⟨_, lw_op2 hop hi_0 rfl (uc_fault_1 rfl) (um_fault_1 rfl) rfl rfl (lw_next (lw_exit hx_4)), Nat.le_of_ble_eq_true rfl, Nat.le_of_ble_eq_true rfl⟩
set_option maxRecDepth 1000000 in
set_option maxHeartbeats 4000000 in
theorem p1_3 (xs : Nat → Int32) (hop : xs 0 &&& 31 = 3) : ∃ h9 : ie_H, Go (4, xs) 10 222 (32, [some (.ref ie_S), some (.ref 0), some (.ref 134), some (.ref 177), some (.int 0), none, none], [], hp_0) (.inl (some (.int 1))) h9 ∧ h9.length ≤ 600002 ∧ ie_sm h9 ≤ 7302232 := by
  exact ⟨_, lw_op3 hop hi_0 rfl (uc_who_1 rfl) (um_who_1 rfl) rfl rfl (lw_next (lw_exit hx_4)), Nat.le_of_ble_eq_true rfl, Nat.le_of_ble_eq_true rfl⟩
set_option maxRecDepth 1000000 in
set_option maxHeartbeats 4000000 in
theorem p1_18 (xs : Nat → Int32) (hop : 17 < (xs 0 &&& 31).toInt) : ∃ h9 : ie_H, Go (4, xs) 10 222 (32, [some (.ref ie_S), some (.ref 0), some (.ref 134), some (.ref 177), some (.int 0), none, none], [], hp_0) (.inl (some (.int 1))) h9 ∧ h9.length ≤ 600002 ∧ ie_sm h9 ≤ 7302232 := by
  exact ⟨_, lw_op18 hop hi_0 rfl (lw_next (lw_exit hx_4)), Nat.le_of_ble_eq_true rfl, Nat.le_of_ble_eq_true rfl⟩
