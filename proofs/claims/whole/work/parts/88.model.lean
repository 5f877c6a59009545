def rd_pty (x : Int32) : Bool := decide (¬ x < 65) && decide (¬ 70 < x)
def rd_la (f : Nat → Int32) (c P : Nat) : Int32 := if P < c then f P else 0
def mw_want (f : Nat → Int32) (c : Nat) (x : Int32) (s : Nat × Bool) : Nat × Bool := if s.2 = true then s else if s.1 < c then (if f s.1 = x then (s.1 + 1, false) else (s.1, true)) else s
section MR
variable {X : ie_X} {d c P : Nat} {b : Bool} {f : Nat → Int32} {h : ie_H} {t_ ty fa wh it co de lo st sz tp am bm mn rm sp be wo : Int32}
theorem rm_isVar (x : Int32) : Go X d 150 (0, ie_en 150 [.int x], [], h) (.inl (some (.int (ty_b (rd_var x))))) h := by
  refine go_run 2 (F' := (3, [some (.int x)], [.int 119, .int x], h)) rfl ?_
  refine go_step rfl rfl ?_
  by_cases q1 : x < 119
  · rw [if_pos q1, show rd_var x = false by simp [rd_var, q1]]
    refine go_run 1 (F' := (17, [some (.int x)], [.int 0], h)) rfl ?_
    exact go_end rfl rfl
  · rw [if_neg q1]
    refine go_run 2 (F' := (9, [some (.int x)], [.int 122, .int x], h)) rfl ?_
    refine go_step rfl rfl ?_
    by_cases q2 : 122 < x
    · rw [if_pos q2, show rd_var x = false by simp [rd_var, q2]]
      refine go_run 1 (F' := (17, [some (.int x)], [.int 0], h)) rfl ?_
      exact go_end rfl rfl
    · rw [if_neg q2, show rd_var x = true by simp [rd_var, q1, q2]]
      refine go_run 2 (F' := (17, [some (.int x)], [.int 1], h)) rfl ?_
      exact go_end rfl rfl
theorem rm_isFig (x : Int32) : Go X d 146 (0, ie_en 146 [.int x], [], h) (.inl (some (.int (ty_b (rd_fig x))))) h := by
  refine go_run 2 (F' := (3, [some (.int x)], [.int 48, .int x], h)) rfl ?_
  refine go_step rfl rfl ?_
  by_cases q1 : x < 48
  · rw [if_pos q1, show rd_fig x = false by simp [rd_fig, q1]]
    refine go_run 1 (F' := (17, [some (.int x)], [.int 0], h)) rfl ?_
    exact go_end rfl rfl
  · rw [if_neg q1]
    refine go_run 2 (F' := (9, [some (.int x)], [.int 57, .int x], h)) rfl ?_
    refine go_step rfl rfl ?_
    by_cases q2 : 57 < x
    · rw [if_pos q2, show rd_fig x = false by simp [rd_fig, q2]]
      refine go_run 1 (F' := (17, [some (.int x)], [.int 0], h)) rfl ?_
      exact go_end rfl rfl
    · rw [if_neg q2, show rd_fig x = true by simp [rd_fig, q1, q2]]
      refine go_run 2 (F' := (17, [some (.int x)], [.int 1], h)) rfl ?_
      exact go_end rfl rfl
theorem rm_isPty (x : Int32) : Go X d 144 (0, ie_en 144 [.int x], [], h) (.inl (some (.int (ty_b (rd_pty x))))) h := by
  refine go_run 2 (F' := (3, [some (.int x)], [.int 65, .int x], h)) rfl ?_
  refine go_step rfl rfl ?_
  by_cases q1 : x < 65
  · rw [if_pos q1, show rd_pty x = false by simp [rd_pty, q1]]
    refine go_run 1 (F' := (17, [some (.int x)], [.int 0], h)) rfl ?_
    exact go_end rfl rfl
  · rw [if_neg q1]
    refine go_run 2 (F' := (9, [some (.int x)], [.int 70, .int x], h)) rfl ?_
    refine go_step rfl rfl ?_
    by_cases q2 : 70 < x
    · rw [if_pos q2, show rd_pty x = false by simp [rd_pty, q2]]
      refine go_run 1 (F' := (17, [some (.int x)], [.int 0], h)) rfl ?_
      exact go_end rfl rfl
    · rw [if_neg q2, show rd_pty x = true by simp [rd_pty, q1, q2]]
      refine go_run 2 (F' := (17, [some (.int x)], [.int 1], h)) rfl ?_
      exact go_end rfl rfl
theorem rm_isSign (x : Int32) : Go X d 151 (0, ie_en 151 [.int x], [], h) (.inl (some (.int (ty_b (rd_op x))))) h := by
  have yes : rd_op x = true → Go X d 151 (42, [some (.int x)], [], h) (.inl (some (.int (ty_b (rd_op x))))) h := by
    intro e
    rw [e]
    refine go_run 2 (F' := (47, [some (.int x)], [.int 1], h)) rfl ?_
    exact go_end rfl rfl
  refine go_run 2 (F' := (3, [some (.int x)], [.int 43, .int x], h)) rfl ?_
  refine go_step rfl rfl ?_
  by_cases q0 : x = 43
  · rw [if_pos q0]
    exact yes (by simp [rd_op, q0])
  rw [if_neg q0]
  refine go_run 2 (F' := (9, [some (.int x)], [.int 45, .int x], h)) rfl ?_
  refine go_step rfl rfl ?_
  by_cases q1 : x = 45
  · rw [if_pos q1]
    exact yes (by simp [rd_op, q1])
  rw [if_neg q1]
  refine go_run 2 (F' := (15, [some (.int x)], [.int 42, .int x], h)) rfl ?_
  refine go_step rfl rfl ?_
  by_cases q2 : x = 42
  · rw [if_pos q2]
    exact yes (by simp [rd_op, q2])
  rw [if_neg q2]
  refine go_run 2 (F' := (21, [some (.int x)], [.int 47, .int x], h)) rfl ?_
  refine go_step rfl rfl ?_
  by_cases q3 : x = 47
  · rw [if_pos q3]
    exact yes (by simp [rd_op, q3])
  rw [if_neg q3]
  refine go_run 2 (F' := (27, [some (.int x)], [.int 37, .int x], h)) rfl ?_
  refine go_step rfl rfl ?_
  by_cases q4 : x = 37
  · rw [if_pos q4]
    exact yes (by simp [rd_op, q4])
  rw [if_neg q4]
  refine go_run 2 (F' := (33, [some (.int x)], [.int 60, .int x], h)) rfl ?_
  refine go_step rfl rfl ?_
  by_cases q5 : x = 60
  · rw [if_pos q5]
    exact yes (by simp [rd_op, q5])
  rw [if_neg q5]
  refine go_run 2 (F' := (39, [some (.int x)], [.int 61, .int x], h)) rfl ?_
  refine go_step rfl rfl ?_
  by_cases q6 : x = 61
  · rw [if_pos q6]
    exact yes (by simp [rd_op, q6])
  · rw [if_neg q6, show rd_op x = false by simp [rd_op, q0, q1, q2, q3, q4, q5, q6]]
    refine go_run 1 (F' := (47, [some (.int x)], [.int 0], h)) rfl ?_
    exact go_end rfl rfl
theorem rm_now (cm : h[134]? = some (mo t_ ty fa wh (Int32.ofNat c) it (Int32.ofNat P) (ty_b b) co de lo st sz tp am bm mn rm sp be wo)) (ct : h[136]? = some (.inl (0, 200, .inl f))) (hc : c ≤ 200) (hP : P ≤ c) : Go X d 138 (0, ie_en 138 [.ref 134], [], h) (.inl (some (.int (rd_la f c P)))) h := by
  refine go_run 1 (F' := (1, [some (.ref 134)], [.ref 134], h)) rfl ?_
  refine go_gf rfl cm rfl ?_
  refine go_run 1 (F' := (5, [some (.ref 134)], [.ref 134, .int (Int32.ofNat P)], h)) rfl ?_
  refine go_gf rfl cm rfl ?_
  refine go_step rfl rfl ?_
  unfold rd_la
  by_cases q : P < c
  · rw [if_neg (fun z => by have := (i_le (by omega) (by omega)).mp z; omega), if_pos q]
    refine go_run 1 (F' := (12, [some (.ref 134)], [.ref 134], h)) rfl ?_
    refine go_gf rfl cm rfl ?_
    refine go_run 1 (F' := (16, [some (.ref 134)], [.ref 134, .ref 136], h)) rfl ?_
    refine go_gf rfl cm rfl ?_
    refine go_run 0 (F' := (19, [some (.ref 134)], [.int (Int32.ofNat P), .ref 136], h)) rfl ?_
    refine go_iald rfl (by decide) ct ?_ (congrArg f (i_n P (by omega)).2) ?_
    · rw [(i_n P (by omega)).1]; omega
    refine go_run 1 (F' := (24, [some (.ref 134)], [.int (f P)], h)) rfl ?_
    exact go_end rfl rfl
  · rw [if_pos ((i_le (by omega) (by omega)).mpr (by omega)), if_neg q]
    refine go_run 1 (F' := (24, [some (.ref 134)], [.int 0], h)) rfl ?_
    exact go_end rfl rfl
theorem rm_want {x : Int32} (cm : h[134]? = some (mo t_ ty fa wh (Int32.ofNat c) it (Int32.ofNat P) (ty_b b) co de lo st sz tp am bm mn rm sp be wo)) (ct : h[136]? = some (.inl (0, 200, .inl f))) (hc : c ≤ 200) (hP : P ≤ c) : Go X d 141 (0, ie_en 141 [.ref 134, .int x], [], h) (.inl none) (List.set h 134 (mo t_ ty fa wh (Int32.ofNat c) it (Int32.ofNat (mw_want f c x (P, b)).1) (ty_b (mw_want f c x (P, b)).2) co de lo st sz tp am bm mn rm sp be wo)) := by
  refine go_run 1 (F' := (1, [some (.ref 134), some (.int x)], [.ref 134], h)) rfl ?_
  refine go_gf rfl cm rfl ?_
  cases b with
  | true =>
    have e : mw_want f c x (P, true) = (P, true) := by unfold mw_want; rw [if_pos rfl]
    rw [e]
    refine go_run 1 (F' := (18, [some (.ref 134), some (.int x)], [], h)) rfl ?_
    show Go X d 141 _ _ (List.set h 134 (mo t_ ty fa wh (Int32.ofNat c) it (Int32.ofNat P) (ty_b true) co de lo st sz tp am bm mn rm sp be wo))
    rw [set_same cm]
    exact go_end rfl rfl
  | false =>
    refine go_run 2 (F' := (8, [some (.ref 134), some (.int x)], [.ref 134], h)) rfl ?_
    refine go_gf rfl cm rfl ?_
    refine go_run 1 (F' := (12, [some (.ref 134), some (.int x)], [.ref 134, .int (Int32.ofNat P)], h)) rfl ?_
    refine go_gf rfl cm rfl ?_
    refine go_step rfl rfl ?_
    by_cases q : P < c
    · rw [if_pos ((i_lt (by omega) (by omega)).mpr q)]
      refine go_run 1 (F' := (20, [some (.ref 134), some (.int x)], [.ref 134], h)) rfl ?_
      refine go_gf rfl cm rfl ?_
      refine go_run 1 (F' := (24, [some (.ref 134), some (.int x)], [.ref 134, .ref 136], h)) rfl ?_
      refine go_gf rfl cm rfl ?_
      refine go_run 0 (F' := (27, [some (.ref 134), some (.int x)], [.int (Int32.ofNat P), .ref 136], h)) rfl ?_
      refine go_iald rfl (by decide) ct ?_ (congrArg f (i_n P (by omega)).2) ?_
      · rw [(i_n P (by omega)).1]; omega
      refine go_run 1 (F' := (29, [some (.ref 134), some (.int x)], [.int x, .int (f P)], h)) rfl ?_
      refine go_step rfl rfl ?_
      by_cases q2 : f P = x
      · rw [if_pos q2]
        have e : mw_want f c x (P, false) = (P + 1, false) := by unfold mw_want; rw [if_neg (fun z => Bool.noConfusion z), if_pos q, if_pos q2]
        rw [e]
        refine go_run 2 (F' := (34, [some (.ref 134), some (.int x)], [.ref 134, .ref 134], h)) rfl ?_
        refine go_gf rfl cm rfl ?_
        refine go_run 2 (F' := (39, [some (.ref 134), some (.int x)], [.int (Int32.ofNat P + Int32.ofNat 1), .ref 134], h)) rfl ?_
        rw [ty_add]
        refine go_pf rfl cm (Nat.le_of_ble_eq_true rfl) rfl rfl ?_
        refine go_run 1 (F' := (50, [some (.ref 134), some (.int x)], [], List.set h 134 (mo t_ ty fa wh (Int32.ofNat c) it (Int32.ofNat (P + 1)) (ty_b false) co de lo st sz tp am bm mn rm sp be wo))) rfl ?_
        exact go_end rfl rfl
      · rw [if_neg q2]
        have e : mw_want f c x (P, false) = (P, true) := by unfold mw_want; rw [if_neg (fun z => Bool.noConfusion z), if_pos q, if_neg q2]
        rw [e]
        refine go_run 2 (F' := (47, [some (.ref 134), some (.int x)], [.int 1, .ref 134], h)) rfl ?_
        refine go_pf rfl cm (Nat.le_of_ble_eq_true rfl) rfl rfl ?_
        refine go_run 0 (F' := (50, [some (.ref 134), some (.int x)], [], List.set h 134 (mo t_ ty fa wh (Int32.ofNat c) it (Int32.ofNat P) (ty_b true) co de lo st sz tp am bm mn rm sp be wo))) rfl ?_
        exact go_end rfl rfl
    · rw [if_neg (fun z => q ((i_lt (by omega) (by omega)).mp z))]
      have e : mw_want f c x (P, false) = (P, false) := by unfold mw_want; rw [if_neg (fun z => Bool.noConfusion z), if_neg q]
      rw [e]
      show Go X d 141 _ _ (List.set h 134 (mo t_ ty fa wh (Int32.ofNat c) it (Int32.ofNat P) (ty_b false) co de lo st sz tp am bm mn rm sp be wo))
      rw [set_same cm]
      exact go_end rfl rfl
end MR
