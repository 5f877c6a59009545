def x_stepOf (n : Nat) (I : Nat → Int32) (A : Nat → Nat → Int32) (a1 : Int32) : Option xR := (if ib a1 6 then (if (A 36) (Int32.toNatClampNeg a1) < (A 27) (Int32.toNatClampNeg a1) then (xb (x_charAt I A a1 ((A 36) (Int32.toNatClampNeg a1))) fun I1 A1 v1 => (if v1 = 33 then (xb (x_stepTell n I1 A1 a1 ((A 36) (Int32.toNatClampNeg a1))) fun I2 A2 v2 => (if I2 18 = 0 then (if v2 = 1 then (some (upd I2 18 1, A2, v2)) else (some (upd I2 18 0, A2, v2))) else (some (upd I2 18 1, A2, v2)))) else (if v1 = 63 then (xb (x_stepChoice n I1 A1 a1 ((A 36) (Int32.toNatClampNeg a1))) fun I3 A3 v3 => (if I3 18 = 0 then (if v3 = 1 then (some (upd I3 18 1, A3, v3)) else (some (upd I3 18 0, A3, v3))) else (some (upd I3 18 1, A3, v3)))) else (if v1 = 64 then (xb (x_stepRound n I1 A1 a1 ((A 36) (Int32.toNatClampNeg a1))) fun I4 A4 v4 => (if I4 18 = 0 then (if v4 = 1 then (some (upd I4 18 1, A4, v4)) else (some (upd I4 18 0, A4, v4))) else (some (upd I4 18 1, A4, v4)))) else (if ty_b (rd_pty v1) = 0 then (xb (x_stepValue n I1 A1 a1 ((A 36) (Int32.toNatClampNeg a1))) fun I5 A5 v5 => (if I5 18 = 0 then (if v5 = 1 then (some (upd I5 18 1, A5, v5)) else (some (upd I5 18 0, A5, v5))) else (some (upd I5 18 1, A5, v5)))) else (xb (x_stepMessage n I1 A1 a1 ((A 36) (Int32.toNatClampNeg a1))) fun I6 A6 v6 => (if I6 18 = 0 then (if v6 = 1 then (some (upd I6 18 1, A6, v6)) else (some (upd I6 18 0, A6, v6))) else (some (upd I6 18 1, A6, v6))))))))) else (some (I, A, 2))) else none)
theorem g_stepOf {X : ie_X} {d : Nat} {pre post : ie_H} (hp : pre.length = 134) {n : Nat} {I : Nat → Int32} {A : Nat → Nat → Int32} {a1 : Int32} {I' : Nat → Int32} {A' : Nat → Nat → Int32} {r : Int32} (hm : x_stepOf n I A a1 = some (I', A', r)) : Go X (d + 6) 190 (0, ie_en 190 [.ref 134, .int a1], [], Wm pre post I A) (.inl (some (.int r))) (Wm pre post I' A') := by
  unfold x_stepOf at hm
  refine go_run 0 (F' := (0, [some (.ref 134), some (.int a1), none, none, none], [], Wm pre post I A)) rfl ?_
  refine go_run 1 (F' := (1, [some (.ref 134), some (.int a1), none, none, none], [.ref 134], Wm pre post I A)) rfl ?_
  refine go_gf rfl (w_0 hp) rfl ?_
  refine go_run 1 (F' := (5, [some (.ref 134), some (.int a1), none, none, none], [.int a1, .ref 170], Wm pre post I A)) rfl ?_
  obtain ⟨b1, hm⟩ := gd hm
  refine go_iald rfl (by decide) (w_36 hp) b1 rfl ?_
  refine go_run 3 (F' := (9, [some (.ref 134), some (.int a1), some (.int ((A 36) (Int32.toNatClampNeg a1))), none, none], [.ref 134, .int ((A 36) (Int32.toNatClampNeg a1))], Wm pre post I A)) rfl ?_
  refine go_gf rfl (w_0 hp) rfl ?_
  refine go_run 1 (F' := (13, [some (.ref 134), some (.int a1), some (.int ((A 36) (Int32.toNatClampNeg a1))), none, none], [.int a1, .ref 161, .int ((A 36) (Int32.toNatClampNeg a1))], Wm pre post I A)) rfl ?_
  refine go_iald rfl (by decide) (w_27 hp) b1 rfl ?_
  refine go_run 0 (F' := (14, [some (.ref 134), some (.int a1), some (.int ((A 36) (Int32.toNatClampNeg a1))), none, none], [.int ((A 27) (Int32.toNatClampNeg a1)), .int ((A 36) (Int32.toNatClampNeg a1))], Wm pre post I A)) rfl ?_
  refine go_step rfl rfl ?_
  by_cases q2 : (A 36) (Int32.toNatClampNeg a1) < (A 27) (Int32.toNatClampNeg a1)
  · rw [if_pos q2] at hm ⊢
    refine go_run 0 (F' := (19, [some (.ref 134), some (.int a1), some (.int ((A 36) (Int32.toNatClampNeg a1))), none, none], [], Wm pre post I A)) rfl ?_
    refine go_run 3 (F' := (22, [some (.ref 134), some (.int a1), some (.int ((A 36) (Int32.toNatClampNeg a1))), none, none], [.int ((A 36) (Int32.toNatClampNeg a1)), .int a1, .ref 134], Wm pre post I A)) rfl ?_
    obtain ⟨I1, A1, v1, e1, hm⟩ := xb_inv hm
    refine go_call (m' := 191) (v := some (.int v1)) (h1 := Wm pre post I1 A1) rfl (by simp only [ie_step, ie_iv, List.drop, w_0 hp]; rfl) ⟨rfl, Nat.le_of_ble_eq_true rfl⟩ (g_charAt (d := d + 5) hp e1) ?_
    refine go_run 0 (F' := (25, [some (.ref 134), some (.int a1), some (.int ((A 36) (Int32.toNatClampNeg a1))), none, none], [.int v1], Wm pre post I1 A1)) rfl ?_
    refine go_run 3 (F' := (29, [some (.ref 134), some (.int a1), some (.int ((A 36) (Int32.toNatClampNeg a1))), some (.int v1), none], [.int 33, .int v1], Wm pre post I1 A1)) rfl ?_
    refine go_step rfl rfl ?_
    by_cases q3 : v1 = 33
    · rw [if_pos q3] at hm ⊢
      refine go_run 0 (F' := (32, [some (.ref 134), some (.int a1), some (.int ((A 36) (Int32.toNatClampNeg a1))), some (.int v1), none], [], Wm pre post I1 A1)) rfl ?_
      refine go_run 3 (F' := (35, [some (.ref 134), some (.int a1), some (.int ((A 36) (Int32.toNatClampNeg a1))), some (.int v1), none], [.int ((A 36) (Int32.toNatClampNeg a1)), .int a1, .ref 134], Wm pre post I1 A1)) rfl ?_
      obtain ⟨I2, A2, v2, e2, hm⟩ := xb_inv hm
      refine go_call (m' := 192) (v := some (.int v2)) (h1 := Wm pre post I2 A2) rfl (by simp only [ie_step, ie_iv, List.drop, w_0 hp]; rfl) ⟨rfl, Nat.le_of_ble_eq_true rfl⟩ (g_stepTell (d := d) hp e2) ?_
      refine go_run 0 (F' := (38, [some (.ref 134), some (.int a1), some (.int ((A 36) (Int32.toNatClampNeg a1))), some (.int v1), none], [.int v2], Wm pre post I2 A2)) rfl ?_
      refine go_run 4 (F' := (97, [some (.ref 134), some (.int a1), some (.int ((A 36) (Int32.toNatClampNeg a1))), some (.int v1), some (.int v2)], [.ref 134, .ref 134], Wm pre post I2 A2)) rfl ?_
      refine go_gf rfl (w_0 hp) rfl ?_
      refine go_run 0 (F' := (100, [some (.ref 134), some (.int a1), some (.int ((A 36) (Int32.toNatClampNeg a1))), some (.int v1), some (.int v2)], [.int (I2 18), .ref 134], Wm pre post I2 A2)) rfl ?_
      refine go_step rfl rfl ?_
      by_cases q4 : I2 18 = 0
      · rw [if_pos q4] at hm ⊢
        refine go_run 0 (F' := (103, [some (.ref 134), some (.int a1), some (.int ((A 36) (Int32.toNatClampNeg a1))), some (.int v1), some (.int v2)], [.ref 134], Wm pre post I2 A2)) rfl ?_
        refine go_run 2 (F' := (106, [some (.ref 134), some (.int a1), some (.int ((A 36) (Int32.toNatClampNeg a1))), some (.int v1), some (.int v2)], [.int 1, .int v2, .ref 134], Wm pre post I2 A2)) rfl ?_
        refine go_step rfl rfl ?_
        by_cases q5 : v2 = 1
        · rw [if_pos q5] at hm ⊢
          refine go_run 0 (F' := (109, [some (.ref 134), some (.int a1), some (.int ((A 36) (Int32.toNatClampNeg a1))), some (.int v1), some (.int v2)], [.ref 134], Wm pre post I2 A2)) rfl ?_
          refine go_run 2 (F' := (114, [some (.ref 134), some (.int a1), some (.int ((A 36) (Int32.toNatClampNeg a1))), some (.int v1), some (.int v2)], [.int 1, .ref 134], Wm pre post I2 A2)) rfl ?_
          refine go_pf rfl (w_0 hp) (Nat.le_of_ble_eq_true rfl) rfl (wo_18 hp) ?_
          refine go_run 1 (F' := (119, [some (.ref 134), some (.int a1), some (.int ((A 36) (Int32.toNatClampNeg a1))), some (.int v1), some (.int v2)], [.int v2], Wm pre post (upd I2 18 1) A2)) rfl ?_
          cases hm
          exact go_end rfl rfl
        · rw [if_neg q5] at hm ⊢
          refine go_run 0 (F' := (113, [some (.ref 134), some (.int a1), some (.int ((A 36) (Int32.toNatClampNeg a1))), some (.int v1), some (.int v2)], [.ref 134], Wm pre post I2 A2)) rfl ?_
          refine go_run 1 (F' := (114, [some (.ref 134), some (.int a1), some (.int ((A 36) (Int32.toNatClampNeg a1))), some (.int v1), some (.int v2)], [.int 0, .ref 134], Wm pre post I2 A2)) rfl ?_
          refine go_pf rfl (w_0 hp) (Nat.le_of_ble_eq_true rfl) rfl (wo_18 hp) ?_
          refine go_run 1 (F' := (119, [some (.ref 134), some (.int a1), some (.int ((A 36) (Int32.toNatClampNeg a1))), some (.int v1), some (.int v2)], [.int v2], Wm pre post (upd I2 18 0) A2)) rfl ?_
          cases hm
          exact go_end rfl rfl
      · rw [if_neg q4] at hm ⊢
        refine go_run 0 (F' := (109, [some (.ref 134), some (.int a1), some (.int ((A 36) (Int32.toNatClampNeg a1))), some (.int v1), some (.int v2)], [.ref 134], Wm pre post I2 A2)) rfl ?_
        refine go_run 2 (F' := (114, [some (.ref 134), some (.int a1), some (.int ((A 36) (Int32.toNatClampNeg a1))), some (.int v1), some (.int v2)], [.int 1, .ref 134], Wm pre post I2 A2)) rfl ?_
        refine go_pf rfl (w_0 hp) (Nat.le_of_ble_eq_true rfl) rfl (wo_18 hp) ?_
        refine go_run 1 (F' := (119, [some (.ref 134), some (.int a1), some (.int ((A 36) (Int32.toNatClampNeg a1))), some (.int v1), some (.int v2)], [.int v2], Wm pre post (upd I2 18 1) A2)) rfl ?_
        cases hm
        exact go_end rfl rfl
    · rw [if_neg q3] at hm ⊢
      refine go_run 0 (F' := (41, [some (.ref 134), some (.int a1), some (.int ((A 36) (Int32.toNatClampNeg a1))), some (.int v1), none], [], Wm pre post I1 A1)) rfl ?_
      refine go_run 2 (F' := (44, [some (.ref 134), some (.int a1), some (.int ((A 36) (Int32.toNatClampNeg a1))), some (.int v1), none], [.int 63, .int v1], Wm pre post I1 A1)) rfl ?_
      refine go_step rfl rfl ?_
      by_cases q6 : v1 = 63
      · rw [if_pos q6] at hm ⊢
        refine go_run 0 (F' := (47, [some (.ref 134), some (.int a1), some (.int ((A 36) (Int32.toNatClampNeg a1))), some (.int v1), none], [], Wm pre post I1 A1)) rfl ?_
        refine go_run 3 (F' := (50, [some (.ref 134), some (.int a1), some (.int ((A 36) (Int32.toNatClampNeg a1))), some (.int v1), none], [.int ((A 36) (Int32.toNatClampNeg a1)), .int a1, .ref 134], Wm pre post I1 A1)) rfl ?_
        obtain ⟨I3, A3, v3, e3, hm⟩ := xb_inv hm
        refine go_call (m' := 201) (v := some (.int v3)) (h1 := Wm pre post I3 A3) rfl (by simp only [ie_step, ie_iv, List.drop, w_0 hp]; rfl) ⟨rfl, Nat.le_of_ble_eq_true rfl⟩ (g_stepChoice (d := d) hp e3) ?_
        refine go_run 0 (F' := (53, [some (.ref 134), some (.int a1), some (.int ((A 36) (Int32.toNatClampNeg a1))), some (.int v1), none], [.int v3], Wm pre post I3 A3)) rfl ?_
        refine go_run 4 (F' := (97, [some (.ref 134), some (.int a1), some (.int ((A 36) (Int32.toNatClampNeg a1))), some (.int v1), some (.int v3)], [.ref 134, .ref 134], Wm pre post I3 A3)) rfl ?_
        refine go_gf rfl (w_0 hp) rfl ?_
        refine go_run 0 (F' := (100, [some (.ref 134), some (.int a1), some (.int ((A 36) (Int32.toNatClampNeg a1))), some (.int v1), some (.int v3)], [.int (I3 18), .ref 134], Wm pre post I3 A3)) rfl ?_
        refine go_step rfl rfl ?_
        by_cases q7 : I3 18 = 0
        · rw [if_pos q7] at hm ⊢
          refine go_run 0 (F' := (103, [some (.ref 134), some (.int a1), some (.int ((A 36) (Int32.toNatClampNeg a1))), some (.int v1), some (.int v3)], [.ref 134], Wm pre post I3 A3)) rfl ?_
          refine go_run 2 (F' := (106, [some (.ref 134), some (.int a1), some (.int ((A 36) (Int32.toNatClampNeg a1))), some (.int v1), some (.int v3)], [.int 1, .int v3, .ref 134], Wm pre post I3 A3)) rfl ?_
          refine go_step rfl rfl ?_
          by_cases q8 : v3 = 1
          · rw [if_pos q8] at hm ⊢
            refine go_run 0 (F' := (109, [some (.ref 134), some (.int a1), some (.int ((A 36) (Int32.toNatClampNeg a1))), some (.int v1), some (.int v3)], [.ref 134], Wm pre post I3 A3)) rfl ?_
            refine go_run 2 (F' := (114, [some (.ref 134), some (.int a1), some (.int ((A 36) (Int32.toNatClampNeg a1))), some (.int v1), some (.int v3)], [.int 1, .ref 134], Wm pre post I3 A3)) rfl ?_
            refine go_pf rfl (w_0 hp) (Nat.le_of_ble_eq_true rfl) rfl (wo_18 hp) ?_
            refine go_run 1 (F' := (119, [some (.ref 134), some (.int a1), some (.int ((A 36) (Int32.toNatClampNeg a1))), some (.int v1), some (.int v3)], [.int v3], Wm pre post (upd I3 18 1) A3)) rfl ?_
            cases hm
            exact go_end rfl rfl
          · rw [if_neg q8] at hm ⊢
            refine go_run 0 (F' := (113, [some (.ref 134), some (.int a1), some (.int ((A 36) (Int32.toNatClampNeg a1))), some (.int v1), some (.int v3)], [.ref 134], Wm pre post I3 A3)) rfl ?_
            refine go_run 1 (F' := (114, [some (.ref 134), some (.int a1), some (.int ((A 36) (Int32.toNatClampNeg a1))), some (.int v1), some (.int v3)], [.int 0, .ref 134], Wm pre post I3 A3)) rfl ?_
            refine go_pf rfl (w_0 hp) (Nat.le_of_ble_eq_true rfl) rfl (wo_18 hp) ?_
            refine go_run 1 (F' := (119, [some (.ref 134), some (.int a1), some (.int ((A 36) (Int32.toNatClampNeg a1))), some (.int v1), some (.int v3)], [.int v3], Wm pre post (upd I3 18 0) A3)) rfl ?_
            cases hm
            exact go_end rfl rfl
        · rw [if_neg q7] at hm ⊢
          refine go_run 0 (F' := (109, [some (.ref 134), some (.int a1), some (.int ((A 36) (Int32.toNatClampNeg a1))), some (.int v1), some (.int v3)], [.ref 134], Wm pre post I3 A3)) rfl ?_
          refine go_run 2 (F' := (114, [some (.ref 134), some (.int a1), some (.int ((A 36) (Int32.toNatClampNeg a1))), some (.int v1), some (.int v3)], [.int 1, .ref 134], Wm pre post I3 A3)) rfl ?_
          refine go_pf rfl (w_0 hp) (Nat.le_of_ble_eq_true rfl) rfl (wo_18 hp) ?_
          refine go_run 1 (F' := (119, [some (.ref 134), some (.int a1), some (.int ((A 36) (Int32.toNatClampNeg a1))), some (.int v1), some (.int v3)], [.int v3], Wm pre post (upd I3 18 1) A3)) rfl ?_
          cases hm
          exact go_end rfl rfl
      · rw [if_neg q6] at hm ⊢
        refine go_run 0 (F' := (56, [some (.ref 134), some (.int a1), some (.int ((A 36) (Int32.toNatClampNeg a1))), some (.int v1), none], [], Wm pre post I1 A1)) rfl ?_
        refine go_run 2 (F' := (59, [some (.ref 134), some (.int a1), some (.int ((A 36) (Int32.toNatClampNeg a1))), some (.int v1), none], [.int 64, .int v1], Wm pre post I1 A1)) rfl ?_
        refine go_step rfl rfl ?_
        by_cases q9 : v1 = 64
        · rw [if_pos q9] at hm ⊢
          refine go_run 0 (F' := (62, [some (.ref 134), some (.int a1), some (.int ((A 36) (Int32.toNatClampNeg a1))), some (.int v1), none], [], Wm pre post I1 A1)) rfl ?_
          refine go_run 3 (F' := (65, [some (.ref 134), some (.int a1), some (.int ((A 36) (Int32.toNatClampNeg a1))), some (.int v1), none], [.int ((A 36) (Int32.toNatClampNeg a1)), .int a1, .ref 134], Wm pre post I1 A1)) rfl ?_
          obtain ⟨I4, A4, v4, e4, hm⟩ := xb_inv hm
          refine go_call (m' := 205) (v := some (.int v4)) (h1 := Wm pre post I4 A4) rfl (by simp only [ie_step, ie_iv, List.drop, w_0 hp]; rfl) ⟨rfl, Nat.le_of_ble_eq_true rfl⟩ (g_stepRound (d := d) hp e4) ?_
          refine go_run 0 (F' := (68, [some (.ref 134), some (.int a1), some (.int ((A 36) (Int32.toNatClampNeg a1))), some (.int v1), none], [.int v4], Wm pre post I4 A4)) rfl ?_
          refine go_run 4 (F' := (97, [some (.ref 134), some (.int a1), some (.int ((A 36) (Int32.toNatClampNeg a1))), some (.int v1), some (.int v4)], [.ref 134, .ref 134], Wm pre post I4 A4)) rfl ?_
          refine go_gf rfl (w_0 hp) rfl ?_
          refine go_run 0 (F' := (100, [some (.ref 134), some (.int a1), some (.int ((A 36) (Int32.toNatClampNeg a1))), some (.int v1), some (.int v4)], [.int (I4 18), .ref 134], Wm pre post I4 A4)) rfl ?_
          refine go_step rfl rfl ?_
          by_cases q10 : I4 18 = 0
          · rw [if_pos q10] at hm ⊢
            refine go_run 0 (F' := (103, [some (.ref 134), some (.int a1), some (.int ((A 36) (Int32.toNatClampNeg a1))), some (.int v1), some (.int v4)], [.ref 134], Wm pre post I4 A4)) rfl ?_
            refine go_run 2 (F' := (106, [some (.ref 134), some (.int a1), some (.int ((A 36) (Int32.toNatClampNeg a1))), some (.int v1), some (.int v4)], [.int 1, .int v4, .ref 134], Wm pre post I4 A4)) rfl ?_
            refine go_step rfl rfl ?_
            by_cases q11 : v4 = 1
            · rw [if_pos q11] at hm ⊢
              refine go_run 0 (F' := (109, [some (.ref 134), some (.int a1), some (.int ((A 36) (Int32.toNatClampNeg a1))), some (.int v1), some (.int v4)], [.ref 134], Wm pre post I4 A4)) rfl ?_
              refine go_run 2 (F' := (114, [some (.ref 134), some (.int a1), some (.int ((A 36) (Int32.toNatClampNeg a1))), some (.int v1), some (.int v4)], [.int 1, .ref 134], Wm pre post I4 A4)) rfl ?_
              refine go_pf rfl (w_0 hp) (Nat.le_of_ble_eq_true rfl) rfl (wo_18 hp) ?_
              refine go_run 1 (F' := (119, [some (.ref 134), some (.int a1), some (.int ((A 36) (Int32.toNatClampNeg a1))), some (.int v1), some (.int v4)], [.int v4], Wm pre post (upd I4 18 1) A4)) rfl ?_
              cases hm
              exact go_end rfl rfl
            · rw [if_neg q11] at hm ⊢
              refine go_run 0 (F' := (113, [some (.ref 134), some (.int a1), some (.int ((A 36) (Int32.toNatClampNeg a1))), some (.int v1), some (.int v4)], [.ref 134], Wm pre post I4 A4)) rfl ?_
              refine go_run 1 (F' := (114, [some (.ref 134), some (.int a1), some (.int ((A 36) (Int32.toNatClampNeg a1))), some (.int v1), some (.int v4)], [.int 0, .ref 134], Wm pre post I4 A4)) rfl ?_
              refine go_pf rfl (w_0 hp) (Nat.le_of_ble_eq_true rfl) rfl (wo_18 hp) ?_
              refine go_run 1 (F' := (119, [some (.ref 134), some (.int a1), some (.int ((A 36) (Int32.toNatClampNeg a1))), some (.int v1), some (.int v4)], [.int v4], Wm pre post (upd I4 18 0) A4)) rfl ?_
              cases hm
              exact go_end rfl rfl
          · rw [if_neg q10] at hm ⊢
            refine go_run 0 (F' := (109, [some (.ref 134), some (.int a1), some (.int ((A 36) (Int32.toNatClampNeg a1))), some (.int v1), some (.int v4)], [.ref 134], Wm pre post I4 A4)) rfl ?_
            refine go_run 2 (F' := (114, [some (.ref 134), some (.int a1), some (.int ((A 36) (Int32.toNatClampNeg a1))), some (.int v1), some (.int v4)], [.int 1, .ref 134], Wm pre post I4 A4)) rfl ?_
            refine go_pf rfl (w_0 hp) (Nat.le_of_ble_eq_true rfl) rfl (wo_18 hp) ?_
            refine go_run 1 (F' := (119, [some (.ref 134), some (.int a1), some (.int ((A 36) (Int32.toNatClampNeg a1))), some (.int v1), some (.int v4)], [.int v4], Wm pre post (upd I4 18 1) A4)) rfl ?_
            cases hm
            exact go_end rfl rfl
        · rw [if_neg q9] at hm ⊢
          refine go_run 0 (F' := (71, [some (.ref 134), some (.int a1), some (.int ((A 36) (Int32.toNatClampNeg a1))), some (.int v1), none], [], Wm pre post I1 A1)) rfl ?_
          refine go_run 1 (F' := (72, [some (.ref 134), some (.int a1), some (.int ((A 36) (Int32.toNatClampNeg a1))), some (.int v1), none], [.int v1], Wm pre post I1 A1)) rfl ?_
          refine go_call (m' := 144) (v := some (.int (ty_b (rd_pty v1)))) (h1 := Wm pre post I1 A1) rfl rfl ⟨rfl, Nat.le_of_ble_eq_true rfl⟩ (rm_isPty _) ?_
          refine go_run 0 (F' := (75, [some (.ref 134), some (.int a1), some (.int ((A 36) (Int32.toNatClampNeg a1))), some (.int v1), none], [.int (ty_b (rd_pty v1))], Wm pre post I1 A1)) rfl ?_
          refine go_run 0 (F' := (75, [some (.ref 134), some (.int a1), some (.int ((A 36) (Int32.toNatClampNeg a1))), some (.int v1), none], [.int (ty_b (rd_pty v1))], Wm pre post I1 A1)) rfl ?_
          refine go_step rfl rfl ?_
          by_cases q12 : ty_b (rd_pty v1) = 0
          · rw [if_pos q12] at hm ⊢
            refine go_run 0 (F' := (87, [some (.ref 134), some (.int a1), some (.int ((A 36) (Int32.toNatClampNeg a1))), some (.int v1), none], [], Wm pre post I1 A1)) rfl ?_
            refine go_run 3 (F' := (90, [some (.ref 134), some (.int a1), some (.int ((A 36) (Int32.toNatClampNeg a1))), some (.int v1), none], [.int ((A 36) (Int32.toNatClampNeg a1)), .int a1, .ref 134], Wm pre post I1 A1)) rfl ?_
            obtain ⟨I5, A5, v5, e5, hm⟩ := xb_inv hm
            refine go_call (m' := 208) (v := some (.int v5)) (h1 := Wm pre post I5 A5) rfl (by simp only [ie_step, ie_iv, List.drop, w_0 hp]; rfl) ⟨rfl, Nat.le_of_ble_eq_true rfl⟩ (g_stepValue (d := d) hp e5) ?_
            refine go_run 0 (F' := (93, [some (.ref 134), some (.int a1), some (.int ((A 36) (Int32.toNatClampNeg a1))), some (.int v1), none], [.int v5], Wm pre post I5 A5)) rfl ?_
            refine go_run 3 (F' := (97, [some (.ref 134), some (.int a1), some (.int ((A 36) (Int32.toNatClampNeg a1))), some (.int v1), some (.int v5)], [.ref 134, .ref 134], Wm pre post I5 A5)) rfl ?_
            refine go_gf rfl (w_0 hp) rfl ?_
            refine go_run 0 (F' := (100, [some (.ref 134), some (.int a1), some (.int ((A 36) (Int32.toNatClampNeg a1))), some (.int v1), some (.int v5)], [.int (I5 18), .ref 134], Wm pre post I5 A5)) rfl ?_
            refine go_step rfl rfl ?_
            by_cases q13 : I5 18 = 0
            · rw [if_pos q13] at hm ⊢
              refine go_run 0 (F' := (103, [some (.ref 134), some (.int a1), some (.int ((A 36) (Int32.toNatClampNeg a1))), some (.int v1), some (.int v5)], [.ref 134], Wm pre post I5 A5)) rfl ?_
              refine go_run 2 (F' := (106, [some (.ref 134), some (.int a1), some (.int ((A 36) (Int32.toNatClampNeg a1))), some (.int v1), some (.int v5)], [.int 1, .int v5, .ref 134], Wm pre post I5 A5)) rfl ?_
              refine go_step rfl rfl ?_
              by_cases q14 : v5 = 1
              · rw [if_pos q14] at hm ⊢
                refine go_run 0 (F' := (109, [some (.ref 134), some (.int a1), some (.int ((A 36) (Int32.toNatClampNeg a1))), some (.int v1), some (.int v5)], [.ref 134], Wm pre post I5 A5)) rfl ?_
                refine go_run 2 (F' := (114, [some (.ref 134), some (.int a1), some (.int ((A 36) (Int32.toNatClampNeg a1))), some (.int v1), some (.int v5)], [.int 1, .ref 134], Wm pre post I5 A5)) rfl ?_
                refine go_pf rfl (w_0 hp) (Nat.le_of_ble_eq_true rfl) rfl (wo_18 hp) ?_
                refine go_run 1 (F' := (119, [some (.ref 134), some (.int a1), some (.int ((A 36) (Int32.toNatClampNeg a1))), some (.int v1), some (.int v5)], [.int v5], Wm pre post (upd I5 18 1) A5)) rfl ?_
                cases hm
                exact go_end rfl rfl
              · rw [if_neg q14] at hm ⊢
                refine go_run 0 (F' := (113, [some (.ref 134), some (.int a1), some (.int ((A 36) (Int32.toNatClampNeg a1))), some (.int v1), some (.int v5)], [.ref 134], Wm pre post I5 A5)) rfl ?_
                refine go_run 1 (F' := (114, [some (.ref 134), some (.int a1), some (.int ((A 36) (Int32.toNatClampNeg a1))), some (.int v1), some (.int v5)], [.int 0, .ref 134], Wm pre post I5 A5)) rfl ?_
                refine go_pf rfl (w_0 hp) (Nat.le_of_ble_eq_true rfl) rfl (wo_18 hp) ?_
                refine go_run 1 (F' := (119, [some (.ref 134), some (.int a1), some (.int ((A 36) (Int32.toNatClampNeg a1))), some (.int v1), some (.int v5)], [.int v5], Wm pre post (upd I5 18 0) A5)) rfl ?_
                cases hm
                exact go_end rfl rfl
            · rw [if_neg q13] at hm ⊢
              refine go_run 0 (F' := (109, [some (.ref 134), some (.int a1), some (.int ((A 36) (Int32.toNatClampNeg a1))), some (.int v1), some (.int v5)], [.ref 134], Wm pre post I5 A5)) rfl ?_
              refine go_run 2 (F' := (114, [some (.ref 134), some (.int a1), some (.int ((A 36) (Int32.toNatClampNeg a1))), some (.int v1), some (.int v5)], [.int 1, .ref 134], Wm pre post I5 A5)) rfl ?_
              refine go_pf rfl (w_0 hp) (Nat.le_of_ble_eq_true rfl) rfl (wo_18 hp) ?_
              refine go_run 1 (F' := (119, [some (.ref 134), some (.int a1), some (.int ((A 36) (Int32.toNatClampNeg a1))), some (.int v1), some (.int v5)], [.int v5], Wm pre post (upd I5 18 1) A5)) rfl ?_
              cases hm
              exact go_end rfl rfl
          · rw [if_neg q12] at hm ⊢
            refine go_run 0 (F' := (78, [some (.ref 134), some (.int a1), some (.int ((A 36) (Int32.toNatClampNeg a1))), some (.int v1), none], [], Wm pre post I1 A1)) rfl ?_
            refine go_run 3 (F' := (81, [some (.ref 134), some (.int a1), some (.int ((A 36) (Int32.toNatClampNeg a1))), some (.int v1), none], [.int ((A 36) (Int32.toNatClampNeg a1)), .int a1, .ref 134], Wm pre post I1 A1)) rfl ?_
            obtain ⟨I6, A6, v6, e6, hm⟩ := xb_inv hm
            refine go_call (m' := 206) (v := some (.int v6)) (h1 := Wm pre post I6 A6) rfl (by simp only [ie_step, ie_iv, List.drop, w_0 hp]; rfl) ⟨rfl, Nat.le_of_ble_eq_true rfl⟩ (g_stepMessage (d := d) hp e6) ?_
            refine go_run 0 (F' := (84, [some (.ref 134), some (.int a1), some (.int ((A 36) (Int32.toNatClampNeg a1))), some (.int v1), none], [.int v6], Wm pre post I6 A6)) rfl ?_
            refine go_run 4 (F' := (97, [some (.ref 134), some (.int a1), some (.int ((A 36) (Int32.toNatClampNeg a1))), some (.int v1), some (.int v6)], [.ref 134, .ref 134], Wm pre post I6 A6)) rfl ?_
            refine go_gf rfl (w_0 hp) rfl ?_
            refine go_run 0 (F' := (100, [some (.ref 134), some (.int a1), some (.int ((A 36) (Int32.toNatClampNeg a1))), some (.int v1), some (.int v6)], [.int (I6 18), .ref 134], Wm pre post I6 A6)) rfl ?_
            refine go_step rfl rfl ?_
            by_cases q15 : I6 18 = 0
            · rw [if_pos q15] at hm ⊢
              refine go_run 0 (F' := (103, [some (.ref 134), some (.int a1), some (.int ((A 36) (Int32.toNatClampNeg a1))), some (.int v1), some (.int v6)], [.ref 134], Wm pre post I6 A6)) rfl ?_
              refine go_run 2 (F' := (106, [some (.ref 134), some (.int a1), some (.int ((A 36) (Int32.toNatClampNeg a1))), some (.int v1), some (.int v6)], [.int 1, .int v6, .ref 134], Wm pre post I6 A6)) rfl ?_
              refine go_step rfl rfl ?_
              by_cases q16 : v6 = 1
              · rw [if_pos q16] at hm ⊢
                refine go_run 0 (F' := (109, [some (.ref 134), some (.int a1), some (.int ((A 36) (Int32.toNatClampNeg a1))), some (.int v1), some (.int v6)], [.ref 134], Wm pre post I6 A6)) rfl ?_
                refine go_run 2 (F' := (114, [some (.ref 134), some (.int a1), some (.int ((A 36) (Int32.toNatClampNeg a1))), some (.int v1), some (.int v6)], [.int 1, .ref 134], Wm pre post I6 A6)) rfl ?_
                refine go_pf rfl (w_0 hp) (Nat.le_of_ble_eq_true rfl) rfl (wo_18 hp) ?_
                refine go_run 1 (F' := (119, [some (.ref 134), some (.int a1), some (.int ((A 36) (Int32.toNatClampNeg a1))), some (.int v1), some (.int v6)], [.int v6], Wm pre post (upd I6 18 1) A6)) rfl ?_
                cases hm
                exact go_end rfl rfl
              · rw [if_neg q16] at hm ⊢
                refine go_run 0 (F' := (113, [some (.ref 134), some (.int a1), some (.int ((A 36) (Int32.toNatClampNeg a1))), some (.int v1), some (.int v6)], [.ref 134], Wm pre post I6 A6)) rfl ?_
                refine go_run 1 (F' := (114, [some (.ref 134), some (.int a1), some (.int ((A 36) (Int32.toNatClampNeg a1))), some (.int v1), some (.int v6)], [.int 0, .ref 134], Wm pre post I6 A6)) rfl ?_
                refine go_pf rfl (w_0 hp) (Nat.le_of_ble_eq_true rfl) rfl (wo_18 hp) ?_
                refine go_run 1 (F' := (119, [some (.ref 134), some (.int a1), some (.int ((A 36) (Int32.toNatClampNeg a1))), some (.int v1), some (.int v6)], [.int v6], Wm pre post (upd I6 18 0) A6)) rfl ?_
                cases hm
                exact go_end rfl rfl
            · rw [if_neg q15] at hm ⊢
              refine go_run 0 (F' := (109, [some (.ref 134), some (.int a1), some (.int ((A 36) (Int32.toNatClampNeg a1))), some (.int v1), some (.int v6)], [.ref 134], Wm pre post I6 A6)) rfl ?_
              refine go_run 2 (F' := (114, [some (.ref 134), some (.int a1), some (.int ((A 36) (Int32.toNatClampNeg a1))), some (.int v1), some (.int v6)], [.int 1, .ref 134], Wm pre post I6 A6)) rfl ?_
              refine go_pf rfl (w_0 hp) (Nat.le_of_ble_eq_true rfl) rfl (wo_18 hp) ?_
              refine go_run 1 (F' := (119, [some (.ref 134), some (.int a1), some (.int ((A 36) (Int32.toNatClampNeg a1))), some (.int v1), some (.int v6)], [.int v6], Wm pre post (upd I6 18 1) A6)) rfl ?_
              cases hm
              exact go_end rfl rfl
  · rw [if_neg q2] at hm ⊢
    refine go_run 0 (F' := (17, [some (.ref 134), some (.int a1), some (.int ((A 36) (Int32.toNatClampNeg a1))), none, none], [], Wm pre post I A)) rfl ?_
    refine go_run 1 (F' := (18, [some (.ref 134), some (.int a1), some (.int ((A 36) (Int32.toNatClampNeg a1))), none, none], [.int 2], Wm pre post I A)) rfl ?_
    cases hm
    exact go_end rfl rfl
def x_step (n : Nat) (I : Nat → Int32) (A : Nat → Nat → Int32) (a1 : Int32) : Option xR := (if x_noParty a1 = 0 then (if I 10 = 0 then (some (upd I 0 2, A, 0)) else (xb (x_stepOf n (upd I 0 0) A a1) fun I1 A1 v1 => (some (I1, A1, v1)))) else (some (upd I 0 1, A, 0)))
theorem g_step {X : ie_X} {d : Nat} {pre post : ie_H} (hp : pre.length = 134) {n : Nat} {I : Nat → Int32} {A : Nat → Nat → Int32} {a1 : Int32} {I' : Nat → Int32} {A' : Nat → Nat → Int32} {r : Int32} (hm : x_step n I A a1 = some (I', A', r)) : Go X (d + 7) 189 (0, ie_en 189 [.ref 134, .int a1], [], Wm pre post I A) (.inl (some (.int r))) (Wm pre post I' A') := by
  unfold x_step at hm
  refine go_run 0 (F' := (0, [some (.ref 134), some (.int a1)], [], Wm pre post I A)) rfl ?_
  refine go_run 2 (F' := (2, [some (.ref 134), some (.int a1)], [.int a1, .ref 134], Wm pre post I A)) rfl ?_
  refine go_call (m' := 183) (v := some (.int (x_noParty a1))) (h1 := Wm pre post I A) rfl rfl ⟨rfl, Nat.le_of_ble_eq_true rfl⟩ (g_noParty _) ?_
  refine go_run 0 (F' := (5, [some (.ref 134), some (.int a1)], [.int (x_noParty a1), .ref 134], Wm pre post I A)) rfl ?_
  refine go_run 0 (F' := (5, [some (.ref 134), some (.int a1)], [.int (x_noParty a1), .ref 134], Wm pre post I A)) rfl ?_
  refine go_step rfl rfl ?_
  by_cases q1 : x_noParty a1 = 0
  · rw [if_pos q1] at hm ⊢
    refine go_run 0 (F' := (12, [some (.ref 134), some (.int a1)], [.ref 134], Wm pre post I A)) rfl ?_
    refine go_run 1 (F' := (13, [some (.ref 134), some (.int a1)], [.ref 134, .ref 134], Wm pre post I A)) rfl ?_
    refine go_gf rfl (w_0 hp) rfl ?_
    refine go_run 0 (F' := (16, [some (.ref 134), some (.int a1)], [.int (I 10), .ref 134], Wm pre post I A)) rfl ?_
    refine go_step rfl rfl ?_
    by_cases q2 : I 10 = 0
    · rw [if_pos q2] at hm ⊢
      refine go_run 0 (F' := (19, [some (.ref 134), some (.int a1)], [.ref 134], Wm pre post I A)) rfl ?_
      refine go_run 2 (F' := (24, [some (.ref 134), some (.int a1)], [.int 2, .ref 134], Wm pre post I A)) rfl ?_
      refine go_pf rfl (w_0 hp) (Nat.le_of_ble_eq_true rfl) rfl (wo_0 hp) ?_
      refine go_run 1 (F' := (28, [some (.ref 134), some (.int a1)], [.ref 134], Wm pre post (upd I 0 2) A)) rfl ?_
      refine go_gf rfl (w_0 hp) rfl ?_
      refine go_run 2 (F' := (43, [some (.ref 134), some (.int a1)], [.int 0], Wm pre post (upd I 0 2) A)) rfl ?_
      cases hm
      exact go_end rfl rfl
    · rw [if_neg q2] at hm ⊢
      refine go_run 0 (F' := (23, [some (.ref 134), some (.int a1)], [.ref 134], Wm pre post I A)) rfl ?_
      refine go_run 1 (F' := (24, [some (.ref 134), some (.int a1)], [.int 0, .ref 134], Wm pre post I A)) rfl ?_
      refine go_pf rfl (w_0 hp) (Nat.le_of_ble_eq_true rfl) rfl (wo_0 hp) ?_
      refine go_run 1 (F' := (28, [some (.ref 134), some (.int a1)], [.ref 134], Wm pre post (upd I 0 0) A)) rfl ?_
      refine go_gf rfl (w_0 hp) rfl ?_
      refine go_run 3 (F' := (36, [some (.ref 134), some (.int a1)], [.int a1, .ref 134], Wm pre post (upd I 0 0) A)) rfl ?_
      obtain ⟨I1, A1, v1, e1, hm⟩ := xb_inv hm
      refine go_call (m' := 190) (v := some (.int v1)) (h1 := Wm pre post I1 A1) rfl (by simp only [ie_step, ie_iv, List.drop, w_0 hp]; rfl) ⟨rfl, Nat.le_of_ble_eq_true rfl⟩ (g_stepOf (d := d) hp e1) ?_
      refine go_run 0 (F' := (39, [some (.ref 134), some (.int a1)], [.int v1], Wm pre post I1 A1)) rfl ?_
      refine go_run 1 (F' := (43, [some (.ref 134), some (.int a1)], [.int v1], Wm pre post I1 A1)) rfl ?_
      cases hm
      exact go_end rfl rfl
  · rw [if_neg q1] at hm ⊢
    refine go_run 0 (F' := (8, [some (.ref 134), some (.int a1)], [.ref 134], Wm pre post I A)) rfl ?_
    refine go_run 2 (F' := (24, [some (.ref 134), some (.int a1)], [.int 1, .ref 134], Wm pre post I A)) rfl ?_
    refine go_pf rfl (w_0 hp) (Nat.le_of_ble_eq_true rfl) rfl (wo_0 hp) ?_
    refine go_run 1 (F' := (28, [some (.ref 134), some (.int a1)], [.ref 134], Wm pre post (upd I 0 1) A)) rfl ?_
    refine go_gf rfl (w_0 hp) rfl ?_
    refine go_run 2 (F' := (43, [some (.ref 134), some (.int a1)], [.int 0], Wm pre post (upd I 0 1) A)) rfl ?_
    cases hm
    exact go_end rfl rfl
def x_run_56 : Nat → (Nat → Int32) → (Nat → Nat → Int32) → Int32 → Int32 → Int32 → Int32 → Option xR
  | 0, _, _, _, _, _, _ => none
  | n + 1, I, A, l1, l2, l3, l4 => (if l2 ≤ l4 then (some (I, A, l3)) else (xb (x_stepOf n I A ((l1 + l4) - (l1 + l4) / 6 * 6)) fun I1 A1 v1 => (if v1 = 1 then (x_run_56 n I1 A1 l1 l2 (l3 + 1) (l4 + 1)) else (x_run_56 n I1 A1 l1 l2 (l3 + 0) (l4 + 1)))))
theorem g_run_56 {X : ie_X} {d : Nat} {pre post : ie_H} (hp : pre.length = 134) : ∀ (n : Nat) {I : Nat → Int32} {A : Nat → Nat → Int32} {l1 l2 l3 l4 : Int32} {I' : Nat → Int32} {A' : Nat → Nat → Int32} {r : Int32}, x_run_56 n I A l1 l2 l3 l4 = some (I', A', r) → Go X (d + 7) 209 (56, [some (.ref 134), some (.int l1), some (.int l2), some (.int l3), some (.int l4)], [], Wm pre post I A) (.inl (some (.int r))) (Wm pre post I' A') := by
  intro n
  induction n with
  | zero => intro I A l1 l2 l3 l4 I' A' r hm; cases hm
  | succ n ih =>
    intro I A l1 l2 l3 l4 I' A' r hm
    unfold x_run_56 at hm
    refine go_run 0 (F' := (56, [some (.ref 134), some (.int l1), some (.int l2), some (.int l3), some (.int l4)], [], Wm pre post I A)) rfl ?_
    refine go_run 2 (F' := (59, [some (.ref 134), some (.int l1), some (.int l2), some (.int l3), some (.int l4)], [.int l2, .int l4], Wm pre post I A)) rfl ?_
    refine go_step rfl rfl ?_
    by_cases q1 : l2 ≤ l4
    · rw [if_pos q1] at hm ⊢
      refine go_run 0 (F' := (91, [some (.ref 134), some (.int l1), some (.int l2), some (.int l3), some (.int l4)], [], Wm pre post I A)) rfl ?_
      refine go_run 1 (F' := (92, [some (.ref 134), some (.int l1), some (.int l2), some (.int l3), some (.int l4)], [.int l3], Wm pre post I A)) rfl ?_
      cases hm
      exact go_end rfl rfl
    · rw [if_neg q1] at hm ⊢
      refine go_run 0 (F' := (62, [some (.ref 134), some (.int l1), some (.int l2), some (.int l3), some (.int l4)], [], Wm pre post I A)) rfl ?_
      refine go_run 6 (F' := (70, [some (.ref 134), some (.int l1), some (.int l2), some (.int l3), some (.int l4)], [.int 6, .int (l1 + l4), .ref 134, .int l3], Wm pre post I A)) rfl ?_
      refine go_run 1 (F' := (71, [some (.ref 134), some (.int l1), some (.int l2), some (.int l3), some (.int l4)], [.int ((l1 + l4) - (l1 + l4) / 6 * 6), .ref 134, .int l3], Wm pre post I A)) rfl ?_
      obtain ⟨I1, A1, v1, e1, hm⟩ := xb_inv hm
      refine go_call (m' := 190) (v := some (.int v1)) (h1 := Wm pre post I1 A1) rfl (by simp only [ie_step, ie_iv, List.drop, w_0 hp]; rfl) ⟨rfl, Nat.le_of_ble_eq_true rfl⟩ (g_stepOf (d := d) hp e1) ?_
      refine go_run 0 (F' := (74, [some (.ref 134), some (.int l1), some (.int l2), some (.int l3), some (.int l4)], [.int v1, .int l3], Wm pre post I1 A1)) rfl ?_
      refine go_run 1 (F' := (75, [some (.ref 134), some (.int l1), some (.int l2), some (.int l3), some (.int l4)], [.int 1, .int v1, .int l3], Wm pre post I1 A1)) rfl ?_
      refine go_step rfl rfl ?_
      by_cases q2 : v1 = 1
      · rw [if_pos q2] at hm ⊢
        refine go_run 0 (F' := (78, [some (.ref 134), some (.int l1), some (.int l2), some (.int l3), some (.int l4)], [.int l3], Wm pre post I1 A1)) rfl ?_
        refine go_run 6 (F' := (56, [some (.ref 134), some (.int l1), some (.int l2), some (.int (l3 + 1)), some (.int (l4 + 1))], [], Wm pre post I1 A1)) rfl ?_
        exact ih hm
      · rw [if_neg q2] at hm ⊢
        refine go_run 0 (F' := (82, [some (.ref 134), some (.int l1), some (.int l2), some (.int l3), some (.int l4)], [.int l3], Wm pre post I1 A1)) rfl ?_
        refine go_run 5 (F' := (56, [some (.ref 134), some (.int l1), some (.int l2), some (.int (l3 + 0)), some (.int (l4 + 1))], [], Wm pre post I1 A1)) rfl ?_
        exact ih hm
def x_run (n : Nat) (I : Nat → Int32) (A : Nat → Nat → Int32) (a1 a2 : Int32) : Option xR := (if x_noParty a1 = 0 then (if a2 < 0 then (some (upd I 0 2, A, 0)) else (if a2 ≤ 300 then (if I 10 = 0 then (some (upd I 0 3, A, 0)) else (x_run_56  n (upd I 0 0) A a1 a2 0 0)) else (some (upd I 0 2, A, 0)))) else (some (upd I 0 1, A, 0)))
theorem g_run {X : ie_X} {d : Nat} {pre post : ie_H} (hp : pre.length = 134) {n : Nat} {I : Nat → Int32} {A : Nat → Nat → Int32} {a1 a2 : Int32} {I' : Nat → Int32} {A' : Nat → Nat → Int32} {r : Int32} (hm : x_run n I A a1 a2 = some (I', A', r)) : Go X (d + 7) 209 (0, ie_en 209 [.ref 134, .int a1, .int a2], [], Wm pre post I A) (.inl (some (.int r))) (Wm pre post I' A') := by
  unfold x_run at hm
  refine go_run 0 (F' := (0, [some (.ref 134), some (.int a1), some (.int a2), none, none], [], Wm pre post I A)) rfl ?_
  refine go_run 2 (F' := (2, [some (.ref 134), some (.int a1), some (.int a2), none, none], [.int a1, .ref 134], Wm pre post I A)) rfl ?_
  refine go_call (m' := 183) (v := some (.int (x_noParty a1))) (h1 := Wm pre post I A) rfl rfl ⟨rfl, Nat.le_of_ble_eq_true rfl⟩ (g_noParty _) ?_
  refine go_run 0 (F' := (5, [some (.ref 134), some (.int a1), some (.int a2), none, none], [.int (x_noParty a1), .ref 134], Wm pre post I A)) rfl ?_
  refine go_run 0 (F' := (5, [some (.ref 134), some (.int a1), some (.int a2), none, none], [.int (x_noParty a1), .ref 134], Wm pre post I A)) rfl ?_
  refine go_step rfl rfl ?_
  by_cases q1 : x_noParty a1 = 0
  · rw [if_pos q1] at hm ⊢
    refine go_run 0 (F' := (12, [some (.ref 134), some (.int a1), some (.int a2), none, none], [.ref 134], Wm pre post I A)) rfl ?_
    refine go_run 1 (F' := (13, [some (.ref 134), some (.int a1), some (.int a2), none, none], [.int a2, .ref 134], Wm pre post I A)) rfl ?_
    refine go_step rfl rfl ?_
    by_cases q2 : a2 < 0
    · rw [if_pos q2] at hm ⊢
      refine go_run 0 (F' := (23, [some (.ref 134), some (.int a1), some (.int a2), none, none], [.ref 134], Wm pre post I A)) rfl ?_
      refine go_run 2 (F' := (39, [some (.ref 134), some (.int a1), some (.int a2), none, none], [.int 2, .ref 134], Wm pre post I A)) rfl ?_
      refine go_pf rfl (w_0 hp) (Nat.le_of_ble_eq_true rfl) rfl (wo_0 hp) ?_
      refine go_run 1 (F' := (43, [some (.ref 134), some (.int a1), some (.int a2), none, none], [.ref 134], Wm pre post (upd I 0 2) A)) rfl ?_
      refine go_gf rfl (w_0 hp) rfl ?_
      refine go_run 2 (F' := (50, [some (.ref 134), some (.int a1), some (.int a2), none, none], [.int 0], Wm pre post (upd I 0 2) A)) rfl ?_
      cases hm
      exact go_end rfl rfl
    · rw [if_neg q2] at hm ⊢
      refine go_run 0 (F' := (16, [some (.ref 134), some (.int a1), some (.int a2), none, none], [.ref 134], Wm pre post I A)) rfl ?_
      refine go_run 2 (F' := (20, [some (.ref 134), some (.int a1), some (.int a2), none, none], [.int 300, .int a2, .ref 134], Wm pre post I A)) rfl ?_
      refine go_step rfl rfl ?_
      by_cases q3 : a2 ≤ 300
      · rw [if_pos q3] at hm ⊢
        refine go_run 0 (F' := (27, [some (.ref 134), some (.int a1), some (.int a2), none, none], [.ref 134], Wm pre post I A)) rfl ?_
        refine go_run 1 (F' := (28, [some (.ref 134), some (.int a1), some (.int a2), none, none], [.ref 134, .ref 134], Wm pre post I A)) rfl ?_
        refine go_gf rfl (w_0 hp) rfl ?_
        refine go_run 0 (F' := (31, [some (.ref 134), some (.int a1), some (.int a2), none, none], [.int (I 10), .ref 134], Wm pre post I A)) rfl ?_
        refine go_step rfl rfl ?_
        by_cases q4 : I 10 = 0
        · rw [if_pos q4] at hm ⊢
          refine go_run 0 (F' := (34, [some (.ref 134), some (.int a1), some (.int a2), none, none], [.ref 134], Wm pre post I A)) rfl ?_
          refine go_run 2 (F' := (39, [some (.ref 134), some (.int a1), some (.int a2), none, none], [.int 3, .ref 134], Wm pre post I A)) rfl ?_
          refine go_pf rfl (w_0 hp) (Nat.le_of_ble_eq_true rfl) rfl (wo_0 hp) ?_
          refine go_run 1 (F' := (43, [some (.ref 134), some (.int a1), some (.int a2), none, none], [.ref 134], Wm pre post (upd I 0 3) A)) rfl ?_
          refine go_gf rfl (w_0 hp) rfl ?_
          refine go_run 2 (F' := (50, [some (.ref 134), some (.int a1), some (.int a2), none, none], [.int 0], Wm pre post (upd I 0 3) A)) rfl ?_
          cases hm
          exact go_end rfl rfl
        · rw [if_neg q4] at hm ⊢
          refine go_run 0 (F' := (38, [some (.ref 134), some (.int a1), some (.int a2), none, none], [.ref 134], Wm pre post I A)) rfl ?_
          refine go_run 1 (F' := (39, [some (.ref 134), some (.int a1), some (.int a2), none, none], [.int 0, .ref 134], Wm pre post I A)) rfl ?_
          refine go_pf rfl (w_0 hp) (Nat.le_of_ble_eq_true rfl) rfl (wo_0 hp) ?_
          refine go_run 1 (F' := (43, [some (.ref 134), some (.int a1), some (.int a2), none, none], [.ref 134], Wm pre post (upd I 0 0) A)) rfl ?_
          refine go_gf rfl (w_0 hp) rfl ?_
          refine go_run 5 (F' := (56, [some (.ref 134), some (.int a1), some (.int a2), some (.int 0), some (.int 0)], [], Wm pre post (upd I 0 0) A)) rfl ?_
          exact g_run_56 hp  n hm
      · rw [if_neg q3] at hm ⊢
        refine go_run 0 (F' := (23, [some (.ref 134), some (.int a1), some (.int a2), none, none], [.ref 134], Wm pre post I A)) rfl ?_
        refine go_run 2 (F' := (39, [some (.ref 134), some (.int a1), some (.int a2), none, none], [.int 2, .ref 134], Wm pre post I A)) rfl ?_
        refine go_pf rfl (w_0 hp) (Nat.le_of_ble_eq_true rfl) rfl (wo_0 hp) ?_
        refine go_run 1 (F' := (43, [some (.ref 134), some (.int a1), some (.int a2), none, none], [.ref 134], Wm pre post (upd I 0 2) A)) rfl ?_
        refine go_gf rfl (w_0 hp) rfl ?_
        refine go_run 2 (F' := (50, [some (.ref 134), some (.int a1), some (.int a2), none, none], [.int 0], Wm pre post (upd I 0 2) A)) rfl ?_
        cases hm
        exact go_end rfl rfl
  · rw [if_neg q1] at hm ⊢
    refine go_run 0 (F' := (8, [some (.ref 134), some (.int a1), some (.int a2), none, none], [.ref 134], Wm pre post I A)) rfl ?_
    refine go_run 2 (F' := (39, [some (.ref 134), some (.int a1), some (.int a2), none, none], [.int 1, .ref 134], Wm pre post I A)) rfl ?_
    refine go_pf rfl (w_0 hp) (Nat.le_of_ble_eq_true rfl) rfl (wo_0 hp) ?_
    refine go_run 1 (F' := (43, [some (.ref 134), some (.int a1), some (.int a2), none, none], [.ref 134], Wm pre post (upd I 0 1) A)) rfl ?_
    refine go_gf rfl (w_0 hp) rfl ?_
    refine go_run 2 (F' := (50, [some (.ref 134), some (.int a1), some (.int a2), none, none], [.int 0], Wm pre post (upd I 0 1) A)) rfl ?_
    cases hm
    exact go_end rfl rfl
def x_at (I : Nat → Int32) (A : Nat → Nat → Int32) (a1 : Int32) : Option xR := (if x_noParty a1 = 0 then (if I 10 = 0 then (some (upd I 0 2, A, 0)) else (if ib a1 6 then (if (A 36) (Int32.toNatClampNeg a1) < (A 27) (Int32.toNatClampNeg a1) then (xb (x_charAt (upd I 0 0) A a1 ((A 36) (Int32.toNatClampNeg a1))) fun I1 A1 v1 => (xb (x_charAt I1 A1 a1 (((A1 36) (Int32.toNatClampNeg a1)) + 1)) fun I2 A2 v2 => (if ty_b (rd_pty v1) = 0 then (if v1 = 33 then (some (I2, A2, 4)) else (if v1 = 63 then (some (I2, A2, 6)) else (if v1 = 64 then (some (I2, A2, 7)) else (if v2 = 58 then (some (I2, A2, 1)) else (some (I2, A2, 2)))))) else (if v2 = 62 then (some (I2, A2, 3)) else (if v2 = 64 then (some (I2, A2, 8)) else (some (I2, A2, 5))))))) else (some (upd I 0 0, A, 0))) else none)) else (some (upd I 0 1, A, 0)))
theorem g_at {X : ie_X} {d : Nat} {pre post : ie_H} (hp : pre.length = 134) {I : Nat → Int32} {A : Nat → Nat → Int32} {a1 : Int32} {I' : Nat → Int32} {A' : Nat → Nat → Int32} {r : Int32} (hm : x_at I A a1 = some (I', A', r)) : Go X (d + 1) 210 (0, ie_en 210 [.ref 134, .int a1], [], Wm pre post I A) (.inl (some (.int r))) (Wm pre post I' A') := by
  unfold x_at at hm
  refine go_run 0 (F' := (0, [some (.ref 134), some (.int a1), none, none], [], Wm pre post I A)) rfl ?_
  refine go_run 2 (F' := (2, [some (.ref 134), some (.int a1), none, none], [.int a1, .ref 134], Wm pre post I A)) rfl ?_
  refine go_call (m' := 183) (v := some (.int (x_noParty a1))) (h1 := Wm pre post I A) rfl rfl ⟨rfl, Nat.le_of_ble_eq_true rfl⟩ (g_noParty _) ?_
  refine go_run 0 (F' := (5, [some (.ref 134), some (.int a1), none, none], [.int (x_noParty a1), .ref 134], Wm pre post I A)) rfl ?_
  refine go_run 0 (F' := (5, [some (.ref 134), some (.int a1), none, none], [.int (x_noParty a1), .ref 134], Wm pre post I A)) rfl ?_
  refine go_step rfl rfl ?_
  by_cases q1 : x_noParty a1 = 0
  · rw [if_pos q1] at hm ⊢
    refine go_run 0 (F' := (12, [some (.ref 134), some (.int a1), none, none], [.ref 134], Wm pre post I A)) rfl ?_
    refine go_run 1 (F' := (13, [some (.ref 134), some (.int a1), none, none], [.ref 134, .ref 134], Wm pre post I A)) rfl ?_
    refine go_gf rfl (w_0 hp) rfl ?_
    refine go_run 0 (F' := (16, [some (.ref 134), some (.int a1), none, none], [.int (I 10), .ref 134], Wm pre post I A)) rfl ?_
    refine go_step rfl rfl ?_
    by_cases q2 : I 10 = 0
    · rw [if_pos q2] at hm ⊢
      refine go_run 0 (F' := (19, [some (.ref 134), some (.int a1), none, none], [.ref 134], Wm pre post I A)) rfl ?_
      refine go_run 2 (F' := (24, [some (.ref 134), some (.int a1), none, none], [.int 2, .ref 134], Wm pre post I A)) rfl ?_
      refine go_pf rfl (w_0 hp) (Nat.le_of_ble_eq_true rfl) rfl (wo_0 hp) ?_
      refine go_run 1 (F' := (28, [some (.ref 134), some (.int a1), none, none], [.ref 134], Wm pre post (upd I 0 2) A)) rfl ?_
      refine go_gf rfl (w_0 hp) rfl ?_
      refine go_run 2 (F' := (50, [some (.ref 134), some (.int a1), none, none], [.int 0], Wm pre post (upd I 0 2) A)) rfl ?_
      cases hm
      exact go_end rfl rfl
    · rw [if_neg q2] at hm ⊢
      refine go_run 0 (F' := (23, [some (.ref 134), some (.int a1), none, none], [.ref 134], Wm pre post I A)) rfl ?_
      refine go_run 1 (F' := (24, [some (.ref 134), some (.int a1), none, none], [.int 0, .ref 134], Wm pre post I A)) rfl ?_
      refine go_pf rfl (w_0 hp) (Nat.le_of_ble_eq_true rfl) rfl (wo_0 hp) ?_
      refine go_run 1 (F' := (28, [some (.ref 134), some (.int a1), none, none], [.ref 134], Wm pre post (upd I 0 0) A)) rfl ?_
      refine go_gf rfl (w_0 hp) rfl ?_
      refine go_run 2 (F' := (35, [some (.ref 134), some (.int a1), none, none], [.ref 134], Wm pre post (upd I 0 0) A)) rfl ?_
      refine go_gf rfl (w_0 hp) rfl ?_
      refine go_run 1 (F' := (39, [some (.ref 134), some (.int a1), none, none], [.int a1, .ref 170], Wm pre post (upd I 0 0) A)) rfl ?_
      obtain ⟨b3, hm⟩ := gd hm
      refine go_iald rfl (by decide) (w_36 hp) b3 rfl ?_
      refine go_run 1 (F' := (41, [some (.ref 134), some (.int a1), none, none], [.ref 134, .int ((A 36) (Int32.toNatClampNeg a1))], Wm pre post (upd I 0 0) A)) rfl ?_
      refine go_gf rfl (w_0 hp) rfl ?_
      refine go_run 1 (F' := (45, [some (.ref 134), some (.int a1), none, none], [.int a1, .ref 161, .int ((A 36) (Int32.toNatClampNeg a1))], Wm pre post (upd I 0 0) A)) rfl ?_
      refine go_iald rfl (by decide) (w_27 hp) b3 rfl ?_
      refine go_run 0 (F' := (46, [some (.ref 134), some (.int a1), none, none], [.int ((A 27) (Int32.toNatClampNeg a1)), .int ((A 36) (Int32.toNatClampNeg a1))], Wm pre post (upd I 0 0) A)) rfl ?_
      refine go_step rfl rfl ?_
      by_cases q4 : (A 36) (Int32.toNatClampNeg a1) < (A 27) (Int32.toNatClampNeg a1)
      · rw [if_pos q4] at hm ⊢
        refine go_run 0 (F' := (51, [some (.ref 134), some (.int a1), none, none], [], Wm pre post (upd I 0 0) A)) rfl ?_
        refine go_run 3 (F' := (54, [some (.ref 134), some (.int a1), none, none], [.ref 134, .int a1, .ref 134], Wm pre post (upd I 0 0) A)) rfl ?_
        refine go_gf rfl (w_0 hp) rfl ?_
        refine go_run 1 (F' := (58, [some (.ref 134), some (.int a1), none, none], [.int a1, .ref 170, .int a1, .ref 134], Wm pre post (upd I 0 0) A)) rfl ?_
        refine go_iald rfl (by decide) (w_36 hp) b3 rfl ?_
        refine go_run 0 (F' := (59, [some (.ref 134), some (.int a1), none, none], [.int ((A 36) (Int32.toNatClampNeg a1)), .int a1, .ref 134], Wm pre post (upd I 0 0) A)) rfl ?_
        obtain ⟨I1, A1, v1, e1, hm⟩ := xb_inv hm
        refine go_call (m' := 191) (v := some (.int v1)) (h1 := Wm pre post I1 A1) rfl (by simp only [ie_step, ie_iv, List.drop, w_0 hp]; rfl) ⟨rfl, Nat.le_of_ble_eq_true rfl⟩ (g_charAt (d := d) hp e1) ?_
        refine go_run 0 (F' := (62, [some (.ref 134), some (.int a1), none, none], [.int v1], Wm pre post I1 A1)) rfl ?_
        refine go_run 4 (F' := (66, [some (.ref 134), some (.int a1), some (.int v1), none], [.ref 134, .int a1, .ref 134], Wm pre post I1 A1)) rfl ?_
        refine go_gf rfl (w_0 hp) rfl ?_
        refine go_run 1 (F' := (70, [some (.ref 134), some (.int a1), some (.int v1), none], [.int a1, .ref 170, .int a1, .ref 134], Wm pre post I1 A1)) rfl ?_
        refine go_iald rfl (by decide) (w_36 hp) b3 rfl ?_
        refine go_run 2 (F' := (73, [some (.ref 134), some (.int a1), some (.int v1), none], [.int (((A1 36) (Int32.toNatClampNeg a1)) + 1), .int a1, .ref 134], Wm pre post I1 A1)) rfl ?_
        obtain ⟨I2, A2, v2, e2, hm⟩ := xb_inv hm
        refine go_call (m' := 191) (v := some (.int v2)) (h1 := Wm pre post I2 A2) rfl (by simp only [ie_step, ie_iv, List.drop, w_0 hp]; rfl) ⟨rfl, Nat.le_of_ble_eq_true rfl⟩ (g_charAt (d := d) hp e2) ?_
        refine go_run 0 (F' := (76, [some (.ref 134), some (.int a1), some (.int v1), none], [.int v2], Wm pre post I2 A2)) rfl ?_
        refine go_run 2 (F' := (78, [some (.ref 134), some (.int a1), some (.int v1), some (.int v2)], [.int v1], Wm pre post I2 A2)) rfl ?_
        refine go_call (m' := 144) (v := some (.int (ty_b (rd_pty v1)))) (h1 := Wm pre post I2 A2) rfl rfl ⟨rfl, Nat.le_of_ble_eq_true rfl⟩ (rm_isPty _) ?_
        refine go_run 0 (F' := (81, [some (.ref 134), some (.int a1), some (.int v1), some (.int v2)], [.int (ty_b (rd_pty v1))], Wm pre post I2 A2)) rfl ?_
        refine go_run 0 (F' := (81, [some (.ref 134), some (.int a1), some (.int v1), some (.int v2)], [.int (ty_b (rd_pty v1))], Wm pre post I2 A2)) rfl ?_
        refine go_step rfl rfl ?_
        by_cases q5 : ty_b (rd_pty v1) = 0
        · rw [if_pos q5] at hm ⊢
          refine go_run 0 (F' := (107, [some (.ref 134), some (.int a1), some (.int v1), some (.int v2)], [], Wm pre post I2 A2)) rfl ?_
          refine go_run 2 (F' := (110, [some (.ref 134), some (.int a1), some (.int v1), some (.int v2)], [.int 33, .int v1], Wm pre post I2 A2)) rfl ?_
          refine go_step rfl rfl ?_
          by_cases q6 : v1 = 33
          · rw [if_pos q6] at hm ⊢
            refine go_run 0 (F' := (113, [some (.ref 134), some (.int a1), some (.int v1), some (.int v2)], [], Wm pre post I2 A2)) rfl ?_
            refine go_run 2 (F' := (150, [some (.ref 134), some (.int a1), some (.int v1), some (.int v2)], [.int 4], Wm pre post I2 A2)) rfl ?_
            cases hm
            exact go_end rfl rfl
          · rw [if_neg q6] at hm ⊢
            refine go_run 0 (F' := (117, [some (.ref 134), some (.int a1), some (.int v1), some (.int v2)], [], Wm pre post I2 A2)) rfl ?_
            refine go_run 2 (F' := (120, [some (.ref 134), some (.int a1), some (.int v1), some (.int v2)], [.int 63, .int v1], Wm pre post I2 A2)) rfl ?_
            refine go_step rfl rfl ?_
            by_cases q7 : v1 = 63
            · rw [if_pos q7] at hm ⊢
              refine go_run 0 (F' := (123, [some (.ref 134), some (.int a1), some (.int v1), some (.int v2)], [], Wm pre post I2 A2)) rfl ?_
              refine go_run 2 (F' := (150, [some (.ref 134), some (.int a1), some (.int v1), some (.int v2)], [.int 6], Wm pre post I2 A2)) rfl ?_
              cases hm
              exact go_end rfl rfl
            · rw [if_neg q7] at hm ⊢
              refine go_run 0 (F' := (128, [some (.ref 134), some (.int a1), some (.int v1), some (.int v2)], [], Wm pre post I2 A2)) rfl ?_
              refine go_run 2 (F' := (131, [some (.ref 134), some (.int a1), some (.int v1), some (.int v2)], [.int 64, .int v1], Wm pre post I2 A2)) rfl ?_
              refine go_step rfl rfl ?_
              by_cases q8 : v1 = 64
              · rw [if_pos q8] at hm ⊢
                refine go_run 0 (F' := (134, [some (.ref 134), some (.int a1), some (.int v1), some (.int v2)], [], Wm pre post I2 A2)) rfl ?_
                refine go_run 2 (F' := (150, [some (.ref 134), some (.int a1), some (.int v1), some (.int v2)], [.int 7], Wm pre post I2 A2)) rfl ?_
                cases hm
                exact go_end rfl rfl
              · rw [if_neg q8] at hm ⊢
                refine go_run 0 (F' := (139, [some (.ref 134), some (.int a1), some (.int v1), some (.int v2)], [], Wm pre post I2 A2)) rfl ?_
                refine go_run 2 (F' := (142, [some (.ref 134), some (.int a1), some (.int v1), some (.int v2)], [.int 58, .int v2], Wm pre post I2 A2)) rfl ?_
                refine go_step rfl rfl ?_
                by_cases q9 : v2 = 58
                · rw [if_pos q9] at hm ⊢
                  refine go_run 0 (F' := (145, [some (.ref 134), some (.int a1), some (.int v1), some (.int v2)], [], Wm pre post I2 A2)) rfl ?_
                  refine go_run 2 (F' := (150, [some (.ref 134), some (.int a1), some (.int v1), some (.int v2)], [.int 1], Wm pre post I2 A2)) rfl ?_
                  cases hm
                  exact go_end rfl rfl
                · rw [if_neg q9] at hm ⊢
                  refine go_run 0 (F' := (149, [some (.ref 134), some (.int a1), some (.int v1), some (.int v2)], [], Wm pre post I2 A2)) rfl ?_
                  refine go_run 1 (F' := (150, [some (.ref 134), some (.int a1), some (.int v1), some (.int v2)], [.int 2], Wm pre post I2 A2)) rfl ?_
                  cases hm
                  exact go_end rfl rfl
        · rw [if_neg q5] at hm ⊢
          refine go_run 0 (F' := (84, [some (.ref 134), some (.int a1), some (.int v1), some (.int v2)], [], Wm pre post I2 A2)) rfl ?_
          refine go_run 2 (F' := (87, [some (.ref 134), some (.int a1), some (.int v1), some (.int v2)], [.int 62, .int v2], Wm pre post I2 A2)) rfl ?_
          refine go_step rfl rfl ?_
          by_cases q10 : v2 = 62
          · rw [if_pos q10] at hm ⊢
            refine go_run 0 (F' := (90, [some (.ref 134), some (.int a1), some (.int v1), some (.int v2)], [], Wm pre post I2 A2)) rfl ?_
            refine go_run 2 (F' := (106, [some (.ref 134), some (.int a1), some (.int v1), some (.int v2)], [.int 3], Wm pre post I2 A2)) rfl ?_
            cases hm
            exact go_end rfl rfl
          · rw [if_neg q10] at hm ⊢
            refine go_run 0 (F' := (94, [some (.ref 134), some (.int a1), some (.int v1), some (.int v2)], [], Wm pre post I2 A2)) rfl ?_
            refine go_run 2 (F' := (97, [some (.ref 134), some (.int a1), some (.int v1), some (.int v2)], [.int 64, .int v2], Wm pre post I2 A2)) rfl ?_
            refine go_step rfl rfl ?_
            by_cases q11 : v2 = 64
            · rw [if_pos q11] at hm ⊢
              refine go_run 0 (F' := (100, [some (.ref 134), some (.int a1), some (.int v1), some (.int v2)], [], Wm pre post I2 A2)) rfl ?_
              refine go_run 2 (F' := (106, [some (.ref 134), some (.int a1), some (.int v1), some (.int v2)], [.int 8], Wm pre post I2 A2)) rfl ?_
              cases hm
              exact go_end rfl rfl
            · rw [if_neg q11] at hm ⊢
              refine go_run 0 (F' := (105, [some (.ref 134), some (.int a1), some (.int v1), some (.int v2)], [], Wm pre post I2 A2)) rfl ?_
              refine go_run 1 (F' := (106, [some (.ref 134), some (.int a1), some (.int v1), some (.int v2)], [.int 5], Wm pre post I2 A2)) rfl ?_
              cases hm
              exact go_end rfl rfl
      · rw [if_neg q4] at hm ⊢
        refine go_run 0 (F' := (49, [some (.ref 134), some (.int a1), none, none], [], Wm pre post (upd I 0 0) A)) rfl ?_
        refine go_run 1 (F' := (50, [some (.ref 134), some (.int a1), none, none], [.int 0], Wm pre post (upd I 0 0) A)) rfl ?_
        cases hm
        exact go_end rfl rfl
  · rw [if_neg q1] at hm ⊢
    refine go_run 0 (F' := (8, [some (.ref 134), some (.int a1), none, none], [.ref 134], Wm pre post I A)) rfl ?_
    refine go_run 2 (F' := (24, [some (.ref 134), some (.int a1), none, none], [.int 1, .ref 134], Wm pre post I A)) rfl ?_
    refine go_pf rfl (w_0 hp) (Nat.le_of_ble_eq_true rfl) rfl (wo_0 hp) ?_
    refine go_run 1 (F' := (28, [some (.ref 134), some (.int a1), none, none], [.ref 134], Wm pre post (upd I 0 1) A)) rfl ?_
    refine go_gf rfl (w_0 hp) rfl ?_
    refine go_run 2 (F' := (50, [some (.ref 134), some (.int a1), none, none], [.int 0], Wm pre post (upd I 0 1) A)) rfl ?_
    cases hm
    exact go_end rfl rfl
def x_variable (I : Nat → Int32) (A : Nat → Nat → Int32) (a1 a2 : Int32) : Option xR := (if x_noParty a1 = 0 then (if x_noVariable a2 = 0 then (if ib ((4 * a1) + a2) 24 then (some (upd I 0 0, A, (A 34) (Int32.toNatClampNeg ((4 * a1) + a2)))) else none) else (some (upd I 0 1, A, 0))) else (some (upd I 0 1, A, 0)))
theorem g_variable {X : ie_X} {d : Nat} {pre post : ie_H} (hp : pre.length = 134) {I : Nat → Int32} {A : Nat → Nat → Int32} {a1 a2 : Int32} {I' : Nat → Int32} {A' : Nat → Nat → Int32} {r : Int32} (hm : x_variable I A a1 a2 = some (I', A', r)) : Go X (d + 1) 211 (0, ie_en 211 [.ref 134, .int a1, .int a2], [], Wm pre post I A) (.inl (some (.int r))) (Wm pre post I' A') := by
  unfold x_variable at hm
  refine go_run 0 (F' := (0, [some (.ref 134), some (.int a1), some (.int a2)], [], Wm pre post I A)) rfl ?_
  refine go_run 2 (F' := (2, [some (.ref 134), some (.int a1), some (.int a2)], [.int a1, .ref 134], Wm pre post I A)) rfl ?_
  refine go_call (m' := 183) (v := some (.int (x_noParty a1))) (h1 := Wm pre post I A) rfl rfl ⟨rfl, Nat.le_of_ble_eq_true rfl⟩ (g_noParty _) ?_
  refine go_run 0 (F' := (5, [some (.ref 134), some (.int a1), some (.int a2)], [.int (x_noParty a1), .ref 134], Wm pre post I A)) rfl ?_
  refine go_run 0 (F' := (5, [some (.ref 134), some (.int a1), some (.int a2)], [.int (x_noParty a1), .ref 134], Wm pre post I A)) rfl ?_
  refine go_step rfl rfl ?_
  by_cases q1 : x_noParty a1 = 0
  · rw [if_pos q1] at hm ⊢
    refine go_run 0 (F' := (8, [some (.ref 134), some (.int a1), some (.int a2)], [.ref 134], Wm pre post I A)) rfl ?_
    refine go_run 1 (F' := (9, [some (.ref 134), some (.int a1), some (.int a2)], [.int a2, .ref 134], Wm pre post I A)) rfl ?_
    refine go_call (m' := 186) (v := some (.int (x_noVariable a2))) (h1 := Wm pre post I A) rfl rfl ⟨rfl, Nat.le_of_ble_eq_true rfl⟩ (g_noVariable _) ?_
    refine go_run 0 (F' := (12, [some (.ref 134), some (.int a1), some (.int a2)], [.int (x_noVariable a2), .ref 134], Wm pre post I A)) rfl ?_
    refine go_run 0 (F' := (12, [some (.ref 134), some (.int a1), some (.int a2)], [.int (x_noVariable a2), .ref 134], Wm pre post I A)) rfl ?_
    refine go_step rfl rfl ?_
    by_cases q2 : x_noVariable a2 = 0
    · rw [if_pos q2] at hm ⊢
      refine go_run 0 (F' := (19, [some (.ref 134), some (.int a1), some (.int a2)], [.ref 134], Wm pre post I A)) rfl ?_
      refine go_run 1 (F' := (20, [some (.ref 134), some (.int a1), some (.int a2)], [.int 0, .ref 134], Wm pre post I A)) rfl ?_
      refine go_pf rfl (w_0 hp) (Nat.le_of_ble_eq_true rfl) rfl (wo_0 hp) ?_
      refine go_run 1 (F' := (24, [some (.ref 134), some (.int a1), some (.int a2)], [.ref 134], Wm pre post (upd I 0 0) A)) rfl ?_
      refine go_gf rfl (w_0 hp) rfl ?_
      refine go_run 2 (F' := (31, [some (.ref 134), some (.int a1), some (.int a2)], [.ref 134], Wm pre post (upd I 0 0) A)) rfl ?_
      refine go_gf rfl (w_0 hp) rfl ?_
      refine go_run 5 (F' := (39, [some (.ref 134), some (.int a1), some (.int a2)], [.int ((4 * a1) + a2), .ref 168], Wm pre post (upd I 0 0) A)) rfl ?_
      obtain ⟨b3, hm⟩ := gd hm
      refine go_iald rfl (by decide) (w_34 hp) b3 rfl ?_
      refine go_run 1 (F' := (44, [some (.ref 134), some (.int a1), some (.int a2)], [.int ((A 34) (Int32.toNatClampNeg ((4 * a1) + a2)))], Wm pre post (upd I 0 0) A)) rfl ?_
      cases hm
      exact go_end rfl rfl
    · rw [if_neg q2] at hm ⊢
      refine go_run 0 (F' := (15, [some (.ref 134), some (.int a1), some (.int a2)], [.ref 134], Wm pre post I A)) rfl ?_
      refine go_run 2 (F' := (20, [some (.ref 134), some (.int a1), some (.int a2)], [.int 1, .ref 134], Wm pre post I A)) rfl ?_
      refine go_pf rfl (w_0 hp) (Nat.le_of_ble_eq_true rfl) rfl (wo_0 hp) ?_
      refine go_run 1 (F' := (24, [some (.ref 134), some (.int a1), some (.int a2)], [.ref 134], Wm pre post (upd I 0 1) A)) rfl ?_
      refine go_gf rfl (w_0 hp) rfl ?_
      refine go_run 2 (F' := (44, [some (.ref 134), some (.int a1), some (.int a2)], [.int 0], Wm pre post (upd I 0 1) A)) rfl ?_
      cases hm
      exact go_end rfl rfl
  · rw [if_neg q1] at hm ⊢
    refine go_run 0 (F' := (15, [some (.ref 134), some (.int a1), some (.int a2)], [.ref 134], Wm pre post I A)) rfl ?_
    refine go_run 2 (F' := (20, [some (.ref 134), some (.int a1), some (.int a2)], [.int 1, .ref 134], Wm pre post I A)) rfl ?_
    refine go_pf rfl (w_0 hp) (Nat.le_of_ble_eq_true rfl) rfl (wo_0 hp) ?_
    refine go_run 1 (F' := (24, [some (.ref 134), some (.int a1), some (.int a2)], [.ref 134], Wm pre post (upd I 0 1) A)) rfl ?_
    refine go_gf rfl (w_0 hp) rfl ?_
    refine go_run 2 (F' := (44, [some (.ref 134), some (.int a1), some (.int a2)], [.int 0], Wm pre post (upd I 0 1) A)) rfl ?_
    cases hm
    exact go_end rfl rfl
def x_noQueue (a1 a2 : Int32) : Int32 := (if x_noParty a1 = 0 then (if x_noParty a2 = 0 then (if a1 = a2 then 1 else 0) else 1) else 1)
theorem g_noQueue {X : ie_X} {d : Nat} {h : ie_H} (a1 a2 : Int32) : Go X (d + 1) 213 (0, ie_en 213 [.int a1, .int a2], [], h) (.inl (some (.int (x_noQueue a1 a2)))) h := by
  generalize hm : x_noQueue a1 a2 = r
  unfold x_noQueue at hm
  refine go_run 0 (F' := (0, [some (.int a1), some (.int a2)], [], h)) rfl ?_
  refine go_run 1 (F' := (1, [some (.int a1), some (.int a2)], [.int a1], h)) rfl ?_
  refine go_call (m' := 183) (v := some (.int (x_noParty a1))) (h1 := h) rfl rfl ⟨rfl, Nat.le_of_ble_eq_true rfl⟩ (g_noParty _) ?_
  refine go_run 0 (F' := (4, [some (.int a1), some (.int a2)], [.int (x_noParty a1)], h)) rfl ?_
  refine go_run 0 (F' := (4, [some (.int a1), some (.int a2)], [.int (x_noParty a1)], h)) rfl ?_
  refine go_step rfl rfl ?_
  by_cases q1 : x_noParty a1 = 0
  · rw [if_pos q1] at hm ⊢
    refine go_run 0 (F' := (7, [some (.int a1), some (.int a2)], [], h)) rfl ?_
    refine go_run 1 (F' := (8, [some (.int a1), some (.int a2)], [.int a2], h)) rfl ?_
    refine go_call (m' := 183) (v := some (.int (x_noParty a2))) (h1 := h) rfl rfl ⟨rfl, Nat.le_of_ble_eq_true rfl⟩ (g_noParty _) ?_
    refine go_run 0 (F' := (11, [some (.int a1), some (.int a2)], [.int (x_noParty a2)], h)) rfl ?_
    refine go_run 0 (F' := (11, [some (.int a1), some (.int a2)], [.int (x_noParty a2)], h)) rfl ?_
    refine go_step rfl rfl ?_
    by_cases q2 : x_noParty a2 = 0
    · rw [if_pos q2] at hm ⊢
      refine go_run 0 (F' := (14, [some (.int a1), some (.int a2)], [], h)) rfl ?_
      refine go_run 2 (F' := (16, [some (.int a1), some (.int a2)], [.int a2, .int a1], h)) rfl ?_
      refine go_step rfl rfl ?_
      by_cases q3 : a1 = a2
      · rw [if_pos q3] at hm ⊢
        refine go_run 0 (F' := (19, [some (.int a1), some (.int a2)], [], h)) rfl ?_
        refine go_run 2 (F' := (24, [some (.int a1), some (.int a2)], [.int 1], h)) rfl ?_
        (cases hm; exact go_end rfl rfl)
      · rw [if_neg q3] at hm ⊢
        refine go_run 0 (F' := (23, [some (.int a1), some (.int a2)], [], h)) rfl ?_
        refine go_run 1 (F' := (24, [some (.int a1), some (.int a2)], [.int 0], h)) rfl ?_
        (cases hm; exact go_end rfl rfl)
    · rw [if_neg q2] at hm ⊢
      refine go_run 0 (F' := (19, [some (.int a1), some (.int a2)], [], h)) rfl ?_
      refine go_run 2 (F' := (24, [some (.int a1), some (.int a2)], [.int 1], h)) rfl ?_
      (cases hm; exact go_end rfl rfl)
  · rw [if_neg q1] at hm ⊢
    refine go_run 0 (F' := (19, [some (.int a1), some (.int a2)], [], h)) rfl ?_
    refine go_run 2 (F' := (24, [some (.int a1), some (.int a2)], [.int 1], h)) rfl ?_
    (cases hm; exact go_end rfl rfl)
def x_queue (I : Nat → Int32) (A : Nat → Nat → Int32) (a1 a2 : Int32) : Option xR := (if x_noQueue a1 a2 = 0 then (if ib ((6 * a1) + a2) 36 then (some (upd I 0 0, A, (A 39) (Int32.toNatClampNeg ((6 * a1) + a2)))) else none) else (some (upd I 0 1, A, 0)))
theorem g_queue {X : ie_X} {d : Nat} {pre post : ie_H} (hp : pre.length = 134) {I : Nat → Int32} {A : Nat → Nat → Int32} {a1 a2 : Int32} {I' : Nat → Int32} {A' : Nat → Nat → Int32} {r : Int32} (hm : x_queue I A a1 a2 = some (I', A', r)) : Go X (d + 2) 212 (0, ie_en 212 [.ref 134, .int a1, .int a2], [], Wm pre post I A) (.inl (some (.int r))) (Wm pre post I' A') := by
  unfold x_queue at hm
  refine go_run 0 (F' := (0, [some (.ref 134), some (.int a1), some (.int a2)], [], Wm pre post I A)) rfl ?_
  refine go_run 3 (F' := (3, [some (.ref 134), some (.int a1), some (.int a2)], [.int a2, .int a1, .ref 134], Wm pre post I A)) rfl ?_
  refine go_call (m' := 213) (v := some (.int (x_noQueue a1 a2))) (h1 := Wm pre post I A) rfl rfl ⟨rfl, Nat.le_of_ble_eq_true rfl⟩ (g_noQueue _ _) ?_
  refine go_run 0 (F' := (6, [some (.ref 134), some (.int a1), some (.int a2)], [.int (x_noQueue a1 a2), .ref 134], Wm pre post I A)) rfl ?_
  refine go_run 0 (F' := (6, [some (.ref 134), some (.int a1), some (.int a2)], [.int (x_noQueue a1 a2), .ref 134], Wm pre post I A)) rfl ?_
  refine go_step rfl rfl ?_
  by_cases q1 : x_noQueue a1 a2 = 0
  · rw [if_pos q1] at hm ⊢
    refine go_run 0 (F' := (13, [some (.ref 134), some (.int a1), some (.int a2)], [.ref 134], Wm pre post I A)) rfl ?_
    refine go_run 1 (F' := (14, [some (.ref 134), some (.int a1), some (.int a2)], [.int 0, .ref 134], Wm pre post I A)) rfl ?_
    refine go_pf rfl (w_0 hp) (Nat.le_of_ble_eq_true rfl) rfl (wo_0 hp) ?_
    refine go_run 1 (F' := (18, [some (.ref 134), some (.int a1), some (.int a2)], [.ref 134], Wm pre post (upd I 0 0) A)) rfl ?_
    refine go_gf rfl (w_0 hp) rfl ?_
    refine go_run 2 (F' := (25, [some (.ref 134), some (.int a1), some (.int a2)], [.ref 134], Wm pre post (upd I 0 0) A)) rfl ?_
    refine go_gf rfl (w_0 hp) rfl ?_
    refine go_run 5 (F' := (34, [some (.ref 134), some (.int a1), some (.int a2)], [.int ((6 * a1) + a2), .ref 173], Wm pre post (upd I 0 0) A)) rfl ?_
    obtain ⟨b2, hm⟩ := gd hm
    refine go_iald rfl (by decide) (w_39 hp) b2 rfl ?_
    refine go_run 1 (F' := (39, [some (.ref 134), some (.int a1), some (.int a2)], [.int ((A 39) (Int32.toNatClampNeg ((6 * a1) + a2)))], Wm pre post (upd I 0 0) A)) rfl ?_
    cases hm
    exact go_end rfl rfl
  · rw [if_neg q1] at hm ⊢
    refine go_run 0 (F' := (9, [some (.ref 134), some (.int a1), some (.int a2)], [.ref 134], Wm pre post I A)) rfl ?_
    refine go_run 2 (F' := (14, [some (.ref 134), some (.int a1), some (.int a2)], [.int 1, .ref 134], Wm pre post I A)) rfl ?_
    refine go_pf rfl (w_0 hp) (Nat.le_of_ble_eq_true rfl) rfl (wo_0 hp) ?_
    refine go_run 1 (F' := (18, [some (.ref 134), some (.int a1), some (.int a2)], [.ref 134], Wm pre post (upd I 0 1) A)) rfl ?_
    refine go_gf rfl (w_0 hp) rfl ?_
    refine go_run 2 (F' := (39, [some (.ref 134), some (.int a1), some (.int a2)], [.int 0], Wm pre post (upd I 0 1) A)) rfl ?_
    cases hm
    exact go_end rfl rfl
def x_asked (I : Nat → Int32) (A : Nat → Nat → Int32) (a1 a2 a3 : Int32) : Option xR := (if x_noQueue a1 a2 = 0 then (if a3 < 0 then (some (I, A, 2)) else (if ib ((6 * a1) + a2) 36 then (if a3 < (A 39) (Int32.toNatClampNeg ((6 * a1) + a2)) then (some (I, A, 0)) else (some (I, A, 2))) else none)) else (some (I, A, 1)))
theorem g_asked {X : ie_X} {d : Nat} {pre post : ie_H} (hp : pre.length = 134) {I : Nat → Int32} {A : Nat → Nat → Int32} {a1 a2 a3 : Int32} {I' : Nat → Int32} {A' : Nat → Nat → Int32} {r : Int32} (hm : x_asked I A a1 a2 a3 = some (I', A', r)) : Go X (d + 2) 215 (0, ie_en 215 [.ref 134, .int a1, .int a2, .int a3], [], Wm pre post I A) (.inl (some (.int r))) (Wm pre post I' A') := by
  unfold x_asked at hm
  refine go_run 0 (F' := (0, [some (.ref 134), some (.int a1), some (.int a2), some (.int a3)], [], Wm pre post I A)) rfl ?_
  refine go_run 2 (F' := (2, [some (.ref 134), some (.int a1), some (.int a2), some (.int a3)], [.int a2, .int a1], Wm pre post I A)) rfl ?_
  refine go_call (m' := 213) (v := some (.int (x_noQueue a1 a2))) (h1 := Wm pre post I A) rfl rfl ⟨rfl, Nat.le_of_ble_eq_true rfl⟩ (g_noQueue _ _) ?_
  refine go_run 0 (F' := (5, [some (.ref 134), some (.int a1), some (.int a2), some (.int a3)], [.int (x_noQueue a1 a2)], Wm pre post I A)) rfl ?_
  refine go_run 0 (F' := (5, [some (.ref 134), some (.int a1), some (.int a2), some (.int a3)], [.int (x_noQueue a1 a2)], Wm pre post I A)) rfl ?_
  refine go_step rfl rfl ?_
  by_cases q1 : x_noQueue a1 a2 = 0
  · rw [if_pos q1] at hm ⊢
    refine go_run 0 (F' := (12, [some (.ref 134), some (.int a1), some (.int a2), some (.int a3)], [], Wm pre post I A)) rfl ?_
    refine go_run 1 (F' := (13, [some (.ref 134), some (.int a1), some (.int a2), some (.int a3)], [.int a3], Wm pre post I A)) rfl ?_
    refine go_step rfl rfl ?_
    by_cases q2 : a3 < 0
    · rw [if_pos q2] at hm ⊢
      refine go_run 0 (F' := (31, [some (.ref 134), some (.int a1), some (.int a2), some (.int a3)], [], Wm pre post I A)) rfl ?_
      refine go_run 2 (F' := (36, [some (.ref 134), some (.int a1), some (.int a2), some (.int a3)], [.int 2], Wm pre post I A)) rfl ?_
      cases hm
      exact go_end rfl rfl
    · rw [if_neg q2] at hm ⊢
      refine go_run 0 (F' := (16, [some (.ref 134), some (.int a1), some (.int a2), some (.int a3)], [], Wm pre post I A)) rfl ?_
      refine go_run 2 (F' := (18, [some (.ref 134), some (.int a1), some (.int a2), some (.int a3)], [.ref 134, .int a3], Wm pre post I A)) rfl ?_
      refine go_gf rfl (w_0 hp) rfl ?_
      refine go_run 5 (F' := (27, [some (.ref 134), some (.int a1), some (.int a2), some (.int a3)], [.int ((6 * a1) + a2), .ref 173, .int a3], Wm pre post I A)) rfl ?_
      obtain ⟨b3, hm⟩ := gd hm
      refine go_iald rfl (by decide) (w_39 hp) b3 rfl ?_
      refine go_run 0 (F' := (28, [some (.ref 134), some (.int a1), some (.int a2), some (.int a3)], [.int ((A 39) (Int32.toNatClampNeg ((6 * a1) + a2))), .int a3], Wm pre post I A)) rfl ?_
      refine go_step rfl rfl ?_
      by_cases q4 : a3 < (A 39) (Int32.toNatClampNeg ((6 * a1) + a2))
      · rw [if_pos q4] at hm ⊢
        refine go_run 0 (F' := (35, [some (.ref 134), some (.int a1), some (.int a2), some (.int a3)], [], Wm pre post I A)) rfl ?_
        refine go_run 1 (F' := (36, [some (.ref 134), some (.int a1), some (.int a2), some (.int a3)], [.int 0], Wm pre post I A)) rfl ?_
        cases hm
        exact go_end rfl rfl
      · rw [if_neg q4] at hm ⊢
        refine go_run 0 (F' := (31, [some (.ref 134), some (.int a1), some (.int a2), some (.int a3)], [], Wm pre post I A)) rfl ?_
        refine go_run 2 (F' := (36, [some (.ref 134), some (.int a1), some (.int a2), some (.int a3)], [.int 2], Wm pre post I A)) rfl ?_
        cases hm
        exact go_end rfl rfl
  · rw [if_neg q1] at hm ⊢
    refine go_run 0 (F' := (8, [some (.ref 134), some (.int a1), some (.int a2), some (.int a3)], [], Wm pre post I A)) rfl ?_
    refine go_run 2 (F' := (36, [some (.ref 134), some (.int a1), some (.int a2), some (.int a3)], [.int 1], Wm pre post I A)) rfl ?_
    cases hm
    exact go_end rfl rfl
def x_message (I : Nat → Int32) (A : Nat → Nat → Int32) (a1 a2 a3 : Int32) : Option xR := (xb (x_asked I A a1 a2 a3) fun I1 A1 v1 => (if v1 = 0 then (if ib ((8 * ((6 * a1) + a2)) + a3) 288 then (some (upd I1 0 v1, A1, (A1 40) (Int32.toNatClampNeg ((8 * ((6 * a1) + a2)) + a3)))) else none) else (some (upd I1 0 v1, A1, 0))))
theorem g_message {X : ie_X} {d : Nat} {pre post : ie_H} (hp : pre.length = 134) {I : Nat → Int32} {A : Nat → Nat → Int32} {a1 a2 a3 : Int32} {I' : Nat → Int32} {A' : Nat → Nat → Int32} {r : Int32} (hm : x_message I A a1 a2 a3 = some (I', A', r)) : Go X (d + 3) 214 (0, ie_en 214 [.ref 134, .int a1, .int a2, .int a3], [], Wm pre post I A) (.inl (some (.int r))) (Wm pre post I' A') := by
  unfold x_message at hm
  refine go_run 0 (F' := (0, [some (.ref 134), some (.int a1), some (.int a2), some (.int a3)], [], Wm pre post I A)) rfl ?_
  refine go_run 5 (F' := (5, [some (.ref 134), some (.int a1), some (.int a2), some (.int a3)], [.int a3, .int a2, .int a1, .ref 134, .ref 134], Wm pre post I A)) rfl ?_
  obtain ⟨I1, A1, v1, e1, hm⟩ := xb_inv hm
  refine go_call (m' := 215) (v := some (.int v1)) (h1 := Wm pre post I1 A1) rfl (by simp only [ie_step, ie_iv, List.drop, w_0 hp]; rfl) ⟨rfl, Nat.le_of_ble_eq_true rfl⟩ (g_asked (d := d) hp e1) ?_
  refine go_run 0 (F' := (8, [some (.ref 134), some (.int a1), some (.int a2), some (.int a3)], [.int v1, .ref 134], Wm pre post I1 A1)) rfl ?_
  refine go_run 0 (F' := (8, [some (.ref 134), some (.int a1), some (.int a2), some (.int a3)], [.int v1, .ref 134], Wm pre post I1 A1)) rfl ?_
  refine go_pf rfl (w_0 hp) (Nat.le_of_ble_eq_true rfl) rfl (wo_0 hp) ?_
  refine go_run 1 (F' := (12, [some (.ref 134), some (.int a1), some (.int a2), some (.int a3)], [.ref 134], Wm pre post (upd I1 0 v1) A1)) rfl ?_
  refine go_gf rfl (w_0 hp) rfl ?_
  refine go_run 0 (F' := (15, [some (.ref 134), some (.int a1), some (.int a2), some (.int a3)], [.int v1], Wm pre post (upd I1 0 v1) A1)) rfl ?_
  refine go_step rfl rfl ?_
  by_cases q1 : v1 = 0
  · rw [if_pos q1] at hm ⊢
    refine go_run 0 (F' := (18, [some (.ref 134), some (.int a1), some (.int a2), some (.int a3)], [], Wm pre post (upd I1 0 v1) A1)) rfl ?_
    refine go_run 1 (F' := (19, [some (.ref 134), some (.int a1), some (.int a2), some (.int a3)], [.ref 134], Wm pre post (upd I1 0 v1) A1)) rfl ?_
    refine go_gf rfl (w_0 hp) rfl ?_
    refine go_run 9 (F' := (33, [some (.ref 134), some (.int a1), some (.int a2), some (.int a3)], [.int ((8 * ((6 * a1) + a2)) + a3), .ref 174], Wm pre post (upd I1 0 v1) A1)) rfl ?_
    obtain ⟨b2, hm⟩ := gd hm
    refine go_iald rfl (by decide) (w_40 hp) b2 rfl ?_
    refine go_run 1 (F' := (38, [some (.ref 134), some (.int a1), some (.int a2), some (.int a3)], [.int ((A1 40) (Int32.toNatClampNeg ((8 * ((6 * a1) + a2)) + a3)))], Wm pre post (upd I1 0 v1) A1)) rfl ?_
    cases hm
    exact go_end rfl rfl
  · rw [if_neg q1] at hm ⊢
    refine go_run 0 (F' := (37, [some (.ref 134), some (.int a1), some (.int a2), some (.int a3)], [], Wm pre post (upd I1 0 v1) A1)) rfl ?_
    refine go_run 1 (F' := (38, [some (.ref 134), some (.int a1), some (.int a2), some (.int a3)], [.int 0], Wm pre post (upd I1 0 v1) A1)) rfl ?_
    cases hm
    exact go_end rfl rfl
def x_label (I : Nat → Int32) (A : Nat → Nat → Int32) (a1 a2 a3 : Int32) : Option xR := (xb (x_asked I A a1 a2 a3) fun I1 A1 v1 => (if v1 = 0 then (if ib ((8 * ((6 * a1) + a2)) + a3) 288 then (if (A1 41) (Int32.toNatClampNeg ((8 * ((6 * a1) + a2)) + a3)) = 0 then (some (upd I1 0 v1, A1, 0)) else (some (upd I1 0 v1, A1, 1))) else none) else (some (upd I1 0 v1, A1, 0))))
theorem g_label {X : ie_X} {d : Nat} {pre post : ie_H} (hp : pre.length = 134) {I : Nat → Int32} {A : Nat → Nat → Int32} {a1 a2 a3 : Int32} {I' : Nat → Int32} {A' : Nat → Nat → Int32} {r : Int32} (hm : x_label I A a1 a2 a3 = some (I', A', r)) : Go X (d + 3) 216 (0, ie_en 216 [.ref 134, .int a1, .int a2, .int a3], [], Wm pre post I A) (.inl (some (.int r))) (Wm pre post I' A') := by
  unfold x_label at hm
  refine go_run 0 (F' := (0, [some (.ref 134), some (.int a1), some (.int a2), some (.int a3)], [], Wm pre post I A)) rfl ?_
  refine go_run 5 (F' := (5, [some (.ref 134), some (.int a1), some (.int a2), some (.int a3)], [.int a3, .int a2, .int a1, .ref 134, .ref 134], Wm pre post I A)) rfl ?_
  obtain ⟨I1, A1, v1, e1, hm⟩ := xb_inv hm
  refine go_call (m' := 215) (v := some (.int v1)) (h1 := Wm pre post I1 A1) rfl (by simp only [ie_step, ie_iv, List.drop, w_0 hp]; rfl) ⟨rfl, Nat.le_of_ble_eq_true rfl⟩ (g_asked (d := d) hp e1) ?_
  refine go_run 0 (F' := (8, [some (.ref 134), some (.int a1), some (.int a2), some (.int a3)], [.int v1, .ref 134], Wm pre post I1 A1)) rfl ?_
  refine go_run 0 (F' := (8, [some (.ref 134), some (.int a1), some (.int a2), some (.int a3)], [.int v1, .ref 134], Wm pre post I1 A1)) rfl ?_
  refine go_pf rfl (w_0 hp) (Nat.le_of_ble_eq_true rfl) rfl (wo_0 hp) ?_
  refine go_run 1 (F' := (12, [some (.ref 134), some (.int a1), some (.int a2), some (.int a3)], [.ref 134], Wm pre post (upd I1 0 v1) A1)) rfl ?_
  refine go_gf rfl (w_0 hp) rfl ?_
  refine go_run 0 (F' := (15, [some (.ref 134), some (.int a1), some (.int a2), some (.int a3)], [.int v1], Wm pre post (upd I1 0 v1) A1)) rfl ?_
  refine go_step rfl rfl ?_
  by_cases q1 : v1 = 0
  · rw [if_pos q1] at hm ⊢
    refine go_run 0 (F' := (18, [some (.ref 134), some (.int a1), some (.int a2), some (.int a3)], [], Wm pre post (upd I1 0 v1) A1)) rfl ?_
    refine go_run 1 (F' := (19, [some (.ref 134), some (.int a1), some (.int a2), some (.int a3)], [.ref 134], Wm pre post (upd I1 0 v1) A1)) rfl ?_
    refine go_gf rfl (w_0 hp) rfl ?_
    refine go_run 9 (F' := (33, [some (.ref 134), some (.int a1), some (.int a2), some (.int a3)], [.int ((8 * ((6 * a1) + a2)) + a3), .ref 175], Wm pre post (upd I1 0 v1) A1)) rfl ?_
    obtain ⟨b2, hm⟩ := gd hm
    refine go_bald rfl (by decide) (w_41 hp) b2 rfl ?_
    refine go_run 0 (F' := (34, [some (.ref 134), some (.int a1), some (.int a2), some (.int a3)], [.int ((A1 41) (Int32.toNatClampNeg ((8 * ((6 * a1) + a2)) + a3)))], Wm pre post (upd I1 0 v1) A1)) rfl ?_
    refine go_step rfl rfl ?_
    by_cases q3 : (A1 41) (Int32.toNatClampNeg ((8 * ((6 * a1) + a2)) + a3)) = 0
    · rw [if_pos q3] at hm ⊢
      refine go_run 0 (F' := (41, [some (.ref 134), some (.int a1), some (.int a2), some (.int a3)], [], Wm pre post (upd I1 0 v1) A1)) rfl ?_
      refine go_run 1 (F' := (42, [some (.ref 134), some (.int a1), some (.int a2), some (.int a3)], [.int 0], Wm pre post (upd I1 0 v1) A1)) rfl ?_
      cases hm
      exact go_end rfl rfl
    · rw [if_neg q3] at hm ⊢
      refine go_run 0 (F' := (37, [some (.ref 134), some (.int a1), some (.int a2), some (.int a3)], [], Wm pre post (upd I1 0 v1) A1)) rfl ?_
      refine go_run 2 (F' := (42, [some (.ref 134), some (.int a1), some (.int a2), some (.int a3)], [.int 1], Wm pre post (upd I1 0 v1) A1)) rfl ?_
      cases hm
      exact go_end rfl rfl
  · rw [if_neg q1] at hm ⊢
    refine go_run 0 (F' := (41, [some (.ref 134), some (.int a1), some (.int a2), some (.int a3)], [], Wm pre post (upd I1 0 v1) A1)) rfl ?_
    refine go_run 1 (F' := (42, [some (.ref 134), some (.int a1), some (.int a2), some (.int a3)], [.int 0], Wm pre post (upd I1 0 v1) A1)) rfl ?_
    cases hm
    exact go_end rfl rfl
def x_wantedTerm_43 : Nat → (Nat → Int32) → (Nat → Nat → Int32) → Int32 → Int32 → Option xR
  | 0, _, _, _, _ => none
  | n + 1, I, A, l3, l4 => (if ib l3 200 then (if ty_b (rd_fig ((A 16) (Int32.toNatClampNeg l3))) = 0 then (some (upd I 19 l3, A, l4)) else (x_wantedTerm_43 n I A (l3 + 1) (((10 * l4) + ((A 16) (Int32.toNatClampNeg l3))) - 48))) else none)
theorem g_wantedTerm_43 {X : ie_X} {d : Nat} {pre post : ie_H} (hp : pre.length = 134) : ∀ (n : Nat) {I : Nat → Int32} {A : Nat → Nat → Int32} {l3 l4 : Int32} {u1 u2 : Option Value} {I' : Nat → Int32} {A' : Nat → Nat → Int32} {r : Int32}, x_wantedTerm_43 n I A l3 l4 = some (I', A', r) → Go X (d + 1) 220 (43, [some (.ref 134), u1, u2, some (.int l3), some (.int l4)], [], Wm pre post I A) (.inl (some (.int r))) (Wm pre post I' A') := by
  intro n
  induction n with
  | zero => intro I A l3 l4 u1 u2 I' A' r hm; cases hm
  | succ n ih =>
    intro I A l3 l4 u1 u2 I' A' r hm
    unfold x_wantedTerm_43 at hm
    refine go_run 0 (F' := (43, [some (.ref 134), u1, u2, some (.int l3), some (.int l4)], [], Wm pre post I A)) rfl ?_
    refine go_run 1 (F' := (44, [some (.ref 134), u1, u2, some (.int l3), some (.int l4)], [.ref 134], Wm pre post I A)) rfl ?_
    refine go_gf rfl (w_0 hp) rfl ?_
    refine go_run 1 (F' := (48, [some (.ref 134), u1, u2, some (.int l3), some (.int l4)], [.int l3, .ref 150], Wm pre post I A)) rfl ?_
    obtain ⟨b1, hm⟩ := gd hm
    refine go_iald rfl (by decide) (w_16 hp) b1 rfl ?_
    refine go_run 0 (F' := (49, [some (.ref 134), u1, u2, some (.int l3), some (.int l4)], [.int ((A 16) (Int32.toNatClampNeg l3))], Wm pre post I A)) rfl ?_
    refine go_call (m' := 146) (v := some (.int (ty_b (rd_fig ((A 16) (Int32.toNatClampNeg l3)))))) (h1 := Wm pre post I A) rfl rfl ⟨rfl, Nat.le_of_ble_eq_true rfl⟩ (rm_isFig _) ?_
    refine go_run 0 (F' := (52, [some (.ref 134), u1, u2, some (.int l3), some (.int l4)], [.int (ty_b (rd_fig ((A 16) (Int32.toNatClampNeg l3))))], Wm pre post I A)) rfl ?_
    refine go_run 0 (F' := (52, [some (.ref 134), u1, u2, some (.int l3), some (.int l4)], [.int (ty_b (rd_fig ((A 16) (Int32.toNatClampNeg l3))))], Wm pre post I A)) rfl ?_
    refine go_step rfl rfl ?_
    by_cases q2 : ty_b (rd_fig ((A 16) (Int32.toNatClampNeg l3))) = 0
    · rw [if_pos q2] at hm ⊢
      refine go_run 0 (F' := (78, [some (.ref 134), u1, u2, some (.int l3), some (.int l4)], [], Wm pre post I A)) rfl ?_
      refine go_run 2 (F' := (80, [some (.ref 134), u1, u2, some (.int l3), some (.int l4)], [.int l3, .ref 134], Wm pre post I A)) rfl ?_
      refine go_pf rfl (w_0 hp) (Nat.le_of_ble_eq_true rfl) rfl (wo_19 hp) ?_
      refine go_run 1 (F' := (85, [some (.ref 134), u1, u2, some (.int l3), some (.int l4)], [.int l4], Wm pre post (upd I 19 l3) A)) rfl ?_
      cases hm
      exact go_end rfl rfl
    · rw [if_neg q2] at hm ⊢
      refine go_run 0 (F' := (55, [some (.ref 134), u1, u2, some (.int l3), some (.int l4)], [], Wm pre post I A)) rfl ?_
      refine go_run 4 (F' := (61, [some (.ref 134), u1, u2, some (.int l3), some (.int l4)], [.ref 134, .int (10 * l4)], Wm pre post I A)) rfl ?_
      refine go_gf rfl (w_0 hp) rfl ?_
      refine go_run 1 (F' := (65, [some (.ref 134), u1, u2, some (.int l3), some (.int l4)], [.int l3, .ref 150, .int (10 * l4)], Wm pre post I A)) rfl ?_
      refine go_iald rfl (by decide) (w_16 hp) b1 rfl ?_
      refine go_run 6 (F' := (43, [some (.ref 134), u1, u2, some (.int (l3 + 1)), some (.int (((10 * l4) + ((A 16) (Int32.toNatClampNeg l3))) - 48))], [], Wm pre post I A)) rfl ?_
      exact ih hm
def x_wantedTerm (n : Nat) (I : Nat → Int32) (A : Nat → Nat → Int32) (a1 a2 : Int32) : Option xR := (if ib a2 200 then (if ty_b (rd_var ((A 16) (Int32.toNatClampNeg a2))) = 0 then (x_wantedTerm_43  n I A a2 0) else (if ib (((4 * a1) + ((A 16) (Int32.toNatClampNeg a2))) - 119) 24 then (some (upd I 19 (a2 + 1), A, (A 35) (Int32.toNatClampNeg (((4 * a1) + ((A 16) (Int32.toNatClampNeg a2))) - 119)))) else none)) else none)
theorem g_wantedTerm {X : ie_X} {d : Nat} {pre post : ie_H} (hp : pre.length = 134) {n : Nat} {I : Nat → Int32} {A : Nat → Nat → Int32} {a1 a2 : Int32} {I' : Nat → Int32} {A' : Nat → Nat → Int32} {r : Int32} (hm : x_wantedTerm n I A a1 a2 = some (I', A', r)) : Go X (d + 1) 220 (0, ie_en 220 [.ref 134, .int a1, .int a2], [], Wm pre post I A) (.inl (some (.int r))) (Wm pre post I' A') := by
  unfold x_wantedTerm at hm
  refine go_run 0 (F' := (0, [some (.ref 134), some (.int a1), some (.int a2), none, none], [], Wm pre post I A)) rfl ?_
  refine go_run 3 (F' := (3, [some (.ref 134), some (.int a1), some (.int a2), some (.int a2), none], [.ref 134], Wm pre post I A)) rfl ?_
  refine go_gf rfl (w_0 hp) rfl ?_
  refine go_run 1 (F' := (7, [some (.ref 134), some (.int a1), some (.int a2), some (.int a2), none], [.int a2, .ref 150], Wm pre post I A)) rfl ?_
  obtain ⟨b1, hm⟩ := gd hm
  refine go_iald rfl (by decide) (w_16 hp) b1 rfl ?_
  refine go_run 0 (F' := (8, [some (.ref 134), some (.int a1), some (.int a2), some (.int a2), none], [.int ((A 16) (Int32.toNatClampNeg a2))], Wm pre post I A)) rfl ?_
  refine go_call (m' := 150) (v := some (.int (ty_b (rd_var ((A 16) (Int32.toNatClampNeg a2)))))) (h1 := Wm pre post I A) rfl rfl ⟨rfl, Nat.le_of_ble_eq_true rfl⟩ (rm_isVar _) ?_
  refine go_run 0 (F' := (11, [some (.ref 134), some (.int a1), some (.int a2), some (.int a2), none], [.int (ty_b (rd_var ((A 16) (Int32.toNatClampNeg a2))))], Wm pre post I A)) rfl ?_
  refine go_run 0 (F' := (11, [some (.ref 134), some (.int a1), some (.int a2), some (.int a2), none], [.int (ty_b (rd_var ((A 16) (Int32.toNatClampNeg a2))))], Wm pre post I A)) rfl ?_
  refine go_step rfl rfl ?_
  by_cases q2 : ty_b (rd_var ((A 16) (Int32.toNatClampNeg a2))) = 0
  · rw [if_pos q2] at hm ⊢
    refine go_run 0 (F' := (40, [some (.ref 134), some (.int a1), some (.int a2), some (.int a2), none], [], Wm pre post I A)) rfl ?_
    refine go_run 2 (F' := (43, [some (.ref 134), some (.int a1), some (.int a2), some (.int a2), some (.int 0)], [], Wm pre post I A)) rfl ?_
    exact g_wantedTerm_43 hp  n hm
  · rw [if_neg q2] at hm ⊢
    refine go_run 0 (F' := (14, [some (.ref 134), some (.int a1), some (.int a2), some (.int a2), none], [], Wm pre post I A)) rfl ?_
    refine go_run 4 (F' := (18, [some (.ref 134), some (.int a1), some (.int a2), some (.int a2), none], [.int (a2 + 1), .ref 134], Wm pre post I A)) rfl ?_
    refine go_pf rfl (w_0 hp) (Nat.le_of_ble_eq_true rfl) rfl (wo_19 hp) ?_
    refine go_run 1 (F' := (22, [some (.ref 134), some (.int a1), some (.int a2), some (.int a2), none], [.ref 134], Wm pre post (upd I 19 (a2 + 1)) A)) rfl ?_
    refine go_gf rfl (w_0 hp) rfl ?_
    refine go_run 4 (F' := (29, [some (.ref 134), some (.int a1), some (.int a2), some (.int a2), none], [.ref 134, .int (4 * a1), .ref 169], Wm pre post (upd I 19 (a2 + 1)) A)) rfl ?_
    refine go_gf rfl (w_0 hp) rfl ?_
    refine go_run 1 (F' := (33, [some (.ref 134), some (.int a1), some (.int a2), some (.int a2), none], [.int a2, .ref 150, .int (4 * a1), .ref 169], Wm pre post (upd I 19 (a2 + 1)) A)) rfl ?_
    refine go_iald rfl (by decide) (w_16 hp) b1 rfl ?_
    refine go_run 3 (F' := (38, [some (.ref 134), some (.int a1), some (.int a2), some (.int a2), none], [.int (((4 * a1) + ((A 16) (Int32.toNatClampNeg a2))) - 119), .ref 169], Wm pre post (upd I 19 (a2 + 1)) A)) rfl ?_
    obtain ⟨b3, hm⟩ := gd hm
    refine go_iald rfl (by decide) (w_35 hp) b3 rfl ?_
    refine go_run 0 (F' := (39, [some (.ref 134), some (.int a1), some (.int a2), some (.int a2), none], [.int ((A 35) (Int32.toNatClampNeg (((4 * a1) + ((A 16) (Int32.toNatClampNeg a2))) - 119)))], Wm pre post (upd I 19 (a2 + 1)) A)) rfl ?_
    cases hm
    exact go_end rfl rfl
def x_wantedWorth (n : Nat) (I : Nat → Int32) (A : Nat → Nat → Int32) (a1 : Int32) : Option xR := (if ib a1 200 then (xb (x_wantedTerm n I A ((A 18) (Int32.toNatClampNeg a1)) ((A 21) (Int32.toNatClampNeg a1))) fun I1 A1 v1 => (if ib (I1 19) 200 then (if ty_b (rd_op ((A1 16) (Int32.toNatClampNeg (I1 19)))) = 0 then (some (I1, A1, v1)) else (xb (x_wantedTerm n I1 A1 ((A 18) (Int32.toNatClampNeg a1)) ((I1 19) + 1)) fun I2 A2 v2 => (some (I2, A2, x_reckon v1 ((A1 16) (Int32.toNatClampNeg (I1 19))) v2)))) else none)) else none)
theorem g_wantedWorth {X : ie_X} {d : Nat} {pre post : ie_H} (hp : pre.length = 134) {n : Nat} {I : Nat → Int32} {A : Nat → Nat → Int32} {a1 : Int32} {I' : Nat → Int32} {A' : Nat → Nat → Int32} {r : Int32} (hm : x_wantedWorth n I A a1 = some (I', A', r)) : Go X (d + 2) 219 (0, ie_en 219 [.ref 134, .int a1], [], Wm pre post I A) (.inl (some (.int r))) (Wm pre post I' A') := by
  unfold x_wantedWorth at hm
  refine go_run 0 (F' := (0, [some (.ref 134), some (.int a1), none, none, none], [], Wm pre post I A)) rfl ?_
  refine go_run 1 (F' := (1, [some (.ref 134), some (.int a1), none, none, none], [.ref 134], Wm pre post I A)) rfl ?_
  refine go_gf rfl (w_0 hp) rfl ?_
  refine go_run 1 (F' := (5, [some (.ref 134), some (.int a1), none, none, none], [.int a1, .ref 152], Wm pre post I A)) rfl ?_
  obtain ⟨b1, hm⟩ := gd hm
  refine go_iald rfl (by decide) (w_18 hp) b1 rfl ?_
  refine go_run 4 (F' := (10, [some (.ref 134), some (.int a1), some (.int ((A 18) (Int32.toNatClampNeg a1))), none, none], [.ref 134, .int ((A 18) (Int32.toNatClampNeg a1)), .ref 134], Wm pre post I A)) rfl ?_
  refine go_gf rfl (w_0 hp) rfl ?_
  refine go_run 1 (F' := (14, [some (.ref 134), some (.int a1), some (.int ((A 18) (Int32.toNatClampNeg a1))), none, none], [.int a1, .ref 155, .int ((A 18) (Int32.toNatClampNeg a1)), .ref 134], Wm pre post I A)) rfl ?_
  refine go_iald rfl (by decide) (w_21 hp) b1 rfl ?_
  refine go_run 0 (F' := (15, [some (.ref 134), some (.int a1), some (.int ((A 18) (Int32.toNatClampNeg a1))), none, none], [.int ((A 21) (Int32.toNatClampNeg a1)), .int ((A 18) (Int32.toNatClampNeg a1)), .ref 134], Wm pre post I A)) rfl ?_
  obtain ⟨I1, A1, v1, e1, hm⟩ := xb_inv hm
  refine go_call (m' := 220) (v := some (.int v1)) (h1 := Wm pre post I1 A1) rfl (by simp only [ie_step, ie_iv, List.drop, w_0 hp]; rfl) ⟨rfl, Nat.le_of_ble_eq_true rfl⟩ (g_wantedTerm (d := d) hp e1) ?_
  refine go_run 0 (F' := (18, [some (.ref 134), some (.int a1), some (.int ((A 18) (Int32.toNatClampNeg a1))), none, none], [.int v1], Wm pre post I1 A1)) rfl ?_
  refine go_run 2 (F' := (20, [some (.ref 134), some (.int a1), some (.int ((A 18) (Int32.toNatClampNeg a1))), some (.int v1), none], [.ref 134], Wm pre post I1 A1)) rfl ?_
  refine go_gf rfl (w_0 hp) rfl ?_
  refine go_run 1 (F' := (24, [some (.ref 134), some (.int a1), some (.int ((A 18) (Int32.toNatClampNeg a1))), some (.int v1), none], [.ref 134, .ref 150], Wm pre post I1 A1)) rfl ?_
  refine go_gf rfl (w_0 hp) rfl ?_
  refine go_run 0 (F' := (27, [some (.ref 134), some (.int a1), some (.int ((A 18) (Int32.toNatClampNeg a1))), some (.int v1), none], [.int (I1 19), .ref 150], Wm pre post I1 A1)) rfl ?_
  obtain ⟨b2, hm⟩ := gd hm
  refine go_iald rfl (by decide) (w_16 hp) b2 rfl ?_
  refine go_run 2 (F' := (32, [some (.ref 134), some (.int a1), some (.int ((A 18) (Int32.toNatClampNeg a1))), some (.int v1), some (.int ((A1 16) (Int32.toNatClampNeg (I1 19))))], [.int ((A1 16) (Int32.toNatClampNeg (I1 19)))], Wm pre post I1 A1)) rfl ?_
  refine go_call (m' := 151) (v := some (.int (ty_b (rd_op ((A1 16) (Int32.toNatClampNeg (I1 19))))))) (h1 := Wm pre post I1 A1) rfl rfl ⟨rfl, Nat.le_of_ble_eq_true rfl⟩ (rm_isSign _) ?_
  refine go_run 0 (F' := (35, [some (.ref 134), some (.int a1), some (.int ((A 18) (Int32.toNatClampNeg a1))), some (.int v1), some (.int ((A1 16) (Int32.toNatClampNeg (I1 19))))], [.int (ty_b (rd_op ((A1 16) (Int32.toNatClampNeg (I1 19)))))], Wm pre post I1 A1)) rfl ?_
  refine go_run 0 (F' := (35, [some (.ref 134), some (.int a1), some (.int ((A 18) (Int32.toNatClampNeg a1))), some (.int v1), some (.int ((A1 16) (Int32.toNatClampNeg (I1 19))))], [.int (ty_b (rd_op ((A1 16) (Int32.toNatClampNeg (I1 19)))))], Wm pre post I1 A1)) rfl ?_
  refine go_step rfl rfl ?_
  by_cases q3 : ty_b (rd_op ((A1 16) (Int32.toNatClampNeg (I1 19)))) = 0
  · rw [if_pos q3] at hm ⊢
    refine go_run 0 (F' := (58, [some (.ref 134), some (.int a1), some (.int ((A 18) (Int32.toNatClampNeg a1))), some (.int v1), some (.int ((A1 16) (Int32.toNatClampNeg (I1 19))))], [], Wm pre post I1 A1)) rfl ?_
    refine go_run 1 (F' := (59, [some (.ref 134), some (.int a1), some (.int ((A 18) (Int32.toNatClampNeg a1))), some (.int v1), some (.int ((A1 16) (Int32.toNatClampNeg (I1 19))))], [.int v1], Wm pre post I1 A1)) rfl ?_
    cases hm
    exact go_end rfl rfl
  · rw [if_neg q3] at hm ⊢
    refine go_run 0 (F' := (38, [some (.ref 134), some (.int a1), some (.int ((A 18) (Int32.toNatClampNeg a1))), some (.int v1), some (.int ((A1 16) (Int32.toNatClampNeg (I1 19))))], [], Wm pre post I1 A1)) rfl ?_
    refine go_run 5 (F' := (44, [some (.ref 134), some (.int a1), some (.int ((A 18) (Int32.toNatClampNeg a1))), some (.int v1), some (.int ((A1 16) (Int32.toNatClampNeg (I1 19))))], [.ref 134, .int ((A 18) (Int32.toNatClampNeg a1)), .ref 134, .int ((A1 16) (Int32.toNatClampNeg (I1 19))), .int v1], Wm pre post I1 A1)) rfl ?_
    refine go_gf rfl (w_0 hp) rfl ?_
    refine go_run 2 (F' := (49, [some (.ref 134), some (.int a1), some (.int ((A 18) (Int32.toNatClampNeg a1))), some (.int v1), some (.int ((A1 16) (Int32.toNatClampNeg (I1 19))))], [.int ((I1 19) + 1), .int ((A 18) (Int32.toNatClampNeg a1)), .ref 134, .int ((A1 16) (Int32.toNatClampNeg (I1 19))), .int v1], Wm pre post I1 A1)) rfl ?_
    obtain ⟨I2, A2, v2, e2, hm⟩ := xb_inv hm
    refine go_call (m' := 220) (v := some (.int v2)) (h1 := Wm pre post I2 A2) rfl (by simp only [ie_step, ie_iv, List.drop, w_0 hp]; rfl) ⟨rfl, Nat.le_of_ble_eq_true rfl⟩ (g_wantedTerm (d := d) hp e2) ?_
    refine go_run 0 (F' := (52, [some (.ref 134), some (.int a1), some (.int ((A 18) (Int32.toNatClampNeg a1))), some (.int v1), some (.int ((A1 16) (Int32.toNatClampNeg (I1 19))))], [.int v2, .int ((A1 16) (Int32.toNatClampNeg (I1 19))), .int v1], Wm pre post I2 A2)) rfl ?_
    refine go_run 0 (F' := (52, [some (.ref 134), some (.int a1), some (.int ((A 18) (Int32.toNatClampNeg a1))), some (.int v1), some (.int ((A1 16) (Int32.toNatClampNeg (I1 19))))], [.int v2, .int ((A1 16) (Int32.toNatClampNeg (I1 19))), .int v1], Wm pre post I2 A2)) rfl ?_
    refine go_call (m' := 204) (v := some (.int (x_reckon v1 ((A1 16) (Int32.toNatClampNeg (I1 19))) v2))) (h1 := Wm pre post I2 A2) rfl rfl ⟨rfl, Nat.le_of_ble_eq_true rfl⟩ (g_reckon _ _ _) ?_
    refine go_run 0 (F' := (55, [some (.ref 134), some (.int a1), some (.int ((A 18) (Int32.toNatClampNeg a1))), some (.int v1), some (.int ((A1 16) (Int32.toNatClampNeg (I1 19))))], [.int (x_reckon v1 ((A1 16) (Int32.toNatClampNeg (I1 19))) v2)], Wm pre post I2 A2)) rfl ?_
    refine go_run 1 (F' := (59, [some (.ref 134), some (.int a1), some (.int ((A 18) (Int32.toNatClampNeg a1))), some (.int v1), some (.int ((A1 16) (Int32.toNatClampNeg (I1 19))))], [.int (x_reckon v1 ((A1 16) (Int32.toNatClampNeg (I1 19))) v2)], Wm pre post I2 A2)) rfl ?_
    cases hm
    exact go_end rfl rfl
theorem sw_218_13 {X : ie_X} {r : Nat × Nat × Nat} {ls : ie_L} {st : List Value} {h : ie_H} {x : Int32} (q0 : ¬ x = 1) (q1 : ¬ x = 2) (q2 : ¬ x = 4) (q3 : ¬ x = 5) : ie_step X 218 (.tableswitch 134 1 5 #[35, 59, 134, 88, 111]) r 13 ls (.int x :: st) h = some (.inl (147, ls, st, h)) := by
  have n0 : x.toInt ≠ 1 := fun z => q0 (Int32.toInt_inj.mp z)
  have n1 : x.toInt ≠ 2 := fun z => q1 (Int32.toInt_inj.mp z)
  have n2 : x.toInt ≠ 4 := fun z => q2 (Int32.toInt_inj.mp z)
  have n3 : x.toInt ≠ 5 := fun z => q3 (Int32.toInt_inj.mp z)
  clear q0 q1 q2 q3
  show (some (.inl (ie_ts 13 134 1 5 #[35, 59, 134, 88, 111] x.toInt, ls, st, h)) : ie_R) = _
  unfold ie_ts
  by_cases c : x.toInt < 1 ∨ 5 < x.toInt
  · rw [if_pos c]; rfl
  · rw [if_neg c]
    rcases (show x.toInt = 3 by omega) with e
    · rw [e]; rfl
def x_play (n : Nat) (I : Nat → Int32) (A : Nat → Nat → Int32) (a1 : Int32) : Option xR := (if ib a1 200 then (if (A 17) (Int32.toNatClampNeg a1) = 1 then (xb (x_wantedWorth n I A a1) fun I1 A1 v1 => (if ib ((4 * ((A 18) (Int32.toNatClampNeg a1))) + ((A 20) (Int32.toNatClampNeg a1))) 24 then (some (I1, upA A1 35 (upd (A1 35) (Int32.toNatClampNeg ((4 * ((A 18) (Int32.toNatClampNeg a1))) + ((A 20) (Int32.toNatClampNeg a1)))) v1), a1 + 1)) else none)) else (if (A 17) (Int32.toNatClampNeg a1) = 2 then (xb (x_wantedWorth n I A a1) fun I2 A2 v2 => (if ib ((4 * ((A 19) (Int32.toNatClampNeg a1))) + ((A 20) (Int32.toNatClampNeg a1))) 24 then (some (I2, upA A2 35 (upd (A2 35) (Int32.toNatClampNeg ((4 * ((A 19) (Int32.toNatClampNeg a1))) + ((A 20) (Int32.toNatClampNeg a1)))) v2), a1 + 1)) else none)) else (if (A 17) (Int32.toNatClampNeg a1) = 4 then (xb (x_wantedWorth n I A a1) fun I3 A3 v3 => (if v3 = 0 then (some (I3, A3, ((A3 22) (Int32.toNatClampNeg a1)) + 1)) else (some (I3, A3, a1 + 1)))) else (if (A 17) (Int32.toNatClampNeg a1) = 5 then (xb (x_wantedWorth n I A a1) fun I4 A4 v4 => (if v4 = 0 then (some (I4, A4, ((A4 22) (Int32.toNatClampNeg a1)) + 1)) else (some (I4, A4, a1 + 1)))) else (some (I, A, a1 + 1)))))) else none)
theorem g_play {X : ie_X} {d : Nat} {pre post : ie_H} (hp : pre.length = 134) {n : Nat} {I : Nat → Int32} {A : Nat → Nat → Int32} {a1 : Int32} {I' : Nat → Int32} {A' : Nat → Nat → Int32} {r : Int32} (hm : x_play n I A a1 = some (I', A', r)) : Go X (d + 3) 218 (0, ie_en 218 [.ref 134, .int a1], [], Wm pre post I A) (.inl (some (.int r))) (Wm pre post I' A') := by
  unfold x_play at hm
  refine go_run 0 (F' := (0, [some (.ref 134), some (.int a1), none], [], Wm pre post I A)) rfl ?_
  refine go_run 1 (F' := (1, [some (.ref 134), some (.int a1), none], [.ref 134], Wm pre post I A)) rfl ?_
  refine go_gf rfl (w_0 hp) rfl ?_
  refine go_run 1 (F' := (5, [some (.ref 134), some (.int a1), none], [.int a1, .ref 152], Wm pre post I A)) rfl ?_
  obtain ⟨b1, hm⟩ := gd hm
  refine go_iald rfl (by decide) (w_18 hp) b1 rfl ?_
  refine go_run 2 (F' := (8, [some (.ref 134), some (.int a1), some (.int ((A 18) (Int32.toNatClampNeg a1)))], [.ref 134], Wm pre post I A)) rfl ?_
  refine go_gf rfl (w_0 hp) rfl ?_
  refine go_run 1 (F' := (12, [some (.ref 134), some (.int a1), some (.int ((A 18) (Int32.toNatClampNeg a1)))], [.int a1, .ref 151], Wm pre post I A)) rfl ?_
  refine go_iald rfl (by decide) (w_17 hp) b1 rfl ?_
  refine go_run 0 (F' := (13, [some (.ref 134), some (.int a1), some (.int ((A 18) (Int32.toNatClampNeg a1)))], [.int ((A 17) (Int32.toNatClampNeg a1))], Wm pre post I A)) rfl ?_
  by_cases q2 : (A 17) (Int32.toNatClampNeg a1) = 1
  · rw [if_pos q2] at hm
    refine go_step rfl (F := (48, [some (.ref 134), some (.int a1), some (.int ((A 18) (Int32.toNatClampNeg a1)))], [], Wm pre post I A)) (by simp only [ie_step, q2]; rfl) ?_
    refine go_run 0 (F' := (48, [some (.ref 134), some (.int a1), some (.int ((A 18) (Int32.toNatClampNeg a1)))], [], Wm pre post I A)) rfl ?_
    refine go_run 1 (F' := (49, [some (.ref 134), some (.int a1), some (.int ((A 18) (Int32.toNatClampNeg a1)))], [.ref 134], Wm pre post I A)) rfl ?_
    refine go_gf rfl (w_0 hp) rfl ?_
    refine go_run 4 (F' := (56, [some (.ref 134), some (.int a1), some (.int ((A 18) (Int32.toNatClampNeg a1)))], [.ref 134, .int (4 * ((A 18) (Int32.toNatClampNeg a1))), .ref 169], Wm pre post I A)) rfl ?_
    refine go_gf rfl (w_0 hp) rfl ?_
    refine go_run 1 (F' := (60, [some (.ref 134), some (.int a1), some (.int ((A 18) (Int32.toNatClampNeg a1)))], [.int a1, .ref 154, .int (4 * ((A 18) (Int32.toNatClampNeg a1))), .ref 169], Wm pre post I A)) rfl ?_
    refine go_iald rfl (by decide) (w_20 hp) b1 rfl ?_
    refine go_run 3 (F' := (64, [some (.ref 134), some (.int a1), some (.int ((A 18) (Int32.toNatClampNeg a1)))], [.int a1, .ref 134, .int ((4 * ((A 18) (Int32.toNatClampNeg a1))) + ((A 20) (Int32.toNatClampNeg a1))), .ref 169], Wm pre post I A)) rfl ?_
    obtain ⟨I1, A1, v1, e1, hm⟩ := xb_inv hm
    refine go_call (m' := 219) (v := some (.int v1)) (h1 := Wm pre post I1 A1) rfl (by simp only [ie_step, ie_iv, List.drop, w_0 hp]; rfl) ⟨rfl, Nat.le_of_ble_eq_true rfl⟩ (g_wantedWorth (d := d) hp e1) ?_
    refine go_run 0 (F' := (67, [some (.ref 134), some (.int a1), some (.int ((A 18) (Int32.toNatClampNeg a1)))], [.int v1, .int ((4 * ((A 18) (Int32.toNatClampNeg a1))) + ((A 20) (Int32.toNatClampNeg a1))), .ref 169], Wm pre post I1 A1)) rfl ?_
    refine go_run 0 (F' := (67, [some (.ref 134), some (.int a1), some (.int ((A 18) (Int32.toNatClampNeg a1)))], [.int v1, .int ((4 * ((A 18) (Int32.toNatClampNeg a1))) + ((A 20) (Int32.toNatClampNeg a1))), .ref 169], Wm pre post I1 A1)) rfl ?_
    obtain ⟨b3, hm⟩ := gd hm
    refine go_iast rfl (w_35 hp) b3 (ws_35 hp) ?_
    refine go_run 3 (F' := (71, [some (.ref 134), some (.int a1), some (.int ((A 18) (Int32.toNatClampNeg a1)))], [.int (a1 + 1)], Wm pre post I1 (upA A1 35 (upd (A1 35) (Int32.toNatClampNeg ((4 * ((A 18) (Int32.toNatClampNeg a1))) + ((A 20) (Int32.toNatClampNeg a1)))) v1)))) rfl ?_
    cases hm
    exact go_end rfl rfl
  · rw [if_neg q2] at hm
    by_cases q4 : (A 17) (Int32.toNatClampNeg a1) = 2
    · rw [if_pos q4] at hm
      refine go_step rfl (F := (72, [some (.ref 134), some (.int a1), some (.int ((A 18) (Int32.toNatClampNeg a1)))], [], Wm pre post I A)) (by simp only [ie_step, q4]; rfl) ?_
      refine go_run 0 (F' := (72, [some (.ref 134), some (.int a1), some (.int ((A 18) (Int32.toNatClampNeg a1)))], [], Wm pre post I A)) rfl ?_
      refine go_run 1 (F' := (73, [some (.ref 134), some (.int a1), some (.int ((A 18) (Int32.toNatClampNeg a1)))], [.ref 134], Wm pre post I A)) rfl ?_
      refine go_gf rfl (w_0 hp) rfl ?_
      refine go_run 2 (F' := (78, [some (.ref 134), some (.int a1), some (.int ((A 18) (Int32.toNatClampNeg a1)))], [.ref 134, .int 4, .ref 169], Wm pre post I A)) rfl ?_
      refine go_gf rfl (w_0 hp) rfl ?_
      refine go_run 1 (F' := (82, [some (.ref 134), some (.int a1), some (.int ((A 18) (Int32.toNatClampNeg a1)))], [.int a1, .ref 153, .int 4, .ref 169], Wm pre post I A)) rfl ?_
      refine go_iald rfl (by decide) (w_19 hp) b1 rfl ?_
      refine go_run 2 (F' := (85, [some (.ref 134), some (.int a1), some (.int ((A 18) (Int32.toNatClampNeg a1)))], [.ref 134, .int (4 * ((A 19) (Int32.toNatClampNeg a1))), .ref 169], Wm pre post I A)) rfl ?_
      refine go_gf rfl (w_0 hp) rfl ?_
      refine go_run 1 (F' := (89, [some (.ref 134), some (.int a1), some (.int ((A 18) (Int32.toNatClampNeg a1)))], [.int a1, .ref 154, .int (4 * ((A 19) (Int32.toNatClampNeg a1))), .ref 169], Wm pre post I A)) rfl ?_
      refine go_iald rfl (by decide) (w_20 hp) b1 rfl ?_
      refine go_run 3 (F' := (93, [some (.ref 134), some (.int a1), some (.int ((A 18) (Int32.toNatClampNeg a1)))], [.int a1, .ref 134, .int ((4 * ((A 19) (Int32.toNatClampNeg a1))) + ((A 20) (Int32.toNatClampNeg a1))), .ref 169], Wm pre post I A)) rfl ?_
      obtain ⟨I2, A2, v2, e2, hm⟩ := xb_inv hm
      refine go_call (m' := 219) (v := some (.int v2)) (h1 := Wm pre post I2 A2) rfl (by simp only [ie_step, ie_iv, List.drop, w_0 hp]; rfl) ⟨rfl, Nat.le_of_ble_eq_true rfl⟩ (g_wantedWorth (d := d) hp e2) ?_
      refine go_run 0 (F' := (96, [some (.ref 134), some (.int a1), some (.int ((A 18) (Int32.toNatClampNeg a1)))], [.int v2, .int ((4 * ((A 19) (Int32.toNatClampNeg a1))) + ((A 20) (Int32.toNatClampNeg a1))), .ref 169], Wm pre post I2 A2)) rfl ?_
      refine go_run 0 (F' := (96, [some (.ref 134), some (.int a1), some (.int ((A 18) (Int32.toNatClampNeg a1)))], [.int v2, .int ((4 * ((A 19) (Int32.toNatClampNeg a1))) + ((A 20) (Int32.toNatClampNeg a1))), .ref 169], Wm pre post I2 A2)) rfl ?_
      obtain ⟨b5, hm⟩ := gd hm
      refine go_iast rfl (w_35 hp) b5 (ws_35 hp) ?_
      refine go_run 3 (F' := (100, [some (.ref 134), some (.int a1), some (.int ((A 18) (Int32.toNatClampNeg a1)))], [.int (a1 + 1)], Wm pre post I2 (upA A2 35 (upd (A2 35) (Int32.toNatClampNeg ((4 * ((A 19) (Int32.toNatClampNeg a1))) + ((A 20) (Int32.toNatClampNeg a1)))) v2)))) rfl ?_
      cases hm
      exact go_end rfl rfl
    · rw [if_neg q4] at hm
      by_cases q6 : (A 17) (Int32.toNatClampNeg a1) = 4
      · rw [if_pos q6] at hm
        refine go_step rfl (F := (101, [some (.ref 134), some (.int a1), some (.int ((A 18) (Int32.toNatClampNeg a1)))], [], Wm pre post I A)) (by simp only [ie_step, q6]; rfl) ?_
        refine go_run 0 (F' := (101, [some (.ref 134), some (.int a1), some (.int ((A 18) (Int32.toNatClampNeg a1)))], [], Wm pre post I A)) rfl ?_
        refine go_run 2 (F' := (103, [some (.ref 134), some (.int a1), some (.int ((A 18) (Int32.toNatClampNeg a1)))], [.int a1, .ref 134], Wm pre post I A)) rfl ?_
        obtain ⟨I3, A3, v3, e3, hm⟩ := xb_inv hm
        refine go_call (m' := 219) (v := some (.int v3)) (h1 := Wm pre post I3 A3) rfl (by simp only [ie_step, ie_iv, List.drop, w_0 hp]; rfl) ⟨rfl, Nat.le_of_ble_eq_true rfl⟩ (g_wantedWorth (d := d) hp e3) ?_
        refine go_run 0 (F' := (106, [some (.ref 134), some (.int a1), some (.int ((A 18) (Int32.toNatClampNeg a1)))], [.int v3], Wm pre post I3 A3)) rfl ?_
        refine go_run 0 (F' := (106, [some (.ref 134), some (.int a1), some (.int ((A 18) (Int32.toNatClampNeg a1)))], [.int v3], Wm pre post I3 A3)) rfl ?_
        refine go_step rfl rfl ?_
        by_cases q7 : v3 = 0
        · rw [if_pos q7] at hm ⊢
          refine go_run 0 (F' := (115, [some (.ref 134), some (.int a1), some (.int ((A 18) (Int32.toNatClampNeg a1)))], [], Wm pre post I3 A3)) rfl ?_
          refine go_run 1 (F' := (116, [some (.ref 134), some (.int a1), some (.int ((A 18) (Int32.toNatClampNeg a1)))], [.ref 134], Wm pre post I3 A3)) rfl ?_
          refine go_gf rfl (w_0 hp) rfl ?_
          refine go_run 1 (F' := (120, [some (.ref 134), some (.int a1), some (.int ((A 18) (Int32.toNatClampNeg a1)))], [.int a1, .ref 156], Wm pre post I3 A3)) rfl ?_
          refine go_iald rfl (by decide) (w_22 hp) b1 rfl ?_
          refine go_run 2 (F' := (123, [some (.ref 134), some (.int a1), some (.int ((A 18) (Int32.toNatClampNeg a1)))], [.int (((A3 22) (Int32.toNatClampNeg a1)) + 1)], Wm pre post I3 A3)) rfl ?_
          cases hm
          exact go_end rfl rfl
        · rw [if_neg q7] at hm ⊢
          refine go_run 0 (F' := (109, [some (.ref 134), some (.int a1), some (.int ((A 18) (Int32.toNatClampNeg a1)))], [], Wm pre post I3 A3)) rfl ?_
          refine go_run 4 (F' := (123, [some (.ref 134), some (.int a1), some (.int ((A 18) (Int32.toNatClampNeg a1)))], [.int (a1 + 1)], Wm pre post I3 A3)) rfl ?_
          cases hm
          exact go_end rfl rfl
      · rw [if_neg q6] at hm
        by_cases q8 : (A 17) (Int32.toNatClampNeg a1) = 5
        · rw [if_pos q8] at hm
          refine go_step rfl (F := (124, [some (.ref 134), some (.int a1), some (.int ((A 18) (Int32.toNatClampNeg a1)))], [], Wm pre post I A)) (by simp only [ie_step, q8]; rfl) ?_
          refine go_run 0 (F' := (124, [some (.ref 134), some (.int a1), some (.int ((A 18) (Int32.toNatClampNeg a1)))], [], Wm pre post I A)) rfl ?_
          refine go_run 2 (F' := (126, [some (.ref 134), some (.int a1), some (.int ((A 18) (Int32.toNatClampNeg a1)))], [.int a1, .ref 134], Wm pre post I A)) rfl ?_
          obtain ⟨I4, A4, v4, e4, hm⟩ := xb_inv hm
          refine go_call (m' := 219) (v := some (.int v4)) (h1 := Wm pre post I4 A4) rfl (by simp only [ie_step, ie_iv, List.drop, w_0 hp]; rfl) ⟨rfl, Nat.le_of_ble_eq_true rfl⟩ (g_wantedWorth (d := d) hp e4) ?_
          refine go_run 0 (F' := (129, [some (.ref 134), some (.int a1), some (.int ((A 18) (Int32.toNatClampNeg a1)))], [.int v4], Wm pre post I4 A4)) rfl ?_
          refine go_run 0 (F' := (129, [some (.ref 134), some (.int a1), some (.int ((A 18) (Int32.toNatClampNeg a1)))], [.int v4], Wm pre post I4 A4)) rfl ?_
          refine go_step rfl rfl ?_
          by_cases q9 : v4 = 0
          · rw [if_pos q9] at hm ⊢
            refine go_run 0 (F' := (138, [some (.ref 134), some (.int a1), some (.int ((A 18) (Int32.toNatClampNeg a1)))], [], Wm pre post I4 A4)) rfl ?_
            refine go_run 1 (F' := (139, [some (.ref 134), some (.int a1), some (.int ((A 18) (Int32.toNatClampNeg a1)))], [.ref 134], Wm pre post I4 A4)) rfl ?_
            refine go_gf rfl (w_0 hp) rfl ?_
            refine go_run 1 (F' := (143, [some (.ref 134), some (.int a1), some (.int ((A 18) (Int32.toNatClampNeg a1)))], [.int a1, .ref 156], Wm pre post I4 A4)) rfl ?_
            refine go_iald rfl (by decide) (w_22 hp) b1 rfl ?_
            refine go_run 2 (F' := (146, [some (.ref 134), some (.int a1), some (.int ((A 18) (Int32.toNatClampNeg a1)))], [.int (((A4 22) (Int32.toNatClampNeg a1)) + 1)], Wm pre post I4 A4)) rfl ?_
            cases hm
            exact go_end rfl rfl
          · rw [if_neg q9] at hm ⊢
            refine go_run 0 (F' := (132, [some (.ref 134), some (.int a1), some (.int ((A 18) (Int32.toNatClampNeg a1)))], [], Wm pre post I4 A4)) rfl ?_
            refine go_run 4 (F' := (146, [some (.ref 134), some (.int a1), some (.int ((A 18) (Int32.toNatClampNeg a1)))], [.int (a1 + 1)], Wm pre post I4 A4)) rfl ?_
            cases hm
            exact go_end rfl rfl
        · rw [if_neg q8] at hm
          refine go_step rfl (F := (147, [some (.ref 134), some (.int a1), some (.int ((A 18) (Int32.toNatClampNeg a1)))], [], Wm pre post I A)) (sw_218_13 q2 q4 q6 q8) ?_
          refine go_run 0 (F' := (147, [some (.ref 134), some (.int a1), some (.int ((A 18) (Int32.toNatClampNeg a1)))], [], Wm pre post I A)) rfl ?_
          refine go_run 3 (F' := (150, [some (.ref 134), some (.int a1), some (.int ((A 18) (Int32.toNatClampNeg a1)))], [.int (a1 + 1)], Wm pre post I A)) rfl ?_
          cases hm
          exact go_end rfl rfl
def x_whole_70 : Nat → (Nat → Int32) → (Nat → Nat → Int32) → Int32 → Int32 → Int32 → Option xR
  | 0, _, _, _, _, _ => none
  | n + 1, I, A, l1, l2, l3 => (if I 11 ≤ l3 then (some (I, A, l2)) else (if ib l3 200 then (if (A 17) (Int32.toNatClampNeg l3) = 7 then (if ib ((A 24) (Int32.toNatClampNeg l3)) 200 then (if (A 17) (Int32.toNatClampNeg ((A 24) (Int32.toNatClampNeg l3))) = 5 then (x_whole_70 n I A l1 l2 ((A 24) (Int32.toNatClampNeg l3))) else (x_whole_70 n I A l1 l2 (((A 23) (Int32.toNatClampNeg ((A 24) (Int32.toNatClampNeg l3)))) + 1))) else none) else (if (A 17) (Int32.toNatClampNeg l3) = 6 then (x_whole_70 n I A l1 l2 (l3 + 1)) else (if l2 = l1 then (some (I, A, (-1))) else (xb (x_play n I A l3) fun I1 A1 v1 => (x_whole_70 n I1 A1 l1 (l2 + 1) v1))))) else none))
theorem g_whole_70 {X : ie_X} {d : Nat} {pre post : ie_H} (hp : pre.length = 134) : ∀ (n : Nat) {I : Nat → Int32} {A : Nat → Nat → Int32} {l1 l2 l3 : Int32} {u4 : Option Value} {I' : Nat → Int32} {A' : Nat → Nat → Int32} {r : Int32}, x_whole_70 n I A l1 l2 l3 = some (I', A', r) → Go X (d + 4) 217 (70, [some (.ref 134), some (.int l1), some (.int l2), some (.int l3), u4], [], Wm pre post I A) (.inl (some (.int r))) (Wm pre post I' A') := by
  intro n
  induction n with
  | zero => intro I A l1 l2 l3 u4 I' A' r hm; cases hm
  | succ n ih =>
    intro I A l1 l2 l3 u4 I' A' r hm
    unfold x_whole_70 at hm
    refine go_run 0 (F' := (70, [some (.ref 134), some (.int l1), some (.int l2), some (.int l3), u4], [], Wm pre post I A)) rfl ?_
    refine go_run 2 (F' := (72, [some (.ref 134), some (.int l1), some (.int l2), some (.int l3), u4], [.ref 134, .int l3], Wm pre post I A)) rfl ?_
    refine go_gf rfl (w_0 hp) rfl ?_
    refine go_run 0 (F' := (75, [some (.ref 134), some (.int l1), some (.int l2), some (.int l3), u4], [.int (I 11), .int l3], Wm pre post I A)) rfl ?_
    refine go_step rfl rfl ?_
    by_cases q1 : I 11 ≤ l3
    · rw [if_pos q1] at hm ⊢
      refine go_run 0 (F' := (162, [some (.ref 134), some (.int l1), some (.int l2), some (.int l3), u4], [], Wm pre post I A)) rfl ?_
      refine go_run 1 (F' := (163, [some (.ref 134), some (.int l1), some (.int l2), some (.int l3), u4], [.int l2], Wm pre post I A)) rfl ?_
      cases hm
      exact go_end rfl rfl
    · rw [if_neg q1] at hm ⊢
      refine go_run 0 (F' := (78, [some (.ref 134), some (.int l1), some (.int l2), some (.int l3), u4], [], Wm pre post I A)) rfl ?_
      refine go_run 1 (F' := (79, [some (.ref 134), some (.int l1), some (.int l2), some (.int l3), u4], [.ref 134], Wm pre post I A)) rfl ?_
      refine go_gf rfl (w_0 hp) rfl ?_
      refine go_run 1 (F' := (83, [some (.ref 134), some (.int l1), some (.int l2), some (.int l3), u4], [.int l3, .ref 151], Wm pre post I A)) rfl ?_
      obtain ⟨b2, hm⟩ := gd hm
      refine go_iald rfl (by decide) (w_17 hp) b2 rfl ?_
      refine go_run 1 (F' := (86, [some (.ref 134), some (.int l1), some (.int l2), some (.int l3), u4], [.int 7, .int ((A 17) (Int32.toNatClampNeg l3))], Wm pre post I A)) rfl ?_
      refine go_step rfl rfl ?_
      by_cases q3 : (A 17) (Int32.toNatClampNeg l3) = 7
      · rw [if_pos q3] at hm ⊢
        refine go_run 0 (F' := (89, [some (.ref 134), some (.int l1), some (.int l2), some (.int l3), u4], [], Wm pre post I A)) rfl ?_
        refine go_run 1 (F' := (90, [some (.ref 134), some (.int l1), some (.int l2), some (.int l3), u4], [.ref 134], Wm pre post I A)) rfl ?_
        refine go_gf rfl (w_0 hp) rfl ?_
        refine go_run 1 (F' := (94, [some (.ref 134), some (.int l1), some (.int l2), some (.int l3), u4], [.int l3, .ref 158], Wm pre post I A)) rfl ?_
        refine go_iald rfl (by decide) (w_24 hp) b2 rfl ?_
        refine go_run 2 (F' := (98, [some (.ref 134), some (.int l1), some (.int l2), some (.int l3), some (.int ((A 24) (Int32.toNatClampNeg l3)))], [.ref 134], Wm pre post I A)) rfl ?_
        refine go_gf rfl (w_0 hp) rfl ?_
        refine go_run 1 (F' := (103, [some (.ref 134), some (.int l1), some (.int l2), some (.int l3), some (.int ((A 24) (Int32.toNatClampNeg l3)))], [.int ((A 24) (Int32.toNatClampNeg l3)), .ref 151], Wm pre post I A)) rfl ?_
        obtain ⟨b4, hm⟩ := gd hm
        refine go_iald rfl (by decide) (w_17 hp) b4 rfl ?_
        refine go_run 1 (F' := (105, [some (.ref 134), some (.int l1), some (.int l2), some (.int l3), some (.int ((A 24) (Int32.toNatClampNeg l3)))], [.int 5, .int ((A 17) (Int32.toNatClampNeg ((A 24) (Int32.toNatClampNeg l3))))], Wm pre post I A)) rfl ?_
        refine go_step rfl rfl ?_
        by_cases q5 : (A 17) (Int32.toNatClampNeg ((A 24) (Int32.toNatClampNeg l3))) = 5
        · rw [if_pos q5] at hm ⊢
          refine go_run 0 (F' := (108, [some (.ref 134), some (.int l1), some (.int l2), some (.int l3), some (.int ((A 24) (Int32.toNatClampNeg l3)))], [], Wm pre post I A)) rfl ?_
          refine go_run 4 (F' := (70, [some (.ref 134), some (.int l1), some (.int l2), some (.int ((A 24) (Int32.toNatClampNeg l3))), some (.int ((A 24) (Int32.toNatClampNeg l3)))], [], Wm pre post I A)) rfl ?_
          exact ih hm
        · rw [if_neg q5] at hm ⊢
          refine go_run 0 (F' := (113, [some (.ref 134), some (.int l1), some (.int l2), some (.int l3), some (.int ((A 24) (Int32.toNatClampNeg l3)))], [], Wm pre post I A)) rfl ?_
          refine go_run 1 (F' := (114, [some (.ref 134), some (.int l1), some (.int l2), some (.int l3), some (.int ((A 24) (Int32.toNatClampNeg l3)))], [.ref 134], Wm pre post I A)) rfl ?_
          refine go_gf rfl (w_0 hp) rfl ?_
          refine go_run 1 (F' := (119, [some (.ref 134), some (.int l1), some (.int l2), some (.int l3), some (.int ((A 24) (Int32.toNatClampNeg l3)))], [.int ((A 24) (Int32.toNatClampNeg l3)), .ref 157], Wm pre post I A)) rfl ?_
          refine go_iald rfl (by decide) (w_23 hp) b4 rfl ?_
          refine go_run 4 (F' := (70, [some (.ref 134), some (.int l1), some (.int l2), some (.int (((A 23) (Int32.toNatClampNeg ((A 24) (Int32.toNatClampNeg l3)))) + 1)), some (.int ((A 24) (Int32.toNatClampNeg l3)))], [], Wm pre post I A)) rfl ?_
          exact ih hm
      · rw [if_neg q3] at hm ⊢
        refine go_run 0 (F' := (126, [some (.ref 134), some (.int l1), some (.int l2), some (.int l3), u4], [], Wm pre post I A)) rfl ?_
        refine go_run 1 (F' := (127, [some (.ref 134), some (.int l1), some (.int l2), some (.int l3), u4], [.ref 134], Wm pre post I A)) rfl ?_
        refine go_gf rfl (w_0 hp) rfl ?_
        refine go_run 1 (F' := (131, [some (.ref 134), some (.int l1), some (.int l2), some (.int l3), u4], [.int l3, .ref 151], Wm pre post I A)) rfl ?_
        refine go_iald rfl (by decide) (w_17 hp) b2 rfl ?_
        refine go_run 1 (F' := (134, [some (.ref 134), some (.int l1), some (.int l2), some (.int l3), u4], [.int 6, .int ((A 17) (Int32.toNatClampNeg l3))], Wm pre post I A)) rfl ?_
        refine go_step rfl rfl ?_
        by_cases q6 : (A 17) (Int32.toNatClampNeg l3) = 6
        · rw [if_pos q6] at hm ⊢
          refine go_run 0 (F' := (137, [some (.ref 134), some (.int l1), some (.int l2), some (.int l3), u4], [], Wm pre post I A)) rfl ?_
          refine go_run 2 (F' := (70, [some (.ref 134), some (.int l1), some (.int l2), some (.int (l3 + 1)), u4], [], Wm pre post I A)) rfl ?_
          exact ih hm
        · rw [if_neg q6] at hm ⊢
          refine go_run 0 (F' := (143, [some (.ref 134), some (.int l1), some (.int l2), some (.int l3), u4], [], Wm pre post I A)) rfl ?_
          refine go_run 2 (F' := (145, [some (.ref 134), some (.int l1), some (.int l2), some (.int l3), u4], [.int l1, .int l2], Wm pre post I A)) rfl ?_
          refine go_step rfl rfl ?_
          by_cases q7 : l2 = l1
          · rw [if_pos q7] at hm ⊢
            refine go_run 0 (F' := (148, [some (.ref 134), some (.int l1), some (.int l2), some (.int l3), u4], [], Wm pre post I A)) rfl ?_
            refine go_run 1 (F' := (149, [some (.ref 134), some (.int l1), some (.int l2), some (.int l3), u4], [.int (-1)], Wm pre post I A)) rfl ?_
            cases hm
            exact go_end rfl rfl
          · rw [if_neg q7] at hm ⊢
            refine go_run 0 (F' := (150, [some (.ref 134), some (.int l1), some (.int l2), some (.int l3), u4], [], Wm pre post I A)) rfl ?_
            refine go_run 3 (F' := (155, [some (.ref 134), some (.int l1), some (.int (l2 + 1)), some (.int l3), u4], [.int l3, .ref 134], Wm pre post I A)) rfl ?_
            obtain ⟨I1, A1, v1, e1, hm⟩ := xb_inv hm
            refine go_call (m' := 218) (v := some (.int v1)) (h1 := Wm pre post I1 A1) rfl (by simp only [ie_step, ie_iv, List.drop, w_0 hp]; rfl) ⟨rfl, Nat.le_of_ble_eq_true rfl⟩ (g_play (d := d) hp e1) ?_
            refine go_run 0 (F' := (158, [some (.ref 134), some (.int l1), some (.int (l2 + 1)), some (.int l3), u4], [.int v1], Wm pre post I1 A1)) rfl ?_
            refine go_run 2 (F' := (70, [some (.ref 134), some (.int l1), some (.int (l2 + 1)), some (.int v1), u4], [], Wm pre post I1 A1)) rfl ?_
            exact ih hm
def x_whole_42 : Nat → (Nat → Int32) → (Nat → Nat → Int32) → Int32 → Int32 → Option xR
  | 0, _, _, _, _ => none
  | n + 1, I, A, l1, l2 => (if 24 ≤ l2 then (x_whole_70  n I A l1 0 0) else (if ib l2 24 then (x_whole_42 n I (upA A 35 (upd (A 35) (Int32.toNatClampNeg l2) ((A 33) (Int32.toNatClampNeg l2)))) l1 (l2 + 1)) else none))
theorem g_whole_42 {X : ie_X} {d : Nat} {pre post : ie_H} (hp : pre.length = 134) : ∀ (n : Nat) {I : Nat → Int32} {A : Nat → Nat → Int32} {l1 l2 : Int32} {u3 u4 : Option Value} {I' : Nat → Int32} {A' : Nat → Nat → Int32} {r : Int32}, x_whole_42 n I A l1 l2 = some (I', A', r) → Go X (d + 4) 217 (42, [some (.ref 134), some (.int l1), some (.int l2), u3, u4], [], Wm pre post I A) (.inl (some (.int r))) (Wm pre post I' A') := by
  intro n
  induction n with
  | zero => intro I A l1 l2 u3 u4 I' A' r hm; cases hm
  | succ n ih =>
    intro I A l1 l2 u3 u4 I' A' r hm
    unfold x_whole_42 at hm
    refine go_run 0 (F' := (42, [some (.ref 134), some (.int l1), some (.int l2), u3, u4], [], Wm pre post I A)) rfl ?_
    refine go_run 2 (F' := (45, [some (.ref 134), some (.int l1), some (.int l2), u3, u4], [.int 24, .int l2], Wm pre post I A)) rfl ?_
    refine go_step rfl rfl ?_
    by_cases q1 : 24 ≤ l2
    · rw [if_pos q1] at hm ⊢
      refine go_run 0 (F' := (66, [some (.ref 134), some (.int l1), some (.int l2), u3, u4], [], Wm pre post I A)) rfl ?_
      refine go_run 4 (F' := (70, [some (.ref 134), some (.int l1), some (.int 0), some (.int 0), u4], [], Wm pre post I A)) rfl ?_
      exact g_whole_70 hp  n hm
    · rw [if_neg q1] at hm ⊢
      refine go_run 0 (F' := (48, [some (.ref 134), some (.int l1), some (.int l2), u3, u4], [], Wm pre post I A)) rfl ?_
      refine go_run 1 (F' := (49, [some (.ref 134), some (.int l1), some (.int l2), u3, u4], [.ref 134], Wm pre post I A)) rfl ?_
      refine go_gf rfl (w_0 hp) rfl ?_
      refine go_run 2 (F' := (54, [some (.ref 134), some (.int l1), some (.int l2), u3, u4], [.ref 134, .int l2, .ref 169], Wm pre post I A)) rfl ?_
      refine go_gf rfl (w_0 hp) rfl ?_
      refine go_run 1 (F' := (58, [some (.ref 134), some (.int l1), some (.int l2), u3, u4], [.int l2, .ref 167, .int l2, .ref 169], Wm pre post I A)) rfl ?_
      obtain ⟨b2, hm⟩ := gd hm
      refine go_iald rfl (by decide) (w_33 hp) b2 rfl ?_
      refine go_run 0 (F' := (59, [some (.ref 134), some (.int l1), some (.int l2), u3, u4], [.int ((A 33) (Int32.toNatClampNeg l2)), .int l2, .ref 169], Wm pre post I A)) rfl ?_
      refine go_iast rfl (w_35 hp) b2 (ws_35 hp) ?_
      refine go_run 2 (F' := (42, [some (.ref 134), some (.int l1), some (.int (l2 + 1)), u3, u4], [], Wm pre post I (upA A 35 (upd (A 35) (Int32.toNatClampNeg l2) ((A 33) (Int32.toNatClampNeg l2)))))) rfl ?_
      exact ih hm
def x_whole (n : Nat) (I : Nat → Int32) (A : Nat → Nat → Int32) (a1 : Int32) : Option xR := (if a1 < 0 then (some (upd I 0 1, A, 0)) else (if a1 ≤ 2000 then (if I 10 = 0 then (some (upd I 0 2, A, 0)) else (x_whole_42  n (upd I 0 0) A a1 0)) else (some (upd I 0 1, A, 0))))
theorem g_whole {X : ie_X} {d : Nat} {pre post : ie_H} (hp : pre.length = 134) {n : Nat} {I : Nat → Int32} {A : Nat → Nat → Int32} {a1 : Int32} {I' : Nat → Int32} {A' : Nat → Nat → Int32} {r : Int32} (hm : x_whole n I A a1 = some (I', A', r)) : Go X (d + 4) 217 (0, ie_en 217 [.ref 134, .int a1], [], Wm pre post I A) (.inl (some (.int r))) (Wm pre post I' A') := by
  unfold x_whole at hm
  refine go_run 0 (F' := (0, [some (.ref 134), some (.int a1), none, none, none], [], Wm pre post I A)) rfl ?_
  refine go_run 2 (F' := (2, [some (.ref 134), some (.int a1), none, none, none], [.int a1, .ref 134], Wm pre post I A)) rfl ?_
  refine go_step rfl rfl ?_
  by_cases q1 : a1 < 0
  · rw [if_pos q1] at hm ⊢
    refine go_run 0 (F' := (12, [some (.ref 134), some (.int a1), none, none, none], [.ref 134], Wm pre post I A)) rfl ?_
    refine go_run 2 (F' := (28, [some (.ref 134), some (.int a1), none, none, none], [.int 1, .ref 134], Wm pre post I A)) rfl ?_
    refine go_pf rfl (w_0 hp) (Nat.le_of_ble_eq_true rfl) rfl (wo_0 hp) ?_
    refine go_run 1 (F' := (32, [some (.ref 134), some (.int a1), none, none, none], [.ref 134], Wm pre post (upd I 0 1) A)) rfl ?_
    refine go_gf rfl (w_0 hp) rfl ?_
    refine go_run 2 (F' := (39, [some (.ref 134), some (.int a1), none, none, none], [.int 0], Wm pre post (upd I 0 1) A)) rfl ?_
    cases hm
    exact go_end rfl rfl
  · rw [if_neg q1] at hm ⊢
    refine go_run 0 (F' := (5, [some (.ref 134), some (.int a1), none, none, none], [.ref 134], Wm pre post I A)) rfl ?_
    refine go_run 2 (F' := (9, [some (.ref 134), some (.int a1), none, none, none], [.int 2000, .int a1, .ref 134], Wm pre post I A)) rfl ?_
    refine go_step rfl rfl ?_
    by_cases q2 : a1 ≤ 2000
    · rw [if_pos q2] at hm ⊢
      refine go_run 0 (F' := (16, [some (.ref 134), some (.int a1), none, none, none], [.ref 134], Wm pre post I A)) rfl ?_
      refine go_run 1 (F' := (17, [some (.ref 134), some (.int a1), none, none, none], [.ref 134, .ref 134], Wm pre post I A)) rfl ?_
      refine go_gf rfl (w_0 hp) rfl ?_
      refine go_run 0 (F' := (20, [some (.ref 134), some (.int a1), none, none, none], [.int (I 10), .ref 134], Wm pre post I A)) rfl ?_
      refine go_step rfl rfl ?_
      by_cases q3 : I 10 = 0
      · rw [if_pos q3] at hm ⊢
        refine go_run 0 (F' := (23, [some (.ref 134), some (.int a1), none, none, none], [.ref 134], Wm pre post I A)) rfl ?_
        refine go_run 2 (F' := (28, [some (.ref 134), some (.int a1), none, none, none], [.int 2, .ref 134], Wm pre post I A)) rfl ?_
        refine go_pf rfl (w_0 hp) (Nat.le_of_ble_eq_true rfl) rfl (wo_0 hp) ?_
        refine go_run 1 (F' := (32, [some (.ref 134), some (.int a1), none, none, none], [.ref 134], Wm pre post (upd I 0 2) A)) rfl ?_
        refine go_gf rfl (w_0 hp) rfl ?_
        refine go_run 2 (F' := (39, [some (.ref 134), some (.int a1), none, none, none], [.int 0], Wm pre post (upd I 0 2) A)) rfl ?_
        cases hm
        exact go_end rfl rfl
      · rw [if_neg q3] at hm ⊢
        refine go_run 0 (F' := (27, [some (.ref 134), some (.int a1), none, none, none], [.ref 134], Wm pre post I A)) rfl ?_
        refine go_run 1 (F' := (28, [some (.ref 134), some (.int a1), none, none, none], [.int 0, .ref 134], Wm pre post I A)) rfl ?_
        refine go_pf rfl (w_0 hp) (Nat.le_of_ble_eq_true rfl) rfl (wo_0 hp) ?_
        refine go_run 1 (F' := (32, [some (.ref 134), some (.int a1), none, none, none], [.ref 134], Wm pre post (upd I 0 0) A)) rfl ?_
        refine go_gf rfl (w_0 hp) rfl ?_
        refine go_run 3 (F' := (42, [some (.ref 134), some (.int a1), some (.int 0), none, none], [], Wm pre post (upd I 0 0) A)) rfl ?_
        exact g_whole_42 hp  n hm
    · rw [if_neg q2] at hm ⊢
      refine go_run 0 (F' := (12, [some (.ref 134), some (.int a1), none, none, none], [.ref 134], Wm pre post I A)) rfl ?_
      refine go_run 2 (F' := (28, [some (.ref 134), some (.int a1), none, none, none], [.int 1, .ref 134], Wm pre post I A)) rfl ?_
      refine go_pf rfl (w_0 hp) (Nat.le_of_ble_eq_true rfl) rfl (wo_0 hp) ?_
      refine go_run 1 (F' := (32, [some (.ref 134), some (.int a1), none, none, none], [.ref 134], Wm pre post (upd I 0 1) A)) rfl ?_
      refine go_gf rfl (w_0 hp) rfl ?_
      refine go_run 2 (F' := (39, [some (.ref 134), some (.int a1), none, none, none], [.int 0], Wm pre post (upd I 0 1) A)) rfl ?_
      cases hm
      exact go_end rfl rfl
def x_wanted (I : Nat → Int32) (A : Nat → Nat → Int32) (a1 a2 : Int32) : Option xR := (if x_noParty a1 = 0 then (if x_noVariable a2 = 0 then (if ib ((4 * a1) + a2) 24 then (some (upd I 0 0, A, (A 35) (Int32.toNatClampNeg ((4 * a1) + a2)))) else none) else (some (upd I 0 1, A, 0))) else (some (upd I 0 1, A, 0)))
theorem g_wanted {X : ie_X} {d : Nat} {pre post : ie_H} (hp : pre.length = 134) {I : Nat → Int32} {A : Nat → Nat → Int32} {a1 a2 : Int32} {I' : Nat → Int32} {A' : Nat → Nat → Int32} {r : Int32} (hm : x_wanted I A a1 a2 = some (I', A', r)) : Go X (d + 1) 221 (0, ie_en 221 [.ref 134, .int a1, .int a2], [], Wm pre post I A) (.inl (some (.int r))) (Wm pre post I' A') := by
  unfold x_wanted at hm
  refine go_run 0 (F' := (0, [some (.ref 134), some (.int a1), some (.int a2)], [], Wm pre post I A)) rfl ?_
  refine go_run 2 (F' := (2, [some (.ref 134), some (.int a1), some (.int a2)], [.int a1, .ref 134], Wm pre post I A)) rfl ?_
  refine go_call (m' := 183) (v := some (.int (x_noParty a1))) (h1 := Wm pre post I A) rfl rfl ⟨rfl, Nat.le_of_ble_eq_true rfl⟩ (g_noParty _) ?_
  refine go_run 0 (F' := (5, [some (.ref 134), some (.int a1), some (.int a2)], [.int (x_noParty a1), .ref 134], Wm pre post I A)) rfl ?_
  refine go_run 0 (F' := (5, [some (.ref 134), some (.int a1), some (.int a2)], [.int (x_noParty a1), .ref 134], Wm pre post I A)) rfl ?_
  refine go_step rfl rfl ?_
  by_cases q1 : x_noParty a1 = 0
  · rw [if_pos q1] at hm ⊢
    refine go_run 0 (F' := (8, [some (.ref 134), some (.int a1), some (.int a2)], [.ref 134], Wm pre post I A)) rfl ?_
    refine go_run 1 (F' := (9, [some (.ref 134), some (.int a1), some (.int a2)], [.int a2, .ref 134], Wm pre post I A)) rfl ?_
    refine go_call (m' := 186) (v := some (.int (x_noVariable a2))) (h1 := Wm pre post I A) rfl rfl ⟨rfl, Nat.le_of_ble_eq_true rfl⟩ (g_noVariable _) ?_
    refine go_run 0 (F' := (12, [some (.ref 134), some (.int a1), some (.int a2)], [.int (x_noVariable a2), .ref 134], Wm pre post I A)) rfl ?_
    refine go_run 0 (F' := (12, [some (.ref 134), some (.int a1), some (.int a2)], [.int (x_noVariable a2), .ref 134], Wm pre post I A)) rfl ?_
    refine go_step rfl rfl ?_
    by_cases q2 : x_noVariable a2 = 0
    · rw [if_pos q2] at hm ⊢
      refine go_run 0 (F' := (19, [some (.ref 134), some (.int a1), some (.int a2)], [.ref 134], Wm pre post I A)) rfl ?_
      refine go_run 1 (F' := (20, [some (.ref 134), some (.int a1), some (.int a2)], [.int 0, .ref 134], Wm pre post I A)) rfl ?_
      refine go_pf rfl (w_0 hp) (Nat.le_of_ble_eq_true rfl) rfl (wo_0 hp) ?_
      refine go_run 1 (F' := (24, [some (.ref 134), some (.int a1), some (.int a2)], [.ref 134], Wm pre post (upd I 0 0) A)) rfl ?_
      refine go_gf rfl (w_0 hp) rfl ?_
      refine go_run 2 (F' := (31, [some (.ref 134), some (.int a1), some (.int a2)], [.ref 134], Wm pre post (upd I 0 0) A)) rfl ?_
      refine go_gf rfl (w_0 hp) rfl ?_
      refine go_run 5 (F' := (39, [some (.ref 134), some (.int a1), some (.int a2)], [.int ((4 * a1) + a2), .ref 169], Wm pre post (upd I 0 0) A)) rfl ?_
      obtain ⟨b3, hm⟩ := gd hm
      refine go_iald rfl (by decide) (w_35 hp) b3 rfl ?_
      refine go_run 1 (F' := (44, [some (.ref 134), some (.int a1), some (.int a2)], [.int ((A 35) (Int32.toNatClampNeg ((4 * a1) + a2)))], Wm pre post (upd I 0 0) A)) rfl ?_
      cases hm
      exact go_end rfl rfl
    · rw [if_neg q2] at hm ⊢
      refine go_run 0 (F' := (15, [some (.ref 134), some (.int a1), some (.int a2)], [.ref 134], Wm pre post I A)) rfl ?_
      refine go_run 2 (F' := (20, [some (.ref 134), some (.int a1), some (.int a2)], [.int 1, .ref 134], Wm pre post I A)) rfl ?_
      refine go_pf rfl (w_0 hp) (Nat.le_of_ble_eq_true rfl) rfl (wo_0 hp) ?_
      refine go_run 1 (F' := (24, [some (.ref 134), some (.int a1), some (.int a2)], [.ref 134], Wm pre post (upd I 0 1) A)) rfl ?_
      refine go_gf rfl (w_0 hp) rfl ?_
      refine go_run 2 (F' := (44, [some (.ref 134), some (.int a1), some (.int a2)], [.int 0], Wm pre post (upd I 0 1) A)) rfl ?_
      cases hm
      exact go_end rfl rfl
  · rw [if_neg q1] at hm ⊢
    refine go_run 0 (F' := (15, [some (.ref 134), some (.int a1), some (.int a2)], [.ref 134], Wm pre post I A)) rfl ?_
    refine go_run 2 (F' := (20, [some (.ref 134), some (.int a1), some (.int a2)], [.int 1, .ref 134], Wm pre post I A)) rfl ?_
    refine go_pf rfl (w_0 hp) (Nat.le_of_ble_eq_true rfl) rfl (wo_0 hp) ?_
    refine go_run 1 (F' := (24, [some (.ref 134), some (.int a1), some (.int a2)], [.ref 134], Wm pre post (upd I 0 1) A)) rfl ?_
    refine go_gf rfl (w_0 hp) rfl ?_
    refine go_run 2 (F' := (44, [some (.ref 134), some (.int a1), some (.int a2)], [.int 0], Wm pre post (upd I 0 1) A)) rfl ?_
    cases hm
    exact go_end rfl rfl
