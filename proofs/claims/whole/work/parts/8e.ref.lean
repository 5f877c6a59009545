def x_follow_117 (n : Nat) (I : Nat → Int32) (A : Nat → Nat → Int32) (l1 l2 l3 : Int32) : Option xR := (xb (x_charAt I A l1 l3) fun I1 A1 v1 => (if v1 = 64 then (some (I1, A1, l3)) else (xb (x_closing n I1 A1 l1 (l2 + 1)) fun I2 A2 v2 => (some (I2, A2, v2 + 1)))))
theorem g_follow_117 {X : ie_X} {d : Nat} {pre post : ie_H} (hp : pre.length = 134) {n : Nat} {I : Nat → Int32} {A : Nat → Nat → Int32} {l1 l2 l3 : Int32} {u4 u5 : Option Value} {I' : Nat → Int32} {A' : Nat → Nat → Int32} {r : Int32} (hm : x_follow_117 n I A l1 l2 l3 = some (I', A', r)) : Go X (d + 3) 196 (117, [some (.ref 134), some (.int l1), some (.int l2), some (.int l3), u4, u5], [], Wm pre post I A) (.inl (some (.int r))) (Wm pre post I' A') := by
  unfold x_follow_117 at hm
  refine go_run 0 (F' := (117, [some (.ref 134), some (.int l1), some (.int l2), some (.int l3), u4, u5], [], Wm pre post I A)) rfl ?_
  refine go_run 3 (F' := (120, [some (.ref 134), some (.int l1), some (.int l2), some (.int l3), u4, u5], [.int l3, .int l1, .ref 134], Wm pre post I A)) rfl ?_
  obtain ⟨I1, A1, v1, e1, hm⟩ := xb_inv hm
  refine go_call (m' := 191) (v := some (.int v1)) (h1 := Wm pre post I1 A1) rfl (by simp only [ie_step, ie_iv, List.drop, w_0 hp]; rfl) ⟨rfl, Nat.le_of_ble_eq_true rfl⟩ (g_charAt (d := d + 2) hp e1) ?_
  refine go_run 0 (F' := (123, [some (.ref 134), some (.int l1), some (.int l2), some (.int l3), u4, u5], [.int v1], Wm pre post I1 A1)) rfl ?_
  refine go_run 1 (F' := (125, [some (.ref 134), some (.int l1), some (.int l2), some (.int l3), u4, u5], [.int 64, .int v1], Wm pre post I1 A1)) rfl ?_
  refine go_step rfl rfl ?_
  by_cases q1 : v1 = 64
  · rw [if_pos q1] at hm ⊢
    refine go_run 0 (F' := (128, [some (.ref 134), some (.int l1), some (.int l2), some (.int l3), u4, u5], [], Wm pre post I1 A1)) rfl ?_
    refine go_run 2 (F' := (142, [some (.ref 134), some (.int l1), some (.int l2), some (.int l3), u4, u5], [.int l3], Wm pre post I1 A1)) rfl ?_
    cases hm
    exact go_end rfl rfl
  · rw [if_neg q1] at hm ⊢
    refine go_run 0 (F' := (132, [some (.ref 134), some (.int l1), some (.int l2), some (.int l3), u4, u5], [], Wm pre post I1 A1)) rfl ?_
    refine go_run 5 (F' := (137, [some (.ref 134), some (.int l1), some (.int l2), some (.int l3), u4, u5], [.int (l2 + 1), .int l1, .ref 134], Wm pre post I1 A1)) rfl ?_
    obtain ⟨I2, A2, v2, e2, hm⟩ := xb_inv hm
    refine go_call (m' := 200) (v := some (.int v2)) (h1 := Wm pre post I2 A2) rfl (by simp only [ie_step, ie_iv, List.drop, w_0 hp]; rfl) ⟨rfl, Nat.le_of_ble_eq_true rfl⟩ (g_closing (d := d + 1) hp e2) ?_
    refine go_run 0 (F' := (140, [some (.ref 134), some (.int l1), some (.int l2), some (.int l3), u4, u5], [.int v2], Wm pre post I2 A2)) rfl ?_
    refine go_run 2 (F' := (142, [some (.ref 134), some (.int l1), some (.int l2), some (.int l3), u4, u5], [.int (v2 + 1)], Wm pre post I2 A2)) rfl ?_
    cases hm
    exact go_end rfl rfl
def x_follow_89 : Nat → (Nat → Int32) → (Nat → Nat → Int32) → Int32 → Int32 → Int32 → Option xR
  | 0, _, _, _, _, _ => none
  | n + 1, I, A, l1, l2, l3 => (xb (x_charAt I A l1 l3) fun I1 A1 v1 => (if v1 = 63 then (x_follow_117  n I1 A1 l1 l2 l3) else (xb (x_charAt I1 A1 l1 l3) fun I2 A2 v2 => (if v2 = 64 then (x_follow_117  n I2 A2 l1 l2 l3) else (x_follow_89 n I2 A2 l1 l2 (l3 + (-1)))))))
theorem g_follow_89 {X : ie_X} {d : Nat} {pre post : ie_H} (hp : pre.length = 134) : ∀ (n : Nat) {I : Nat → Int32} {A : Nat → Nat → Int32} {l1 l2 l3 : Int32} {u4 u5 : Option Value} {I' : Nat → Int32} {A' : Nat → Nat → Int32} {r : Int32}, x_follow_89 n I A l1 l2 l3 = some (I', A', r) → Go X (d + 3) 196 (89, [some (.ref 134), some (.int l1), some (.int l2), some (.int l3), u4, u5], [], Wm pre post I A) (.inl (some (.int r))) (Wm pre post I' A') := by
  intro n
  induction n with
  | zero => intro I A l1 l2 l3 u4 u5 I' A' r hm; cases hm
  | succ n ih =>
    intro I A l1 l2 l3 u4 u5 I' A' r hm
    unfold x_follow_89 at hm
    refine go_run 0 (F' := (89, [some (.ref 134), some (.int l1), some (.int l2), some (.int l3), u4, u5], [], Wm pre post I A)) rfl ?_
    refine go_run 3 (F' := (92, [some (.ref 134), some (.int l1), some (.int l2), some (.int l3), u4, u5], [.int l3, .int l1, .ref 134], Wm pre post I A)) rfl ?_
    obtain ⟨I1, A1, v1, e1, hm⟩ := xb_inv hm
    refine go_call (m' := 191) (v := some (.int v1)) (h1 := Wm pre post I1 A1) rfl (by simp only [ie_step, ie_iv, List.drop, w_0 hp]; rfl) ⟨rfl, Nat.le_of_ble_eq_true rfl⟩ (g_charAt (d := d + 2) hp e1) ?_
    refine go_run 0 (F' := (95, [some (.ref 134), some (.int l1), some (.int l2), some (.int l3), u4, u5], [.int v1], Wm pre post I1 A1)) rfl ?_
    refine go_run 1 (F' := (97, [some (.ref 134), some (.int l1), some (.int l2), some (.int l3), u4, u5], [.int 63, .int v1], Wm pre post I1 A1)) rfl ?_
    refine go_step rfl rfl ?_
    by_cases q1 : v1 = 63
    · rw [if_pos q1] at hm ⊢
      refine go_run 0 (F' := (117, [some (.ref 134), some (.int l1), some (.int l2), some (.int l3), u4, u5], [], Wm pre post I1 A1)) rfl ?_
      refine go_run 0 (F' := (117, [some (.ref 134), some (.int l1), some (.int l2), some (.int l3), u4, u5], [], Wm pre post I1 A1)) rfl ?_
      exact g_follow_117 hp  hm
    · rw [if_neg q1] at hm ⊢
      refine go_run 0 (F' := (100, [some (.ref 134), some (.int l1), some (.int l2), some (.int l3), u4, u5], [], Wm pre post I1 A1)) rfl ?_
      refine go_run 3 (F' := (103, [some (.ref 134), some (.int l1), some (.int l2), some (.int l3), u4, u5], [.int l3, .int l1, .ref 134], Wm pre post I1 A1)) rfl ?_
      obtain ⟨I2, A2, v2, e2, hm⟩ := xb_inv hm
      refine go_call (m' := 191) (v := some (.int v2)) (h1 := Wm pre post I2 A2) rfl (by simp only [ie_step, ie_iv, List.drop, w_0 hp]; rfl) ⟨rfl, Nat.le_of_ble_eq_true rfl⟩ (g_charAt (d := d + 2) hp e2) ?_
      refine go_run 0 (F' := (106, [some (.ref 134), some (.int l1), some (.int l2), some (.int l3), u4, u5], [.int v2], Wm pre post I2 A2)) rfl ?_
      refine go_run 1 (F' := (108, [some (.ref 134), some (.int l1), some (.int l2), some (.int l3), u4, u5], [.int 64, .int v2], Wm pre post I2 A2)) rfl ?_
      refine go_step rfl rfl ?_
      by_cases q2 : v2 = 64
      · rw [if_pos q2] at hm ⊢
        refine go_run 0 (F' := (117, [some (.ref 134), some (.int l1), some (.int l2), some (.int l3), u4, u5], [], Wm pre post I2 A2)) rfl ?_
        refine go_run 0 (F' := (117, [some (.ref 134), some (.int l1), some (.int l2), some (.int l3), u4, u5], [], Wm pre post I2 A2)) rfl ?_
        exact g_follow_117 hp  hm
      · rw [if_neg q2] at hm ⊢
        refine go_run 0 (F' := (111, [some (.ref 134), some (.int l1), some (.int l2), some (.int l3), u4, u5], [], Wm pre post I2 A2)) rfl ?_
        refine go_run 2 (F' := (89, [some (.ref 134), some (.int l1), some (.int l2), some (.int (l3 + (-1))), u4, u5], [], Wm pre post I2 A2)) rfl ?_
        exact ih hm
def x_follow (n : Nat) (I : Nat → Int32) (A : Nat → Nat → Int32) (a1 a2 : Int32) : Option xR := (xb (x_opening n I A a1 a2) fun I1 A1 v1 => (xb (x_charAt I1 A1 a1 (v1 - 1)) fun I2 A2 v2 => (if v2 = 125 then (some (I2, A2, a2 + 1)) else (if v2 = 64 then (some (I2, A2, (v1 - 1) - 1)) else (if v1 - 1 ≤ 0 then (if ty_b (rd_fig v2) = 0 then (x_follow_89  n I2 A2 a1 a2 (v1 - 1)) else (if ty_b (rd_pty 0) = 0 then (x_follow_89  n I2 A2 a1 a2 (v1 - 1)) else (xb (x_behindCases n I2 A2 a1 (a2 + 1)) fun I3 A3 v3 => (some (I3, A3, v3))))) else (xb (x_charAt I2 A2 a1 ((v1 - 1) - 1)) fun I4 A4 v4 => (if ty_b (rd_fig v2) = 0 then (x_follow_89  n I4 A4 a1 a2 (v1 - 1)) else (if ty_b (rd_pty v4) = 0 then (if v4 = 125 then (xb (x_behindCases n I4 A4 a1 (a2 + 1)) fun I5 A5 v5 => (some (I5, A5, v5))) else (x_follow_89  n I4 A4 a1 a2 (v1 - 1))) else (xb (x_behindCases n I4 A4 a1 (a2 + 1)) fun I6 A6 v6 => (some (I6, A6, v6)))))))))))
theorem g_follow {X : ie_X} {d : Nat} {pre post : ie_H} (hp : pre.length = 134) {n : Nat} {I : Nat → Int32} {A : Nat → Nat → Int32} {a1 a2 : Int32} {I' : Nat → Int32} {A' : Nat → Nat → Int32} {r : Int32} (hm : x_follow n I A a1 a2 = some (I', A', r)) : Go X (d + 3) 196 (0, ie_en 196 [.ref 134, .int a1, .int a2], [], Wm pre post I A) (.inl (some (.int r))) (Wm pre post I' A') := by
  unfold x_follow at hm
  refine go_run 0 (F' := (0, [some (.ref 134), some (.int a1), some (.int a2), none, none, none], [], Wm pre post I A)) rfl ?_
  refine go_run 3 (F' := (3, [some (.ref 134), some (.int a1), some (.int a2), none, none, none], [.int a2, .int a1, .ref 134], Wm pre post I A)) rfl ?_
  obtain ⟨I1, A1, v1, e1, hm⟩ := xb_inv hm
  refine go_call (m' := 197) (v := some (.int v1)) (h1 := Wm pre post I1 A1) rfl (by simp only [ie_step, ie_iv, List.drop, w_0 hp]; rfl) ⟨rfl, Nat.le_of_ble_eq_true rfl⟩ (g_opening (d := d + 1) hp e1) ?_
  refine go_run 0 (F' := (6, [some (.ref 134), some (.int a1), some (.int a2), none, none, none], [.int v1], Wm pre post I1 A1)) rfl ?_
  refine go_run 6 (F' := (12, [some (.ref 134), some (.int a1), some (.int a2), some (.int (v1 - 1)), none, none], [.int (v1 - 1), .int a1, .ref 134], Wm pre post I1 A1)) rfl ?_
  obtain ⟨I2, A2, v2, e2, hm⟩ := xb_inv hm
  refine go_call (m' := 191) (v := some (.int v2)) (h1 := Wm pre post I2 A2) rfl (by simp only [ie_step, ie_iv, List.drop, w_0 hp]; rfl) ⟨rfl, Nat.le_of_ble_eq_true rfl⟩ (g_charAt (d := d + 2) hp e2) ?_
  refine go_run 0 (F' := (15, [some (.ref 134), some (.int a1), some (.int a2), some (.int (v1 - 1)), none, none], [.int v2], Wm pre post I2 A2)) rfl ?_
  refine go_run 3 (F' := (21, [some (.ref 134), some (.int a1), some (.int a2), some (.int (v1 - 1)), some (.int v2), none], [.int 125, .int v2], Wm pre post I2 A2)) rfl ?_
  refine go_step rfl rfl ?_
  by_cases q1 : v2 = 125
  · rw [if_pos q1] at hm ⊢
    refine go_run 0 (F' := (24, [some (.ref 134), some (.int a1), some (.int a2), some (.int (v1 - 1)), some (.int v2), none], [], Wm pre post I2 A2)) rfl ?_
    refine go_run 3 (F' := (27, [some (.ref 134), some (.int a1), some (.int a2), some (.int (v1 - 1)), some (.int v2), none], [.int (a2 + 1)], Wm pre post I2 A2)) rfl ?_
    cases hm
    exact go_end rfl rfl
  · rw [if_neg q1] at hm ⊢
    refine go_run 0 (F' := (28, [some (.ref 134), some (.int a1), some (.int a2), some (.int (v1 - 1)), some (.int v2), none], [], Wm pre post I2 A2)) rfl ?_
    refine go_run 2 (F' := (32, [some (.ref 134), some (.int a1), some (.int a2), some (.int (v1 - 1)), some (.int v2), none], [.int 64, .int v2], Wm pre post I2 A2)) rfl ?_
    refine go_step rfl rfl ?_
    by_cases q2 : v2 = 64
    · rw [if_pos q2] at hm ⊢
      refine go_run 0 (F' := (35, [some (.ref 134), some (.int a1), some (.int a2), some (.int (v1 - 1)), some (.int v2), none], [], Wm pre post I2 A2)) rfl ?_
      refine go_run 3 (F' := (38, [some (.ref 134), some (.int a1), some (.int a2), some (.int (v1 - 1)), some (.int v2), none], [.int ((v1 - 1) - 1)], Wm pre post I2 A2)) rfl ?_
      cases hm
      exact go_end rfl rfl
    · rw [if_neg q2] at hm ⊢
      refine go_run 0 (F' := (39, [some (.ref 134), some (.int a1), some (.int a2), some (.int (v1 - 1)), some (.int v2), none], [], Wm pre post I2 A2)) rfl ?_
      refine go_run 1 (F' := (40, [some (.ref 134), some (.int a1), some (.int a2), some (.int (v1 - 1)), some (.int v2), none], [.int (v1 - 1)], Wm pre post I2 A2)) rfl ?_
      refine go_step rfl rfl ?_
      by_cases q3 : v1 - 1 ≤ 0
      · rw [if_pos q3] at hm ⊢
        refine go_run 0 (F' := (54, [some (.ref 134), some (.int a1), some (.int a2), some (.int (v1 - 1)), some (.int v2), none], [], Wm pre post I2 A2)) rfl ?_
        refine go_run 3 (F' := (59, [some (.ref 134), some (.int a1), some (.int a2), some (.int (v1 - 1)), some (.int v2), some (.int 0)], [.int v2], Wm pre post I2 A2)) rfl ?_
        refine go_call (m' := 146) (v := some (.int (ty_b (rd_fig v2)))) (h1 := Wm pre post I2 A2) rfl rfl ⟨rfl, Nat.le_of_ble_eq_true rfl⟩ (rm_isFig _) ?_
        refine go_run 0 (F' := (62, [some (.ref 134), some (.int a1), some (.int a2), some (.int (v1 - 1)), some (.int v2), some (.int 0)], [.int (ty_b (rd_fig v2))], Wm pre post I2 A2)) rfl ?_
        refine go_run 0 (F' := (62, [some (.ref 134), some (.int a1), some (.int a2), some (.int (v1 - 1)), some (.int v2), some (.int 0)], [.int (ty_b (rd_fig v2))], Wm pre post I2 A2)) rfl ?_
        refine go_step rfl rfl ?_
        by_cases q4 : ty_b (rd_fig v2) = 0
        · rw [if_pos q4] at hm ⊢
          refine go_run 0 (F' := (89, [some (.ref 134), some (.int a1), some (.int a2), some (.int (v1 - 1)), some (.int v2), some (.int 0)], [], Wm pre post I2 A2)) rfl ?_
          refine go_run 0 (F' := (89, [some (.ref 134), some (.int a1), some (.int a2), some (.int (v1 - 1)), some (.int v2), some (.int 0)], [], Wm pre post I2 A2)) rfl ?_
          exact g_follow_89 hp  n hm
        · rw [if_neg q4] at hm ⊢
          refine go_run 0 (F' := (65, [some (.ref 134), some (.int a1), some (.int a2), some (.int (v1 - 1)), some (.int v2), some (.int 0)], [], Wm pre post I2 A2)) rfl ?_
          refine go_run 1 (F' := (67, [some (.ref 134), some (.int a1), some (.int a2), some (.int (v1 - 1)), some (.int v2), some (.int 0)], [.int 0], Wm pre post I2 A2)) rfl ?_
          refine go_call (m' := 144) (v := some (.int (ty_b (rd_pty 0)))) (h1 := Wm pre post I2 A2) rfl rfl ⟨rfl, Nat.le_of_ble_eq_true rfl⟩ (rm_isPty _) ?_
          refine go_run 0 (F' := (70, [some (.ref 134), some (.int a1), some (.int a2), some (.int (v1 - 1)), some (.int v2), some (.int 0)], [.int (ty_b (rd_pty 0))], Wm pre post I2 A2)) rfl ?_
          refine go_run 0 (F' := (70, [some (.ref 134), some (.int a1), some (.int a2), some (.int (v1 - 1)), some (.int v2), some (.int 0)], [.int (ty_b (rd_pty 0))], Wm pre post I2 A2)) rfl ?_
          refine go_step rfl rfl ?_
          by_cases q5 : ty_b (rd_pty 0) = 0
          · rw [if_pos q5] at hm ⊢
            refine go_run 0 (F' := (73, [some (.ref 134), some (.int a1), some (.int a2), some (.int (v1 - 1)), some (.int v2), some (.int 0)], [], Wm pre post I2 A2)) rfl ?_
            refine go_run 3 (F' := (89, [some (.ref 134), some (.int a1), some (.int a2), some (.int (v1 - 1)), some (.int v2), some (.int 0)], [], Wm pre post I2 A2)) rfl ?_
            exact g_follow_89 hp  n hm
          · rw [if_neg q5] at hm ⊢
            refine go_run 0 (F' := (80, [some (.ref 134), some (.int a1), some (.int a2), some (.int (v1 - 1)), some (.int v2), some (.int 0)], [], Wm pre post I2 A2)) rfl ?_
            refine go_run 5 (F' := (85, [some (.ref 134), some (.int a1), some (.int a2), some (.int (v1 - 1)), some (.int v2), some (.int 0)], [.int (a2 + 1), .int a1, .ref 134], Wm pre post I2 A2)) rfl ?_
            obtain ⟨I3, A3, v3, e3, hm⟩ := xb_inv hm
            refine go_call (m' := 198) (v := some (.int v3)) (h1 := Wm pre post I3 A3) rfl (by simp only [ie_step, ie_iv, List.drop, w_0 hp]; rfl) ⟨rfl, Nat.le_of_ble_eq_true rfl⟩ (g_behindCases (d := d) hp e3) ?_
            refine go_run 0 (F' := (88, [some (.ref 134), some (.int a1), some (.int a2), some (.int (v1 - 1)), some (.int v2), some (.int 0)], [.int v3], Wm pre post I3 A3)) rfl ?_
            refine go_run 0 (F' := (88, [some (.ref 134), some (.int a1), some (.int a2), some (.int (v1 - 1)), some (.int v2), some (.int 0)], [.int v3], Wm pre post I3 A3)) rfl ?_
            cases hm
            exact go_end rfl rfl
      · rw [if_neg q3] at hm ⊢
        refine go_run 0 (F' := (43, [some (.ref 134), some (.int a1), some (.int a2), some (.int (v1 - 1)), some (.int v2), none], [], Wm pre post I2 A2)) rfl ?_
        refine go_run 5 (F' := (48, [some (.ref 134), some (.int a1), some (.int a2), some (.int (v1 - 1)), some (.int v2), none], [.int ((v1 - 1) - 1), .int a1, .ref 134], Wm pre post I2 A2)) rfl ?_
        obtain ⟨I4, A4, v4, e4, hm⟩ := xb_inv hm
        refine go_call (m' := 191) (v := some (.int v4)) (h1 := Wm pre post I4 A4) rfl (by simp only [ie_step, ie_iv, List.drop, w_0 hp]; rfl) ⟨rfl, Nat.le_of_ble_eq_true rfl⟩ (g_charAt (d := d + 2) hp e4) ?_
        refine go_run 0 (F' := (51, [some (.ref 134), some (.int a1), some (.int a2), some (.int (v1 - 1)), some (.int v2), none], [.int v4], Wm pre post I4 A4)) rfl ?_
        refine go_run 3 (F' := (59, [some (.ref 134), some (.int a1), some (.int a2), some (.int (v1 - 1)), some (.int v2), some (.int v4)], [.int v2], Wm pre post I4 A4)) rfl ?_
        refine go_call (m' := 146) (v := some (.int (ty_b (rd_fig v2)))) (h1 := Wm pre post I4 A4) rfl rfl ⟨rfl, Nat.le_of_ble_eq_true rfl⟩ (rm_isFig _) ?_
        refine go_run 0 (F' := (62, [some (.ref 134), some (.int a1), some (.int a2), some (.int (v1 - 1)), some (.int v2), some (.int v4)], [.int (ty_b (rd_fig v2))], Wm pre post I4 A4)) rfl ?_
        refine go_run 0 (F' := (62, [some (.ref 134), some (.int a1), some (.int a2), some (.int (v1 - 1)), some (.int v2), some (.int v4)], [.int (ty_b (rd_fig v2))], Wm pre post I4 A4)) rfl ?_
        refine go_step rfl rfl ?_
        by_cases q6 : ty_b (rd_fig v2) = 0
        · rw [if_pos q6] at hm ⊢
          refine go_run 0 (F' := (89, [some (.ref 134), some (.int a1), some (.int a2), some (.int (v1 - 1)), some (.int v2), some (.int v4)], [], Wm pre post I4 A4)) rfl ?_
          refine go_run 0 (F' := (89, [some (.ref 134), some (.int a1), some (.int a2), some (.int (v1 - 1)), some (.int v2), some (.int v4)], [], Wm pre post I4 A4)) rfl ?_
          exact g_follow_89 hp  n hm
        · rw [if_neg q6] at hm ⊢
          refine go_run 0 (F' := (65, [some (.ref 134), some (.int a1), some (.int a2), some (.int (v1 - 1)), some (.int v2), some (.int v4)], [], Wm pre post I4 A4)) rfl ?_
          refine go_run 1 (F' := (67, [some (.ref 134), some (.int a1), some (.int a2), some (.int (v1 - 1)), some (.int v2), some (.int v4)], [.int v4], Wm pre post I4 A4)) rfl ?_
          refine go_call (m' := 144) (v := some (.int (ty_b (rd_pty v4)))) (h1 := Wm pre post I4 A4) rfl rfl ⟨rfl, Nat.le_of_ble_eq_true rfl⟩ (rm_isPty _) ?_
          refine go_run 0 (F' := (70, [some (.ref 134), some (.int a1), some (.int a2), some (.int (v1 - 1)), some (.int v2), some (.int v4)], [.int (ty_b (rd_pty v4))], Wm pre post I4 A4)) rfl ?_
          refine go_run 0 (F' := (70, [some (.ref 134), some (.int a1), some (.int a2), some (.int (v1 - 1)), some (.int v2), some (.int v4)], [.int (ty_b (rd_pty v4))], Wm pre post I4 A4)) rfl ?_
          refine go_step rfl rfl ?_
          by_cases q7 : ty_b (rd_pty v4) = 0
          · rw [if_pos q7] at hm ⊢
            refine go_run 0 (F' := (73, [some (.ref 134), some (.int a1), some (.int a2), some (.int (v1 - 1)), some (.int v2), some (.int v4)], [], Wm pre post I4 A4)) rfl ?_
            refine go_run 2 (F' := (77, [some (.ref 134), some (.int a1), some (.int a2), some (.int (v1 - 1)), some (.int v2), some (.int v4)], [.int 125, .int v4], Wm pre post I4 A4)) rfl ?_
            refine go_step rfl rfl ?_
            by_cases q8 : v4 = 125
            · rw [if_pos q8] at hm ⊢
              refine go_run 0 (F' := (80, [some (.ref 134), some (.int a1), some (.int a2), some (.int (v1 - 1)), some (.int v2), some (.int v4)], [], Wm pre post I4 A4)) rfl ?_
              refine go_run 5 (F' := (85, [some (.ref 134), some (.int a1), some (.int a2), some (.int (v1 - 1)), some (.int v2), some (.int v4)], [.int (a2 + 1), .int a1, .ref 134], Wm pre post I4 A4)) rfl ?_
              obtain ⟨I5, A5, v5, e5, hm⟩ := xb_inv hm
              refine go_call (m' := 198) (v := some (.int v5)) (h1 := Wm pre post I5 A5) rfl (by simp only [ie_step, ie_iv, List.drop, w_0 hp]; rfl) ⟨rfl, Nat.le_of_ble_eq_true rfl⟩ (g_behindCases (d := d) hp e5) ?_
              refine go_run 0 (F' := (88, [some (.ref 134), some (.int a1), some (.int a2), some (.int (v1 - 1)), some (.int v2), some (.int v4)], [.int v5], Wm pre post I5 A5)) rfl ?_
              refine go_run 0 (F' := (88, [some (.ref 134), some (.int a1), some (.int a2), some (.int (v1 - 1)), some (.int v2), some (.int v4)], [.int v5], Wm pre post I5 A5)) rfl ?_
              cases hm
              exact go_end rfl rfl
            · rw [if_neg q8] at hm ⊢
              refine go_run 0 (F' := (89, [some (.ref 134), some (.int a1), some (.int a2), some (.int (v1 - 1)), some (.int v2), some (.int v4)], [], Wm pre post I4 A4)) rfl ?_
              refine go_run 0 (F' := (89, [some (.ref 134), some (.int a1), some (.int a2), some (.int (v1 - 1)), some (.int v2), some (.int v4)], [], Wm pre post I4 A4)) rfl ?_
              exact g_follow_89 hp  n hm
          · rw [if_neg q7] at hm ⊢
            refine go_run 0 (F' := (80, [some (.ref 134), some (.int a1), some (.int a2), some (.int (v1 - 1)), some (.int v2), some (.int v4)], [], Wm pre post I4 A4)) rfl ?_
            refine go_run 5 (F' := (85, [some (.ref 134), some (.int a1), some (.int a2), some (.int (v1 - 1)), some (.int v2), some (.int v4)], [.int (a2 + 1), .int a1, .ref 134], Wm pre post I4 A4)) rfl ?_
            obtain ⟨I6, A6, v6, e6, hm⟩ := xb_inv hm
            refine go_call (m' := 198) (v := some (.int v6)) (h1 := Wm pre post I6 A6) rfl (by simp only [ie_step, ie_iv, List.drop, w_0 hp]; rfl) ⟨rfl, Nat.le_of_ble_eq_true rfl⟩ (g_behindCases (d := d) hp e6) ?_
            refine go_run 0 (F' := (88, [some (.ref 134), some (.int a1), some (.int a2), some (.int (v1 - 1)), some (.int v2), some (.int v4)], [.int v6], Wm pre post I6 A6)) rfl ?_
            refine go_run 0 (F' := (88, [some (.ref 134), some (.int a1), some (.int a2), some (.int (v1 - 1)), some (.int v2), some (.int v4)], [.int v6], Wm pre post I6 A6)) rfl ?_
            cases hm
            exact go_end rfl rfl
def x_stand_2 : Nat → (Nat → Int32) → (Nat → Nat → Int32) → Int32 → Int32 → Option xR
  | 0, _, _, _, _ => none
  | n + 1, I, A, l1, l3 => (if ib l1 6 then (if (A 27) (Int32.toNatClampNeg l1) ≤ l3 then (some (I, upA (upA A 36 (upd (A 36) (Int32.toNatClampNeg l1) l3)) 37 (upd (A 37) (Int32.toNatClampNeg l1) (-1)), 0)) else (xb (x_charAt I A l1 l3) fun I1 A1 v1 => (if v1 = 125 then (xb (x_follow n I1 A1 l1 l3) fun I2 A2 v2 => (x_stand_2 n I2 A2 l1 v2)) else (some (I1, upA (upA A1 36 (upd (A1 36) (Int32.toNatClampNeg l1) l3)) 37 (upd (A1 37) (Int32.toNatClampNeg l1) (-1)), 0))))) else none)
theorem g_stand_2 {X : ie_X} {d : Nat} {pre post : ie_H} (hp : pre.length = 134) : ∀ (n : Nat) {I : Nat → Int32} {A : Nat → Nat → Int32} {l1 l3 : Int32} {u2 : Option Value} {I' : Nat → Int32} {A' : Nat → Nat → Int32} {r : Int32}, x_stand_2 n I A l1 l3 = some (I', A', r) → Go X (d + 4) 195 (2, [some (.ref 134), some (.int l1), u2, some (.int l3)], [], Wm pre post I A) (.inl none) (Wm pre post I' A') := by
  intro n
  induction n with
  | zero => intro I A l1 l3 u2 I' A' r hm; cases hm
  | succ n ih =>
    intro I A l1 l3 u2 I' A' r hm
    unfold x_stand_2 at hm
    refine go_run 0 (F' := (2, [some (.ref 134), some (.int l1), u2, some (.int l3)], [], Wm pre post I A)) rfl ?_
    refine go_run 2 (F' := (4, [some (.ref 134), some (.int l1), u2, some (.int l3)], [.ref 134, .int l3], Wm pre post I A)) rfl ?_
    refine go_gf rfl (w_0 hp) rfl ?_
    refine go_run 1 (F' := (8, [some (.ref 134), some (.int l1), u2, some (.int l3)], [.int l1, .ref 161, .int l3], Wm pre post I A)) rfl ?_
    obtain ⟨b1, hm⟩ := gd hm
    refine go_iald rfl (by decide) (w_27 hp) b1 rfl ?_
    refine go_run 0 (F' := (9, [some (.ref 134), some (.int l1), u2, some (.int l3)], [.int ((A 27) (Int32.toNatClampNeg l1)), .int l3], Wm pre post I A)) rfl ?_
    refine go_step rfl rfl ?_
    by_cases q2 : (A 27) (Int32.toNatClampNeg l1) ≤ l3
    · rw [if_pos q2] at hm ⊢
      refine go_run 0 (F' := (33, [some (.ref 134), some (.int l1), u2, some (.int l3)], [], Wm pre post I A)) rfl ?_
      refine go_run 1 (F' := (34, [some (.ref 134), some (.int l1), u2, some (.int l3)], [.ref 134], Wm pre post I A)) rfl ?_
      refine go_gf rfl (w_0 hp) rfl ?_
      refine go_run 2 (F' := (39, [some (.ref 134), some (.int l1), u2, some (.int l3)], [.int l3, .int l1, .ref 170], Wm pre post I A)) rfl ?_
      refine go_iast rfl (w_36 hp) b1 (ws_36 hp) ?_
      refine go_run 1 (F' := (41, [some (.ref 134), some (.int l1), u2, some (.int l3)], [.ref 134], Wm pre post I (upA A 36 (upd (A 36) (Int32.toNatClampNeg l1) l3)))) rfl ?_
      refine go_gf rfl (w_0 hp) rfl ?_
      refine go_run 2 (F' := (46, [some (.ref 134), some (.int l1), u2, some (.int l3)], [.int (-1), .int l1, .ref 171], Wm pre post I (upA A 36 (upd (A 36) (Int32.toNatClampNeg l1) l3)))) rfl ?_
      refine go_iast rfl (w_37 hp) b1 (ws_37 hp) ?_
      refine go_run 0 (F' := (47, [some (.ref 134), some (.int l1), u2, some (.int l3)], [], Wm pre post I (upA (upA A 36 (upd (A 36) (Int32.toNatClampNeg l1) l3)) 37 (upd (A 37) (Int32.toNatClampNeg l1) (-1))))) rfl ?_
      cases hm
      exact go_end rfl rfl
    · rw [if_neg q2] at hm ⊢
      refine go_run 0 (F' := (12, [some (.ref 134), some (.int l1), u2, some (.int l3)], [], Wm pre post I A)) rfl ?_
      refine go_run 3 (F' := (15, [some (.ref 134), some (.int l1), u2, some (.int l3)], [.int l3, .int l1, .ref 134], Wm pre post I A)) rfl ?_
      obtain ⟨I1, A1, v1, e1, hm⟩ := xb_inv hm
      refine go_call (m' := 191) (v := some (.int v1)) (h1 := Wm pre post I1 A1) rfl (by simp only [ie_step, ie_iv, List.drop, w_0 hp]; rfl) ⟨rfl, Nat.le_of_ble_eq_true rfl⟩ (g_charAt (d := d + 3) hp e1) ?_
      refine go_run 0 (F' := (18, [some (.ref 134), some (.int l1), u2, some (.int l3)], [.int v1], Wm pre post I1 A1)) rfl ?_
      refine go_run 1 (F' := (20, [some (.ref 134), some (.int l1), u2, some (.int l3)], [.int 125, .int v1], Wm pre post I1 A1)) rfl ?_
      refine go_step rfl rfl ?_
      by_cases q3 : v1 = 125
      · rw [if_pos q3] at hm ⊢
        refine go_run 0 (F' := (23, [some (.ref 134), some (.int l1), u2, some (.int l3)], [], Wm pre post I1 A1)) rfl ?_
        refine go_run 3 (F' := (26, [some (.ref 134), some (.int l1), u2, some (.int l3)], [.int l3, .int l1, .ref 134], Wm pre post I1 A1)) rfl ?_
        obtain ⟨I2, A2, v2, e2, hm⟩ := xb_inv hm
        refine go_call (m' := 196) (v := some (.int v2)) (h1 := Wm pre post I2 A2) rfl (by simp only [ie_step, ie_iv, List.drop, w_0 hp]; rfl) ⟨rfl, Nat.le_of_ble_eq_true rfl⟩ (g_follow (d := d) hp e2) ?_
        refine go_run 0 (F' := (29, [some (.ref 134), some (.int l1), u2, some (.int l3)], [.int v2], Wm pre post I2 A2)) rfl ?_
        refine go_run 2 (F' := (2, [some (.ref 134), some (.int l1), u2, some (.int v2)], [], Wm pre post I2 A2)) rfl ?_
        exact ih hm
      · rw [if_neg q3] at hm ⊢
        refine go_run 0 (F' := (33, [some (.ref 134), some (.int l1), u2, some (.int l3)], [], Wm pre post I1 A1)) rfl ?_
        refine go_run 1 (F' := (34, [some (.ref 134), some (.int l1), u2, some (.int l3)], [.ref 134], Wm pre post I1 A1)) rfl ?_
        refine go_gf rfl (w_0 hp) rfl ?_
        refine go_run 2 (F' := (39, [some (.ref 134), some (.int l1), u2, some (.int l3)], [.int l3, .int l1, .ref 170], Wm pre post I1 A1)) rfl ?_
        refine go_iast rfl (w_36 hp) b1 (ws_36 hp) ?_
        refine go_run 1 (F' := (41, [some (.ref 134), some (.int l1), u2, some (.int l3)], [.ref 134], Wm pre post I1 (upA A1 36 (upd (A1 36) (Int32.toNatClampNeg l1) l3)))) rfl ?_
        refine go_gf rfl (w_0 hp) rfl ?_
        refine go_run 2 (F' := (46, [some (.ref 134), some (.int l1), u2, some (.int l3)], [.int (-1), .int l1, .ref 171], Wm pre post I1 (upA A1 36 (upd (A1 36) (Int32.toNatClampNeg l1) l3)))) rfl ?_
        refine go_iast rfl (w_37 hp) b1 (ws_37 hp) ?_
        refine go_run 0 (F' := (47, [some (.ref 134), some (.int l1), u2, some (.int l3)], [], Wm pre post I1 (upA (upA A1 36 (upd (A1 36) (Int32.toNatClampNeg l1) l3)) 37 (upd (A1 37) (Int32.toNatClampNeg l1) (-1))))) rfl ?_
        cases hm
        exact go_end rfl rfl
def x_stand (n : Nat) (I : Nat → Int32) (A : Nat → Nat → Int32) (a1 a2 : Int32) : Option xR := (x_stand_2  n I A a1 a2)
theorem g_stand {X : ie_X} {d : Nat} {pre post : ie_H} (hp : pre.length = 134) {n : Nat} {I : Nat → Int32} {A : Nat → Nat → Int32} {a1 a2 : Int32} {I' : Nat → Int32} {A' : Nat → Nat → Int32} {r : Int32} (hm : x_stand n I A a1 a2 = some (I', A', r)) : Go X (d + 4) 195 (0, ie_en 195 [.ref 134, .int a1, .int a2], [], Wm pre post I A) (.inl none) (Wm pre post I' A') := by
  unfold x_stand at hm
  refine go_run 0 (F' := (0, [some (.ref 134), some (.int a1), some (.int a2), none], [], Wm pre post I A)) rfl ?_
  refine go_run 2 (F' := (2, [some (.ref 134), some (.int a1), some (.int a2), some (.int a2)], [], Wm pre post I A)) rfl ?_
  exact g_stand_2 hp  n hm
def x_stepTell (n : Nat) (I : Nat → Int32) (A : Nat → Nat → Int32) (a1 a2 : Int32) : Option xR := (xb (x_charAt I A a1 (a2 + 3)) fun I1 A1 v1 => (xb (x_isFull I1 A1 a1 (v1 - 65)) fun I2 A2 v2 => (if v2 = 0 then (xb (x_charAt I2 A2 a1 (a2 + 1)) fun I3 A3 v3 => (xb (x_give I3 A3 a1 (v1 - 65) (v3 - 48) 1) fun I4 A4 v4 => (xb (x_stand n I4 A4 a1 (a2 + 5)) fun I5 A5 v5 => (some (I5, A5, 1))))) else (some (I2, A2, 0)))))
theorem g_stepTell {X : ie_X} {d : Nat} {pre post : ie_H} (hp : pre.length = 134) {n : Nat} {I : Nat → Int32} {A : Nat → Nat → Int32} {a1 a2 : Int32} {I' : Nat → Int32} {A' : Nat → Nat → Int32} {r : Int32} (hm : x_stepTell n I A a1 a2 = some (I', A', r)) : Go X (d + 5) 192 (0, ie_en 192 [.ref 134, .int a1, .int a2], [], Wm pre post I A) (.inl (some (.int r))) (Wm pre post I' A') := by
  unfold x_stepTell at hm
  refine go_run 0 (F' := (0, [some (.ref 134), some (.int a1), some (.int a2), none], [], Wm pre post I A)) rfl ?_
  refine go_run 5 (F' := (5, [some (.ref 134), some (.int a1), some (.int a2), none], [.int (a2 + 3), .int a1, .ref 134], Wm pre post I A)) rfl ?_
  obtain ⟨I1, A1, v1, e1, hm⟩ := xb_inv hm
  refine go_call (m' := 191) (v := some (.int v1)) (h1 := Wm pre post I1 A1) rfl (by simp only [ie_step, ie_iv, List.drop, w_0 hp]; rfl) ⟨rfl, Nat.le_of_ble_eq_true rfl⟩ (g_charAt (d := d + 4) hp e1) ?_
  refine go_run 0 (F' := (8, [some (.ref 134), some (.int a1), some (.int a2), none], [.int v1], Wm pre post I1 A1)) rfl ?_
  refine go_run 6 (F' := (15, [some (.ref 134), some (.int a1), some (.int a2), some (.int (v1 - 65))], [.int (v1 - 65), .int a1, .ref 134], Wm pre post I1 A1)) rfl ?_
  obtain ⟨I2, A2, v2, e2, hm⟩ := xb_inv hm
  refine go_call (m' := 193) (v := some (.int v2)) (h1 := Wm pre post I2 A2) rfl (by simp only [ie_step, ie_iv, List.drop, w_0 hp]; rfl) ⟨rfl, Nat.le_of_ble_eq_true rfl⟩ (g_isFull (d := d + 4) hp e2) ?_
  refine go_run 0 (F' := (18, [some (.ref 134), some (.int a1), some (.int a2), some (.int (v1 - 65))], [.int v2], Wm pre post I2 A2)) rfl ?_
  refine go_run 0 (F' := (18, [some (.ref 134), some (.int a1), some (.int a2), some (.int (v1 - 65))], [.int v2], Wm pre post I2 A2)) rfl ?_
  refine go_step rfl rfl ?_
  by_cases q1 : v2 = 0
  · rw [if_pos q1] at hm ⊢
    refine go_run 0 (F' := (23, [some (.ref 134), some (.int a1), some (.int a2), some (.int (v1 - 65))], [], Wm pre post I2 A2)) rfl ?_
    refine go_run 8 (F' := (31, [some (.ref 134), some (.int a1), some (.int a2), some (.int (v1 - 65))], [.int (a2 + 1), .int a1, .ref 134, .int (v1 - 65), .int a1, .ref 134], Wm pre post I2 A2)) rfl ?_
    obtain ⟨I3, A3, v3, e3, hm⟩ := xb_inv hm
    refine go_call (m' := 191) (v := some (.int v3)) (h1 := Wm pre post I3 A3) rfl (by simp only [ie_step, ie_iv, List.drop, w_0 hp]; rfl) ⟨rfl, Nat.le_of_ble_eq_true rfl⟩ (g_charAt (d := d + 4) hp e3) ?_
    refine go_run 0 (F' := (34, [some (.ref 134), some (.int a1), some (.int a2), some (.int (v1 - 65))], [.int v3, .int (v1 - 65), .int a1, .ref 134], Wm pre post I3 A3)) rfl ?_
    refine go_run 3 (F' := (38, [some (.ref 134), some (.int a1), some (.int a2), some (.int (v1 - 65))], [.int 1, .int (v3 - 48), .int (v1 - 65), .int a1, .ref 134], Wm pre post I3 A3)) rfl ?_
    obtain ⟨I4, A4, v4, e4, hm⟩ := xb_inv hm
    refine go_call (m' := 194) (v := none) (h1 := Wm pre post I4 A4) rfl (by simp only [ie_step, ie_iv, List.drop, w_0 hp]; rfl) ⟨rfl, Nat.le_of_ble_eq_true rfl⟩ (g_give (d := d + 4) hp e4) ?_
    refine go_run 0 (F' := (41, [some (.ref 134), some (.int a1), some (.int a2), some (.int (v1 - 65))], [], Wm pre post I4 A4)) rfl ?_
    refine go_run 5 (F' := (46, [some (.ref 134), some (.int a1), some (.int a2), some (.int (v1 - 65))], [.int (a2 + 5), .int a1, .ref 134], Wm pre post I4 A4)) rfl ?_
    obtain ⟨I5, A5, v5, e5, hm⟩ := xb_inv hm
    refine go_call (m' := 195) (v := none) (h1 := Wm pre post I5 A5) rfl (by simp only [ie_step, ie_iv, List.drop, w_0 hp]; rfl) ⟨rfl, Nat.le_of_ble_eq_true rfl⟩ (g_stand (d := d) hp e5) ?_
    refine go_run 0 (F' := (49, [some (.ref 134), some (.int a1), some (.int a2), some (.int (v1 - 65))], [], Wm pre post I5 A5)) rfl ?_
    refine go_run 1 (F' := (50, [some (.ref 134), some (.int a1), some (.int a2), some (.int (v1 - 65))], [.int 1], Wm pre post I5 A5)) rfl ?_
    cases hm
    exact go_end rfl rfl
  · rw [if_neg q1] at hm ⊢
    refine go_run 0 (F' := (21, [some (.ref 134), some (.int a1), some (.int a2), some (.int (v1 - 65))], [], Wm pre post I2 A2)) rfl ?_
    refine go_run 1 (F' := (22, [some (.ref 134), some (.int a1), some (.int a2), some (.int (v1 - 65))], [.int 0], Wm pre post I2 A2)) rfl ?_
    cases hm
    exact go_end rfl rfl
def x_termOf_43 : Nat → (Nat → Int32) → (Nat → Nat → Int32) → Int32 → Int32 → Int32 → Option xR
  | 0, _, _, _, _, _ => none
  | n + 1, I, A, l1, l3, l4 => (xb (x_charAt I A l1 l3) fun I1 A1 v1 => (if ty_b (rd_fig v1) = 0 then (some (upd I1 19 l3, A1, l4)) else (xb (x_charAt I1 A1 l1 l3) fun I2 A2 v2 => (x_termOf_43 n I2 A2 l1 (l3 + 1) (((10 * l4) + v2) - 48)))))
theorem g_termOf_43 {X : ie_X} {d : Nat} {pre post : ie_H} (hp : pre.length = 134) : ∀ (n : Nat) {I : Nat → Int32} {A : Nat → Nat → Int32} {l1 l3 l4 : Int32} {u2 : Option Value} {I' : Nat → Int32} {A' : Nat → Nat → Int32} {r : Int32}, x_termOf_43 n I A l1 l3 l4 = some (I', A', r) → Go X (d + 1) 203 (43, [some (.ref 134), some (.int l1), u2, some (.int l3), some (.int l4)], [], Wm pre post I A) (.inl (some (.int r))) (Wm pre post I' A') := by
  intro n
  induction n with
  | zero => intro I A l1 l3 l4 u2 I' A' r hm; cases hm
  | succ n ih =>
    intro I A l1 l3 l4 u2 I' A' r hm
    unfold x_termOf_43 at hm
    refine go_run 0 (F' := (43, [some (.ref 134), some (.int l1), u2, some (.int l3), some (.int l4)], [], Wm pre post I A)) rfl ?_
    refine go_run 3 (F' := (46, [some (.ref 134), some (.int l1), u2, some (.int l3), some (.int l4)], [.int l3, .int l1, .ref 134], Wm pre post I A)) rfl ?_
    obtain ⟨I1, A1, v1, e1, hm⟩ := xb_inv hm
    refine go_call (m' := 191) (v := some (.int v1)) (h1 := Wm pre post I1 A1) rfl (by simp only [ie_step, ie_iv, List.drop, w_0 hp]; rfl) ⟨rfl, Nat.le_of_ble_eq_true rfl⟩ (g_charAt (d := d) hp e1) ?_
    refine go_run 0 (F' := (49, [some (.ref 134), some (.int l1), u2, some (.int l3), some (.int l4)], [.int v1], Wm pre post I1 A1)) rfl ?_
    refine go_run 0 (F' := (49, [some (.ref 134), some (.int l1), u2, some (.int l3), some (.int l4)], [.int v1], Wm pre post I1 A1)) rfl ?_
    refine go_call (m' := 146) (v := some (.int (ty_b (rd_fig v1)))) (h1 := Wm pre post I1 A1) rfl rfl ⟨rfl, Nat.le_of_ble_eq_true rfl⟩ (rm_isFig _) ?_
    refine go_run 0 (F' := (52, [some (.ref 134), some (.int l1), u2, some (.int l3), some (.int l4)], [.int (ty_b (rd_fig v1))], Wm pre post I1 A1)) rfl ?_
    refine go_run 0 (F' := (52, [some (.ref 134), some (.int l1), u2, some (.int l3), some (.int l4)], [.int (ty_b (rd_fig v1))], Wm pre post I1 A1)) rfl ?_
    refine go_step rfl rfl ?_
    by_cases q1 : ty_b (rd_fig v1) = 0
    · rw [if_pos q1] at hm ⊢
      refine go_run 0 (F' := (78, [some (.ref 134), some (.int l1), u2, some (.int l3), some (.int l4)], [], Wm pre post I1 A1)) rfl ?_
      refine go_run 2 (F' := (80, [some (.ref 134), some (.int l1), u2, some (.int l3), some (.int l4)], [.int l3, .ref 134], Wm pre post I1 A1)) rfl ?_
      refine go_pf rfl (w_0 hp) (Nat.le_of_ble_eq_true rfl) rfl (wo_19 hp) ?_
      refine go_run 1 (F' := (85, [some (.ref 134), some (.int l1), u2, some (.int l3), some (.int l4)], [.int l4], Wm pre post (upd I1 19 l3) A1)) rfl ?_
      cases hm
      exact go_end rfl rfl
    · rw [if_neg q1] at hm ⊢
      refine go_run 0 (F' := (55, [some (.ref 134), some (.int l1), u2, some (.int l3), some (.int l4)], [], Wm pre post I1 A1)) rfl ?_
      refine go_run 6 (F' := (63, [some (.ref 134), some (.int l1), u2, some (.int l3), some (.int l4)], [.int l3, .int l1, .ref 134, .int (10 * l4)], Wm pre post I1 A1)) rfl ?_
      obtain ⟨I2, A2, v2, e2, hm⟩ := xb_inv hm
      refine go_call (m' := 191) (v := some (.int v2)) (h1 := Wm pre post I2 A2) rfl (by simp only [ie_step, ie_iv, List.drop, w_0 hp]; rfl) ⟨rfl, Nat.le_of_ble_eq_true rfl⟩ (g_charAt (d := d) hp e2) ?_
      refine go_run 0 (F' := (66, [some (.ref 134), some (.int l1), u2, some (.int l3), some (.int l4)], [.int v2, .int (10 * l4)], Wm pre post I2 A2)) rfl ?_
      refine go_run 6 (F' := (43, [some (.ref 134), some (.int l1), u2, some (.int (l3 + 1)), some (.int (((10 * l4) + v2) - 48))], [], Wm pre post I2 A2)) rfl ?_
      exact ih hm
def x_termOf (n : Nat) (I : Nat → Int32) (A : Nat → Nat → Int32) (a1 a2 : Int32) : Option xR := (xb (x_charAt I A a1 a2) fun I1 A1 v1 => (if ty_b (rd_var v1) = 0 then (x_termOf_43  n I1 A1 a1 a2 0) else (xb (x_charAt (upd I1 19 (a2 + 1)) A1 a1 a2) fun I2 A2 v2 => (if ib (((4 * a1) + v2) - 119) 24 then (some (I2, A2, (A2 34) (Int32.toNatClampNeg (((4 * a1) + v2) - 119)))) else none))))
theorem g_termOf {X : ie_X} {d : Nat} {pre post : ie_H} (hp : pre.length = 134) {n : Nat} {I : Nat → Int32} {A : Nat → Nat → Int32} {a1 a2 : Int32} {I' : Nat → Int32} {A' : Nat → Nat → Int32} {r : Int32} (hm : x_termOf n I A a1 a2 = some (I', A', r)) : Go X (d + 1) 203 (0, ie_en 203 [.ref 134, .int a1, .int a2], [], Wm pre post I A) (.inl (some (.int r))) (Wm pre post I' A') := by
  unfold x_termOf at hm
  refine go_run 0 (F' := (0, [some (.ref 134), some (.int a1), some (.int a2), none, none], [], Wm pre post I A)) rfl ?_
  refine go_run 5 (F' := (5, [some (.ref 134), some (.int a1), some (.int a2), some (.int a2), none], [.int a2, .int a1, .ref 134], Wm pre post I A)) rfl ?_
  obtain ⟨I1, A1, v1, e1, hm⟩ := xb_inv hm
  refine go_call (m' := 191) (v := some (.int v1)) (h1 := Wm pre post I1 A1) rfl (by simp only [ie_step, ie_iv, List.drop, w_0 hp]; rfl) ⟨rfl, Nat.le_of_ble_eq_true rfl⟩ (g_charAt (d := d) hp e1) ?_
  refine go_run 0 (F' := (8, [some (.ref 134), some (.int a1), some (.int a2), some (.int a2), none], [.int v1], Wm pre post I1 A1)) rfl ?_
  refine go_run 0 (F' := (8, [some (.ref 134), some (.int a1), some (.int a2), some (.int a2), none], [.int v1], Wm pre post I1 A1)) rfl ?_
  refine go_call (m' := 150) (v := some (.int (ty_b (rd_var v1)))) (h1 := Wm pre post I1 A1) rfl rfl ⟨rfl, Nat.le_of_ble_eq_true rfl⟩ (rm_isVar _) ?_
  refine go_run 0 (F' := (11, [some (.ref 134), some (.int a1), some (.int a2), some (.int a2), none], [.int (ty_b (rd_var v1))], Wm pre post I1 A1)) rfl ?_
  refine go_run 0 (F' := (11, [some (.ref 134), some (.int a1), some (.int a2), some (.int a2), none], [.int (ty_b (rd_var v1))], Wm pre post I1 A1)) rfl ?_
  refine go_step rfl rfl ?_
  by_cases q1 : ty_b (rd_var v1) = 0
  · rw [if_pos q1] at hm ⊢
    refine go_run 0 (F' := (40, [some (.ref 134), some (.int a1), some (.int a2), some (.int a2), none], [], Wm pre post I1 A1)) rfl ?_
    refine go_run 2 (F' := (43, [some (.ref 134), some (.int a1), some (.int a2), some (.int a2), some (.int 0)], [], Wm pre post I1 A1)) rfl ?_
    exact g_termOf_43 hp  n hm
  · rw [if_neg q1] at hm ⊢
    refine go_run 0 (F' := (14, [some (.ref 134), some (.int a1), some (.int a2), some (.int a2), none], [], Wm pre post I1 A1)) rfl ?_
    refine go_run 4 (F' := (18, [some (.ref 134), some (.int a1), some (.int a2), some (.int a2), none], [.int (a2 + 1), .ref 134], Wm pre post I1 A1)) rfl ?_
    refine go_pf rfl (w_0 hp) (Nat.le_of_ble_eq_true rfl) rfl (wo_19 hp) ?_
    refine go_run 1 (F' := (22, [some (.ref 134), some (.int a1), some (.int a2), some (.int a2), none], [.ref 134], Wm pre post (upd I1 19 (a2 + 1)) A1)) rfl ?_
    refine go_gf rfl (w_0 hp) rfl ?_
    refine go_run 6 (F' := (31, [some (.ref 134), some (.int a1), some (.int a2), some (.int a2), none], [.int a2, .int a1, .ref 134, .int (4 * a1), .ref 168], Wm pre post (upd I1 19 (a2 + 1)) A1)) rfl ?_
    obtain ⟨I2, A2, v2, e2, hm⟩ := xb_inv hm
    refine go_call (m' := 191) (v := some (.int v2)) (h1 := Wm pre post I2 A2) rfl (by simp only [ie_step, ie_iv, List.drop, w_0 hp]; rfl) ⟨rfl, Nat.le_of_ble_eq_true rfl⟩ (g_charAt (d := d) hp e2) ?_
    refine go_run 0 (F' := (34, [some (.ref 134), some (.int a1), some (.int a2), some (.int a2), none], [.int v2, .int (4 * a1), .ref 168], Wm pre post I2 A2)) rfl ?_
    refine go_run 3 (F' := (38, [some (.ref 134), some (.int a1), some (.int a2), some (.int a2), none], [.int (((4 * a1) + v2) - 119), .ref 168], Wm pre post I2 A2)) rfl ?_
    obtain ⟨b2, hm⟩ := gd hm
    refine go_iald rfl (by decide) (w_34 hp) b2 rfl ?_
    refine go_run 0 (F' := (39, [some (.ref 134), some (.int a1), some (.int a2), some (.int a2), none], [.int ((A2 34) (Int32.toNatClampNeg (((4 * a1) + v2) - 119)))], Wm pre post I2 A2)) rfl ?_
    cases hm
    exact go_end rfl rfl
theorem sw_204_1 {X : ie_X} {r : Nat × Nat × Nat} {ls : ie_L} {st : List Value} {h : ie_H} {x : Int32} (q0 : ¬ x = 37) (q1 : ¬ x = 42) (q2 : ¬ x = 43) (q3 : ¬ x = 45) (q4 : ¬ x = 47) (q5 : ¬ x = 60) : ie_step X 204 (.lookupswitch 106 #[(37, 83), (42, 67), (43, 59), (45, 63), (47, 71), (60, 95)]) r 1 ls (.int x :: st) h = some (.inl (107, ls, st, h)) := by
  have n0 : x.toInt ≠ 37 := fun z => q0 (Int32.toInt_inj.mp z)
  have n1 : x.toInt ≠ 42 := fun z => q1 (Int32.toInt_inj.mp z)
  have n2 : x.toInt ≠ 43 := fun z => q2 (Int32.toInt_inj.mp z)
  have n3 : x.toInt ≠ 45 := fun z => q3 (Int32.toInt_inj.mp z)
  have n4 : x.toInt ≠ 47 := fun z => q4 (Int32.toInt_inj.mp z)
  have n5 : x.toInt ≠ 60 := fun z => q5 (Int32.toInt_inj.mp z)
  clear q0 q1 q2 q3 q4 q5
  show (some (.inl (ie_lk 1 106 [(37, 83), (42, 67), (43, 59), (45, 63), (47, 71), (60, 95)] x.toInt, ls, st, h)) : ie_R) = _
  unfold ie_lk
  rw [Op.lookupswitch.offset_cons, if_neg (Ne.symm n0), Op.lookupswitch.offset_cons, if_neg (Ne.symm n1), Op.lookupswitch.offset_cons, if_neg (Ne.symm n2), Op.lookupswitch.offset_cons, if_neg (Ne.symm n3), Op.lookupswitch.offset_cons, if_neg (Ne.symm n4), Op.lookupswitch.offset_cons, if_neg (Ne.symm n5), Op.lookupswitch.offset_nil]
  rfl
def x_reckon (a1 a2 a3 : Int32) : Int32 := (if a2 = 37 then (if a3 = 0 then 0 else a1 - a1 / a3 * a3) else (if a2 = 42 then a1 * a3 else (if a2 = 43 then a1 + a3 else (if a2 = 45 then a1 - a3 else (if a2 = 47 then (if a3 = 0 then 0 else a1 / a3) else (if a2 = 60 then (if a3 ≤ a1 then 0 else 1) else (if a1 = a3 then 1 else 0)))))))
theorem g_reckon {X : ie_X} {d : Nat} {h : ie_H} (a1 a2 a3 : Int32) : Go X (d + 0) 204 (0, ie_en 204 [.int a1, .int a2, .int a3], [], h) (.inl (some (.int (x_reckon a1 a2 a3)))) h := by
  generalize hm : x_reckon a1 a2 a3 = r
  unfold x_reckon at hm
  refine go_run 0 (F' := (0, [some (.int a1), some (.int a2), some (.int a3)], [], h)) rfl ?_
  refine go_run 1 (F' := (1, [some (.int a1), some (.int a2), some (.int a3)], [.int a2], h)) rfl ?_
  by_cases q1 : a2 = 37
  · rw [if_pos q1] at hm
    refine go_step rfl (F := (84, [some (.int a1), some (.int a2), some (.int a3)], [], h)) (by simp only [ie_step, q1]; rfl) ?_
    refine go_run 0 (F' := (84, [some (.int a1), some (.int a2), some (.int a3)], [], h)) rfl ?_
    refine go_run 1 (F' := (85, [some (.int a1), some (.int a2), some (.int a3)], [.int a3], h)) rfl ?_
    refine go_step rfl rfl ?_
    by_cases q2 : a3 = 0
    · rw [if_pos q2] at hm ⊢
      refine go_run 0 (F' := (88, [some (.int a1), some (.int a2), some (.int a3)], [], h)) rfl ?_
      refine go_run 2 (F' := (95, [some (.int a1), some (.int a2), some (.int a3)], [.int 0], h)) rfl ?_
      (cases hm; exact go_end rfl rfl)
    · rw [if_neg q2] at hm ⊢
      refine go_run 0 (F' := (92, [some (.int a1), some (.int a2), some (.int a3)], [], h)) rfl ?_
      refine go_run 2 (F' := (94, [some (.int a1), some (.int a2), some (.int a3)], [.int a3, .int a1], h)) rfl ?_
      refine go_step rfl (F := (95, [some (.int a1), some (.int a2), some (.int a3)], [.int (a1 - a1 / a3 * a3)], h)) (by simp only [ie_step, ie_d, if_neg q2]; rfl) ?_
      refine go_run 0 (F' := (95, [some (.int a1), some (.int a2), some (.int a3)], [.int (a1 - a1 / a3 * a3)], h)) rfl ?_
      (cases hm; exact go_end rfl rfl)
  · rw [if_neg q1] at hm
    by_cases q3 : a2 = 42
    · rw [if_pos q3] at hm
      refine go_step rfl (F := (68, [some (.int a1), some (.int a2), some (.int a3)], [], h)) (by simp only [ie_step, q3]; rfl) ?_
      refine go_run 0 (F' := (68, [some (.int a1), some (.int a2), some (.int a3)], [], h)) rfl ?_
      refine go_run 3 (F' := (71, [some (.int a1), some (.int a2), some (.int a3)], [.int (a1 * a3)], h)) rfl ?_
      (cases hm; exact go_end rfl rfl)
    · rw [if_neg q3] at hm
      by_cases q4 : a2 = 43
      · rw [if_pos q4] at hm
        refine go_step rfl (F := (60, [some (.int a1), some (.int a2), some (.int a3)], [], h)) (by simp only [ie_step, q4]; rfl) ?_
        refine go_run 0 (F' := (60, [some (.int a1), some (.int a2), some (.int a3)], [], h)) rfl ?_
        refine go_run 3 (F' := (63, [some (.int a1), some (.int a2), some (.int a3)], [.int (a1 + a3)], h)) rfl ?_
        (cases hm; exact go_end rfl rfl)
      · rw [if_neg q4] at hm
        by_cases q5 : a2 = 45
        · rw [if_pos q5] at hm
          refine go_step rfl (F := (64, [some (.int a1), some (.int a2), some (.int a3)], [], h)) (by simp only [ie_step, q5]; rfl) ?_
          refine go_run 0 (F' := (64, [some (.int a1), some (.int a2), some (.int a3)], [], h)) rfl ?_
          refine go_run 3 (F' := (67, [some (.int a1), some (.int a2), some (.int a3)], [.int (a1 - a3)], h)) rfl ?_
          (cases hm; exact go_end rfl rfl)
        · rw [if_neg q5] at hm
          by_cases q6 : a2 = 47
          · rw [if_pos q6] at hm
            refine go_step rfl (F := (72, [some (.int a1), some (.int a2), some (.int a3)], [], h)) (by simp only [ie_step, q6]; rfl) ?_
            refine go_run 0 (F' := (72, [some (.int a1), some (.int a2), some (.int a3)], [], h)) rfl ?_
            refine go_run 1 (F' := (73, [some (.int a1), some (.int a2), some (.int a3)], [.int a3], h)) rfl ?_
            refine go_step rfl rfl ?_
            by_cases q7 : a3 = 0
            · rw [if_pos q7] at hm ⊢
              refine go_run 0 (F' := (76, [some (.int a1), some (.int a2), some (.int a3)], [], h)) rfl ?_
              refine go_run 2 (F' := (83, [some (.int a1), some (.int a2), some (.int a3)], [.int 0], h)) rfl ?_
              (cases hm; exact go_end rfl rfl)
            · rw [if_neg q7] at hm ⊢
              refine go_run 0 (F' := (80, [some (.int a1), some (.int a2), some (.int a3)], [], h)) rfl ?_
              refine go_run 2 (F' := (82, [some (.int a1), some (.int a2), some (.int a3)], [.int a3, .int a1], h)) rfl ?_
              refine go_step rfl (F := (83, [some (.int a1), some (.int a2), some (.int a3)], [.int (a1 / a3)], h)) (by simp only [ie_step, ie_d, if_neg q7]; rfl) ?_
              refine go_run 0 (F' := (83, [some (.int a1), some (.int a2), some (.int a3)], [.int (a1 / a3)], h)) rfl ?_
              (cases hm; exact go_end rfl rfl)
          · rw [if_neg q6] at hm
            by_cases q8 : a2 = 60
            · rw [if_pos q8] at hm
              refine go_step rfl (F := (96, [some (.int a1), some (.int a2), some (.int a3)], [], h)) (by simp only [ie_step, q8]; rfl) ?_
              refine go_run 0 (F' := (96, [some (.int a1), some (.int a2), some (.int a3)], [], h)) rfl ?_
              refine go_run 2 (F' := (98, [some (.int a1), some (.int a2), some (.int a3)], [.int a3, .int a1], h)) rfl ?_
              refine go_step rfl rfl ?_
              by_cases q9 : a3 ≤ a1
              · rw [if_pos q9] at hm ⊢
                refine go_run 0 (F' := (105, [some (.int a1), some (.int a2), some (.int a3)], [], h)) rfl ?_
                refine go_run 1 (F' := (106, [some (.int a1), some (.int a2), some (.int a3)], [.int 0], h)) rfl ?_
                (cases hm; exact go_end rfl rfl)
              · rw [if_neg q9] at hm ⊢
                refine go_run 0 (F' := (101, [some (.int a1), some (.int a2), some (.int a3)], [], h)) rfl ?_
                refine go_run 2 (F' := (106, [some (.int a1), some (.int a2), some (.int a3)], [.int 1], h)) rfl ?_
                (cases hm; exact go_end rfl rfl)
            · rw [if_neg q8] at hm
              refine go_step rfl (F := (107, [some (.int a1), some (.int a2), some (.int a3)], [], h)) (sw_204_1 q1 q3 q4 q5 q6 q8) ?_
              refine go_run 0 (F' := (107, [some (.int a1), some (.int a2), some (.int a3)], [], h)) rfl ?_
              refine go_run 2 (F' := (109, [some (.int a1), some (.int a2), some (.int a3)], [.int a3, .int a1], h)) rfl ?_
              refine go_step rfl rfl ?_
              by_cases q10 : a1 = a3
              · rw [if_pos q10] at hm ⊢
                refine go_run 0 (F' := (112, [some (.int a1), some (.int a2), some (.int a3)], [], h)) rfl ?_
                refine go_run 2 (F' := (117, [some (.int a1), some (.int a2), some (.int a3)], [.int 1], h)) rfl ?_
                (cases hm; exact go_end rfl rfl)
              · rw [if_neg q10] at hm ⊢
                refine go_run 0 (F' := (116, [some (.int a1), some (.int a2), some (.int a3)], [], h)) rfl ?_
                refine go_run 1 (F' := (117, [some (.int a1), some (.int a2), some (.int a3)], [.int 0], h)) rfl ?_
                (cases hm; exact go_end rfl rfl)
def x_work (n : Nat) (I : Nat → Int32) (A : Nat → Nat → Int32) (a1 a2 : Int32) : Option xR := (xb (x_termOf n I A a1 a2) fun I1 A1 v1 => (xb (x_charAt (upd I1 20 v1) A1 a1 (I1 19)) fun I2 A2 v2 => (if ty_b (rd_op v2) = 0 then (some (I2, A2, 0)) else (xb (x_termOf n I2 A2 a1 ((I2 19) + 1)) fun I3 A3 v3 => (some (upd I3 20 (x_reckon (I2 20) v2 v3), A3, 0))))))
theorem g_work {X : ie_X} {d : Nat} {pre post : ie_H} (hp : pre.length = 134) {n : Nat} {I : Nat → Int32} {A : Nat → Nat → Int32} {a1 a2 : Int32} {I' : Nat → Int32} {A' : Nat → Nat → Int32} {r : Int32} (hm : x_work n I A a1 a2 = some (I', A', r)) : Go X (d + 2) 202 (0, ie_en 202 [.ref 134, .int a1, .int a2], [], Wm pre post I A) (.inl none) (Wm pre post I' A') := by
  unfold x_work at hm
  refine go_run 0 (F' := (0, [some (.ref 134), some (.int a1), some (.int a2), none, none], [], Wm pre post I A)) rfl ?_
  refine go_run 4 (F' := (4, [some (.ref 134), some (.int a1), some (.int a2), none, none], [.int a2, .int a1, .ref 134, .ref 134], Wm pre post I A)) rfl ?_
  obtain ⟨I1, A1, v1, e1, hm⟩ := xb_inv hm
  refine go_call (m' := 203) (v := some (.int v1)) (h1 := Wm pre post I1 A1) rfl (by simp only [ie_step, ie_iv, List.drop, w_0 hp]; rfl) ⟨rfl, Nat.le_of_ble_eq_true rfl⟩ (g_termOf (d := d) hp e1) ?_
  refine go_run 0 (F' := (7, [some (.ref 134), some (.int a1), some (.int a2), none, none], [.int v1, .ref 134], Wm pre post I1 A1)) rfl ?_
  refine go_run 0 (F' := (7, [some (.ref 134), some (.int a1), some (.int a2), none, none], [.int v1, .ref 134], Wm pre post I1 A1)) rfl ?_
  refine go_pf rfl (w_0 hp) (Nat.le_of_ble_eq_true rfl) rfl (wo_20 hp) ?_
  refine go_run 3 (F' := (13, [some (.ref 134), some (.int a1), some (.int a2), none, none], [.ref 134, .int a1, .ref 134], Wm pre post (upd I1 20 v1) A1)) rfl ?_
  refine go_gf rfl (w_0 hp) rfl ?_
  refine go_run 0 (F' := (16, [some (.ref 134), some (.int a1), some (.int a2), none, none], [.int (I1 19), .int a1, .ref 134], Wm pre post (upd I1 20 v1) A1)) rfl ?_
  obtain ⟨I2, A2, v2, e2, hm⟩ := xb_inv hm
  refine go_call (m' := 191) (v := some (.int v2)) (h1 := Wm pre post I2 A2) rfl (by simp only [ie_step, ie_iv, List.drop, w_0 hp]; rfl) ⟨rfl, Nat.le_of_ble_eq_true rfl⟩ (g_charAt (d := d + 1) hp e2) ?_
  refine go_run 0 (F' := (19, [some (.ref 134), some (.int a1), some (.int a2), none, none], [.int v2], Wm pre post I2 A2)) rfl ?_
  refine go_run 2 (F' := (21, [some (.ref 134), some (.int a1), some (.int a2), some (.int v2), none], [.int v2], Wm pre post I2 A2)) rfl ?_
  refine go_call (m' := 151) (v := some (.int (ty_b (rd_op v2)))) (h1 := Wm pre post I2 A2) rfl rfl ⟨rfl, Nat.le_of_ble_eq_true rfl⟩ (rm_isSign _) ?_
  refine go_run 0 (F' := (24, [some (.ref 134), some (.int a1), some (.int a2), some (.int v2), none], [.int (ty_b (rd_op v2))], Wm pre post I2 A2)) rfl ?_
  refine go_run 0 (F' := (24, [some (.ref 134), some (.int a1), some (.int a2), some (.int v2), none], [.int (ty_b (rd_op v2))], Wm pre post I2 A2)) rfl ?_
  refine go_step rfl rfl ?_
  by_cases q1 : ty_b (rd_op v2) = 0
  · rw [if_pos q1] at hm ⊢
    refine go_run 0 (F' := (54, [some (.ref 134), some (.int a1), some (.int a2), some (.int v2), none], [], Wm pre post I2 A2)) rfl ?_
    refine go_run 0 (F' := (54, [some (.ref 134), some (.int a1), some (.int a2), some (.int v2), none], [], Wm pre post I2 A2)) rfl ?_
    cases hm
    exact go_end rfl rfl
  · rw [if_neg q1] at hm ⊢
    refine go_run 0 (F' := (27, [some (.ref 134), some (.int a1), some (.int a2), some (.int v2), none], [], Wm pre post I2 A2)) rfl ?_
    refine go_run 1 (F' := (28, [some (.ref 134), some (.int a1), some (.int a2), some (.int v2), none], [.ref 134], Wm pre post I2 A2)) rfl ?_
    refine go_gf rfl (w_0 hp) rfl ?_
    refine go_run 7 (F' := (40, [some (.ref 134), some (.int a1), some (.int a2), some (.int v2), some (.int (I2 20))], [.ref 134, .int a1, .ref 134, .int v2, .int (I2 20), .ref 134], Wm pre post I2 A2)) rfl ?_
    refine go_gf rfl (w_0 hp) rfl ?_
    refine go_run 2 (F' := (45, [some (.ref 134), some (.int a1), some (.int a2), some (.int v2), some (.int (I2 20))], [.int ((I2 19) + 1), .int a1, .ref 134, .int v2, .int (I2 20), .ref 134], Wm pre post I2 A2)) rfl ?_
    obtain ⟨I3, A3, v3, e3, hm⟩ := xb_inv hm
    refine go_call (m' := 203) (v := some (.int v3)) (h1 := Wm pre post I3 A3) rfl (by simp only [ie_step, ie_iv, List.drop, w_0 hp]; rfl) ⟨rfl, Nat.le_of_ble_eq_true rfl⟩ (g_termOf (d := d) hp e3) ?_
    refine go_run 0 (F' := (48, [some (.ref 134), some (.int a1), some (.int a2), some (.int v2), some (.int (I2 20))], [.int v3, .int v2, .int (I2 20), .ref 134], Wm pre post I3 A3)) rfl ?_
    refine go_run 0 (F' := (48, [some (.ref 134), some (.int a1), some (.int a2), some (.int v2), some (.int (I2 20))], [.int v3, .int v2, .int (I2 20), .ref 134], Wm pre post I3 A3)) rfl ?_
    refine go_call (m' := 204) (v := some (.int (x_reckon (I2 20) v2 v3))) (h1 := Wm pre post I3 A3) rfl rfl ⟨rfl, Nat.le_of_ble_eq_true rfl⟩ (g_reckon _ _ _) ?_
    refine go_run 0 (F' := (51, [some (.ref 134), some (.int a1), some (.int a2), some (.int v2), some (.int (I2 20))], [.int (x_reckon (I2 20) v2 v3), .ref 134], Wm pre post I3 A3)) rfl ?_
    refine go_run 0 (F' := (51, [some (.ref 134), some (.int a1), some (.int a2), some (.int v2), some (.int (I2 20))], [.int (x_reckon (I2 20) v2 v3), .ref 134], Wm pre post I3 A3)) rfl ?_
    refine go_pf rfl (w_0 hp) (Nat.le_of_ble_eq_true rfl) rfl (wo_20 hp) ?_
    refine go_run 0 (F' := (54, [some (.ref 134), some (.int a1), some (.int a2), some (.int v2), some (.int (I2 20))], [], Wm pre post (upd I3 20 (x_reckon (I2 20) v2 v3)) A3)) rfl ?_
    cases hm
    exact go_end rfl rfl
def x_stepChoice (n : Nat) (I : Nat → Int32) (A : Nat → Nat → Int32) (a1 a2 : Int32) : Option xR := (xb (x_work n I A a1 (a2 + 1)) fun I1 A1 v1 => (xb (x_closing n I1 A1 a1 (I1 19)) fun I2 A2 v2 => (if I2 20 = 0 then (xb (x_stand n I2 A2 a1 (v2 + 2)) fun I3 A3 v3 => (some (I3, A3, 1))) else (xb (x_stand n I2 A2 a1 ((I2 19) + 1)) fun I4 A4 v4 => (some (I4, A4, 1))))))
theorem g_stepChoice {X : ie_X} {d : Nat} {pre post : ie_H} (hp : pre.length = 134) {n : Nat} {I : Nat → Int32} {A : Nat → Nat → Int32} {a1 a2 : Int32} {I' : Nat → Int32} {A' : Nat → Nat → Int32} {r : Int32} (hm : x_stepChoice n I A a1 a2 = some (I', A', r)) : Go X (d + 5) 201 (0, ie_en 201 [.ref 134, .int a1, .int a2], [], Wm pre post I A) (.inl (some (.int r))) (Wm pre post I' A') := by
  unfold x_stepChoice at hm
  refine go_run 0 (F' := (0, [some (.ref 134), some (.int a1), some (.int a2), none], [], Wm pre post I A)) rfl ?_
  refine go_run 5 (F' := (5, [some (.ref 134), some (.int a1), some (.int a2), none], [.int (a2 + 1), .int a1, .ref 134], Wm pre post I A)) rfl ?_
  obtain ⟨I1, A1, v1, e1, hm⟩ := xb_inv hm
  refine go_call (m' := 202) (v := none) (h1 := Wm pre post I1 A1) rfl (by simp only [ie_step, ie_iv, List.drop, w_0 hp]; rfl) ⟨rfl, Nat.le_of_ble_eq_true rfl⟩ (g_work (d := d + 2) hp e1) ?_
  refine go_run 0 (F' := (8, [some (.ref 134), some (.int a1), some (.int a2), none], [], Wm pre post I1 A1)) rfl ?_
  refine go_run 3 (F' := (11, [some (.ref 134), some (.int a1), some (.int a2), none], [.ref 134, .int a1, .ref 134], Wm pre post I1 A1)) rfl ?_
  refine go_gf rfl (w_0 hp) rfl ?_
  refine go_run 0 (F' := (14, [some (.ref 134), some (.int a1), some (.int a2), none], [.int (I1 19), .int a1, .ref 134], Wm pre post I1 A1)) rfl ?_
  obtain ⟨I2, A2, v2, e2, hm⟩ := xb_inv hm
  refine go_call (m' := 200) (v := some (.int v2)) (h1 := Wm pre post I2 A2) rfl (by simp only [ie_step, ie_iv, List.drop, w_0 hp]; rfl) ⟨rfl, Nat.le_of_ble_eq_true rfl⟩ (g_closing (d := d + 3) hp e2) ?_
  refine go_run 0 (F' := (17, [some (.ref 134), some (.int a1), some (.int a2), none], [.int v2], Wm pre post I2 A2)) rfl ?_
  refine go_run 4 (F' := (21, [some (.ref 134), some (.int a1), some (.int a2), some (.int v2)], [.ref 134, .int a1, .ref 134], Wm pre post I2 A2)) rfl ?_
  refine go_gf rfl (w_0 hp) rfl ?_
  refine go_run 0 (F' := (24, [some (.ref 134), some (.int a1), some (.int a2), some (.int v2)], [.int (I2 20), .int a1, .ref 134], Wm pre post I2 A2)) rfl ?_
  refine go_step rfl rfl ?_
  by_cases q1 : I2 20 = 0
  · rw [if_pos q1] at hm ⊢
    refine go_run 0 (F' := (36, [some (.ref 134), some (.int a1), some (.int a2), some (.int v2)], [.int a1, .ref 134], Wm pre post I2 A2)) rfl ?_
    refine go_run 3 (F' := (39, [some (.ref 134), some (.int a1), some (.int a2), some (.int v2)], [.int (v2 + 2), .int a1, .ref 134], Wm pre post I2 A2)) rfl ?_
    obtain ⟨I3, A3, v3, e3, hm⟩ := xb_inv hm
    refine go_call (m' := 195) (v := none) (h1 := Wm pre post I3 A3) rfl (by simp only [ie_step, ie_iv, List.drop, w_0 hp]; rfl) ⟨rfl, Nat.le_of_ble_eq_true rfl⟩ (g_stand (d := d) hp e3) ?_
    refine go_run 0 (F' := (42, [some (.ref 134), some (.int a1), some (.int a2), some (.int v2)], [], Wm pre post I3 A3)) rfl ?_
    refine go_run 1 (F' := (43, [some (.ref 134), some (.int a1), some (.int a2), some (.int v2)], [.int 1], Wm pre post I3 A3)) rfl ?_
    cases hm
    exact go_end rfl rfl
  · rw [if_neg q1] at hm ⊢
    refine go_run 0 (F' := (27, [some (.ref 134), some (.int a1), some (.int a2), some (.int v2)], [.int a1, .ref 134], Wm pre post I2 A2)) rfl ?_
    refine go_run 1 (F' := (28, [some (.ref 134), some (.int a1), some (.int a2), some (.int v2)], [.ref 134, .int a1, .ref 134], Wm pre post I2 A2)) rfl ?_
    refine go_gf rfl (w_0 hp) rfl ?_
    refine go_run 3 (F' := (39, [some (.ref 134), some (.int a1), some (.int a2), some (.int v2)], [.int ((I2 19) + 1), .int a1, .ref 134], Wm pre post I2 A2)) rfl ?_
    obtain ⟨I4, A4, v4, e4, hm⟩ := xb_inv hm
    refine go_call (m' := 195) (v := none) (h1 := Wm pre post I4 A4) rfl (by simp only [ie_step, ie_iv, List.drop, w_0 hp]; rfl) ⟨rfl, Nat.le_of_ble_eq_true rfl⟩ (g_stand (d := d) hp e4) ?_
    refine go_run 0 (F' := (42, [some (.ref 134), some (.int a1), some (.int a2), some (.int v2)], [], Wm pre post I4 A4)) rfl ?_
    refine go_run 1 (F' := (43, [some (.ref 134), some (.int a1), some (.int a2), some (.int v2)], [.int 1], Wm pre post I4 A4)) rfl ?_
    cases hm
    exact go_end rfl rfl
def x_stepRound_98 (n : Nat) (I : Nat → Int32) (A : Nat → Nat → Int32) (l1 : Int32) : Option xR := (if ib l1 6 then (xb (x_charAt I A l1 ((A 37) (Int32.toNatClampNeg l1))) fun I1 A1 v1 => (if v1 = 123 then (if (A1 38) (Int32.toNatClampNeg l1) = 1 then (xb (x_stand n I1 A1 l1 (((A 37) (Int32.toNatClampNeg l1)) + 1)) fun I2 A2 v2 => (some (I2, A2, 1))) else (xb (x_closing n I1 A1 l1 ((A 37) (Int32.toNatClampNeg l1))) fun I3 A3 v3 => (xb (x_stand n I3 A3 l1 (v3 + 1)) fun I4 A4 v4 => (some (I4, A4, 1))))) else (some (I1, A1, 1)))) else none)
theorem g_stepRound_98 {X : ie_X} {d : Nat} {pre post : ie_H} (hp : pre.length = 134) {n : Nat} {I : Nat → Int32} {A : Nat → Nat → Int32} {l1 : Int32} {u2 u3 : Option Value} {I' : Nat → Int32} {A' : Nat → Nat → Int32} {r : Int32} (hm : x_stepRound_98 n I A l1 = some (I', A', r)) : Go X (d + 5) 205 (98, [some (.ref 134), some (.int l1), u2, u3], [], Wm pre post I A) (.inl (some (.int r))) (Wm pre post I' A') := by
  unfold x_stepRound_98 at hm
  refine go_run 0 (F' := (98, [some (.ref 134), some (.int l1), u2, u3], [], Wm pre post I A)) rfl ?_
  refine go_run 1 (F' := (99, [some (.ref 134), some (.int l1), u2, u3], [.ref 134], Wm pre post I A)) rfl ?_
  refine go_gf rfl (w_0 hp) rfl ?_
  refine go_run 1 (F' := (103, [some (.ref 134), some (.int l1), u2, u3], [.int l1, .ref 171], Wm pre post I A)) rfl ?_
  obtain ⟨b1, hm⟩ := gd hm
  refine go_iald rfl (by decide) (w_37 hp) b1 rfl ?_
  refine go_run 4 (F' := (108, [some (.ref 134), some (.int l1), u2, some (.int ((A 37) (Int32.toNatClampNeg l1)))], [.int ((A 37) (Int32.toNatClampNeg l1)), .int l1, .ref 134], Wm pre post I A)) rfl ?_
  obtain ⟨I1, A1, v1, e1, hm⟩ := xb_inv hm
  refine go_call (m' := 191) (v := some (.int v1)) (h1 := Wm pre post I1 A1) rfl (by simp only [ie_step, ie_iv, List.drop, w_0 hp]; rfl) ⟨rfl, Nat.le_of_ble_eq_true rfl⟩ (g_charAt (d := d + 4) hp e1) ?_
  refine go_run 0 (F' := (111, [some (.ref 134), some (.int l1), u2, some (.int ((A 37) (Int32.toNatClampNeg l1)))], [.int v1], Wm pre post I1 A1)) rfl ?_
  refine go_run 1 (F' := (113, [some (.ref 134), some (.int l1), u2, some (.int ((A 37) (Int32.toNatClampNeg l1)))], [.int 123, .int v1], Wm pre post I1 A1)) rfl ?_
  refine go_step rfl rfl ?_
  by_cases q2 : v1 = 123
  · rw [if_pos q2] at hm ⊢
    refine go_run 0 (F' := (116, [some (.ref 134), some (.int l1), u2, some (.int ((A 37) (Int32.toNatClampNeg l1)))], [], Wm pre post I1 A1)) rfl ?_
    refine go_run 3 (F' := (119, [some (.ref 134), some (.int l1), u2, some (.int ((A 37) (Int32.toNatClampNeg l1)))], [.ref 134, .int l1, .ref 134], Wm pre post I1 A1)) rfl ?_
    refine go_gf rfl (w_0 hp) rfl ?_
    refine go_run 1 (F' := (123, [some (.ref 134), some (.int l1), u2, some (.int ((A 37) (Int32.toNatClampNeg l1)))], [.int l1, .ref 172, .int l1, .ref 134], Wm pre post I1 A1)) rfl ?_
    refine go_iald rfl (by decide) (w_38 hp) b1 rfl ?_
    refine go_run 1 (F' := (125, [some (.ref 134), some (.int l1), u2, some (.int ((A 37) (Int32.toNatClampNeg l1)))], [.int 1, .int ((A1 38) (Int32.toNatClampNeg l1)), .int l1, .ref 134], Wm pre post I1 A1)) rfl ?_
    refine go_step rfl rfl ?_
    by_cases q3 : (A1 38) (Int32.toNatClampNeg l1) = 1
    · rw [if_pos q3] at hm ⊢
      refine go_run 0 (F' := (128, [some (.ref 134), some (.int l1), u2, some (.int ((A 37) (Int32.toNatClampNeg l1)))], [.int l1, .ref 134], Wm pre post I1 A1)) rfl ?_
      refine go_run 4 (F' := (142, [some (.ref 134), some (.int l1), u2, some (.int ((A 37) (Int32.toNatClampNeg l1)))], [.int (((A 37) (Int32.toNatClampNeg l1)) + 1), .int l1, .ref 134], Wm pre post I1 A1)) rfl ?_
      obtain ⟨I2, A2, v2, e2, hm⟩ := xb_inv hm
      refine go_call (m' := 195) (v := none) (h1 := Wm pre post I2 A2) rfl (by simp only [ie_step, ie_iv, List.drop, w_0 hp]; rfl) ⟨rfl, Nat.le_of_ble_eq_true rfl⟩ (g_stand (d := d) hp e2) ?_
      refine go_run 0 (F' := (145, [some (.ref 134), some (.int l1), u2, some (.int ((A 37) (Int32.toNatClampNeg l1)))], [], Wm pre post I2 A2)) rfl ?_
      refine go_run 1 (F' := (146, [some (.ref 134), some (.int l1), u2, some (.int ((A 37) (Int32.toNatClampNeg l1)))], [.int 1], Wm pre post I2 A2)) rfl ?_
      cases hm
      exact go_end rfl rfl
    · rw [if_neg q3] at hm ⊢
      refine go_run 0 (F' := (134, [some (.ref 134), some (.int l1), u2, some (.int ((A 37) (Int32.toNatClampNeg l1)))], [.int l1, .ref 134], Wm pre post I1 A1)) rfl ?_
      refine go_run 3 (F' := (137, [some (.ref 134), some (.int l1), u2, some (.int ((A 37) (Int32.toNatClampNeg l1)))], [.int ((A 37) (Int32.toNatClampNeg l1)), .int l1, .ref 134, .int l1, .ref 134], Wm pre post I1 A1)) rfl ?_
      obtain ⟨I3, A3, v3, e3, hm⟩ := xb_inv hm
      refine go_call (m' := 200) (v := some (.int v3)) (h1 := Wm pre post I3 A3) rfl (by simp only [ie_step, ie_iv, List.drop, w_0 hp]; rfl) ⟨rfl, Nat.le_of_ble_eq_true rfl⟩ (g_closing (d := d + 3) hp e3) ?_
      refine go_run 0 (F' := (140, [some (.ref 134), some (.int l1), u2, some (.int ((A 37) (Int32.toNatClampNeg l1)))], [.int v3, .int l1, .ref 134], Wm pre post I3 A3)) rfl ?_
      refine go_run 2 (F' := (142, [some (.ref 134), some (.int l1), u2, some (.int ((A 37) (Int32.toNatClampNeg l1)))], [.int (v3 + 1), .int l1, .ref 134], Wm pre post I3 A3)) rfl ?_
      obtain ⟨I4, A4, v4, e4, hm⟩ := xb_inv hm
      refine go_call (m' := 195) (v := none) (h1 := Wm pre post I4 A4) rfl (by simp only [ie_step, ie_iv, List.drop, w_0 hp]; rfl) ⟨rfl, Nat.le_of_ble_eq_true rfl⟩ (g_stand (d := d) hp e4) ?_
      refine go_run 0 (F' := (145, [some (.ref 134), some (.int l1), u2, some (.int ((A 37) (Int32.toNatClampNeg l1)))], [], Wm pre post I4 A4)) rfl ?_
      refine go_run 1 (F' := (146, [some (.ref 134), some (.int l1), u2, some (.int ((A 37) (Int32.toNatClampNeg l1)))], [.int 1], Wm pre post I4 A4)) rfl ?_
      cases hm
      exact go_end rfl rfl
  · rw [if_neg q2] at hm ⊢
    refine go_run 0 (F' := (145, [some (.ref 134), some (.int l1), u2, some (.int ((A 37) (Int32.toNatClampNeg l1)))], [], Wm pre post I1 A1)) rfl ?_
    refine go_run 1 (F' := (146, [some (.ref 134), some (.int l1), u2, some (.int ((A 37) (Int32.toNatClampNeg l1)))], [.int 1], Wm pre post I1 A1)) rfl ?_
    cases hm
    exact go_end rfl rfl
def x_stepRound (n : Nat) (I : Nat → Int32) (A : Nat → Nat → Int32) (a1 a2 : Int32) : Option xR := (if ib a1 6 then (if (A 37) (Int32.toNatClampNeg a1) = (-1) then (xb (x_work n I A a1 (a2 + 1)) fun I1 A1 v1 => (if I1 20 = 0 then (x_stepRound_98  n I1 (upA (upA A1 38 (upd (A1 38) (Int32.toNatClampNeg a1) 0)) 37 (upd (A1 37) (Int32.toNatClampNeg a1) (I1 19))) a1) else (x_stepRound_98  n I1 (upA (upA A1 38 (upd (A1 38) (Int32.toNatClampNeg a1) 1)) 37 (upd (A1 37) (Int32.toNatClampNeg a1) (I1 19))) a1))) else (xb (x_charAt I A a1 ((A 37) (Int32.toNatClampNeg a1))) fun I2 A2 v2 => (xb (x_isFull I2 A2 a1 (v2 - 65)) fun I3 A3 v3 => (if v3 = 0 then (xb (x_give I3 A3 a1 (v2 - 65) ((A3 38) (Int32.toNatClampNeg a1)) 1) fun I4 A4 v4 => (x_stepRound_98  n I4 (upA A4 37 (upd (A4 37) (Int32.toNatClampNeg a1) (((A4 37) (Int32.toNatClampNeg a1)) + 1))) a1)) else (some (I3, A3, 0)))))) else none)
theorem g_stepRound {X : ie_X} {d : Nat} {pre post : ie_H} (hp : pre.length = 134) {n : Nat} {I : Nat → Int32} {A : Nat → Nat → Int32} {a1 a2 : Int32} {I' : Nat → Int32} {A' : Nat → Nat → Int32} {r : Int32} (hm : x_stepRound n I A a1 a2 = some (I', A', r)) : Go X (d + 5) 205 (0, ie_en 205 [.ref 134, .int a1, .int a2], [], Wm pre post I A) (.inl (some (.int r))) (Wm pre post I' A') := by
  unfold x_stepRound at hm
  refine go_run 0 (F' := (0, [some (.ref 134), some (.int a1), some (.int a2), none], [], Wm pre post I A)) rfl ?_
  refine go_run 1 (F' := (1, [some (.ref 134), some (.int a1), some (.int a2), none], [.ref 134], Wm pre post I A)) rfl ?_
  refine go_gf rfl (w_0 hp) rfl ?_
  refine go_run 1 (F' := (5, [some (.ref 134), some (.int a1), some (.int a2), none], [.int a1, .ref 171], Wm pre post I A)) rfl ?_
  obtain ⟨b1, hm⟩ := gd hm
  refine go_iald rfl (by decide) (w_37 hp) b1 rfl ?_
  refine go_run 1 (F' := (7, [some (.ref 134), some (.int a1), some (.int a2), none], [.int (-1), .int ((A 37) (Int32.toNatClampNeg a1))], Wm pre post I A)) rfl ?_
  refine go_step rfl rfl ?_
  by_cases q2 : (A 37) (Int32.toNatClampNeg a1) = (-1)
  · rw [if_pos q2] at hm ⊢
    refine go_run 0 (F' := (10, [some (.ref 134), some (.int a1), some (.int a2), none], [], Wm pre post I A)) rfl ?_
    refine go_run 5 (F' := (15, [some (.ref 134), some (.int a1), some (.int a2), none], [.int (a2 + 1), .int a1, .ref 134], Wm pre post I A)) rfl ?_
    obtain ⟨I1, A1, v1, e1, hm⟩ := xb_inv hm
    refine go_call (m' := 202) (v := none) (h1 := Wm pre post I1 A1) rfl (by simp only [ie_step, ie_iv, List.drop, w_0 hp]; rfl) ⟨rfl, Nat.le_of_ble_eq_true rfl⟩ (g_work (d := d + 2) hp e1) ?_
    refine go_run 0 (F' := (18, [some (.ref 134), some (.int a1), some (.int a2), none], [], Wm pre post I1 A1)) rfl ?_
    refine go_run 1 (F' := (19, [some (.ref 134), some (.int a1), some (.int a2), none], [.ref 134], Wm pre post I1 A1)) rfl ?_
    refine go_gf rfl (w_0 hp) rfl ?_
    refine go_run 2 (F' := (24, [some (.ref 134), some (.int a1), some (.int a2), none], [.ref 134, .int a1, .ref 172], Wm pre post I1 A1)) rfl ?_
    refine go_gf rfl (w_0 hp) rfl ?_
    refine go_run 0 (F' := (27, [some (.ref 134), some (.int a1), some (.int a2), none], [.int (I1 20), .int a1, .ref 172], Wm pre post I1 A1)) rfl ?_
    refine go_step rfl rfl ?_
    by_cases q3 : I1 20 = 0
    · rw [if_pos q3] at hm ⊢
      refine go_run 0 (F' := (34, [some (.ref 134), some (.int a1), some (.int a2), none], [.int a1, .ref 172], Wm pre post I1 A1)) rfl ?_
      refine go_run 1 (F' := (35, [some (.ref 134), some (.int a1), some (.int a2), none], [.int 0, .int a1, .ref 172], Wm pre post I1 A1)) rfl ?_
      refine go_iast rfl (w_38 hp) b1 (ws_38 hp) ?_
      refine go_run 1 (F' := (37, [some (.ref 134), some (.int a1), some (.int a2), none], [.ref 134], Wm pre post I1 (upA A1 38 (upd (A1 38) (Int32.toNatClampNeg a1) 0)))) rfl ?_
      refine go_gf rfl (w_0 hp) rfl ?_
      refine go_run 2 (F' := (42, [some (.ref 134), some (.int a1), some (.int a2), none], [.ref 134, .int a1, .ref 171], Wm pre post I1 (upA A1 38 (upd (A1 38) (Int32.toNatClampNeg a1) 0)))) rfl ?_
      refine go_gf rfl (w_0 hp) rfl ?_
      refine go_run 0 (F' := (45, [some (.ref 134), some (.int a1), some (.int a2), none], [.int (I1 19), .int a1, .ref 171], Wm pre post I1 (upA A1 38 (upd (A1 38) (Int32.toNatClampNeg a1) 0)))) rfl ?_
      refine go_iast rfl (w_37 hp) b1 (ws_37 hp) ?_
      refine go_run 1 (F' := (98, [some (.ref 134), some (.int a1), some (.int a2), none], [], Wm pre post I1 (upA (upA A1 38 (upd (A1 38) (Int32.toNatClampNeg a1) 0)) 37 (upd (A1 37) (Int32.toNatClampNeg a1) (I1 19))))) rfl ?_
      exact g_stepRound_98 hp  hm
    · rw [if_neg q3] at hm ⊢
      refine go_run 0 (F' := (30, [some (.ref 134), some (.int a1), some (.int a2), none], [.int a1, .ref 172], Wm pre post I1 A1)) rfl ?_
      refine go_run 2 (F' := (35, [some (.ref 134), some (.int a1), some (.int a2), none], [.int 1, .int a1, .ref 172], Wm pre post I1 A1)) rfl ?_
      refine go_iast rfl (w_38 hp) b1 (ws_38 hp) ?_
      refine go_run 1 (F' := (37, [some (.ref 134), some (.int a1), some (.int a2), none], [.ref 134], Wm pre post I1 (upA A1 38 (upd (A1 38) (Int32.toNatClampNeg a1) 1)))) rfl ?_
      refine go_gf rfl (w_0 hp) rfl ?_
      refine go_run 2 (F' := (42, [some (.ref 134), some (.int a1), some (.int a2), none], [.ref 134, .int a1, .ref 171], Wm pre post I1 (upA A1 38 (upd (A1 38) (Int32.toNatClampNeg a1) 1)))) rfl ?_
      refine go_gf rfl (w_0 hp) rfl ?_
      refine go_run 0 (F' := (45, [some (.ref 134), some (.int a1), some (.int a2), none], [.int (I1 19), .int a1, .ref 171], Wm pre post I1 (upA A1 38 (upd (A1 38) (Int32.toNatClampNeg a1) 1)))) rfl ?_
      refine go_iast rfl (w_37 hp) b1 (ws_37 hp) ?_
      refine go_run 1 (F' := (98, [some (.ref 134), some (.int a1), some (.int a2), none], [], Wm pre post I1 (upA (upA A1 38 (upd (A1 38) (Int32.toNatClampNeg a1) 1)) 37 (upd (A1 37) (Int32.toNatClampNeg a1) (I1 19))))) rfl ?_
      exact g_stepRound_98 hp  hm
  · rw [if_neg q2] at hm ⊢
    refine go_run 0 (F' := (49, [some (.ref 134), some (.int a1), some (.int a2), none], [], Wm pre post I A)) rfl ?_
    refine go_run 3 (F' := (52, [some (.ref 134), some (.int a1), some (.int a2), none], [.ref 134, .int a1, .ref 134], Wm pre post I A)) rfl ?_
    refine go_gf rfl (w_0 hp) rfl ?_
    refine go_run 1 (F' := (56, [some (.ref 134), some (.int a1), some (.int a2), none], [.int a1, .ref 171, .int a1, .ref 134], Wm pre post I A)) rfl ?_
    refine go_iald rfl (by decide) (w_37 hp) b1 rfl ?_
    refine go_run 0 (F' := (57, [some (.ref 134), some (.int a1), some (.int a2), none], [.int ((A 37) (Int32.toNatClampNeg a1)), .int a1, .ref 134], Wm pre post I A)) rfl ?_
    obtain ⟨I2, A2, v2, e2, hm⟩ := xb_inv hm
    refine go_call (m' := 191) (v := some (.int v2)) (h1 := Wm pre post I2 A2) rfl (by simp only [ie_step, ie_iv, List.drop, w_0 hp]; rfl) ⟨rfl, Nat.le_of_ble_eq_true rfl⟩ (g_charAt (d := d + 4) hp e2) ?_
    refine go_run 0 (F' := (60, [some (.ref 134), some (.int a1), some (.int a2), none], [.int v2], Wm pre post I2 A2)) rfl ?_
    refine go_run 6 (F' := (67, [some (.ref 134), some (.int a1), some (.int a2), some (.int (v2 - 65))], [.int (v2 - 65), .int a1, .ref 134], Wm pre post I2 A2)) rfl ?_
    obtain ⟨I3, A3, v3, e3, hm⟩ := xb_inv hm
    refine go_call (m' := 193) (v := some (.int v3)) (h1 := Wm pre post I3 A3) rfl (by simp only [ie_step, ie_iv, List.drop, w_0 hp]; rfl) ⟨rfl, Nat.le_of_ble_eq_true rfl⟩ (g_isFull (d := d + 4) hp e3) ?_
    refine go_run 0 (F' := (70, [some (.ref 134), some (.int a1), some (.int a2), some (.int (v2 - 65))], [.int v3], Wm pre post I3 A3)) rfl ?_
    refine go_run 0 (F' := (70, [some (.ref 134), some (.int a1), some (.int a2), some (.int (v2 - 65))], [.int v3], Wm pre post I3 A3)) rfl ?_
    refine go_step rfl rfl ?_
    by_cases q4 : v3 = 0
    · rw [if_pos q4] at hm ⊢
      refine go_run 0 (F' := (75, [some (.ref 134), some (.int a1), some (.int a2), some (.int (v2 - 65))], [], Wm pre post I3 A3)) rfl ?_
      refine go_run 4 (F' := (79, [some (.ref 134), some (.int a1), some (.int a2), some (.int (v2 - 65))], [.ref 134, .int (v2 - 65), .int a1, .ref 134], Wm pre post I3 A3)) rfl ?_
      refine go_gf rfl (w_0 hp) rfl ?_
      refine go_run 1 (F' := (83, [some (.ref 134), some (.int a1), some (.int a2), some (.int (v2 - 65))], [.int a1, .ref 172, .int (v2 - 65), .int a1, .ref 134], Wm pre post I3 A3)) rfl ?_
      refine go_iald rfl (by decide) (w_38 hp) b1 rfl ?_
      refine go_run 1 (F' := (85, [some (.ref 134), some (.int a1), some (.int a2), some (.int (v2 - 65))], [.int 1, .int ((A3 38) (Int32.toNatClampNeg a1)), .int (v2 - 65), .int a1, .ref 134], Wm pre post I3 A3)) rfl ?_
      obtain ⟨I4, A4, v4, e4, hm⟩ := xb_inv hm
      refine go_call (m' := 194) (v := none) (h1 := Wm pre post I4 A4) rfl (by simp only [ie_step, ie_iv, List.drop, w_0 hp]; rfl) ⟨rfl, Nat.le_of_ble_eq_true rfl⟩ (g_give (d := d + 4) hp e4) ?_
      refine go_run 0 (F' := (88, [some (.ref 134), some (.int a1), some (.int a2), some (.int (v2 - 65))], [], Wm pre post I4 A4)) rfl ?_
      refine go_run 1 (F' := (89, [some (.ref 134), some (.int a1), some (.int a2), some (.int (v2 - 65))], [.ref 134], Wm pre post I4 A4)) rfl ?_
      refine go_gf rfl (w_0 hp) rfl ?_
      refine go_run 2 (F' := (94, [some (.ref 134), some (.int a1), some (.int a2), some (.int (v2 - 65))], [.int a1, .ref 171, .int a1, .ref 171], Wm pre post I4 A4)) rfl ?_
      refine go_iald rfl (by decide) (w_37 hp) b1 rfl ?_
      refine go_run 2 (F' := (97, [some (.ref 134), some (.int a1), some (.int a2), some (.int (v2 - 65))], [.int (((A4 37) (Int32.toNatClampNeg a1)) + 1), .int a1, .ref 171], Wm pre post I4 A4)) rfl ?_
      refine go_iast rfl (w_37 hp) b1 (ws_37 hp) ?_
      refine go_run 0 (F' := (98, [some (.ref 134), some (.int a1), some (.int a2), some (.int (v2 - 65))], [], Wm pre post I4 (upA A4 37 (upd (A4 37) (Int32.toNatClampNeg a1) (((A4 37) (Int32.toNatClampNeg a1)) + 1))))) rfl ?_
      exact g_stepRound_98 hp  hm
    · rw [if_neg q4] at hm ⊢
      refine go_run 0 (F' := (73, [some (.ref 134), some (.int a1), some (.int a2), some (.int (v2 - 65))], [], Wm pre post I3 A3)) rfl ?_
      refine go_run 1 (F' := (74, [some (.ref 134), some (.int a1), some (.int a2), some (.int (v2 - 65))], [.int 0], Wm pre post I3 A3)) rfl ?_
      cases hm
      exact go_end rfl rfl
def x_fetch_34 : Nat → (Nat → Int32) → (Nat → Nat → Int32) → Int32 → Int32 → Int32 → Option xR
  | 0, _, _, _, _, _ => none
  | n + 1, I, A, l3, l4, l5 => (if ib l3 36 then (if (8 * l3) + ((A 39) (Int32.toNatClampNeg l3)) ≤ l5 then (some (I, A, l4)) else (if ib (l5 + 1) 288 then (if ib l5 288 then (x_fetch_34 n I (upA (upA A 40 (upd (A 40) (Int32.toNatClampNeg l5) ((A 40) (Int32.toNatClampNeg (l5 + 1))))) 41 (upd (A 41) (Int32.toNatClampNeg l5) (vp_nar .boolean ((A 41) (Int32.toNatClampNeg (l5 + 1)))))) l3 l4 (l5 + 1)) else none) else none)) else none)
theorem g_fetch_34 {X : ie_X} {d : Nat} {pre post : ie_H} (hp : pre.length = 134) : ∀ (n : Nat) {I : Nat → Int32} {A : Nat → Nat → Int32} {l3 l4 l5 : Int32} {u1 u2 : Option Value} {I' : Nat → Int32} {A' : Nat → Nat → Int32} {r : Int32}, x_fetch_34 n I A l3 l4 l5 = some (I', A', r) → Go X (d + 0) 207 (34, [some (.ref 134), u1, u2, some (.int l3), some (.int l4), some (.int l5)], [], Wm pre post I A) (.inl (some (.int r))) (Wm pre post I' A') := by
  intro n
  induction n with
  | zero => intro I A l3 l4 l5 u1 u2 I' A' r hm; cases hm
  | succ n ih =>
    intro I A l3 l4 l5 u1 u2 I' A' r hm
    unfold x_fetch_34 at hm
    refine go_run 0 (F' := (34, [some (.ref 134), u1, u2, some (.int l3), some (.int l4), some (.int l5)], [], Wm pre post I A)) rfl ?_
    refine go_run 5 (F' := (41, [some (.ref 134), u1, u2, some (.int l3), some (.int l4), some (.int l5)], [.ref 134, .int (8 * l3), .int l5], Wm pre post I A)) rfl ?_
    refine go_gf rfl (w_0 hp) rfl ?_
    refine go_run 1 (F' := (45, [some (.ref 134), u1, u2, some (.int l3), some (.int l4), some (.int l5)], [.int l3, .ref 173, .int (8 * l3), .int l5], Wm pre post I A)) rfl ?_
    obtain ⟨b1, hm⟩ := gd hm
    refine go_iald rfl (by decide) (w_39 hp) b1 rfl ?_
    refine go_run 1 (F' := (47, [some (.ref 134), u1, u2, some (.int l3), some (.int l4), some (.int l5)], [.int ((8 * l3) + ((A 39) (Int32.toNatClampNeg l3))), .int l5], Wm pre post I A)) rfl ?_
    refine go_step rfl rfl ?_
    by_cases q2 : (8 * l3) + ((A 39) (Int32.toNatClampNeg l3)) ≤ l5
    · rw [if_pos q2] at hm ⊢
      refine go_run 0 (F' := (88, [some (.ref 134), u1, u2, some (.int l3), some (.int l4), some (.int l5)], [], Wm pre post I A)) rfl ?_
      refine go_run 1 (F' := (90, [some (.ref 134), u1, u2, some (.int l3), some (.int l4), some (.int l5)], [.int l4], Wm pre post I A)) rfl ?_
      cases hm
      exact go_end rfl rfl
    · rw [if_neg q2] at hm ⊢
      refine go_run 0 (F' := (50, [some (.ref 134), u1, u2, some (.int l3), some (.int l4), some (.int l5)], [], Wm pre post I A)) rfl ?_
      refine go_run 1 (F' := (51, [some (.ref 134), u1, u2, some (.int l3), some (.int l4), some (.int l5)], [.ref 134], Wm pre post I A)) rfl ?_
      refine go_gf rfl (w_0 hp) rfl ?_
      refine go_run 2 (F' := (57, [some (.ref 134), u1, u2, some (.int l3), some (.int l4), some (.int l5)], [.ref 134, .int l5, .ref 174], Wm pre post I A)) rfl ?_
      refine go_gf rfl (w_0 hp) rfl ?_
      refine go_run 3 (F' := (64, [some (.ref 134), u1, u2, some (.int l3), some (.int l4), some (.int l5)], [.int (l5 + 1), .ref 174, .int l5, .ref 174], Wm pre post I A)) rfl ?_
      obtain ⟨b3, hm⟩ := gd hm
      refine go_iald rfl (by decide) (w_40 hp) b3 rfl ?_
      refine go_run 0 (F' := (65, [some (.ref 134), u1, u2, some (.int l3), some (.int l4), some (.int l5)], [.int ((A 40) (Int32.toNatClampNeg (l5 + 1))), .int l5, .ref 174], Wm pre post I A)) rfl ?_
      obtain ⟨b4, hm⟩ := gd hm
      refine go_iast rfl (w_40 hp) b4 (ws_40 hp) ?_
      refine go_run 1 (F' := (67, [some (.ref 134), u1, u2, some (.int l3), some (.int l4), some (.int l5)], [.ref 134], Wm pre post I (upA A 40 (upd (A 40) (Int32.toNatClampNeg l5) ((A 40) (Int32.toNatClampNeg (l5 + 1))))))) rfl ?_
      refine go_gf rfl (w_0 hp) rfl ?_
      refine go_run 2 (F' := (73, [some (.ref 134), u1, u2, some (.int l3), some (.int l4), some (.int l5)], [.ref 134, .int l5, .ref 175], Wm pre post I (upA A 40 (upd (A 40) (Int32.toNatClampNeg l5) ((A 40) (Int32.toNatClampNeg (l5 + 1))))))) rfl ?_
      refine go_gf rfl (w_0 hp) rfl ?_
      refine go_run 3 (F' := (80, [some (.ref 134), u1, u2, some (.int l3), some (.int l4), some (.int l5)], [.int (l5 + 1), .ref 175, .int l5, .ref 175], Wm pre post I (upA A 40 (upd (A 40) (Int32.toNatClampNeg l5) ((A 40) (Int32.toNatClampNeg (l5 + 1))))))) rfl ?_
      refine go_bald rfl (by decide) (w_41 hp) b3 rfl ?_
      refine go_run 0 (F' := (81, [some (.ref 134), u1, u2, some (.int l3), some (.int l4), some (.int l5)], [.int ((A 41) (Int32.toNatClampNeg (l5 + 1))), .int l5, .ref 175], Wm pre post I (upA A 40 (upd (A 40) (Int32.toNatClampNeg l5) ((A 40) (Int32.toNatClampNeg (l5 + 1))))))) rfl ?_
      refine go_bast rfl (w_41 hp) b4 (ws_41 hp) ?_
      refine go_run 2 (F' := (34, [some (.ref 134), u1, u2, some (.int l3), some (.int l4), some (.int (l5 + 1))], [], Wm pre post I (upA (upA A 40 (upd (A 40) (Int32.toNatClampNeg l5) ((A 40) (Int32.toNatClampNeg (l5 + 1))))) 41 (upd (A 41) (Int32.toNatClampNeg l5) (vp_nar .boolean ((A 41) (Int32.toNatClampNeg (l5 + 1)))))))) rfl ?_
      exact ih hm
def x_fetch (n : Nat) (I : Nat → Int32) (A : Nat → Nat → Int32) (a1 a2 : Int32) : Option xR := (if ib (8 * ((6 * a1) + a2)) 288 then (if ib ((6 * a1) + a2) 36 then (x_fetch_34  n I (upA A 39 (upd (A 39) (Int32.toNatClampNeg ((6 * a1) + a2)) (((A 39) (Int32.toNatClampNeg ((6 * a1) + a2))) - 1))) ((6 * a1) + a2) ((A 40) (Int32.toNatClampNeg (8 * ((6 * a1) + a2)))) (8 * ((6 * a1) + a2))) else none) else none)
theorem g_fetch {X : ie_X} {d : Nat} {pre post : ie_H} (hp : pre.length = 134) {n : Nat} {I : Nat → Int32} {A : Nat → Nat → Int32} {a1 a2 : Int32} {I' : Nat → Int32} {A' : Nat → Nat → Int32} {r : Int32} (hm : x_fetch n I A a1 a2 = some (I', A', r)) : Go X (d + 0) 207 (0, ie_en 207 [.ref 134, .int a1, .int a2], [], Wm pre post I A) (.inl (some (.int r))) (Wm pre post I' A') := by
  unfold x_fetch at hm
  refine go_run 0 (F' := (0, [some (.ref 134), some (.int a1), some (.int a2), none, none, none], [], Wm pre post I A)) rfl ?_
  refine go_run 7 (F' := (8, [some (.ref 134), some (.int a1), some (.int a2), some (.int ((6 * a1) + a2)), none, none], [.ref 134], Wm pre post I A)) rfl ?_
  refine go_gf rfl (w_0 hp) rfl ?_
  refine go_run 3 (F' := (15, [some (.ref 134), some (.int a1), some (.int a2), some (.int ((6 * a1) + a2)), none, none], [.int (8 * ((6 * a1) + a2)), .ref 174], Wm pre post I A)) rfl ?_
  obtain ⟨b1, hm⟩ := gd hm
  refine go_iald rfl (by decide) (w_40 hp) b1 rfl ?_
  refine go_run 2 (F' := (19, [some (.ref 134), some (.int a1), some (.int a2), some (.int ((6 * a1) + a2)), some (.int ((A 40) (Int32.toNatClampNeg (8 * ((6 * a1) + a2))))), none], [.ref 134], Wm pre post I A)) rfl ?_
  refine go_gf rfl (w_0 hp) rfl ?_
  refine go_run 2 (F' := (24, [some (.ref 134), some (.int a1), some (.int a2), some (.int ((6 * a1) + a2)), some (.int ((A 40) (Int32.toNatClampNeg (8 * ((6 * a1) + a2))))), none], [.int ((6 * a1) + a2), .ref 173, .int ((6 * a1) + a2), .ref 173], Wm pre post I A)) rfl ?_
  obtain ⟨b2, hm⟩ := gd hm
  refine go_iald rfl (by decide) (w_39 hp) b2 rfl ?_
  refine go_run 2 (F' := (27, [some (.ref 134), some (.int a1), some (.int a2), some (.int ((6 * a1) + a2)), some (.int ((A 40) (Int32.toNatClampNeg (8 * ((6 * a1) + a2))))), none], [.int (((A 39) (Int32.toNatClampNeg ((6 * a1) + a2))) - 1), .int ((6 * a1) + a2), .ref 173], Wm pre post I A)) rfl ?_
  refine go_iast rfl (w_39 hp) b2 (ws_39 hp) ?_
  refine go_run 4 (F' := (34, [some (.ref 134), some (.int a1), some (.int a2), some (.int ((6 * a1) + a2)), some (.int ((A 40) (Int32.toNatClampNeg (8 * ((6 * a1) + a2))))), some (.int (8 * ((6 * a1) + a2)))], [], Wm pre post I (upA A 39 (upd (A 39) (Int32.toNatClampNeg ((6 * a1) + a2)) (((A 39) (Int32.toNatClampNeg ((6 * a1) + a2))) - 1))))) rfl ?_
  exact g_fetch_34 hp  n hm
def x_stepMessage_167 (n : Nat) (I : Nat → Int32) (A : Nat → Nat → Int32) (l1 l6 : Int32) : Option xR := (xb (x_isCase I A l1 l6) fun I1 A1 v1 => (if v1 = 0 then (xb (x_stand n I1 A1 l1 l6) fun I2 A2 v2 => (some (I2, A2, 1))) else (xb (x_stand n I1 A1 l1 (l6 + 2)) fun I3 A3 v3 => (some (I3, A3, 1)))))
theorem g_stepMessage_167 {X : ie_X} {d : Nat} {pre post : ie_H} (hp : pre.length = 134) {n : Nat} {I : Nat → Int32} {A : Nat → Nat → Int32} {l1 l6 : Int32} {u2 u3 u4 u5 : Option Value} {I' : Nat → Int32} {A' : Nat → Nat → Int32} {r : Int32} (hm : x_stepMessage_167 n I A l1 l6 = some (I', A', r)) : Go X (d + 5) 206 (167, [some (.ref 134), some (.int l1), u2, u3, u4, u5, some (.int l6)], [], Wm pre post I A) (.inl (some (.int r))) (Wm pre post I' A') := by
  unfold x_stepMessage_167 at hm
  refine go_run 0 (F' := (167, [some (.ref 134), some (.int l1), u2, u3, u4, u5, some (.int l6)], [], Wm pre post I A)) rfl ?_
  refine go_run 5 (F' := (173, [some (.ref 134), some (.int l1), u2, u3, u4, u5, some (.int l6)], [.int l6, .int l1, .ref 134, .int l1, .ref 134], Wm pre post I A)) rfl ?_
  obtain ⟨I1, A1, v1, e1, hm⟩ := xb_inv hm
  refine go_call (m' := 199) (v := some (.int v1)) (h1 := Wm pre post I1 A1) rfl (by simp only [ie_step, ie_iv, List.drop, w_0 hp]; rfl) ⟨rfl, Nat.le_of_ble_eq_true rfl⟩ (g_isCase (d := d + 3) hp e1) ?_
  refine go_run 0 (F' := (176, [some (.ref 134), some (.int l1), u2, u3, u4, u5, some (.int l6)], [.int v1, .int l1, .ref 134], Wm pre post I1 A1)) rfl ?_
  refine go_run 0 (F' := (176, [some (.ref 134), some (.int l1), u2, u3, u4, u5, some (.int l6)], [.int v1, .int l1, .ref 134], Wm pre post I1 A1)) rfl ?_
  refine go_step rfl rfl ?_
  by_cases q1 : v1 = 0
  · rw [if_pos q1] at hm ⊢
    refine go_run 0 (F' := (186, [some (.ref 134), some (.int l1), u2, u3, u4, u5, some (.int l6)], [.int l1, .ref 134], Wm pre post I1 A1)) rfl ?_
    refine go_run 1 (F' := (188, [some (.ref 134), some (.int l1), u2, u3, u4, u5, some (.int l6)], [.int l6, .int l1, .ref 134], Wm pre post I1 A1)) rfl ?_
    obtain ⟨I2, A2, v2, e2, hm⟩ := xb_inv hm
    refine go_call (m' := 195) (v := none) (h1 := Wm pre post I2 A2) rfl (by simp only [ie_step, ie_iv, List.drop, w_0 hp]; rfl) ⟨rfl, Nat.le_of_ble_eq_true rfl⟩ (g_stand (d := d) hp e2) ?_
    refine go_run 0 (F' := (191, [some (.ref 134), some (.int l1), u2, u3, u4, u5, some (.int l6)], [], Wm pre post I2 A2)) rfl ?_
    refine go_run 1 (F' := (192, [some (.ref 134), some (.int l1), u2, u3, u4, u5, some (.int l6)], [.int 1], Wm pre post I2 A2)) rfl ?_
    cases hm
    exact go_end rfl rfl
  · rw [if_neg q1] at hm ⊢
    refine go_run 0 (F' := (179, [some (.ref 134), some (.int l1), u2, u3, u4, u5, some (.int l6)], [.int l1, .ref 134], Wm pre post I1 A1)) rfl ?_
    refine go_run 4 (F' := (188, [some (.ref 134), some (.int l1), u2, u3, u4, u5, some (.int l6)], [.int (l6 + 2), .int l1, .ref 134], Wm pre post I1 A1)) rfl ?_
    obtain ⟨I3, A3, v3, e3, hm⟩ := xb_inv hm
    refine go_call (m' := 195) (v := none) (h1 := Wm pre post I3 A3) rfl (by simp only [ie_step, ie_iv, List.drop, w_0 hp]; rfl) ⟨rfl, Nat.le_of_ble_eq_true rfl⟩ (g_stand (d := d) hp e3) ?_
    refine go_run 0 (F' := (191, [some (.ref 134), some (.int l1), u2, u3, u4, u5, some (.int l6)], [], Wm pre post I3 A3)) rfl ?_
    refine go_run 1 (F' := (192, [some (.ref 134), some (.int l1), u2, u3, u4, u5, some (.int l6)], [.int 1], Wm pre post I3 A3)) rfl ?_
    cases hm
    exact go_end rfl rfl
def x_stepMessage_126 : Nat → (Nat → Int32) → (Nat → Nat → Int32) → Int32 → Int32 → Int32 → Option xR
  | 0, _, _, _, _, _ => none
  | n + 1, I, A, l1, l4, l6 => (xb (x_isCase I A l1 l6) fun I1 A1 v1 => (if v1 = 0 then (x_stepMessage_167  n I1 A1 l1 l6) else (xb (x_charAt I1 A1 l1 l6) fun I2 A2 v2 => (if v2 - 48 = l4 then (x_stepMessage_167  n I2 A2 l1 l6) else (xb (x_closing n I2 A2 l1 (l6 + 1)) fun I3 A3 v3 => (x_stepMessage_126 n I3 A3 l1 l4 (v3 + 1)))))))
theorem g_stepMessage_126 {X : ie_X} {d : Nat} {pre post : ie_H} (hp : pre.length = 134) : ∀ (n : Nat) {I : Nat → Int32} {A : Nat → Nat → Int32} {l1 l4 l6 : Int32} {u2 u3 u5 : Option Value} {I' : Nat → Int32} {A' : Nat → Nat → Int32} {r : Int32}, x_stepMessage_126 n I A l1 l4 l6 = some (I', A', r) → Go X (d + 5) 206 (126, [some (.ref 134), some (.int l1), u2, u3, some (.int l4), u5, some (.int l6)], [], Wm pre post I A) (.inl (some (.int r))) (Wm pre post I' A') := by
  intro n
  induction n with
  | zero => intro I A l1 l4 l6 u2 u3 u5 I' A' r hm; cases hm
  | succ n ih =>
    intro I A l1 l4 l6 u2 u3 u5 I' A' r hm
    unfold x_stepMessage_126 at hm
    refine go_run 0 (F' := (126, [some (.ref 134), some (.int l1), u2, u3, some (.int l4), u5, some (.int l6)], [], Wm pre post I A)) rfl ?_
    refine go_run 3 (F' := (130, [some (.ref 134), some (.int l1), u2, u3, some (.int l4), u5, some (.int l6)], [.int l6, .int l1, .ref 134], Wm pre post I A)) rfl ?_
    obtain ⟨I1, A1, v1, e1, hm⟩ := xb_inv hm
    refine go_call (m' := 199) (v := some (.int v1)) (h1 := Wm pre post I1 A1) rfl (by simp only [ie_step, ie_iv, List.drop, w_0 hp]; rfl) ⟨rfl, Nat.le_of_ble_eq_true rfl⟩ (g_isCase (d := d + 3) hp e1) ?_
    refine go_run 0 (F' := (133, [some (.ref 134), some (.int l1), u2, u3, some (.int l4), u5, some (.int l6)], [.int v1], Wm pre post I1 A1)) rfl ?_
    refine go_run 0 (F' := (133, [some (.ref 134), some (.int l1), u2, u3, some (.int l4), u5, some (.int l6)], [.int v1], Wm pre post I1 A1)) rfl ?_
    refine go_step rfl rfl ?_
    by_cases q1 : v1 = 0
    · rw [if_pos q1] at hm ⊢
      refine go_run 0 (F' := (167, [some (.ref 134), some (.int l1), u2, u3, some (.int l4), u5, some (.int l6)], [], Wm pre post I1 A1)) rfl ?_
      refine go_run 0 (F' := (167, [some (.ref 134), some (.int l1), u2, u3, some (.int l4), u5, some (.int l6)], [], Wm pre post I1 A1)) rfl ?_
      exact g_stepMessage_167 hp  hm
    · rw [if_neg q1] at hm ⊢
      refine go_run 0 (F' := (136, [some (.ref 134), some (.int l1), u2, u3, some (.int l4), u5, some (.int l6)], [], Wm pre post I1 A1)) rfl ?_
      refine go_run 3 (F' := (140, [some (.ref 134), some (.int l1), u2, u3, some (.int l4), u5, some (.int l6)], [.int l6, .int l1, .ref 134], Wm pre post I1 A1)) rfl ?_
      obtain ⟨I2, A2, v2, e2, hm⟩ := xb_inv hm
      refine go_call (m' := 191) (v := some (.int v2)) (h1 := Wm pre post I2 A2) rfl (by simp only [ie_step, ie_iv, List.drop, w_0 hp]; rfl) ⟨rfl, Nat.le_of_ble_eq_true rfl⟩ (g_charAt (d := d + 4) hp e2) ?_
      refine go_run 0 (F' := (143, [some (.ref 134), some (.int l1), u2, u3, some (.int l4), u5, some (.int l6)], [.int v2], Wm pre post I2 A2)) rfl ?_
      refine go_run 3 (F' := (148, [some (.ref 134), some (.int l1), u2, u3, some (.int l4), u5, some (.int l6)], [.int l4, .int (v2 - 48)], Wm pre post I2 A2)) rfl ?_
      refine go_step rfl rfl ?_
      by_cases q2 : v2 - 48 = l4
      · rw [if_pos q2] at hm ⊢
        refine go_run 0 (F' := (167, [some (.ref 134), some (.int l1), u2, u3, some (.int l4), u5, some (.int l6)], [], Wm pre post I2 A2)) rfl ?_
        refine go_run 0 (F' := (167, [some (.ref 134), some (.int l1), u2, u3, some (.int l4), u5, some (.int l6)], [], Wm pre post I2 A2)) rfl ?_
        exact g_stepMessage_167 hp  hm
      · rw [if_neg q2] at hm ⊢
        refine go_run 0 (F' := (151, [some (.ref 134), some (.int l1), u2, u3, some (.int l4), u5, some (.int l6)], [], Wm pre post I2 A2)) rfl ?_
        refine go_run 5 (F' := (157, [some (.ref 134), some (.int l1), u2, u3, some (.int l4), u5, some (.int l6)], [.int (l6 + 1), .int l1, .ref 134], Wm pre post I2 A2)) rfl ?_
        obtain ⟨I3, A3, v3, e3, hm⟩ := xb_inv hm
        refine go_call (m' := 200) (v := some (.int v3)) (h1 := Wm pre post I3 A3) rfl (by simp only [ie_step, ie_iv, List.drop, w_0 hp]; rfl) ⟨rfl, Nat.le_of_ble_eq_true rfl⟩ (g_closing (d := d + 3) hp e3) ?_
        refine go_run 0 (F' := (160, [some (.ref 134), some (.int l1), u2, u3, some (.int l4), u5, some (.int l6)], [.int v3], Wm pre post I3 A3)) rfl ?_
        refine go_run 4 (F' := (126, [some (.ref 134), some (.int l1), u2, u3, some (.int l4), u5, some (.int (v3 + 1))], [], Wm pre post I3 A3)) rfl ?_
        exact ih hm
def x_stepMessage (n : Nat) (I : Nat → Int32) (A : Nat → Nat → Int32) (a1 a2 : Int32) : Option xR := (xb (x_charAt I A a1 a2) fun I1 A1 v1 => (if ib ((6 * (v1 - 65)) + a1) 36 then (if (A1 39) (Int32.toNatClampNeg ((6 * (v1 - 65)) + a1)) = 0 then (some (I1, A1, 0)) else (xb (x_fetch n I1 A1 (v1 - 65) a1) fun I2 A2 v2 => (xb (x_charAt I2 A2 a1 (a2 + 1)) fun I3 A3 v3 => (if v3 = 62 then (xb (x_charAt I3 A3 a1 (a2 + 2)) fun I4 A4 v4 => (if ib (((4 * a1) + v4) - 119) 24 then (xb (x_stand n I4 (upA A4 34 (upd (A4 34) (Int32.toNatClampNeg (((4 * a1) + v4) - 119)) v2)) a1 (a2 + 4)) fun I5 A5 v5 => (some (I5, A5, 1))) else none)) else (if v3 = 64 then (if v2 = 1 then (xb (x_stand n I3 A3 a1 (a2 + 3)) fun I6 A6 v6 => (some (I6, A6, 1))) else (xb (x_closing n I3 A3 a1 (a2 + 2)) fun I7 A7 v7 => (xb (x_stand n I7 A7 a1 (v7 + 1)) fun I8 A8 v8 => (some (I8, A8, 1))))) else (x_stepMessage_126  n I3 A3 a1 v2 (a2 + 1))))))) else none))
theorem g_stepMessage {X : ie_X} {d : Nat} {pre post : ie_H} (hp : pre.length = 134) {n : Nat} {I : Nat → Int32} {A : Nat → Nat → Int32} {a1 a2 : Int32} {I' : Nat → Int32} {A' : Nat → Nat → Int32} {r : Int32} (hm : x_stepMessage n I A a1 a2 = some (I', A', r)) : Go X (d + 5) 206 (0, ie_en 206 [.ref 134, .int a1, .int a2], [], Wm pre post I A) (.inl (some (.int r))) (Wm pre post I' A') := by
  unfold x_stepMessage at hm
  refine go_run 0 (F' := (0, [some (.ref 134), some (.int a1), some (.int a2), none, none, none, none], [], Wm pre post I A)) rfl ?_
  refine go_run 3 (F' := (3, [some (.ref 134), some (.int a1), some (.int a2), none, none, none, none], [.int a2, .int a1, .ref 134], Wm pre post I A)) rfl ?_
  obtain ⟨I1, A1, v1, e1, hm⟩ := xb_inv hm
  refine go_call (m' := 191) (v := some (.int v1)) (h1 := Wm pre post I1 A1) rfl (by simp only [ie_step, ie_iv, List.drop, w_0 hp]; rfl) ⟨rfl, Nat.le_of_ble_eq_true rfl⟩ (g_charAt (d := d + 4) hp e1) ?_
  refine go_run 0 (F' := (6, [some (.ref 134), some (.int a1), some (.int a2), none, none, none, none], [.int v1], Wm pre post I1 A1)) rfl ?_
  refine go_run 4 (F' := (11, [some (.ref 134), some (.int a1), some (.int a2), some (.int (v1 - 65)), none, none, none], [.ref 134], Wm pre post I1 A1)) rfl ?_
  refine go_gf rfl (w_0 hp) rfl ?_
  refine go_run 5 (F' := (20, [some (.ref 134), some (.int a1), some (.int a2), some (.int (v1 - 65)), none, none, none], [.int ((6 * (v1 - 65)) + a1), .ref 173], Wm pre post I1 A1)) rfl ?_
  obtain ⟨b1, hm⟩ := gd hm
  refine go_iald rfl (by decide) (w_39 hp) b1 rfl ?_
  refine go_run 0 (F' := (21, [some (.ref 134), some (.int a1), some (.int a2), some (.int (v1 - 65)), none, none, none], [.int ((A1 39) (Int32.toNatClampNeg ((6 * (v1 - 65)) + a1)))], Wm pre post I1 A1)) rfl ?_
  refine go_step rfl rfl ?_
  by_cases q2 : (A1 39) (Int32.toNatClampNeg ((6 * (v1 - 65)) + a1)) = 0
  · rw [if_pos q2] at hm ⊢
    refine go_run 0 (F' := (24, [some (.ref 134), some (.int a1), some (.int a2), some (.int (v1 - 65)), none, none, none], [], Wm pre post I1 A1)) rfl ?_
    refine go_run 1 (F' := (25, [some (.ref 134), some (.int a1), some (.int a2), some (.int (v1 - 65)), none, none, none], [.int 0], Wm pre post I1 A1)) rfl ?_
    cases hm
    exact go_end rfl rfl
  · rw [if_neg q2] at hm ⊢
    refine go_run 0 (F' := (26, [some (.ref 134), some (.int a1), some (.int a2), some (.int (v1 - 65)), none, none, none], [], Wm pre post I1 A1)) rfl ?_
    refine go_run 3 (F' := (29, [some (.ref 134), some (.int a1), some (.int a2), some (.int (v1 - 65)), none, none, none], [.int a1, .int (v1 - 65), .ref 134], Wm pre post I1 A1)) rfl ?_
    obtain ⟨I2, A2, v2, e2, hm⟩ := xb_inv hm
    refine go_call (m' := 207) (v := some (.int v2)) (h1 := Wm pre post I2 A2) rfl (by simp only [ie_step, ie_iv, List.drop, w_0 hp]; rfl) ⟨rfl, Nat.le_of_ble_eq_true rfl⟩ (g_fetch (d := d + 4) hp e2) ?_
    refine go_run 0 (F' := (32, [some (.ref 134), some (.int a1), some (.int a2), some (.int (v1 - 65)), none, none, none], [.int v2], Wm pre post I2 A2)) rfl ?_
    refine go_run 6 (F' := (39, [some (.ref 134), some (.int a1), some (.int a2), some (.int (v1 - 65)), some (.int v2), none, none], [.int (a2 + 1), .int a1, .ref 134], Wm pre post I2 A2)) rfl ?_
    obtain ⟨I3, A3, v3, e3, hm⟩ := xb_inv hm
    refine go_call (m' := 191) (v := some (.int v3)) (h1 := Wm pre post I3 A3) rfl (by simp only [ie_step, ie_iv, List.drop, w_0 hp]; rfl) ⟨rfl, Nat.le_of_ble_eq_true rfl⟩ (g_charAt (d := d + 4) hp e3) ?_
    refine go_run 0 (F' := (42, [some (.ref 134), some (.int a1), some (.int a2), some (.int (v1 - 65)), some (.int v2), none, none], [.int v3], Wm pre post I3 A3)) rfl ?_
    refine go_run 3 (F' := (48, [some (.ref 134), some (.int a1), some (.int a2), some (.int (v1 - 65)), some (.int v2), some (.int v3), none], [.int 62, .int v3], Wm pre post I3 A3)) rfl ?_
    refine go_step rfl rfl ?_
    by_cases q3 : v3 = 62
    · rw [if_pos q3] at hm ⊢
      refine go_run 0 (F' := (51, [some (.ref 134), some (.int a1), some (.int a2), some (.int (v1 - 65)), some (.int v2), some (.int v3), none], [], Wm pre post I3 A3)) rfl ?_
      refine go_run 1 (F' := (52, [some (.ref 134), some (.int a1), some (.int a2), some (.int (v1 - 65)), some (.int v2), some (.int v3), none], [.ref 134], Wm pre post I3 A3)) rfl ?_
      refine go_gf rfl (w_0 hp) rfl ?_
      refine go_run 8 (F' := (63, [some (.ref 134), some (.int a1), some (.int a2), some (.int (v1 - 65)), some (.int v2), some (.int v3), none], [.int (a2 + 2), .int a1, .ref 134, .int (4 * a1), .ref 168], Wm pre post I3 A3)) rfl ?_
      obtain ⟨I4, A4, v4, e4, hm⟩ := xb_inv hm
      refine go_call (m' := 191) (v := some (.int v4)) (h1 := Wm pre post I4 A4) rfl (by simp only [ie_step, ie_iv, List.drop, w_0 hp]; rfl) ⟨rfl, Nat.le_of_ble_eq_true rfl⟩ (g_charAt (d := d + 4) hp e4) ?_
      refine go_run 0 (F' := (66, [some (.ref 134), some (.int a1), some (.int a2), some (.int (v1 - 65)), some (.int v2), some (.int v3), none], [.int v4, .int (4 * a1), .ref 168], Wm pre post I4 A4)) rfl ?_
      refine go_run 4 (F' := (72, [some (.ref 134), some (.int a1), some (.int a2), some (.int (v1 - 65)), some (.int v2), some (.int v3), none], [.int v2, .int (((4 * a1) + v4) - 119), .ref 168], Wm pre post I4 A4)) rfl ?_
      obtain ⟨b4, hm⟩ := gd hm
      refine go_iast rfl (w_34 hp) b4 (ws_34 hp) ?_
      refine go_run 5 (F' := (78, [some (.ref 134), some (.int a1), some (.int a2), some (.int (v1 - 65)), some (.int v2), some (.int v3), none], [.int (a2 + 4), .int a1, .ref 134], Wm pre post I4 (upA A4 34 (upd (A4 34) (Int32.toNatClampNeg (((4 * a1) + v4) - 119)) v2)))) rfl ?_
      obtain ⟨I5, A5, v5, e5, hm⟩ := xb_inv hm
      refine go_call (m' := 195) (v := none) (h1 := Wm pre post I5 A5) rfl (by simp only [ie_step, ie_iv, List.drop, w_0 hp]; rfl) ⟨rfl, Nat.le_of_ble_eq_true rfl⟩ (g_stand (d := d) hp e5) ?_
      refine go_run 0 (F' := (81, [some (.ref 134), some (.int a1), some (.int a2), some (.int (v1 - 65)), some (.int v2), some (.int v3), none], [], Wm pre post I5 A5)) rfl ?_
      refine go_run 2 (F' := (192, [some (.ref 134), some (.int a1), some (.int a2), some (.int (v1 - 65)), some (.int v2), some (.int v3), none], [.int 1], Wm pre post I5 A5)) rfl ?_
      cases hm
      exact go_end rfl rfl
    · rw [if_neg q3] at hm ⊢
      refine go_run 0 (F' := (84, [some (.ref 134), some (.int a1), some (.int a2), some (.int (v1 - 65)), some (.int v2), some (.int v3), none], [], Wm pre post I3 A3)) rfl ?_
      refine go_run 2 (F' := (88, [some (.ref 134), some (.int a1), some (.int a2), some (.int (v1 - 65)), some (.int v2), some (.int v3), none], [.int 64, .int v3], Wm pre post I3 A3)) rfl ?_
      refine go_step rfl rfl ?_
      by_cases q5 : v3 = 64
      · rw [if_pos q5] at hm ⊢
        refine go_run 0 (F' := (91, [some (.ref 134), some (.int a1), some (.int a2), some (.int (v1 - 65)), some (.int v2), some (.int v3), none], [], Wm pre post I3 A3)) rfl ?_
        refine go_run 4 (F' := (96, [some (.ref 134), some (.int a1), some (.int a2), some (.int (v1 - 65)), some (.int v2), some (.int v3), none], [.int 1, .int v2, .int a1, .ref 134], Wm pre post I3 A3)) rfl ?_
        refine go_step rfl rfl ?_
        by_cases q6 : v2 = 1
        · rw [if_pos q6] at hm ⊢
          refine go_run 0 (F' := (99, [some (.ref 134), some (.int a1), some (.int a2), some (.int (v1 - 65)), some (.int v2), some (.int v3), none], [.int a1, .ref 134], Wm pre post I3 A3)) rfl ?_
          refine go_run 4 (F' := (115, [some (.ref 134), some (.int a1), some (.int a2), some (.int (v1 - 65)), some (.int v2), some (.int v3), none], [.int (a2 + 3), .int a1, .ref 134], Wm pre post I3 A3)) rfl ?_
          obtain ⟨I6, A6, v6, e6, hm⟩ := xb_inv hm
          refine go_call (m' := 195) (v := none) (h1 := Wm pre post I6 A6) rfl (by simp only [ie_step, ie_iv, List.drop, w_0 hp]; rfl) ⟨rfl, Nat.le_of_ble_eq_true rfl⟩ (g_stand (d := d) hp e6) ?_
          refine go_run 0 (F' := (118, [some (.ref 134), some (.int a1), some (.int a2), some (.int (v1 - 65)), some (.int v2), some (.int v3), none], [], Wm pre post I6 A6)) rfl ?_
          refine go_run 2 (F' := (192, [some (.ref 134), some (.int a1), some (.int a2), some (.int (v1 - 65)), some (.int v2), some (.int v3), none], [.int 1], Wm pre post I6 A6)) rfl ?_
          cases hm
          exact go_end rfl rfl
        · rw [if_neg q6] at hm ⊢
          refine go_run 0 (F' := (105, [some (.ref 134), some (.int a1), some (.int a2), some (.int (v1 - 65)), some (.int v2), some (.int v3), none], [.int a1, .ref 134], Wm pre post I3 A3)) rfl ?_
          refine go_run 5 (F' := (110, [some (.ref 134), some (.int a1), some (.int a2), some (.int (v1 - 65)), some (.int v2), some (.int v3), none], [.int (a2 + 2), .int a1, .ref 134, .int a1, .ref 134], Wm pre post I3 A3)) rfl ?_
          obtain ⟨I7, A7, v7, e7, hm⟩ := xb_inv hm
          refine go_call (m' := 200) (v := some (.int v7)) (h1 := Wm pre post I7 A7) rfl (by simp only [ie_step, ie_iv, List.drop, w_0 hp]; rfl) ⟨rfl, Nat.le_of_ble_eq_true rfl⟩ (g_closing (d := d + 3) hp e7) ?_
          refine go_run 0 (F' := (113, [some (.ref 134), some (.int a1), some (.int a2), some (.int (v1 - 65)), some (.int v2), some (.int v3), none], [.int v7, .int a1, .ref 134], Wm pre post I7 A7)) rfl ?_
          refine go_run 2 (F' := (115, [some (.ref 134), some (.int a1), some (.int a2), some (.int (v1 - 65)), some (.int v2), some (.int v3), none], [.int (v7 + 1), .int a1, .ref 134], Wm pre post I7 A7)) rfl ?_
          obtain ⟨I8, A8, v8, e8, hm⟩ := xb_inv hm
          refine go_call (m' := 195) (v := none) (h1 := Wm pre post I8 A8) rfl (by simp only [ie_step, ie_iv, List.drop, w_0 hp]; rfl) ⟨rfl, Nat.le_of_ble_eq_true rfl⟩ (g_stand (d := d) hp e8) ?_
          refine go_run 0 (F' := (118, [some (.ref 134), some (.int a1), some (.int a2), some (.int (v1 - 65)), some (.int v2), some (.int v3), none], [], Wm pre post I8 A8)) rfl ?_
          refine go_run 2 (F' := (192, [some (.ref 134), some (.int a1), some (.int a2), some (.int (v1 - 65)), some (.int v2), some (.int v3), none], [.int 1], Wm pre post I8 A8)) rfl ?_
          cases hm
          exact go_end rfl rfl
      · rw [if_neg q5] at hm ⊢
        refine go_run 0 (F' := (121, [some (.ref 134), some (.int a1), some (.int a2), some (.int (v1 - 65)), some (.int v2), some (.int v3), none], [], Wm pre post I3 A3)) rfl ?_
        refine go_run 4 (F' := (126, [some (.ref 134), some (.int a1), some (.int a2), some (.int (v1 - 65)), some (.int v2), some (.int v3), some (.int (a2 + 1))], [], Wm pre post I3 A3)) rfl ?_
        exact g_stepMessage_126 hp  n hm
def x_stepValue (n : Nat) (I : Nat → Int32) (A : Nat → Nat → Int32) (a1 a2 : Int32) : Option xR := (xb (x_charAt I A a1 (a2 + 1)) fun I1 A1 v1 => (if v1 = 58 then (xb (x_work n I1 A1 a1 (a2 + 2)) fun I2 A2 v2 => (xb (x_charAt I2 A2 a1 a2) fun I3 A3 v3 => (if ib (((4 * a1) + v3) - 119) 24 then (xb (x_stand n I3 (upA A3 34 (upd (A3 34) (Int32.toNatClampNeg (((4 * a1) + v3) - 119)) (I3 20))) a1 ((I3 19) + 1)) fun I4 A4 v4 => (some (I4, A4, 1))) else none))) else (xb (x_work n I1 A1 a1 a2) fun I5 A5 v5 => (xb (x_charAt I5 A5 a1 ((I5 19) + 1)) fun I6 A6 v6 => (xb (x_isFull I6 A6 a1 (v6 - 65)) fun I7 A7 v7 => (if v7 = 0 then (xb (x_give I7 A7 a1 (v6 - 65) (I7 20) 0) fun I8 A8 v8 => (xb (x_stand n I8 A8 a1 ((I8 19) + 3)) fun I9 A9 v9 => (some (I9, A9, 1)))) else (some (I7, A7, 0))))))))
theorem g_stepValue {X : ie_X} {d : Nat} {pre post : ie_H} (hp : pre.length = 134) {n : Nat} {I : Nat → Int32} {A : Nat → Nat → Int32} {a1 a2 : Int32} {I' : Nat → Int32} {A' : Nat → Nat → Int32} {r : Int32} (hm : x_stepValue n I A a1 a2 = some (I', A', r)) : Go X (d + 5) 208 (0, ie_en 208 [.ref 134, .int a1, .int a2], [], Wm pre post I A) (.inl (some (.int r))) (Wm pre post I' A') := by
  unfold x_stepValue at hm
  refine go_run 0 (F' := (0, [some (.ref 134), some (.int a1), some (.int a2), none], [], Wm pre post I A)) rfl ?_
  refine go_run 5 (F' := (5, [some (.ref 134), some (.int a1), some (.int a2), none], [.int (a2 + 1), .int a1, .ref 134], Wm pre post I A)) rfl ?_
  obtain ⟨I1, A1, v1, e1, hm⟩ := xb_inv hm
  refine go_call (m' := 191) (v := some (.int v1)) (h1 := Wm pre post I1 A1) rfl (by simp only [ie_step, ie_iv, List.drop, w_0 hp]; rfl) ⟨rfl, Nat.le_of_ble_eq_true rfl⟩ (g_charAt (d := d + 4) hp e1) ?_
  refine go_run 0 (F' := (8, [some (.ref 134), some (.int a1), some (.int a2), none], [.int v1], Wm pre post I1 A1)) rfl ?_
  refine go_run 1 (F' := (10, [some (.ref 134), some (.int a1), some (.int a2), none], [.int 58, .int v1], Wm pre post I1 A1)) rfl ?_
  refine go_step rfl rfl ?_
  by_cases q1 : v1 = 58
  · rw [if_pos q1] at hm ⊢
    refine go_run 0 (F' := (13, [some (.ref 134), some (.int a1), some (.int a2), none], [], Wm pre post I1 A1)) rfl ?_
    refine go_run 5 (F' := (18, [some (.ref 134), some (.int a1), some (.int a2), none], [.int (a2 + 2), .int a1, .ref 134], Wm pre post I1 A1)) rfl ?_
    obtain ⟨I2, A2, v2, e2, hm⟩ := xb_inv hm
    refine go_call (m' := 202) (v := none) (h1 := Wm pre post I2 A2) rfl (by simp only [ie_step, ie_iv, List.drop, w_0 hp]; rfl) ⟨rfl, Nat.le_of_ble_eq_true rfl⟩ (g_work (d := d + 2) hp e2) ?_
    refine go_run 0 (F' := (21, [some (.ref 134), some (.int a1), some (.int a2), none], [], Wm pre post I2 A2)) rfl ?_
    refine go_run 1 (F' := (22, [some (.ref 134), some (.int a1), some (.int a2), none], [.ref 134], Wm pre post I2 A2)) rfl ?_
    refine go_gf rfl (w_0 hp) rfl ?_
    refine go_run 6 (F' := (31, [some (.ref 134), some (.int a1), some (.int a2), none], [.int a2, .int a1, .ref 134, .int (4 * a1), .ref 168], Wm pre post I2 A2)) rfl ?_
    obtain ⟨I3, A3, v3, e3, hm⟩ := xb_inv hm
    refine go_call (m' := 191) (v := some (.int v3)) (h1 := Wm pre post I3 A3) rfl (by simp only [ie_step, ie_iv, List.drop, w_0 hp]; rfl) ⟨rfl, Nat.le_of_ble_eq_true rfl⟩ (g_charAt (d := d + 4) hp e3) ?_
    refine go_run 0 (F' := (34, [some (.ref 134), some (.int a1), some (.int a2), none], [.int v3, .int (4 * a1), .ref 168], Wm pre post I3 A3)) rfl ?_
    refine go_run 4 (F' := (39, [some (.ref 134), some (.int a1), some (.int a2), none], [.ref 134, .int (((4 * a1) + v3) - 119), .ref 168], Wm pre post I3 A3)) rfl ?_
    refine go_gf rfl (w_0 hp) rfl ?_
    refine go_run 0 (F' := (42, [some (.ref 134), some (.int a1), some (.int a2), none], [.int (I3 20), .int (((4 * a1) + v3) - 119), .ref 168], Wm pre post I3 A3)) rfl ?_
    obtain ⟨b2, hm⟩ := gd hm
    refine go_iast rfl (w_34 hp) b2 (ws_34 hp) ?_
    refine go_run 3 (F' := (46, [some (.ref 134), some (.int a1), some (.int a2), none], [.ref 134, .int a1, .ref 134], Wm pre post I3 (upA A3 34 (upd (A3 34) (Int32.toNatClampNeg (((4 * a1) + v3) - 119)) (I3 20))))) rfl ?_
    refine go_gf rfl (w_0 hp) rfl ?_
    refine go_run 2 (F' := (51, [some (.ref 134), some (.int a1), some (.int a2), none], [.int ((I3 19) + 1), .int a1, .ref 134], Wm pre post I3 (upA A3 34 (upd (A3 34) (Int32.toNatClampNeg (((4 * a1) + v3) - 119)) (I3 20))))) rfl ?_
    obtain ⟨I4, A4, v4, e4, hm⟩ := xb_inv hm
    refine go_call (m' := 195) (v := none) (h1 := Wm pre post I4 A4) rfl (by simp only [ie_step, ie_iv, List.drop, w_0 hp]; rfl) ⟨rfl, Nat.le_of_ble_eq_true rfl⟩ (g_stand (d := d) hp e4) ?_
    refine go_run 0 (F' := (54, [some (.ref 134), some (.int a1), some (.int a2), none], [], Wm pre post I4 A4)) rfl ?_
    refine go_run 1 (F' := (55, [some (.ref 134), some (.int a1), some (.int a2), none], [.int 1], Wm pre post I4 A4)) rfl ?_
    cases hm
    exact go_end rfl rfl
  · rw [if_neg q1] at hm ⊢
    refine go_run 0 (F' := (56, [some (.ref 134), some (.int a1), some (.int a2), none], [], Wm pre post I1 A1)) rfl ?_
    refine go_run 3 (F' := (59, [some (.ref 134), some (.int a1), some (.int a2), none], [.int a2, .int a1, .ref 134], Wm pre post I1 A1)) rfl ?_
    obtain ⟨I5, A5, v5, e5, hm⟩ := xb_inv hm
    refine go_call (m' := 202) (v := none) (h1 := Wm pre post I5 A5) rfl (by simp only [ie_step, ie_iv, List.drop, w_0 hp]; rfl) ⟨rfl, Nat.le_of_ble_eq_true rfl⟩ (g_work (d := d + 2) hp e5) ?_
    refine go_run 0 (F' := (62, [some (.ref 134), some (.int a1), some (.int a2), none], [], Wm pre post I5 A5)) rfl ?_
    refine go_run 3 (F' := (65, [some (.ref 134), some (.int a1), some (.int a2), none], [.ref 134, .int a1, .ref 134], Wm pre post I5 A5)) rfl ?_
    refine go_gf rfl (w_0 hp) rfl ?_
    refine go_run 2 (F' := (70, [some (.ref 134), some (.int a1), some (.int a2), none], [.int ((I5 19) + 1), .int a1, .ref 134], Wm pre post I5 A5)) rfl ?_
    obtain ⟨I6, A6, v6, e6, hm⟩ := xb_inv hm
    refine go_call (m' := 191) (v := some (.int v6)) (h1 := Wm pre post I6 A6) rfl (by simp only [ie_step, ie_iv, List.drop, w_0 hp]; rfl) ⟨rfl, Nat.le_of_ble_eq_true rfl⟩ (g_charAt (d := d + 4) hp e6) ?_
    refine go_run 0 (F' := (73, [some (.ref 134), some (.int a1), some (.int a2), none], [.int v6], Wm pre post I6 A6)) rfl ?_
    refine go_run 6 (F' := (80, [some (.ref 134), some (.int a1), some (.int a2), some (.int (v6 - 65))], [.int (v6 - 65), .int a1, .ref 134], Wm pre post I6 A6)) rfl ?_
    obtain ⟨I7, A7, v7, e7, hm⟩ := xb_inv hm
    refine go_call (m' := 193) (v := some (.int v7)) (h1 := Wm pre post I7 A7) rfl (by simp only [ie_step, ie_iv, List.drop, w_0 hp]; rfl) ⟨rfl, Nat.le_of_ble_eq_true rfl⟩ (g_isFull (d := d + 4) hp e7) ?_
    refine go_run 0 (F' := (83, [some (.ref 134), some (.int a1), some (.int a2), some (.int (v6 - 65))], [.int v7], Wm pre post I7 A7)) rfl ?_
    refine go_run 0 (F' := (83, [some (.ref 134), some (.int a1), some (.int a2), some (.int (v6 - 65))], [.int v7], Wm pre post I7 A7)) rfl ?_
    refine go_step rfl rfl ?_
    by_cases q3 : v7 = 0
    · rw [if_pos q3] at hm ⊢
      refine go_run 0 (F' := (88, [some (.ref 134), some (.int a1), some (.int a2), some (.int (v6 - 65))], [], Wm pre post I7 A7)) rfl ?_
      refine go_run 4 (F' := (92, [some (.ref 134), some (.int a1), some (.int a2), some (.int (v6 - 65))], [.ref 134, .int (v6 - 65), .int a1, .ref 134], Wm pre post I7 A7)) rfl ?_
      refine go_gf rfl (w_0 hp) rfl ?_
      refine go_run 1 (F' := (96, [some (.ref 134), some (.int a1), some (.int a2), some (.int (v6 - 65))], [.int 0, .int (I7 20), .int (v6 - 65), .int a1, .ref 134], Wm pre post I7 A7)) rfl ?_
      obtain ⟨I8, A8, v8, e8, hm⟩ := xb_inv hm
      refine go_call (m' := 194) (v := none) (h1 := Wm pre post I8 A8) rfl (by simp only [ie_step, ie_iv, List.drop, w_0 hp]; rfl) ⟨rfl, Nat.le_of_ble_eq_true rfl⟩ (g_give (d := d + 4) hp e8) ?_
      refine go_run 0 (F' := (99, [some (.ref 134), some (.int a1), some (.int a2), some (.int (v6 - 65))], [], Wm pre post I8 A8)) rfl ?_
      refine go_run 3 (F' := (102, [some (.ref 134), some (.int a1), some (.int a2), some (.int (v6 - 65))], [.ref 134, .int a1, .ref 134], Wm pre post I8 A8)) rfl ?_
      refine go_gf rfl (w_0 hp) rfl ?_
      refine go_run 2 (F' := (107, [some (.ref 134), some (.int a1), some (.int a2), some (.int (v6 - 65))], [.int ((I8 19) + 3), .int a1, .ref 134], Wm pre post I8 A8)) rfl ?_
      obtain ⟨I9, A9, v9, e9, hm⟩ := xb_inv hm
      refine go_call (m' := 195) (v := none) (h1 := Wm pre post I9 A9) rfl (by simp only [ie_step, ie_iv, List.drop, w_0 hp]; rfl) ⟨rfl, Nat.le_of_ble_eq_true rfl⟩ (g_stand (d := d) hp e9) ?_
      refine go_run 0 (F' := (110, [some (.ref 134), some (.int a1), some (.int a2), some (.int (v6 - 65))], [], Wm pre post I9 A9)) rfl ?_
      refine go_run 1 (F' := (111, [some (.ref 134), some (.int a1), some (.int a2), some (.int (v6 - 65))], [.int 1], Wm pre post I9 A9)) rfl ?_
      cases hm
      exact go_end rfl rfl
    · rw [if_neg q3] at hm ⊢
      refine go_run 0 (F' := (86, [some (.ref 134), some (.int a1), some (.int a2), some (.int (v6 - 65))], [], Wm pre post I7 A7)) rfl ?_
      refine go_run 1 (F' := (87, [some (.ref 134), some (.int a1), some (.int a2), some (.int (v6 - 65))], [.int 0], Wm pre post I7 A7)) rfl ?_
      cases hm
      exact go_end rfl rfl
