def x_occurs_7 : Nat → (Nat → Int32) → (Nat → Nat → Int32) → Int32 → Int32 → Int32 → Int32 → Option xR
  | 0, _, _, _, _, _, _ => none
  | n + 1, I, A, l1, l2, l3, l4 => (if ib l1 200 then (if (A 10) (Int32.toNatClampNeg l1) ≤ l4 then (if l3 = 0 ∨ l3 = 1 then (some (I, A, l3)) else none) else (if l3 = 0 then (if ib l4 200 then (if 6 ≤ (A 3) (Int32.toNatClampNeg l4) then (x_occurs_7 n I A l1 l2 0 (l4 + 1)) else (if (A 4) (Int32.toNatClampNeg l4) = l2 then (x_occurs_7 n I A l1 l2 1 (l4 + 1)) else (if (A 3) (Int32.toNatClampNeg l4) = 2 then (if (A 5) (Int32.toNatClampNeg l4) = l2 then (x_occurs_7 n I A l1 l2 1 (l4 + 1)) else (x_occurs_7 n I A l1 l2 0 (l4 + 1))) else (if (A 3) (Int32.toNatClampNeg l4) = 3 then (if (A 5) (Int32.toNatClampNeg l4) = l2 then (x_occurs_7 n I A l1 l2 1 (l4 + 1)) else (x_occurs_7 n I A l1 l2 0 (l4 + 1))) else (x_occurs_7 n I A l1 l2 0 (l4 + 1)))))) else none) else (x_occurs_7 n I A l1 l2 1 (l4 + 1)))) else none)
theorem g_occurs_7 {X : ie_X} {d : Nat} {pre post : ie_H} (hp : pre.length = 134) : ∀ (n : Nat) {I : Nat → Int32} {A : Nat → Nat → Int32} {l1 l2 l3 l4 : Int32} {I' : Nat → Int32} {A' : Nat → Nat → Int32} {r : Int32}, x_occurs_7 n I A l1 l2 l3 l4 = some (I', A', r) → Go X (d + 0) 173 (7, [some (.ref 134), some (.int l1), some (.int l2), some (.int l3), some (.int l4)], [], Wm pre post I A) (.inl (some (.int r))) (Wm pre post I' A') := by
  intro n
  induction n with
  | zero => intro I A l1 l2 l3 l4 I' A' r hm; cases hm
  | succ n ih =>
    intro I A l1 l2 l3 l4 I' A' r hm
    unfold x_occurs_7 at hm
    refine go_run 0 (F' := (7, [some (.ref 134), some (.int l1), some (.int l2), some (.int l3), some (.int l4)], [], Wm pre post I A)) rfl ?_
    refine go_run 2 (F' := (10, [some (.ref 134), some (.int l1), some (.int l2), some (.int l3), some (.int l4)], [.ref 134, .int l4], Wm pre post I A)) rfl ?_
    refine go_gf rfl (w_0 hp) rfl ?_
    refine go_run 1 (F' := (14, [some (.ref 134), some (.int l1), some (.int l2), some (.int l3), some (.int l4)], [.int l1, .ref 144, .int l4], Wm pre post I A)) rfl ?_
    obtain ⟨b1, hm⟩ := gd hm
    refine go_iald rfl (by decide) (w_10 hp) b1 rfl ?_
    refine go_run 0 (F' := (15, [some (.ref 134), some (.int l1), some (.int l2), some (.int l3), some (.int l4)], [.int ((A 10) (Int32.toNatClampNeg l1)), .int l4], Wm pre post I A)) rfl ?_
    refine go_step rfl rfl ?_
    by_cases q2 : (A 10) (Int32.toNatClampNeg l1) ≤ l4
    · rw [if_pos q2] at hm ⊢
      refine go_run 0 (F' := (90, [some (.ref 134), some (.int l1), some (.int l2), some (.int l3), some (.int l4)], [], Wm pre post I A)) rfl ?_
      refine go_run 1 (F' := (91, [some (.ref 134), some (.int l1), some (.int l2), some (.int l3), some (.int l4)], [.int l3], Wm pre post I A)) rfl ?_
      obtain ⟨z3, hm⟩ := gd hm
      cases hm
      exact go_ret rfl rfl rfl (decide_eq_true z3)
    · rw [if_neg q2] at hm ⊢
      refine go_run 0 (F' := (18, [some (.ref 134), some (.int l1), some (.int l2), some (.int l3), some (.int l4)], [], Wm pre post I A)) rfl ?_
      refine go_run 1 (F' := (19, [some (.ref 134), some (.int l1), some (.int l2), some (.int l3), some (.int l4)], [.int l3], Wm pre post I A)) rfl ?_
      refine go_step rfl rfl ?_
      by_cases q4 : l3 = 0
      · rw [if_pos q4] at hm ⊢
        refine go_run 0 (F' := (22, [some (.ref 134), some (.int l1), some (.int l2), some (.int l3), some (.int l4)], [], Wm pre post I A)) rfl ?_
        refine go_run 1 (F' := (23, [some (.ref 134), some (.int l1), some (.int l2), some (.int l3), some (.int l4)], [.ref 134], Wm pre post I A)) rfl ?_
        refine go_gf rfl (w_0 hp) rfl ?_
        refine go_run 1 (F' := (28, [some (.ref 134), some (.int l1), some (.int l2), some (.int l3), some (.int l4)], [.int l4, .ref 137], Wm pre post I A)) rfl ?_
        obtain ⟨b5, hm⟩ := gd hm
        refine go_iald rfl (by decide) (w_3 hp) b5 rfl ?_
        refine go_run 1 (F' := (31, [some (.ref 134), some (.int l1), some (.int l2), some (.int l3), some (.int l4)], [.int 6, .int ((A 3) (Int32.toNatClampNeg l4))], Wm pre post I A)) rfl ?_
        refine go_step rfl rfl ?_
        by_cases q6 : 6 ≤ (A 3) (Int32.toNatClampNeg l4)
        · rw [if_pos q6] at hm ⊢
          refine go_run 0 (F' := (82, [some (.ref 134), some (.int l1), some (.int l2), some (.int l3), some (.int l4)], [], Wm pre post I A)) rfl ?_
          refine go_run 4 (F' := (7, [some (.ref 134), some (.int l1), some (.int l2), some (.int 0), some (.int (l4 + 1))], [], Wm pre post I A)) rfl ?_
          exact ih hm
        · rw [if_neg q6] at hm ⊢
          refine go_run 0 (F' := (34, [some (.ref 134), some (.int l1), some (.int l2), some (.int l3), some (.int l4)], [], Wm pre post I A)) rfl ?_
          refine go_run 1 (F' := (35, [some (.ref 134), some (.int l1), some (.int l2), some (.int l3), some (.int l4)], [.ref 134], Wm pre post I A)) rfl ?_
          refine go_gf rfl (w_0 hp) rfl ?_
          refine go_run 1 (F' := (40, [some (.ref 134), some (.int l1), some (.int l2), some (.int l3), some (.int l4)], [.int l4, .ref 138], Wm pre post I A)) rfl ?_
          refine go_iald rfl (by decide) (w_4 hp) b5 rfl ?_
          refine go_run 1 (F' := (42, [some (.ref 134), some (.int l1), some (.int l2), some (.int l3), some (.int l4)], [.int l2, .int ((A 4) (Int32.toNatClampNeg l4))], Wm pre post I A)) rfl ?_
          refine go_step rfl rfl ?_
          by_cases q7 : (A 4) (Int32.toNatClampNeg l4) = l2
          · rw [if_pos q7] at hm ⊢
            refine go_run 0 (F' := (78, [some (.ref 134), some (.int l1), some (.int l2), some (.int l3), some (.int l4)], [], Wm pre post I A)) rfl ?_
            refine go_run 5 (F' := (7, [some (.ref 134), some (.int l1), some (.int l2), some (.int 1), some (.int (l4 + 1))], [], Wm pre post I A)) rfl ?_
            exact ih hm
          · rw [if_neg q7] at hm ⊢
            refine go_run 0 (F' := (45, [some (.ref 134), some (.int l1), some (.int l2), some (.int l3), some (.int l4)], [], Wm pre post I A)) rfl ?_
            refine go_run 1 (F' := (46, [some (.ref 134), some (.int l1), some (.int l2), some (.int l3), some (.int l4)], [.ref 134], Wm pre post I A)) rfl ?_
            refine go_gf rfl (w_0 hp) rfl ?_
            refine go_run 1 (F' := (51, [some (.ref 134), some (.int l1), some (.int l2), some (.int l3), some (.int l4)], [.int l4, .ref 137], Wm pre post I A)) rfl ?_
            refine go_iald rfl (by decide) (w_3 hp) b5 rfl ?_
            refine go_run 1 (F' := (53, [some (.ref 134), some (.int l1), some (.int l2), some (.int l3), some (.int l4)], [.int 2, .int ((A 3) (Int32.toNatClampNeg l4))], Wm pre post I A)) rfl ?_
            refine go_step rfl rfl ?_
            by_cases q8 : (A 3) (Int32.toNatClampNeg l4) = 2
            · rw [if_pos q8] at hm ⊢
              refine go_run 0 (F' := (67, [some (.ref 134), some (.int l1), some (.int l2), some (.int l3), some (.int l4)], [], Wm pre post I A)) rfl ?_
              refine go_run 1 (F' := (68, [some (.ref 134), some (.int l1), some (.int l2), some (.int l3), some (.int l4)], [.ref 134], Wm pre post I A)) rfl ?_
              refine go_gf rfl (w_0 hp) rfl ?_
              refine go_run 1 (F' := (73, [some (.ref 134), some (.int l1), some (.int l2), some (.int l3), some (.int l4)], [.int l4, .ref 139], Wm pre post I A)) rfl ?_
              refine go_iald rfl (by decide) (w_5 hp) b5 rfl ?_
              refine go_run 1 (F' := (75, [some (.ref 134), some (.int l1), some (.int l2), some (.int l3), some (.int l4)], [.int l2, .int ((A 5) (Int32.toNatClampNeg l4))], Wm pre post I A)) rfl ?_
              refine go_step rfl rfl ?_
              by_cases q9 : (A 5) (Int32.toNatClampNeg l4) = l2
              · rw [if_pos q9] at hm ⊢
                refine go_run 0 (F' := (78, [some (.ref 134), some (.int l1), some (.int l2), some (.int l3), some (.int l4)], [], Wm pre post I A)) rfl ?_
                refine go_run 5 (F' := (7, [some (.ref 134), some (.int l1), some (.int l2), some (.int 1), some (.int (l4 + 1))], [], Wm pre post I A)) rfl ?_
                exact ih hm
              · rw [if_neg q9] at hm ⊢
                refine go_run 0 (F' := (82, [some (.ref 134), some (.int l1), some (.int l2), some (.int l3), some (.int l4)], [], Wm pre post I A)) rfl ?_
                refine go_run 4 (F' := (7, [some (.ref 134), some (.int l1), some (.int l2), some (.int 0), some (.int (l4 + 1))], [], Wm pre post I A)) rfl ?_
                exact ih hm
            · rw [if_neg q8] at hm ⊢
              refine go_run 0 (F' := (56, [some (.ref 134), some (.int l1), some (.int l2), some (.int l3), some (.int l4)], [], Wm pre post I A)) rfl ?_
              refine go_run 1 (F' := (57, [some (.ref 134), some (.int l1), some (.int l2), some (.int l3), some (.int l4)], [.ref 134], Wm pre post I A)) rfl ?_
              refine go_gf rfl (w_0 hp) rfl ?_
              refine go_run 1 (F' := (62, [some (.ref 134), some (.int l1), some (.int l2), some (.int l3), some (.int l4)], [.int l4, .ref 137], Wm pre post I A)) rfl ?_
              refine go_iald rfl (by decide) (w_3 hp) b5 rfl ?_
              refine go_run 1 (F' := (64, [some (.ref 134), some (.int l1), some (.int l2), some (.int l3), some (.int l4)], [.int 3, .int ((A 3) (Int32.toNatClampNeg l4))], Wm pre post I A)) rfl ?_
              refine go_step rfl rfl ?_
              by_cases q10 : (A 3) (Int32.toNatClampNeg l4) = 3
              · rw [if_pos q10] at hm ⊢
                refine go_run 0 (F' := (67, [some (.ref 134), some (.int l1), some (.int l2), some (.int l3), some (.int l4)], [], Wm pre post I A)) rfl ?_
                refine go_run 1 (F' := (68, [some (.ref 134), some (.int l1), some (.int l2), some (.int l3), some (.int l4)], [.ref 134], Wm pre post I A)) rfl ?_
                refine go_gf rfl (w_0 hp) rfl ?_
                refine go_run 1 (F' := (73, [some (.ref 134), some (.int l1), some (.int l2), some (.int l3), some (.int l4)], [.int l4, .ref 139], Wm pre post I A)) rfl ?_
                refine go_iald rfl (by decide) (w_5 hp) b5 rfl ?_
                refine go_run 1 (F' := (75, [some (.ref 134), some (.int l1), some (.int l2), some (.int l3), some (.int l4)], [.int l2, .int ((A 5) (Int32.toNatClampNeg l4))], Wm pre post I A)) rfl ?_
                refine go_step rfl rfl ?_
                by_cases q11 : (A 5) (Int32.toNatClampNeg l4) = l2
                · rw [if_pos q11] at hm ⊢
                  refine go_run 0 (F' := (78, [some (.ref 134), some (.int l1), some (.int l2), some (.int l3), some (.int l4)], [], Wm pre post I A)) rfl ?_
                  refine go_run 5 (F' := (7, [some (.ref 134), some (.int l1), some (.int l2), some (.int 1), some (.int (l4 + 1))], [], Wm pre post I A)) rfl ?_
                  exact ih hm
                · rw [if_neg q11] at hm ⊢
                  refine go_run 0 (F' := (82, [some (.ref 134), some (.int l1), some (.int l2), some (.int l3), some (.int l4)], [], Wm pre post I A)) rfl ?_
                  refine go_run 4 (F' := (7, [some (.ref 134), some (.int l1), some (.int l2), some (.int 0), some (.int (l4 + 1))], [], Wm pre post I A)) rfl ?_
                  exact ih hm
              · rw [if_neg q10] at hm ⊢
                refine go_run 0 (F' := (82, [some (.ref 134), some (.int l1), some (.int l2), some (.int l3), some (.int l4)], [], Wm pre post I A)) rfl ?_
                refine go_run 4 (F' := (7, [some (.ref 134), some (.int l1), some (.int l2), some (.int 0), some (.int (l4 + 1))], [], Wm pre post I A)) rfl ?_
                exact ih hm
      · rw [if_neg q4] at hm ⊢
        refine go_run 0 (F' := (78, [some (.ref 134), some (.int l1), some (.int l2), some (.int l3), some (.int l4)], [], Wm pre post I A)) rfl ?_
        refine go_run 5 (F' := (7, [some (.ref 134), some (.int l1), some (.int l2), some (.int 1), some (.int (l4 + 1))], [], Wm pre post I A)) rfl ?_
        exact ih hm
def x_occurs (n : Nat) (I : Nat → Int32) (A : Nat → Nat → Int32) (a1 a2 : Int32) : Option xR := (x_occurs_7  n I A a1 a2 0 (a1 + 2))
theorem g_occurs {X : ie_X} {d : Nat} {pre post : ie_H} (hp : pre.length = 134) {n : Nat} {I : Nat → Int32} {A : Nat → Nat → Int32} {a1 a2 : Int32} {I' : Nat → Int32} {A' : Nat → Nat → Int32} {r : Int32} (hm : x_occurs n I A a1 a2 = some (I', A', r)) : Go X (d + 0) 173 (0, ie_en 173 [.ref 134, .int a1, .int a2], [], Wm pre post I A) (.inl (some (.int r))) (Wm pre post I' A') := by
  unfold x_occurs at hm
  refine go_run 0 (F' := (0, [some (.ref 134), some (.int a1), some (.int a2), none, none], [], Wm pre post I A)) rfl ?_
  refine go_run 6 (F' := (7, [some (.ref 134), some (.int a1), some (.int a2), some (.int 0), some (.int (a1 + 2))], [], Wm pre post I A)) rfl ?_
  exact g_occurs_7 hp  n hm
def x_addRound_32 : Nat → (Nat → Int32) → (Nat → Nat → Int32) → Int32 → Int32 → Int32 → Option xR
  | 0, _, _, _, _, _ => none
  | n + 1, I, A, l1, l2, l3 => (if l3 < 0 then (xb (x_addExpression n I A l1) fun I1 A1 v1 => (xb (x_add I1 A1 64) fun I2 A2 v2 => (some (I2, A2, 0)))) else (if l3 = l2 then (x_addRound_32 n I A l1 l2 (l3 + (-1))) else (xb (x_occurs n I A l1 l3) fun I3 A3 v3 => (if v3 = 0 then (x_addRound_32 n I3 A3 l1 l2 (l3 + (-1))) else (xb (x_add I3 A3 (65 + l3)) fun I4 A4 v4 => (x_addRound_32 n I4 A4 l1 l2 (l3 + (-1))))))))
theorem g_addRound_32 {X : ie_X} {d : Nat} {pre post : ie_H} (hp : pre.length = 134) : ∀ (n : Nat) {I : Nat → Int32} {A : Nat → Nat → Int32} {l1 l2 l3 : Int32} {I' : Nat → Int32} {A' : Nat → Nat → Int32} {r : Int32}, x_addRound_32 n I A l1 l2 l3 = some (I', A', r) → Go X (d + 2) 172 (32, [some (.ref 134), some (.int l1), some (.int l2), some (.int l3)], [], Wm pre post I A) (.inl none) (Wm pre post I' A') := by
  intro n
  induction n with
  | zero => intro I A l1 l2 l3 I' A' r hm; cases hm
  | succ n ih =>
    intro I A l1 l2 l3 I' A' r hm
    unfold x_addRound_32 at hm
    refine go_run 0 (F' := (32, [some (.ref 134), some (.int l1), some (.int l2), some (.int l3)], [], Wm pre post I A)) rfl ?_
    refine go_run 1 (F' := (33, [some (.ref 134), some (.int l1), some (.int l2), some (.int l3)], [.int l3], Wm pre post I A)) rfl ?_
    refine go_step rfl rfl ?_
    by_cases q1 : l3 < 0
    · rw [if_pos q1] at hm ⊢
      refine go_run 0 (F' := (64, [some (.ref 134), some (.int l1), some (.int l2), some (.int l3)], [], Wm pre post I A)) rfl ?_
      refine go_run 2 (F' := (66, [some (.ref 134), some (.int l1), some (.int l2), some (.int l3)], [.int l1, .ref 134], Wm pre post I A)) rfl ?_
      obtain ⟨I1, A1, v1, e1, hm⟩ := xb_inv hm
      refine go_call (m' := 171) (v := none) (h1 := Wm pre post I1 A1) rfl (by simp only [ie_step, ie_iv, List.drop, w_0 hp]; rfl) ⟨rfl, Nat.le_of_ble_eq_true rfl⟩ (g_addExpression (d := d) hp e1) ?_
      refine go_run 0 (F' := (69, [some (.ref 134), some (.int l1), some (.int l2), some (.int l3)], [], Wm pre post I1 A1)) rfl ?_
      refine go_run 2 (F' := (72, [some (.ref 134), some (.int l1), some (.int l2), some (.int l3)], [.int 64, .ref 134], Wm pre post I1 A1)) rfl ?_
      obtain ⟨I2, A2, v2, e2, hm⟩ := xb_inv hm
      refine go_call (m' := 157) (v := none) (h1 := Wm pre post I2 A2) rfl (by simp only [ie_step, ie_iv, List.drop, w_0 hp]; rfl) ⟨rfl, Nat.le_of_ble_eq_true rfl⟩ (g_add (d := d + 1) hp e2) ?_
      refine go_run 0 (F' := (75, [some (.ref 134), some (.int l1), some (.int l2), some (.int l3)], [], Wm pre post I2 A2)) rfl ?_
      refine go_run 1 (F' := (122, [some (.ref 134), some (.int l1), some (.int l2), some (.int l3)], [], Wm pre post I2 A2)) rfl ?_
      cases hm
      exact go_end rfl rfl
    · rw [if_neg q1] at hm ⊢
      refine go_run 0 (F' := (36, [some (.ref 134), some (.int l1), some (.int l2), some (.int l3)], [], Wm pre post I A)) rfl ?_
      refine go_run 2 (F' := (38, [some (.ref 134), some (.int l1), some (.int l2), some (.int l3)], [.int l2, .int l3], Wm pre post I A)) rfl ?_
      refine go_step rfl rfl ?_
      by_cases q2 : l3 = l2
      · rw [if_pos q2] at hm ⊢
        refine go_run 0 (F' := (58, [some (.ref 134), some (.int l1), some (.int l2), some (.int l3)], [], Wm pre post I A)) rfl ?_
        refine go_run 2 (F' := (32, [some (.ref 134), some (.int l1), some (.int l2), some (.int (l3 + (-1)))], [], Wm pre post I A)) rfl ?_
        exact ih hm
      · rw [if_neg q2] at hm ⊢
        refine go_run 0 (F' := (41, [some (.ref 134), some (.int l1), some (.int l2), some (.int l3)], [], Wm pre post I A)) rfl ?_
        refine go_run 3 (F' := (44, [some (.ref 134), some (.int l1), some (.int l2), some (.int l3)], [.int l3, .int l1, .ref 134], Wm pre post I A)) rfl ?_
        obtain ⟨I3, A3, v3, e3, hm⟩ := xb_inv hm
        refine go_call (m' := 173) (v := some (.int v3)) (h1 := Wm pre post I3 A3) rfl (by simp only [ie_step, ie_iv, List.drop, w_0 hp]; rfl) ⟨rfl, Nat.le_of_ble_eq_true rfl⟩ (g_occurs (d := d + 1) hp e3) ?_
        refine go_run 0 (F' := (47, [some (.ref 134), some (.int l1), some (.int l2), some (.int l3)], [.int v3], Wm pre post I3 A3)) rfl ?_
        refine go_run 0 (F' := (47, [some (.ref 134), some (.int l1), some (.int l2), some (.int l3)], [.int v3], Wm pre post I3 A3)) rfl ?_
        refine go_step rfl rfl ?_
        by_cases q3 : v3 = 0
        · rw [if_pos q3] at hm ⊢
          refine go_run 0 (F' := (58, [some (.ref 134), some (.int l1), some (.int l2), some (.int l3)], [], Wm pre post I3 A3)) rfl ?_
          refine go_run 2 (F' := (32, [some (.ref 134), some (.int l1), some (.int l2), some (.int (l3 + (-1)))], [], Wm pre post I3 A3)) rfl ?_
          exact ih hm
        · rw [if_neg q3] at hm ⊢
          refine go_run 0 (F' := (50, [some (.ref 134), some (.int l1), some (.int l2), some (.int l3)], [], Wm pre post I3 A3)) rfl ?_
          refine go_run 4 (F' := (55, [some (.ref 134), some (.int l1), some (.int l2), some (.int l3)], [.int (65 + l3), .ref 134], Wm pre post I3 A3)) rfl ?_
          obtain ⟨I4, A4, v4, e4, hm⟩ := xb_inv hm
          refine go_call (m' := 157) (v := none) (h1 := Wm pre post I4 A4) rfl (by simp only [ie_step, ie_iv, List.drop, w_0 hp]; rfl) ⟨rfl, Nat.le_of_ble_eq_true rfl⟩ (g_add (d := d + 1) hp e4) ?_
          refine go_run 0 (F' := (58, [some (.ref 134), some (.int l1), some (.int l2), some (.int l3)], [], Wm pre post I4 A4)) rfl ?_
          refine go_run 2 (F' := (32, [some (.ref 134), some (.int l1), some (.int l2), some (.int (l3 + (-1)))], [], Wm pre post I4 A4)) rfl ?_
          exact ih hm
def x_addRound (n : Nat) (I : Nat → Int32) (A : Nat → Nat → Int32) (a1 a2 : Int32) : Option xR := (xb (x_takeA n I A) fun I1 A1 v1 => (if ib a1 200 then (if a2 = (A1 4) (Int32.toNatClampNeg a1) then (xb (x_add I1 A1 125) fun I2 A2 v2 => (xb (x_addA n I2 A2) fun I3 A3 v3 => (xb (x_add I3 A3 123) fun I4 A4 v4 => (x_addRound_32  n I4 A4 a1 a2 5)))) else (xb (x_occurs n I1 A1 a1 a2) fun I5 A5 v5 => (if v5 = 0 then (some (I5, A5, 0)) else (xb (x_add I5 A5 125) fun I6 A6 v6 => (xb (x_addA n I6 A6) fun I7 A7 v7 => (xb (x_add I7 A7 123) fun I8 A8 v8 => (xb (x_add I8 A8 64) fun I9 A9 v9 => (xb (x_add I9 A9 (65 + ((A9 4) (Int32.toNatClampNeg a1)))) fun I10 A10 v10 => (some (I10, A10, 0)))))))))) else none))
theorem g_addRound {X : ie_X} {d : Nat} {pre post : ie_H} (hp : pre.length = 134) {n : Nat} {I : Nat → Int32} {A : Nat → Nat → Int32} {a1 a2 : Int32} {I' : Nat → Int32} {A' : Nat → Nat → Int32} {r : Int32} (hm : x_addRound n I A a1 a2 = some (I', A', r)) : Go X (d + 2) 172 (0, ie_en 172 [.ref 134, .int a1, .int a2], [], Wm pre post I A) (.inl none) (Wm pre post I' A') := by
  unfold x_addRound at hm
  refine go_run 0 (F' := (0, [some (.ref 134), some (.int a1), some (.int a2), none], [], Wm pre post I A)) rfl ?_
  refine go_run 1 (F' := (1, [some (.ref 134), some (.int a1), some (.int a2), none], [.ref 134], Wm pre post I A)) rfl ?_
  obtain ⟨I1, A1, v1, e1, hm⟩ := xb_inv hm
  refine go_call (m' := 159) (v := none) (h1 := Wm pre post I1 A1) rfl (by simp only [ie_step, ie_iv, List.drop, w_0 hp]; rfl) ⟨rfl, Nat.le_of_ble_eq_true rfl⟩ (g_takeA (d := d + 1) hp e1) ?_
  refine go_run 0 (F' := (4, [some (.ref 134), some (.int a1), some (.int a2), none], [], Wm pre post I1 A1)) rfl ?_
  refine go_run 2 (F' := (6, [some (.ref 134), some (.int a1), some (.int a2), none], [.ref 134, .int a2], Wm pre post I1 A1)) rfl ?_
  refine go_gf rfl (w_0 hp) rfl ?_
  refine go_run 1 (F' := (10, [some (.ref 134), some (.int a1), some (.int a2), none], [.int a1, .ref 138, .int a2], Wm pre post I1 A1)) rfl ?_
  obtain ⟨b1, hm⟩ := gd hm
  refine go_iald rfl (by decide) (w_4 hp) b1 rfl ?_
  refine go_run 0 (F' := (11, [some (.ref 134), some (.int a1), some (.int a2), none], [.int ((A1 4) (Int32.toNatClampNeg a1)), .int a2], Wm pre post I1 A1)) rfl ?_
  refine go_step rfl rfl ?_
  by_cases q2 : a2 = (A1 4) (Int32.toNatClampNeg a1)
  · rw [if_pos q2] at hm ⊢
    refine go_run 0 (F' := (14, [some (.ref 134), some (.int a1), some (.int a2), none], [], Wm pre post I1 A1)) rfl ?_
    refine go_run 2 (F' := (17, [some (.ref 134), some (.int a1), some (.int a2), none], [.int 125, .ref 134], Wm pre post I1 A1)) rfl ?_
    obtain ⟨I2, A2, v2, e2, hm⟩ := xb_inv hm
    refine go_call (m' := 157) (v := none) (h1 := Wm pre post I2 A2) rfl (by simp only [ie_step, ie_iv, List.drop, w_0 hp]; rfl) ⟨rfl, Nat.le_of_ble_eq_true rfl⟩ (g_add (d := d + 1) hp e2) ?_
    refine go_run 0 (F' := (20, [some (.ref 134), some (.int a1), some (.int a2), none], [], Wm pre post I2 A2)) rfl ?_
    refine go_run 1 (F' := (21, [some (.ref 134), some (.int a1), some (.int a2), none], [.ref 134], Wm pre post I2 A2)) rfl ?_
    obtain ⟨I3, A3, v3, e3, hm⟩ := xb_inv hm
    refine go_call (m' := 170) (v := none) (h1 := Wm pre post I3 A3) rfl (by simp only [ie_step, ie_iv, List.drop, w_0 hp]; rfl) ⟨rfl, Nat.le_of_ble_eq_true rfl⟩ (g_addA (d := d) hp e3) ?_
    refine go_run 0 (F' := (24, [some (.ref 134), some (.int a1), some (.int a2), none], [], Wm pre post I3 A3)) rfl ?_
    refine go_run 2 (F' := (27, [some (.ref 134), some (.int a1), some (.int a2), none], [.int 123, .ref 134], Wm pre post I3 A3)) rfl ?_
    obtain ⟨I4, A4, v4, e4, hm⟩ := xb_inv hm
    refine go_call (m' := 157) (v := none) (h1 := Wm pre post I4 A4) rfl (by simp only [ie_step, ie_iv, List.drop, w_0 hp]; rfl) ⟨rfl, Nat.le_of_ble_eq_true rfl⟩ (g_add (d := d + 1) hp e4) ?_
    refine go_run 0 (F' := (30, [some (.ref 134), some (.int a1), some (.int a2), none], [], Wm pre post I4 A4)) rfl ?_
    refine go_run 2 (F' := (32, [some (.ref 134), some (.int a1), some (.int a2), some (.int 5)], [], Wm pre post I4 A4)) rfl ?_
    exact g_addRound_32 hp  n hm
  · rw [if_neg q2] at hm ⊢
    refine go_run 0 (F' := (78, [some (.ref 134), some (.int a1), some (.int a2), none], [], Wm pre post I1 A1)) rfl ?_
    refine go_run 3 (F' := (81, [some (.ref 134), some (.int a1), some (.int a2), none], [.int a2, .int a1, .ref 134], Wm pre post I1 A1)) rfl ?_
    obtain ⟨I5, A5, v5, e5, hm⟩ := xb_inv hm
    refine go_call (m' := 173) (v := some (.int v5)) (h1 := Wm pre post I5 A5) rfl (by simp only [ie_step, ie_iv, List.drop, w_0 hp]; rfl) ⟨rfl, Nat.le_of_ble_eq_true rfl⟩ (g_occurs (d := d + 1) hp e5) ?_
    refine go_run 0 (F' := (84, [some (.ref 134), some (.int a1), some (.int a2), none], [.int v5], Wm pre post I5 A5)) rfl ?_
    refine go_run 0 (F' := (84, [some (.ref 134), some (.int a1), some (.int a2), none], [.int v5], Wm pre post I5 A5)) rfl ?_
    refine go_step rfl rfl ?_
    by_cases q3 : v5 = 0
    · rw [if_pos q3] at hm ⊢
      refine go_run 0 (F' := (122, [some (.ref 134), some (.int a1), some (.int a2), none], [], Wm pre post I5 A5)) rfl ?_
      refine go_run 0 (F' := (122, [some (.ref 134), some (.int a1), some (.int a2), none], [], Wm pre post I5 A5)) rfl ?_
      cases hm
      exact go_end rfl rfl
    · rw [if_neg q3] at hm ⊢
      refine go_run 0 (F' := (87, [some (.ref 134), some (.int a1), some (.int a2), none], [], Wm pre post I5 A5)) rfl ?_
      refine go_run 2 (F' := (90, [some (.ref 134), some (.int a1), some (.int a2), none], [.int 125, .ref 134], Wm pre post I5 A5)) rfl ?_
      obtain ⟨I6, A6, v6, e6, hm⟩ := xb_inv hm
      refine go_call (m' := 157) (v := none) (h1 := Wm pre post I6 A6) rfl (by simp only [ie_step, ie_iv, List.drop, w_0 hp]; rfl) ⟨rfl, Nat.le_of_ble_eq_true rfl⟩ (g_add (d := d + 1) hp e6) ?_
      refine go_run 0 (F' := (93, [some (.ref 134), some (.int a1), some (.int a2), none], [], Wm pre post I6 A6)) rfl ?_
      refine go_run 1 (F' := (94, [some (.ref 134), some (.int a1), some (.int a2), none], [.ref 134], Wm pre post I6 A6)) rfl ?_
      obtain ⟨I7, A7, v7, e7, hm⟩ := xb_inv hm
      refine go_call (m' := 170) (v := none) (h1 := Wm pre post I7 A7) rfl (by simp only [ie_step, ie_iv, List.drop, w_0 hp]; rfl) ⟨rfl, Nat.le_of_ble_eq_true rfl⟩ (g_addA (d := d) hp e7) ?_
      refine go_run 0 (F' := (97, [some (.ref 134), some (.int a1), some (.int a2), none], [], Wm pre post I7 A7)) rfl ?_
      refine go_run 2 (F' := (100, [some (.ref 134), some (.int a1), some (.int a2), none], [.int 123, .ref 134], Wm pre post I7 A7)) rfl ?_
      obtain ⟨I8, A8, v8, e8, hm⟩ := xb_inv hm
      refine go_call (m' := 157) (v := none) (h1 := Wm pre post I8 A8) rfl (by simp only [ie_step, ie_iv, List.drop, w_0 hp]; rfl) ⟨rfl, Nat.le_of_ble_eq_true rfl⟩ (g_add (d := d + 1) hp e8) ?_
      refine go_run 0 (F' := (103, [some (.ref 134), some (.int a1), some (.int a2), none], [], Wm pre post I8 A8)) rfl ?_
      refine go_run 2 (F' := (106, [some (.ref 134), some (.int a1), some (.int a2), none], [.int 64, .ref 134], Wm pre post I8 A8)) rfl ?_
      obtain ⟨I9, A9, v9, e9, hm⟩ := xb_inv hm
      refine go_call (m' := 157) (v := none) (h1 := Wm pre post I9 A9) rfl (by simp only [ie_step, ie_iv, List.drop, w_0 hp]; rfl) ⟨rfl, Nat.le_of_ble_eq_true rfl⟩ (g_add (d := d + 1) hp e9) ?_
      refine go_run 0 (F' := (109, [some (.ref 134), some (.int a1), some (.int a2), none], [], Wm pre post I9 A9)) rfl ?_
      refine go_run 3 (F' := (113, [some (.ref 134), some (.int a1), some (.int a2), none], [.ref 134, .int 65, .ref 134], Wm pre post I9 A9)) rfl ?_
      refine go_gf rfl (w_0 hp) rfl ?_
      refine go_run 1 (F' := (117, [some (.ref 134), some (.int a1), some (.int a2), none], [.int a1, .ref 138, .int 65, .ref 134], Wm pre post I9 A9)) rfl ?_
      refine go_iald rfl (by decide) (w_4 hp) b1 rfl ?_
      refine go_run 1 (F' := (119, [some (.ref 134), some (.int a1), some (.int a2), none], [.int (65 + ((A9 4) (Int32.toNatClampNeg a1))), .ref 134], Wm pre post I9 A9)) rfl ?_
      obtain ⟨I10, A10, v10, e10, hm⟩ := xb_inv hm
      refine go_call (m' := 157) (v := none) (h1 := Wm pre post I10 A10) rfl (by simp only [ie_step, ie_iv, List.drop, w_0 hp]; rfl) ⟨rfl, Nat.le_of_ble_eq_true rfl⟩ (g_add (d := d + 1) hp e10) ?_
      refine go_run 0 (F' := (122, [some (.ref 134), some (.int a1), some (.int a2), none], [], Wm pre post I10 A10)) rfl ?_
      refine go_run 0 (F' := (122, [some (.ref 134), some (.int a1), some (.int a2), none], [], Wm pre post I10 A10)) rfl ?_
      cases hm
      exact go_end rfl rfl
def x_addSimple_167 (n : Nat) (I : Nat → Int32) (A : Nat → Nat → Int32) (l1 l2 : Int32) : Option xR := (if ib l1 200 then (if (A 3) (Int32.toNatClampNeg l1) = 3 then (xb (x_addTold n I A ((A 4) (Int32.toNatClampNeg l1)) ((A 5) (Int32.toNatClampNeg l1)) ((A 6) (Int32.toNatClampNeg l1)) l2) fun I1 A1 v1 => (some (I1, A1, 0))) else (some (I, A, 0))) else none)
theorem g_addSimple_167 {X : ie_X} {d : Nat} {pre post : ie_H} (hp : pre.length = 134) {n : Nat} {I : Nat → Int32} {A : Nat → Nat → Int32} {l1 l2 : Int32} {I' : Nat → Int32} {A' : Nat → Nat → Int32} {r : Int32} (hm : x_addSimple_167 n I A l1 l2 = some (I', A', r)) : Go X (d + 2) 174 (167, [some (.ref 134), some (.int l1), some (.int l2)], [], Wm pre post I A) (.inl none) (Wm pre post I' A') := by
  unfold x_addSimple_167 at hm
  refine go_run 0 (F' := (167, [some (.ref 134), some (.int l1), some (.int l2)], [], Wm pre post I A)) rfl ?_
  refine go_run 1 (F' := (168, [some (.ref 134), some (.int l1), some (.int l2)], [.ref 134], Wm pre post I A)) rfl ?_
  refine go_gf rfl (w_0 hp) rfl ?_
  refine go_run 1 (F' := (172, [some (.ref 134), some (.int l1), some (.int l2)], [.int l1, .ref 137], Wm pre post I A)) rfl ?_
  obtain ⟨b1, hm⟩ := gd hm
  refine go_iald rfl (by decide) (w_3 hp) b1 rfl ?_
  refine go_run 1 (F' := (174, [some (.ref 134), some (.int l1), some (.int l2)], [.int 3, .int ((A 3) (Int32.toNatClampNeg l1))], Wm pre post I A)) rfl ?_
  refine go_step rfl rfl ?_
  by_cases q2 : (A 3) (Int32.toNatClampNeg l1) = 3
  · rw [if_pos q2] at hm ⊢
    refine go_run 0 (F' := (177, [some (.ref 134), some (.int l1), some (.int l2)], [], Wm pre post I A)) rfl ?_
    refine go_run 2 (F' := (179, [some (.ref 134), some (.int l1), some (.int l2)], [.ref 134, .ref 134], Wm pre post I A)) rfl ?_
    refine go_gf rfl (w_0 hp) rfl ?_
    refine go_run 1 (F' := (183, [some (.ref 134), some (.int l1), some (.int l2)], [.int l1, .ref 138, .ref 134], Wm pre post I A)) rfl ?_
    refine go_iald rfl (by decide) (w_4 hp) b1 rfl ?_
    refine go_run 1 (F' := (185, [some (.ref 134), some (.int l1), some (.int l2)], [.ref 134, .int ((A 4) (Int32.toNatClampNeg l1)), .ref 134], Wm pre post I A)) rfl ?_
    refine go_gf rfl (w_0 hp) rfl ?_
    refine go_run 1 (F' := (189, [some (.ref 134), some (.int l1), some (.int l2)], [.int l1, .ref 139, .int ((A 4) (Int32.toNatClampNeg l1)), .ref 134], Wm pre post I A)) rfl ?_
    refine go_iald rfl (by decide) (w_5 hp) b1 rfl ?_
    refine go_run 1 (F' := (191, [some (.ref 134), some (.int l1), some (.int l2)], [.ref 134, .int ((A 5) (Int32.toNatClampNeg l1)), .int ((A 4) (Int32.toNatClampNeg l1)), .ref 134], Wm pre post I A)) rfl ?_
    refine go_gf rfl (w_0 hp) rfl ?_
    refine go_run 1 (F' := (195, [some (.ref 134), some (.int l1), some (.int l2)], [.int l1, .ref 140, .int ((A 5) (Int32.toNatClampNeg l1)), .int ((A 4) (Int32.toNatClampNeg l1)), .ref 134], Wm pre post I A)) rfl ?_
    refine go_iald rfl (by decide) (w_6 hp) b1 rfl ?_
    refine go_run 1 (F' := (197, [some (.ref 134), some (.int l1), some (.int l2)], [.int l2, .int ((A 6) (Int32.toNatClampNeg l1)), .int ((A 5) (Int32.toNatClampNeg l1)), .int ((A 4) (Int32.toNatClampNeg l1)), .ref 134], Wm pre post I A)) rfl ?_
    obtain ⟨I1, A1, v1, e1, hm⟩ := xb_inv hm
    refine go_call (m' := 156) (v := none) (h1 := Wm pre post I1 A1) rfl (by simp only [ie_step, ie_iv, List.drop, w_0 hp]; rfl) ⟨rfl, Nat.le_of_ble_eq_true rfl⟩ (g_addTold (d := d) hp e1) ?_
    refine go_run 0 (F' := (200, [some (.ref 134), some (.int l1), some (.int l2)], [], Wm pre post I1 A1)) rfl ?_
    refine go_run 0 (F' := (200, [some (.ref 134), some (.int l1), some (.int l2)], [], Wm pre post I1 A1)) rfl ?_
    cases hm
    exact go_end rfl rfl
  · rw [if_neg q2] at hm ⊢
    refine go_run 0 (F' := (200, [some (.ref 134), some (.int l1), some (.int l2)], [], Wm pre post I A)) rfl ?_
    refine go_run 0 (F' := (200, [some (.ref 134), some (.int l1), some (.int l2)], [], Wm pre post I A)) rfl ?_
    cases hm
    exact go_end rfl rfl
def x_addSimple_106 (n : Nat) (I : Nat → Int32) (A : Nat → Nat → Int32) (l1 l2 : Int32) : Option xR := (if ib l1 200 then (if (A 3) (Int32.toNatClampNeg l1) = 2 then (if l2 = (A 5) (Int32.toNatClampNeg l1) then (xb (x_add I A 59) fun I1 A1 v1 => (xb (x_add I1 A1 (119 + ((A1 6) (Int32.toNatClampNeg l1)))) fun I2 A2 v2 => (xb (x_add I2 A2 62) fun I3 A3 v3 => (xb (x_add I3 A3 (65 + ((A3 4) (Int32.toNatClampNeg l1)))) fun I4 A4 v4 => (some (I4, A4, 0)))))) else (x_addSimple_167  n I A l1 l2)) else (x_addSimple_167  n I A l1 l2)) else none)
theorem g_addSimple_106 {X : ie_X} {d : Nat} {pre post : ie_H} (hp : pre.length = 134) {n : Nat} {I : Nat → Int32} {A : Nat → Nat → Int32} {l1 l2 : Int32} {I' : Nat → Int32} {A' : Nat → Nat → Int32} {r : Int32} (hm : x_addSimple_106 n I A l1 l2 = some (I', A', r)) : Go X (d + 2) 174 (106, [some (.ref 134), some (.int l1), some (.int l2)], [], Wm pre post I A) (.inl none) (Wm pre post I' A') := by
  unfold x_addSimple_106 at hm
  refine go_run 0 (F' := (106, [some (.ref 134), some (.int l1), some (.int l2)], [], Wm pre post I A)) rfl ?_
  refine go_run 1 (F' := (107, [some (.ref 134), some (.int l1), some (.int l2)], [.ref 134], Wm pre post I A)) rfl ?_
  refine go_gf rfl (w_0 hp) rfl ?_
  refine go_run 1 (F' := (111, [some (.ref 134), some (.int l1), some (.int l2)], [.int l1, .ref 137], Wm pre post I A)) rfl ?_
  obtain ⟨b1, hm⟩ := gd hm
  refine go_iald rfl (by decide) (w_3 hp) b1 rfl ?_
  refine go_run 1 (F' := (113, [some (.ref 134), some (.int l1), some (.int l2)], [.int 2, .int ((A 3) (Int32.toNatClampNeg l1))], Wm pre post I A)) rfl ?_
  refine go_step rfl rfl ?_
  by_cases q2 : (A 3) (Int32.toNatClampNeg l1) = 2
  · rw [if_pos q2] at hm ⊢
    refine go_run 0 (F' := (116, [some (.ref 134), some (.int l1), some (.int l2)], [], Wm pre post I A)) rfl ?_
    refine go_run 2 (F' := (118, [some (.ref 134), some (.int l1), some (.int l2)], [.ref 134, .int l2], Wm pre post I A)) rfl ?_
    refine go_gf rfl (w_0 hp) rfl ?_
    refine go_run 1 (F' := (122, [some (.ref 134), some (.int l1), some (.int l2)], [.int l1, .ref 139, .int l2], Wm pre post I A)) rfl ?_
    refine go_iald rfl (by decide) (w_5 hp) b1 rfl ?_
    refine go_run 0 (F' := (123, [some (.ref 134), some (.int l1), some (.int l2)], [.int ((A 5) (Int32.toNatClampNeg l1)), .int l2], Wm pre post I A)) rfl ?_
    refine go_step rfl rfl ?_
    by_cases q3 : l2 = (A 5) (Int32.toNatClampNeg l1)
    · rw [if_pos q3] at hm ⊢
      refine go_run 0 (F' := (126, [some (.ref 134), some (.int l1), some (.int l2)], [], Wm pre post I A)) rfl ?_
      refine go_run 2 (F' := (129, [some (.ref 134), some (.int l1), some (.int l2)], [.int 59, .ref 134], Wm pre post I A)) rfl ?_
      obtain ⟨I1, A1, v1, e1, hm⟩ := xb_inv hm
      refine go_call (m' := 157) (v := none) (h1 := Wm pre post I1 A1) rfl (by simp only [ie_step, ie_iv, List.drop, w_0 hp]; rfl) ⟨rfl, Nat.le_of_ble_eq_true rfl⟩ (g_add (d := d + 1) hp e1) ?_
      refine go_run 0 (F' := (132, [some (.ref 134), some (.int l1), some (.int l2)], [], Wm pre post I1 A1)) rfl ?_
      refine go_run 3 (F' := (136, [some (.ref 134), some (.int l1), some (.int l2)], [.ref 134, .int 119, .ref 134], Wm pre post I1 A1)) rfl ?_
      refine go_gf rfl (w_0 hp) rfl ?_
      refine go_run 1 (F' := (140, [some (.ref 134), some (.int l1), some (.int l2)], [.int l1, .ref 140, .int 119, .ref 134], Wm pre post I1 A1)) rfl ?_
      refine go_iald rfl (by decide) (w_6 hp) b1 rfl ?_
      refine go_run 1 (F' := (142, [some (.ref 134), some (.int l1), some (.int l2)], [.int (119 + ((A1 6) (Int32.toNatClampNeg l1))), .ref 134], Wm pre post I1 A1)) rfl ?_
      obtain ⟨I2, A2, v2, e2, hm⟩ := xb_inv hm
      refine go_call (m' := 157) (v := none) (h1 := Wm pre post I2 A2) rfl (by simp only [ie_step, ie_iv, List.drop, w_0 hp]; rfl) ⟨rfl, Nat.le_of_ble_eq_true rfl⟩ (g_add (d := d + 1) hp e2) ?_
      refine go_run 0 (F' := (145, [some (.ref 134), some (.int l1), some (.int l2)], [], Wm pre post I2 A2)) rfl ?_
      refine go_run 2 (F' := (148, [some (.ref 134), some (.int l1), some (.int l2)], [.int 62, .ref 134], Wm pre post I2 A2)) rfl ?_
      obtain ⟨I3, A3, v3, e3, hm⟩ := xb_inv hm
      refine go_call (m' := 157) (v := none) (h1 := Wm pre post I3 A3) rfl (by simp only [ie_step, ie_iv, List.drop, w_0 hp]; rfl) ⟨rfl, Nat.le_of_ble_eq_true rfl⟩ (g_add (d := d + 1) hp e3) ?_
      refine go_run 0 (F' := (151, [some (.ref 134), some (.int l1), some (.int l2)], [], Wm pre post I3 A3)) rfl ?_
      refine go_run 3 (F' := (155, [some (.ref 134), some (.int l1), some (.int l2)], [.ref 134, .int 65, .ref 134], Wm pre post I3 A3)) rfl ?_
      refine go_gf rfl (w_0 hp) rfl ?_
      refine go_run 1 (F' := (159, [some (.ref 134), some (.int l1), some (.int l2)], [.int l1, .ref 138, .int 65, .ref 134], Wm pre post I3 A3)) rfl ?_
      refine go_iald rfl (by decide) (w_4 hp) b1 rfl ?_
      refine go_run 1 (F' := (161, [some (.ref 134), some (.int l1), some (.int l2)], [.int (65 + ((A3 4) (Int32.toNatClampNeg l1))), .ref 134], Wm pre post I3 A3)) rfl ?_
      obtain ⟨I4, A4, v4, e4, hm⟩ := xb_inv hm
      refine go_call (m' := 157) (v := none) (h1 := Wm pre post I4 A4) rfl (by simp only [ie_step, ie_iv, List.drop, w_0 hp]; rfl) ⟨rfl, Nat.le_of_ble_eq_true rfl⟩ (g_add (d := d + 1) hp e4) ?_
      refine go_run 0 (F' := (164, [some (.ref 134), some (.int l1), some (.int l2)], [], Wm pre post I4 A4)) rfl ?_
      refine go_run 1 (F' := (200, [some (.ref 134), some (.int l1), some (.int l2)], [], Wm pre post I4 A4)) rfl ?_
      cases hm
      exact go_end rfl rfl
    · rw [if_neg q3] at hm ⊢
      refine go_run 0 (F' := (167, [some (.ref 134), some (.int l1), some (.int l2)], [], Wm pre post I A)) rfl ?_
      refine go_run 0 (F' := (167, [some (.ref 134), some (.int l1), some (.int l2)], [], Wm pre post I A)) rfl ?_
      exact g_addSimple_167 hp  hm
  · rw [if_neg q2] at hm ⊢
    refine go_run 0 (F' := (167, [some (.ref 134), some (.int l1), some (.int l2)], [], Wm pre post I A)) rfl ?_
    refine go_run 0 (F' := (167, [some (.ref 134), some (.int l1), some (.int l2)], [], Wm pre post I A)) rfl ?_
    exact g_addSimple_167 hp  hm
def x_addSimple_53 (n : Nat) (I : Nat → Int32) (A : Nat → Nat → Int32) (l1 l2 : Int32) : Option xR := (if ib l1 200 then (if (A 3) (Int32.toNatClampNeg l1) = 2 then (if l2 = (A 4) (Int32.toNatClampNeg l1) then (xb (x_add I A 59) fun I1 A1 v1 => (xb (x_add I1 A1 (65 + ((A1 5) (Int32.toNatClampNeg l1)))) fun I2 A2 v2 => (xb (x_add I2 A2 62) fun I3 A3 v3 => (xb (x_addExpression n I3 A3 l1) fun I4 A4 v4 => (some (I4, A4, 0)))))) else (x_addSimple_106  n I A l1 l2)) else (x_addSimple_106  n I A l1 l2)) else none)
theorem g_addSimple_53 {X : ie_X} {d : Nat} {pre post : ie_H} (hp : pre.length = 134) {n : Nat} {I : Nat → Int32} {A : Nat → Nat → Int32} {l1 l2 : Int32} {I' : Nat → Int32} {A' : Nat → Nat → Int32} {r : Int32} (hm : x_addSimple_53 n I A l1 l2 = some (I', A', r)) : Go X (d + 2) 174 (53, [some (.ref 134), some (.int l1), some (.int l2)], [], Wm pre post I A) (.inl none) (Wm pre post I' A') := by
  unfold x_addSimple_53 at hm
  refine go_run 0 (F' := (53, [some (.ref 134), some (.int l1), some (.int l2)], [], Wm pre post I A)) rfl ?_
  refine go_run 1 (F' := (54, [some (.ref 134), some (.int l1), some (.int l2)], [.ref 134], Wm pre post I A)) rfl ?_
  refine go_gf rfl (w_0 hp) rfl ?_
  refine go_run 1 (F' := (58, [some (.ref 134), some (.int l1), some (.int l2)], [.int l1, .ref 137], Wm pre post I A)) rfl ?_
  obtain ⟨b1, hm⟩ := gd hm
  refine go_iald rfl (by decide) (w_3 hp) b1 rfl ?_
  refine go_run 1 (F' := (60, [some (.ref 134), some (.int l1), some (.int l2)], [.int 2, .int ((A 3) (Int32.toNatClampNeg l1))], Wm pre post I A)) rfl ?_
  refine go_step rfl rfl ?_
  by_cases q2 : (A 3) (Int32.toNatClampNeg l1) = 2
  · rw [if_pos q2] at hm ⊢
    refine go_run 0 (F' := (63, [some (.ref 134), some (.int l1), some (.int l2)], [], Wm pre post I A)) rfl ?_
    refine go_run 2 (F' := (65, [some (.ref 134), some (.int l1), some (.int l2)], [.ref 134, .int l2], Wm pre post I A)) rfl ?_
    refine go_gf rfl (w_0 hp) rfl ?_
    refine go_run 1 (F' := (69, [some (.ref 134), some (.int l1), some (.int l2)], [.int l1, .ref 138, .int l2], Wm pre post I A)) rfl ?_
    refine go_iald rfl (by decide) (w_4 hp) b1 rfl ?_
    refine go_run 0 (F' := (70, [some (.ref 134), some (.int l1), some (.int l2)], [.int ((A 4) (Int32.toNatClampNeg l1)), .int l2], Wm pre post I A)) rfl ?_
    refine go_step rfl rfl ?_
    by_cases q3 : l2 = (A 4) (Int32.toNatClampNeg l1)
    · rw [if_pos q3] at hm ⊢
      refine go_run 0 (F' := (73, [some (.ref 134), some (.int l1), some (.int l2)], [], Wm pre post I A)) rfl ?_
      refine go_run 2 (F' := (76, [some (.ref 134), some (.int l1), some (.int l2)], [.int 59, .ref 134], Wm pre post I A)) rfl ?_
      obtain ⟨I1, A1, v1, e1, hm⟩ := xb_inv hm
      refine go_call (m' := 157) (v := none) (h1 := Wm pre post I1 A1) rfl (by simp only [ie_step, ie_iv, List.drop, w_0 hp]; rfl) ⟨rfl, Nat.le_of_ble_eq_true rfl⟩ (g_add (d := d + 1) hp e1) ?_
      refine go_run 0 (F' := (79, [some (.ref 134), some (.int l1), some (.int l2)], [], Wm pre post I1 A1)) rfl ?_
      refine go_run 3 (F' := (83, [some (.ref 134), some (.int l1), some (.int l2)], [.ref 134, .int 65, .ref 134], Wm pre post I1 A1)) rfl ?_
      refine go_gf rfl (w_0 hp) rfl ?_
      refine go_run 1 (F' := (87, [some (.ref 134), some (.int l1), some (.int l2)], [.int l1, .ref 139, .int 65, .ref 134], Wm pre post I1 A1)) rfl ?_
      refine go_iald rfl (by decide) (w_5 hp) b1 rfl ?_
      refine go_run 1 (F' := (89, [some (.ref 134), some (.int l1), some (.int l2)], [.int (65 + ((A1 5) (Int32.toNatClampNeg l1))), .ref 134], Wm pre post I1 A1)) rfl ?_
      obtain ⟨I2, A2, v2, e2, hm⟩ := xb_inv hm
      refine go_call (m' := 157) (v := none) (h1 := Wm pre post I2 A2) rfl (by simp only [ie_step, ie_iv, List.drop, w_0 hp]; rfl) ⟨rfl, Nat.le_of_ble_eq_true rfl⟩ (g_add (d := d + 1) hp e2) ?_
      refine go_run 0 (F' := (92, [some (.ref 134), some (.int l1), some (.int l2)], [], Wm pre post I2 A2)) rfl ?_
      refine go_run 2 (F' := (95, [some (.ref 134), some (.int l1), some (.int l2)], [.int 62, .ref 134], Wm pre post I2 A2)) rfl ?_
      obtain ⟨I3, A3, v3, e3, hm⟩ := xb_inv hm
      refine go_call (m' := 157) (v := none) (h1 := Wm pre post I3 A3) rfl (by simp only [ie_step, ie_iv, List.drop, w_0 hp]; rfl) ⟨rfl, Nat.le_of_ble_eq_true rfl⟩ (g_add (d := d + 1) hp e3) ?_
      refine go_run 0 (F' := (98, [some (.ref 134), some (.int l1), some (.int l2)], [], Wm pre post I3 A3)) rfl ?_
      refine go_run 2 (F' := (100, [some (.ref 134), some (.int l1), some (.int l2)], [.int l1, .ref 134], Wm pre post I3 A3)) rfl ?_
      obtain ⟨I4, A4, v4, e4, hm⟩ := xb_inv hm
      refine go_call (m' := 171) (v := none) (h1 := Wm pre post I4 A4) rfl (by simp only [ie_step, ie_iv, List.drop, w_0 hp]; rfl) ⟨rfl, Nat.le_of_ble_eq_true rfl⟩ (g_addExpression (d := d) hp e4) ?_
      refine go_run 0 (F' := (103, [some (.ref 134), some (.int l1), some (.int l2)], [], Wm pre post I4 A4)) rfl ?_
      refine go_run 1 (F' := (200, [some (.ref 134), some (.int l1), some (.int l2)], [], Wm pre post I4 A4)) rfl ?_
      cases hm
      exact go_end rfl rfl
    · rw [if_neg q3] at hm ⊢
      refine go_run 0 (F' := (106, [some (.ref 134), some (.int l1), some (.int l2)], [], Wm pre post I A)) rfl ?_
      refine go_run 0 (F' := (106, [some (.ref 134), some (.int l1), some (.int l2)], [], Wm pre post I A)) rfl ?_
      exact g_addSimple_106 hp  hm
  · rw [if_neg q2] at hm ⊢
    refine go_run 0 (F' := (106, [some (.ref 134), some (.int l1), some (.int l2)], [], Wm pre post I A)) rfl ?_
    refine go_run 0 (F' := (106, [some (.ref 134), some (.int l1), some (.int l2)], [], Wm pre post I A)) rfl ?_
    exact g_addSimple_106 hp  hm
def x_addSimple (n : Nat) (I : Nat → Int32) (A : Nat → Nat → Int32) (a1 a2 : Int32) : Option xR := (if ib a1 200 then (if (A 3) (Int32.toNatClampNeg a1) = 1 then (if a2 = (A 4) (Int32.toNatClampNeg a1) then (xb (x_add I A 59) fun I1 A1 v1 => (xb (x_addExpression n I1 A1 a1) fun I2 A2 v2 => (xb (x_add I2 A2 58) fun I3 A3 v3 => (xb (x_add I3 A3 (119 + ((A3 6) (Int32.toNatClampNeg a1)))) fun I4 A4 v4 => (some (I4, A4, 0)))))) else (x_addSimple_53  n I A a1 a2)) else (x_addSimple_53  n I A a1 a2)) else none)
theorem g_addSimple {X : ie_X} {d : Nat} {pre post : ie_H} (hp : pre.length = 134) {n : Nat} {I : Nat → Int32} {A : Nat → Nat → Int32} {a1 a2 : Int32} {I' : Nat → Int32} {A' : Nat → Nat → Int32} {r : Int32} (hm : x_addSimple n I A a1 a2 = some (I', A', r)) : Go X (d + 2) 174 (0, ie_en 174 [.ref 134, .int a1, .int a2], [], Wm pre post I A) (.inl none) (Wm pre post I' A') := by
  unfold x_addSimple at hm
  refine go_run 0 (F' := (0, [some (.ref 134), some (.int a1), some (.int a2)], [], Wm pre post I A)) rfl ?_
  refine go_run 1 (F' := (1, [some (.ref 134), some (.int a1), some (.int a2)], [.ref 134], Wm pre post I A)) rfl ?_
  refine go_gf rfl (w_0 hp) rfl ?_
  refine go_run 1 (F' := (5, [some (.ref 134), some (.int a1), some (.int a2)], [.int a1, .ref 137], Wm pre post I A)) rfl ?_
  obtain ⟨b1, hm⟩ := gd hm
  refine go_iald rfl (by decide) (w_3 hp) b1 rfl ?_
  refine go_run 1 (F' := (7, [some (.ref 134), some (.int a1), some (.int a2)], [.int 1, .int ((A 3) (Int32.toNatClampNeg a1))], Wm pre post I A)) rfl ?_
  refine go_step rfl rfl ?_
  by_cases q2 : (A 3) (Int32.toNatClampNeg a1) = 1
  · rw [if_pos q2] at hm ⊢
    refine go_run 0 (F' := (10, [some (.ref 134), some (.int a1), some (.int a2)], [], Wm pre post I A)) rfl ?_
    refine go_run 2 (F' := (12, [some (.ref 134), some (.int a1), some (.int a2)], [.ref 134, .int a2], Wm pre post I A)) rfl ?_
    refine go_gf rfl (w_0 hp) rfl ?_
    refine go_run 1 (F' := (16, [some (.ref 134), some (.int a1), some (.int a2)], [.int a1, .ref 138, .int a2], Wm pre post I A)) rfl ?_
    refine go_iald rfl (by decide) (w_4 hp) b1 rfl ?_
    refine go_run 0 (F' := (17, [some (.ref 134), some (.int a1), some (.int a2)], [.int ((A 4) (Int32.toNatClampNeg a1)), .int a2], Wm pre post I A)) rfl ?_
    refine go_step rfl rfl ?_
    by_cases q3 : a2 = (A 4) (Int32.toNatClampNeg a1)
    · rw [if_pos q3] at hm ⊢
      refine go_run 0 (F' := (20, [some (.ref 134), some (.int a1), some (.int a2)], [], Wm pre post I A)) rfl ?_
      refine go_run 2 (F' := (23, [some (.ref 134), some (.int a1), some (.int a2)], [.int 59, .ref 134], Wm pre post I A)) rfl ?_
      obtain ⟨I1, A1, v1, e1, hm⟩ := xb_inv hm
      refine go_call (m' := 157) (v := none) (h1 := Wm pre post I1 A1) rfl (by simp only [ie_step, ie_iv, List.drop, w_0 hp]; rfl) ⟨rfl, Nat.le_of_ble_eq_true rfl⟩ (g_add (d := d + 1) hp e1) ?_
      refine go_run 0 (F' := (26, [some (.ref 134), some (.int a1), some (.int a2)], [], Wm pre post I1 A1)) rfl ?_
      refine go_run 2 (F' := (28, [some (.ref 134), some (.int a1), some (.int a2)], [.int a1, .ref 134], Wm pre post I1 A1)) rfl ?_
      obtain ⟨I2, A2, v2, e2, hm⟩ := xb_inv hm
      refine go_call (m' := 171) (v := none) (h1 := Wm pre post I2 A2) rfl (by simp only [ie_step, ie_iv, List.drop, w_0 hp]; rfl) ⟨rfl, Nat.le_of_ble_eq_true rfl⟩ (g_addExpression (d := d) hp e2) ?_
      refine go_run 0 (F' := (31, [some (.ref 134), some (.int a1), some (.int a2)], [], Wm pre post I2 A2)) rfl ?_
      refine go_run 2 (F' := (34, [some (.ref 134), some (.int a1), some (.int a2)], [.int 58, .ref 134], Wm pre post I2 A2)) rfl ?_
      obtain ⟨I3, A3, v3, e3, hm⟩ := xb_inv hm
      refine go_call (m' := 157) (v := none) (h1 := Wm pre post I3 A3) rfl (by simp only [ie_step, ie_iv, List.drop, w_0 hp]; rfl) ⟨rfl, Nat.le_of_ble_eq_true rfl⟩ (g_add (d := d + 1) hp e3) ?_
      refine go_run 0 (F' := (37, [some (.ref 134), some (.int a1), some (.int a2)], [], Wm pre post I3 A3)) rfl ?_
      refine go_run 3 (F' := (41, [some (.ref 134), some (.int a1), some (.int a2)], [.ref 134, .int 119, .ref 134], Wm pre post I3 A3)) rfl ?_
      refine go_gf rfl (w_0 hp) rfl ?_
      refine go_run 1 (F' := (45, [some (.ref 134), some (.int a1), some (.int a2)], [.int a1, .ref 140, .int 119, .ref 134], Wm pre post I3 A3)) rfl ?_
      refine go_iald rfl (by decide) (w_6 hp) b1 rfl ?_
      refine go_run 1 (F' := (47, [some (.ref 134), some (.int a1), some (.int a2)], [.int (119 + ((A3 6) (Int32.toNatClampNeg a1))), .ref 134], Wm pre post I3 A3)) rfl ?_
      obtain ⟨I4, A4, v4, e4, hm⟩ := xb_inv hm
      refine go_call (m' := 157) (v := none) (h1 := Wm pre post I4 A4) rfl (by simp only [ie_step, ie_iv, List.drop, w_0 hp]; rfl) ⟨rfl, Nat.le_of_ble_eq_true rfl⟩ (g_add (d := d + 1) hp e4) ?_
      refine go_run 0 (F' := (50, [some (.ref 134), some (.int a1), some (.int a2)], [], Wm pre post I4 A4)) rfl ?_
      refine go_run 1 (F' := (200, [some (.ref 134), some (.int a1), some (.int a2)], [], Wm pre post I4 A4)) rfl ?_
      cases hm
      exact go_end rfl rfl
    · rw [if_neg q3] at hm ⊢
      refine go_run 0 (F' := (53, [some (.ref 134), some (.int a1), some (.int a2)], [], Wm pre post I A)) rfl ?_
      refine go_run 0 (F' := (53, [some (.ref 134), some (.int a1), some (.int a2)], [], Wm pre post I A)) rfl ?_
      exact g_addSimple_53 hp  hm
  · rw [if_neg q2] at hm ⊢
    refine go_run 0 (F' := (53, [some (.ref 134), some (.int a1), some (.int a2)], [], Wm pre post I A)) rfl ?_
    refine go_run 0 (F' := (53, [some (.ref 134), some (.int a1), some (.int a2)], [], Wm pre post I A)) rfl ?_
    exact g_addSimple_53 hp  hm
def x_cut_90 (rec22 : (Nat → Int32) → (Nat → Nat → Int32) → Int32 → Int32 → Int32 → Option xR) : Nat → (Nat → Int32) → (Nat → Nat → Int32) → Int32 → Int32 → Int32 → Int32 → Int32 → Option xR
  | 0, _, _, _, _, _, _, _ => none
  | n + 1, I, A, l1, l2, l4, l5, l6 => (if l6 < 0 then (rec22 I A l1 l2 (l4 + (-1))) else (if ib l5 200 then (if (A 3) (Int32.toNatClampNeg l5) = 4 then (if (((A 14) (Int32.toNatClampNeg l5)) >>> (l6 &&& 31)) &&& 1 = 1 then (if ib l4 200 then (xb (x_addTold n I A ((A 4) (Int32.toNatClampNeg l5)) l6 ((A 13) (Int32.toNatClampNeg l4)) l1) fun I1 A1 v1 => (x_cut_90 rec22 n I1 A1 l1 l2 l4 l5 (l6 + (-1)))) else none) else (x_cut_90 rec22 n I A l1 l2 l4 l5 (l6 + (-1)))) else (rec22 I A l1 l2 (l4 + (-1)))) else none))
theorem g_cut_90 {X : ie_X} {d : Nat} {pre post : ie_H} (hp : pre.length = 134) {rec22 : (Nat → Int32) → (Nat → Nat → Int32) → Int32 → Int32 → Int32 → Option xR} (hr22 : ∀ {J : Nat → Int32} {B : Nat → Nat → Int32} {m1 m2 m4 : Int32} {w3 w5 w6 : Option Value} {J' : Nat → Int32} {B' : Nat → Nat → Int32} {r' : Int32}, rec22 J B m1 m2 m4 = some (J', B', r') → Go X (d + 4) 155 (22, [some (.ref 134), some (.int m1), some (.int m2), w3, some (.int m4), w5, w6], [], Wm pre post J B) (.inl none) (Wm pre post J' B')) : ∀ (n : Nat) {I : Nat → Int32} {A : Nat → Nat → Int32} {l1 l2 l4 l5 l6 : Int32} {u3 : Option Value} {I' : Nat → Int32} {A' : Nat → Nat → Int32} {r : Int32}, x_cut_90 rec22 n I A l1 l2 l4 l5 l6 = some (I', A', r) → Go X (d + 4) 155 (90, [some (.ref 134), some (.int l1), some (.int l2), u3, some (.int l4), some (.int l5), some (.int l6)], [], Wm pre post I A) (.inl none) (Wm pre post I' A') := by
  intro n
  induction n with
  | zero => intro I A l1 l2 l4 l5 l6 u3 I' A' r hm; cases hm
  | succ n ih =>
    intro I A l1 l2 l4 l5 l6 u3 I' A' r hm
    unfold x_cut_90 at hm
    refine go_run 0 (F' := (90, [some (.ref 134), some (.int l1), some (.int l2), u3, some (.int l4), some (.int l5), some (.int l6)], [], Wm pre post I A)) rfl ?_
    refine go_run 1 (F' := (92, [some (.ref 134), some (.int l1), some (.int l2), u3, some (.int l4), some (.int l5), some (.int l6)], [.int l6], Wm pre post I A)) rfl ?_
    refine go_step rfl rfl ?_
    by_cases q1 : l6 < 0
    · rw [if_pos q1] at hm ⊢
      refine go_run 0 (F' := (149, [some (.ref 134), some (.int l1), some (.int l2), u3, some (.int l4), some (.int l5), some (.int l6)], [], Wm pre post I A)) rfl ?_
      refine go_run 3 (F' := (22, [some (.ref 134), some (.int l1), some (.int l2), u3, some (.int (l4 + (-1))), some (.int l5), some (.int l6)], [], Wm pre post I A)) rfl ?_
      exact hr22 hm
    · rw [if_neg q1] at hm ⊢
      refine go_run 0 (F' := (95, [some (.ref 134), some (.int l1), some (.int l2), u3, some (.int l4), some (.int l5), some (.int l6)], [], Wm pre post I A)) rfl ?_
      refine go_run 1 (F' := (96, [some (.ref 134), some (.int l1), some (.int l2), u3, some (.int l4), some (.int l5), some (.int l6)], [.ref 134], Wm pre post I A)) rfl ?_
      refine go_gf rfl (w_0 hp) rfl ?_
      refine go_run 1 (F' := (101, [some (.ref 134), some (.int l1), some (.int l2), u3, some (.int l4), some (.int l5), some (.int l6)], [.int l5, .ref 137], Wm pre post I A)) rfl ?_
      obtain ⟨b2, hm⟩ := gd hm
      refine go_iald rfl (by decide) (w_3 hp) b2 rfl ?_
      refine go_run 1 (F' := (103, [some (.ref 134), some (.int l1), some (.int l2), u3, some (.int l4), some (.int l5), some (.int l6)], [.int 4, .int ((A 3) (Int32.toNatClampNeg l5))], Wm pre post I A)) rfl ?_
      refine go_step rfl rfl ?_
      by_cases q3 : (A 3) (Int32.toNatClampNeg l5) = 4
      · rw [if_pos q3] at hm ⊢
        refine go_run 0 (F' := (106, [some (.ref 134), some (.int l1), some (.int l2), u3, some (.int l4), some (.int l5), some (.int l6)], [], Wm pre post I A)) rfl ?_
        refine go_run 1 (F' := (107, [some (.ref 134), some (.int l1), some (.int l2), u3, some (.int l4), some (.int l5), some (.int l6)], [.ref 134], Wm pre post I A)) rfl ?_
        refine go_gf rfl (w_0 hp) rfl ?_
        refine go_run 1 (F' := (112, [some (.ref 134), some (.int l1), some (.int l2), u3, some (.int l4), some (.int l5), some (.int l6)], [.int l5, .ref 148], Wm pre post I A)) rfl ?_
        refine go_iald rfl (by decide) (w_14 hp) b2 rfl ?_
        refine go_run 5 (F' := (119, [some (.ref 134), some (.int l1), some (.int l2), u3, some (.int l4), some (.int l5), some (.int l6)], [.int 1, .int ((((A 14) (Int32.toNatClampNeg l5)) >>> (l6 &&& 31)) &&& 1)], Wm pre post I A)) rfl ?_
        refine go_step rfl rfl ?_
        by_cases q4 : (((A 14) (Int32.toNatClampNeg l5)) >>> (l6 &&& 31)) &&& 1 = 1
        · rw [if_pos q4] at hm ⊢
          refine go_run 0 (F' := (122, [some (.ref 134), some (.int l1), some (.int l2), u3, some (.int l4), some (.int l5), some (.int l6)], [], Wm pre post I A)) rfl ?_
          refine go_run 2 (F' := (124, [some (.ref 134), some (.int l1), some (.int l2), u3, some (.int l4), some (.int l5), some (.int l6)], [.ref 134, .ref 134], Wm pre post I A)) rfl ?_
          refine go_gf rfl (w_0 hp) rfl ?_
          refine go_run 1 (F' := (129, [some (.ref 134), some (.int l1), some (.int l2), u3, some (.int l4), some (.int l5), some (.int l6)], [.int l5, .ref 138, .ref 134], Wm pre post I A)) rfl ?_
          refine go_iald rfl (by decide) (w_4 hp) b2 rfl ?_
          refine go_run 2 (F' := (133, [some (.ref 134), some (.int l1), some (.int l2), u3, some (.int l4), some (.int l5), some (.int l6)], [.ref 134, .int l6, .int ((A 4) (Int32.toNatClampNeg l5)), .ref 134], Wm pre post I A)) rfl ?_
          refine go_gf rfl (w_0 hp) rfl ?_
          refine go_run 1 (F' := (138, [some (.ref 134), some (.int l1), some (.int l2), u3, some (.int l4), some (.int l5), some (.int l6)], [.int l4, .ref 147, .int l6, .int ((A 4) (Int32.toNatClampNeg l5)), .ref 134], Wm pre post I A)) rfl ?_
          obtain ⟨b5, hm⟩ := gd hm
          refine go_iald rfl (by decide) (w_13 hp) b5 rfl ?_
          refine go_run 1 (F' := (140, [some (.ref 134), some (.int l1), some (.int l2), u3, some (.int l4), some (.int l5), some (.int l6)], [.int l1, .int ((A 13) (Int32.toNatClampNeg l4)), .int l6, .int ((A 4) (Int32.toNatClampNeg l5)), .ref 134], Wm pre post I A)) rfl ?_
          obtain ⟨I1, A1, v1, e1, hm⟩ := xb_inv hm
          refine go_call (m' := 156) (v := none) (h1 := Wm pre post I1 A1) rfl (by simp only [ie_step, ie_iv, List.drop, w_0 hp]; rfl) ⟨rfl, Nat.le_of_ble_eq_true rfl⟩ (g_addTold (d := d + 2) hp e1) ?_
          refine go_run 0 (F' := (143, [some (.ref 134), some (.int l1), some (.int l2), u3, some (.int l4), some (.int l5), some (.int l6)], [], Wm pre post I1 A1)) rfl ?_
          refine go_run 2 (F' := (90, [some (.ref 134), some (.int l1), some (.int l2), u3, some (.int l4), some (.int l5), some (.int (l6 + (-1)))], [], Wm pre post I1 A1)) rfl ?_
          exact ih hm
        · rw [if_neg q4] at hm ⊢
          refine go_run 0 (F' := (143, [some (.ref 134), some (.int l1), some (.int l2), u3, some (.int l4), some (.int l5), some (.int l6)], [], Wm pre post I A)) rfl ?_
          refine go_run 2 (F' := (90, [some (.ref 134), some (.int l1), some (.int l2), u3, some (.int l4), some (.int l5), some (.int (l6 + (-1)))], [], Wm pre post I A)) rfl ?_
          exact ih hm
      · rw [if_neg q3] at hm ⊢
        refine go_run 0 (F' := (149, [some (.ref 134), some (.int l1), some (.int l2), u3, some (.int l4), some (.int l5), some (.int l6)], [], Wm pre post I A)) rfl ?_
        refine go_run 3 (F' := (22, [some (.ref 134), some (.int l1), some (.int l2), u3, some (.int (l4 + (-1))), some (.int l5), some (.int l6)], [], Wm pre post I A)) rfl ?_
        exact hr22 hm
def x_cut_22 : Nat → (Nat → Int32) → (Nat → Nat → Int32) → Int32 → Int32 → Int32 → Option xR
  | 0, _, _, _, _, _ => none
  | n + 1, I, A, l1, l2, l4 => (if l4 < l2 then (some (I, A, 0)) else (if ib l4 200 then (if (A 3) (Int32.toNatClampNeg l4) = 7 then (if ib ((I 13) + 1) 20 then (x_cut_22 n (upd I 13 ((I 13) + 1)) (upA A 29 (upd (A 29) (Int32.toNatClampNeg ((I 13) + 1)) (I 12))) l1 l2 (l4 + (-1))) else none) else (if (A 3) (Int32.toNatClampNeg l4) = 6 then (x_cut_90 (x_cut_22 n) n I A l1 l2 l4 ((A 12) (Int32.toNatClampNeg l4)) 5) else (if (A 3) (Int32.toNatClampNeg l4) = 4 then (xb (x_addChoice n I A l4 l1) fun I1 A1 v1 => (x_cut_22 n I1 A1 l1 l2 (l4 + (-1)))) else (if (A 3) (Int32.toNatClampNeg l4) = 5 then (xb (x_addRound n I A l4 l1) fun I2 A2 v2 => (x_cut_22 n I2 A2 l1 l2 (l4 + (-1)))) else (xb (x_addSimple n I A l4 l1) fun I3 A3 v3 => (x_cut_22 n I3 A3 l1 l2 (l4 + (-1)))))))) else none))
theorem g_cut_22 {X : ie_X} {d : Nat} {pre post : ie_H} (hp : pre.length = 134) : ∀ (n : Nat) {I : Nat → Int32} {A : Nat → Nat → Int32} {l1 l2 l4 : Int32} {u3 u5 u6 : Option Value} {I' : Nat → Int32} {A' : Nat → Nat → Int32} {r : Int32}, x_cut_22 n I A l1 l2 l4 = some (I', A', r) → Go X (d + 4) 155 (22, [some (.ref 134), some (.int l1), some (.int l2), u3, some (.int l4), u5, u6], [], Wm pre post I A) (.inl none) (Wm pre post I' A') := by
  intro n
  induction n with
  | zero => intro I A l1 l2 l4 u3 u5 u6 I' A' r hm; cases hm
  | succ n ih =>
    intro I A l1 l2 l4 u3 u5 u6 I' A' r hm
    unfold x_cut_22 at hm
    refine go_run 0 (F' := (22, [some (.ref 134), some (.int l1), some (.int l2), u3, some (.int l4), u5, u6], [], Wm pre post I A)) rfl ?_
    refine go_run 2 (F' := (25, [some (.ref 134), some (.int l1), some (.int l2), u3, some (.int l4), u5, u6], [.int l2, .int l4], Wm pre post I A)) rfl ?_
    refine go_step rfl rfl ?_
    by_cases q1 : l4 < l2
    · rw [if_pos q1] at hm ⊢
      refine go_run 0 (F' := (207, [some (.ref 134), some (.int l1), some (.int l2), u3, some (.int l4), u5, u6], [], Wm pre post I A)) rfl ?_
      refine go_run 0 (F' := (207, [some (.ref 134), some (.int l1), some (.int l2), u3, some (.int l4), u5, u6], [], Wm pre post I A)) rfl ?_
      cases hm
      exact go_end rfl rfl
    · rw [if_neg q1] at hm ⊢
      refine go_run 0 (F' := (28, [some (.ref 134), some (.int l1), some (.int l2), u3, some (.int l4), u5, u6], [], Wm pre post I A)) rfl ?_
      refine go_run 1 (F' := (29, [some (.ref 134), some (.int l1), some (.int l2), u3, some (.int l4), u5, u6], [.ref 134], Wm pre post I A)) rfl ?_
      refine go_gf rfl (w_0 hp) rfl ?_
      refine go_run 1 (F' := (34, [some (.ref 134), some (.int l1), some (.int l2), u3, some (.int l4), u5, u6], [.int l4, .ref 137], Wm pre post I A)) rfl ?_
      obtain ⟨b2, hm⟩ := gd hm
      refine go_iald rfl (by decide) (w_3 hp) b2 rfl ?_
      refine go_run 1 (F' := (37, [some (.ref 134), some (.int l1), some (.int l2), u3, some (.int l4), u5, u6], [.int 7, .int ((A 3) (Int32.toNatClampNeg l4))], Wm pre post I A)) rfl ?_
      refine go_step rfl rfl ?_
      by_cases q3 : (A 3) (Int32.toNatClampNeg l4) = 7
      · rw [if_pos q3] at hm ⊢
        refine go_run 0 (F' := (40, [some (.ref 134), some (.int l1), some (.int l2), u3, some (.int l4), u5, u6], [], Wm pre post I A)) rfl ?_
        refine go_run 2 (F' := (42, [some (.ref 134), some (.int l1), some (.int l2), u3, some (.int l4), u5, u6], [.ref 134, .ref 134], Wm pre post I A)) rfl ?_
        refine go_gf rfl (w_0 hp) rfl ?_
        refine go_run 2 (F' := (47, [some (.ref 134), some (.int l1), some (.int l2), u3, some (.int l4), u5, u6], [.int ((I 13) + 1), .ref 134], Wm pre post I A)) rfl ?_
        refine go_pf rfl (w_0 hp) (Nat.le_of_ble_eq_true rfl) rfl (wo_13 hp) ?_
        refine go_run 1 (F' := (51, [some (.ref 134), some (.int l1), some (.int l2), u3, some (.int l4), u5, u6], [.ref 134], Wm pre post (upd I 13 ((I 13) + 1)) A)) rfl ?_
        refine go_gf rfl (w_0 hp) rfl ?_
        refine go_run 1 (F' := (55, [some (.ref 134), some (.int l1), some (.int l2), u3, some (.int l4), u5, u6], [.ref 134, .ref 163], Wm pre post (upd I 13 ((I 13) + 1)) A)) rfl ?_
        refine go_gf rfl (w_0 hp) rfl ?_
        refine go_run 1 (F' := (59, [some (.ref 134), some (.int l1), some (.int l2), u3, some (.int l4), u5, u6], [.ref 134, .int ((I 13) + 1), .ref 163], Wm pre post (upd I 13 ((I 13) + 1)) A)) rfl ?_
        refine go_gf rfl (w_0 hp) rfl ?_
        refine go_run 0 (F' := (62, [some (.ref 134), some (.int l1), some (.int l2), u3, some (.int l4), u5, u6], [.int (I 12), .int ((I 13) + 1), .ref 163], Wm pre post (upd I 13 ((I 13) + 1)) A)) rfl ?_
        obtain ⟨b4, hm⟩ := gd hm
        refine go_iast rfl (w_29 hp) b4 (ws_29 hp) ?_
        refine go_run 3 (F' := (22, [some (.ref 134), some (.int l1), some (.int l2), u3, some (.int (l4 + (-1))), u5, u6], [], Wm pre post (upd I 13 ((I 13) + 1)) (upA A 29 (upd (A 29) (Int32.toNatClampNeg ((I 13) + 1)) (I 12))))) rfl ?_
        exact ih hm
      · rw [if_neg q3] at hm ⊢
        refine go_run 0 (F' := (66, [some (.ref 134), some (.int l1), some (.int l2), u3, some (.int l4), u5, u6], [], Wm pre post I A)) rfl ?_
        refine go_run 1 (F' := (67, [some (.ref 134), some (.int l1), some (.int l2), u3, some (.int l4), u5, u6], [.ref 134], Wm pre post I A)) rfl ?_
        refine go_gf rfl (w_0 hp) rfl ?_
        refine go_run 1 (F' := (72, [some (.ref 134), some (.int l1), some (.int l2), u3, some (.int l4), u5, u6], [.int l4, .ref 137], Wm pre post I A)) rfl ?_
        refine go_iald rfl (by decide) (w_3 hp) b2 rfl ?_
        refine go_run 1 (F' := (75, [some (.ref 134), some (.int l1), some (.int l2), u3, some (.int l4), u5, u6], [.int 6, .int ((A 3) (Int32.toNatClampNeg l4))], Wm pre post I A)) rfl ?_
        refine go_step rfl rfl ?_
        by_cases q5 : (A 3) (Int32.toNatClampNeg l4) = 6
        · rw [if_pos q5] at hm ⊢
          refine go_run 0 (F' := (78, [some (.ref 134), some (.int l1), some (.int l2), u3, some (.int l4), u5, u6], [], Wm pre post I A)) rfl ?_
          refine go_run 1 (F' := (79, [some (.ref 134), some (.int l1), some (.int l2), u3, some (.int l4), u5, u6], [.ref 134], Wm pre post I A)) rfl ?_
          refine go_gf rfl (w_0 hp) rfl ?_
          refine go_run 1 (F' := (84, [some (.ref 134), some (.int l1), some (.int l2), u3, some (.int l4), u5, u6], [.int l4, .ref 146], Wm pre post I A)) rfl ?_
          refine go_iald rfl (by decide) (w_12 hp) b2 rfl ?_
          refine go_run 3 (F' := (90, [some (.ref 134), some (.int l1), some (.int l2), u3, some (.int l4), some (.int ((A 12) (Int32.toNatClampNeg l4))), some (.int 5)], [], Wm pre post I A)) rfl ?_
          exact g_cut_90 hp (fun z => ih z) n hm
        · rw [if_neg q5] at hm ⊢
          refine go_run 0 (F' := (152, [some (.ref 134), some (.int l1), some (.int l2), u3, some (.int l4), u5, u6], [], Wm pre post I A)) rfl ?_
          refine go_run 1 (F' := (153, [some (.ref 134), some (.int l1), some (.int l2), u3, some (.int l4), u5, u6], [.ref 134], Wm pre post I A)) rfl ?_
          refine go_gf rfl (w_0 hp) rfl ?_
          refine go_run 1 (F' := (158, [some (.ref 134), some (.int l1), some (.int l2), u3, some (.int l4), u5, u6], [.int l4, .ref 137], Wm pre post I A)) rfl ?_
          refine go_iald rfl (by decide) (w_3 hp) b2 rfl ?_
          refine go_run 1 (F' := (160, [some (.ref 134), some (.int l1), some (.int l2), u3, some (.int l4), u5, u6], [.int 4, .int ((A 3) (Int32.toNatClampNeg l4))], Wm pre post I A)) rfl ?_
          refine go_step rfl rfl ?_
          by_cases q6 : (A 3) (Int32.toNatClampNeg l4) = 4
          · rw [if_pos q6] at hm ⊢
            refine go_run 0 (F' := (163, [some (.ref 134), some (.int l1), some (.int l2), u3, some (.int l4), u5, u6], [], Wm pre post I A)) rfl ?_
            refine go_run 3 (F' := (167, [some (.ref 134), some (.int l1), some (.int l2), u3, some (.int l4), u5, u6], [.int l1, .int l4, .ref 134], Wm pre post I A)) rfl ?_
            obtain ⟨I1, A1, v1, e1, hm⟩ := xb_inv hm
            refine go_call (m' := 158) (v := none) (h1 := Wm pre post I1 A1) rfl (by simp only [ie_step, ie_iv, List.drop, w_0 hp]; rfl) ⟨rfl, Nat.le_of_ble_eq_true rfl⟩ (g_addChoice (d := d) hp e1) ?_
            refine go_run 0 (F' := (170, [some (.ref 134), some (.int l1), some (.int l2), u3, some (.int l4), u5, u6], [], Wm pre post I1 A1)) rfl ?_
            refine go_run 3 (F' := (22, [some (.ref 134), some (.int l1), some (.int l2), u3, some (.int (l4 + (-1))), u5, u6], [], Wm pre post I1 A1)) rfl ?_
            exact ih hm
          · rw [if_neg q6] at hm ⊢
            refine go_run 0 (F' := (173, [some (.ref 134), some (.int l1), some (.int l2), u3, some (.int l4), u5, u6], [], Wm pre post I A)) rfl ?_
            refine go_run 1 (F' := (174, [some (.ref 134), some (.int l1), some (.int l2), u3, some (.int l4), u5, u6], [.ref 134], Wm pre post I A)) rfl ?_
            refine go_gf rfl (w_0 hp) rfl ?_
            refine go_run 1 (F' := (179, [some (.ref 134), some (.int l1), some (.int l2), u3, some (.int l4), u5, u6], [.int l4, .ref 137], Wm pre post I A)) rfl ?_
            refine go_iald rfl (by decide) (w_3 hp) b2 rfl ?_
            refine go_run 1 (F' := (181, [some (.ref 134), some (.int l1), some (.int l2), u3, some (.int l4), u5, u6], [.int 5, .int ((A 3) (Int32.toNatClampNeg l4))], Wm pre post I A)) rfl ?_
            refine go_step rfl rfl ?_
            by_cases q7 : (A 3) (Int32.toNatClampNeg l4) = 5
            · rw [if_pos q7] at hm ⊢
              refine go_run 0 (F' := (184, [some (.ref 134), some (.int l1), some (.int l2), u3, some (.int l4), u5, u6], [], Wm pre post I A)) rfl ?_
              refine go_run 3 (F' := (188, [some (.ref 134), some (.int l1), some (.int l2), u3, some (.int l4), u5, u6], [.int l1, .int l4, .ref 134], Wm pre post I A)) rfl ?_
              obtain ⟨I2, A2, v2, e2, hm⟩ := xb_inv hm
              refine go_call (m' := 172) (v := none) (h1 := Wm pre post I2 A2) rfl (by simp only [ie_step, ie_iv, List.drop, w_0 hp]; rfl) ⟨rfl, Nat.le_of_ble_eq_true rfl⟩ (g_addRound (d := d + 1) hp e2) ?_
              refine go_run 0 (F' := (191, [some (.ref 134), some (.int l1), some (.int l2), u3, some (.int l4), u5, u6], [], Wm pre post I2 A2)) rfl ?_
              refine go_run 3 (F' := (22, [some (.ref 134), some (.int l1), some (.int l2), u3, some (.int (l4 + (-1))), u5, u6], [], Wm pre post I2 A2)) rfl ?_
              exact ih hm
            · rw [if_neg q7] at hm ⊢
              refine go_run 0 (F' := (194, [some (.ref 134), some (.int l1), some (.int l2), u3, some (.int l4), u5, u6], [], Wm pre post I A)) rfl ?_
              refine go_run 3 (F' := (198, [some (.ref 134), some (.int l1), some (.int l2), u3, some (.int l4), u5, u6], [.int l1, .int l4, .ref 134], Wm pre post I A)) rfl ?_
              obtain ⟨I3, A3, v3, e3, hm⟩ := xb_inv hm
              refine go_call (m' := 174) (v := none) (h1 := Wm pre post I3 A3) rfl (by simp only [ie_step, ie_iv, List.drop, w_0 hp]; rfl) ⟨rfl, Nat.le_of_ble_eq_true rfl⟩ (g_addSimple (d := d + 1) hp e3) ?_
              refine go_run 0 (F' := (201, [some (.ref 134), some (.int l1), some (.int l2), u3, some (.int l4), u5, u6], [], Wm pre post I3 A3)) rfl ?_
              refine go_run 2 (F' := (22, [some (.ref 134), some (.int l1), some (.int l2), u3, some (.int (l4 + (-1))), u5, u6], [], Wm pre post I3 A3)) rfl ?_
              exact ih hm
def x_cut (n : Nat) (I : Nat → Int32) (A : Nat → Nat → Int32) (a1 a2 a3 : Int32) : Option xR := (x_cut_22  n (upd (upd I 12 0) 13 0) (upA A 29 (upd (A 29) 0 0)) a1 a2 (a3 - 1))
theorem g_cut {X : ie_X} {d : Nat} {pre post : ie_H} (hp : pre.length = 134) {n : Nat} {I : Nat → Int32} {A : Nat → Nat → Int32} {a1 a2 a3 : Int32} {I' : Nat → Int32} {A' : Nat → Nat → Int32} {r : Int32} (hm : x_cut n I A a1 a2 a3 = some (I', A', r)) : Go X (d + 4) 155 (0, ie_en 155 [.ref 134, .int a1, .int a2, .int a3], [], Wm pre post I A) (.inl none) (Wm pre post I' A') := by
  unfold x_cut at hm
  refine go_run 0 (F' := (0, [some (.ref 134), some (.int a1), some (.int a2), some (.int a3), none, none, none], [], Wm pre post I A)) rfl ?_
  refine go_run 2 (F' := (2, [some (.ref 134), some (.int a1), some (.int a2), some (.int a3), none, none, none], [.int 0, .ref 134], Wm pre post I A)) rfl ?_
  refine go_pf rfl (w_0 hp) (Nat.le_of_ble_eq_true rfl) rfl (wo_12 hp) ?_
  refine go_run 2 (F' := (7, [some (.ref 134), some (.int a1), some (.int a2), some (.int a3), none, none, none], [.int 0, .ref 134], Wm pre post (upd I 12 0) A)) rfl ?_
  refine go_pf rfl (w_0 hp) (Nat.le_of_ble_eq_true rfl) rfl (wo_13 hp) ?_
  refine go_run 1 (F' := (11, [some (.ref 134), some (.int a1), some (.int a2), some (.int a3), none, none, none], [.ref 134], Wm pre post (upd (upd I 12 0) 13 0) A)) rfl ?_
  refine go_gf rfl (w_0 hp) rfl ?_
  refine go_run 2 (F' := (16, [some (.ref 134), some (.int a1), some (.int a2), some (.int a3), none, none, none], [.int 0, .int 0, .ref 163], Wm pre post (upd (upd I 12 0) 13 0) A)) rfl ?_
  refine go_iast rfl (w_29 hp) (by decide) (ws_29 hp) ?_
  refine go_run 4 (F' := (22, [some (.ref 134), some (.int a1), some (.int a2), some (.int a3), some (.int (a3 - 1)), none, none], [], Wm pre post (upd (upd I 12 0) 13 0) (upA A 29 (upd (A 29) 0 0)))) rfl ?_
  exact g_cut_22 hp  n hm
def x_keepB_2 : Nat → (Nat → Int32) → (Nat → Nat → Int32) → Int32 → Int32 → Option xR
  | 0, _, _, _, _ => none
  | n + 1, I, A, l1, l2 => (if l1 ≤ l2 then (some (I, A, 0)) else (if ib l2 1000 then (x_keepB_2 n I (upA A 42 (upd (A 42) (Int32.toNatClampNeg l2) ((A 31) (Int32.toNatClampNeg l2)))) l1 (l2 + 1)) else none))
theorem g_keepB_2 {X : ie_X} {d : Nat} {pre post : ie_H} (hp : pre.length = 134) : ∀ (n : Nat) {I : Nat → Int32} {A : Nat → Nat → Int32} {l1 l2 : Int32} {I' : Nat → Int32} {A' : Nat → Nat → Int32} {r : Int32}, x_keepB_2 n I A l1 l2 = some (I', A', r) → Go X (d + 0) 175 (2, [some (.ref 134), some (.int l1), some (.int l2)], [], Wm pre post I A) (.inl none) (Wm pre post I' A') := by
  intro n
  induction n with
  | zero => intro I A l1 l2 I' A' r hm; cases hm
  | succ n ih =>
    intro I A l1 l2 I' A' r hm
    unfold x_keepB_2 at hm
    refine go_run 0 (F' := (2, [some (.ref 134), some (.int l1), some (.int l2)], [], Wm pre post I A)) rfl ?_
    refine go_run 2 (F' := (4, [some (.ref 134), some (.int l1), some (.int l2)], [.int l1, .int l2], Wm pre post I A)) rfl ?_
    refine go_step rfl rfl ?_
    by_cases q1 : l1 ≤ l2
    · rw [if_pos q1] at hm ⊢
      refine go_run 0 (F' := (25, [some (.ref 134), some (.int l1), some (.int l2)], [], Wm pre post I A)) rfl ?_
      refine go_run 0 (F' := (25, [some (.ref 134), some (.int l1), some (.int l2)], [], Wm pre post I A)) rfl ?_
      cases hm
      exact go_end rfl rfl
    · rw [if_neg q1] at hm ⊢
      refine go_run 0 (F' := (7, [some (.ref 134), some (.int l1), some (.int l2)], [], Wm pre post I A)) rfl ?_
      refine go_run 1 (F' := (8, [some (.ref 134), some (.int l1), some (.int l2)], [.ref 134], Wm pre post I A)) rfl ?_
      refine go_gf rfl (w_0 hp) rfl ?_
      refine go_run 2 (F' := (13, [some (.ref 134), some (.int l1), some (.int l2)], [.ref 134, .int l2, .ref 176], Wm pre post I A)) rfl ?_
      refine go_gf rfl (w_0 hp) rfl ?_
      refine go_run 1 (F' := (17, [some (.ref 134), some (.int l1), some (.int l2)], [.int l2, .ref 165, .int l2, .ref 176], Wm pre post I A)) rfl ?_
      obtain ⟨b2, hm⟩ := gd hm
      refine go_iald rfl (by decide) (w_31 hp) b2 rfl ?_
      refine go_run 0 (F' := (18, [some (.ref 134), some (.int l1), some (.int l2)], [.int ((A 31) (Int32.toNatClampNeg l2)), .int l2, .ref 176], Wm pre post I A)) rfl ?_
      refine go_iast rfl (w_42 hp) b2 (ws_42 hp) ?_
      refine go_run 2 (F' := (2, [some (.ref 134), some (.int l1), some (.int (l2 + 1))], [], Wm pre post I (upA A 42 (upd (A 42) (Int32.toNatClampNeg l2) ((A 31) (Int32.toNatClampNeg l2)))))) rfl ?_
      exact ih hm
def x_keepB (n : Nat) (I : Nat → Int32) (A : Nat → Nat → Int32) (a1 : Int32) : Option xR := (x_keepB_2  n I A a1 0)
theorem g_keepB {X : ie_X} {d : Nat} {pre post : ie_H} (hp : pre.length = 134) {n : Nat} {I : Nat → Int32} {A : Nat → Nat → Int32} {a1 : Int32} {I' : Nat → Int32} {A' : Nat → Nat → Int32} {r : Int32} (hm : x_keepB n I A a1 = some (I', A', r)) : Go X (d + 0) 175 (0, ie_en 175 [.ref 134, .int a1], [], Wm pre post I A) (.inl none) (Wm pre post I' A') := by
  unfold x_keepB at hm
  refine go_run 0 (F' := (0, [some (.ref 134), some (.int a1), none], [], Wm pre post I A)) rfl ?_
  refine go_run 2 (F' := (2, [some (.ref 134), some (.int a1), some (.int 0)], [], Wm pre post I A)) rfl ?_
  exact g_keepB_2 hp  n hm
def x_fetchB_7 : Nat → (Nat → Int32) → (Nat → Nat → Int32) → Int32 → Int32 → Option xR
  | 0, _, _, _, _ => none
  | n + 1, I, A, l1, l2 => (if l1 ≤ l2 then (some (I, A, 0)) else (if ib l2 1000 then (x_fetchB_7 n I (upA A 31 (upd (A 31) (Int32.toNatClampNeg l2) ((A 42) (Int32.toNatClampNeg l2)))) l1 (l2 + 1)) else none))
theorem g_fetchB_7 {X : ie_X} {d : Nat} {pre post : ie_H} (hp : pre.length = 134) : ∀ (n : Nat) {I : Nat → Int32} {A : Nat → Nat → Int32} {l1 l2 : Int32} {I' : Nat → Int32} {A' : Nat → Nat → Int32} {r : Int32}, x_fetchB_7 n I A l1 l2 = some (I', A', r) → Go X (d + 0) 176 (7, [some (.ref 134), some (.int l1), some (.int l2)], [], Wm pre post I A) (.inl none) (Wm pre post I' A') := by
  intro n
  induction n with
  | zero => intro I A l1 l2 I' A' r hm; cases hm
  | succ n ih =>
    intro I A l1 l2 I' A' r hm
    unfold x_fetchB_7 at hm
    refine go_run 0 (F' := (7, [some (.ref 134), some (.int l1), some (.int l2)], [], Wm pre post I A)) rfl ?_
    refine go_run 2 (F' := (9, [some (.ref 134), some (.int l1), some (.int l2)], [.int l1, .int l2], Wm pre post I A)) rfl ?_
    refine go_step rfl rfl ?_
    by_cases q1 : l1 ≤ l2
    · rw [if_pos q1] at hm ⊢
      refine go_run 0 (F' := (30, [some (.ref 134), some (.int l1), some (.int l2)], [], Wm pre post I A)) rfl ?_
      refine go_run 0 (F' := (30, [some (.ref 134), some (.int l1), some (.int l2)], [], Wm pre post I A)) rfl ?_
      cases hm
      exact go_end rfl rfl
    · rw [if_neg q1] at hm ⊢
      refine go_run 0 (F' := (12, [some (.ref 134), some (.int l1), some (.int l2)], [], Wm pre post I A)) rfl ?_
      refine go_run 1 (F' := (13, [some (.ref 134), some (.int l1), some (.int l2)], [.ref 134], Wm pre post I A)) rfl ?_
      refine go_gf rfl (w_0 hp) rfl ?_
      refine go_run 2 (F' := (18, [some (.ref 134), some (.int l1), some (.int l2)], [.ref 134, .int l2, .ref 165], Wm pre post I A)) rfl ?_
      refine go_gf rfl (w_0 hp) rfl ?_
      refine go_run 1 (F' := (22, [some (.ref 134), some (.int l1), some (.int l2)], [.int l2, .ref 176, .int l2, .ref 165], Wm pre post I A)) rfl ?_
      obtain ⟨b2, hm⟩ := gd hm
      refine go_iald rfl (by decide) (w_42 hp) b2 rfl ?_
      refine go_run 0 (F' := (23, [some (.ref 134), some (.int l1), some (.int l2)], [.int ((A 42) (Int32.toNatClampNeg l2)), .int l2, .ref 165], Wm pre post I A)) rfl ?_
      refine go_iast rfl (w_31 hp) b2 (ws_31 hp) ?_
      refine go_run 2 (F' := (7, [some (.ref 134), some (.int l1), some (.int (l2 + 1))], [], Wm pre post I (upA A 31 (upd (A 31) (Int32.toNatClampNeg l2) ((A 42) (Int32.toNatClampNeg l2)))))) rfl ?_
      exact ih hm
def x_fetchB (n : Nat) (I : Nat → Int32) (A : Nat → Nat → Int32) (a1 : Int32) : Option xR := (x_fetchB_7  n (upd I 15 a1) A a1 0)
theorem g_fetchB {X : ie_X} {d : Nat} {pre post : ie_H} (hp : pre.length = 134) {n : Nat} {I : Nat → Int32} {A : Nat → Nat → Int32} {a1 : Int32} {I' : Nat → Int32} {A' : Nat → Nat → Int32} {r : Int32} (hm : x_fetchB n I A a1 = some (I', A', r)) : Go X (d + 0) 176 (0, ie_en 176 [.ref 134, .int a1], [], Wm pre post I A) (.inl none) (Wm pre post I' A') := by
  unfold x_fetchB at hm
  refine go_run 0 (F' := (0, [some (.ref 134), some (.int a1), none], [], Wm pre post I A)) rfl ?_
  refine go_run 2 (F' := (2, [some (.ref 134), some (.int a1), none], [.int a1, .ref 134], Wm pre post I A)) rfl ?_
  refine go_pf rfl (w_0 hp) (Nat.le_of_ble_eq_true rfl) rfl (wo_15 hp) ?_
  refine go_run 2 (F' := (7, [some (.ref 134), some (.int a1), some (.int 0)], [], Wm pre post (upd I 15 a1) A)) rfl ?_
  exact g_fetchB_7 hp  n hm
def x_unaware_126 (rec4 : (Nat → Int32) → (Nat → Nat → Int32) → Int32 → Int32 → Int32 → Option xR) : Nat → (Nat → Int32) → (Nat → Nat → Int32) → Int32 → Int32 → Int32 → Int32 → Int32 → Option xR
  | 0, _, _, _, _, _, _, _ => none
  | n + 1, I, A, l1, l2, l3, l4, l5 => (if I 12 ≤ l5 then (xb (x_fetchB n I A l4) fun I1 A1 v1 => (xb (x_join n I1 A1) fun I2 A2 v2 => (if v2 = 0 then (rec4 I2 A2 l1 (l2 ||| (1 <<< (l3 &&& 31))) (l3 + 1)) else (rec4 I2 A2 l1 l2 (l3 + 1))))) else (if ib (((I 12) - 1) - l5) 1100 then (if ib l5 1000 then (x_unaware_126 rec4 n I (upA A 30 (upd (A 30) (Int32.toNatClampNeg l5) ((A 28) (Int32.toNatClampNeg (((I 12) - 1) - l5))))) l1 l2 l3 l4 (l5 + 1)) else none) else none))
theorem g_unaware_126 {X : ie_X} {d : Nat} {pre post : ie_H} (hp : pre.length = 134) {rec4 : (Nat → Int32) → (Nat → Nat → Int32) → Int32 → Int32 → Int32 → Option xR} (hr4 : ∀ {J : Nat → Int32} {B : Nat → Nat → Int32} {m1 m2 m3 : Int32} {w4 w5 : Option Value} {J' : Nat → Int32} {B' : Nat → Nat → Int32} {r' : Int32}, rec4 J B m1 m2 m3 = some (J', B', r') → Go X (d + 5) 154 (4, [some (.ref 134), some (.int m1), some (.int m2), some (.int m3), w4, w5], [], Wm pre post J B) (.inl (some (.int r'))) (Wm pre post J' B')) : ∀ (n : Nat) {I : Nat → Int32} {A : Nat → Nat → Int32} {l1 l2 l3 l4 l5 : Int32} {I' : Nat → Int32} {A' : Nat → Nat → Int32} {r : Int32}, x_unaware_126 rec4 n I A l1 l2 l3 l4 l5 = some (I', A', r) → Go X (d + 5) 154 (126, [some (.ref 134), some (.int l1), some (.int l2), some (.int l3), some (.int l4), some (.int l5)], [], Wm pre post I A) (.inl (some (.int r))) (Wm pre post I' A') := by
  intro n
  induction n with
  | zero => intro I A l1 l2 l3 l4 l5 I' A' r hm; cases hm
  | succ n ih =>
    intro I A l1 l2 l3 l4 l5 I' A' r hm
    unfold x_unaware_126 at hm
    refine go_run 0 (F' := (126, [some (.ref 134), some (.int l1), some (.int l2), some (.int l3), some (.int l4), some (.int l5)], [], Wm pre post I A)) rfl ?_
    refine go_run 2 (F' := (129, [some (.ref 134), some (.int l1), some (.int l2), some (.int l3), some (.int l4), some (.int l5)], [.ref 134, .int l5], Wm pre post I A)) rfl ?_
    refine go_gf rfl (w_0 hp) rfl ?_
    refine go_run 0 (F' := (132, [some (.ref 134), some (.int l1), some (.int l2), some (.int l3), some (.int l4), some (.int l5)], [.int (I 12), .int l5], Wm pre post I A)) rfl ?_
    refine go_step rfl rfl ?_
    by_cases q1 : I 12 ≤ l5
    · rw [if_pos q1] at hm ⊢
      refine go_run 0 (F' := (162, [some (.ref 134), some (.int l1), some (.int l2), some (.int l3), some (.int l4), some (.int l5)], [], Wm pre post I A)) rfl ?_
      refine go_run 2 (F' := (165, [some (.ref 134), some (.int l1), some (.int l2), some (.int l3), some (.int l4), some (.int l5)], [.int l4, .ref 134], Wm pre post I A)) rfl ?_
      obtain ⟨I1, A1, v1, e1, hm⟩ := xb_inv hm
      refine go_call (m' := 176) (v := none) (h1 := Wm pre post I1 A1) rfl (by simp only [ie_step, ie_iv, List.drop, w_0 hp]; rfl) ⟨rfl, Nat.le_of_ble_eq_true rfl⟩ (g_fetchB (d := d + 4) hp e1) ?_
      refine go_run 0 (F' := (168, [some (.ref 134), some (.int l1), some (.int l2), some (.int l3), some (.int l4), some (.int l5)], [], Wm pre post I1 A1)) rfl ?_
      refine go_run 1 (F' := (169, [some (.ref 134), some (.int l1), some (.int l2), some (.int l3), some (.int l4), some (.int l5)], [.ref 134], Wm pre post I1 A1)) rfl ?_
      obtain ⟨I2, A2, v2, e2, hm⟩ := xb_inv hm
      refine go_call (m' := 161) (v := some (.int v2)) (h1 := Wm pre post I2 A2) rfl (by simp only [ie_step, ie_iv, List.drop, w_0 hp]; rfl) ⟨rfl, Nat.le_of_ble_eq_true rfl⟩ (g_join (d := d + 2) hp e2) ?_
      refine go_run 0 (F' := (172, [some (.ref 134), some (.int l1), some (.int l2), some (.int l3), some (.int l4), some (.int l5)], [.int v2], Wm pre post I2 A2)) rfl ?_
      refine go_run 0 (F' := (172, [some (.ref 134), some (.int l1), some (.int l2), some (.int l3), some (.int l4), some (.int l5)], [.int v2], Wm pre post I2 A2)) rfl ?_
      refine go_step rfl rfl ?_
      by_cases q2 : v2 = 0
      · rw [if_pos q2] at hm ⊢
        refine go_run 0 (F' := (179, [some (.ref 134), some (.int l1), some (.int l2), some (.int l3), some (.int l4), some (.int l5)], [], Wm pre post I2 A2)) rfl ?_
        refine go_run 8 (F' := (4, [some (.ref 134), some (.int l1), some (.int (l2 ||| (1 <<< (l3 &&& 31)))), some (.int (l3 + 1)), some (.int l4), some (.int l5)], [], Wm pre post I2 A2)) rfl ?_
        exact hr4 hm
      · rw [if_neg q2] at hm ⊢
        refine go_run 0 (F' := (175, [some (.ref 134), some (.int l1), some (.int l2), some (.int l3), some (.int l4), some (.int l5)], [], Wm pre post I2 A2)) rfl ?_
        refine go_run 5 (F' := (4, [some (.ref 134), some (.int l1), some (.int l2), some (.int (l3 + 1)), some (.int l4), some (.int l5)], [], Wm pre post I2 A2)) rfl ?_
        exact hr4 hm
    · rw [if_neg q1] at hm ⊢
      refine go_run 0 (F' := (135, [some (.ref 134), some (.int l1), some (.int l2), some (.int l3), some (.int l4), some (.int l5)], [], Wm pre post I A)) rfl ?_
      refine go_run 1 (F' := (136, [some (.ref 134), some (.int l1), some (.int l2), some (.int l3), some (.int l4), some (.int l5)], [.ref 134], Wm pre post I A)) rfl ?_
      refine go_gf rfl (w_0 hp) rfl ?_
      refine go_run 2 (F' := (142, [some (.ref 134), some (.int l1), some (.int l2), some (.int l3), some (.int l4), some (.int l5)], [.ref 134, .int l5, .ref 164], Wm pre post I A)) rfl ?_
      refine go_gf rfl (w_0 hp) rfl ?_
      refine go_run 1 (F' := (146, [some (.ref 134), some (.int l1), some (.int l2), some (.int l3), some (.int l4), some (.int l5)], [.ref 134, .ref 162, .int l5, .ref 164], Wm pre post I A)) rfl ?_
      refine go_gf rfl (w_0 hp) rfl ?_
      refine go_run 4 (F' := (154, [some (.ref 134), some (.int l1), some (.int l2), some (.int l3), some (.int l4), some (.int l5)], [.int (((I 12) - 1) - l5), .ref 162, .int l5, .ref 164], Wm pre post I A)) rfl ?_
      obtain ⟨b3, hm⟩ := gd hm
      refine go_iald rfl (by decide) (w_28 hp) b3 rfl ?_
      refine go_run 0 (F' := (155, [some (.ref 134), some (.int l1), some (.int l2), some (.int l3), some (.int l4), some (.int l5)], [.int ((A 28) (Int32.toNatClampNeg (((I 12) - 1) - l5))), .int l5, .ref 164], Wm pre post I A)) rfl ?_
      obtain ⟨b4, hm⟩ := gd hm
      refine go_iast rfl (w_30 hp) b4 (ws_30 hp) ?_
      refine go_run 2 (F' := (126, [some (.ref 134), some (.int l1), some (.int l2), some (.int l3), some (.int l4), some (.int (l5 + 1))], [], Wm pre post I (upA A 30 (upd (A 30) (Int32.toNatClampNeg l5) ((A 28) (Int32.toNatClampNeg (((I 12) - 1) - l5))))))) rfl ?_
      exact ih hm
def x_unaware_53 (rec4 : (Nat → Int32) → (Nat → Nat → Int32) → Int32 → Int32 → Int32 → Option xR) : Nat → (Nat → Int32) → (Nat → Nat → Int32) → Int32 → Int32 → Int32 → Int32 → Option xR
  | 0, _, _, _, _, _, _ => none
  | n + 1, I, A, l1, l2, l3, l4 => (if I 12 ≤ l4 then (xb (x_keepB n I A (I 15)) fun I1 A1 v1 => (if ib l1 200 then (xb (x_cut n I1 A1 l3 (l1 + 2) ((A1 10) (Int32.toNatClampNeg l1))) fun I2 A2 v2 => (x_unaware_126 rec4 n (upd I2 14 (I2 12)) A2 l1 l2 l3 (I 15) 0)) else none)) else (if ib (((I 12) - 1) - l4) 1100 then (if ib l4 1000 then (x_unaware_53 rec4 n I (upA A 31 (upd (A 31) (Int32.toNatClampNeg l4) ((A 28) (Int32.toNatClampNeg (((I 12) - 1) - l4))))) l1 l2 l3 (l4 + 1)) else none) else none))
theorem g_unaware_53 {X : ie_X} {d : Nat} {pre post : ie_H} (hp : pre.length = 134) {rec4 : (Nat → Int32) → (Nat → Nat → Int32) → Int32 → Int32 → Int32 → Option xR} (hr4 : ∀ {J : Nat → Int32} {B : Nat → Nat → Int32} {m1 m2 m3 : Int32} {w4 w5 : Option Value} {J' : Nat → Int32} {B' : Nat → Nat → Int32} {r' : Int32}, rec4 J B m1 m2 m3 = some (J', B', r') → Go X (d + 5) 154 (4, [some (.ref 134), some (.int m1), some (.int m2), some (.int m3), w4, w5], [], Wm pre post J B) (.inl (some (.int r'))) (Wm pre post J' B')) : ∀ (n : Nat) {I : Nat → Int32} {A : Nat → Nat → Int32} {l1 l2 l3 l4 : Int32} {u5 : Option Value} {I' : Nat → Int32} {A' : Nat → Nat → Int32} {r : Int32}, x_unaware_53 rec4 n I A l1 l2 l3 l4 = some (I', A', r) → Go X (d + 5) 154 (53, [some (.ref 134), some (.int l1), some (.int l2), some (.int l3), some (.int l4), u5], [], Wm pre post I A) (.inl (some (.int r))) (Wm pre post I' A') := by
  intro n
  induction n with
  | zero => intro I A l1 l2 l3 l4 u5 I' A' r hm; cases hm
  | succ n ih =>
    intro I A l1 l2 l3 l4 u5 I' A' r hm
    unfold x_unaware_53 at hm
    refine go_run 0 (F' := (53, [some (.ref 134), some (.int l1), some (.int l2), some (.int l3), some (.int l4), u5], [], Wm pre post I A)) rfl ?_
    refine go_run 2 (F' := (56, [some (.ref 134), some (.int l1), some (.int l2), some (.int l3), some (.int l4), u5], [.ref 134, .int l4], Wm pre post I A)) rfl ?_
    refine go_gf rfl (w_0 hp) rfl ?_
    refine go_run 0 (F' := (59, [some (.ref 134), some (.int l1), some (.int l2), some (.int l3), some (.int l4), u5], [.int (I 12), .int l4], Wm pre post I A)) rfl ?_
    refine go_step rfl rfl ?_
    by_cases q1 : I 12 ≤ l4
    · rw [if_pos q1] at hm ⊢
      refine go_run 0 (F' := (89, [some (.ref 134), some (.int l1), some (.int l2), some (.int l3), some (.int l4), u5], [], Wm pre post I A)) rfl ?_
      refine go_run 1 (F' := (90, [some (.ref 134), some (.int l1), some (.int l2), some (.int l3), some (.int l4), u5], [.ref 134], Wm pre post I A)) rfl ?_
      refine go_gf rfl (w_0 hp) rfl ?_
      refine go_run 3 (F' := (98, [some (.ref 134), some (.int l1), some (.int l2), some (.int l3), some (.int (I 15)), u5], [.int (I 15), .ref 134], Wm pre post I A)) rfl ?_
      obtain ⟨I1, A1, v1, e1, hm⟩ := xb_inv hm
      refine go_call (m' := 175) (v := none) (h1 := Wm pre post I1 A1) rfl (by simp only [ie_step, ie_iv, List.drop, w_0 hp]; rfl) ⟨rfl, Nat.le_of_ble_eq_true rfl⟩ (g_keepB (d := d + 4) hp e1) ?_
      refine go_run 0 (F' := (101, [some (.ref 134), some (.int l1), some (.int l2), some (.int l3), some (.int (I 15)), u5], [], Wm pre post I1 A1)) rfl ?_
      refine go_run 6 (F' := (107, [some (.ref 134), some (.int l1), some (.int l2), some (.int l3), some (.int (I 15)), u5], [.ref 134, .int (l1 + 2), .int l3, .ref 134], Wm pre post I1 A1)) rfl ?_
      refine go_gf rfl (w_0 hp) rfl ?_
      refine go_run 1 (F' := (111, [some (.ref 134), some (.int l1), some (.int l2), some (.int l3), some (.int (I 15)), u5], [.int l1, .ref 144, .int (l1 + 2), .int l3, .ref 134], Wm pre post I1 A1)) rfl ?_
      obtain ⟨b2, hm⟩ := gd hm
      refine go_iald rfl (by decide) (w_10 hp) b2 rfl ?_
      refine go_run 0 (F' := (112, [some (.ref 134), some (.int l1), some (.int l2), some (.int l3), some (.int (I 15)), u5], [.int ((A1 10) (Int32.toNatClampNeg l1)), .int (l1 + 2), .int l3, .ref 134], Wm pre post I1 A1)) rfl ?_
      obtain ⟨I2, A2, v2, e2, hm⟩ := xb_inv hm
      refine go_call (m' := 155) (v := none) (h1 := Wm pre post I2 A2) rfl (by simp only [ie_step, ie_iv, List.drop, w_0 hp]; rfl) ⟨rfl, Nat.le_of_ble_eq_true rfl⟩ (g_cut (d := d) hp e2) ?_
      refine go_run 0 (F' := (115, [some (.ref 134), some (.int l1), some (.int l2), some (.int l3), some (.int (I 15)), u5], [], Wm pre post I2 A2)) rfl ?_
      refine go_run 2 (F' := (117, [some (.ref 134), some (.int l1), some (.int l2), some (.int l3), some (.int (I 15)), u5], [.ref 134, .ref 134], Wm pre post I2 A2)) rfl ?_
      refine go_gf rfl (w_0 hp) rfl ?_
      refine go_run 0 (F' := (120, [some (.ref 134), some (.int l1), some (.int l2), some (.int l3), some (.int (I 15)), u5], [.int (I2 12), .ref 134], Wm pre post I2 A2)) rfl ?_
      refine go_pf rfl (w_0 hp) (Nat.le_of_ble_eq_true rfl) rfl (wo_14 hp) ?_
      refine go_run 2 (F' := (126, [some (.ref 134), some (.int l1), some (.int l2), some (.int l3), some (.int (I 15)), some (.int 0)], [], Wm pre post (upd I2 14 (I2 12)) A2)) rfl ?_
      exact g_unaware_126 hp hr4 n hm
    · rw [if_neg q1] at hm ⊢
      refine go_run 0 (F' := (62, [some (.ref 134), some (.int l1), some (.int l2), some (.int l3), some (.int l4), u5], [], Wm pre post I A)) rfl ?_
      refine go_run 1 (F' := (63, [some (.ref 134), some (.int l1), some (.int l2), some (.int l3), some (.int l4), u5], [.ref 134], Wm pre post I A)) rfl ?_
      refine go_gf rfl (w_0 hp) rfl ?_
      refine go_run 2 (F' := (69, [some (.ref 134), some (.int l1), some (.int l2), some (.int l3), some (.int l4), u5], [.ref 134, .int l4, .ref 165], Wm pre post I A)) rfl ?_
      refine go_gf rfl (w_0 hp) rfl ?_
      refine go_run 1 (F' := (73, [some (.ref 134), some (.int l1), some (.int l2), some (.int l3), some (.int l4), u5], [.ref 134, .ref 162, .int l4, .ref 165], Wm pre post I A)) rfl ?_
      refine go_gf rfl (w_0 hp) rfl ?_
      refine go_run 4 (F' := (81, [some (.ref 134), some (.int l1), some (.int l2), some (.int l3), some (.int l4), u5], [.int (((I 12) - 1) - l4), .ref 162, .int l4, .ref 165], Wm pre post I A)) rfl ?_
      obtain ⟨b3, hm⟩ := gd hm
      refine go_iald rfl (by decide) (w_28 hp) b3 rfl ?_
      refine go_run 0 (F' := (82, [some (.ref 134), some (.int l1), some (.int l2), some (.int l3), some (.int l4), u5], [.int ((A 28) (Int32.toNatClampNeg (((I 12) - 1) - l4))), .int l4, .ref 165], Wm pre post I A)) rfl ?_
      obtain ⟨b4, hm⟩ := gd hm
      refine go_iast rfl (w_31 hp) b4 (ws_31 hp) ?_
      refine go_run 2 (F' := (53, [some (.ref 134), some (.int l1), some (.int l2), some (.int l3), some (.int (l4 + 1)), u5], [], Wm pre post I (upA A 31 (upd (A 31) (Int32.toNatClampNeg l4) ((A 28) (Int32.toNatClampNeg (((I 12) - 1) - l4))))))) rfl ?_
      exact ih hm
def x_unaware_4 : Nat → (Nat → Int32) → (Nat → Nat → Int32) → Int32 → Int32 → Int32 → Option xR
  | 0, _, _, _, _, _ => none
  | n + 1, I, A, l1, l2, l3 => (if 6 ≤ l3 then (some (I, A, l2)) else (if ib l1 200 then (if l3 = (A 4) (Int32.toNatClampNeg l1) then (x_unaware_4 n I A l1 l2 (l3 + 1)) else (xb (x_cut n I A l3 (((A 10) (Int32.toNatClampNeg l1)) + 2) ((A 11) (Int32.toNatClampNeg l1))) fun I1 A1 v1 => (x_unaware_53 (x_unaware_4 n) n (upd I1 15 (I1 12)) A1 l1 l2 l3 0))) else none))
theorem g_unaware_4 {X : ie_X} {d : Nat} {pre post : ie_H} (hp : pre.length = 134) : ∀ (n : Nat) {I : Nat → Int32} {A : Nat → Nat → Int32} {l1 l2 l3 : Int32} {u4 u5 : Option Value} {I' : Nat → Int32} {A' : Nat → Nat → Int32} {r : Int32}, x_unaware_4 n I A l1 l2 l3 = some (I', A', r) → Go X (d + 5) 154 (4, [some (.ref 134), some (.int l1), some (.int l2), some (.int l3), u4, u5], [], Wm pre post I A) (.inl (some (.int r))) (Wm pre post I' A') := by
  intro n
  induction n with
  | zero => intro I A l1 l2 l3 u4 u5 I' A' r hm; cases hm
  | succ n ih =>
    intro I A l1 l2 l3 u4 u5 I' A' r hm
    unfold x_unaware_4 at hm
    refine go_run 0 (F' := (4, [some (.ref 134), some (.int l1), some (.int l2), some (.int l3), u4, u5], [], Wm pre post I A)) rfl ?_
    refine go_run 2 (F' := (7, [some (.ref 134), some (.int l1), some (.int l2), some (.int l3), u4, u5], [.int 6, .int l3], Wm pre post I A)) rfl ?_
    refine go_step rfl rfl ?_
    by_cases q1 : 6 ≤ l3
    · rw [if_pos q1] at hm ⊢
      refine go_run 0 (F' := (191, [some (.ref 134), some (.int l1), some (.int l2), some (.int l3), u4, u5], [], Wm pre post I A)) rfl ?_
      refine go_run 1 (F' := (192, [some (.ref 134), some (.int l1), some (.int l2), some (.int l3), u4, u5], [.int l2], Wm pre post I A)) rfl ?_
      cases hm
      exact go_end rfl rfl
    · rw [if_neg q1] at hm ⊢
      refine go_run 0 (F' := (10, [some (.ref 134), some (.int l1), some (.int l2), some (.int l3), u4, u5], [], Wm pre post I A)) rfl ?_
      refine go_run 2 (F' := (12, [some (.ref 134), some (.int l1), some (.int l2), some (.int l3), u4, u5], [.ref 134, .int l3], Wm pre post I A)) rfl ?_
      refine go_gf rfl (w_0 hp) rfl ?_
      refine go_run 1 (F' := (16, [some (.ref 134), some (.int l1), some (.int l2), some (.int l3), u4, u5], [.int l1, .ref 138, .int l3], Wm pre post I A)) rfl ?_
      obtain ⟨b2, hm⟩ := gd hm
      refine go_iald rfl (by decide) (w_4 hp) b2 rfl ?_
      refine go_run 0 (F' := (17, [some (.ref 134), some (.int l1), some (.int l2), some (.int l3), u4, u5], [.int ((A 4) (Int32.toNatClampNeg l1)), .int l3], Wm pre post I A)) rfl ?_
      refine go_step rfl rfl ?_
      by_cases q3 : l3 = (A 4) (Int32.toNatClampNeg l1)
      · rw [if_pos q3] at hm ⊢
        refine go_run 0 (F' := (20, [some (.ref 134), some (.int l1), some (.int l2), some (.int l3), u4, u5], [], Wm pre post I A)) rfl ?_
        refine go_run 3 (F' := (4, [some (.ref 134), some (.int l1), some (.int l2), some (.int (l3 + 1)), u4, u5], [], Wm pre post I A)) rfl ?_
        exact ih hm
      · rw [if_neg q3] at hm ⊢
        refine go_run 0 (F' := (23, [some (.ref 134), some (.int l1), some (.int l2), some (.int l3), u4, u5], [], Wm pre post I A)) rfl ?_
        refine go_run 3 (F' := (26, [some (.ref 134), some (.int l1), some (.int l2), some (.int l3), u4, u5], [.ref 134, .int l3, .ref 134], Wm pre post I A)) rfl ?_
        refine go_gf rfl (w_0 hp) rfl ?_
        refine go_run 1 (F' := (30, [some (.ref 134), some (.int l1), some (.int l2), some (.int l3), u4, u5], [.int l1, .ref 144, .int l3, .ref 134], Wm pre post I A)) rfl ?_
        refine go_iald rfl (by decide) (w_10 hp) b2 rfl ?_
        refine go_run 3 (F' := (34, [some (.ref 134), some (.int l1), some (.int l2), some (.int l3), u4, u5], [.ref 134, .int (((A 10) (Int32.toNatClampNeg l1)) + 2), .int l3, .ref 134], Wm pre post I A)) rfl ?_
        refine go_gf rfl (w_0 hp) rfl ?_
        refine go_run 1 (F' := (38, [some (.ref 134), some (.int l1), some (.int l2), some (.int l3), u4, u5], [.int l1, .ref 145, .int (((A 10) (Int32.toNatClampNeg l1)) + 2), .int l3, .ref 134], Wm pre post I A)) rfl ?_
        refine go_iald rfl (by decide) (w_11 hp) b2 rfl ?_
        refine go_run 0 (F' := (39, [some (.ref 134), some (.int l1), some (.int l2), some (.int l3), u4, u5], [.int ((A 11) (Int32.toNatClampNeg l1)), .int (((A 10) (Int32.toNatClampNeg l1)) + 2), .int l3, .ref 134], Wm pre post I A)) rfl ?_
        obtain ⟨I1, A1, v1, e1, hm⟩ := xb_inv hm
        refine go_call (m' := 155) (v := none) (h1 := Wm pre post I1 A1) rfl (by simp only [ie_step, ie_iv, List.drop, w_0 hp]; rfl) ⟨rfl, Nat.le_of_ble_eq_true rfl⟩ (g_cut (d := d) hp e1) ?_
        refine go_run 0 (F' := (42, [some (.ref 134), some (.int l1), some (.int l2), some (.int l3), u4, u5], [], Wm pre post I1 A1)) rfl ?_
        refine go_run 2 (F' := (44, [some (.ref 134), some (.int l1), some (.int l2), some (.int l3), u4, u5], [.ref 134, .ref 134], Wm pre post I1 A1)) rfl ?_
        refine go_gf rfl (w_0 hp) rfl ?_
        refine go_run 0 (F' := (47, [some (.ref 134), some (.int l1), some (.int l2), some (.int l3), u4, u5], [.int (I1 12), .ref 134], Wm pre post I1 A1)) rfl ?_
        refine go_pf rfl (w_0 hp) (Nat.le_of_ble_eq_true rfl) rfl (wo_15 hp) ?_
        refine go_run 2 (F' := (53, [some (.ref 134), some (.int l1), some (.int l2), some (.int l3), some (.int 0), u5], [], Wm pre post (upd I1 15 (I1 12)) A1)) rfl ?_
        exact g_unaware_53 hp (fun z => ih z) n hm
def x_unaware (n : Nat) (I : Nat → Int32) (A : Nat → Nat → Int32) (a1 : Int32) : Option xR := (x_unaware_4  n I A a1 0 0)
theorem g_unaware {X : ie_X} {d : Nat} {pre post : ie_H} (hp : pre.length = 134) {n : Nat} {I : Nat → Int32} {A : Nat → Nat → Int32} {a1 : Int32} {I' : Nat → Int32} {A' : Nat → Nat → Int32} {r : Int32} (hm : x_unaware n I A a1 = some (I', A', r)) : Go X (d + 5) 154 (0, ie_en 154 [.ref 134, .int a1], [], Wm pre post I A) (.inl (some (.int r))) (Wm pre post I' A') := by
  unfold x_unaware at hm
  refine go_run 0 (F' := (0, [some (.ref 134), some (.int a1), none, none, none, none], [], Wm pre post I A)) rfl ?_
  refine go_run 4 (F' := (4, [some (.ref 134), some (.int a1), some (.int 0), some (.int 0), none, none], [], Wm pre post I A)) rfl ?_
  exact g_unaware_4 hp  n hm
def x_bitsOf_4 : Nat → (Nat → Int32) → (Nat → Nat → Int32) → Int32 → Int32 → Int32 → Option xR
  | 0, _, _, _, _, _ => none
  | n + 1, I, A, l0, l1, l2 => (if 6 ≤ l2 then (some (I, A, l1)) else (x_bitsOf_4 n I A l0 (l1 + ((l0 >>> (l2 &&& 31)) &&& 1)) (l2 + 1)))
theorem g_bitsOf_4 {X : ie_X} {d : Nat} {pre post : ie_H} (hp : pre.length = 134) : ∀ (n : Nat) {I : Nat → Int32} {A : Nat → Nat → Int32} {l0 l1 l2 : Int32} {I' : Nat → Int32} {A' : Nat → Nat → Int32} {r : Int32}, x_bitsOf_4 n I A l0 l1 l2 = some (I', A', r) → Go X (d + 0) 177 (4, [some (.int l0), some (.int l1), some (.int l2)], [], Wm pre post I A) (.inl (some (.int r))) (Wm pre post I' A') := by
  intro n
  induction n with
  | zero => intro I A l0 l1 l2 I' A' r hm; cases hm
  | succ n ih =>
    intro I A l0 l1 l2 I' A' r hm
    unfold x_bitsOf_4 at hm
    refine go_run 0 (F' := (4, [some (.int l0), some (.int l1), some (.int l2)], [], Wm pre post I A)) rfl ?_
    refine go_run 2 (F' := (7, [some (.int l0), some (.int l1), some (.int l2)], [.int 6, .int l2], Wm pre post I A)) rfl ?_
    refine go_step rfl rfl ?_
    by_cases q1 : 6 ≤ l2
    · rw [if_pos q1] at hm ⊢
      refine go_run 0 (F' := (24, [some (.int l0), some (.int l1), some (.int l2)], [], Wm pre post I A)) rfl ?_
      refine go_run 1 (F' := (25, [some (.int l0), some (.int l1), some (.int l2)], [.int l1], Wm pre post I A)) rfl ?_
      cases hm
      exact go_end rfl rfl
    · rw [if_neg q1] at hm ⊢
      refine go_run 0 (F' := (10, [some (.int l0), some (.int l1), some (.int l2)], [], Wm pre post I A)) rfl ?_
      refine go_run 10 (F' := (4, [some (.int l0), some (.int (l1 + ((l0 >>> (l2 &&& 31)) &&& 1))), some (.int (l2 + 1))], [], Wm pre post I A)) rfl ?_
      exact ih hm
def x_bitsOf (n : Nat) (I : Nat → Int32) (A : Nat → Nat → Int32) (a1 : Int32) : Option xR := (x_bitsOf_4  n I A a1 0 0)
theorem g_bitsOf {X : ie_X} {d : Nat} {pre post : ie_H} (hp : pre.length = 134) {n : Nat} {I : Nat → Int32} {A : Nat → Nat → Int32} {a1 : Int32} {I' : Nat → Int32} {A' : Nat → Nat → Int32} {r : Int32} (hm : x_bitsOf n I A a1 = some (I', A', r)) : Go X (d + 0) 177 (0, ie_en 177 [.int a1], [], Wm pre post I A) (.inl (some (.int r))) (Wm pre post I' A') := by
  unfold x_bitsOf at hm
  refine go_run 0 (F' := (0, [some (.int a1), none, none], [], Wm pre post I A)) rfl ?_
  refine go_run 4 (F' := (4, [some (.int a1), some (.int 0), some (.int 0)], [], Wm pre post I A)) rfl ?_
  exact g_bitsOf_4 hp  n hm
def x_restart_54 : Nat → (Nat → Int32) → (Nat → Nat → Int32) → Int32 → Option xR
  | 0, _, _, _ => none
  | n + 1, I, A, l1 => (if 6 ≤ l1 then (some (I, A, 0)) else (if ib l1 6 then (x_restart_54 n I (upA (upA A 36 (upd (A 36) (Int32.toNatClampNeg l1) 0)) 37 (upd (A 37) (Int32.toNatClampNeg l1) (-1))) (l1 + 1)) else none))
theorem g_restart_54 {X : ie_X} {d : Nat} {pre post : ie_H} (hp : pre.length = 134) : ∀ (n : Nat) {I : Nat → Int32} {A : Nat → Nat → Int32} {l1 : Int32} {I' : Nat → Int32} {A' : Nat → Nat → Int32} {r : Int32}, x_restart_54 n I A l1 = some (I', A', r) → Go X (d + 0) 179 (54, [some (.ref 134), some (.int l1)], [], Wm pre post I A) (.inl none) (Wm pre post I' A') := by
  intro n
  induction n with
  | zero => intro I A l1 I' A' r hm; cases hm
  | succ n ih =>
    intro I A l1 I' A' r hm
    unfold x_restart_54 at hm
    refine go_run 0 (F' := (54, [some (.ref 134), some (.int l1)], [], Wm pre post I A)) rfl ?_
    refine go_run 2 (F' := (57, [some (.ref 134), some (.int l1)], [.int 6, .int l1], Wm pre post I A)) rfl ?_
    refine go_step rfl rfl ?_
    by_cases q1 : 6 ≤ l1
    · rw [if_pos q1] at hm ⊢
      refine go_run 0 (F' := (80, [some (.ref 134), some (.int l1)], [], Wm pre post I A)) rfl ?_
      refine go_run 0 (F' := (80, [some (.ref 134), some (.int l1)], [], Wm pre post I A)) rfl ?_
      cases hm
      exact go_end rfl rfl
    · rw [if_neg q1] at hm ⊢
      refine go_run 0 (F' := (60, [some (.ref 134), some (.int l1)], [], Wm pre post I A)) rfl ?_
      refine go_run 1 (F' := (61, [some (.ref 134), some (.int l1)], [.ref 134], Wm pre post I A)) rfl ?_
      refine go_gf rfl (w_0 hp) rfl ?_
      refine go_run 2 (F' := (66, [some (.ref 134), some (.int l1)], [.int 0, .int l1, .ref 170], Wm pre post I A)) rfl ?_
      obtain ⟨b2, hm⟩ := gd hm
      refine go_iast rfl (w_36 hp) b2 (ws_36 hp) ?_
      refine go_run 1 (F' := (68, [some (.ref 134), some (.int l1)], [.ref 134], Wm pre post I (upA A 36 (upd (A 36) (Int32.toNatClampNeg l1) 0)))) rfl ?_
      refine go_gf rfl (w_0 hp) rfl ?_
      refine go_run 2 (F' := (73, [some (.ref 134), some (.int l1)], [.int (-1), .int l1, .ref 171], Wm pre post I (upA A 36 (upd (A 36) (Int32.toNatClampNeg l1) 0)))) rfl ?_
      refine go_iast rfl (w_37 hp) b2 (ws_37 hp) ?_
      refine go_run 2 (F' := (54, [some (.ref 134), some (.int (l1 + 1))], [], Wm pre post I (upA (upA A 36 (upd (A 36) (Int32.toNatClampNeg l1) 0)) 37 (upd (A 37) (Int32.toNatClampNeg l1) (-1))))) rfl ?_
      exact ih hm
def x_restart_33 : Nat → (Nat → Int32) → (Nat → Nat → Int32) → Int32 → Option xR
  | 0, _, _, _ => none
  | n + 1, I, A, l1 => (if 36 ≤ l1 then (x_restart_54  n I A 0) else (if ib l1 36 then (x_restart_33 n I (upA A 39 (upd (A 39) (Int32.toNatClampNeg l1) 0)) (l1 + 1)) else none))
theorem g_restart_33 {X : ie_X} {d : Nat} {pre post : ie_H} (hp : pre.length = 134) : ∀ (n : Nat) {I : Nat → Int32} {A : Nat → Nat → Int32} {l1 : Int32} {I' : Nat → Int32} {A' : Nat → Nat → Int32} {r : Int32}, x_restart_33 n I A l1 = some (I', A', r) → Go X (d + 0) 179 (33, [some (.ref 134), some (.int l1)], [], Wm pre post I A) (.inl none) (Wm pre post I' A') := by
  intro n
  induction n with
  | zero => intro I A l1 I' A' r hm; cases hm
  | succ n ih =>
    intro I A l1 I' A' r hm
    unfold x_restart_33 at hm
    refine go_run 0 (F' := (33, [some (.ref 134), some (.int l1)], [], Wm pre post I A)) rfl ?_
    refine go_run 2 (F' := (36, [some (.ref 134), some (.int l1)], [.int 36, .int l1], Wm pre post I A)) rfl ?_
    refine go_step rfl rfl ?_
    by_cases q1 : 36 ≤ l1
    · rw [if_pos q1] at hm ⊢
      refine go_run 0 (F' := (52, [some (.ref 134), some (.int l1)], [], Wm pre post I A)) rfl ?_
      refine go_run 2 (F' := (54, [some (.ref 134), some (.int 0)], [], Wm pre post I A)) rfl ?_
      exact g_restart_54 hp  n hm
    · rw [if_neg q1] at hm ⊢
      refine go_run 0 (F' := (39, [some (.ref 134), some (.int l1)], [], Wm pre post I A)) rfl ?_
      refine go_run 1 (F' := (40, [some (.ref 134), some (.int l1)], [.ref 134], Wm pre post I A)) rfl ?_
      refine go_gf rfl (w_0 hp) rfl ?_
      refine go_run 2 (F' := (45, [some (.ref 134), some (.int l1)], [.int 0, .int l1, .ref 173], Wm pre post I A)) rfl ?_
      obtain ⟨b2, hm⟩ := gd hm
      refine go_iast rfl (w_39 hp) b2 (ws_39 hp) ?_
      refine go_run 2 (F' := (33, [some (.ref 134), some (.int (l1 + 1))], [], Wm pre post I (upA A 39 (upd (A 39) (Int32.toNatClampNeg l1) 0)))) rfl ?_
      exact ih hm
def x_restart_7 : Nat → (Nat → Int32) → (Nat → Nat → Int32) → Int32 → Option xR
  | 0, _, _, _ => none
  | n + 1, I, A, l1 => (if 24 ≤ l1 then (x_restart_33  n I A 0) else (if ib l1 24 then (x_restart_7 n I (upA A 34 (upd (A 34) (Int32.toNatClampNeg l1) ((A 33) (Int32.toNatClampNeg l1)))) (l1 + 1)) else none))
theorem g_restart_7 {X : ie_X} {d : Nat} {pre post : ie_H} (hp : pre.length = 134) : ∀ (n : Nat) {I : Nat → Int32} {A : Nat → Nat → Int32} {l1 : Int32} {I' : Nat → Int32} {A' : Nat → Nat → Int32} {r : Int32}, x_restart_7 n I A l1 = some (I', A', r) → Go X (d + 0) 179 (7, [some (.ref 134), some (.int l1)], [], Wm pre post I A) (.inl none) (Wm pre post I' A') := by
  intro n
  induction n with
  | zero => intro I A l1 I' A' r hm; cases hm
  | succ n ih =>
    intro I A l1 I' A' r hm
    unfold x_restart_7 at hm
    refine go_run 0 (F' := (7, [some (.ref 134), some (.int l1)], [], Wm pre post I A)) rfl ?_
    refine go_run 2 (F' := (10, [some (.ref 134), some (.int l1)], [.int 24, .int l1], Wm pre post I A)) rfl ?_
    refine go_step rfl rfl ?_
    by_cases q1 : 24 ≤ l1
    · rw [if_pos q1] at hm ⊢
      refine go_run 0 (F' := (31, [some (.ref 134), some (.int l1)], [], Wm pre post I A)) rfl ?_
      refine go_run 2 (F' := (33, [some (.ref 134), some (.int 0)], [], Wm pre post I A)) rfl ?_
      exact g_restart_33 hp  n hm
    · rw [if_neg q1] at hm ⊢
      refine go_run 0 (F' := (13, [some (.ref 134), some (.int l1)], [], Wm pre post I A)) rfl ?_
      refine go_run 1 (F' := (14, [some (.ref 134), some (.int l1)], [.ref 134], Wm pre post I A)) rfl ?_
      refine go_gf rfl (w_0 hp) rfl ?_
      refine go_run 2 (F' := (19, [some (.ref 134), some (.int l1)], [.ref 134, .int l1, .ref 168], Wm pre post I A)) rfl ?_
      refine go_gf rfl (w_0 hp) rfl ?_
      refine go_run 1 (F' := (23, [some (.ref 134), some (.int l1)], [.int l1, .ref 167, .int l1, .ref 168], Wm pre post I A)) rfl ?_
      obtain ⟨b2, hm⟩ := gd hm
      refine go_iald rfl (by decide) (w_33 hp) b2 rfl ?_
      refine go_run 0 (F' := (24, [some (.ref 134), some (.int l1)], [.int ((A 33) (Int32.toNatClampNeg l1)), .int l1, .ref 168], Wm pre post I A)) rfl ?_
      refine go_iast rfl (w_34 hp) b2 (ws_34 hp) ?_
      refine go_run 2 (F' := (7, [some (.ref 134), some (.int (l1 + 1))], [], Wm pre post I (upA A 34 (upd (A 34) (Int32.toNatClampNeg l1) ((A 33) (Int32.toNatClampNeg l1)))))) rfl ?_
      exact ih hm
def x_restart (n : Nat) (I : Nat → Int32) (A : Nat → Nat → Int32) : Option xR := (x_restart_7  n (upd I 18 0) A 0)
theorem g_restart {X : ie_X} {d : Nat} {pre post : ie_H} (hp : pre.length = 134) {n : Nat} {I : Nat → Int32} {A : Nat → Nat → Int32} {I' : Nat → Int32} {A' : Nat → Nat → Int32} {r : Int32} (hm : x_restart n I A = some (I', A', r)) : Go X (d + 0) 179 (0, ie_en 179 [.ref 134], [], Wm pre post I A) (.inl none) (Wm pre post I' A') := by
  unfold x_restart at hm
  refine go_run 0 (F' := (0, [some (.ref 134), none], [], Wm pre post I A)) rfl ?_
  refine go_run 2 (F' := (2, [some (.ref 134), none], [.int 0, .ref 134], Wm pre post I A)) rfl ?_
  refine go_pf rfl (w_0 hp) (Nat.le_of_ble_eq_true rfl) rfl (wo_18 hp) ?_
  refine go_run 2 (F' := (7, [some (.ref 134), some (.int 0)], [], Wm pre post (upd I 18 0) A)) rfl ?_
  exact g_restart_7 hp  n hm
