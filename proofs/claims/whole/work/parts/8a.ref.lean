def x_type_98 : Nat → (Nat → Int32) → (Nat → Nat → Int32) → Int64 → Int32 → Int32 → Option xR
  | 0, _, _, _, _, _ => none
  | n + 1, I, A, l1, l3, l5 => (if l3 ≤ l5 then (some (upd I 1 ((I 1) + l3), A, 1)) else (if ib ((I 1) + l5) 200 then (x_type_98 n I (upA A 1 (upd (A 1) (Int32.toNatClampNeg ((I 1) + l5)) (Int64.toInt32 ((l1 >>> (Int32.toInt64 (8 * l5) &&& 63)) &&& 255)))) l1 l3 (l5 + 1)) else none))
theorem g_type_98 {X : ie_X} {d : Nat} {pre post : ie_H} (hp : pre.length = 134) : ∀ (n : Nat) {I : Nat → Int32} {A : Nat → Nat → Int32} {l1 : Int64} {l3 l5 : Int32} {u2 u4 : Option Value} {I' : Nat → Int32} {A' : Nat → Nat → Int32} {r : Int32}, x_type_98 n I A l1 l3 l5 = some (I', A', r) → Go X (d + 0) 135 (98, [some (.ref 134), some (.long l1), u2, some (.int l3), u4, some (.int l5)], [], Wm pre post I A) (.inl (some (.int r))) (Wm pre post I' A') := by
  intro n
  induction n with
  | zero => intro I A l1 l3 l5 u2 u4 I' A' r hm; cases hm
  | succ n ih =>
    intro I A l1 l3 l5 u2 u4 I' A' r hm
    unfold x_type_98 at hm
    refine go_run 0 (F' := (98, [some (.ref 134), some (.long l1), u2, some (.int l3), u4, some (.int l5)], [], Wm pre post I A)) rfl ?_
    refine go_run 2 (F' := (101, [some (.ref 134), some (.long l1), u2, some (.int l3), u4, some (.int l5)], [.int l3, .int l5], Wm pre post I A)) rfl ?_
    refine go_step rfl rfl ?_
    by_cases q1 : l3 ≤ l5
    · rw [if_pos q1] at hm ⊢
      refine go_run 0 (F' := (134, [some (.ref 134), some (.long l1), u2, some (.int l3), u4, some (.int l5)], [], Wm pre post I A)) rfl ?_
      refine go_run 2 (F' := (136, [some (.ref 134), some (.long l1), u2, some (.int l3), u4, some (.int l5)], [.ref 134, .ref 134], Wm pre post I A)) rfl ?_
      refine go_gf rfl (w_0 hp) rfl ?_
      refine go_run 2 (F' := (141, [some (.ref 134), some (.long l1), u2, some (.int l3), u4, some (.int l5)], [.int ((I 1) + l3), .ref 134], Wm pre post I A)) rfl ?_
      refine go_pf rfl (w_0 hp) (Nat.le_of_ble_eq_true rfl) rfl (wo_1 hp) ?_
      refine go_run 1 (F' := (145, [some (.ref 134), some (.long l1), u2, some (.int l3), u4, some (.int l5)], [.int 1], Wm pre post (upd I 1 ((I 1) + l3)) A)) rfl ?_
      cases hm
      exact go_end rfl rfl
    · rw [if_neg q1] at hm ⊢
      refine go_run 0 (F' := (104, [some (.ref 134), some (.long l1), u2, some (.int l3), u4, some (.int l5)], [], Wm pre post I A)) rfl ?_
      refine go_run 1 (F' := (105, [some (.ref 134), some (.long l1), u2, some (.int l3), u4, some (.int l5)], [.ref 134], Wm pre post I A)) rfl ?_
      refine go_gf rfl (w_0 hp) rfl ?_
      refine go_run 1 (F' := (109, [some (.ref 134), some (.long l1), u2, some (.int l3), u4, some (.int l5)], [.ref 134, .ref 135], Wm pre post I A)) rfl ?_
      refine go_gf rfl (w_0 hp) rfl ?_
      refine go_run 10 (F' := (127, [some (.ref 134), some (.long l1), u2, some (.int l3), u4, some (.int l5)], [.int (Int64.toInt32 ((l1 >>> (Int32.toInt64 (8 * l5) &&& 63)) &&& 255)), .int ((I 1) + l5), .ref 135], Wm pre post I A)) rfl ?_
      obtain ⟨b2, hm⟩ := gd hm
      refine go_iast rfl (w_1 hp) b2 (ws_1 hp) ?_
      refine go_run 2 (F' := (98, [some (.ref 134), some (.long l1), u2, some (.int l3), u4, some (.int (l5 + 1))], [], Wm pre post I (upA A 1 (upd (A 1) (Int32.toNatClampNeg ((I 1) + l5)) (Int64.toInt32 ((l1 >>> (Int32.toInt64 (8 * l5) &&& 63)) &&& 255)))))) rfl ?_
      exact ih hm
def x_type_10 : Nat → (Nat → Int32) → (Nat → Nat → Int32) → Int64 → Int32 → Int32 → Option xR
  | 0, _, _, _, _, _ => none
  | n + 1, I, A, l1, l3, l4 => (if 8 ≤ l3 then (if l4 = 0 then (some (I, A, 0)) else (if (I 1) + l3 ≤ 200 then (x_type_98  n I A l1 l3 0) else (some (I, A, 0)))) else (if lg_cmp ((l1 >>> (Int32.toInt64 (8 * l3) &&& 63)) &&& 255) 0 = 0 then (if l4 = 0 then (some (I, A, 0)) else (if (I 1) + l3 ≤ 200 then (x_type_98  n I A l1 l3 0) else (some (I, A, 0)))) else (if l4 = 0 then (x_type_10 n I A l1 (l3 + 1) 0) else (if Int64.toInt32 ((l1 >>> (Int32.toInt64 (8 * l3) &&& 63)) &&& 255) ≤ 32 then (x_type_10 n I A l1 (l3 + 1) 0) else (if 127 ≤ Int64.toInt32 ((l1 >>> (Int32.toInt64 (8 * l3) &&& 63)) &&& 255) then (x_type_10 n I A l1 (l3 + 1) 0) else (x_type_10 n I A l1 (l3 + 1) 1))))))
theorem g_type_10 {X : ie_X} {d : Nat} {pre post : ie_H} (hp : pre.length = 134) : ∀ (n : Nat) {I : Nat → Int32} {A : Nat → Nat → Int32} {l1 : Int64} {l3 l4 : Int32} {u2 u5 : Option Value} {I' : Nat → Int32} {A' : Nat → Nat → Int32} {r : Int32}, x_type_10 n I A l1 l3 l4 = some (I', A', r) → Go X (d + 0) 135 (10, [some (.ref 134), some (.long l1), u2, some (.int l3), some (.int l4), u5], [], Wm pre post I A) (.inl (some (.int r))) (Wm pre post I' A') := by
  intro n
  induction n with
  | zero => intro I A l1 l3 l4 u2 u5 I' A' r hm; cases hm
  | succ n ih =>
    intro I A l1 l3 l4 u2 u5 I' A' r hm
    unfold x_type_10 at hm
    refine go_run 0 (F' := (10, [some (.ref 134), some (.long l1), u2, some (.int l3), some (.int l4), u5], [], Wm pre post I A)) rfl ?_
    refine go_run 2 (F' := (13, [some (.ref 134), some (.long l1), u2, some (.int l3), some (.int l4), u5], [.int 8, .int l3], Wm pre post I A)) rfl ?_
    refine go_step rfl rfl ?_
    by_cases q1 : 8 ≤ l3
    · rw [if_pos q1] at hm ⊢
      refine go_run 0 (F' := (76, [some (.ref 134), some (.long l1), u2, some (.int l3), some (.int l4), u5], [], Wm pre post I A)) rfl ?_
      refine go_run 1 (F' := (78, [some (.ref 134), some (.long l1), u2, some (.int l3), some (.int l4), u5], [.int l4], Wm pre post I A)) rfl ?_
      refine go_step rfl rfl ?_
      by_cases q2 : l4 = 0
      · rw [if_pos q2] at hm ⊢
        refine go_run 0 (F' := (93, [some (.ref 134), some (.long l1), u2, some (.int l3), some (.int l4), u5], [], Wm pre post I A)) rfl ?_
        refine go_run 1 (F' := (94, [some (.ref 134), some (.long l1), u2, some (.int l3), some (.int l4), u5], [.int 0], Wm pre post I A)) rfl ?_
        cases hm
        exact go_end rfl rfl
      · rw [if_neg q2] at hm ⊢
        refine go_run 0 (F' := (81, [some (.ref 134), some (.long l1), u2, some (.int l3), some (.int l4), u5], [], Wm pre post I A)) rfl ?_
        refine go_run 1 (F' := (82, [some (.ref 134), some (.long l1), u2, some (.int l3), some (.int l4), u5], [.ref 134], Wm pre post I A)) rfl ?_
        refine go_gf rfl (w_0 hp) rfl ?_
        refine go_run 3 (F' := (90, [some (.ref 134), some (.long l1), u2, some (.int l3), some (.int l4), u5], [.int 200, .int ((I 1) + l3)], Wm pre post I A)) rfl ?_
        refine go_step rfl rfl ?_
        by_cases q3 : (I 1) + l3 ≤ 200
        · rw [if_pos q3] at hm ⊢
          refine go_run 0 (F' := (95, [some (.ref 134), some (.long l1), u2, some (.int l3), some (.int l4), u5], [], Wm pre post I A)) rfl ?_
          refine go_run 2 (F' := (98, [some (.ref 134), some (.long l1), u2, some (.int l3), some (.int l4), some (.int 0)], [], Wm pre post I A)) rfl ?_
          exact g_type_98 hp  n hm
        · rw [if_neg q3] at hm ⊢
          refine go_run 0 (F' := (93, [some (.ref 134), some (.long l1), u2, some (.int l3), some (.int l4), u5], [], Wm pre post I A)) rfl ?_
          refine go_run 1 (F' := (94, [some (.ref 134), some (.long l1), u2, some (.int l3), some (.int l4), u5], [.int 0], Wm pre post I A)) rfl ?_
          cases hm
          exact go_end rfl rfl
    · rw [if_neg q1] at hm ⊢
      refine go_run 0 (F' := (16, [some (.ref 134), some (.long l1), u2, some (.int l3), some (.int l4), u5], [], Wm pre post I A)) rfl ?_
      refine go_run 9 (F' := (28, [some (.ref 134), some (.long l1), u2, some (.int l3), some (.int l4), u5], [.int (lg_cmp ((l1 >>> (Int32.toInt64 (8 * l3) &&& 63)) &&& 255) 0)], Wm pre post I A)) rfl ?_
      refine go_step rfl rfl ?_
      by_cases q4 : lg_cmp ((l1 >>> (Int32.toInt64 (8 * l3) &&& 63)) &&& 255) 0 = 0
      · rw [if_pos q4] at hm ⊢
        refine go_run 0 (F' := (76, [some (.ref 134), some (.long l1), u2, some (.int l3), some (.int l4), u5], [], Wm pre post I A)) rfl ?_
        refine go_run 1 (F' := (78, [some (.ref 134), some (.long l1), u2, some (.int l3), some (.int l4), u5], [.int l4], Wm pre post I A)) rfl ?_
        refine go_step rfl rfl ?_
        by_cases q5 : l4 = 0
        · rw [if_pos q5] at hm ⊢
          refine go_run 0 (F' := (93, [some (.ref 134), some (.long l1), u2, some (.int l3), some (.int l4), u5], [], Wm pre post I A)) rfl ?_
          refine go_run 1 (F' := (94, [some (.ref 134), some (.long l1), u2, some (.int l3), some (.int l4), u5], [.int 0], Wm pre post I A)) rfl ?_
          cases hm
          exact go_end rfl rfl
        · rw [if_neg q5] at hm ⊢
          refine go_run 0 (F' := (81, [some (.ref 134), some (.long l1), u2, some (.int l3), some (.int l4), u5], [], Wm pre post I A)) rfl ?_
          refine go_run 1 (F' := (82, [some (.ref 134), some (.long l1), u2, some (.int l3), some (.int l4), u5], [.ref 134], Wm pre post I A)) rfl ?_
          refine go_gf rfl (w_0 hp) rfl ?_
          refine go_run 3 (F' := (90, [some (.ref 134), some (.long l1), u2, some (.int l3), some (.int l4), u5], [.int 200, .int ((I 1) + l3)], Wm pre post I A)) rfl ?_
          refine go_step rfl rfl ?_
          by_cases q6 : (I 1) + l3 ≤ 200
          · rw [if_pos q6] at hm ⊢
            refine go_run 0 (F' := (95, [some (.ref 134), some (.long l1), u2, some (.int l3), some (.int l4), u5], [], Wm pre post I A)) rfl ?_
            refine go_run 2 (F' := (98, [some (.ref 134), some (.long l1), u2, some (.int l3), some (.int l4), some (.int 0)], [], Wm pre post I A)) rfl ?_
            exact g_type_98 hp  n hm
          · rw [if_neg q6] at hm ⊢
            refine go_run 0 (F' := (93, [some (.ref 134), some (.long l1), u2, some (.int l3), some (.int l4), u5], [], Wm pre post I A)) rfl ?_
            refine go_run 1 (F' := (94, [some (.ref 134), some (.long l1), u2, some (.int l3), some (.int l4), u5], [.int 0], Wm pre post I A)) rfl ?_
            cases hm
            exact go_end rfl rfl
      · rw [if_neg q4] at hm ⊢
        refine go_run 0 (F' := (31, [some (.ref 134), some (.long l1), u2, some (.int l3), some (.int l4), u5], [], Wm pre post I A)) rfl ?_
        refine go_run 10 (F' := (46, [some (.ref 134), some (.long l1), u2, some (.int l3), some (.int l4), some (.int (Int64.toInt32 ((l1 >>> (Int32.toInt64 (8 * l3) &&& 63)) &&& 255)))], [.int l4], Wm pre post I A)) rfl ?_
        refine go_step rfl rfl ?_
        by_cases q7 : l4 = 0
        · rw [if_pos q7] at hm ⊢
          refine go_run 0 (F' := (67, [some (.ref 134), some (.long l1), u2, some (.int l3), some (.int l4), some (.int (Int64.toInt32 ((l1 >>> (Int32.toInt64 (8 * l3) &&& 63)) &&& 255)))], [], Wm pre post I A)) rfl ?_
          refine go_run 4 (F' := (10, [some (.ref 134), some (.long l1), u2, some (.int (l3 + 1)), some (.int 0), some (.int (Int64.toInt32 ((l1 >>> (Int32.toInt64 (8 * l3) &&& 63)) &&& 255)))], [], Wm pre post I A)) rfl ?_
          exact ih hm
        · rw [if_neg q7] at hm ⊢
          refine go_run 0 (F' := (49, [some (.ref 134), some (.long l1), u2, some (.int l3), some (.int l4), some (.int (Int64.toInt32 ((l1 >>> (Int32.toInt64 (8 * l3) &&& 63)) &&& 255)))], [], Wm pre post I A)) rfl ?_
          refine go_run 2 (F' := (53, [some (.ref 134), some (.long l1), u2, some (.int l3), some (.int l4), some (.int (Int64.toInt32 ((l1 >>> (Int32.toInt64 (8 * l3) &&& 63)) &&& 255)))], [.int 32, .int (Int64.toInt32 ((l1 >>> (Int32.toInt64 (8 * l3) &&& 63)) &&& 255))], Wm pre post I A)) rfl ?_
          refine go_step rfl rfl ?_
          by_cases q8 : Int64.toInt32 ((l1 >>> (Int32.toInt64 (8 * l3) &&& 63)) &&& 255) ≤ 32
          · rw [if_pos q8] at hm ⊢
            refine go_run 0 (F' := (67, [some (.ref 134), some (.long l1), u2, some (.int l3), some (.int l4), some (.int (Int64.toInt32 ((l1 >>> (Int32.toInt64 (8 * l3) &&& 63)) &&& 255)))], [], Wm pre post I A)) rfl ?_
            refine go_run 4 (F' := (10, [some (.ref 134), some (.long l1), u2, some (.int (l3 + 1)), some (.int 0), some (.int (Int64.toInt32 ((l1 >>> (Int32.toInt64 (8 * l3) &&& 63)) &&& 255)))], [], Wm pre post I A)) rfl ?_
            exact ih hm
          · rw [if_neg q8] at hm ⊢
            refine go_run 0 (F' := (56, [some (.ref 134), some (.long l1), u2, some (.int l3), some (.int l4), some (.int (Int64.toInt32 ((l1 >>> (Int32.toInt64 (8 * l3) &&& 63)) &&& 255)))], [], Wm pre post I A)) rfl ?_
            refine go_run 2 (F' := (60, [some (.ref 134), some (.long l1), u2, some (.int l3), some (.int l4), some (.int (Int64.toInt32 ((l1 >>> (Int32.toInt64 (8 * l3) &&& 63)) &&& 255)))], [.int 127, .int (Int64.toInt32 ((l1 >>> (Int32.toInt64 (8 * l3) &&& 63)) &&& 255))], Wm pre post I A)) rfl ?_
            refine go_step rfl rfl ?_
            by_cases q9 : 127 ≤ Int64.toInt32 ((l1 >>> (Int32.toInt64 (8 * l3) &&& 63)) &&& 255)
            · rw [if_pos q9] at hm ⊢
              refine go_run 0 (F' := (67, [some (.ref 134), some (.long l1), u2, some (.int l3), some (.int l4), some (.int (Int64.toInt32 ((l1 >>> (Int32.toInt64 (8 * l3) &&& 63)) &&& 255)))], [], Wm pre post I A)) rfl ?_
              refine go_run 4 (F' := (10, [some (.ref 134), some (.long l1), u2, some (.int (l3 + 1)), some (.int 0), some (.int (Int64.toInt32 ((l1 >>> (Int32.toInt64 (8 * l3) &&& 63)) &&& 255)))], [], Wm pre post I A)) rfl ?_
              exact ih hm
            · rw [if_neg q9] at hm ⊢
              refine go_run 0 (F' := (63, [some (.ref 134), some (.long l1), u2, some (.int l3), some (.int l4), some (.int (Int64.toInt32 ((l1 >>> (Int32.toInt64 (8 * l3) &&& 63)) &&& 255)))], [], Wm pre post I A)) rfl ?_
              refine go_run 5 (F' := (10, [some (.ref 134), some (.long l1), u2, some (.int (l3 + 1)), some (.int 1), some (.int (Int64.toInt32 ((l1 >>> (Int32.toInt64 (8 * l3) &&& 63)) &&& 255)))], [], Wm pre post I A)) rfl ?_
              exact ih hm
def x_type (n : Nat) (I : Nat → Int32) (A : Nat → Nat → Int32) (a1 : Int64) : Option xR := (x_type_10  n (upd I 0 0) A a1 0 1)
theorem g_type {X : ie_X} {d : Nat} {pre post : ie_H} (hp : pre.length = 134) {n : Nat} {I : Nat → Int32} {A : Nat → Nat → Int32} {a1 : Int64} {I' : Nat → Int32} {A' : Nat → Nat → Int32} {r : Int32} (hm : x_type n I A a1 = some (I', A', r)) : Go X (d + 0) 135 (0, ie_en 135 [.ref 134, .long a1], [], Wm pre post I A) (.inl (some (.int r))) (Wm pre post I' A') := by
  unfold x_type at hm
  refine go_run 0 (F' := (0, [some (.ref 134), some (.long a1), none, none, none, none], [], Wm pre post I A)) rfl ?_
  refine go_run 2 (F' := (2, [some (.ref 134), some (.long a1), none, none, none, none], [.int 0, .ref 134], Wm pre post I A)) rfl ?_
  refine go_pf rfl (w_0 hp) (Nat.le_of_ble_eq_true rfl) rfl (wo_0 hp) ?_
  refine go_run 4 (F' := (10, [some (.ref 134), some (.long a1), none, some (.int 0), some (.int 1), none], [], Wm pre post (upd I 0 0) A)) rfl ?_
  exact g_type_10 hp  n hm
def x_now (I : Nat → Int32) (A : Nat → Nat → Int32) : Option xR := (if I 4 ≤ I 6 then (some (I, A, 0)) else (if ib (I 6) 200 then (some (I, A, (A 2) (Int32.toNatClampNeg (I 6)))) else none))
theorem g_now {X : ie_X} {d : Nat} {pre post : ie_H} (hp : pre.length = 134) {I : Nat → Int32} {A : Nat → Nat → Int32} {I' : Nat → Int32} {A' : Nat → Nat → Int32} {r : Int32} (hm : x_now I A = some (I', A', r)) : Go X (d + 0) 138 (0, ie_en 138 [.ref 134], [], Wm pre post I A) (.inl (some (.int r))) (Wm pre post I' A') := by
  unfold x_now at hm
  refine go_run 0 (F' := (0, [some (.ref 134)], [], Wm pre post I A)) rfl ?_
  refine go_run 1 (F' := (1, [some (.ref 134)], [.ref 134], Wm pre post I A)) rfl ?_
  refine go_gf rfl (w_0 hp) rfl ?_
  refine go_run 1 (F' := (5, [some (.ref 134)], [.ref 134, .int (I 6)], Wm pre post I A)) rfl ?_
  refine go_gf rfl (w_0 hp) rfl ?_
  refine go_run 0 (F' := (8, [some (.ref 134)], [.int (I 4), .int (I 6)], Wm pre post I A)) rfl ?_
  refine go_step rfl rfl ?_
  by_cases q1 : I 4 ≤ I 6
  · rw [if_pos q1] at hm ⊢
    refine go_run 0 (F' := (23, [some (.ref 134)], [], Wm pre post I A)) rfl ?_
    refine go_run 1 (F' := (24, [some (.ref 134)], [.int 0], Wm pre post I A)) rfl ?_
    cases hm
    exact go_end rfl rfl
  · rw [if_neg q1] at hm ⊢
    refine go_run 0 (F' := (11, [some (.ref 134)], [], Wm pre post I A)) rfl ?_
    refine go_run 1 (F' := (12, [some (.ref 134)], [.ref 134], Wm pre post I A)) rfl ?_
    refine go_gf rfl (w_0 hp) rfl ?_
    refine go_run 1 (F' := (16, [some (.ref 134)], [.ref 134, .ref 136], Wm pre post I A)) rfl ?_
    refine go_gf rfl (w_0 hp) rfl ?_
    refine go_run 0 (F' := (19, [some (.ref 134)], [.int (I 6), .ref 136], Wm pre post I A)) rfl ?_
    obtain ⟨b2, hm⟩ := gd hm
    refine go_iald rfl (by decide) (w_2 hp) b2 rfl ?_
    refine go_run 1 (F' := (24, [some (.ref 134)], [.int ((A 2) (Int32.toNatClampNeg (I 6)))], Wm pre post I A)) rfl ?_
    cases hm
    exact go_end rfl rfl
def x_want (I : Nat → Int32) (A : Nat → Nat → Int32) (a1 : Int32) : Option xR := (if I 7 = 0 then (if I 6 < I 4 then (if ib (I 6) 200 then (if (A 2) (Int32.toNatClampNeg (I 6)) = a1 then (some (upd I 6 ((I 6) + 1), A, 0)) else (some (upd I 7 1, A, 0))) else none) else (some (I, A, 0))) else (some (I, A, 0)))
theorem g_want {X : ie_X} {d : Nat} {pre post : ie_H} (hp : pre.length = 134) {I : Nat → Int32} {A : Nat → Nat → Int32} {a1 : Int32} {I' : Nat → Int32} {A' : Nat → Nat → Int32} {r : Int32} (hm : x_want I A a1 = some (I', A', r)) : Go X (d + 0) 141 (0, ie_en 141 [.ref 134, .int a1], [], Wm pre post I A) (.inl none) (Wm pre post I' A') := by
  unfold x_want at hm
  refine go_run 0 (F' := (0, [some (.ref 134), some (.int a1)], [], Wm pre post I A)) rfl ?_
  refine go_run 1 (F' := (1, [some (.ref 134), some (.int a1)], [.ref 134], Wm pre post I A)) rfl ?_
  refine go_gf rfl (w_0 hp) rfl ?_
  refine go_run 0 (F' := (4, [some (.ref 134), some (.int a1)], [.int (I 7)], Wm pre post I A)) rfl ?_
  refine go_step rfl rfl ?_
  by_cases q1 : I 7 = 0
  · rw [if_pos q1] at hm ⊢
    refine go_run 0 (F' := (7, [some (.ref 134), some (.int a1)], [], Wm pre post I A)) rfl ?_
    refine go_run 1 (F' := (8, [some (.ref 134), some (.int a1)], [.ref 134], Wm pre post I A)) rfl ?_
    refine go_gf rfl (w_0 hp) rfl ?_
    refine go_run 1 (F' := (12, [some (.ref 134), some (.int a1)], [.ref 134, .int (I 6)], Wm pre post I A)) rfl ?_
    refine go_gf rfl (w_0 hp) rfl ?_
    refine go_run 0 (F' := (15, [some (.ref 134), some (.int a1)], [.int (I 4), .int (I 6)], Wm pre post I A)) rfl ?_
    refine go_step rfl rfl ?_
    by_cases q2 : I 6 < I 4
    · rw [if_pos q2] at hm ⊢
      refine go_run 0 (F' := (19, [some (.ref 134), some (.int a1)], [], Wm pre post I A)) rfl ?_
      refine go_run 1 (F' := (20, [some (.ref 134), some (.int a1)], [.ref 134], Wm pre post I A)) rfl ?_
      refine go_gf rfl (w_0 hp) rfl ?_
      refine go_run 1 (F' := (24, [some (.ref 134), some (.int a1)], [.ref 134, .ref 136], Wm pre post I A)) rfl ?_
      refine go_gf rfl (w_0 hp) rfl ?_
      refine go_run 0 (F' := (27, [some (.ref 134), some (.int a1)], [.int (I 6), .ref 136], Wm pre post I A)) rfl ?_
      obtain ⟨b3, hm⟩ := gd hm
      refine go_iald rfl (by decide) (w_2 hp) b3 rfl ?_
      refine go_run 1 (F' := (29, [some (.ref 134), some (.int a1)], [.int a1, .int ((A 2) (Int32.toNatClampNeg (I 6)))], Wm pre post I A)) rfl ?_
      refine go_step rfl rfl ?_
      by_cases q4 : (A 2) (Int32.toNatClampNeg (I 6)) = a1
      · rw [if_pos q4] at hm ⊢
        refine go_run 0 (F' := (32, [some (.ref 134), some (.int a1)], [], Wm pre post I A)) rfl ?_
        refine go_run 2 (F' := (34, [some (.ref 134), some (.int a1)], [.ref 134, .ref 134], Wm pre post I A)) rfl ?_
        refine go_gf rfl (w_0 hp) rfl ?_
        refine go_run 2 (F' := (39, [some (.ref 134), some (.int a1)], [.int ((I 6) + 1), .ref 134], Wm pre post I A)) rfl ?_
        refine go_pf rfl (w_0 hp) (Nat.le_of_ble_eq_true rfl) rfl (wo_6 hp) ?_
        refine go_run 1 (F' := (50, [some (.ref 134), some (.int a1)], [], Wm pre post (upd I 6 ((I 6) + 1)) A)) rfl ?_
        cases hm
        exact go_end rfl rfl
      · rw [if_neg q4] at hm ⊢
        refine go_run 0 (F' := (45, [some (.ref 134), some (.int a1)], [], Wm pre post I A)) rfl ?_
        refine go_run 2 (F' := (47, [some (.ref 134), some (.int a1)], [.int 1, .ref 134], Wm pre post I A)) rfl ?_
        refine go_pf rfl (w_0 hp) (Nat.le_of_ble_eq_true rfl) rfl (wo_7 hp) ?_
        refine go_run 0 (F' := (50, [some (.ref 134), some (.int a1)], [], Wm pre post (upd I 7 1) A)) rfl ?_
        cases hm
        exact go_end rfl rfl
    · rw [if_neg q2] at hm ⊢
      refine go_run 0 (F' := (18, [some (.ref 134), some (.int a1)], [], Wm pre post I A)) rfl ?_
      refine go_run 0 (F' := (18, [some (.ref 134), some (.int a1)], [], Wm pre post I A)) rfl ?_
      cases hm
      exact go_end rfl rfl
  · rw [if_neg q1] at hm ⊢
    refine go_run 0 (F' := (18, [some (.ref 134), some (.int a1)], [], Wm pre post I A)) rfl ?_
    refine go_run 0 (F' := (18, [some (.ref 134), some (.int a1)], [], Wm pre post I A)) rfl ?_
    cases hm
    exact go_end rfl rfl
def x_begin (I : Nat → Int32) (A : Nat → Nat → Int32) (a1 a2 : Int32) : Option xR := (if ib (I 5) 200 then (if ib (I 9) 8 then (some (upd (upd I 5 ((I 5) + 1)) 9 ((I 9) + 1), upA (upA (upA (upA (upA A 3 (upd (A 3) (Int32.toNatClampNeg (I 5)) 6)) 12 (upd (A 12) (Int32.toNatClampNeg (I 5)) a1)) 13 (upd (A 13) (Int32.toNatClampNeg (I 5)) a2)) 14 (upd (A 14) (Int32.toNatClampNeg (I 5)) 0)) 15 (upd (A 15) (Int32.toNatClampNeg (I 9)) (((I 5) + 1) - 1)), 0)) else none) else none)
theorem g_begin {X : ie_X} {d : Nat} {pre post : ie_H} (hp : pre.length = 134) {I : Nat → Int32} {A : Nat → Nat → Int32} {a1 a2 : Int32} {I' : Nat → Int32} {A' : Nat → Nat → Int32} {r : Int32} (hm : x_begin I A a1 a2 = some (I', A', r)) : Go X (d + 0) 142 (0, ie_en 142 [.ref 134, .int a1, .int a2], [], Wm pre post I A) (.inl none) (Wm pre post I' A') := by
  unfold x_begin at hm
  refine go_run 0 (F' := (0, [some (.ref 134), some (.int a1), some (.int a2)], [], Wm pre post I A)) rfl ?_
  refine go_run 1 (F' := (1, [some (.ref 134), some (.int a1), some (.int a2)], [.ref 134], Wm pre post I A)) rfl ?_
  refine go_gf rfl (w_0 hp) rfl ?_
  refine go_run 1 (F' := (5, [some (.ref 134), some (.int a1), some (.int a2)], [.ref 134, .ref 137], Wm pre post I A)) rfl ?_
  refine go_gf rfl (w_0 hp) rfl ?_
  refine go_run 1 (F' := (10, [some (.ref 134), some (.int a1), some (.int a2)], [.int 6, .int (I 5), .ref 137], Wm pre post I A)) rfl ?_
  obtain ⟨b1, hm⟩ := gd hm
  refine go_iast rfl (w_3 hp) b1 (ws_3 hp) ?_
  refine go_run 1 (F' := (12, [some (.ref 134), some (.int a1), some (.int a2)], [.ref 134], Wm pre post I (upA A 3 (upd (A 3) (Int32.toNatClampNeg (I 5)) 6)))) rfl ?_
  refine go_gf rfl (w_0 hp) rfl ?_
  refine go_run 1 (F' := (16, [some (.ref 134), some (.int a1), some (.int a2)], [.ref 134, .ref 146], Wm pre post I (upA A 3 (upd (A 3) (Int32.toNatClampNeg (I 5)) 6)))) rfl ?_
  refine go_gf rfl (w_0 hp) rfl ?_
  refine go_run 1 (F' := (20, [some (.ref 134), some (.int a1), some (.int a2)], [.int a1, .int (I 5), .ref 146], Wm pre post I (upA A 3 (upd (A 3) (Int32.toNatClampNeg (I 5)) 6)))) rfl ?_
  refine go_iast rfl (w_12 hp) b1 (ws_12 hp) ?_
  refine go_run 1 (F' := (22, [some (.ref 134), some (.int a1), some (.int a2)], [.ref 134], Wm pre post I (upA (upA A 3 (upd (A 3) (Int32.toNatClampNeg (I 5)) 6)) 12 (upd (A 12) (Int32.toNatClampNeg (I 5)) a1)))) rfl ?_
  refine go_gf rfl (w_0 hp) rfl ?_
  refine go_run 1 (F' := (26, [some (.ref 134), some (.int a1), some (.int a2)], [.ref 134, .ref 147], Wm pre post I (upA (upA A 3 (upd (A 3) (Int32.toNatClampNeg (I 5)) 6)) 12 (upd (A 12) (Int32.toNatClampNeg (I 5)) a1)))) rfl ?_
  refine go_gf rfl (w_0 hp) rfl ?_
  refine go_run 1 (F' := (30, [some (.ref 134), some (.int a1), some (.int a2)], [.int a2, .int (I 5), .ref 147], Wm pre post I (upA (upA A 3 (upd (A 3) (Int32.toNatClampNeg (I 5)) 6)) 12 (upd (A 12) (Int32.toNatClampNeg (I 5)) a1)))) rfl ?_
  refine go_iast rfl (w_13 hp) b1 (ws_13 hp) ?_
  refine go_run 1 (F' := (32, [some (.ref 134), some (.int a1), some (.int a2)], [.ref 134], Wm pre post I (upA (upA (upA A 3 (upd (A 3) (Int32.toNatClampNeg (I 5)) 6)) 12 (upd (A 12) (Int32.toNatClampNeg (I 5)) a1)) 13 (upd (A 13) (Int32.toNatClampNeg (I 5)) a2)))) rfl ?_
  refine go_gf rfl (w_0 hp) rfl ?_
  refine go_run 1 (F' := (36, [some (.ref 134), some (.int a1), some (.int a2)], [.ref 134, .ref 148], Wm pre post I (upA (upA (upA A 3 (upd (A 3) (Int32.toNatClampNeg (I 5)) 6)) 12 (upd (A 12) (Int32.toNatClampNeg (I 5)) a1)) 13 (upd (A 13) (Int32.toNatClampNeg (I 5)) a2)))) rfl ?_
  refine go_gf rfl (w_0 hp) rfl ?_
  refine go_run 1 (F' := (40, [some (.ref 134), some (.int a1), some (.int a2)], [.int 0, .int (I 5), .ref 148], Wm pre post I (upA (upA (upA A 3 (upd (A 3) (Int32.toNatClampNeg (I 5)) 6)) 12 (upd (A 12) (Int32.toNatClampNeg (I 5)) a1)) 13 (upd (A 13) (Int32.toNatClampNeg (I 5)) a2)))) rfl ?_
  refine go_iast rfl (w_14 hp) b1 (ws_14 hp) ?_
  refine go_run 2 (F' := (43, [some (.ref 134), some (.int a1), some (.int a2)], [.ref 134, .ref 134], Wm pre post I (upA (upA (upA (upA A 3 (upd (A 3) (Int32.toNatClampNeg (I 5)) 6)) 12 (upd (A 12) (Int32.toNatClampNeg (I 5)) a1)) 13 (upd (A 13) (Int32.toNatClampNeg (I 5)) a2)) 14 (upd (A 14) (Int32.toNatClampNeg (I 5)) 0)))) rfl ?_
  refine go_gf rfl (w_0 hp) rfl ?_
  refine go_run 2 (F' := (48, [some (.ref 134), some (.int a1), some (.int a2)], [.int ((I 5) + 1), .ref 134], Wm pre post I (upA (upA (upA (upA A 3 (upd (A 3) (Int32.toNatClampNeg (I 5)) 6)) 12 (upd (A 12) (Int32.toNatClampNeg (I 5)) a1)) 13 (upd (A 13) (Int32.toNatClampNeg (I 5)) a2)) 14 (upd (A 14) (Int32.toNatClampNeg (I 5)) 0)))) rfl ?_
  refine go_pf rfl (w_0 hp) (Nat.le_of_ble_eq_true rfl) rfl (wo_5 hp) ?_
  refine go_run 1 (F' := (52, [some (.ref 134), some (.int a1), some (.int a2)], [.ref 134], Wm pre post (upd I 5 ((I 5) + 1)) (upA (upA (upA (upA A 3 (upd (A 3) (Int32.toNatClampNeg (I 5)) 6)) 12 (upd (A 12) (Int32.toNatClampNeg (I 5)) a1)) 13 (upd (A 13) (Int32.toNatClampNeg (I 5)) a2)) 14 (upd (A 14) (Int32.toNatClampNeg (I 5)) 0)))) rfl ?_
  refine go_gf rfl (w_0 hp) rfl ?_
  refine go_run 1 (F' := (56, [some (.ref 134), some (.int a1), some (.int a2)], [.ref 134, .ref 149], Wm pre post (upd I 5 ((I 5) + 1)) (upA (upA (upA (upA A 3 (upd (A 3) (Int32.toNatClampNeg (I 5)) 6)) 12 (upd (A 12) (Int32.toNatClampNeg (I 5)) a1)) 13 (upd (A 13) (Int32.toNatClampNeg (I 5)) a2)) 14 (upd (A 14) (Int32.toNatClampNeg (I 5)) 0)))) rfl ?_
  refine go_gf rfl (w_0 hp) rfl ?_
  refine go_run 1 (F' := (60, [some (.ref 134), some (.int a1), some (.int a2)], [.ref 134, .int (I 9), .ref 149], Wm pre post (upd I 5 ((I 5) + 1)) (upA (upA (upA (upA A 3 (upd (A 3) (Int32.toNatClampNeg (I 5)) 6)) 12 (upd (A 12) (Int32.toNatClampNeg (I 5)) a1)) 13 (upd (A 13) (Int32.toNatClampNeg (I 5)) a2)) 14 (upd (A 14) (Int32.toNatClampNeg (I 5)) 0)))) rfl ?_
  refine go_gf rfl (w_0 hp) rfl ?_
  refine go_run 2 (F' := (65, [some (.ref 134), some (.int a1), some (.int a2)], [.int (((I 5) + 1) - 1), .int (I 9), .ref 149], Wm pre post (upd I 5 ((I 5) + 1)) (upA (upA (upA (upA A 3 (upd (A 3) (Int32.toNatClampNeg (I 5)) 6)) 12 (upd (A 12) (Int32.toNatClampNeg (I 5)) a1)) 13 (upd (A 13) (Int32.toNatClampNeg (I 5)) a2)) 14 (upd (A 14) (Int32.toNatClampNeg (I 5)) 0)))) rfl ?_
  obtain ⟨b2, hm⟩ := gd hm
  refine go_iast rfl (w_15 hp) b2 (ws_15 hp) ?_
  refine go_run 2 (F' := (68, [some (.ref 134), some (.int a1), some (.int a2)], [.ref 134, .ref 134], Wm pre post (upd I 5 ((I 5) + 1)) (upA (upA (upA (upA (upA A 3 (upd (A 3) (Int32.toNatClampNeg (I 5)) 6)) 12 (upd (A 12) (Int32.toNatClampNeg (I 5)) a1)) 13 (upd (A 13) (Int32.toNatClampNeg (I 5)) a2)) 14 (upd (A 14) (Int32.toNatClampNeg (I 5)) 0)) 15 (upd (A 15) (Int32.toNatClampNeg (I 9)) (((I 5) + 1) - 1))))) rfl ?_
  refine go_gf rfl (w_0 hp) rfl ?_
  refine go_run 2 (F' := (73, [some (.ref 134), some (.int a1), some (.int a2)], [.int ((I 9) + 1), .ref 134], Wm pre post (upd I 5 ((I 5) + 1)) (upA (upA (upA (upA (upA A 3 (upd (A 3) (Int32.toNatClampNeg (I 5)) 6)) 12 (upd (A 12) (Int32.toNatClampNeg (I 5)) a1)) 13 (upd (A 13) (Int32.toNatClampNeg (I 5)) a2)) 14 (upd (A 14) (Int32.toNatClampNeg (I 5)) 0)) 15 (upd (A 15) (Int32.toNatClampNeg (I 9)) (((I 5) + 1) - 1))))) rfl ?_
  refine go_pf rfl (w_0 hp) (Nat.le_of_ble_eq_true rfl) rfl (wo_9 hp) ?_
  refine go_run 0 (F' := (76, [some (.ref 134), some (.int a1), some (.int a2)], [], Wm pre post (upd (upd I 5 ((I 5) + 1)) 9 ((I 9) + 1)) (upA (upA (upA (upA (upA A 3 (upd (A 3) (Int32.toNatClampNeg (I 5)) 6)) 12 (upd (A 12) (Int32.toNatClampNeg (I 5)) a1)) 13 (upd (A 13) (Int32.toNatClampNeg (I 5)) a2)) 14 (upd (A 14) (Int32.toNatClampNeg (I 5)) 0)) 15 (upd (A 15) (Int32.toNatClampNeg (I 9)) (((I 5) + 1) - 1))))) rfl ?_
  cases hm
  exact go_end rfl rfl
def x_readBegin (I : Nat → Int32) (A : Nat → Nat → Int32) (a1 a2 : Int32) : Option xR := (if I 7 = 0 then (if I 6 < I 4 then (xb (x_want I A 123) fun I1 A1 v1 => (if I1 7 = 0 then (xb (x_begin I1 A1 a1 a2) fun I2 A2 v2 => (some (I2, A2, 0))) else (some (I1, A1, 0)))) else (some (I, A, 0))) else (some (I, A, 0)))
theorem g_readBegin {X : ie_X} {d : Nat} {pre post : ie_H} (hp : pre.length = 134) {I : Nat → Int32} {A : Nat → Nat → Int32} {a1 a2 : Int32} {I' : Nat → Int32} {A' : Nat → Nat → Int32} {r : Int32} (hm : x_readBegin I A a1 a2 = some (I', A', r)) : Go X (d + 1) 140 (0, ie_en 140 [.ref 134, .int a1, .int a2], [], Wm pre post I A) (.inl none) (Wm pre post I' A') := by
  unfold x_readBegin at hm
  refine go_run 0 (F' := (0, [some (.ref 134), some (.int a1), some (.int a2)], [], Wm pre post I A)) rfl ?_
  refine go_run 1 (F' := (1, [some (.ref 134), some (.int a1), some (.int a2)], [.ref 134], Wm pre post I A)) rfl ?_
  refine go_gf rfl (w_0 hp) rfl ?_
  refine go_run 0 (F' := (4, [some (.ref 134), some (.int a1), some (.int a2)], [.int (I 7)], Wm pre post I A)) rfl ?_
  refine go_step rfl rfl ?_
  by_cases q1 : I 7 = 0
  · rw [if_pos q1] at hm ⊢
    refine go_run 0 (F' := (7, [some (.ref 134), some (.int a1), some (.int a2)], [], Wm pre post I A)) rfl ?_
    refine go_run 1 (F' := (8, [some (.ref 134), some (.int a1), some (.int a2)], [.ref 134], Wm pre post I A)) rfl ?_
    refine go_gf rfl (w_0 hp) rfl ?_
    refine go_run 1 (F' := (12, [some (.ref 134), some (.int a1), some (.int a2)], [.ref 134, .int (I 6)], Wm pre post I A)) rfl ?_
    refine go_gf rfl (w_0 hp) rfl ?_
    refine go_run 0 (F' := (15, [some (.ref 134), some (.int a1), some (.int a2)], [.int (I 4), .int (I 6)], Wm pre post I A)) rfl ?_
    refine go_step rfl rfl ?_
    by_cases q2 : I 6 < I 4
    · rw [if_pos q2] at hm ⊢
      refine go_run 0 (F' := (19, [some (.ref 134), some (.int a1), some (.int a2)], [], Wm pre post I A)) rfl ?_
      refine go_run 2 (F' := (22, [some (.ref 134), some (.int a1), some (.int a2)], [.int 123, .ref 134], Wm pre post I A)) rfl ?_
      obtain ⟨I1, A1, v1, e1, hm⟩ := xb_inv hm
      refine go_call (m' := 141) (v := none) (h1 := Wm pre post I1 A1) rfl (by simp only [ie_step, ie_iv, List.drop, w_0 hp]; rfl) ⟨rfl, Nat.le_of_ble_eq_true rfl⟩ (g_want (d := d) hp e1) ?_
      refine go_run 0 (F' := (25, [some (.ref 134), some (.int a1), some (.int a2)], [], Wm pre post I1 A1)) rfl ?_
      refine go_run 1 (F' := (26, [some (.ref 134), some (.int a1), some (.int a2)], [.ref 134], Wm pre post I1 A1)) rfl ?_
      refine go_gf rfl (w_0 hp) rfl ?_
      refine go_run 0 (F' := (29, [some (.ref 134), some (.int a1), some (.int a2)], [.int (I1 7)], Wm pre post I1 A1)) rfl ?_
      refine go_step rfl rfl ?_
      by_cases q3 : I1 7 = 0
      · rw [if_pos q3] at hm ⊢
        refine go_run 0 (F' := (32, [some (.ref 134), some (.int a1), some (.int a2)], [], Wm pre post I1 A1)) rfl ?_
        refine go_run 3 (F' := (35, [some (.ref 134), some (.int a1), some (.int a2)], [.int a2, .int a1, .ref 134], Wm pre post I1 A1)) rfl ?_
        obtain ⟨I2, A2, v2, e2, hm⟩ := xb_inv hm
        refine go_call (m' := 142) (v := none) (h1 := Wm pre post I2 A2) rfl (by simp only [ie_step, ie_iv, List.drop, w_0 hp]; rfl) ⟨rfl, Nat.le_of_ble_eq_true rfl⟩ (g_begin (d := d) hp e2) ?_
        refine go_run 0 (F' := (38, [some (.ref 134), some (.int a1), some (.int a2)], [], Wm pre post I2 A2)) rfl ?_
        refine go_run 0 (F' := (38, [some (.ref 134), some (.int a1), some (.int a2)], [], Wm pre post I2 A2)) rfl ?_
        cases hm
        exact go_end rfl rfl
      · rw [if_neg q3] at hm ⊢
        refine go_run 0 (F' := (38, [some (.ref 134), some (.int a1), some (.int a2)], [], Wm pre post I1 A1)) rfl ?_
        refine go_run 0 (F' := (38, [some (.ref 134), some (.int a1), some (.int a2)], [], Wm pre post I1 A1)) rfl ?_
        cases hm
        exact go_end rfl rfl
    · rw [if_neg q2] at hm ⊢
      refine go_run 0 (F' := (18, [some (.ref 134), some (.int a1), some (.int a2)], [], Wm pre post I A)) rfl ?_
      refine go_run 0 (F' := (18, [some (.ref 134), some (.int a1), some (.int a2)], [], Wm pre post I A)) rfl ?_
      cases hm
      exact go_end rfl rfl
  · rw [if_neg q1] at hm ⊢
    refine go_run 0 (F' := (18, [some (.ref 134), some (.int a1), some (.int a2)], [], Wm pre post I A)) rfl ?_
    refine go_run 0 (F' := (18, [some (.ref 134), some (.int a1), some (.int a2)], [], Wm pre post I A)) rfl ?_
    cases hm
    exact go_end rfl rfl
def x_readEnd_145 (I : Nat → Int32) (A : Nat → Nat → Int32) (l1 l2 : Int32) : Option xR := (if l2 = 0 then (some (upd I 5 ((I 5) + 1), A, 0)) else (if I 6 < I 4 then (xb (x_readBegin (upd I 5 ((I 5) + 1)) A l1 0) fun I1 A1 v1 => (some (I1, A1, 0))) else (if ib (I 9) 8 then (some (upd (upd I 5 ((I 5) + 1)) 9 ((I 9) + 1), upA A 15 (upd (A 15) (Int32.toNatClampNeg (I 9)) (((I 5) + 1) - 1)), 0)) else none)))
theorem g_readEnd_145 {X : ie_X} {d : Nat} {pre post : ie_H} (hp : pre.length = 134) {I : Nat → Int32} {A : Nat → Nat → Int32} {l1 l2 : Int32} {I' : Nat → Int32} {A' : Nat → Nat → Int32} {r : Int32} (hm : x_readEnd_145 I A l1 l2 = some (I', A', r)) : Go X (d + 2) 139 (145, [some (.ref 134), some (.int l1), some (.int l2)], [], Wm pre post I A) (.inl none) (Wm pre post I' A') := by
  unfold x_readEnd_145 at hm
  refine go_run 0 (F' := (145, [some (.ref 134), some (.int l1), some (.int l2)], [], Wm pre post I A)) rfl ?_
  refine go_run 2 (F' := (147, [some (.ref 134), some (.int l1), some (.int l2)], [.ref 134, .ref 134], Wm pre post I A)) rfl ?_
  refine go_gf rfl (w_0 hp) rfl ?_
  refine go_run 2 (F' := (152, [some (.ref 134), some (.int l1), some (.int l2)], [.int ((I 5) + 1), .ref 134], Wm pre post I A)) rfl ?_
  refine go_pf rfl (w_0 hp) (Nat.le_of_ble_eq_true rfl) rfl (wo_5 hp) ?_
  refine go_run 1 (F' := (156, [some (.ref 134), some (.int l1), some (.int l2)], [.int l2], Wm pre post (upd I 5 ((I 5) + 1)) A)) rfl ?_
  refine go_step rfl rfl ?_
  by_cases q1 : l2 = 0
  · rw [if_pos q1] at hm ⊢
    refine go_run 0 (F' := (159, [some (.ref 134), some (.int l1), some (.int l2)], [], Wm pre post (upd I 5 ((I 5) + 1)) A)) rfl ?_
    refine go_run 0 (F' := (159, [some (.ref 134), some (.int l1), some (.int l2)], [], Wm pre post (upd I 5 ((I 5) + 1)) A)) rfl ?_
    cases hm
    exact go_end rfl rfl
  · rw [if_neg q1] at hm ⊢
    refine go_run 0 (F' := (160, [some (.ref 134), some (.int l1), some (.int l2)], [], Wm pre post (upd I 5 ((I 5) + 1)) A)) rfl ?_
    refine go_run 1 (F' := (161, [some (.ref 134), some (.int l1), some (.int l2)], [.ref 134], Wm pre post (upd I 5 ((I 5) + 1)) A)) rfl ?_
    refine go_gf rfl (w_0 hp) rfl ?_
    refine go_run 1 (F' := (165, [some (.ref 134), some (.int l1), some (.int l2)], [.ref 134, .int (I 6)], Wm pre post (upd I 5 ((I 5) + 1)) A)) rfl ?_
    refine go_gf rfl (w_0 hp) rfl ?_
    refine go_run 0 (F' := (168, [some (.ref 134), some (.int l1), some (.int l2)], [.int (I 4), .int (I 6)], Wm pre post (upd I 5 ((I 5) + 1)) A)) rfl ?_
    refine go_step rfl rfl ?_
    by_cases q2 : I 6 < I 4
    · rw [if_pos q2] at hm ⊢
      refine go_run 0 (F' := (199, [some (.ref 134), some (.int l1), some (.int l2)], [], Wm pre post (upd I 5 ((I 5) + 1)) A)) rfl ?_
      refine go_run 3 (F' := (202, [some (.ref 134), some (.int l1), some (.int l2)], [.int 0, .int l1, .ref 134], Wm pre post (upd I 5 ((I 5) + 1)) A)) rfl ?_
      obtain ⟨I1, A1, v1, e1, hm⟩ := xb_inv hm
      refine go_call (m' := 140) (v := none) (h1 := Wm pre post I1 A1) rfl (by simp only [ie_step, ie_iv, List.drop, w_0 hp]; rfl) ⟨rfl, Nat.le_of_ble_eq_true rfl⟩ (g_readBegin (d := d) hp e1) ?_
      refine go_run 0 (F' := (205, [some (.ref 134), some (.int l1), some (.int l2)], [], Wm pre post I1 A1)) rfl ?_
      refine go_run 0 (F' := (205, [some (.ref 134), some (.int l1), some (.int l2)], [], Wm pre post I1 A1)) rfl ?_
      cases hm
      exact go_end rfl rfl
    · rw [if_neg q2] at hm ⊢
      refine go_run 0 (F' := (171, [some (.ref 134), some (.int l1), some (.int l2)], [], Wm pre post (upd I 5 ((I 5) + 1)) A)) rfl ?_
      refine go_run 1 (F' := (172, [some (.ref 134), some (.int l1), some (.int l2)], [.ref 134], Wm pre post (upd I 5 ((I 5) + 1)) A)) rfl ?_
      refine go_gf rfl (w_0 hp) rfl ?_
      refine go_run 1 (F' := (176, [some (.ref 134), some (.int l1), some (.int l2)], [.ref 134, .ref 149], Wm pre post (upd I 5 ((I 5) + 1)) A)) rfl ?_
      refine go_gf rfl (w_0 hp) rfl ?_
      refine go_run 1 (F' := (180, [some (.ref 134), some (.int l1), some (.int l2)], [.ref 134, .int (I 9), .ref 149], Wm pre post (upd I 5 ((I 5) + 1)) A)) rfl ?_
      refine go_gf rfl (w_0 hp) rfl ?_
      refine go_run 2 (F' := (185, [some (.ref 134), some (.int l1), some (.int l2)], [.int (((I 5) + 1) - 1), .int (I 9), .ref 149], Wm pre post (upd I 5 ((I 5) + 1)) A)) rfl ?_
      obtain ⟨b3, hm⟩ := gd hm
      refine go_iast rfl (w_15 hp) b3 (ws_15 hp) ?_
      refine go_run 2 (F' := (188, [some (.ref 134), some (.int l1), some (.int l2)], [.ref 134, .ref 134], Wm pre post (upd I 5 ((I 5) + 1)) (upA A 15 (upd (A 15) (Int32.toNatClampNeg (I 9)) (((I 5) + 1) - 1))))) rfl ?_
      refine go_gf rfl (w_0 hp) rfl ?_
      refine go_run 2 (F' := (193, [some (.ref 134), some (.int l1), some (.int l2)], [.int ((I 9) + 1), .ref 134], Wm pre post (upd I 5 ((I 5) + 1)) (upA A 15 (upd (A 15) (Int32.toNatClampNeg (I 9)) (((I 5) + 1) - 1))))) rfl ?_
      refine go_pf rfl (w_0 hp) (Nat.le_of_ble_eq_true rfl) rfl (wo_9 hp) ?_
      refine go_run 1 (F' := (205, [some (.ref 134), some (.int l1), some (.int l2)], [], Wm pre post (upd (upd I 5 ((I 5) + 1)) 9 ((I 9) + 1)) (upA A 15 (upd (A 15) (Int32.toNatClampNeg (I 9)) (((I 5) + 1) - 1))))) rfl ?_
      cases hm
      exact go_end rfl rfl
def x_readEnd_122 (I : Nat → Int32) (A : Nat → Nat → Int32) (l1 l2 : Int32) : Option xR := (if ib l1 200 then (x_readEnd_145  I (upA A 10 (upd (A 10) (Int32.toNatClampNeg l1) (I 5))) l1 l2) else none)
theorem g_readEnd_122 {X : ie_X} {d : Nat} {pre post : ie_H} (hp : pre.length = 134) {I : Nat → Int32} {A : Nat → Nat → Int32} {l1 l2 : Int32} {I' : Nat → Int32} {A' : Nat → Nat → Int32} {r : Int32} (hm : x_readEnd_122 I A l1 l2 = some (I', A', r)) : Go X (d + 2) 139 (122, [some (.ref 134), some (.int l1), some (.int l2)], [], Wm pre post I A) (.inl none) (Wm pre post I' A') := by
  unfold x_readEnd_122 at hm
  refine go_run 0 (F' := (122, [some (.ref 134), some (.int l1), some (.int l2)], [], Wm pre post I A)) rfl ?_
  refine go_run 1 (F' := (123, [some (.ref 134), some (.int l1), some (.int l2)], [.ref 134], Wm pre post I A)) rfl ?_
  refine go_gf rfl (w_0 hp) rfl ?_
  refine go_run 2 (F' := (128, [some (.ref 134), some (.int l1), some (.int l2)], [.ref 134, .int l1, .ref 144], Wm pre post I A)) rfl ?_
  refine go_gf rfl (w_0 hp) rfl ?_
  refine go_run 0 (F' := (131, [some (.ref 134), some (.int l1), some (.int l2)], [.int (I 5), .int l1, .ref 144], Wm pre post I A)) rfl ?_
  obtain ⟨b1, hm⟩ := gd hm
  refine go_iast rfl (w_10 hp) b1 (ws_10 hp) ?_
  refine go_run 1 (F' := (145, [some (.ref 134), some (.int l1), some (.int l2)], [], Wm pre post I (upA A 10 (upd (A 10) (Int32.toNatClampNeg l1) (I 5))))) rfl ?_
  exact g_readEnd_145 hp  hm
def x_readEnd_106 (I : Nat → Int32) (A : Nat → Nat → Int32) (l1 : Int32) : Option xR := (if ib l1 200 then (if (A 3) (Int32.toNatClampNeg l1) = 5 then (x_readEnd_122  I A l1 0) else (x_readEnd_145  I (upA A 11 (upd (A 11) (Int32.toNatClampNeg l1) (I 5))) l1 0)) else none)
theorem g_readEnd_106 {X : ie_X} {d : Nat} {pre post : ie_H} (hp : pre.length = 134) {I : Nat → Int32} {A : Nat → Nat → Int32} {l1 : Int32} {u2 : Option Value} {I' : Nat → Int32} {A' : Nat → Nat → Int32} {r : Int32} (hm : x_readEnd_106 I A l1 = some (I', A', r)) : Go X (d + 2) 139 (106, [some (.ref 134), some (.int l1), u2], [], Wm pre post I A) (.inl none) (Wm pre post I' A') := by
  unfold x_readEnd_106 at hm
  refine go_run 0 (F' := (106, [some (.ref 134), some (.int l1), u2], [], Wm pre post I A)) rfl ?_
  refine go_run 5 (F' := (113, [some (.ref 134), some (.int l1), some (.int 0)], [.ref 134], Wm pre post I A)) rfl ?_
  refine go_gf rfl (w_0 hp) rfl ?_
  refine go_run 1 (F' := (117, [some (.ref 134), some (.int l1), some (.int 0)], [.int l1, .ref 137], Wm pre post I A)) rfl ?_
  obtain ⟨b1, hm⟩ := gd hm
  refine go_iald rfl (by decide) (w_3 hp) b1 rfl ?_
  refine go_run 1 (F' := (119, [some (.ref 134), some (.int l1), some (.int 0)], [.int 5, .int ((A 3) (Int32.toNatClampNeg l1))], Wm pre post I A)) rfl ?_
  refine go_step rfl rfl ?_
  by_cases q2 : (A 3) (Int32.toNatClampNeg l1) = 5
  · rw [if_pos q2] at hm ⊢
    refine go_run 0 (F' := (122, [some (.ref 134), some (.int l1), some (.int 0)], [], Wm pre post I A)) rfl ?_
    refine go_run 0 (F' := (122, [some (.ref 134), some (.int l1), some (.int 0)], [], Wm pre post I A)) rfl ?_
    exact g_readEnd_122 hp  hm
  · rw [if_neg q2] at hm ⊢
    refine go_run 0 (F' := (135, [some (.ref 134), some (.int l1), some (.int 0)], [], Wm pre post I A)) rfl ?_
    refine go_run 1 (F' := (136, [some (.ref 134), some (.int l1), some (.int 0)], [.ref 134], Wm pre post I A)) rfl ?_
    refine go_gf rfl (w_0 hp) rfl ?_
    refine go_run 2 (F' := (141, [some (.ref 134), some (.int l1), some (.int 0)], [.ref 134, .int l1, .ref 145], Wm pre post I A)) rfl ?_
    refine go_gf rfl (w_0 hp) rfl ?_
    refine go_run 0 (F' := (144, [some (.ref 134), some (.int l1), some (.int 0)], [.int (I 5), .int l1, .ref 145], Wm pre post I A)) rfl ?_
    refine go_iast rfl (w_11 hp) b1 (ws_11 hp) ?_
    refine go_run 0 (F' := (145, [some (.ref 134), some (.int l1), some (.int 0)], [], Wm pre post I (upA A 11 (upd (A 11) (Int32.toNatClampNeg l1) (I 5))))) rfl ?_
    exact g_readEnd_145 hp  hm
def x_readEnd (I : Nat → Int32) (A : Nat → Nat → Int32) : Option xR := (if ib ((I 9) - 1) 8 then (if ib ((A 15) (Int32.toNatClampNeg ((I 9) - 1))) 200 then (if ib (I 5) 200 then (if ib ((A 12) (Int32.toNatClampNeg ((A 15) (Int32.toNatClampNeg ((I 9) - 1))))) 200 then (if (upd (A 3) (Int32.toNatClampNeg (I 5)) 7) (Int32.toNatClampNeg ((A 12) (Int32.toNatClampNeg ((A 15) (Int32.toNatClampNeg ((I 9) - 1)))))) = 4 then (if (upd (A 13) (Int32.toNatClampNeg (I 5)) ((A 13) (Int32.toNatClampNeg ((A 15) (Int32.toNatClampNeg ((I 9) - 1)))))) (Int32.toNatClampNeg (I 5)) = 1 then (x_readEnd_122  (upd (upd I 9 ((I 9) - 1)) 6 ((I 6) + 1)) (upA (upA (upA A 3 (upd (A 3) (Int32.toNatClampNeg (I 5)) 7)) 12 (upd (A 12) (Int32.toNatClampNeg (I 5)) ((A 12) (Int32.toNatClampNeg ((A 15) (Int32.toNatClampNeg ((I 9) - 1))))))) 13 (upd (A 13) (Int32.toNatClampNeg (I 5)) ((A 13) (Int32.toNatClampNeg ((A 15) (Int32.toNatClampNeg ((I 9) - 1))))))) ((A 12) (Int32.toNatClampNeg ((A 15) (Int32.toNatClampNeg ((I 9) - 1))))) 1) else (x_readEnd_106  (upd (upd I 9 ((I 9) - 1)) 6 ((I 6) + 1)) (upA (upA (upA A 3 (upd (A 3) (Int32.toNatClampNeg (I 5)) 7)) 12 (upd (A 12) (Int32.toNatClampNeg (I 5)) ((A 12) (Int32.toNatClampNeg ((A 15) (Int32.toNatClampNeg ((I 9) - 1))))))) 13 (upd (A 13) (Int32.toNatClampNeg (I 5)) ((A 13) (Int32.toNatClampNeg ((A 15) (Int32.toNatClampNeg ((I 9) - 1))))))) ((A 12) (Int32.toNatClampNeg ((A 15) (Int32.toNatClampNeg ((I 9) - 1))))))) else (x_readEnd_106  (upd (upd I 9 ((I 9) - 1)) 6 ((I 6) + 1)) (upA (upA (upA A 3 (upd (A 3) (Int32.toNatClampNeg (I 5)) 7)) 12 (upd (A 12) (Int32.toNatClampNeg (I 5)) ((A 12) (Int32.toNatClampNeg ((A 15) (Int32.toNatClampNeg ((I 9) - 1))))))) 13 (upd (A 13) (Int32.toNatClampNeg (I 5)) ((A 13) (Int32.toNatClampNeg ((A 15) (Int32.toNatClampNeg ((I 9) - 1))))))) ((A 12) (Int32.toNatClampNeg ((A 15) (Int32.toNatClampNeg ((I 9) - 1))))))) else none) else none) else none) else none)
theorem g_readEnd {X : ie_X} {d : Nat} {pre post : ie_H} (hp : pre.length = 134) {I : Nat → Int32} {A : Nat → Nat → Int32} {I' : Nat → Int32} {A' : Nat → Nat → Int32} {r : Int32} (hm : x_readEnd I A = some (I', A', r)) : Go X (d + 2) 139 (0, ie_en 139 [.ref 134], [], Wm pre post I A) (.inl none) (Wm pre post I' A') := by
  unfold x_readEnd at hm
  refine go_run 0 (F' := (0, [some (.ref 134), none, none], [], Wm pre post I A)) rfl ?_
  refine go_run 2 (F' := (2, [some (.ref 134), none, none], [.ref 134, .ref 134], Wm pre post I A)) rfl ?_
  refine go_gf rfl (w_0 hp) rfl ?_
  refine go_run 2 (F' := (7, [some (.ref 134), none, none], [.int ((I 9) - 1), .ref 134], Wm pre post I A)) rfl ?_
  refine go_pf rfl (w_0 hp) (Nat.le_of_ble_eq_true rfl) rfl (wo_9 hp) ?_
  refine go_run 1 (F' := (11, [some (.ref 134), none, none], [.ref 134], Wm pre post (upd I 9 ((I 9) - 1)) A)) rfl ?_
  refine go_gf rfl (w_0 hp) rfl ?_
  refine go_run 1 (F' := (15, [some (.ref 134), none, none], [.ref 134, .ref 146], Wm pre post (upd I 9 ((I 9) - 1)) A)) rfl ?_
  refine go_gf rfl (w_0 hp) rfl ?_
  refine go_run 1 (F' := (19, [some (.ref 134), none, none], [.ref 134, .ref 149, .ref 146], Wm pre post (upd I 9 ((I 9) - 1)) A)) rfl ?_
  refine go_gf rfl (w_0 hp) rfl ?_
  refine go_run 0 (F' := (22, [some (.ref 134), none, none], [.int ((I 9) - 1), .ref 149, .ref 146], Wm pre post (upd I 9 ((I 9) - 1)) A)) rfl ?_
  obtain ⟨b1, hm⟩ := gd hm
  refine go_iald rfl (by decide) (w_15 hp) b1 rfl ?_
  refine go_run 0 (F' := (23, [some (.ref 134), none, none], [.int ((A 15) (Int32.toNatClampNeg ((I 9) - 1))), .ref 146], Wm pre post (upd I 9 ((I 9) - 1)) A)) rfl ?_
  obtain ⟨b2, hm⟩ := gd hm
  refine go_iald rfl (by decide) (w_12 hp) b2 rfl ?_
  refine go_run 2 (F' := (26, [some (.ref 134), some (.int ((A 12) (Int32.toNatClampNeg ((A 15) (Int32.toNatClampNeg ((I 9) - 1)))))), none], [.ref 134], Wm pre post (upd I 9 ((I 9) - 1)) A)) rfl ?_
  refine go_gf rfl (w_0 hp) rfl ?_
  refine go_run 1 (F' := (30, [some (.ref 134), some (.int ((A 12) (Int32.toNatClampNeg ((A 15) (Int32.toNatClampNeg ((I 9) - 1)))))), none], [.ref 134, .ref 137], Wm pre post (upd I 9 ((I 9) - 1)) A)) rfl ?_
  refine go_gf rfl (w_0 hp) rfl ?_
  refine go_run 1 (F' := (35, [some (.ref 134), some (.int ((A 12) (Int32.toNatClampNeg ((A 15) (Int32.toNatClampNeg ((I 9) - 1)))))), none], [.int 7, .int (I 5), .ref 137], Wm pre post (upd I 9 ((I 9) - 1)) A)) rfl ?_
  obtain ⟨b3, hm⟩ := gd hm
  refine go_iast rfl (w_3 hp) b3 (ws_3 hp) ?_
  refine go_run 1 (F' := (37, [some (.ref 134), some (.int ((A 12) (Int32.toNatClampNeg ((A 15) (Int32.toNatClampNeg ((I 9) - 1)))))), none], [.ref 134], Wm pre post (upd I 9 ((I 9) - 1)) (upA A 3 (upd (A 3) (Int32.toNatClampNeg (I 5)) 7)))) rfl ?_
  refine go_gf rfl (w_0 hp) rfl ?_
  refine go_run 1 (F' := (41, [some (.ref 134), some (.int ((A 12) (Int32.toNatClampNeg ((A 15) (Int32.toNatClampNeg ((I 9) - 1)))))), none], [.ref 134, .ref 146], Wm pre post (upd I 9 ((I 9) - 1)) (upA A 3 (upd (A 3) (Int32.toNatClampNeg (I 5)) 7)))) rfl ?_
  refine go_gf rfl (w_0 hp) rfl ?_
  refine go_run 1 (F' := (45, [some (.ref 134), some (.int ((A 12) (Int32.toNatClampNeg ((A 15) (Int32.toNatClampNeg ((I 9) - 1)))))), none], [.int ((A 12) (Int32.toNatClampNeg ((A 15) (Int32.toNatClampNeg ((I 9) - 1))))), .int (I 5), .ref 146], Wm pre post (upd I 9 ((I 9) - 1)) (upA A 3 (upd (A 3) (Int32.toNatClampNeg (I 5)) 7)))) rfl ?_
  refine go_iast rfl (w_12 hp) b3 (ws_12 hp) ?_
  refine go_run 1 (F' := (47, [some (.ref 134), some (.int ((A 12) (Int32.toNatClampNeg ((A 15) (Int32.toNatClampNeg ((I 9) - 1)))))), none], [.ref 134], Wm pre post (upd I 9 ((I 9) - 1)) (upA (upA A 3 (upd (A 3) (Int32.toNatClampNeg (I 5)) 7)) 12 (upd (A 12) (Int32.toNatClampNeg (I 5)) ((A 12) (Int32.toNatClampNeg ((A 15) (Int32.toNatClampNeg ((I 9) - 1))))))))) rfl ?_
  refine go_gf rfl (w_0 hp) rfl ?_
  refine go_run 1 (F' := (51, [some (.ref 134), some (.int ((A 12) (Int32.toNatClampNeg ((A 15) (Int32.toNatClampNeg ((I 9) - 1)))))), none], [.ref 134, .ref 147], Wm pre post (upd I 9 ((I 9) - 1)) (upA (upA A 3 (upd (A 3) (Int32.toNatClampNeg (I 5)) 7)) 12 (upd (A 12) (Int32.toNatClampNeg (I 5)) ((A 12) (Int32.toNatClampNeg ((A 15) (Int32.toNatClampNeg ((I 9) - 1))))))))) rfl ?_
  refine go_gf rfl (w_0 hp) rfl ?_
  refine go_run 1 (F' := (55, [some (.ref 134), some (.int ((A 12) (Int32.toNatClampNeg ((A 15) (Int32.toNatClampNeg ((I 9) - 1)))))), none], [.ref 134, .int (I 5), .ref 147], Wm pre post (upd I 9 ((I 9) - 1)) (upA (upA A 3 (upd (A 3) (Int32.toNatClampNeg (I 5)) 7)) 12 (upd (A 12) (Int32.toNatClampNeg (I 5)) ((A 12) (Int32.toNatClampNeg ((A 15) (Int32.toNatClampNeg ((I 9) - 1))))))))) rfl ?_
  refine go_gf rfl (w_0 hp) rfl ?_
  refine go_run 1 (F' := (59, [some (.ref 134), some (.int ((A 12) (Int32.toNatClampNeg ((A 15) (Int32.toNatClampNeg ((I 9) - 1)))))), none], [.ref 134, .ref 147, .int (I 5), .ref 147], Wm pre post (upd I 9 ((I 9) - 1)) (upA (upA A 3 (upd (A 3) (Int32.toNatClampNeg (I 5)) 7)) 12 (upd (A 12) (Int32.toNatClampNeg (I 5)) ((A 12) (Int32.toNatClampNeg ((A 15) (Int32.toNatClampNeg ((I 9) - 1))))))))) rfl ?_
  refine go_gf rfl (w_0 hp) rfl ?_
  refine go_run 1 (F' := (63, [some (.ref 134), some (.int ((A 12) (Int32.toNatClampNeg ((A 15) (Int32.toNatClampNeg ((I 9) - 1)))))), none], [.ref 134, .ref 149, .ref 147, .int (I 5), .ref 147], Wm pre post (upd I 9 ((I 9) - 1)) (upA (upA A 3 (upd (A 3) (Int32.toNatClampNeg (I 5)) 7)) 12 (upd (A 12) (Int32.toNatClampNeg (I 5)) ((A 12) (Int32.toNatClampNeg ((A 15) (Int32.toNatClampNeg ((I 9) - 1))))))))) rfl ?_
  refine go_gf rfl (w_0 hp) rfl ?_
  refine go_run 0 (F' := (66, [some (.ref 134), some (.int ((A 12) (Int32.toNatClampNeg ((A 15) (Int32.toNatClampNeg ((I 9) - 1)))))), none], [.int ((I 9) - 1), .ref 149, .ref 147, .int (I 5), .ref 147], Wm pre post (upd I 9 ((I 9) - 1)) (upA (upA A 3 (upd (A 3) (Int32.toNatClampNeg (I 5)) 7)) 12 (upd (A 12) (Int32.toNatClampNeg (I 5)) ((A 12) (Int32.toNatClampNeg ((A 15) (Int32.toNatClampNeg ((I 9) - 1))))))))) rfl ?_
  refine go_iald rfl (by decide) (w_15 hp) b1 rfl ?_
  refine go_run 0 (F' := (67, [some (.ref 134), some (.int ((A 12) (Int32.toNatClampNeg ((A 15) (Int32.toNatClampNeg ((I 9) - 1)))))), none], [.int ((A 15) (Int32.toNatClampNeg ((I 9) - 1))), .ref 147, .int (I 5), .ref 147], Wm pre post (upd I 9 ((I 9) - 1)) (upA (upA A 3 (upd (A 3) (Int32.toNatClampNeg (I 5)) 7)) 12 (upd (A 12) (Int32.toNatClampNeg (I 5)) ((A 12) (Int32.toNatClampNeg ((A 15) (Int32.toNatClampNeg ((I 9) - 1))))))))) rfl ?_
  refine go_iald rfl (by decide) (w_13 hp) b2 rfl ?_
  refine go_run 0 (F' := (68, [some (.ref 134), some (.int ((A 12) (Int32.toNatClampNeg ((A 15) (Int32.toNatClampNeg ((I 9) - 1)))))), none], [.int ((A 13) (Int32.toNatClampNeg ((A 15) (Int32.toNatClampNeg ((I 9) - 1))))), .int (I 5), .ref 147], Wm pre post (upd I 9 ((I 9) - 1)) (upA (upA A 3 (upd (A 3) (Int32.toNatClampNeg (I 5)) 7)) 12 (upd (A 12) (Int32.toNatClampNeg (I 5)) ((A 12) (Int32.toNatClampNeg ((A 15) (Int32.toNatClampNeg ((I 9) - 1))))))))) rfl ?_
  refine go_iast rfl (w_13 hp) b3 (ws_13 hp) ?_
  refine go_run 2 (F' := (71, [some (.ref 134), some (.int ((A 12) (Int32.toNatClampNeg ((A 15) (Int32.toNatClampNeg ((I 9) - 1)))))), none], [.ref 134, .ref 134], Wm pre post (upd I 9 ((I 9) - 1)) (upA (upA (upA A 3 (upd (A 3) (Int32.toNatClampNeg (I 5)) 7)) 12 (upd (A 12) (Int32.toNatClampNeg (I 5)) ((A 12) (Int32.toNatClampNeg ((A 15) (Int32.toNatClampNeg ((I 9) - 1))))))) 13 (upd (A 13) (Int32.toNatClampNeg (I 5)) ((A 13) (Int32.toNatClampNeg ((A 15) (Int32.toNatClampNeg ((I 9) - 1))))))))) rfl ?_
  refine go_gf rfl (w_0 hp) rfl ?_
  refine go_run 2 (F' := (76, [some (.ref 134), some (.int ((A 12) (Int32.toNatClampNeg ((A 15) (Int32.toNatClampNeg ((I 9) - 1)))))), none], [.int ((I 6) + 1), .ref 134], Wm pre post (upd I 9 ((I 9) - 1)) (upA (upA (upA A 3 (upd (A 3) (Int32.toNatClampNeg (I 5)) 7)) 12 (upd (A 12) (Int32.toNatClampNeg (I 5)) ((A 12) (Int32.toNatClampNeg ((A 15) (Int32.toNatClampNeg ((I 9) - 1))))))) 13 (upd (A 13) (Int32.toNatClampNeg (I 5)) ((A 13) (Int32.toNatClampNeg ((A 15) (Int32.toNatClampNeg ((I 9) - 1))))))))) rfl ?_
  refine go_pf rfl (w_0 hp) (Nat.le_of_ble_eq_true rfl) rfl (wo_6 hp) ?_
  refine go_run 1 (F' := (80, [some (.ref 134), some (.int ((A 12) (Int32.toNatClampNeg ((A 15) (Int32.toNatClampNeg ((I 9) - 1)))))), none], [.ref 134], Wm pre post (upd (upd I 9 ((I 9) - 1)) 6 ((I 6) + 1)) (upA (upA (upA A 3 (upd (A 3) (Int32.toNatClampNeg (I 5)) 7)) 12 (upd (A 12) (Int32.toNatClampNeg (I 5)) ((A 12) (Int32.toNatClampNeg ((A 15) (Int32.toNatClampNeg ((I 9) - 1))))))) 13 (upd (A 13) (Int32.toNatClampNeg (I 5)) ((A 13) (Int32.toNatClampNeg ((A 15) (Int32.toNatClampNeg ((I 9) - 1))))))))) rfl ?_
  refine go_gf rfl (w_0 hp) rfl ?_
  refine go_run 1 (F' := (84, [some (.ref 134), some (.int ((A 12) (Int32.toNatClampNeg ((A 15) (Int32.toNatClampNeg ((I 9) - 1)))))), none], [.int ((A 12) (Int32.toNatClampNeg ((A 15) (Int32.toNatClampNeg ((I 9) - 1))))), .ref 137], Wm pre post (upd (upd I 9 ((I 9) - 1)) 6 ((I 6) + 1)) (upA (upA (upA A 3 (upd (A 3) (Int32.toNatClampNeg (I 5)) 7)) 12 (upd (A 12) (Int32.toNatClampNeg (I 5)) ((A 12) (Int32.toNatClampNeg ((A 15) (Int32.toNatClampNeg ((I 9) - 1))))))) 13 (upd (A 13) (Int32.toNatClampNeg (I 5)) ((A 13) (Int32.toNatClampNeg ((A 15) (Int32.toNatClampNeg ((I 9) - 1))))))))) rfl ?_
  obtain ⟨b4, hm⟩ := gd hm
  refine go_iald rfl (by decide) (w_3 hp) b4 rfl ?_
  refine go_run 1 (F' := (86, [some (.ref 134), some (.int ((A 12) (Int32.toNatClampNeg ((A 15) (Int32.toNatClampNeg ((I 9) - 1)))))), none], [.int 4, .int ((upd (A 3) (Int32.toNatClampNeg (I 5)) 7) (Int32.toNatClampNeg ((A 12) (Int32.toNatClampNeg ((A 15) (Int32.toNatClampNeg ((I 9) - 1)))))))], Wm pre post (upd (upd I 9 ((I 9) - 1)) 6 ((I 6) + 1)) (upA (upA (upA A 3 (upd (A 3) (Int32.toNatClampNeg (I 5)) 7)) 12 (upd (A 12) (Int32.toNatClampNeg (I 5)) ((A 12) (Int32.toNatClampNeg ((A 15) (Int32.toNatClampNeg ((I 9) - 1))))))) 13 (upd (A 13) (Int32.toNatClampNeg (I 5)) ((A 13) (Int32.toNatClampNeg ((A 15) (Int32.toNatClampNeg ((I 9) - 1))))))))) rfl ?_
  refine go_step rfl rfl ?_
  by_cases q5 : (upd (A 3) (Int32.toNatClampNeg (I 5)) 7) (Int32.toNatClampNeg ((A 12) (Int32.toNatClampNeg ((A 15) (Int32.toNatClampNeg ((I 9) - 1)))))) = 4
  · rw [if_pos q5] at hm ⊢
    refine go_run 0 (F' := (89, [some (.ref 134), some (.int ((A 12) (Int32.toNatClampNeg ((A 15) (Int32.toNatClampNeg ((I 9) - 1)))))), none], [], Wm pre post (upd (upd I 9 ((I 9) - 1)) 6 ((I 6) + 1)) (upA (upA (upA A 3 (upd (A 3) (Int32.toNatClampNeg (I 5)) 7)) 12 (upd (A 12) (Int32.toNatClampNeg (I 5)) ((A 12) (Int32.toNatClampNeg ((A 15) (Int32.toNatClampNeg ((I 9) - 1))))))) 13 (upd (A 13) (Int32.toNatClampNeg (I 5)) ((A 13) (Int32.toNatClampNeg ((A 15) (Int32.toNatClampNeg ((I 9) - 1))))))))) rfl ?_
    refine go_run 1 (F' := (90, [some (.ref 134), some (.int ((A 12) (Int32.toNatClampNeg ((A 15) (Int32.toNatClampNeg ((I 9) - 1)))))), none], [.ref 134], Wm pre post (upd (upd I 9 ((I 9) - 1)) 6 ((I 6) + 1)) (upA (upA (upA A 3 (upd (A 3) (Int32.toNatClampNeg (I 5)) 7)) 12 (upd (A 12) (Int32.toNatClampNeg (I 5)) ((A 12) (Int32.toNatClampNeg ((A 15) (Int32.toNatClampNeg ((I 9) - 1))))))) 13 (upd (A 13) (Int32.toNatClampNeg (I 5)) ((A 13) (Int32.toNatClampNeg ((A 15) (Int32.toNatClampNeg ((I 9) - 1))))))))) rfl ?_
    refine go_gf rfl (w_0 hp) rfl ?_
    refine go_run 1 (F' := (94, [some (.ref 134), some (.int ((A 12) (Int32.toNatClampNeg ((A 15) (Int32.toNatClampNeg ((I 9) - 1)))))), none], [.ref 134, .ref 147], Wm pre post (upd (upd I 9 ((I 9) - 1)) 6 ((I 6) + 1)) (upA (upA (upA A 3 (upd (A 3) (Int32.toNatClampNeg (I 5)) 7)) 12 (upd (A 12) (Int32.toNatClampNeg (I 5)) ((A 12) (Int32.toNatClampNeg ((A 15) (Int32.toNatClampNeg ((I 9) - 1))))))) 13 (upd (A 13) (Int32.toNatClampNeg (I 5)) ((A 13) (Int32.toNatClampNeg ((A 15) (Int32.toNatClampNeg ((I 9) - 1))))))))) rfl ?_
    refine go_gf rfl (w_0 hp) rfl ?_
    refine go_run 0 (F' := (97, [some (.ref 134), some (.int ((A 12) (Int32.toNatClampNeg ((A 15) (Int32.toNatClampNeg ((I 9) - 1)))))), none], [.int (I 5), .ref 147], Wm pre post (upd (upd I 9 ((I 9) - 1)) 6 ((I 6) + 1)) (upA (upA (upA A 3 (upd (A 3) (Int32.toNatClampNeg (I 5)) 7)) 12 (upd (A 12) (Int32.toNatClampNeg (I 5)) ((A 12) (Int32.toNatClampNeg ((A 15) (Int32.toNatClampNeg ((I 9) - 1))))))) 13 (upd (A 13) (Int32.toNatClampNeg (I 5)) ((A 13) (Int32.toNatClampNeg ((A 15) (Int32.toNatClampNeg ((I 9) - 1))))))))) rfl ?_
    refine go_iald rfl (by decide) (w_13 hp) b3 rfl ?_
    refine go_run 1 (F' := (99, [some (.ref 134), some (.int ((A 12) (Int32.toNatClampNeg ((A 15) (Int32.toNatClampNeg ((I 9) - 1)))))), none], [.int 1, .int ((upd (A 13) (Int32.toNatClampNeg (I 5)) ((A 13) (Int32.toNatClampNeg ((A 15) (Int32.toNatClampNeg ((I 9) - 1)))))) (Int32.toNatClampNeg (I 5)))], Wm pre post (upd (upd I 9 ((I 9) - 1)) 6 ((I 6) + 1)) (upA (upA (upA A 3 (upd (A 3) (Int32.toNatClampNeg (I 5)) 7)) 12 (upd (A 12) (Int32.toNatClampNeg (I 5)) ((A 12) (Int32.toNatClampNeg ((A 15) (Int32.toNatClampNeg ((I 9) - 1))))))) 13 (upd (A 13) (Int32.toNatClampNeg (I 5)) ((A 13) (Int32.toNatClampNeg ((A 15) (Int32.toNatClampNeg ((I 9) - 1))))))))) rfl ?_
    refine go_step rfl rfl ?_
    by_cases q6 : (upd (A 13) (Int32.toNatClampNeg (I 5)) ((A 13) (Int32.toNatClampNeg ((A 15) (Int32.toNatClampNeg ((I 9) - 1)))))) (Int32.toNatClampNeg (I 5)) = 1
    · rw [if_pos q6] at hm ⊢
      refine go_run 0 (F' := (102, [some (.ref 134), some (.int ((A 12) (Int32.toNatClampNeg ((A 15) (Int32.toNatClampNeg ((I 9) - 1)))))), none], [], Wm pre post (upd (upd I 9 ((I 9) - 1)) 6 ((I 6) + 1)) (upA (upA (upA A 3 (upd (A 3) (Int32.toNatClampNeg (I 5)) 7)) 12 (upd (A 12) (Int32.toNatClampNeg (I 5)) ((A 12) (Int32.toNatClampNeg ((A 15) (Int32.toNatClampNeg ((I 9) - 1))))))) 13 (upd (A 13) (Int32.toNatClampNeg (I 5)) ((A 13) (Int32.toNatClampNeg ((A 15) (Int32.toNatClampNeg ((I 9) - 1))))))))) rfl ?_
      refine go_run 5 (F' := (122, [some (.ref 134), some (.int ((A 12) (Int32.toNatClampNeg ((A 15) (Int32.toNatClampNeg ((I 9) - 1)))))), some (.int 1)], [], Wm pre post (upd (upd I 9 ((I 9) - 1)) 6 ((I 6) + 1)) (upA (upA (upA A 3 (upd (A 3) (Int32.toNatClampNeg (I 5)) 7)) 12 (upd (A 12) (Int32.toNatClampNeg (I 5)) ((A 12) (Int32.toNatClampNeg ((A 15) (Int32.toNatClampNeg ((I 9) - 1))))))) 13 (upd (A 13) (Int32.toNatClampNeg (I 5)) ((A 13) (Int32.toNatClampNeg ((A 15) (Int32.toNatClampNeg ((I 9) - 1))))))))) rfl ?_
      exact g_readEnd_122 hp  hm
    · rw [if_neg q6] at hm ⊢
      refine go_run 0 (F' := (106, [some (.ref 134), some (.int ((A 12) (Int32.toNatClampNeg ((A 15) (Int32.toNatClampNeg ((I 9) - 1)))))), none], [], Wm pre post (upd (upd I 9 ((I 9) - 1)) 6 ((I 6) + 1)) (upA (upA (upA A 3 (upd (A 3) (Int32.toNatClampNeg (I 5)) 7)) 12 (upd (A 12) (Int32.toNatClampNeg (I 5)) ((A 12) (Int32.toNatClampNeg ((A 15) (Int32.toNatClampNeg ((I 9) - 1))))))) 13 (upd (A 13) (Int32.toNatClampNeg (I 5)) ((A 13) (Int32.toNatClampNeg ((A 15) (Int32.toNatClampNeg ((I 9) - 1))))))))) rfl ?_
      refine go_run 0 (F' := (106, [some (.ref 134), some (.int ((A 12) (Int32.toNatClampNeg ((A 15) (Int32.toNatClampNeg ((I 9) - 1)))))), none], [], Wm pre post (upd (upd I 9 ((I 9) - 1)) 6 ((I 6) + 1)) (upA (upA (upA A 3 (upd (A 3) (Int32.toNatClampNeg (I 5)) 7)) 12 (upd (A 12) (Int32.toNatClampNeg (I 5)) ((A 12) (Int32.toNatClampNeg ((A 15) (Int32.toNatClampNeg ((I 9) - 1))))))) 13 (upd (A 13) (Int32.toNatClampNeg (I 5)) ((A 13) (Int32.toNatClampNeg ((A 15) (Int32.toNatClampNeg ((I 9) - 1))))))))) rfl ?_
      exact g_readEnd_106 hp  hm
  · rw [if_neg q5] at hm ⊢
    refine go_run 0 (F' := (106, [some (.ref 134), some (.int ((A 12) (Int32.toNatClampNeg ((A 15) (Int32.toNatClampNeg ((I 9) - 1)))))), none], [], Wm pre post (upd (upd I 9 ((I 9) - 1)) 6 ((I 6) + 1)) (upA (upA (upA A 3 (upd (A 3) (Int32.toNatClampNeg (I 5)) 7)) 12 (upd (A 12) (Int32.toNatClampNeg (I 5)) ((A 12) (Int32.toNatClampNeg ((A 15) (Int32.toNatClampNeg ((I 9) - 1))))))) 13 (upd (A 13) (Int32.toNatClampNeg (I 5)) ((A 13) (Int32.toNatClampNeg ((A 15) (Int32.toNatClampNeg ((I 9) - 1))))))))) rfl ?_
    refine go_run 0 (F' := (106, [some (.ref 134), some (.int ((A 12) (Int32.toNatClampNeg ((A 15) (Int32.toNatClampNeg ((I 9) - 1)))))), none], [], Wm pre post (upd (upd I 9 ((I 9) - 1)) 6 ((I 6) + 1)) (upA (upA (upA A 3 (upd (A 3) (Int32.toNatClampNeg (I 5)) 7)) 12 (upd (A 12) (Int32.toNatClampNeg (I 5)) ((A 12) (Int32.toNatClampNeg ((A 15) (Int32.toNatClampNeg ((I 9) - 1))))))) 13 (upd (A 13) (Int32.toNatClampNeg (I 5)) ((A 13) (Int32.toNatClampNeg ((A 15) (Int32.toNatClampNeg ((I 9) - 1))))))))) rfl ?_
    exact g_readEnd_106 hp  hm
def x_readOther (I : Nat → Int32) (A : Nat → Nat → Int32) (a1 : Int32) : Option xR := (if I 7 = 0 then (if I 6 < I 4 then (xb (x_now I A) fun I1 A1 v1 => (if ty_b (rd_pty v1) = 0 then (some (upd I1 7 1, A1, 0)) else (xb (x_now I1 A1) fun I2 A2 v2 => (if ib a1 200 then (if v2 - 65 = (A2 4) (Int32.toNatClampNeg a1) then (some (upd I2 7 1, A2, 0)) else (xb (x_now (upd I2 7 0) A2) fun I3 A3 v3 => (some (upd I3 6 ((I3 6) + 1), upA A3 5 (upd (A3 5) (Int32.toNatClampNeg a1) (v3 - 65)), 0)))) else none)))) else (some (I, A, 0))) else (some (I, A, 0)))
theorem g_readOther {X : ie_X} {d : Nat} {pre post : ie_H} (hp : pre.length = 134) {I : Nat → Int32} {A : Nat → Nat → Int32} {a1 : Int32} {I' : Nat → Int32} {A' : Nat → Nat → Int32} {r : Int32} (hm : x_readOther I A a1 = some (I', A', r)) : Go X (d + 1) 147 (0, ie_en 147 [.ref 134, .int a1], [], Wm pre post I A) (.inl none) (Wm pre post I' A') := by
  unfold x_readOther at hm
  refine go_run 0 (F' := (0, [some (.ref 134), some (.int a1)], [], Wm pre post I A)) rfl ?_
  refine go_run 1 (F' := (1, [some (.ref 134), some (.int a1)], [.ref 134], Wm pre post I A)) rfl ?_
  refine go_gf rfl (w_0 hp) rfl ?_
  refine go_run 0 (F' := (4, [some (.ref 134), some (.int a1)], [.int (I 7)], Wm pre post I A)) rfl ?_
  refine go_step rfl rfl ?_
  by_cases q1 : I 7 = 0
  · rw [if_pos q1] at hm ⊢
    refine go_run 0 (F' := (7, [some (.ref 134), some (.int a1)], [], Wm pre post I A)) rfl ?_
    refine go_run 1 (F' := (8, [some (.ref 134), some (.int a1)], [.ref 134], Wm pre post I A)) rfl ?_
    refine go_gf rfl (w_0 hp) rfl ?_
    refine go_run 1 (F' := (12, [some (.ref 134), some (.int a1)], [.ref 134, .int (I 6)], Wm pre post I A)) rfl ?_
    refine go_gf rfl (w_0 hp) rfl ?_
    refine go_run 0 (F' := (15, [some (.ref 134), some (.int a1)], [.int (I 4), .int (I 6)], Wm pre post I A)) rfl ?_
    refine go_step rfl rfl ?_
    by_cases q2 : I 6 < I 4
    · rw [if_pos q2] at hm ⊢
      refine go_run 0 (F' := (19, [some (.ref 134), some (.int a1)], [], Wm pre post I A)) rfl ?_
      refine go_run 2 (F' := (21, [some (.ref 134), some (.int a1)], [.ref 134, .ref 134], Wm pre post I A)) rfl ?_
      obtain ⟨I1, A1, v1, e1, hm⟩ := xb_inv hm
      refine go_call (m' := 138) (v := some (.int v1)) (h1 := Wm pre post I1 A1) rfl (by simp only [ie_step, ie_iv, List.drop, w_0 hp]; rfl) ⟨rfl, Nat.le_of_ble_eq_true rfl⟩ (g_now (d := d) hp e1) ?_
      refine go_run 0 (F' := (24, [some (.ref 134), some (.int a1)], [.int v1, .ref 134], Wm pre post I1 A1)) rfl ?_
      refine go_run 0 (F' := (24, [some (.ref 134), some (.int a1)], [.int v1, .ref 134], Wm pre post I1 A1)) rfl ?_
      refine go_call (m' := 144) (v := some (.int (ty_b (rd_pty v1)))) (h1 := Wm pre post I1 A1) rfl rfl ⟨rfl, Nat.le_of_ble_eq_true rfl⟩ (rm_isPty _) ?_
      refine go_run 0 (F' := (27, [some (.ref 134), some (.int a1)], [.int (ty_b (rd_pty v1)), .ref 134], Wm pre post I1 A1)) rfl ?_
      refine go_run 0 (F' := (27, [some (.ref 134), some (.int a1)], [.int (ty_b (rd_pty v1)), .ref 134], Wm pre post I1 A1)) rfl ?_
      refine go_step rfl rfl ?_
      by_cases q3 : ty_b (rd_pty v1) = 0
      · rw [if_pos q3] at hm ⊢
        refine go_run 0 (F' := (46, [some (.ref 134), some (.int a1)], [.ref 134], Wm pre post I1 A1)) rfl ?_
        refine go_run 2 (F' := (51, [some (.ref 134), some (.int a1)], [.int 1, .ref 134], Wm pre post I1 A1)) rfl ?_
        refine go_pf rfl (w_0 hp) (Nat.le_of_ble_eq_true rfl) rfl (wo_7 hp) ?_
        refine go_run 1 (F' := (55, [some (.ref 134), some (.int a1)], [.ref 134], Wm pre post (upd I1 7 1) A1)) rfl ?_
        refine go_gf rfl (w_0 hp) rfl ?_
        refine go_run 1 (F' := (61, [some (.ref 134), some (.int a1)], [], Wm pre post (upd I1 7 1) A1)) rfl ?_
        cases hm
        exact go_end rfl rfl
      · rw [if_neg q3] at hm ⊢
        refine go_run 0 (F' := (30, [some (.ref 134), some (.int a1)], [.ref 134], Wm pre post I1 A1)) rfl ?_
        refine go_run 1 (F' := (31, [some (.ref 134), some (.int a1)], [.ref 134, .ref 134], Wm pre post I1 A1)) rfl ?_
        obtain ⟨I2, A2, v2, e2, hm⟩ := xb_inv hm
        refine go_call (m' := 138) (v := some (.int v2)) (h1 := Wm pre post I2 A2) rfl (by simp only [ie_step, ie_iv, List.drop, w_0 hp]; rfl) ⟨rfl, Nat.le_of_ble_eq_true rfl⟩ (g_now (d := d) hp e2) ?_
        refine go_run 0 (F' := (34, [some (.ref 134), some (.int a1)], [.int v2, .ref 134], Wm pre post I2 A2)) rfl ?_
        refine go_run 3 (F' := (38, [some (.ref 134), some (.int a1)], [.ref 134, .int (v2 - 65), .ref 134], Wm pre post I2 A2)) rfl ?_
        refine go_gf rfl (w_0 hp) rfl ?_
        refine go_run 1 (F' := (42, [some (.ref 134), some (.int a1)], [.int a1, .ref 138, .int (v2 - 65), .ref 134], Wm pre post I2 A2)) rfl ?_
        obtain ⟨b4, hm⟩ := gd hm
        refine go_iald rfl (by decide) (w_4 hp) b4 rfl ?_
        refine go_run 0 (F' := (43, [some (.ref 134), some (.int a1)], [.int ((A2 4) (Int32.toNatClampNeg a1)), .int (v2 - 65), .ref 134], Wm pre post I2 A2)) rfl ?_
        refine go_step rfl rfl ?_
        by_cases q5 : v2 - 65 = (A2 4) (Int32.toNatClampNeg a1)
        · rw [if_pos q5] at hm ⊢
          refine go_run 0 (F' := (46, [some (.ref 134), some (.int a1)], [.ref 134], Wm pre post I2 A2)) rfl ?_
          refine go_run 2 (F' := (51, [some (.ref 134), some (.int a1)], [.int 1, .ref 134], Wm pre post I2 A2)) rfl ?_
          refine go_pf rfl (w_0 hp) (Nat.le_of_ble_eq_true rfl) rfl (wo_7 hp) ?_
          refine go_run 1 (F' := (55, [some (.ref 134), some (.int a1)], [.ref 134], Wm pre post (upd I2 7 1) A2)) rfl ?_
          refine go_gf rfl (w_0 hp) rfl ?_
          refine go_run 1 (F' := (61, [some (.ref 134), some (.int a1)], [], Wm pre post (upd I2 7 1) A2)) rfl ?_
          cases hm
          exact go_end rfl rfl
        · rw [if_neg q5] at hm ⊢
          refine go_run 0 (F' := (50, [some (.ref 134), some (.int a1)], [.ref 134], Wm pre post I2 A2)) rfl ?_
          refine go_run 1 (F' := (51, [some (.ref 134), some (.int a1)], [.int 0, .ref 134], Wm pre post I2 A2)) rfl ?_
          refine go_pf rfl (w_0 hp) (Nat.le_of_ble_eq_true rfl) rfl (wo_7 hp) ?_
          refine go_run 1 (F' := (55, [some (.ref 134), some (.int a1)], [.ref 134], Wm pre post (upd I2 7 0) A2)) rfl ?_
          refine go_gf rfl (w_0 hp) rfl ?_
          refine go_run 2 (F' := (63, [some (.ref 134), some (.int a1)], [.ref 134], Wm pre post (upd I2 7 0) A2)) rfl ?_
          refine go_gf rfl (w_0 hp) rfl ?_
          refine go_run 2 (F' := (68, [some (.ref 134), some (.int a1)], [.ref 134, .int a1, .ref 139], Wm pre post (upd I2 7 0) A2)) rfl ?_
          obtain ⟨I3, A3, v3, e3, hm⟩ := xb_inv hm
          refine go_call (m' := 138) (v := some (.int v3)) (h1 := Wm pre post I3 A3) rfl (by simp only [ie_step, ie_iv, List.drop, w_0 hp]; rfl) ⟨rfl, Nat.le_of_ble_eq_true rfl⟩ (g_now (d := d) hp e3) ?_
          refine go_run 0 (F' := (71, [some (.ref 134), some (.int a1)], [.int v3, .int a1, .ref 139], Wm pre post I3 A3)) rfl ?_
          refine go_run 2 (F' := (74, [some (.ref 134), some (.int a1)], [.int (v3 - 65), .int a1, .ref 139], Wm pre post I3 A3)) rfl ?_
          refine go_iast rfl (w_5 hp) b4 (ws_5 hp) ?_
          refine go_run 2 (F' := (77, [some (.ref 134), some (.int a1)], [.ref 134, .ref 134], Wm pre post I3 (upA A3 5 (upd (A3 5) (Int32.toNatClampNeg a1) (v3 - 65))))) rfl ?_
          refine go_gf rfl (w_0 hp) rfl ?_
          refine go_run 2 (F' := (82, [some (.ref 134), some (.int a1)], [.int ((I3 6) + 1), .ref 134], Wm pre post I3 (upA A3 5 (upd (A3 5) (Int32.toNatClampNeg a1) (v3 - 65))))) rfl ?_
          refine go_pf rfl (w_0 hp) (Nat.le_of_ble_eq_true rfl) rfl (wo_6 hp) ?_
          refine go_run 0 (F' := (85, [some (.ref 134), some (.int a1)], [], Wm pre post (upd I3 6 ((I3 6) + 1)) (upA A3 5 (upd (A3 5) (Int32.toNatClampNeg a1) (v3 - 65))))) rfl ?_
          cases hm
          exact go_end rfl rfl
    · rw [if_neg q2] at hm ⊢
      refine go_run 0 (F' := (18, [some (.ref 134), some (.int a1)], [], Wm pre post I A)) rfl ?_
      refine go_run 0 (F' := (18, [some (.ref 134), some (.int a1)], [], Wm pre post I A)) rfl ?_
      cases hm
      exact go_end rfl rfl
  · rw [if_neg q1] at hm ⊢
    refine go_run 0 (F' := (18, [some (.ref 134), some (.int a1)], [], Wm pre post I A)) rfl ?_
    refine go_run 0 (F' := (18, [some (.ref 134), some (.int a1)], [], Wm pre post I A)) rfl ?_
    cases hm
    exact go_end rfl rfl
def x_readTell (I : Nat → Int32) (A : Nat → Nat → Int32) (a1 : Int32) : Option xR := (if ib a1 200 then (if (I 6) + 1 < I 4 then (xb (x_now (upd I 6 ((I 6) + 1)) (upA A 3 (upd (A 3) (Int32.toNatClampNeg a1) 3))) fun I1 A1 v1 => (if ty_b (rd_fig v1) = 0 then (some (upd I1 7 1, A1, 0)) else (xb (x_now (upd I1 7 0) A1) fun I2 A2 v2 => (xb (x_want (upd I2 6 ((I2 6) + 1)) (upA A2 6 (upd (A2 6) (Int32.toNatClampNeg a1) (v2 - 48))) 62) fun I3 A3 v3 => (xb (x_readOther I3 A3 a1) fun I4 A4 v4 => (xb (x_want I4 A4 59) fun I5 A5 v5 => (some (I5, A5, 0)))))))) else (some (upd I 6 ((I 6) + 1), upA A 3 (upd (A 3) (Int32.toNatClampNeg a1) 3), 0))) else none)
theorem g_readTell {X : ie_X} {d : Nat} {pre post : ie_H} (hp : pre.length = 134) {I : Nat → Int32} {A : Nat → Nat → Int32} {a1 : Int32} {I' : Nat → Int32} {A' : Nat → Nat → Int32} {r : Int32} (hm : x_readTell I A a1 = some (I', A', r)) : Go X (d + 2) 145 (0, ie_en 145 [.ref 134, .int a1], [], Wm pre post I A) (.inl none) (Wm pre post I' A') := by
  unfold x_readTell at hm
  refine go_run 0 (F' := (0, [some (.ref 134), some (.int a1)], [], Wm pre post I A)) rfl ?_
  refine go_run 1 (F' := (1, [some (.ref 134), some (.int a1)], [.ref 134], Wm pre post I A)) rfl ?_
  refine go_gf rfl (w_0 hp) rfl ?_
  refine go_run 2 (F' := (6, [some (.ref 134), some (.int a1)], [.int 3, .int a1, .ref 137], Wm pre post I A)) rfl ?_
  obtain ⟨b1, hm⟩ := gd hm
  refine go_iast rfl (w_3 hp) b1 (ws_3 hp) ?_
  refine go_run 2 (F' := (9, [some (.ref 134), some (.int a1)], [.ref 134, .ref 134], Wm pre post I (upA A 3 (upd (A 3) (Int32.toNatClampNeg a1) 3)))) rfl ?_
  refine go_gf rfl (w_0 hp) rfl ?_
  refine go_run 2 (F' := (14, [some (.ref 134), some (.int a1)], [.int ((I 6) + 1), .ref 134], Wm pre post I (upA A 3 (upd (A 3) (Int32.toNatClampNeg a1) 3)))) rfl ?_
  refine go_pf rfl (w_0 hp) (Nat.le_of_ble_eq_true rfl) rfl (wo_6 hp) ?_
  refine go_run 1 (F' := (18, [some (.ref 134), some (.int a1)], [.ref 134], Wm pre post (upd I 6 ((I 6) + 1)) (upA A 3 (upd (A 3) (Int32.toNatClampNeg a1) 3)))) rfl ?_
  refine go_gf rfl (w_0 hp) rfl ?_
  refine go_run 1 (F' := (22, [some (.ref 134), some (.int a1)], [.ref 134, .int ((I 6) + 1)], Wm pre post (upd I 6 ((I 6) + 1)) (upA A 3 (upd (A 3) (Int32.toNatClampNeg a1) 3)))) rfl ?_
  refine go_gf rfl (w_0 hp) rfl ?_
  refine go_run 0 (F' := (25, [some (.ref 134), some (.int a1)], [.int (I 4), .int ((I 6) + 1)], Wm pre post (upd I 6 ((I 6) + 1)) (upA A 3 (upd (A 3) (Int32.toNatClampNeg a1) 3)))) rfl ?_
  refine go_step rfl rfl ?_
  by_cases q2 : (I 6) + 1 < I 4
  · rw [if_pos q2] at hm ⊢
    refine go_run 0 (F' := (29, [some (.ref 134), some (.int a1)], [], Wm pre post (upd I 6 ((I 6) + 1)) (upA A 3 (upd (A 3) (Int32.toNatClampNeg a1) 3)))) rfl ?_
    refine go_run 2 (F' := (31, [some (.ref 134), some (.int a1)], [.ref 134, .ref 134], Wm pre post (upd I 6 ((I 6) + 1)) (upA A 3 (upd (A 3) (Int32.toNatClampNeg a1) 3)))) rfl ?_
    obtain ⟨I1, A1, v1, e1, hm⟩ := xb_inv hm
    refine go_call (m' := 138) (v := some (.int v1)) (h1 := Wm pre post I1 A1) rfl (by simp only [ie_step, ie_iv, List.drop, w_0 hp]; rfl) ⟨rfl, Nat.le_of_ble_eq_true rfl⟩ (g_now (d := d + 1) hp e1) ?_
    refine go_run 0 (F' := (34, [some (.ref 134), some (.int a1)], [.int v1, .ref 134], Wm pre post I1 A1)) rfl ?_
    refine go_run 0 (F' := (34, [some (.ref 134), some (.int a1)], [.int v1, .ref 134], Wm pre post I1 A1)) rfl ?_
    refine go_call (m' := 146) (v := some (.int (ty_b (rd_fig v1)))) (h1 := Wm pre post I1 A1) rfl rfl ⟨rfl, Nat.le_of_ble_eq_true rfl⟩ (rm_isFig _) ?_
    refine go_run 0 (F' := (37, [some (.ref 134), some (.int a1)], [.int (ty_b (rd_fig v1)), .ref 134], Wm pre post I1 A1)) rfl ?_
    refine go_run 0 (F' := (37, [some (.ref 134), some (.int a1)], [.int (ty_b (rd_fig v1)), .ref 134], Wm pre post I1 A1)) rfl ?_
    refine go_step rfl rfl ?_
    by_cases q3 : ty_b (rd_fig v1) = 0
    · rw [if_pos q3] at hm ⊢
      refine go_run 0 (F' := (40, [some (.ref 134), some (.int a1)], [.ref 134], Wm pre post I1 A1)) rfl ?_
      refine go_run 2 (F' := (45, [some (.ref 134), some (.int a1)], [.int 1, .ref 134], Wm pre post I1 A1)) rfl ?_
      refine go_pf rfl (w_0 hp) (Nat.le_of_ble_eq_true rfl) rfl (wo_7 hp) ?_
      refine go_run 1 (F' := (49, [some (.ref 134), some (.int a1)], [.ref 134], Wm pre post (upd I1 7 1) A1)) rfl ?_
      refine go_gf rfl (w_0 hp) rfl ?_
      refine go_run 1 (F' := (55, [some (.ref 134), some (.int a1)], [], Wm pre post (upd I1 7 1) A1)) rfl ?_
      cases hm
      exact go_end rfl rfl
    · rw [if_neg q3] at hm ⊢
      refine go_run 0 (F' := (44, [some (.ref 134), some (.int a1)], [.ref 134], Wm pre post I1 A1)) rfl ?_
      refine go_run 1 (F' := (45, [some (.ref 134), some (.int a1)], [.int 0, .ref 134], Wm pre post I1 A1)) rfl ?_
      refine go_pf rfl (w_0 hp) (Nat.le_of_ble_eq_true rfl) rfl (wo_7 hp) ?_
      refine go_run 1 (F' := (49, [some (.ref 134), some (.int a1)], [.ref 134], Wm pre post (upd I1 7 0) A1)) rfl ?_
      refine go_gf rfl (w_0 hp) rfl ?_
      refine go_run 2 (F' := (57, [some (.ref 134), some (.int a1)], [.ref 134], Wm pre post (upd I1 7 0) A1)) rfl ?_
      refine go_gf rfl (w_0 hp) rfl ?_
      refine go_run 2 (F' := (62, [some (.ref 134), some (.int a1)], [.ref 134, .int a1, .ref 140], Wm pre post (upd I1 7 0) A1)) rfl ?_
      obtain ⟨I2, A2, v2, e2, hm⟩ := xb_inv hm
      refine go_call (m' := 138) (v := some (.int v2)) (h1 := Wm pre post I2 A2) rfl (by simp only [ie_step, ie_iv, List.drop, w_0 hp]; rfl) ⟨rfl, Nat.le_of_ble_eq_true rfl⟩ (g_now (d := d + 1) hp e2) ?_
      refine go_run 0 (F' := (65, [some (.ref 134), some (.int a1)], [.int v2, .int a1, .ref 140], Wm pre post I2 A2)) rfl ?_
      refine go_run 2 (F' := (68, [some (.ref 134), some (.int a1)], [.int (v2 - 48), .int a1, .ref 140], Wm pre post I2 A2)) rfl ?_
      refine go_iast rfl (w_6 hp) b1 (ws_6 hp) ?_
      refine go_run 2 (F' := (71, [some (.ref 134), some (.int a1)], [.ref 134, .ref 134], Wm pre post I2 (upA A2 6 (upd (A2 6) (Int32.toNatClampNeg a1) (v2 - 48))))) rfl ?_
      refine go_gf rfl (w_0 hp) rfl ?_
      refine go_run 2 (F' := (76, [some (.ref 134), some (.int a1)], [.int ((I2 6) + 1), .ref 134], Wm pre post I2 (upA A2 6 (upd (A2 6) (Int32.toNatClampNeg a1) (v2 - 48))))) rfl ?_
      refine go_pf rfl (w_0 hp) (Nat.le_of_ble_eq_true rfl) rfl (wo_6 hp) ?_
      refine go_run 2 (F' := (82, [some (.ref 134), some (.int a1)], [.int 62, .ref 134], Wm pre post (upd I2 6 ((I2 6) + 1)) (upA A2 6 (upd (A2 6) (Int32.toNatClampNeg a1) (v2 - 48))))) rfl ?_
      obtain ⟨I3, A3, v3, e3, hm⟩ := xb_inv hm
      refine go_call (m' := 141) (v := none) (h1 := Wm pre post I3 A3) rfl (by simp only [ie_step, ie_iv, List.drop, w_0 hp]; rfl) ⟨rfl, Nat.le_of_ble_eq_true rfl⟩ (g_want (d := d + 1) hp e3) ?_
      refine go_run 0 (F' := (85, [some (.ref 134), some (.int a1)], [], Wm pre post I3 A3)) rfl ?_
      refine go_run 2 (F' := (87, [some (.ref 134), some (.int a1)], [.int a1, .ref 134], Wm pre post I3 A3)) rfl ?_
      obtain ⟨I4, A4, v4, e4, hm⟩ := xb_inv hm
      refine go_call (m' := 147) (v := none) (h1 := Wm pre post I4 A4) rfl (by simp only [ie_step, ie_iv, List.drop, w_0 hp]; rfl) ⟨rfl, Nat.le_of_ble_eq_true rfl⟩ (g_readOther (d := d) hp e4) ?_
      refine go_run 0 (F' := (90, [some (.ref 134), some (.int a1)], [], Wm pre post I4 A4)) rfl ?_
      refine go_run 2 (F' := (93, [some (.ref 134), some (.int a1)], [.int 59, .ref 134], Wm pre post I4 A4)) rfl ?_
      obtain ⟨I5, A5, v5, e5, hm⟩ := xb_inv hm
      refine go_call (m' := 141) (v := none) (h1 := Wm pre post I5 A5) rfl (by simp only [ie_step, ie_iv, List.drop, w_0 hp]; rfl) ⟨rfl, Nat.le_of_ble_eq_true rfl⟩ (g_want (d := d + 1) hp e5) ?_
      refine go_run 0 (F' := (96, [some (.ref 134), some (.int a1)], [], Wm pre post I5 A5)) rfl ?_
      refine go_run 0 (F' := (96, [some (.ref 134), some (.int a1)], [], Wm pre post I5 A5)) rfl ?_
      cases hm
      exact go_end rfl rfl
  · rw [if_neg q2] at hm ⊢
    refine go_run 0 (F' := (28, [some (.ref 134), some (.int a1)], [], Wm pre post (upd I 6 ((I 6) + 1)) (upA A 3 (upd (A 3) (Int32.toNatClampNeg a1) 3)))) rfl ?_
    refine go_run 0 (F' := (28, [some (.ref 134), some (.int a1)], [], Wm pre post (upd I 6 ((I 6) + 1)) (upA A 3 (upd (A 3) (Int32.toNatClampNeg a1) 3)))) rfl ?_
    cases hm
    exact go_end rfl rfl
def x_readTerm_42 : Nat → (Nat → Int32) → (Nat → Nat → Int32) → Int32 → Option xR
  | 0, _, _, _ => none
  | n + 1, I, A, l1 => (if 3 ≤ l1 then (if l1 = 0 then (some (upd I 7 1, A, 0)) else (some (upd I 7 0, A, 0))) else (xb (x_now I A) fun I1 A1 v1 => (if ty_b (rd_fig v1) = 0 then (if l1 = 0 then (some (upd I1 7 1, A1, 0)) else (some (upd I1 7 0, A1, 0))) else (x_readTerm_42 n (upd I1 6 ((I1 6) + 1)) A1 (l1 + 1)))))
theorem g_readTerm_42 {X : ie_X} {d : Nat} {pre post : ie_H} (hp : pre.length = 134) : ∀ (n : Nat) {I : Nat → Int32} {A : Nat → Nat → Int32} {l1 : Int32} {I' : Nat → Int32} {A' : Nat → Nat → Int32} {r : Int32}, x_readTerm_42 n I A l1 = some (I', A', r) → Go X (d + 1) 149 (42, [some (.ref 134), some (.int l1)], [], Wm pre post I A) (.inl none) (Wm pre post I' A') := by
  intro n
  induction n with
  | zero => intro I A l1 I' A' r hm; cases hm
  | succ n ih =>
    intro I A l1 I' A' r hm
    unfold x_readTerm_42 at hm
    refine go_run 0 (F' := (42, [some (.ref 134), some (.int l1)], [], Wm pre post I A)) rfl ?_
    refine go_run 2 (F' := (44, [some (.ref 134), some (.int l1)], [.int 3, .int l1], Wm pre post I A)) rfl ?_
    refine go_step rfl rfl ?_
    by_cases q1 : 3 ≤ l1
    · rw [if_pos q1] at hm ⊢
      refine go_run 0 (F' := (73, [some (.ref 134), some (.int l1)], [], Wm pre post I A)) rfl ?_
      refine go_run 2 (F' := (75, [some (.ref 134), some (.int l1)], [.int l1, .ref 134], Wm pre post I A)) rfl ?_
      refine go_step rfl rfl ?_
      by_cases q2 : l1 = 0
      · rw [if_pos q2] at hm ⊢
        refine go_run 0 (F' := (78, [some (.ref 134), some (.int l1)], [.ref 134], Wm pre post I A)) rfl ?_
        refine go_run 2 (F' := (83, [some (.ref 134), some (.int l1)], [.int 1, .ref 134], Wm pre post I A)) rfl ?_
        refine go_pf rfl (w_0 hp) (Nat.le_of_ble_eq_true rfl) rfl (wo_7 hp) ?_
        refine go_run 0 (F' := (86, [some (.ref 134), some (.int l1)], [], Wm pre post (upd I 7 1) A)) rfl ?_
        cases hm
        exact go_end rfl rfl
      · rw [if_neg q2] at hm ⊢
        refine go_run 0 (F' := (82, [some (.ref 134), some (.int l1)], [.ref 134], Wm pre post I A)) rfl ?_
        refine go_run 1 (F' := (83, [some (.ref 134), some (.int l1)], [.int 0, .ref 134], Wm pre post I A)) rfl ?_
        refine go_pf rfl (w_0 hp) (Nat.le_of_ble_eq_true rfl) rfl (wo_7 hp) ?_
        refine go_run 0 (F' := (86, [some (.ref 134), some (.int l1)], [], Wm pre post (upd I 7 0) A)) rfl ?_
        cases hm
        exact go_end rfl rfl
    · rw [if_neg q1] at hm ⊢
      refine go_run 0 (F' := (47, [some (.ref 134), some (.int l1)], [], Wm pre post I A)) rfl ?_
      refine go_run 1 (F' := (48, [some (.ref 134), some (.int l1)], [.ref 134], Wm pre post I A)) rfl ?_
      obtain ⟨I1, A1, v1, e1, hm⟩ := xb_inv hm
      refine go_call (m' := 138) (v := some (.int v1)) (h1 := Wm pre post I1 A1) rfl (by simp only [ie_step, ie_iv, List.drop, w_0 hp]; rfl) ⟨rfl, Nat.le_of_ble_eq_true rfl⟩ (g_now (d := d) hp e1) ?_
      refine go_run 0 (F' := (51, [some (.ref 134), some (.int l1)], [.int v1], Wm pre post I1 A1)) rfl ?_
      refine go_run 0 (F' := (51, [some (.ref 134), some (.int l1)], [.int v1], Wm pre post I1 A1)) rfl ?_
      refine go_call (m' := 146) (v := some (.int (ty_b (rd_fig v1)))) (h1 := Wm pre post I1 A1) rfl rfl ⟨rfl, Nat.le_of_ble_eq_true rfl⟩ (rm_isFig _) ?_
      refine go_run 0 (F' := (54, [some (.ref 134), some (.int l1)], [.int (ty_b (rd_fig v1))], Wm pre post I1 A1)) rfl ?_
      refine go_run 0 (F' := (54, [some (.ref 134), some (.int l1)], [.int (ty_b (rd_fig v1))], Wm pre post I1 A1)) rfl ?_
      refine go_step rfl rfl ?_
      by_cases q3 : ty_b (rd_fig v1) = 0
      · rw [if_pos q3] at hm ⊢
        refine go_run 0 (F' := (73, [some (.ref 134), some (.int l1)], [], Wm pre post I1 A1)) rfl ?_
        refine go_run 2 (F' := (75, [some (.ref 134), some (.int l1)], [.int l1, .ref 134], Wm pre post I1 A1)) rfl ?_
        refine go_step rfl rfl ?_
        by_cases q4 : l1 = 0
        · rw [if_pos q4] at hm ⊢
          refine go_run 0 (F' := (78, [some (.ref 134), some (.int l1)], [.ref 134], Wm pre post I1 A1)) rfl ?_
          refine go_run 2 (F' := (83, [some (.ref 134), some (.int l1)], [.int 1, .ref 134], Wm pre post I1 A1)) rfl ?_
          refine go_pf rfl (w_0 hp) (Nat.le_of_ble_eq_true rfl) rfl (wo_7 hp) ?_
          refine go_run 0 (F' := (86, [some (.ref 134), some (.int l1)], [], Wm pre post (upd I1 7 1) A1)) rfl ?_
          cases hm
          exact go_end rfl rfl
        · rw [if_neg q4] at hm ⊢
          refine go_run 0 (F' := (82, [some (.ref 134), some (.int l1)], [.ref 134], Wm pre post I1 A1)) rfl ?_
          refine go_run 1 (F' := (83, [some (.ref 134), some (.int l1)], [.int 0, .ref 134], Wm pre post I1 A1)) rfl ?_
          refine go_pf rfl (w_0 hp) (Nat.le_of_ble_eq_true rfl) rfl (wo_7 hp) ?_
          refine go_run 0 (F' := (86, [some (.ref 134), some (.int l1)], [], Wm pre post (upd I1 7 0) A1)) rfl ?_
          cases hm
          exact go_end rfl rfl
      · rw [if_neg q3] at hm ⊢
        refine go_run 0 (F' := (57, [some (.ref 134), some (.int l1)], [], Wm pre post I1 A1)) rfl ?_
        refine go_run 2 (F' := (59, [some (.ref 134), some (.int l1)], [.ref 134, .ref 134], Wm pre post I1 A1)) rfl ?_
        refine go_gf rfl (w_0 hp) rfl ?_
        refine go_run 2 (F' := (64, [some (.ref 134), some (.int l1)], [.int ((I1 6) + 1), .ref 134], Wm pre post I1 A1)) rfl ?_
        refine go_pf rfl (w_0 hp) (Nat.le_of_ble_eq_true rfl) rfl (wo_6 hp) ?_
        refine go_run 2 (F' := (42, [some (.ref 134), some (.int (l1 + 1))], [], Wm pre post (upd I1 6 ((I1 6) + 1)) A1)) rfl ?_
        exact ih hm
def x_readTerm (n : Nat) (I : Nat → Int32) (A : Nat → Nat → Int32) : Option xR := (if I 7 = 0 then (if I 6 < I 4 then (xb (x_now I A) fun I1 A1 v1 => (if ty_b (rd_var v1) = 0 then (x_readTerm_42  n I1 A1 0) else (some (upd I1 6 ((I1 6) + 1), A1, 0)))) else (some (I, A, 0))) else (some (I, A, 0)))
theorem g_readTerm {X : ie_X} {d : Nat} {pre post : ie_H} (hp : pre.length = 134) {n : Nat} {I : Nat → Int32} {A : Nat → Nat → Int32} {I' : Nat → Int32} {A' : Nat → Nat → Int32} {r : Int32} (hm : x_readTerm n I A = some (I', A', r)) : Go X (d + 1) 149 (0, ie_en 149 [.ref 134], [], Wm pre post I A) (.inl none) (Wm pre post I' A') := by
  unfold x_readTerm at hm
  refine go_run 0 (F' := (0, [some (.ref 134), none], [], Wm pre post I A)) rfl ?_
  refine go_run 1 (F' := (1, [some (.ref 134), none], [.ref 134], Wm pre post I A)) rfl ?_
  refine go_gf rfl (w_0 hp) rfl ?_
  refine go_run 0 (F' := (4, [some (.ref 134), none], [.int (I 7)], Wm pre post I A)) rfl ?_
  refine go_step rfl rfl ?_
  by_cases q1 : I 7 = 0
  · rw [if_pos q1] at hm ⊢
    refine go_run 0 (F' := (7, [some (.ref 134), none], [], Wm pre post I A)) rfl ?_
    refine go_run 1 (F' := (8, [some (.ref 134), none], [.ref 134], Wm pre post I A)) rfl ?_
    refine go_gf rfl (w_0 hp) rfl ?_
    refine go_run 1 (F' := (12, [some (.ref 134), none], [.ref 134, .int (I 6)], Wm pre post I A)) rfl ?_
    refine go_gf rfl (w_0 hp) rfl ?_
    refine go_run 0 (F' := (15, [some (.ref 134), none], [.int (I 4), .int (I 6)], Wm pre post I A)) rfl ?_
    refine go_step rfl rfl ?_
    by_cases q2 : I 6 < I 4
    · rw [if_pos q2] at hm ⊢
      refine go_run 0 (F' := (19, [some (.ref 134), none], [], Wm pre post I A)) rfl ?_
      refine go_run 1 (F' := (20, [some (.ref 134), none], [.ref 134], Wm pre post I A)) rfl ?_
      obtain ⟨I1, A1, v1, e1, hm⟩ := xb_inv hm
      refine go_call (m' := 138) (v := some (.int v1)) (h1 := Wm pre post I1 A1) rfl (by simp only [ie_step, ie_iv, List.drop, w_0 hp]; rfl) ⟨rfl, Nat.le_of_ble_eq_true rfl⟩ (g_now (d := d) hp e1) ?_
      refine go_run 0 (F' := (23, [some (.ref 134), none], [.int v1], Wm pre post I1 A1)) rfl ?_
      refine go_run 0 (F' := (23, [some (.ref 134), none], [.int v1], Wm pre post I1 A1)) rfl ?_
      refine go_call (m' := 150) (v := some (.int (ty_b (rd_var v1)))) (h1 := Wm pre post I1 A1) rfl rfl ⟨rfl, Nat.le_of_ble_eq_true rfl⟩ (rm_isVar _) ?_
      refine go_run 0 (F' := (26, [some (.ref 134), none], [.int (ty_b (rd_var v1))], Wm pre post I1 A1)) rfl ?_
      refine go_run 0 (F' := (26, [some (.ref 134), none], [.int (ty_b (rd_var v1))], Wm pre post I1 A1)) rfl ?_
      refine go_step rfl rfl ?_
      by_cases q3 : ty_b (rd_var v1) = 0
      · rw [if_pos q3] at hm ⊢
        refine go_run 0 (F' := (40, [some (.ref 134), none], [], Wm pre post I1 A1)) rfl ?_
        refine go_run 2 (F' := (42, [some (.ref 134), some (.int 0)], [], Wm pre post I1 A1)) rfl ?_
        exact g_readTerm_42 hp  n hm
      · rw [if_neg q3] at hm ⊢
        refine go_run 0 (F' := (29, [some (.ref 134), none], [], Wm pre post I1 A1)) rfl ?_
        refine go_run 2 (F' := (31, [some (.ref 134), none], [.ref 134, .ref 134], Wm pre post I1 A1)) rfl ?_
        refine go_gf rfl (w_0 hp) rfl ?_
        refine go_run 2 (F' := (36, [some (.ref 134), none], [.int ((I1 6) + 1), .ref 134], Wm pre post I1 A1)) rfl ?_
        refine go_pf rfl (w_0 hp) (Nat.le_of_ble_eq_true rfl) rfl (wo_6 hp) ?_
        refine go_run 0 (F' := (39, [some (.ref 134), none], [], Wm pre post (upd I1 6 ((I1 6) + 1)) A1)) rfl ?_
        cases hm
        exact go_end rfl rfl
    · rw [if_neg q2] at hm ⊢
      refine go_run 0 (F' := (18, [some (.ref 134), none], [], Wm pre post I A)) rfl ?_
      refine go_run 0 (F' := (18, [some (.ref 134), none], [], Wm pre post I A)) rfl ?_
      cases hm
      exact go_end rfl rfl
  · rw [if_neg q1] at hm ⊢
    refine go_run 0 (F' := (18, [some (.ref 134), none], [], Wm pre post I A)) rfl ?_
    refine go_run 0 (F' := (18, [some (.ref 134), none], [], Wm pre post I A)) rfl ?_
    cases hm
    exact go_end rfl rfl
def x_readExpression (n : Nat) (I : Nat → Int32) (A : Nat → Nat → Int32) (a1 : Int32) : Option xR := (if ib a1 200 then (xb (x_readTerm n I (upA A 7 (upd (A 7) (Int32.toNatClampNeg a1) (I 6)))) fun I1 A1 v1 => (if I1 7 = 0 then (xb (x_now I1 A1) fun I2 A2 v2 => (if ty_b (rd_op v2) = 0 then (some (I2, upA A2 8 (upd (A2 8) (Int32.toNatClampNeg a1) (I2 6)), 0)) else (xb (x_readTerm n (upd I2 6 ((I2 6) + 1)) A2) fun I3 A3 v3 => (some (I3, upA A3 8 (upd (A3 8) (Int32.toNatClampNeg a1) (I3 6)), 0))))) else (some (I1, upA A1 8 (upd (A1 8) (Int32.toNatClampNeg a1) (I1 6)), 0)))) else none)
theorem g_readExpression {X : ie_X} {d : Nat} {pre post : ie_H} (hp : pre.length = 134) {n : Nat} {I : Nat → Int32} {A : Nat → Nat → Int32} {a1 : Int32} {I' : Nat → Int32} {A' : Nat → Nat → Int32} {r : Int32} (hm : x_readExpression n I A a1 = some (I', A', r)) : Go X (d + 2) 148 (0, ie_en 148 [.ref 134, .int a1], [], Wm pre post I A) (.inl none) (Wm pre post I' A') := by
  unfold x_readExpression at hm
  refine go_run 0 (F' := (0, [some (.ref 134), some (.int a1)], [], Wm pre post I A)) rfl ?_
  refine go_run 1 (F' := (1, [some (.ref 134), some (.int a1)], [.ref 134], Wm pre post I A)) rfl ?_
  refine go_gf rfl (w_0 hp) rfl ?_
  refine go_run 2 (F' := (6, [some (.ref 134), some (.int a1)], [.ref 134, .int a1, .ref 141], Wm pre post I A)) rfl ?_
  refine go_gf rfl (w_0 hp) rfl ?_
  refine go_run 0 (F' := (9, [some (.ref 134), some (.int a1)], [.int (I 6), .int a1, .ref 141], Wm pre post I A)) rfl ?_
  obtain ⟨b1, hm⟩ := gd hm
  refine go_iast rfl (w_7 hp) b1 (ws_7 hp) ?_
  refine go_run 1 (F' := (11, [some (.ref 134), some (.int a1)], [.ref 134], Wm pre post I (upA A 7 (upd (A 7) (Int32.toNatClampNeg a1) (I 6))))) rfl ?_
  obtain ⟨I1, A1, v1, e1, hm⟩ := xb_inv hm
  refine go_call (m' := 149) (v := none) (h1 := Wm pre post I1 A1) rfl (by simp only [ie_step, ie_iv, List.drop, w_0 hp]; rfl) ⟨rfl, Nat.le_of_ble_eq_true rfl⟩ (g_readTerm (d := d) hp e1) ?_
  refine go_run 0 (F' := (14, [some (.ref 134), some (.int a1)], [], Wm pre post I1 A1)) rfl ?_
  refine go_run 1 (F' := (15, [some (.ref 134), some (.int a1)], [.ref 134], Wm pre post I1 A1)) rfl ?_
  refine go_gf rfl (w_0 hp) rfl ?_
  refine go_run 0 (F' := (18, [some (.ref 134), some (.int a1)], [.int (I1 7)], Wm pre post I1 A1)) rfl ?_
  refine go_step rfl rfl ?_
  by_cases q2 : I1 7 = 0
  · rw [if_pos q2] at hm ⊢
    refine go_run 0 (F' := (21, [some (.ref 134), some (.int a1)], [], Wm pre post I1 A1)) rfl ?_
    refine go_run 1 (F' := (22, [some (.ref 134), some (.int a1)], [.ref 134], Wm pre post I1 A1)) rfl ?_
    obtain ⟨I2, A2, v2, e2, hm⟩ := xb_inv hm
    refine go_call (m' := 138) (v := some (.int v2)) (h1 := Wm pre post I2 A2) rfl (by simp only [ie_step, ie_iv, List.drop, w_0 hp]; rfl) ⟨rfl, Nat.le_of_ble_eq_true rfl⟩ (g_now (d := d + 1) hp e2) ?_
    refine go_run 0 (F' := (25, [some (.ref 134), some (.int a1)], [.int v2], Wm pre post I2 A2)) rfl ?_
    refine go_run 0 (F' := (25, [some (.ref 134), some (.int a1)], [.int v2], Wm pre post I2 A2)) rfl ?_
    refine go_call (m' := 151) (v := some (.int (ty_b (rd_op v2)))) (h1 := Wm pre post I2 A2) rfl rfl ⟨rfl, Nat.le_of_ble_eq_true rfl⟩ (rm_isSign _) ?_
    refine go_run 0 (F' := (28, [some (.ref 134), some (.int a1)], [.int (ty_b (rd_op v2))], Wm pre post I2 A2)) rfl ?_
    refine go_run 0 (F' := (28, [some (.ref 134), some (.int a1)], [.int (ty_b (rd_op v2))], Wm pre post I2 A2)) rfl ?_
    refine go_step rfl rfl ?_
    by_cases q3 : ty_b (rd_op v2) = 0
    · rw [if_pos q3] at hm ⊢
      refine go_run 0 (F' := (45, [some (.ref 134), some (.int a1)], [], Wm pre post I2 A2)) rfl ?_
      refine go_run 1 (F' := (46, [some (.ref 134), some (.int a1)], [.ref 134], Wm pre post I2 A2)) rfl ?_
      refine go_gf rfl (w_0 hp) rfl ?_
      refine go_run 2 (F' := (51, [some (.ref 134), some (.int a1)], [.ref 134, .int a1, .ref 142], Wm pre post I2 A2)) rfl ?_
      refine go_gf rfl (w_0 hp) rfl ?_
      refine go_run 0 (F' := (54, [some (.ref 134), some (.int a1)], [.int (I2 6), .int a1, .ref 142], Wm pre post I2 A2)) rfl ?_
      refine go_iast rfl (w_8 hp) b1 (ws_8 hp) ?_
      refine go_run 0 (F' := (55, [some (.ref 134), some (.int a1)], [], Wm pre post I2 (upA A2 8 (upd (A2 8) (Int32.toNatClampNeg a1) (I2 6))))) rfl ?_
      cases hm
      exact go_end rfl rfl
    · rw [if_neg q3] at hm ⊢
      refine go_run 0 (F' := (31, [some (.ref 134), some (.int a1)], [], Wm pre post I2 A2)) rfl ?_
      refine go_run 2 (F' := (33, [some (.ref 134), some (.int a1)], [.ref 134, .ref 134], Wm pre post I2 A2)) rfl ?_
      refine go_gf rfl (w_0 hp) rfl ?_
      refine go_run 2 (F' := (38, [some (.ref 134), some (.int a1)], [.int ((I2 6) + 1), .ref 134], Wm pre post I2 A2)) rfl ?_
      refine go_pf rfl (w_0 hp) (Nat.le_of_ble_eq_true rfl) rfl (wo_6 hp) ?_
      refine go_run 1 (F' := (42, [some (.ref 134), some (.int a1)], [.ref 134], Wm pre post (upd I2 6 ((I2 6) + 1)) A2)) rfl ?_
      obtain ⟨I3, A3, v3, e3, hm⟩ := xb_inv hm
      refine go_call (m' := 149) (v := none) (h1 := Wm pre post I3 A3) rfl (by simp only [ie_step, ie_iv, List.drop, w_0 hp]; rfl) ⟨rfl, Nat.le_of_ble_eq_true rfl⟩ (g_readTerm (d := d) hp e3) ?_
      refine go_run 0 (F' := (45, [some (.ref 134), some (.int a1)], [], Wm pre post I3 A3)) rfl ?_
      refine go_run 1 (F' := (46, [some (.ref 134), some (.int a1)], [.ref 134], Wm pre post I3 A3)) rfl ?_
      refine go_gf rfl (w_0 hp) rfl ?_
      refine go_run 2 (F' := (51, [some (.ref 134), some (.int a1)], [.ref 134, .int a1, .ref 142], Wm pre post I3 A3)) rfl ?_
      refine go_gf rfl (w_0 hp) rfl ?_
      refine go_run 0 (F' := (54, [some (.ref 134), some (.int a1)], [.int (I3 6), .int a1, .ref 142], Wm pre post I3 A3)) rfl ?_
      refine go_iast rfl (w_8 hp) b1 (ws_8 hp) ?_
      refine go_run 0 (F' := (55, [some (.ref 134), some (.int a1)], [], Wm pre post I3 (upA A3 8 (upd (A3 8) (Int32.toNatClampNeg a1) (I3 6))))) rfl ?_
      cases hm
      exact go_end rfl rfl
  · rw [if_neg q2] at hm ⊢
    refine go_run 0 (F' := (45, [some (.ref 134), some (.int a1)], [], Wm pre post I1 A1)) rfl ?_
    refine go_run 1 (F' := (46, [some (.ref 134), some (.int a1)], [.ref 134], Wm pre post I1 A1)) rfl ?_
    refine go_gf rfl (w_0 hp) rfl ?_
    refine go_run 2 (F' := (51, [some (.ref 134), some (.int a1)], [.ref 134, .int a1, .ref 142], Wm pre post I1 A1)) rfl ?_
    refine go_gf rfl (w_0 hp) rfl ?_
    refine go_run 0 (F' := (54, [some (.ref 134), some (.int a1)], [.int (I1 6), .int a1, .ref 142], Wm pre post I1 A1)) rfl ?_
    refine go_iast rfl (w_8 hp) b1 (ws_8 hp) ?_
    refine go_run 0 (F' := (55, [some (.ref 134), some (.int a1)], [], Wm pre post I1 (upA A1 8 (upd (A1 8) (Int32.toNatClampNeg a1) (I1 6))))) rfl ?_
    cases hm
    exact go_end rfl rfl
def x_readValue_81 (n : Nat) (I : Nat → Int32) (A : Nat → Nat → Int32) (l1 : Int32) : Option xR := (if ib l1 200 then (xb (x_readExpression n I (upA A 3 (upd (A 3) (Int32.toNatClampNeg l1) 2)) l1) fun I1 A1 v1 => (xb (x_want I1 A1 62) fun I2 A2 v2 => (xb (x_readOther I2 A2 l1) fun I3 A3 v3 => (if I3 7 = 0 then (if I3 6 < I3 4 then (xb (x_now I3 A3) fun I4 A4 v4 => (if ty_b (rd_var v4) = 0 then (some (upd I4 7 1, A4, 0)) else (xb (x_now (upd I4 7 0) A4) fun I5 A5 v5 => (xb (x_want (upd I5 6 ((I5 6) + 1)) (upA A5 6 (upd (A5 6) (Int32.toNatClampNeg l1) (v5 - 119))) 59) fun I6 A6 v6 => (some (I6, A6, 0)))))) else (some (I3, A3, 0))) else (some (I3, A3, 0)))))) else none)
theorem g_readValue_81 {X : ie_X} {d : Nat} {pre post : ie_H} (hp : pre.length = 134) {n : Nat} {I : Nat → Int32} {A : Nat → Nat → Int32} {l1 : Int32} {I' : Nat → Int32} {A' : Nat → Nat → Int32} {r : Int32} (hm : x_readValue_81 n I A l1 = some (I', A', r)) : Go X (d + 3) 152 (81, [some (.ref 134), some (.int l1)], [], Wm pre post I A) (.inl none) (Wm pre post I' A') := by
  unfold x_readValue_81 at hm
  refine go_run 0 (F' := (81, [some (.ref 134), some (.int l1)], [], Wm pre post I A)) rfl ?_
  refine go_run 1 (F' := (82, [some (.ref 134), some (.int l1)], [.ref 134], Wm pre post I A)) rfl ?_
  refine go_gf rfl (w_0 hp) rfl ?_
  refine go_run 2 (F' := (87, [some (.ref 134), some (.int l1)], [.int 2, .int l1, .ref 137], Wm pre post I A)) rfl ?_
  obtain ⟨b1, hm⟩ := gd hm
  refine go_iast rfl (w_3 hp) b1 (ws_3 hp) ?_
  refine go_run 2 (F' := (90, [some (.ref 134), some (.int l1)], [.int l1, .ref 134], Wm pre post I (upA A 3 (upd (A 3) (Int32.toNatClampNeg l1) 2)))) rfl ?_
  obtain ⟨I1, A1, v1, e1, hm⟩ := xb_inv hm
  refine go_call (m' := 148) (v := none) (h1 := Wm pre post I1 A1) rfl (by simp only [ie_step, ie_iv, List.drop, w_0 hp]; rfl) ⟨rfl, Nat.le_of_ble_eq_true rfl⟩ (g_readExpression (d := d) hp e1) ?_
  refine go_run 0 (F' := (93, [some (.ref 134), some (.int l1)], [], Wm pre post I1 A1)) rfl ?_
  refine go_run 2 (F' := (96, [some (.ref 134), some (.int l1)], [.int 62, .ref 134], Wm pre post I1 A1)) rfl ?_
  obtain ⟨I2, A2, v2, e2, hm⟩ := xb_inv hm
  refine go_call (m' := 141) (v := none) (h1 := Wm pre post I2 A2) rfl (by simp only [ie_step, ie_iv, List.drop, w_0 hp]; rfl) ⟨rfl, Nat.le_of_ble_eq_true rfl⟩ (g_want (d := d + 2) hp e2) ?_
  refine go_run 0 (F' := (99, [some (.ref 134), some (.int l1)], [], Wm pre post I2 A2)) rfl ?_
  refine go_run 2 (F' := (101, [some (.ref 134), some (.int l1)], [.int l1, .ref 134], Wm pre post I2 A2)) rfl ?_
  obtain ⟨I3, A3, v3, e3, hm⟩ := xb_inv hm
  refine go_call (m' := 147) (v := none) (h1 := Wm pre post I3 A3) rfl (by simp only [ie_step, ie_iv, List.drop, w_0 hp]; rfl) ⟨rfl, Nat.le_of_ble_eq_true rfl⟩ (g_readOther (d := d + 1) hp e3) ?_
  refine go_run 0 (F' := (104, [some (.ref 134), some (.int l1)], [], Wm pre post I3 A3)) rfl ?_
  refine go_run 1 (F' := (105, [some (.ref 134), some (.int l1)], [.ref 134], Wm pre post I3 A3)) rfl ?_
  refine go_gf rfl (w_0 hp) rfl ?_
  refine go_run 0 (F' := (108, [some (.ref 134), some (.int l1)], [.int (I3 7)], Wm pre post I3 A3)) rfl ?_
  refine go_step rfl rfl ?_
  by_cases q2 : I3 7 = 0
  · rw [if_pos q2] at hm ⊢
    refine go_run 0 (F' := (111, [some (.ref 134), some (.int l1)], [], Wm pre post I3 A3)) rfl ?_
    refine go_run 1 (F' := (112, [some (.ref 134), some (.int l1)], [.ref 134], Wm pre post I3 A3)) rfl ?_
    refine go_gf rfl (w_0 hp) rfl ?_
    refine go_run 1 (F' := (116, [some (.ref 134), some (.int l1)], [.ref 134, .int (I3 6)], Wm pre post I3 A3)) rfl ?_
    refine go_gf rfl (w_0 hp) rfl ?_
    refine go_run 0 (F' := (119, [some (.ref 134), some (.int l1)], [.int (I3 4), .int (I3 6)], Wm pre post I3 A3)) rfl ?_
    refine go_step rfl rfl ?_
    by_cases q3 : I3 6 < I3 4
    · rw [if_pos q3] at hm ⊢
      refine go_run 0 (F' := (123, [some (.ref 134), some (.int l1)], [], Wm pre post I3 A3)) rfl ?_
      refine go_run 2 (F' := (125, [some (.ref 134), some (.int l1)], [.ref 134, .ref 134], Wm pre post I3 A3)) rfl ?_
      obtain ⟨I4, A4, v4, e4, hm⟩ := xb_inv hm
      refine go_call (m' := 138) (v := some (.int v4)) (h1 := Wm pre post I4 A4) rfl (by simp only [ie_step, ie_iv, List.drop, w_0 hp]; rfl) ⟨rfl, Nat.le_of_ble_eq_true rfl⟩ (g_now (d := d + 2) hp e4) ?_
      refine go_run 0 (F' := (128, [some (.ref 134), some (.int l1)], [.int v4, .ref 134], Wm pre post I4 A4)) rfl ?_
      refine go_run 0 (F' := (128, [some (.ref 134), some (.int l1)], [.int v4, .ref 134], Wm pre post I4 A4)) rfl ?_
      refine go_call (m' := 150) (v := some (.int (ty_b (rd_var v4)))) (h1 := Wm pre post I4 A4) rfl rfl ⟨rfl, Nat.le_of_ble_eq_true rfl⟩ (rm_isVar _) ?_
      refine go_run 0 (F' := (131, [some (.ref 134), some (.int l1)], [.int (ty_b (rd_var v4)), .ref 134], Wm pre post I4 A4)) rfl ?_
      refine go_run 0 (F' := (131, [some (.ref 134), some (.int l1)], [.int (ty_b (rd_var v4)), .ref 134], Wm pre post I4 A4)) rfl ?_
      refine go_step rfl rfl ?_
      by_cases q4 : ty_b (rd_var v4) = 0
      · rw [if_pos q4] at hm ⊢
        refine go_run 0 (F' := (134, [some (.ref 134), some (.int l1)], [.ref 134], Wm pre post I4 A4)) rfl ?_
        refine go_run 2 (F' := (139, [some (.ref 134), some (.int l1)], [.int 1, .ref 134], Wm pre post I4 A4)) rfl ?_
        refine go_pf rfl (w_0 hp) (Nat.le_of_ble_eq_true rfl) rfl (wo_7 hp) ?_
        refine go_run 1 (F' := (143, [some (.ref 134), some (.int l1)], [.ref 134], Wm pre post (upd I4 7 1) A4)) rfl ?_
        refine go_gf rfl (w_0 hp) rfl ?_
        refine go_run 1 (F' := (149, [some (.ref 134), some (.int l1)], [], Wm pre post (upd I4 7 1) A4)) rfl ?_
        cases hm
        exact go_end rfl rfl
      · rw [if_neg q4] at hm ⊢
        refine go_run 0 (F' := (138, [some (.ref 134), some (.int l1)], [.ref 134], Wm pre post I4 A4)) rfl ?_
        refine go_run 1 (F' := (139, [some (.ref 134), some (.int l1)], [.int 0, .ref 134], Wm pre post I4 A4)) rfl ?_
        refine go_pf rfl (w_0 hp) (Nat.le_of_ble_eq_true rfl) rfl (wo_7 hp) ?_
        refine go_run 1 (F' := (143, [some (.ref 134), some (.int l1)], [.ref 134], Wm pre post (upd I4 7 0) A4)) rfl ?_
        refine go_gf rfl (w_0 hp) rfl ?_
        refine go_run 2 (F' := (151, [some (.ref 134), some (.int l1)], [.ref 134], Wm pre post (upd I4 7 0) A4)) rfl ?_
        refine go_gf rfl (w_0 hp) rfl ?_
        refine go_run 2 (F' := (156, [some (.ref 134), some (.int l1)], [.ref 134, .int l1, .ref 140], Wm pre post (upd I4 7 0) A4)) rfl ?_
        obtain ⟨I5, A5, v5, e5, hm⟩ := xb_inv hm
        refine go_call (m' := 138) (v := some (.int v5)) (h1 := Wm pre post I5 A5) rfl (by simp only [ie_step, ie_iv, List.drop, w_0 hp]; rfl) ⟨rfl, Nat.le_of_ble_eq_true rfl⟩ (g_now (d := d + 2) hp e5) ?_
        refine go_run 0 (F' := (159, [some (.ref 134), some (.int l1)], [.int v5, .int l1, .ref 140], Wm pre post I5 A5)) rfl ?_
        refine go_run 2 (F' := (162, [some (.ref 134), some (.int l1)], [.int (v5 - 119), .int l1, .ref 140], Wm pre post I5 A5)) rfl ?_
        refine go_iast rfl (w_6 hp) b1 (ws_6 hp) ?_
        refine go_run 2 (F' := (165, [some (.ref 134), some (.int l1)], [.ref 134, .ref 134], Wm pre post I5 (upA A5 6 (upd (A5 6) (Int32.toNatClampNeg l1) (v5 - 119))))) rfl ?_
        refine go_gf rfl (w_0 hp) rfl ?_
        refine go_run 2 (F' := (170, [some (.ref 134), some (.int l1)], [.int ((I5 6) + 1), .ref 134], Wm pre post I5 (upA A5 6 (upd (A5 6) (Int32.toNatClampNeg l1) (v5 - 119))))) rfl ?_
        refine go_pf rfl (w_0 hp) (Nat.le_of_ble_eq_true rfl) rfl (wo_6 hp) ?_
        refine go_run 2 (F' := (176, [some (.ref 134), some (.int l1)], [.int 59, .ref 134], Wm pre post (upd I5 6 ((I5 6) + 1)) (upA A5 6 (upd (A5 6) (Int32.toNatClampNeg l1) (v5 - 119))))) rfl ?_
        obtain ⟨I6, A6, v6, e6, hm⟩ := xb_inv hm
        refine go_call (m' := 141) (v := none) (h1 := Wm pre post I6 A6) rfl (by simp only [ie_step, ie_iv, List.drop, w_0 hp]; rfl) ⟨rfl, Nat.le_of_ble_eq_true rfl⟩ (g_want (d := d + 2) hp e6) ?_
        refine go_run 0 (F' := (179, [some (.ref 134), some (.int l1)], [], Wm pre post I6 A6)) rfl ?_
        refine go_run 0 (F' := (179, [some (.ref 134), some (.int l1)], [], Wm pre post I6 A6)) rfl ?_
        cases hm
        exact go_end rfl rfl
    · rw [if_neg q3] at hm ⊢
      refine go_run 0 (F' := (122, [some (.ref 134), some (.int l1)], [], Wm pre post I3 A3)) rfl ?_
      refine go_run 0 (F' := (122, [some (.ref 134), some (.int l1)], [], Wm pre post I3 A3)) rfl ?_
      cases hm
      exact go_end rfl rfl
  · rw [if_neg q2] at hm ⊢
    refine go_run 0 (F' := (122, [some (.ref 134), some (.int l1)], [], Wm pre post I3 A3)) rfl ?_
    refine go_run 0 (F' := (122, [some (.ref 134), some (.int l1)], [], Wm pre post I3 A3)) rfl ?_
    cases hm
    exact go_end rfl rfl
def x_readValue (n : Nat) (I : Nat → Int32) (A : Nat → Nat → Int32) (a1 : Int32) : Option xR := (xb (x_now I A) fun I1 A1 v1 => (if ty_b (rd_var v1) = 0 then (x_readValue_81  n I1 A1 a1) else (if I1 4 ≤ (I1 6) + 1 then (x_readValue_81  n I1 A1 a1) else (if ib ((I1 6) + 1) 200 then (if (A1 2) (Int32.toNatClampNeg ((I1 6) + 1)) = 58 then (if ib a1 200 then (xb (x_now I1 (upA A1 3 (upd (A1 3) (Int32.toNatClampNeg a1) 1))) fun I2 A2 v2 => (xb (x_readExpression n (upd I2 6 ((I2 6) + 2)) (upA A2 6 (upd (A2 6) (Int32.toNatClampNeg a1) (v2 - 119))) a1) fun I3 A3 v3 => (xb (x_want I3 A3 59) fun I4 A4 v4 => (some (I4, A4, 0))))) else none) else (x_readValue_81  n I1 A1 a1)) else none))))
theorem g_readValue {X : ie_X} {d : Nat} {pre post : ie_H} (hp : pre.length = 134) {n : Nat} {I : Nat → Int32} {A : Nat → Nat → Int32} {a1 : Int32} {I' : Nat → Int32} {A' : Nat → Nat → Int32} {r : Int32} (hm : x_readValue n I A a1 = some (I', A', r)) : Go X (d + 3) 152 (0, ie_en 152 [.ref 134, .int a1], [], Wm pre post I A) (.inl none) (Wm pre post I' A') := by
  unfold x_readValue at hm
  refine go_run 0 (F' := (0, [some (.ref 134), some (.int a1)], [], Wm pre post I A)) rfl ?_
  refine go_run 1 (F' := (1, [some (.ref 134), some (.int a1)], [.ref 134], Wm pre post I A)) rfl ?_
  obtain ⟨I1, A1, v1, e1, hm⟩ := xb_inv hm
  refine go_call (m' := 138) (v := some (.int v1)) (h1 := Wm pre post I1 A1) rfl (by simp only [ie_step, ie_iv, List.drop, w_0 hp]; rfl) ⟨rfl, Nat.le_of_ble_eq_true rfl⟩ (g_now (d := d + 2) hp e1) ?_
  refine go_run 0 (F' := (4, [some (.ref 134), some (.int a1)], [.int v1], Wm pre post I1 A1)) rfl ?_
  refine go_run 0 (F' := (4, [some (.ref 134), some (.int a1)], [.int v1], Wm pre post I1 A1)) rfl ?_
  refine go_call (m' := 150) (v := some (.int (ty_b (rd_var v1)))) (h1 := Wm pre post I1 A1) rfl rfl ⟨rfl, Nat.le_of_ble_eq_true rfl⟩ (rm_isVar _) ?_
  refine go_run 0 (F' := (7, [some (.ref 134), some (.int a1)], [.int (ty_b (rd_var v1))], Wm pre post I1 A1)) rfl ?_
  refine go_run 0 (F' := (7, [some (.ref 134), some (.int a1)], [.int (ty_b (rd_var v1))], Wm pre post I1 A1)) rfl ?_
  refine go_step rfl rfl ?_
  by_cases q1 : ty_b (rd_var v1) = 0
  · rw [if_pos q1] at hm ⊢
    refine go_run 0 (F' := (81, [some (.ref 134), some (.int a1)], [], Wm pre post I1 A1)) rfl ?_
    refine go_run 0 (F' := (81, [some (.ref 134), some (.int a1)], [], Wm pre post I1 A1)) rfl ?_
    exact g_readValue_81 hp  hm
  · rw [if_neg q1] at hm ⊢
    refine go_run 0 (F' := (10, [some (.ref 134), some (.int a1)], [], Wm pre post I1 A1)) rfl ?_
    refine go_run 1 (F' := (11, [some (.ref 134), some (.int a1)], [.ref 134], Wm pre post I1 A1)) rfl ?_
    refine go_gf rfl (w_0 hp) rfl ?_
    refine go_run 3 (F' := (17, [some (.ref 134), some (.int a1)], [.ref 134, .int ((I1 6) + 1)], Wm pre post I1 A1)) rfl ?_
    refine go_gf rfl (w_0 hp) rfl ?_
    refine go_run 0 (F' := (20, [some (.ref 134), some (.int a1)], [.int (I1 4), .int ((I1 6) + 1)], Wm pre post I1 A1)) rfl ?_
    refine go_step rfl rfl ?_
    by_cases q2 : I1 4 ≤ (I1 6) + 1
    · rw [if_pos q2] at hm ⊢
      refine go_run 0 (F' := (81, [some (.ref 134), some (.int a1)], [], Wm pre post I1 A1)) rfl ?_
      refine go_run 0 (F' := (81, [some (.ref 134), some (.int a1)], [], Wm pre post I1 A1)) rfl ?_
      exact g_readValue_81 hp  hm
    · rw [if_neg q2] at hm ⊢
      refine go_run 0 (F' := (23, [some (.ref 134), some (.int a1)], [], Wm pre post I1 A1)) rfl ?_
      refine go_run 1 (F' := (24, [some (.ref 134), some (.int a1)], [.ref 134], Wm pre post I1 A1)) rfl ?_
      refine go_gf rfl (w_0 hp) rfl ?_
      refine go_run 1 (F' := (28, [some (.ref 134), some (.int a1)], [.ref 134, .ref 136], Wm pre post I1 A1)) rfl ?_
      refine go_gf rfl (w_0 hp) rfl ?_
      refine go_run 2 (F' := (33, [some (.ref 134), some (.int a1)], [.int ((I1 6) + 1), .ref 136], Wm pre post I1 A1)) rfl ?_
      obtain ⟨b3, hm⟩ := gd hm
      refine go_iald rfl (by decide) (w_2 hp) b3 rfl ?_
      refine go_run 1 (F' := (36, [some (.ref 134), some (.int a1)], [.int 58, .int ((A1 2) (Int32.toNatClampNeg ((I1 6) + 1)))], Wm pre post I1 A1)) rfl ?_
      refine go_step rfl rfl ?_
      by_cases q4 : (A1 2) (Int32.toNatClampNeg ((I1 6) + 1)) = 58
      · rw [if_pos q4] at hm ⊢
        refine go_run 0 (F' := (39, [some (.ref 134), some (.int a1)], [], Wm pre post I1 A1)) rfl ?_
        refine go_run 1 (F' := (40, [some (.ref 134), some (.int a1)], [.ref 134], Wm pre post I1 A1)) rfl ?_
        refine go_gf rfl (w_0 hp) rfl ?_
        refine go_run 2 (F' := (45, [some (.ref 134), some (.int a1)], [.int 1, .int a1, .ref 137], Wm pre post I1 A1)) rfl ?_
        obtain ⟨b5, hm⟩ := gd hm
        refine go_iast rfl (w_3 hp) b5 (ws_3 hp) ?_
        refine go_run 1 (F' := (47, [some (.ref 134), some (.int a1)], [.ref 134], Wm pre post I1 (upA A1 3 (upd (A1 3) (Int32.toNatClampNeg a1) 1)))) rfl ?_
        refine go_gf rfl (w_0 hp) rfl ?_
        refine go_run 2 (F' := (52, [some (.ref 134), some (.int a1)], [.ref 134, .int a1, .ref 140], Wm pre post I1 (upA A1 3 (upd (A1 3) (Int32.toNatClampNeg a1) 1)))) rfl ?_
        obtain ⟨I2, A2, v2, e2, hm⟩ := xb_inv hm
        refine go_call (m' := 138) (v := some (.int v2)) (h1 := Wm pre post I2 A2) rfl (by simp only [ie_step, ie_iv, List.drop, w_0 hp]; rfl) ⟨rfl, Nat.le_of_ble_eq_true rfl⟩ (g_now (d := d + 2) hp e2) ?_
        refine go_run 0 (F' := (55, [some (.ref 134), some (.int a1)], [.int v2, .int a1, .ref 140], Wm pre post I2 A2)) rfl ?_
        refine go_run 2 (F' := (58, [some (.ref 134), some (.int a1)], [.int (v2 - 119), .int a1, .ref 140], Wm pre post I2 A2)) rfl ?_
        refine go_iast rfl (w_6 hp) b5 (ws_6 hp) ?_
        refine go_run 2 (F' := (61, [some (.ref 134), some (.int a1)], [.ref 134, .ref 134], Wm pre post I2 (upA A2 6 (upd (A2 6) (Int32.toNatClampNeg a1) (v2 - 119))))) rfl ?_
        refine go_gf rfl (w_0 hp) rfl ?_
        refine go_run 2 (F' := (66, [some (.ref 134), some (.int a1)], [.int ((I2 6) + 2), .ref 134], Wm pre post I2 (upA A2 6 (upd (A2 6) (Int32.toNatClampNeg a1) (v2 - 119))))) rfl ?_
        refine go_pf rfl (w_0 hp) (Nat.le_of_ble_eq_true rfl) rfl (wo_6 hp) ?_
        refine go_run 2 (F' := (71, [some (.ref 134), some (.int a1)], [.int a1, .ref 134], Wm pre post (upd I2 6 ((I2 6) + 2)) (upA A2 6 (upd (A2 6) (Int32.toNatClampNeg a1) (v2 - 119))))) rfl ?_
        obtain ⟨I3, A3, v3, e3, hm⟩ := xb_inv hm
        refine go_call (m' := 148) (v := none) (h1 := Wm pre post I3 A3) rfl (by simp only [ie_step, ie_iv, List.drop, w_0 hp]; rfl) ⟨rfl, Nat.le_of_ble_eq_true rfl⟩ (g_readExpression (d := d) hp e3) ?_
        refine go_run 0 (F' := (74, [some (.ref 134), some (.int a1)], [], Wm pre post I3 A3)) rfl ?_
        refine go_run 2 (F' := (77, [some (.ref 134), some (.int a1)], [.int 59, .ref 134], Wm pre post I3 A3)) rfl ?_
        obtain ⟨I4, A4, v4, e4, hm⟩ := xb_inv hm
        refine go_call (m' := 141) (v := none) (h1 := Wm pre post I4 A4) rfl (by simp only [ie_step, ie_iv, List.drop, w_0 hp]; rfl) ⟨rfl, Nat.le_of_ble_eq_true rfl⟩ (g_want (d := d + 2) hp e4) ?_
        refine go_run 0 (F' := (80, [some (.ref 134), some (.int a1)], [], Wm pre post I4 A4)) rfl ?_
        refine go_run 0 (F' := (80, [some (.ref 134), some (.int a1)], [], Wm pre post I4 A4)) rfl ?_
        cases hm
        exact go_end rfl rfl
      · rw [if_neg q4] at hm ⊢
        refine go_run 0 (F' := (81, [some (.ref 134), some (.int a1)], [], Wm pre post I1 A1)) rfl ?_
        refine go_run 0 (F' := (81, [some (.ref 134), some (.int a1)], [], Wm pre post I1 A1)) rfl ?_
        exact g_readValue_81 hp  hm
def x_readStatement_151 (n : Nat) (I : Nat → Int32) (A : Nat → Nat → Int32) (l1 l2 : Int32) : Option xR := (if l2 = 63 then (if ib l1 200 then (if I 9 = 6 then (some (upd I 7 1, upA A 3 (upd (A 3) (Int32.toNatClampNeg l1) 4), 0)) else (xb (x_readExpression n (upd (upd I 7 0) 6 ((I 6) + 1)) (upA A 3 (upd (A 3) (Int32.toNatClampNeg l1) 4)) l1) fun I1 A1 v1 => (xb (x_readBegin I1 A1 l1 1) fun I2 A2 v2 => (some (I2, A2, 0))))) else none) else (if ib l1 200 then (if I 9 = 6 then (some (upd I 7 1, upA A 3 (upd (A 3) (Int32.toNatClampNeg l1) 5), 0)) else (xb (x_readExpression n (upd (upd I 7 0) 6 ((I 6) + 1)) (upA A 3 (upd (A 3) (Int32.toNatClampNeg l1) 5)) l1) fun I3 A3 v3 => (xb (x_readBegin I3 A3 l1 1) fun I4 A4 v4 => (some (I4, A4, 0))))) else none))
theorem g_readStatement_151 {X : ie_X} {d : Nat} {pre post : ie_H} (hp : pre.length = 134) {n : Nat} {I : Nat → Int32} {A : Nat → Nat → Int32} {l1 l2 : Int32} {I' : Nat → Int32} {A' : Nat → Nat → Int32} {r : Int32} (hm : x_readStatement_151 n I A l1 l2 = some (I', A', r)) : Go X (d + 4) 143 (151, [some (.ref 134), some (.int l1), some (.int l2)], [], Wm pre post I A) (.inl none) (Wm pre post I' A') := by
  unfold x_readStatement_151 at hm
  refine go_run 0 (F' := (151, [some (.ref 134), some (.int l1), some (.int l2)], [], Wm pre post I A)) rfl ?_
  refine go_run 1 (F' := (152, [some (.ref 134), some (.int l1), some (.int l2)], [.ref 134], Wm pre post I A)) rfl ?_
  refine go_gf rfl (w_0 hp) rfl ?_
  refine go_run 3 (F' := (159, [some (.ref 134), some (.int l1), some (.int l2)], [.int 63, .int l2, .int l1, .ref 137], Wm pre post I A)) rfl ?_
  refine go_step rfl rfl ?_
  by_cases q1 : l2 = 63
  · rw [if_pos q1] at hm ⊢
    refine go_run 0 (F' := (162, [some (.ref 134), some (.int l1), some (.int l2)], [.int l1, .ref 137], Wm pre post I A)) rfl ?_
    refine go_run 2 (F' := (167, [some (.ref 134), some (.int l1), some (.int l2)], [.int 4, .int l1, .ref 137], Wm pre post I A)) rfl ?_
    obtain ⟨b2, hm⟩ := gd hm
    refine go_iast rfl (w_3 hp) b2 (ws_3 hp) ?_
    refine go_run 2 (F' := (170, [some (.ref 134), some (.int l1), some (.int l2)], [.ref 134, .ref 134], Wm pre post I (upA A 3 (upd (A 3) (Int32.toNatClampNeg l1) 4)))) rfl ?_
    refine go_gf rfl (w_0 hp) rfl ?_
    refine go_run 1 (F' := (175, [some (.ref 134), some (.int l1), some (.int l2)], [.int 6, .int (I 9), .ref 134], Wm pre post I (upA A 3 (upd (A 3) (Int32.toNatClampNeg l1) 4)))) rfl ?_
    refine go_step rfl rfl ?_
    by_cases q3 : I 9 = 6
    · rw [if_pos q3] at hm ⊢
      refine go_run 0 (F' := (178, [some (.ref 134), some (.int l1), some (.int l2)], [.ref 134], Wm pre post I (upA A 3 (upd (A 3) (Int32.toNatClampNeg l1) 4)))) rfl ?_
      refine go_run 2 (F' := (183, [some (.ref 134), some (.int l1), some (.int l2)], [.int 1, .ref 134], Wm pre post I (upA A 3 (upd (A 3) (Int32.toNatClampNeg l1) 4)))) rfl ?_
      refine go_pf rfl (w_0 hp) (Nat.le_of_ble_eq_true rfl) rfl (wo_7 hp) ?_
      refine go_run 1 (F' := (187, [some (.ref 134), some (.int l1), some (.int l2)], [.ref 134], Wm pre post (upd I 7 1) (upA A 3 (upd (A 3) (Int32.toNatClampNeg l1) 4)))) rfl ?_
      refine go_gf rfl (w_0 hp) rfl ?_
      refine go_run 1 (F' := (193, [some (.ref 134), some (.int l1), some (.int l2)], [], Wm pre post (upd I 7 1) (upA A 3 (upd (A 3) (Int32.toNatClampNeg l1) 4)))) rfl ?_
      cases hm
      exact go_end rfl rfl
    · rw [if_neg q3] at hm ⊢
      refine go_run 0 (F' := (182, [some (.ref 134), some (.int l1), some (.int l2)], [.ref 134], Wm pre post I (upA A 3 (upd (A 3) (Int32.toNatClampNeg l1) 4)))) rfl ?_
      refine go_run 1 (F' := (183, [some (.ref 134), some (.int l1), some (.int l2)], [.int 0, .ref 134], Wm pre post I (upA A 3 (upd (A 3) (Int32.toNatClampNeg l1) 4)))) rfl ?_
      refine go_pf rfl (w_0 hp) (Nat.le_of_ble_eq_true rfl) rfl (wo_7 hp) ?_
      refine go_run 1 (F' := (187, [some (.ref 134), some (.int l1), some (.int l2)], [.ref 134], Wm pre post (upd I 7 0) (upA A 3 (upd (A 3) (Int32.toNatClampNeg l1) 4)))) rfl ?_
      refine go_gf rfl (w_0 hp) rfl ?_
      refine go_run 3 (F' := (196, [some (.ref 134), some (.int l1), some (.int l2)], [.ref 134, .ref 134], Wm pre post (upd I 7 0) (upA A 3 (upd (A 3) (Int32.toNatClampNeg l1) 4)))) rfl ?_
      refine go_gf rfl (w_0 hp) rfl ?_
      refine go_run 2 (F' := (201, [some (.ref 134), some (.int l1), some (.int l2)], [.int ((I 6) + 1), .ref 134], Wm pre post (upd I 7 0) (upA A 3 (upd (A 3) (Int32.toNatClampNeg l1) 4)))) rfl ?_
      refine go_pf rfl (w_0 hp) (Nat.le_of_ble_eq_true rfl) rfl (wo_6 hp) ?_
      refine go_run 2 (F' := (206, [some (.ref 134), some (.int l1), some (.int l2)], [.int l1, .ref 134], Wm pre post (upd (upd I 7 0) 6 ((I 6) + 1)) (upA A 3 (upd (A 3) (Int32.toNatClampNeg l1) 4)))) rfl ?_
      obtain ⟨I1, A1, v1, e1, hm⟩ := xb_inv hm
      refine go_call (m' := 148) (v := none) (h1 := Wm pre post I1 A1) rfl (by simp only [ie_step, ie_iv, List.drop, w_0 hp]; rfl) ⟨rfl, Nat.le_of_ble_eq_true rfl⟩ (g_readExpression (d := d + 1) hp e1) ?_
      refine go_run 0 (F' := (209, [some (.ref 134), some (.int l1), some (.int l2)], [], Wm pre post I1 A1)) rfl ?_
      refine go_run 3 (F' := (212, [some (.ref 134), some (.int l1), some (.int l2)], [.int 1, .int l1, .ref 134], Wm pre post I1 A1)) rfl ?_
      obtain ⟨I2, A2, v2, e2, hm⟩ := xb_inv hm
      refine go_call (m' := 140) (v := none) (h1 := Wm pre post I2 A2) rfl (by simp only [ie_step, ie_iv, List.drop, w_0 hp]; rfl) ⟨rfl, Nat.le_of_ble_eq_true rfl⟩ (g_readBegin (d := d + 2) hp e2) ?_
      refine go_run 0 (F' := (215, [some (.ref 134), some (.int l1), some (.int l2)], [], Wm pre post I2 A2)) rfl ?_
      refine go_run 1 (F' := (223, [some (.ref 134), some (.int l1), some (.int l2)], [], Wm pre post I2 A2)) rfl ?_
      cases hm
      exact go_end rfl rfl
  · rw [if_neg q1] at hm ⊢
    refine go_run 0 (F' := (166, [some (.ref 134), some (.int l1), some (.int l2)], [.int l1, .ref 137], Wm pre post I A)) rfl ?_
    refine go_run 1 (F' := (167, [some (.ref 134), some (.int l1), some (.int l2)], [.int 5, .int l1, .ref 137], Wm pre post I A)) rfl ?_
    obtain ⟨b4, hm⟩ := gd hm
    refine go_iast rfl (w_3 hp) b4 (ws_3 hp) ?_
    refine go_run 2 (F' := (170, [some (.ref 134), some (.int l1), some (.int l2)], [.ref 134, .ref 134], Wm pre post I (upA A 3 (upd (A 3) (Int32.toNatClampNeg l1) 5)))) rfl ?_
    refine go_gf rfl (w_0 hp) rfl ?_
    refine go_run 1 (F' := (175, [some (.ref 134), some (.int l1), some (.int l2)], [.int 6, .int (I 9), .ref 134], Wm pre post I (upA A 3 (upd (A 3) (Int32.toNatClampNeg l1) 5)))) rfl ?_
    refine go_step rfl rfl ?_
    by_cases q5 : I 9 = 6
    · rw [if_pos q5] at hm ⊢
      refine go_run 0 (F' := (178, [some (.ref 134), some (.int l1), some (.int l2)], [.ref 134], Wm pre post I (upA A 3 (upd (A 3) (Int32.toNatClampNeg l1) 5)))) rfl ?_
      refine go_run 2 (F' := (183, [some (.ref 134), some (.int l1), some (.int l2)], [.int 1, .ref 134], Wm pre post I (upA A 3 (upd (A 3) (Int32.toNatClampNeg l1) 5)))) rfl ?_
      refine go_pf rfl (w_0 hp) (Nat.le_of_ble_eq_true rfl) rfl (wo_7 hp) ?_
      refine go_run 1 (F' := (187, [some (.ref 134), some (.int l1), some (.int l2)], [.ref 134], Wm pre post (upd I 7 1) (upA A 3 (upd (A 3) (Int32.toNatClampNeg l1) 5)))) rfl ?_
      refine go_gf rfl (w_0 hp) rfl ?_
      refine go_run 1 (F' := (193, [some (.ref 134), some (.int l1), some (.int l2)], [], Wm pre post (upd I 7 1) (upA A 3 (upd (A 3) (Int32.toNatClampNeg l1) 5)))) rfl ?_
      cases hm
      exact go_end rfl rfl
    · rw [if_neg q5] at hm ⊢
      refine go_run 0 (F' := (182, [some (.ref 134), some (.int l1), some (.int l2)], [.ref 134], Wm pre post I (upA A 3 (upd (A 3) (Int32.toNatClampNeg l1) 5)))) rfl ?_
      refine go_run 1 (F' := (183, [some (.ref 134), some (.int l1), some (.int l2)], [.int 0, .ref 134], Wm pre post I (upA A 3 (upd (A 3) (Int32.toNatClampNeg l1) 5)))) rfl ?_
      refine go_pf rfl (w_0 hp) (Nat.le_of_ble_eq_true rfl) rfl (wo_7 hp) ?_
      refine go_run 1 (F' := (187, [some (.ref 134), some (.int l1), some (.int l2)], [.ref 134], Wm pre post (upd I 7 0) (upA A 3 (upd (A 3) (Int32.toNatClampNeg l1) 5)))) rfl ?_
      refine go_gf rfl (w_0 hp) rfl ?_
      refine go_run 3 (F' := (196, [some (.ref 134), some (.int l1), some (.int l2)], [.ref 134, .ref 134], Wm pre post (upd I 7 0) (upA A 3 (upd (A 3) (Int32.toNatClampNeg l1) 5)))) rfl ?_
      refine go_gf rfl (w_0 hp) rfl ?_
      refine go_run 2 (F' := (201, [some (.ref 134), some (.int l1), some (.int l2)], [.int ((I 6) + 1), .ref 134], Wm pre post (upd I 7 0) (upA A 3 (upd (A 3) (Int32.toNatClampNeg l1) 5)))) rfl ?_
      refine go_pf rfl (w_0 hp) (Nat.le_of_ble_eq_true rfl) rfl (wo_6 hp) ?_
      refine go_run 2 (F' := (206, [some (.ref 134), some (.int l1), some (.int l2)], [.int l1, .ref 134], Wm pre post (upd (upd I 7 0) 6 ((I 6) + 1)) (upA A 3 (upd (A 3) (Int32.toNatClampNeg l1) 5)))) rfl ?_
      obtain ⟨I3, A3, v3, e3, hm⟩ := xb_inv hm
      refine go_call (m' := 148) (v := none) (h1 := Wm pre post I3 A3) rfl (by simp only [ie_step, ie_iv, List.drop, w_0 hp]; rfl) ⟨rfl, Nat.le_of_ble_eq_true rfl⟩ (g_readExpression (d := d + 1) hp e3) ?_
      refine go_run 0 (F' := (209, [some (.ref 134), some (.int l1), some (.int l2)], [], Wm pre post I3 A3)) rfl ?_
      refine go_run 3 (F' := (212, [some (.ref 134), some (.int l1), some (.int l2)], [.int 1, .int l1, .ref 134], Wm pre post I3 A3)) rfl ?_
      obtain ⟨I4, A4, v4, e4, hm⟩ := xb_inv hm
      refine go_call (m' := 140) (v := none) (h1 := Wm pre post I4 A4) rfl (by simp only [ie_step, ie_iv, List.drop, w_0 hp]; rfl) ⟨rfl, Nat.le_of_ble_eq_true rfl⟩ (g_readBegin (d := d + 2) hp e4) ?_
      refine go_run 0 (F' := (215, [some (.ref 134), some (.int l1), some (.int l2)], [], Wm pre post I4 A4)) rfl ?_
      refine go_run 1 (F' := (223, [some (.ref 134), some (.int l1), some (.int l2)], [], Wm pre post I4 A4)) rfl ?_
      cases hm
      exact go_end rfl rfl
def x_readStatement (n : Nat) (I : Nat → Int32) (A : Nat → Nat → Int32) : Option xR := (xb (x_now I A) fun I1 A1 v1 => (if ty_b (rd_pty v1) = 0 then (some (upd I1 7 1, A1, 0)) else (if I1 8 = 40 then (some (upd I1 7 1, A1, 0)) else (if ib (I1 5) 200 then (xb (x_now (upd (upd (upd I1 7 0) 5 ((I1 5) + 1)) 8 ((I1 8) + 1)) (upA A1 9 (upd (A1 9) (Int32.toNatClampNeg (I1 5)) (I1 6)))) fun I2 A2 v2 => (if (I2 6) + 1 < I2 4 then (xb (x_now (upd I2 6 ((I2 6) + 1)) (upA (upA (upA A2 4 (upd (A2 4) (Int32.toNatClampNeg (I1 5)) (v2 - 65))) 5 (upd (A2 5) (Int32.toNatClampNeg (I1 5)) (-1))) 14 (upd (A2 14) (Int32.toNatClampNeg (I1 5)) 0))) fun I3 A3 v3 => (if v3 = 33 then (xb (x_readTell I3 A3 (I1 5)) fun I4 A4 v4 => (some (I4, A4, 0))) else (if v3 = 63 then (x_readStatement_151  n I3 A3 (I1 5) v3) else (if v3 = 64 then (x_readStatement_151  n I3 A3 (I1 5) v3) else (xb (x_readValue n I3 A3 (I1 5)) fun I5 A5 v5 => (some (I5, A5, 0))))))) else (some (upd I2 6 ((I2 6) + 1), upA (upA (upA A2 4 (upd (A2 4) (Int32.toNatClampNeg (I1 5)) (v2 - 65))) 5 (upd (A2 5) (Int32.toNatClampNeg (I1 5)) (-1))) 14 (upd (A2 14) (Int32.toNatClampNeg (I1 5)) 0), 0)))) else none))))
theorem g_readStatement {X : ie_X} {d : Nat} {pre post : ie_H} (hp : pre.length = 134) {n : Nat} {I : Nat → Int32} {A : Nat → Nat → Int32} {I' : Nat → Int32} {A' : Nat → Nat → Int32} {r : Int32} (hm : x_readStatement n I A = some (I', A', r)) : Go X (d + 4) 143 (0, ie_en 143 [.ref 134], [], Wm pre post I A) (.inl none) (Wm pre post I' A') := by
  unfold x_readStatement at hm
  refine go_run 0 (F' := (0, [some (.ref 134), none, none], [], Wm pre post I A)) rfl ?_
  refine go_run 2 (F' := (2, [some (.ref 134), none, none], [.ref 134, .ref 134], Wm pre post I A)) rfl ?_
  obtain ⟨I1, A1, v1, e1, hm⟩ := xb_inv hm
  refine go_call (m' := 138) (v := some (.int v1)) (h1 := Wm pre post I1 A1) rfl (by simp only [ie_step, ie_iv, List.drop, w_0 hp]; rfl) ⟨rfl, Nat.le_of_ble_eq_true rfl⟩ (g_now (d := d + 3) hp e1) ?_
  refine go_run 0 (F' := (5, [some (.ref 134), none, none], [.int v1, .ref 134], Wm pre post I1 A1)) rfl ?_
  refine go_run 0 (F' := (5, [some (.ref 134), none, none], [.int v1, .ref 134], Wm pre post I1 A1)) rfl ?_
  refine go_call (m' := 144) (v := some (.int (ty_b (rd_pty v1)))) (h1 := Wm pre post I1 A1) rfl rfl ⟨rfl, Nat.le_of_ble_eq_true rfl⟩ (rm_isPty _) ?_
  refine go_run 0 (F' := (8, [some (.ref 134), none, none], [.int (ty_b (rd_pty v1)), .ref 134], Wm pre post I1 A1)) rfl ?_
  refine go_run 0 (F' := (8, [some (.ref 134), none, none], [.int (ty_b (rd_pty v1)), .ref 134], Wm pre post I1 A1)) rfl ?_
  refine go_step rfl rfl ?_
  by_cases q1 : ty_b (rd_pty v1) = 0
  · rw [if_pos q1] at hm ⊢
    refine go_run 0 (F' := (20, [some (.ref 134), none, none], [.ref 134], Wm pre post I1 A1)) rfl ?_
    refine go_run 2 (F' := (25, [some (.ref 134), none, none], [.int 1, .ref 134], Wm pre post I1 A1)) rfl ?_
    refine go_pf rfl (w_0 hp) (Nat.le_of_ble_eq_true rfl) rfl (wo_7 hp) ?_
    refine go_run 1 (F' := (29, [some (.ref 134), none, none], [.ref 134], Wm pre post (upd I1 7 1) A1)) rfl ?_
    refine go_gf rfl (w_0 hp) rfl ?_
    refine go_run 1 (F' := (35, [some (.ref 134), none, none], [], Wm pre post (upd I1 7 1) A1)) rfl ?_
    cases hm
    exact go_end rfl rfl
  · rw [if_neg q1] at hm ⊢
    refine go_run 0 (F' := (11, [some (.ref 134), none, none], [.ref 134], Wm pre post I1 A1)) rfl ?_
    refine go_run 1 (F' := (12, [some (.ref 134), none, none], [.ref 134, .ref 134], Wm pre post I1 A1)) rfl ?_
    refine go_gf rfl (w_0 hp) rfl ?_
    refine go_run 1 (F' := (17, [some (.ref 134), none, none], [.int 40, .int (I1 8), .ref 134], Wm pre post I1 A1)) rfl ?_
    refine go_step rfl rfl ?_
    by_cases q2 : I1 8 = 40
    · rw [if_pos q2] at hm ⊢
      refine go_run 0 (F' := (20, [some (.ref 134), none, none], [.ref 134], Wm pre post I1 A1)) rfl ?_
      refine go_run 2 (F' := (25, [some (.ref 134), none, none], [.int 1, .ref 134], Wm pre post I1 A1)) rfl ?_
      refine go_pf rfl (w_0 hp) (Nat.le_of_ble_eq_true rfl) rfl (wo_7 hp) ?_
      refine go_run 1 (F' := (29, [some (.ref 134), none, none], [.ref 134], Wm pre post (upd I1 7 1) A1)) rfl ?_
      refine go_gf rfl (w_0 hp) rfl ?_
      refine go_run 1 (F' := (35, [some (.ref 134), none, none], [], Wm pre post (upd I1 7 1) A1)) rfl ?_
      cases hm
      exact go_end rfl rfl
    · rw [if_neg q2] at hm ⊢
      refine go_run 0 (F' := (24, [some (.ref 134), none, none], [.ref 134], Wm pre post I1 A1)) rfl ?_
      refine go_run 1 (F' := (25, [some (.ref 134), none, none], [.int 0, .ref 134], Wm pre post I1 A1)) rfl ?_
      refine go_pf rfl (w_0 hp) (Nat.le_of_ble_eq_true rfl) rfl (wo_7 hp) ?_
      refine go_run 1 (F' := (29, [some (.ref 134), none, none], [.ref 134], Wm pre post (upd I1 7 0) A1)) rfl ?_
      refine go_gf rfl (w_0 hp) rfl ?_
      refine go_run 2 (F' := (37, [some (.ref 134), none, none], [.ref 134], Wm pre post (upd I1 7 0) A1)) rfl ?_
      refine go_gf rfl (w_0 hp) rfl ?_
      refine go_run 3 (F' := (43, [some (.ref 134), some (.int (I1 5)), none], [.ref 134, .ref 134], Wm pre post (upd I1 7 0) A1)) rfl ?_
      refine go_gf rfl (w_0 hp) rfl ?_
      refine go_run 2 (F' := (48, [some (.ref 134), some (.int (I1 5)), none], [.int ((I1 5) + 1), .ref 134], Wm pre post (upd I1 7 0) A1)) rfl ?_
      refine go_pf rfl (w_0 hp) (Nat.le_of_ble_eq_true rfl) rfl (wo_5 hp) ?_
      refine go_run 2 (F' := (53, [some (.ref 134), some (.int (I1 5)), none], [.ref 134, .ref 134], Wm pre post (upd (upd I1 7 0) 5 ((I1 5) + 1)) A1)) rfl ?_
      refine go_gf rfl (w_0 hp) rfl ?_
      refine go_run 2 (F' := (58, [some (.ref 134), some (.int (I1 5)), none], [.int ((I1 8) + 1), .ref 134], Wm pre post (upd (upd I1 7 0) 5 ((I1 5) + 1)) A1)) rfl ?_
      refine go_pf rfl (w_0 hp) (Nat.le_of_ble_eq_true rfl) rfl (wo_8 hp) ?_
      refine go_run 1 (F' := (62, [some (.ref 134), some (.int (I1 5)), none], [.ref 134], Wm pre post (upd (upd (upd I1 7 0) 5 ((I1 5) + 1)) 8 ((I1 8) + 1)) A1)) rfl ?_
      refine go_gf rfl (w_0 hp) rfl ?_
      refine go_run 2 (F' := (67, [some (.ref 134), some (.int (I1 5)), none], [.ref 134, .int (I1 5), .ref 143], Wm pre post (upd (upd (upd I1 7 0) 5 ((I1 5) + 1)) 8 ((I1 8) + 1)) A1)) rfl ?_
      refine go_gf rfl (w_0 hp) rfl ?_
      refine go_run 0 (F' := (70, [some (.ref 134), some (.int (I1 5)), none], [.int (I1 6), .int (I1 5), .ref 143], Wm pre post (upd (upd (upd I1 7 0) 5 ((I1 5) + 1)) 8 ((I1 8) + 1)) A1)) rfl ?_
      obtain ⟨b3, hm⟩ := gd hm
      refine go_iast rfl (w_9 hp) b3 (ws_9 hp) ?_
      refine go_run 1 (F' := (72, [some (.ref 134), some (.int (I1 5)), none], [.ref 134], Wm pre post (upd (upd (upd I1 7 0) 5 ((I1 5) + 1)) 8 ((I1 8) + 1)) (upA A1 9 (upd (A1 9) (Int32.toNatClampNeg (I1 5)) (I1 6))))) rfl ?_
      refine go_gf rfl (w_0 hp) rfl ?_
      refine go_run 2 (F' := (77, [some (.ref 134), some (.int (I1 5)), none], [.ref 134, .int (I1 5), .ref 138], Wm pre post (upd (upd (upd I1 7 0) 5 ((I1 5) + 1)) 8 ((I1 8) + 1)) (upA A1 9 (upd (A1 9) (Int32.toNatClampNeg (I1 5)) (I1 6))))) rfl ?_
      obtain ⟨I2, A2, v2, e2, hm⟩ := xb_inv hm
      refine go_call (m' := 138) (v := some (.int v2)) (h1 := Wm pre post I2 A2) rfl (by simp only [ie_step, ie_iv, List.drop, w_0 hp]; rfl) ⟨rfl, Nat.le_of_ble_eq_true rfl⟩ (g_now (d := d + 3) hp e2) ?_
      refine go_run 0 (F' := (80, [some (.ref 134), some (.int (I1 5)), none], [.int v2, .int (I1 5), .ref 138], Wm pre post I2 A2)) rfl ?_
      refine go_run 2 (F' := (83, [some (.ref 134), some (.int (I1 5)), none], [.int (v2 - 65), .int (I1 5), .ref 138], Wm pre post I2 A2)) rfl ?_
      refine go_iast rfl (w_4 hp) b3 (ws_4 hp) ?_
      refine go_run 1 (F' := (85, [some (.ref 134), some (.int (I1 5)), none], [.ref 134], Wm pre post I2 (upA A2 4 (upd (A2 4) (Int32.toNatClampNeg (I1 5)) (v2 - 65))))) rfl ?_
      refine go_gf rfl (w_0 hp) rfl ?_
      refine go_run 2 (F' := (90, [some (.ref 134), some (.int (I1 5)), none], [.int (-1), .int (I1 5), .ref 139], Wm pre post I2 (upA A2 4 (upd (A2 4) (Int32.toNatClampNeg (I1 5)) (v2 - 65))))) rfl ?_
      refine go_iast rfl (w_5 hp) b3 (ws_5 hp) ?_
      refine go_run 1 (F' := (92, [some (.ref 134), some (.int (I1 5)), none], [.ref 134], Wm pre post I2 (upA (upA A2 4 (upd (A2 4) (Int32.toNatClampNeg (I1 5)) (v2 - 65))) 5 (upd (A2 5) (Int32.toNatClampNeg (I1 5)) (-1))))) rfl ?_
      refine go_gf rfl (w_0 hp) rfl ?_
      refine go_run 2 (F' := (97, [some (.ref 134), some (.int (I1 5)), none], [.int 0, .int (I1 5), .ref 148], Wm pre post I2 (upA (upA A2 4 (upd (A2 4) (Int32.toNatClampNeg (I1 5)) (v2 - 65))) 5 (upd (A2 5) (Int32.toNatClampNeg (I1 5)) (-1))))) rfl ?_
      refine go_iast rfl (w_14 hp) b3 (ws_14 hp) ?_
      refine go_run 2 (F' := (100, [some (.ref 134), some (.int (I1 5)), none], [.ref 134, .ref 134], Wm pre post I2 (upA (upA (upA A2 4 (upd (A2 4) (Int32.toNatClampNeg (I1 5)) (v2 - 65))) 5 (upd (A2 5) (Int32.toNatClampNeg (I1 5)) (-1))) 14 (upd (A2 14) (Int32.toNatClampNeg (I1 5)) 0)))) rfl ?_
      refine go_gf rfl (w_0 hp) rfl ?_
      refine go_run 2 (F' := (105, [some (.ref 134), some (.int (I1 5)), none], [.int ((I2 6) + 1), .ref 134], Wm pre post I2 (upA (upA (upA A2 4 (upd (A2 4) (Int32.toNatClampNeg (I1 5)) (v2 - 65))) 5 (upd (A2 5) (Int32.toNatClampNeg (I1 5)) (-1))) 14 (upd (A2 14) (Int32.toNatClampNeg (I1 5)) 0)))) rfl ?_
      refine go_pf rfl (w_0 hp) (Nat.le_of_ble_eq_true rfl) rfl (wo_6 hp) ?_
      refine go_run 1 (F' := (109, [some (.ref 134), some (.int (I1 5)), none], [.ref 134], Wm pre post (upd I2 6 ((I2 6) + 1)) (upA (upA (upA A2 4 (upd (A2 4) (Int32.toNatClampNeg (I1 5)) (v2 - 65))) 5 (upd (A2 5) (Int32.toNatClampNeg (I1 5)) (-1))) 14 (upd (A2 14) (Int32.toNatClampNeg (I1 5)) 0)))) rfl ?_
      refine go_gf rfl (w_0 hp) rfl ?_
      refine go_run 1 (F' := (113, [some (.ref 134), some (.int (I1 5)), none], [.ref 134, .int ((I2 6) + 1)], Wm pre post (upd I2 6 ((I2 6) + 1)) (upA (upA (upA A2 4 (upd (A2 4) (Int32.toNatClampNeg (I1 5)) (v2 - 65))) 5 (upd (A2 5) (Int32.toNatClampNeg (I1 5)) (-1))) 14 (upd (A2 14) (Int32.toNatClampNeg (I1 5)) 0)))) rfl ?_
      refine go_gf rfl (w_0 hp) rfl ?_
      refine go_run 0 (F' := (116, [some (.ref 134), some (.int (I1 5)), none], [.int (I2 4), .int ((I2 6) + 1)], Wm pre post (upd I2 6 ((I2 6) + 1)) (upA (upA (upA A2 4 (upd (A2 4) (Int32.toNatClampNeg (I1 5)) (v2 - 65))) 5 (upd (A2 5) (Int32.toNatClampNeg (I1 5)) (-1))) 14 (upd (A2 14) (Int32.toNatClampNeg (I1 5)) 0)))) rfl ?_
      refine go_step rfl rfl ?_
      by_cases q4 : (I2 6) + 1 < I2 4
      · rw [if_pos q4] at hm ⊢
        refine go_run 0 (F' := (120, [some (.ref 134), some (.int (I1 5)), none], [], Wm pre post (upd I2 6 ((I2 6) + 1)) (upA (upA (upA A2 4 (upd (A2 4) (Int32.toNatClampNeg (I1 5)) (v2 - 65))) 5 (upd (A2 5) (Int32.toNatClampNeg (I1 5)) (-1))) 14 (upd (A2 14) (Int32.toNatClampNeg (I1 5)) 0)))) rfl ?_
        refine go_run 1 (F' := (121, [some (.ref 134), some (.int (I1 5)), none], [.ref 134], Wm pre post (upd I2 6 ((I2 6) + 1)) (upA (upA (upA A2 4 (upd (A2 4) (Int32.toNatClampNeg (I1 5)) (v2 - 65))) 5 (upd (A2 5) (Int32.toNatClampNeg (I1 5)) (-1))) 14 (upd (A2 14) (Int32.toNatClampNeg (I1 5)) 0)))) rfl ?_
        obtain ⟨I3, A3, v3, e3, hm⟩ := xb_inv hm
        refine go_call (m' := 138) (v := some (.int v3)) (h1 := Wm pre post I3 A3) rfl (by simp only [ie_step, ie_iv, List.drop, w_0 hp]; rfl) ⟨rfl, Nat.le_of_ble_eq_true rfl⟩ (g_now (d := d + 3) hp e3) ?_
        refine go_run 0 (F' := (124, [some (.ref 134), some (.int (I1 5)), none], [.int v3], Wm pre post I3 A3)) rfl ?_
        refine go_run 3 (F' := (128, [some (.ref 134), some (.int (I1 5)), some (.int v3)], [.int 33, .int v3], Wm pre post I3 A3)) rfl ?_
        refine go_step rfl rfl ?_
        by_cases q5 : v3 = 33
        · rw [if_pos q5] at hm ⊢
          refine go_run 0 (F' := (131, [some (.ref 134), some (.int (I1 5)), some (.int v3)], [], Wm pre post I3 A3)) rfl ?_
          refine go_run 2 (F' := (133, [some (.ref 134), some (.int (I1 5)), some (.int v3)], [.int (I1 5), .ref 134], Wm pre post I3 A3)) rfl ?_
          obtain ⟨I4, A4, v4, e4, hm⟩ := xb_inv hm
          refine go_call (m' := 145) (v := none) (h1 := Wm pre post I4 A4) rfl (by simp only [ie_step, ie_iv, List.drop, w_0 hp]; rfl) ⟨rfl, Nat.le_of_ble_eq_true rfl⟩ (g_readTell (d := d + 1) hp e4) ?_
          refine go_run 0 (F' := (136, [some (.ref 134), some (.int (I1 5)), some (.int v3)], [], Wm pre post I4 A4)) rfl ?_
          refine go_run 1 (F' := (223, [some (.ref 134), some (.int (I1 5)), some (.int v3)], [], Wm pre post I4 A4)) rfl ?_
          cases hm
          exact go_end rfl rfl
        · rw [if_neg q5] at hm ⊢
          refine go_run 0 (F' := (139, [some (.ref 134), some (.int (I1 5)), some (.int v3)], [], Wm pre post I3 A3)) rfl ?_
          refine go_run 2 (F' := (142, [some (.ref 134), some (.int (I1 5)), some (.int v3)], [.int 63, .int v3], Wm pre post I3 A3)) rfl ?_
          refine go_step rfl rfl ?_
          by_cases q6 : v3 = 63
          · rw [if_pos q6] at hm ⊢
            refine go_run 0 (F' := (151, [some (.ref 134), some (.int (I1 5)), some (.int v3)], [], Wm pre post I3 A3)) rfl ?_
            refine go_run 0 (F' := (151, [some (.ref 134), some (.int (I1 5)), some (.int v3)], [], Wm pre post I3 A3)) rfl ?_
            exact g_readStatement_151 hp  hm
          · rw [if_neg q6] at hm ⊢
            refine go_run 0 (F' := (145, [some (.ref 134), some (.int (I1 5)), some (.int v3)], [], Wm pre post I3 A3)) rfl ?_
            refine go_run 2 (F' := (148, [some (.ref 134), some (.int (I1 5)), some (.int v3)], [.int 64, .int v3], Wm pre post I3 A3)) rfl ?_
            refine go_step rfl rfl ?_
            by_cases q7 : v3 = 64
            · rw [if_pos q7] at hm ⊢
              refine go_run 0 (F' := (151, [some (.ref 134), some (.int (I1 5)), some (.int v3)], [], Wm pre post I3 A3)) rfl ?_
              refine go_run 0 (F' := (151, [some (.ref 134), some (.int (I1 5)), some (.int v3)], [], Wm pre post I3 A3)) rfl ?_
              exact g_readStatement_151 hp  hm
            · rw [if_neg q7] at hm ⊢
              refine go_run 0 (F' := (218, [some (.ref 134), some (.int (I1 5)), some (.int v3)], [], Wm pre post I3 A3)) rfl ?_
              refine go_run 2 (F' := (220, [some (.ref 134), some (.int (I1 5)), some (.int v3)], [.int (I1 5), .ref 134], Wm pre post I3 A3)) rfl ?_
              obtain ⟨I5, A5, v5, e5, hm⟩ := xb_inv hm
              refine go_call (m' := 152) (v := none) (h1 := Wm pre post I5 A5) rfl (by simp only [ie_step, ie_iv, List.drop, w_0 hp]; rfl) ⟨rfl, Nat.le_of_ble_eq_true rfl⟩ (g_readValue (d := d) hp e5) ?_
              refine go_run 0 (F' := (223, [some (.ref 134), some (.int (I1 5)), some (.int v3)], [], Wm pre post I5 A5)) rfl ?_
              refine go_run 0 (F' := (223, [some (.ref 134), some (.int (I1 5)), some (.int v3)], [], Wm pre post I5 A5)) rfl ?_
              cases hm
              exact go_end rfl rfl
      · rw [if_neg q4] at hm ⊢
        refine go_run 0 (F' := (119, [some (.ref 134), some (.int (I1 5)), none], [], Wm pre post (upd I2 6 ((I2 6) + 1)) (upA (upA (upA A2 4 (upd (A2 4) (Int32.toNatClampNeg (I1 5)) (v2 - 65))) 5 (upd (A2 5) (Int32.toNatClampNeg (I1 5)) (-1))) 14 (upd (A2 14) (Int32.toNatClampNeg (I1 5)) 0)))) rfl ?_
        refine go_run 0 (F' := (119, [some (.ref 134), some (.int (I1 5)), none], [], Wm pre post (upd I2 6 ((I2 6) + 1)) (upA (upA (upA A2 4 (upd (A2 4) (Int32.toNatClampNeg (I1 5)) (v2 - 65))) 5 (upd (A2 5) (Int32.toNatClampNeg (I1 5)) (-1))) 14 (upd (A2 14) (Int32.toNatClampNeg (I1 5)) 0)))) rfl ?_
        cases hm
        exact go_end rfl rfl
def x_isEnd (I : Nat → Int32) (A : Nat → Nat → Int32) (a1 : Int32) : Option xR := (if ib a1 200 then (if (A 2) (Int32.toNatClampNeg a1) = 59 then (some (I, A, 1)) else (if (A 2) (Int32.toNatClampNeg a1) = 125 then (some (I, A, 1)) else (some (I, A, 0)))) else none)
theorem g_isEnd {X : ie_X} {d : Nat} {pre post : ie_H} (hp : pre.length = 134) {I : Nat → Int32} {A : Nat → Nat → Int32} {a1 : Int32} {I' : Nat → Int32} {A' : Nat → Nat → Int32} {r : Int32} (hm : x_isEnd I A a1 = some (I', A', r)) : Go X (d + 0) 153 (0, ie_en 153 [.ref 134, .int a1], [], Wm pre post I A) (.inl (some (.int r))) (Wm pre post I' A') := by
  unfold x_isEnd at hm
  refine go_run 0 (F' := (0, [some (.ref 134), some (.int a1)], [], Wm pre post I A)) rfl ?_
  refine go_run 1 (F' := (1, [some (.ref 134), some (.int a1)], [.ref 134], Wm pre post I A)) rfl ?_
  refine go_gf rfl (w_0 hp) rfl ?_
  refine go_run 1 (F' := (5, [some (.ref 134), some (.int a1)], [.int a1, .ref 136], Wm pre post I A)) rfl ?_
  obtain ⟨b1, hm⟩ := gd hm
  refine go_iald rfl (by decide) (w_2 hp) b1 rfl ?_
  refine go_run 1 (F' := (8, [some (.ref 134), some (.int a1)], [.int 59, .int ((A 2) (Int32.toNatClampNeg a1))], Wm pre post I A)) rfl ?_
  refine go_step rfl rfl ?_
  by_cases q2 : (A 2) (Int32.toNatClampNeg a1) = 59
  · rw [if_pos q2] at hm ⊢
    refine go_run 0 (F' := (22, [some (.ref 134), some (.int a1)], [], Wm pre post I A)) rfl ?_
    refine go_run 2 (F' := (27, [some (.ref 134), some (.int a1)], [.int 1], Wm pre post I A)) rfl ?_
    cases hm
    exact go_end rfl rfl
  · rw [if_neg q2] at hm ⊢
    refine go_run 0 (F' := (11, [some (.ref 134), some (.int a1)], [], Wm pre post I A)) rfl ?_
    refine go_run 1 (F' := (12, [some (.ref 134), some (.int a1)], [.ref 134], Wm pre post I A)) rfl ?_
    refine go_gf rfl (w_0 hp) rfl ?_
    refine go_run 1 (F' := (16, [some (.ref 134), some (.int a1)], [.int a1, .ref 136], Wm pre post I A)) rfl ?_
    refine go_iald rfl (by decide) (w_2 hp) b1 rfl ?_
    refine go_run 1 (F' := (19, [some (.ref 134), some (.int a1)], [.int 125, .int ((A 2) (Int32.toNatClampNeg a1))], Wm pre post I A)) rfl ?_
    refine go_step rfl rfl ?_
    by_cases q3 : (A 2) (Int32.toNatClampNeg a1) = 125
    · rw [if_pos q3] at hm ⊢
      refine go_run 0 (F' := (22, [some (.ref 134), some (.int a1)], [], Wm pre post I A)) rfl ?_
      refine go_run 2 (F' := (27, [some (.ref 134), some (.int a1)], [.int 1], Wm pre post I A)) rfl ?_
      cases hm
      exact go_end rfl rfl
    · rw [if_neg q3] at hm ⊢
      refine go_run 0 (F' := (26, [some (.ref 134), some (.int a1)], [], Wm pre post I A)) rfl ?_
      refine go_run 1 (F' := (27, [some (.ref 134), some (.int a1)], [.int 0], Wm pre post I A)) rfl ?_
      cases hm
      exact go_end rfl rfl
