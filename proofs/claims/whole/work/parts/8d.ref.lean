def x_take_242 : Nat → (Nat → Int32) → (Nat → Nat → Int32) → Int32 → Option xR
  | 0, _, _, _ => none
  | n + 1, I, A, l1 => (if 24 ≤ l1 then (xb (x_restart n I A) fun I1 A1 v1 => (some (I1, A1, 0))) else (if ib l1 24 then (x_take_242 n I (upA (upA A 33 (upd (A 33) (Int32.toNatClampNeg l1) 0)) 35 (upd (A 35) (Int32.toNatClampNeg l1) 0)) (l1 + 1)) else none))
theorem g_take_242 {X : ie_X} {d : Nat} {pre post : ie_H} (hp : pre.length = 134) : ∀ (n : Nat) {I : Nat → Int32} {A : Nat → Nat → Int32} {l1 : Int32} {u2 : Option Value} {I' : Nat → Int32} {A' : Nat → Nat → Int32} {r : Int32}, x_take_242 n I A l1 = some (I', A', r) → Go X (d + 5) 178 (242, [some (.ref 134), some (.int l1), u2], [], Wm pre post I A) (.inl none) (Wm pre post I' A') := by
  intro n
  induction n with
  | zero => intro I A l1 u2 I' A' r hm; cases hm
  | succ n ih =>
    intro I A l1 u2 I' A' r hm
    unfold x_take_242 at hm
    refine go_run 0 (F' := (242, [some (.ref 134), some (.int l1), u2], [], Wm pre post I A)) rfl ?_
    refine go_run 2 (F' := (245, [some (.ref 134), some (.int l1), u2], [.int 24, .int l1], Wm pre post I A)) rfl ?_
    refine go_step rfl rfl ?_
    by_cases q1 : 24 ≤ l1
    · rw [if_pos q1] at hm ⊢
      refine go_run 0 (F' := (268, [some (.ref 134), some (.int l1), u2], [], Wm pre post I A)) rfl ?_
      refine go_run 1 (F' := (269, [some (.ref 134), some (.int l1), u2], [.ref 134], Wm pre post I A)) rfl ?_
      obtain ⟨I1, A1, v1, e1, hm⟩ := xb_inv hm
      refine go_call (m' := 179) (v := none) (h1 := Wm pre post I1 A1) rfl (by simp only [ie_step, ie_iv, List.drop, w_0 hp]; rfl) ⟨rfl, Nat.le_of_ble_eq_true rfl⟩ (g_restart (d := d + 4) hp e1) ?_
      refine go_run 0 (F' := (272, [some (.ref 134), some (.int l1), u2], [], Wm pre post I1 A1)) rfl ?_
      refine go_run 0 (F' := (272, [some (.ref 134), some (.int l1), u2], [], Wm pre post I1 A1)) rfl ?_
      cases hm
      exact go_end rfl rfl
    · rw [if_neg q1] at hm ⊢
      refine go_run 0 (F' := (248, [some (.ref 134), some (.int l1), u2], [], Wm pre post I A)) rfl ?_
      refine go_run 1 (F' := (249, [some (.ref 134), some (.int l1), u2], [.ref 134], Wm pre post I A)) rfl ?_
      refine go_gf rfl (w_0 hp) rfl ?_
      refine go_run 2 (F' := (254, [some (.ref 134), some (.int l1), u2], [.int 0, .int l1, .ref 167], Wm pre post I A)) rfl ?_
      obtain ⟨b2, hm⟩ := gd hm
      refine go_iast rfl (w_33 hp) b2 (ws_33 hp) ?_
      refine go_run 1 (F' := (256, [some (.ref 134), some (.int l1), u2], [.ref 134], Wm pre post I (upA A 33 (upd (A 33) (Int32.toNatClampNeg l1) 0)))) rfl ?_
      refine go_gf rfl (w_0 hp) rfl ?_
      refine go_run 2 (F' := (261, [some (.ref 134), some (.int l1), u2], [.int 0, .int l1, .ref 169], Wm pre post I (upA A 33 (upd (A 33) (Int32.toNatClampNeg l1) 0)))) rfl ?_
      refine go_iast rfl (w_35 hp) b2 (ws_35 hp) ?_
      refine go_run 2 (F' := (242, [some (.ref 134), some (.int (l1 + 1)), u2], [], Wm pre post I (upA (upA A 33 (upd (A 33) (Int32.toNatClampNeg l1) 0)) 35 (upd (A 35) (Int32.toNatClampNeg l1) 0)))) rfl ?_
      exact ih hm
def x_take_195 (rec167 : (Nat → Int32) → (Nat → Nat → Int32) → Int32 → Option xR) : Nat → (Nat → Int32) → (Nat → Nat → Int32) → Int32 → Int32 → Option xR
  | 0, _, _, _, _ => none
  | n + 1, I, A, l1, l2 => (if I 12 ≤ l2 then (rec167 I A (l1 + 1)) else (if ib (((I 12) - 1) - l2) 1100 then (if ib ((1000 * l1) + l2) 6000 then (x_take_195 rec167 n I (upA A 26 (upd (A 26) (Int32.toNatClampNeg ((1000 * l1) + l2)) ((A 28) (Int32.toNatClampNeg (((I 12) - 1) - l2))))) l1 (l2 + 1)) else none) else none))
theorem g_take_195 {X : ie_X} {d : Nat} {pre post : ie_H} (hp : pre.length = 134) {rec167 : (Nat → Int32) → (Nat → Nat → Int32) → Int32 → Option xR} (hr167 : ∀ {J : Nat → Int32} {B : Nat → Nat → Int32} {m1 : Int32} {w2 : Option Value} {J' : Nat → Int32} {B' : Nat → Nat → Int32} {r' : Int32}, rec167 J B m1 = some (J', B', r') → Go X (d + 5) 178 (167, [some (.ref 134), some (.int m1), w2], [], Wm pre post J B) (.inl none) (Wm pre post J' B')) : ∀ (n : Nat) {I : Nat → Int32} {A : Nat → Nat → Int32} {l1 l2 : Int32} {I' : Nat → Int32} {A' : Nat → Nat → Int32} {r : Int32}, x_take_195 rec167 n I A l1 l2 = some (I', A', r) → Go X (d + 5) 178 (195, [some (.ref 134), some (.int l1), some (.int l2)], [], Wm pre post I A) (.inl none) (Wm pre post I' A') := by
  intro n
  induction n with
  | zero => intro I A l1 l2 I' A' r hm; cases hm
  | succ n ih =>
    intro I A l1 l2 I' A' r hm
    unfold x_take_195 at hm
    refine go_run 0 (F' := (195, [some (.ref 134), some (.int l1), some (.int l2)], [], Wm pre post I A)) rfl ?_
    refine go_run 2 (F' := (197, [some (.ref 134), some (.int l1), some (.int l2)], [.ref 134, .int l2], Wm pre post I A)) rfl ?_
    refine go_gf rfl (w_0 hp) rfl ?_
    refine go_run 0 (F' := (200, [some (.ref 134), some (.int l1), some (.int l2)], [.int (I 12), .int l2], Wm pre post I A)) rfl ?_
    refine go_step rfl rfl ?_
    by_cases q1 : I 12 ≤ l2
    · rw [if_pos q1] at hm ⊢
      refine go_run 0 (F' := (234, [some (.ref 134), some (.int l1), some (.int l2)], [], Wm pre post I A)) rfl ?_
      refine go_run 2 (F' := (167, [some (.ref 134), some (.int (l1 + 1)), some (.int l2)], [], Wm pre post I A)) rfl ?_
      exact hr167 hm
    · rw [if_neg q1] at hm ⊢
      refine go_run 0 (F' := (203, [some (.ref 134), some (.int l1), some (.int l2)], [], Wm pre post I A)) rfl ?_
      refine go_run 1 (F' := (204, [some (.ref 134), some (.int l1), some (.int l2)], [.ref 134], Wm pre post I A)) rfl ?_
      refine go_gf rfl (w_0 hp) rfl ?_
      refine go_run 6 (F' := (215, [some (.ref 134), some (.int l1), some (.int l2)], [.ref 134, .int ((1000 * l1) + l2), .ref 160], Wm pre post I A)) rfl ?_
      refine go_gf rfl (w_0 hp) rfl ?_
      refine go_run 1 (F' := (219, [some (.ref 134), some (.int l1), some (.int l2)], [.ref 134, .ref 162, .int ((1000 * l1) + l2), .ref 160], Wm pre post I A)) rfl ?_
      refine go_gf rfl (w_0 hp) rfl ?_
      refine go_run 4 (F' := (226, [some (.ref 134), some (.int l1), some (.int l2)], [.int (((I 12) - 1) - l2), .ref 162, .int ((1000 * l1) + l2), .ref 160], Wm pre post I A)) rfl ?_
      obtain ⟨b2, hm⟩ := gd hm
      refine go_iald rfl (by decide) (w_28 hp) b2 rfl ?_
      refine go_run 0 (F' := (227, [some (.ref 134), some (.int l1), some (.int l2)], [.int ((A 28) (Int32.toNatClampNeg (((I 12) - 1) - l2))), .int ((1000 * l1) + l2), .ref 160], Wm pre post I A)) rfl ?_
      obtain ⟨b3, hm⟩ := gd hm
      refine go_iast rfl (w_26 hp) b3 (ws_26 hp) ?_
      refine go_run 2 (F' := (195, [some (.ref 134), some (.int l1), some (.int (l2 + 1))], [], Wm pre post I (upA A 26 (upd (A 26) (Int32.toNatClampNeg ((1000 * l1) + l2)) ((A 28) (Int32.toNatClampNeg (((I 12) - 1) - l2))))))) rfl ?_
      exact ih hm
def x_take_167 : Nat → (Nat → Int32) → (Nat → Nat → Int32) → Int32 → Option xR
  | 0, _, _, _ => none
  | n + 1, I, A, l1 => (if 6 ≤ l1 then (x_take_242  n I A 0) else (xb (x_cut n I A l1 0 (I 5)) fun I1 A1 v1 => (if ib l1 6 then (x_take_195 (x_take_167 n) n I1 (upA A1 27 (upd (A1 27) (Int32.toNatClampNeg l1) (I1 12))) l1 0) else none)))
theorem g_take_167 {X : ie_X} {d : Nat} {pre post : ie_H} (hp : pre.length = 134) : ∀ (n : Nat) {I : Nat → Int32} {A : Nat → Nat → Int32} {l1 : Int32} {u2 : Option Value} {I' : Nat → Int32} {A' : Nat → Nat → Int32} {r : Int32}, x_take_167 n I A l1 = some (I', A', r) → Go X (d + 5) 178 (167, [some (.ref 134), some (.int l1), u2], [], Wm pre post I A) (.inl none) (Wm pre post I' A') := by
  intro n
  induction n with
  | zero => intro I A l1 u2 I' A' r hm; cases hm
  | succ n ih =>
    intro I A l1 u2 I' A' r hm
    unfold x_take_167 at hm
    refine go_run 0 (F' := (167, [some (.ref 134), some (.int l1), u2], [], Wm pre post I A)) rfl ?_
    refine go_run 2 (F' := (170, [some (.ref 134), some (.int l1), u2], [.int 6, .int l1], Wm pre post I A)) rfl ?_
    refine go_step rfl rfl ?_
    by_cases q1 : 6 ≤ l1
    · rw [if_pos q1] at hm ⊢
      refine go_run 0 (F' := (240, [some (.ref 134), some (.int l1), u2], [], Wm pre post I A)) rfl ?_
      refine go_run 2 (F' := (242, [some (.ref 134), some (.int 0), u2], [], Wm pre post I A)) rfl ?_
      exact g_take_242 hp  n hm
    · rw [if_neg q1] at hm ⊢
      refine go_run 0 (F' := (173, [some (.ref 134), some (.int l1), u2], [], Wm pre post I A)) rfl ?_
      refine go_run 4 (F' := (177, [some (.ref 134), some (.int l1), u2], [.ref 134, .int 0, .int l1, .ref 134], Wm pre post I A)) rfl ?_
      refine go_gf rfl (w_0 hp) rfl ?_
      refine go_run 0 (F' := (180, [some (.ref 134), some (.int l1), u2], [.int (I 5), .int 0, .int l1, .ref 134], Wm pre post I A)) rfl ?_
      obtain ⟨I1, A1, v1, e1, hm⟩ := xb_inv hm
      refine go_call (m' := 155) (v := none) (h1 := Wm pre post I1 A1) rfl (by simp only [ie_step, ie_iv, List.drop, w_0 hp]; rfl) ⟨rfl, Nat.le_of_ble_eq_true rfl⟩ (g_cut (d := d) hp e1) ?_
      refine go_run 0 (F' := (183, [some (.ref 134), some (.int l1), u2], [], Wm pre post I1 A1)) rfl ?_
      refine go_run 1 (F' := (184, [some (.ref 134), some (.int l1), u2], [.ref 134], Wm pre post I1 A1)) rfl ?_
      refine go_gf rfl (w_0 hp) rfl ?_
      refine go_run 2 (F' := (189, [some (.ref 134), some (.int l1), u2], [.ref 134, .int l1, .ref 161], Wm pre post I1 A1)) rfl ?_
      refine go_gf rfl (w_0 hp) rfl ?_
      refine go_run 0 (F' := (192, [some (.ref 134), some (.int l1), u2], [.int (I1 12), .int l1, .ref 161], Wm pre post I1 A1)) rfl ?_
      obtain ⟨b2, hm⟩ := gd hm
      refine go_iast rfl (w_27 hp) b2 (ws_27 hp) ?_
      refine go_run 2 (F' := (195, [some (.ref 134), some (.int l1), some (.int 0)], [], Wm pre post I1 (upA A1 27 (upd (A1 27) (Int32.toNatClampNeg l1) (I1 12))))) rfl ?_
      exact g_take_195 hp (fun z => ih z) n hm
def x_take_43 : Nat → (Nat → Int32) → (Nat → Nat → Int32) → Int32 → Option xR
  | 0, _, _, _ => none
  | n + 1, I, A, l1 => (if I 5 ≤ l1 then (x_take_167  n I A 0) else (if ib l1 200 then (x_take_43 n I (upA (upA (upA (upA (upA (upA (upA (upA (upA A 17 (upd (A 17) (Int32.toNatClampNeg l1) ((A 3) (Int32.toNatClampNeg l1)))) 18 (upd (A 18) (Int32.toNatClampNeg l1) ((A 4) (Int32.toNatClampNeg l1)))) 19 (upd (A 19) (Int32.toNatClampNeg l1) ((A 5) (Int32.toNatClampNeg l1)))) 20 (upd (A 20) (Int32.toNatClampNeg l1) ((A 6) (Int32.toNatClampNeg l1)))) 21 (upd (A 21) (Int32.toNatClampNeg l1) ((A 7) (Int32.toNatClampNeg l1)))) 22 (upd (A 22) (Int32.toNatClampNeg l1) ((A 10) (Int32.toNatClampNeg l1)))) 23 (upd (A 23) (Int32.toNatClampNeg l1) ((A 11) (Int32.toNatClampNeg l1)))) 24 (upd (A 24) (Int32.toNatClampNeg l1) ((A 12) (Int32.toNatClampNeg l1)))) 25 (upd (A 25) (Int32.toNatClampNeg l1) ((A 14) (Int32.toNatClampNeg l1)))) (l1 + 1)) else none))
theorem g_take_43 {X : ie_X} {d : Nat} {pre post : ie_H} (hp : pre.length = 134) : ∀ (n : Nat) {I : Nat → Int32} {A : Nat → Nat → Int32} {l1 : Int32} {u2 : Option Value} {I' : Nat → Int32} {A' : Nat → Nat → Int32} {r : Int32}, x_take_43 n I A l1 = some (I', A', r) → Go X (d + 5) 178 (43, [some (.ref 134), some (.int l1), u2], [], Wm pre post I A) (.inl none) (Wm pre post I' A') := by
  intro n
  induction n with
  | zero => intro I A l1 u2 I' A' r hm; cases hm
  | succ n ih =>
    intro I A l1 u2 I' A' r hm
    unfold x_take_43 at hm
    refine go_run 0 (F' := (43, [some (.ref 134), some (.int l1), u2], [], Wm pre post I A)) rfl ?_
    refine go_run 2 (F' := (45, [some (.ref 134), some (.int l1), u2], [.ref 134, .int l1], Wm pre post I A)) rfl ?_
    refine go_gf rfl (w_0 hp) rfl ?_
    refine go_run 0 (F' := (48, [some (.ref 134), some (.int l1), u2], [.int (I 5), .int l1], Wm pre post I A)) rfl ?_
    refine go_step rfl rfl ?_
    by_cases q1 : I 5 ≤ l1
    · rw [if_pos q1] at hm ⊢
      refine go_run 0 (F' := (165, [some (.ref 134), some (.int l1), u2], [], Wm pre post I A)) rfl ?_
      refine go_run 2 (F' := (167, [some (.ref 134), some (.int 0), u2], [], Wm pre post I A)) rfl ?_
      exact g_take_167 hp  n hm
    · rw [if_neg q1] at hm ⊢
      refine go_run 0 (F' := (51, [some (.ref 134), some (.int l1), u2], [], Wm pre post I A)) rfl ?_
      refine go_run 1 (F' := (52, [some (.ref 134), some (.int l1), u2], [.ref 134], Wm pre post I A)) rfl ?_
      refine go_gf rfl (w_0 hp) rfl ?_
      refine go_run 2 (F' := (57, [some (.ref 134), some (.int l1), u2], [.ref 134, .int l1, .ref 151], Wm pre post I A)) rfl ?_
      refine go_gf rfl (w_0 hp) rfl ?_
      refine go_run 1 (F' := (61, [some (.ref 134), some (.int l1), u2], [.int l1, .ref 137, .int l1, .ref 151], Wm pre post I A)) rfl ?_
      obtain ⟨b2, hm⟩ := gd hm
      refine go_iald rfl (by decide) (w_3 hp) b2 rfl ?_
      refine go_run 0 (F' := (62, [some (.ref 134), some (.int l1), u2], [.int ((A 3) (Int32.toNatClampNeg l1)), .int l1, .ref 151], Wm pre post I A)) rfl ?_
      refine go_iast rfl (w_17 hp) b2 (ws_17 hp) ?_
      refine go_run 1 (F' := (64, [some (.ref 134), some (.int l1), u2], [.ref 134], Wm pre post I (upA A 17 (upd (A 17) (Int32.toNatClampNeg l1) ((A 3) (Int32.toNatClampNeg l1)))))) rfl ?_
      refine go_gf rfl (w_0 hp) rfl ?_
      refine go_run 2 (F' := (69, [some (.ref 134), some (.int l1), u2], [.ref 134, .int l1, .ref 152], Wm pre post I (upA A 17 (upd (A 17) (Int32.toNatClampNeg l1) ((A 3) (Int32.toNatClampNeg l1)))))) rfl ?_
      refine go_gf rfl (w_0 hp) rfl ?_
      refine go_run 1 (F' := (73, [some (.ref 134), some (.int l1), u2], [.int l1, .ref 138, .int l1, .ref 152], Wm pre post I (upA A 17 (upd (A 17) (Int32.toNatClampNeg l1) ((A 3) (Int32.toNatClampNeg l1)))))) rfl ?_
      refine go_iald rfl (by decide) (w_4 hp) b2 rfl ?_
      refine go_run 0 (F' := (74, [some (.ref 134), some (.int l1), u2], [.int ((A 4) (Int32.toNatClampNeg l1)), .int l1, .ref 152], Wm pre post I (upA A 17 (upd (A 17) (Int32.toNatClampNeg l1) ((A 3) (Int32.toNatClampNeg l1)))))) rfl ?_
      refine go_iast rfl (w_18 hp) b2 (ws_18 hp) ?_
      refine go_run 1 (F' := (76, [some (.ref 134), some (.int l1), u2], [.ref 134], Wm pre post I (upA (upA A 17 (upd (A 17) (Int32.toNatClampNeg l1) ((A 3) (Int32.toNatClampNeg l1)))) 18 (upd (A 18) (Int32.toNatClampNeg l1) ((A 4) (Int32.toNatClampNeg l1)))))) rfl ?_
      refine go_gf rfl (w_0 hp) rfl ?_
      refine go_run 2 (F' := (81, [some (.ref 134), some (.int l1), u2], [.ref 134, .int l1, .ref 153], Wm pre post I (upA (upA A 17 (upd (A 17) (Int32.toNatClampNeg l1) ((A 3) (Int32.toNatClampNeg l1)))) 18 (upd (A 18) (Int32.toNatClampNeg l1) ((A 4) (Int32.toNatClampNeg l1)))))) rfl ?_
      refine go_gf rfl (w_0 hp) rfl ?_
      refine go_run 1 (F' := (85, [some (.ref 134), some (.int l1), u2], [.int l1, .ref 139, .int l1, .ref 153], Wm pre post I (upA (upA A 17 (upd (A 17) (Int32.toNatClampNeg l1) ((A 3) (Int32.toNatClampNeg l1)))) 18 (upd (A 18) (Int32.toNatClampNeg l1) ((A 4) (Int32.toNatClampNeg l1)))))) rfl ?_
      refine go_iald rfl (by decide) (w_5 hp) b2 rfl ?_
      refine go_run 0 (F' := (86, [some (.ref 134), some (.int l1), u2], [.int ((A 5) (Int32.toNatClampNeg l1)), .int l1, .ref 153], Wm pre post I (upA (upA A 17 (upd (A 17) (Int32.toNatClampNeg l1) ((A 3) (Int32.toNatClampNeg l1)))) 18 (upd (A 18) (Int32.toNatClampNeg l1) ((A 4) (Int32.toNatClampNeg l1)))))) rfl ?_
      refine go_iast rfl (w_19 hp) b2 (ws_19 hp) ?_
      refine go_run 1 (F' := (88, [some (.ref 134), some (.int l1), u2], [.ref 134], Wm pre post I (upA (upA (upA A 17 (upd (A 17) (Int32.toNatClampNeg l1) ((A 3) (Int32.toNatClampNeg l1)))) 18 (upd (A 18) (Int32.toNatClampNeg l1) ((A 4) (Int32.toNatClampNeg l1)))) 19 (upd (A 19) (Int32.toNatClampNeg l1) ((A 5) (Int32.toNatClampNeg l1)))))) rfl ?_
      refine go_gf rfl (w_0 hp) rfl ?_
      refine go_run 2 (F' := (93, [some (.ref 134), some (.int l1), u2], [.ref 134, .int l1, .ref 154], Wm pre post I (upA (upA (upA A 17 (upd (A 17) (Int32.toNatClampNeg l1) ((A 3) (Int32.toNatClampNeg l1)))) 18 (upd (A 18) (Int32.toNatClampNeg l1) ((A 4) (Int32.toNatClampNeg l1)))) 19 (upd (A 19) (Int32.toNatClampNeg l1) ((A 5) (Int32.toNatClampNeg l1)))))) rfl ?_
      refine go_gf rfl (w_0 hp) rfl ?_
      refine go_run 1 (F' := (97, [some (.ref 134), some (.int l1), u2], [.int l1, .ref 140, .int l1, .ref 154], Wm pre post I (upA (upA (upA A 17 (upd (A 17) (Int32.toNatClampNeg l1) ((A 3) (Int32.toNatClampNeg l1)))) 18 (upd (A 18) (Int32.toNatClampNeg l1) ((A 4) (Int32.toNatClampNeg l1)))) 19 (upd (A 19) (Int32.toNatClampNeg l1) ((A 5) (Int32.toNatClampNeg l1)))))) rfl ?_
      refine go_iald rfl (by decide) (w_6 hp) b2 rfl ?_
      refine go_run 0 (F' := (98, [some (.ref 134), some (.int l1), u2], [.int ((A 6) (Int32.toNatClampNeg l1)), .int l1, .ref 154], Wm pre post I (upA (upA (upA A 17 (upd (A 17) (Int32.toNatClampNeg l1) ((A 3) (Int32.toNatClampNeg l1)))) 18 (upd (A 18) (Int32.toNatClampNeg l1) ((A 4) (Int32.toNatClampNeg l1)))) 19 (upd (A 19) (Int32.toNatClampNeg l1) ((A 5) (Int32.toNatClampNeg l1)))))) rfl ?_
      refine go_iast rfl (w_20 hp) b2 (ws_20 hp) ?_
      refine go_run 1 (F' := (100, [some (.ref 134), some (.int l1), u2], [.ref 134], Wm pre post I (upA (upA (upA (upA A 17 (upd (A 17) (Int32.toNatClampNeg l1) ((A 3) (Int32.toNatClampNeg l1)))) 18 (upd (A 18) (Int32.toNatClampNeg l1) ((A 4) (Int32.toNatClampNeg l1)))) 19 (upd (A 19) (Int32.toNatClampNeg l1) ((A 5) (Int32.toNatClampNeg l1)))) 20 (upd (A 20) (Int32.toNatClampNeg l1) ((A 6) (Int32.toNatClampNeg l1)))))) rfl ?_
      refine go_gf rfl (w_0 hp) rfl ?_
      refine go_run 2 (F' := (105, [some (.ref 134), some (.int l1), u2], [.ref 134, .int l1, .ref 155], Wm pre post I (upA (upA (upA (upA A 17 (upd (A 17) (Int32.toNatClampNeg l1) ((A 3) (Int32.toNatClampNeg l1)))) 18 (upd (A 18) (Int32.toNatClampNeg l1) ((A 4) (Int32.toNatClampNeg l1)))) 19 (upd (A 19) (Int32.toNatClampNeg l1) ((A 5) (Int32.toNatClampNeg l1)))) 20 (upd (A 20) (Int32.toNatClampNeg l1) ((A 6) (Int32.toNatClampNeg l1)))))) rfl ?_
      refine go_gf rfl (w_0 hp) rfl ?_
      refine go_run 1 (F' := (109, [some (.ref 134), some (.int l1), u2], [.int l1, .ref 141, .int l1, .ref 155], Wm pre post I (upA (upA (upA (upA A 17 (upd (A 17) (Int32.toNatClampNeg l1) ((A 3) (Int32.toNatClampNeg l1)))) 18 (upd (A 18) (Int32.toNatClampNeg l1) ((A 4) (Int32.toNatClampNeg l1)))) 19 (upd (A 19) (Int32.toNatClampNeg l1) ((A 5) (Int32.toNatClampNeg l1)))) 20 (upd (A 20) (Int32.toNatClampNeg l1) ((A 6) (Int32.toNatClampNeg l1)))))) rfl ?_
      refine go_iald rfl (by decide) (w_7 hp) b2 rfl ?_
      refine go_run 0 (F' := (110, [some (.ref 134), some (.int l1), u2], [.int ((A 7) (Int32.toNatClampNeg l1)), .int l1, .ref 155], Wm pre post I (upA (upA (upA (upA A 17 (upd (A 17) (Int32.toNatClampNeg l1) ((A 3) (Int32.toNatClampNeg l1)))) 18 (upd (A 18) (Int32.toNatClampNeg l1) ((A 4) (Int32.toNatClampNeg l1)))) 19 (upd (A 19) (Int32.toNatClampNeg l1) ((A 5) (Int32.toNatClampNeg l1)))) 20 (upd (A 20) (Int32.toNatClampNeg l1) ((A 6) (Int32.toNatClampNeg l1)))))) rfl ?_
      refine go_iast rfl (w_21 hp) b2 (ws_21 hp) ?_
      refine go_run 1 (F' := (112, [some (.ref 134), some (.int l1), u2], [.ref 134], Wm pre post I (upA (upA (upA (upA (upA A 17 (upd (A 17) (Int32.toNatClampNeg l1) ((A 3) (Int32.toNatClampNeg l1)))) 18 (upd (A 18) (Int32.toNatClampNeg l1) ((A 4) (Int32.toNatClampNeg l1)))) 19 (upd (A 19) (Int32.toNatClampNeg l1) ((A 5) (Int32.toNatClampNeg l1)))) 20 (upd (A 20) (Int32.toNatClampNeg l1) ((A 6) (Int32.toNatClampNeg l1)))) 21 (upd (A 21) (Int32.toNatClampNeg l1) ((A 7) (Int32.toNatClampNeg l1)))))) rfl ?_
      refine go_gf rfl (w_0 hp) rfl ?_
      refine go_run 2 (F' := (117, [some (.ref 134), some (.int l1), u2], [.ref 134, .int l1, .ref 156], Wm pre post I (upA (upA (upA (upA (upA A 17 (upd (A 17) (Int32.toNatClampNeg l1) ((A 3) (Int32.toNatClampNeg l1)))) 18 (upd (A 18) (Int32.toNatClampNeg l1) ((A 4) (Int32.toNatClampNeg l1)))) 19 (upd (A 19) (Int32.toNatClampNeg l1) ((A 5) (Int32.toNatClampNeg l1)))) 20 (upd (A 20) (Int32.toNatClampNeg l1) ((A 6) (Int32.toNatClampNeg l1)))) 21 (upd (A 21) (Int32.toNatClampNeg l1) ((A 7) (Int32.toNatClampNeg l1)))))) rfl ?_
      refine go_gf rfl (w_0 hp) rfl ?_
      refine go_run 1 (F' := (121, [some (.ref 134), some (.int l1), u2], [.int l1, .ref 144, .int l1, .ref 156], Wm pre post I (upA (upA (upA (upA (upA A 17 (upd (A 17) (Int32.toNatClampNeg l1) ((A 3) (Int32.toNatClampNeg l1)))) 18 (upd (A 18) (Int32.toNatClampNeg l1) ((A 4) (Int32.toNatClampNeg l1)))) 19 (upd (A 19) (Int32.toNatClampNeg l1) ((A 5) (Int32.toNatClampNeg l1)))) 20 (upd (A 20) (Int32.toNatClampNeg l1) ((A 6) (Int32.toNatClampNeg l1)))) 21 (upd (A 21) (Int32.toNatClampNeg l1) ((A 7) (Int32.toNatClampNeg l1)))))) rfl ?_
      refine go_iald rfl (by decide) (w_10 hp) b2 rfl ?_
      refine go_run 0 (F' := (122, [some (.ref 134), some (.int l1), u2], [.int ((A 10) (Int32.toNatClampNeg l1)), .int l1, .ref 156], Wm pre post I (upA (upA (upA (upA (upA A 17 (upd (A 17) (Int32.toNatClampNeg l1) ((A 3) (Int32.toNatClampNeg l1)))) 18 (upd (A 18) (Int32.toNatClampNeg l1) ((A 4) (Int32.toNatClampNeg l1)))) 19 (upd (A 19) (Int32.toNatClampNeg l1) ((A 5) (Int32.toNatClampNeg l1)))) 20 (upd (A 20) (Int32.toNatClampNeg l1) ((A 6) (Int32.toNatClampNeg l1)))) 21 (upd (A 21) (Int32.toNatClampNeg l1) ((A 7) (Int32.toNatClampNeg l1)))))) rfl ?_
      refine go_iast rfl (w_22 hp) b2 (ws_22 hp) ?_
      refine go_run 1 (F' := (124, [some (.ref 134), some (.int l1), u2], [.ref 134], Wm pre post I (upA (upA (upA (upA (upA (upA A 17 (upd (A 17) (Int32.toNatClampNeg l1) ((A 3) (Int32.toNatClampNeg l1)))) 18 (upd (A 18) (Int32.toNatClampNeg l1) ((A 4) (Int32.toNatClampNeg l1)))) 19 (upd (A 19) (Int32.toNatClampNeg l1) ((A 5) (Int32.toNatClampNeg l1)))) 20 (upd (A 20) (Int32.toNatClampNeg l1) ((A 6) (Int32.toNatClampNeg l1)))) 21 (upd (A 21) (Int32.toNatClampNeg l1) ((A 7) (Int32.toNatClampNeg l1)))) 22 (upd (A 22) (Int32.toNatClampNeg l1) ((A 10) (Int32.toNatClampNeg l1)))))) rfl ?_
      refine go_gf rfl (w_0 hp) rfl ?_
      refine go_run 2 (F' := (129, [some (.ref 134), some (.int l1), u2], [.ref 134, .int l1, .ref 157], Wm pre post I (upA (upA (upA (upA (upA (upA A 17 (upd (A 17) (Int32.toNatClampNeg l1) ((A 3) (Int32.toNatClampNeg l1)))) 18 (upd (A 18) (Int32.toNatClampNeg l1) ((A 4) (Int32.toNatClampNeg l1)))) 19 (upd (A 19) (Int32.toNatClampNeg l1) ((A 5) (Int32.toNatClampNeg l1)))) 20 (upd (A 20) (Int32.toNatClampNeg l1) ((A 6) (Int32.toNatClampNeg l1)))) 21 (upd (A 21) (Int32.toNatClampNeg l1) ((A 7) (Int32.toNatClampNeg l1)))) 22 (upd (A 22) (Int32.toNatClampNeg l1) ((A 10) (Int32.toNatClampNeg l1)))))) rfl ?_
      refine go_gf rfl (w_0 hp) rfl ?_
      refine go_run 1 (F' := (133, [some (.ref 134), some (.int l1), u2], [.int l1, .ref 145, .int l1, .ref 157], Wm pre post I (upA (upA (upA (upA (upA (upA A 17 (upd (A 17) (Int32.toNatClampNeg l1) ((A 3) (Int32.toNatClampNeg l1)))) 18 (upd (A 18) (Int32.toNatClampNeg l1) ((A 4) (Int32.toNatClampNeg l1)))) 19 (upd (A 19) (Int32.toNatClampNeg l1) ((A 5) (Int32.toNatClampNeg l1)))) 20 (upd (A 20) (Int32.toNatClampNeg l1) ((A 6) (Int32.toNatClampNeg l1)))) 21 (upd (A 21) (Int32.toNatClampNeg l1) ((A 7) (Int32.toNatClampNeg l1)))) 22 (upd (A 22) (Int32.toNatClampNeg l1) ((A 10) (Int32.toNatClampNeg l1)))))) rfl ?_
      refine go_iald rfl (by decide) (w_11 hp) b2 rfl ?_
      refine go_run 0 (F' := (134, [some (.ref 134), some (.int l1), u2], [.int ((A 11) (Int32.toNatClampNeg l1)), .int l1, .ref 157], Wm pre post I (upA (upA (upA (upA (upA (upA A 17 (upd (A 17) (Int32.toNatClampNeg l1) ((A 3) (Int32.toNatClampNeg l1)))) 18 (upd (A 18) (Int32.toNatClampNeg l1) ((A 4) (Int32.toNatClampNeg l1)))) 19 (upd (A 19) (Int32.toNatClampNeg l1) ((A 5) (Int32.toNatClampNeg l1)))) 20 (upd (A 20) (Int32.toNatClampNeg l1) ((A 6) (Int32.toNatClampNeg l1)))) 21 (upd (A 21) (Int32.toNatClampNeg l1) ((A 7) (Int32.toNatClampNeg l1)))) 22 (upd (A 22) (Int32.toNatClampNeg l1) ((A 10) (Int32.toNatClampNeg l1)))))) rfl ?_
      refine go_iast rfl (w_23 hp) b2 (ws_23 hp) ?_
      refine go_run 1 (F' := (136, [some (.ref 134), some (.int l1), u2], [.ref 134], Wm pre post I (upA (upA (upA (upA (upA (upA (upA A 17 (upd (A 17) (Int32.toNatClampNeg l1) ((A 3) (Int32.toNatClampNeg l1)))) 18 (upd (A 18) (Int32.toNatClampNeg l1) ((A 4) (Int32.toNatClampNeg l1)))) 19 (upd (A 19) (Int32.toNatClampNeg l1) ((A 5) (Int32.toNatClampNeg l1)))) 20 (upd (A 20) (Int32.toNatClampNeg l1) ((A 6) (Int32.toNatClampNeg l1)))) 21 (upd (A 21) (Int32.toNatClampNeg l1) ((A 7) (Int32.toNatClampNeg l1)))) 22 (upd (A 22) (Int32.toNatClampNeg l1) ((A 10) (Int32.toNatClampNeg l1)))) 23 (upd (A 23) (Int32.toNatClampNeg l1) ((A 11) (Int32.toNatClampNeg l1)))))) rfl ?_
      refine go_gf rfl (w_0 hp) rfl ?_
      refine go_run 2 (F' := (141, [some (.ref 134), some (.int l1), u2], [.ref 134, .int l1, .ref 158], Wm pre post I (upA (upA (upA (upA (upA (upA (upA A 17 (upd (A 17) (Int32.toNatClampNeg l1) ((A 3) (Int32.toNatClampNeg l1)))) 18 (upd (A 18) (Int32.toNatClampNeg l1) ((A 4) (Int32.toNatClampNeg l1)))) 19 (upd (A 19) (Int32.toNatClampNeg l1) ((A 5) (Int32.toNatClampNeg l1)))) 20 (upd (A 20) (Int32.toNatClampNeg l1) ((A 6) (Int32.toNatClampNeg l1)))) 21 (upd (A 21) (Int32.toNatClampNeg l1) ((A 7) (Int32.toNatClampNeg l1)))) 22 (upd (A 22) (Int32.toNatClampNeg l1) ((A 10) (Int32.toNatClampNeg l1)))) 23 (upd (A 23) (Int32.toNatClampNeg l1) ((A 11) (Int32.toNatClampNeg l1)))))) rfl ?_
      refine go_gf rfl (w_0 hp) rfl ?_
      refine go_run 1 (F' := (145, [some (.ref 134), some (.int l1), u2], [.int l1, .ref 146, .int l1, .ref 158], Wm pre post I (upA (upA (upA (upA (upA (upA (upA A 17 (upd (A 17) (Int32.toNatClampNeg l1) ((A 3) (Int32.toNatClampNeg l1)))) 18 (upd (A 18) (Int32.toNatClampNeg l1) ((A 4) (Int32.toNatClampNeg l1)))) 19 (upd (A 19) (Int32.toNatClampNeg l1) ((A 5) (Int32.toNatClampNeg l1)))) 20 (upd (A 20) (Int32.toNatClampNeg l1) ((A 6) (Int32.toNatClampNeg l1)))) 21 (upd (A 21) (Int32.toNatClampNeg l1) ((A 7) (Int32.toNatClampNeg l1)))) 22 (upd (A 22) (Int32.toNatClampNeg l1) ((A 10) (Int32.toNatClampNeg l1)))) 23 (upd (A 23) (Int32.toNatClampNeg l1) ((A 11) (Int32.toNatClampNeg l1)))))) rfl ?_
      refine go_iald rfl (by decide) (w_12 hp) b2 rfl ?_
      refine go_run 0 (F' := (146, [some (.ref 134), some (.int l1), u2], [.int ((A 12) (Int32.toNatClampNeg l1)), .int l1, .ref 158], Wm pre post I (upA (upA (upA (upA (upA (upA (upA A 17 (upd (A 17) (Int32.toNatClampNeg l1) ((A 3) (Int32.toNatClampNeg l1)))) 18 (upd (A 18) (Int32.toNatClampNeg l1) ((A 4) (Int32.toNatClampNeg l1)))) 19 (upd (A 19) (Int32.toNatClampNeg l1) ((A 5) (Int32.toNatClampNeg l1)))) 20 (upd (A 20) (Int32.toNatClampNeg l1) ((A 6) (Int32.toNatClampNeg l1)))) 21 (upd (A 21) (Int32.toNatClampNeg l1) ((A 7) (Int32.toNatClampNeg l1)))) 22 (upd (A 22) (Int32.toNatClampNeg l1) ((A 10) (Int32.toNatClampNeg l1)))) 23 (upd (A 23) (Int32.toNatClampNeg l1) ((A 11) (Int32.toNatClampNeg l1)))))) rfl ?_
      refine go_iast rfl (w_24 hp) b2 (ws_24 hp) ?_
      refine go_run 1 (F' := (148, [some (.ref 134), some (.int l1), u2], [.ref 134], Wm pre post I (upA (upA (upA (upA (upA (upA (upA (upA A 17 (upd (A 17) (Int32.toNatClampNeg l1) ((A 3) (Int32.toNatClampNeg l1)))) 18 (upd (A 18) (Int32.toNatClampNeg l1) ((A 4) (Int32.toNatClampNeg l1)))) 19 (upd (A 19) (Int32.toNatClampNeg l1) ((A 5) (Int32.toNatClampNeg l1)))) 20 (upd (A 20) (Int32.toNatClampNeg l1) ((A 6) (Int32.toNatClampNeg l1)))) 21 (upd (A 21) (Int32.toNatClampNeg l1) ((A 7) (Int32.toNatClampNeg l1)))) 22 (upd (A 22) (Int32.toNatClampNeg l1) ((A 10) (Int32.toNatClampNeg l1)))) 23 (upd (A 23) (Int32.toNatClampNeg l1) ((A 11) (Int32.toNatClampNeg l1)))) 24 (upd (A 24) (Int32.toNatClampNeg l1) ((A 12) (Int32.toNatClampNeg l1)))))) rfl ?_
      refine go_gf rfl (w_0 hp) rfl ?_
      refine go_run 2 (F' := (153, [some (.ref 134), some (.int l1), u2], [.ref 134, .int l1, .ref 159], Wm pre post I (upA (upA (upA (upA (upA (upA (upA (upA A 17 (upd (A 17) (Int32.toNatClampNeg l1) ((A 3) (Int32.toNatClampNeg l1)))) 18 (upd (A 18) (Int32.toNatClampNeg l1) ((A 4) (Int32.toNatClampNeg l1)))) 19 (upd (A 19) (Int32.toNatClampNeg l1) ((A 5) (Int32.toNatClampNeg l1)))) 20 (upd (A 20) (Int32.toNatClampNeg l1) ((A 6) (Int32.toNatClampNeg l1)))) 21 (upd (A 21) (Int32.toNatClampNeg l1) ((A 7) (Int32.toNatClampNeg l1)))) 22 (upd (A 22) (Int32.toNatClampNeg l1) ((A 10) (Int32.toNatClampNeg l1)))) 23 (upd (A 23) (Int32.toNatClampNeg l1) ((A 11) (Int32.toNatClampNeg l1)))) 24 (upd (A 24) (Int32.toNatClampNeg l1) ((A 12) (Int32.toNatClampNeg l1)))))) rfl ?_
      refine go_gf rfl (w_0 hp) rfl ?_
      refine go_run 1 (F' := (157, [some (.ref 134), some (.int l1), u2], [.int l1, .ref 148, .int l1, .ref 159], Wm pre post I (upA (upA (upA (upA (upA (upA (upA (upA A 17 (upd (A 17) (Int32.toNatClampNeg l1) ((A 3) (Int32.toNatClampNeg l1)))) 18 (upd (A 18) (Int32.toNatClampNeg l1) ((A 4) (Int32.toNatClampNeg l1)))) 19 (upd (A 19) (Int32.toNatClampNeg l1) ((A 5) (Int32.toNatClampNeg l1)))) 20 (upd (A 20) (Int32.toNatClampNeg l1) ((A 6) (Int32.toNatClampNeg l1)))) 21 (upd (A 21) (Int32.toNatClampNeg l1) ((A 7) (Int32.toNatClampNeg l1)))) 22 (upd (A 22) (Int32.toNatClampNeg l1) ((A 10) (Int32.toNatClampNeg l1)))) 23 (upd (A 23) (Int32.toNatClampNeg l1) ((A 11) (Int32.toNatClampNeg l1)))) 24 (upd (A 24) (Int32.toNatClampNeg l1) ((A 12) (Int32.toNatClampNeg l1)))))) rfl ?_
      refine go_iald rfl (by decide) (w_14 hp) b2 rfl ?_
      refine go_run 0 (F' := (158, [some (.ref 134), some (.int l1), u2], [.int ((A 14) (Int32.toNatClampNeg l1)), .int l1, .ref 159], Wm pre post I (upA (upA (upA (upA (upA (upA (upA (upA A 17 (upd (A 17) (Int32.toNatClampNeg l1) ((A 3) (Int32.toNatClampNeg l1)))) 18 (upd (A 18) (Int32.toNatClampNeg l1) ((A 4) (Int32.toNatClampNeg l1)))) 19 (upd (A 19) (Int32.toNatClampNeg l1) ((A 5) (Int32.toNatClampNeg l1)))) 20 (upd (A 20) (Int32.toNatClampNeg l1) ((A 6) (Int32.toNatClampNeg l1)))) 21 (upd (A 21) (Int32.toNatClampNeg l1) ((A 7) (Int32.toNatClampNeg l1)))) 22 (upd (A 22) (Int32.toNatClampNeg l1) ((A 10) (Int32.toNatClampNeg l1)))) 23 (upd (A 23) (Int32.toNatClampNeg l1) ((A 11) (Int32.toNatClampNeg l1)))) 24 (upd (A 24) (Int32.toNatClampNeg l1) ((A 12) (Int32.toNatClampNeg l1)))))) rfl ?_
      refine go_iast rfl (w_25 hp) b2 (ws_25 hp) ?_
      refine go_run 2 (F' := (43, [some (.ref 134), some (.int (l1 + 1)), u2], [], Wm pre post I (upA (upA (upA (upA (upA (upA (upA (upA (upA A 17 (upd (A 17) (Int32.toNatClampNeg l1) ((A 3) (Int32.toNatClampNeg l1)))) 18 (upd (A 18) (Int32.toNatClampNeg l1) ((A 4) (Int32.toNatClampNeg l1)))) 19 (upd (A 19) (Int32.toNatClampNeg l1) ((A 5) (Int32.toNatClampNeg l1)))) 20 (upd (A 20) (Int32.toNatClampNeg l1) ((A 6) (Int32.toNatClampNeg l1)))) 21 (upd (A 21) (Int32.toNatClampNeg l1) ((A 7) (Int32.toNatClampNeg l1)))) 22 (upd (A 22) (Int32.toNatClampNeg l1) ((A 10) (Int32.toNatClampNeg l1)))) 23 (upd (A 23) (Int32.toNatClampNeg l1) ((A 11) (Int32.toNatClampNeg l1)))) 24 (upd (A 24) (Int32.toNatClampNeg l1) ((A 12) (Int32.toNatClampNeg l1)))) 25 (upd (A 25) (Int32.toNatClampNeg l1) ((A 14) (Int32.toNatClampNeg l1)))))) rfl ?_
      exact ih hm
def x_take_15 : Nat → (Nat → Int32) → (Nat → Nat → Int32) → Int32 → Option xR
  | 0, _, _, _ => none
  | n + 1, I, A, l1 => (if I 4 ≤ l1 then (x_take_43  n I A 0) else (if ib l1 200 then (x_take_15 n I (upA A 16 (upd (A 16) (Int32.toNatClampNeg l1) ((A 2) (Int32.toNatClampNeg l1)))) (l1 + 1)) else none))
theorem g_take_15 {X : ie_X} {d : Nat} {pre post : ie_H} (hp : pre.length = 134) : ∀ (n : Nat) {I : Nat → Int32} {A : Nat → Nat → Int32} {l1 : Int32} {u2 : Option Value} {I' : Nat → Int32} {A' : Nat → Nat → Int32} {r : Int32}, x_take_15 n I A l1 = some (I', A', r) → Go X (d + 5) 178 (15, [some (.ref 134), some (.int l1), u2], [], Wm pre post I A) (.inl none) (Wm pre post I' A') := by
  intro n
  induction n with
  | zero => intro I A l1 u2 I' A' r hm; cases hm
  | succ n ih =>
    intro I A l1 u2 I' A' r hm
    unfold x_take_15 at hm
    refine go_run 0 (F' := (15, [some (.ref 134), some (.int l1), u2], [], Wm pre post I A)) rfl ?_
    refine go_run 2 (F' := (17, [some (.ref 134), some (.int l1), u2], [.ref 134, .int l1], Wm pre post I A)) rfl ?_
    refine go_gf rfl (w_0 hp) rfl ?_
    refine go_run 0 (F' := (20, [some (.ref 134), some (.int l1), u2], [.int (I 4), .int l1], Wm pre post I A)) rfl ?_
    refine go_step rfl rfl ?_
    by_cases q1 : I 4 ≤ l1
    · rw [if_pos q1] at hm ⊢
      refine go_run 0 (F' := (41, [some (.ref 134), some (.int l1), u2], [], Wm pre post I A)) rfl ?_
      refine go_run 2 (F' := (43, [some (.ref 134), some (.int 0), u2], [], Wm pre post I A)) rfl ?_
      exact g_take_43 hp  n hm
    · rw [if_neg q1] at hm ⊢
      refine go_run 0 (F' := (23, [some (.ref 134), some (.int l1), u2], [], Wm pre post I A)) rfl ?_
      refine go_run 1 (F' := (24, [some (.ref 134), some (.int l1), u2], [.ref 134], Wm pre post I A)) rfl ?_
      refine go_gf rfl (w_0 hp) rfl ?_
      refine go_run 2 (F' := (29, [some (.ref 134), some (.int l1), u2], [.ref 134, .int l1, .ref 150], Wm pre post I A)) rfl ?_
      refine go_gf rfl (w_0 hp) rfl ?_
      refine go_run 1 (F' := (33, [some (.ref 134), some (.int l1), u2], [.int l1, .ref 136, .int l1, .ref 150], Wm pre post I A)) rfl ?_
      obtain ⟨b2, hm⟩ := gd hm
      refine go_iald rfl (by decide) (w_2 hp) b2 rfl ?_
      refine go_run 0 (F' := (34, [some (.ref 134), some (.int l1), u2], [.int ((A 2) (Int32.toNatClampNeg l1)), .int l1, .ref 150], Wm pre post I A)) rfl ?_
      refine go_iast rfl (w_16 hp) b2 (ws_16 hp) ?_
      refine go_run 2 (F' := (15, [some (.ref 134), some (.int (l1 + 1)), u2], [], Wm pre post I (upA A 16 (upd (A 16) (Int32.toNatClampNeg l1) ((A 2) (Int32.toNatClampNeg l1)))))) rfl ?_
      exact ih hm
def x_take (n : Nat) (I : Nat → Int32) (A : Nat → Nat → Int32) : Option xR := (x_take_15  n (upd (upd I 10 1) 11 (I 5)) A 0)
theorem g_take {X : ie_X} {d : Nat} {pre post : ie_H} (hp : pre.length = 134) {n : Nat} {I : Nat → Int32} {A : Nat → Nat → Int32} {I' : Nat → Int32} {A' : Nat → Nat → Int32} {r : Int32} (hm : x_take n I A = some (I', A', r)) : Go X (d + 5) 178 (0, ie_en 178 [.ref 134], [], Wm pre post I A) (.inl none) (Wm pre post I' A') := by
  unfold x_take at hm
  refine go_run 0 (F' := (0, [some (.ref 134), none, none], [], Wm pre post I A)) rfl ?_
  refine go_run 2 (F' := (2, [some (.ref 134), none, none], [.int 1, .ref 134], Wm pre post I A)) rfl ?_
  refine go_pf rfl (w_0 hp) (Nat.le_of_ble_eq_true rfl) rfl (wo_10 hp) ?_
  refine go_run 2 (F' := (7, [some (.ref 134), none, none], [.ref 134, .ref 134], Wm pre post (upd I 10 1) A)) rfl ?_
  refine go_gf rfl (w_0 hp) rfl ?_
  refine go_run 0 (F' := (10, [some (.ref 134), none, none], [.int (I 5), .ref 134], Wm pre post (upd I 10 1) A)) rfl ?_
  refine go_pf rfl (w_0 hp) (Nat.le_of_ble_eq_true rfl) rfl (wo_11 hp) ?_
  refine go_run 2 (F' := (15, [some (.ref 134), some (.int 0), none], [], Wm pre post (upd (upd I 10 1) 11 (I 5)) A)) rfl ?_
  exact g_take_15 hp  n hm
def x_load_193 : Nat → (Nat → Int32) → (Nat → Nat → Int32) → Int32 → Int32 → Option xR
  | 0, _, _, _, _ => none
  | n + 1, I, A, l6, l8 => (if l8 < 0 then (some (I, A, 0)) else (if I 0 = 2 then (if (l6 >>> (l8 &&& 31)) &&& 1 = 1 then (x_load_193 n (upd I 3 l8) A l6 (l8 + (-1))) else (x_load_193 n (upd I 3 (I 3)) A l6 (l8 + (-1)))) else (some (I, A, 0))))
theorem g_load_193 {X : ie_X} {d : Nat} {pre post : ie_H} (hp : pre.length = 134) : ∀ (n : Nat) {I : Nat → Int32} {A : Nat → Nat → Int32} {l6 l8 : Int32} {u1 u2 u3 u4 u5 u7 : Option Value} {I' : Nat → Int32} {A' : Nat → Nat → Int32} {r : Int32}, x_load_193 n I A l6 l8 = some (I', A', r) → Go X (d + 6) 136 (193, [some (.ref 134), u1, u2, u3, u4, u5, some (.int l6), u7, some (.int l8)], [], Wm pre post I A) (.inl (some (.int r))) (Wm pre post I' A') := by
  intro n
  induction n with
  | zero => intro I A l6 l8 u1 u2 u3 u4 u5 u7 I' A' r hm; cases hm
  | succ n ih =>
    intro I A l6 l8 u1 u2 u3 u4 u5 u7 I' A' r hm
    unfold x_load_193 at hm
    refine go_run 0 (F' := (193, [some (.ref 134), u1, u2, u3, u4, u5, some (.int l6), u7, some (.int l8)], [], Wm pre post I A)) rfl ?_
    refine go_run 1 (F' := (195, [some (.ref 134), u1, u2, u3, u4, u5, some (.int l6), u7, some (.int l8)], [.int l8], Wm pre post I A)) rfl ?_
    refine go_step rfl rfl ?_
    by_cases q1 : l8 < 0
    · rw [if_pos q1] at hm ⊢
      refine go_run 0 (F' := (236, [some (.ref 134), u1, u2, u3, u4, u5, some (.int l6), u7, some (.int l8)], [], Wm pre post I A)) rfl ?_
      refine go_run 1 (F' := (237, [some (.ref 134), u1, u2, u3, u4, u5, some (.int l6), u7, some (.int l8)], [.int 0], Wm pre post I A)) rfl ?_
      cases hm
      exact go_end rfl rfl
    · rw [if_neg q1] at hm ⊢
      refine go_run 0 (F' := (198, [some (.ref 134), u1, u2, u3, u4, u5, some (.int l6), u7, some (.int l8)], [], Wm pre post I A)) rfl ?_
      refine go_run 1 (F' := (199, [some (.ref 134), u1, u2, u3, u4, u5, some (.int l6), u7, some (.int l8)], [.ref 134], Wm pre post I A)) rfl ?_
      refine go_gf rfl (w_0 hp) rfl ?_
      refine go_run 1 (F' := (203, [some (.ref 134), u1, u2, u3, u4, u5, some (.int l6), u7, some (.int l8)], [.int 2, .int (I 0)], Wm pre post I A)) rfl ?_
      refine go_step rfl rfl ?_
      by_cases q2 : I 0 = 2
      · rw [if_pos q2] at hm ⊢
        refine go_run 0 (F' := (206, [some (.ref 134), u1, u2, u3, u4, u5, some (.int l6), u7, some (.int l8)], [], Wm pre post I A)) rfl ?_
        refine go_run 7 (F' := (215, [some (.ref 134), u1, u2, u3, u4, u5, some (.int l6), u7, some (.int l8)], [.int 1, .int ((l6 >>> (l8 &&& 31)) &&& 1), .ref 134], Wm pre post I A)) rfl ?_
        refine go_step rfl rfl ?_
        by_cases q3 : (l6 >>> (l8 &&& 31)) &&& 1 = 1
        · rw [if_pos q3] at hm ⊢
          refine go_run 0 (F' := (218, [some (.ref 134), u1, u2, u3, u4, u5, some (.int l6), u7, some (.int l8)], [.ref 134], Wm pre post I A)) rfl ?_
          refine go_run 2 (F' := (227, [some (.ref 134), u1, u2, u3, u4, u5, some (.int l6), u7, some (.int l8)], [.int l8, .ref 134], Wm pre post I A)) rfl ?_
          refine go_pf rfl (w_0 hp) (Nat.le_of_ble_eq_true rfl) rfl (wo_3 hp) ?_
          refine go_run 2 (F' := (193, [some (.ref 134), u1, u2, u3, u4, u5, some (.int l6), u7, some (.int (l8 + (-1)))], [], Wm pre post (upd I 3 l8) A)) rfl ?_
          exact ih hm
        · rw [if_neg q3] at hm ⊢
          refine go_run 0 (F' := (223, [some (.ref 134), u1, u2, u3, u4, u5, some (.int l6), u7, some (.int l8)], [.ref 134], Wm pre post I A)) rfl ?_
          refine go_run 1 (F' := (224, [some (.ref 134), u1, u2, u3, u4, u5, some (.int l6), u7, some (.int l8)], [.ref 134, .ref 134], Wm pre post I A)) rfl ?_
          refine go_gf rfl (w_0 hp) rfl ?_
          refine go_run 0 (F' := (227, [some (.ref 134), u1, u2, u3, u4, u5, some (.int l6), u7, some (.int l8)], [.int (I 3), .ref 134], Wm pre post I A)) rfl ?_
          refine go_pf rfl (w_0 hp) (Nat.le_of_ble_eq_true rfl) rfl (wo_3 hp) ?_
          refine go_run 2 (F' := (193, [some (.ref 134), u1, u2, u3, u4, u5, some (.int l6), u7, some (.int (l8 + (-1)))], [], Wm pre post (upd I 3 (I 3)) A)) rfl ?_
          exact ih hm
      · rw [if_neg q2] at hm ⊢
        refine go_run 0 (F' := (236, [some (.ref 134), u1, u2, u3, u4, u5, some (.int l6), u7, some (.int l8)], [], Wm pre post I A)) rfl ?_
        refine go_run 1 (F' := (237, [some (.ref 134), u1, u2, u3, u4, u5, some (.int l6), u7, some (.int l8)], [.int 0], Wm pre post I A)) rfl ?_
        cases hm
        exact go_end rfl rfl
def x_load_92 (rec41 : (Nat → Int32) → (Nat → Nat → Int32) → Int32 → Int32 → Int32 → Option xR) (n : Nat) (I : Nat → Int32) (A : Nat → Nat → Int32) (l1 l3 l4 : Int32) : Option xR := (rec41 I A l1 l3 (l4 + 1))
theorem g_load_92 {X : ie_X} {d : Nat} {pre post : ie_H} (hp : pre.length = 134) {rec41 : (Nat → Int32) → (Nat → Nat → Int32) → Int32 → Int32 → Int32 → Option xR} (hr41 : ∀ {J : Nat → Int32} {B : Nat → Nat → Int32} {m1 m3 m4 : Int32} {w2 w5 w6 w7 w8 : Option Value} {J' : Nat → Int32} {B' : Nat → Nat → Int32} {r' : Int32}, rec41 J B m1 m3 m4 = some (J', B', r') → Go X (d + 6) 136 (41, [some (.ref 134), some (.int m1), w2, some (.int m3), some (.int m4), w5, w6, w7, w8], [], Wm pre post J B) (.inl (some (.int r'))) (Wm pre post J' B')) {n : Nat} {I : Nat → Int32} {A : Nat → Nat → Int32} {l1 l3 l4 : Int32} {u2 u5 u6 u7 u8 : Option Value} {I' : Nat → Int32} {A' : Nat → Nat → Int32} {r : Int32} (hm : x_load_92 rec41 n I A l1 l3 l4 = some (I', A', r)) : Go X (d + 6) 136 (92, [some (.ref 134), some (.int l1), u2, some (.int l3), some (.int l4), u5, u6, u7, u8], [], Wm pre post I A) (.inl (some (.int r))) (Wm pre post I' A') := by
  unfold x_load_92 at hm
  refine go_run 0 (F' := (92, [some (.ref 134), some (.int l1), u2, some (.int l3), some (.int l4), u5, u6, u7, u8], [], Wm pre post I A)) rfl ?_
  refine go_run 11 (F' := (41, [some (.ref 134), some (.int l1), u2, some (.int l3), some (.int (l4 + 1)), some (.int 0), some (.int 0), u7, u8], [], Wm pre post I A)) rfl ?_
  exact hr41 hm
def x_load_41 : Nat → (Nat → Int32) → (Nat → Nat → Int32) → Int32 → Int32 → Int32 → Option xR
  | 0, _, _, _, _, _ => none
  | n + 1, I, A, l1, l3, l4 => (if I 5 ≤ l4 then (xb (x_take n I A) fun I1 A1 v1 => (some (I1, A1, l3))) else (if ib l4 200 then (if (A 3) (Int32.toNatClampNeg l4) = 7 then (if ib ((A 12) (Int32.toNatClampNeg l4)) 200 then (if (A 3) (Int32.toNatClampNeg ((A 12) (Int32.toNatClampNeg l4))) = 4 then (if (A 13) (Int32.toNatClampNeg l4) = 0 then (xb (x_unaware n I A ((A 12) (Int32.toNatClampNeg l4))) fun I2 A2 v2 => (if v2 = 0 then (x_load_41 n I2 A2 l1 l3 (l4 + 1)) else (xb (x_bitsOf n I2 A2 v2) fun I3 A3 v3 => (if l1 = 0 then (if ib ((A2 12) (Int32.toNatClampNeg l4)) 200 then (x_load_193  n (upd (upd I3 0 2) 2 ((A3 9) (Int32.toNatClampNeg ((A2 12) (Int32.toNatClampNeg l4))))) A3 v2 5) else none) else (if (I3 8) + (l3 + (2 * v3)) ≤ 80 then (if ib ((A2 12) (Int32.toNatClampNeg l4)) 200 then (x_load_41 n (upd I3 0 0) (upA A3 14 (upd (A3 14) (Int32.toNatClampNeg ((A2 12) (Int32.toNatClampNeg l4))) v2)) l1 (l3 + (2 * v3)) (l4 + 1)) else none) else (if ib ((A2 12) (Int32.toNatClampNeg l4)) 200 then (x_load_193  n (upd (upd I3 0 3) 2 ((A3 9) (Int32.toNatClampNeg ((A2 12) (Int32.toNatClampNeg l4))))) A3 v2 5) else none)))))) else (x_load_92 (x_load_41 n) n I A l1 l3 l4)) else (x_load_92 (x_load_41 n) n I A l1 l3 l4)) else none) else (x_load_92 (x_load_41 n) n I A l1 l3 l4)) else none))
theorem g_load_41 {X : ie_X} {d : Nat} {pre post : ie_H} (hp : pre.length = 134) : ∀ (n : Nat) {I : Nat → Int32} {A : Nat → Nat → Int32} {l1 l3 l4 : Int32} {u2 u5 u6 u7 u8 : Option Value} {I' : Nat → Int32} {A' : Nat → Nat → Int32} {r : Int32}, x_load_41 n I A l1 l3 l4 = some (I', A', r) → Go X (d + 6) 136 (41, [some (.ref 134), some (.int l1), u2, some (.int l3), some (.int l4), u5, u6, u7, u8], [], Wm pre post I A) (.inl (some (.int r))) (Wm pre post I' A') := by
  intro n
  induction n with
  | zero => intro I A l1 l3 l4 u2 u5 u6 u7 u8 I' A' r hm; cases hm
  | succ n ih =>
    intro I A l1 l3 l4 u2 u5 u6 u7 u8 I' A' r hm
    unfold x_load_41 at hm
    refine go_run 0 (F' := (41, [some (.ref 134), some (.int l1), u2, some (.int l3), some (.int l4), u5, u6, u7, u8], [], Wm pre post I A)) rfl ?_
    refine go_run 2 (F' := (44, [some (.ref 134), some (.int l1), u2, some (.int l3), some (.int l4), u5, u6, u7, u8], [.ref 134, .int l4], Wm pre post I A)) rfl ?_
    refine go_gf rfl (w_0 hp) rfl ?_
    refine go_run 0 (F' := (47, [some (.ref 134), some (.int l1), u2, some (.int l3), some (.int l4), u5, u6, u7, u8], [.int (I 5), .int l4], Wm pre post I A)) rfl ?_
    refine go_step rfl rfl ?_
    by_cases q1 : I 5 ≤ l4
    · rw [if_pos q1] at hm ⊢
      refine go_run 0 (F' := (253, [some (.ref 134), some (.int l1), u2, some (.int l3), some (.int l4), u5, u6, u7, u8], [], Wm pre post I A)) rfl ?_
      refine go_run 1 (F' := (254, [some (.ref 134), some (.int l1), u2, some (.int l3), some (.int l4), u5, u6, u7, u8], [.ref 134], Wm pre post I A)) rfl ?_
      obtain ⟨I1, A1, v1, e1, hm⟩ := xb_inv hm
      refine go_call (m' := 178) (v := none) (h1 := Wm pre post I1 A1) rfl (by simp only [ie_step, ie_iv, List.drop, w_0 hp]; rfl) ⟨rfl, Nat.le_of_ble_eq_true rfl⟩ (g_take (d := d) hp e1) ?_
      refine go_run 0 (F' := (257, [some (.ref 134), some (.int l1), u2, some (.int l3), some (.int l4), u5, u6, u7, u8], [], Wm pre post I1 A1)) rfl ?_
      refine go_run 1 (F' := (258, [some (.ref 134), some (.int l1), u2, some (.int l3), some (.int l4), u5, u6, u7, u8], [.int l3], Wm pre post I1 A1)) rfl ?_
      cases hm
      exact go_end rfl rfl
    · rw [if_neg q1] at hm ⊢
      refine go_run 0 (F' := (50, [some (.ref 134), some (.int l1), u2, some (.int l3), some (.int l4), u5, u6, u7, u8], [], Wm pre post I A)) rfl ?_
      refine go_run 1 (F' := (51, [some (.ref 134), some (.int l1), u2, some (.int l3), some (.int l4), u5, u6, u7, u8], [.ref 134], Wm pre post I A)) rfl ?_
      refine go_gf rfl (w_0 hp) rfl ?_
      refine go_run 1 (F' := (56, [some (.ref 134), some (.int l1), u2, some (.int l3), some (.int l4), u5, u6, u7, u8], [.int l4, .ref 137], Wm pre post I A)) rfl ?_
      obtain ⟨b2, hm⟩ := gd hm
      refine go_iald rfl (by decide) (w_3 hp) b2 rfl ?_
      refine go_run 1 (F' := (59, [some (.ref 134), some (.int l1), u2, some (.int l3), some (.int l4), u5, u6, u7, u8], [.int 7, .int ((A 3) (Int32.toNatClampNeg l4))], Wm pre post I A)) rfl ?_
      refine go_step rfl rfl ?_
      by_cases q3 : (A 3) (Int32.toNatClampNeg l4) = 7
      · rw [if_pos q3] at hm ⊢
        refine go_run 0 (F' := (62, [some (.ref 134), some (.int l1), u2, some (.int l3), some (.int l4), u5, u6, u7, u8], [], Wm pre post I A)) rfl ?_
        refine go_run 1 (F' := (63, [some (.ref 134), some (.int l1), u2, some (.int l3), some (.int l4), u5, u6, u7, u8], [.ref 134], Wm pre post I A)) rfl ?_
        refine go_gf rfl (w_0 hp) rfl ?_
        refine go_run 1 (F' := (67, [some (.ref 134), some (.int l1), u2, some (.int l3), some (.int l4), u5, u6, u7, u8], [.ref 134, .ref 137], Wm pre post I A)) rfl ?_
        refine go_gf rfl (w_0 hp) rfl ?_
        refine go_run 1 (F' := (72, [some (.ref 134), some (.int l1), u2, some (.int l3), some (.int l4), u5, u6, u7, u8], [.int l4, .ref 146, .ref 137], Wm pre post I A)) rfl ?_
        refine go_iald rfl (by decide) (w_12 hp) b2 rfl ?_
        refine go_run 0 (F' := (73, [some (.ref 134), some (.int l1), u2, some (.int l3), some (.int l4), u5, u6, u7, u8], [.int ((A 12) (Int32.toNatClampNeg l4)), .ref 137], Wm pre post I A)) rfl ?_
        obtain ⟨b4, hm⟩ := gd hm
        refine go_iald rfl (by decide) (w_3 hp) b4 rfl ?_
        refine go_run 1 (F' := (75, [some (.ref 134), some (.int l1), u2, some (.int l3), some (.int l4), u5, u6, u7, u8], [.int 4, .int ((A 3) (Int32.toNatClampNeg ((A 12) (Int32.toNatClampNeg l4))))], Wm pre post I A)) rfl ?_
        refine go_step rfl rfl ?_
        by_cases q5 : (A 3) (Int32.toNatClampNeg ((A 12) (Int32.toNatClampNeg l4))) = 4
        · rw [if_pos q5] at hm ⊢
          refine go_run 0 (F' := (78, [some (.ref 134), some (.int l1), u2, some (.int l3), some (.int l4), u5, u6, u7, u8], [], Wm pre post I A)) rfl ?_
          refine go_run 1 (F' := (79, [some (.ref 134), some (.int l1), u2, some (.int l3), some (.int l4), u5, u6, u7, u8], [.ref 134], Wm pre post I A)) rfl ?_
          refine go_gf rfl (w_0 hp) rfl ?_
          refine go_run 1 (F' := (84, [some (.ref 134), some (.int l1), u2, some (.int l3), some (.int l4), u5, u6, u7, u8], [.int l4, .ref 147], Wm pre post I A)) rfl ?_
          refine go_iald rfl (by decide) (w_13 hp) b2 rfl ?_
          refine go_run 0 (F' := (85, [some (.ref 134), some (.int l1), u2, some (.int l3), some (.int l4), u5, u6, u7, u8], [.int ((A 13) (Int32.toNatClampNeg l4))], Wm pre post I A)) rfl ?_
          refine go_step rfl rfl ?_
          by_cases q6 : (A 13) (Int32.toNatClampNeg l4) = 0
          · rw [if_pos q6] at hm ⊢
            refine go_run 0 (F' := (88, [some (.ref 134), some (.int l1), u2, some (.int l3), some (.int l4), u5, u6, u7, u8], [], Wm pre post I A)) rfl ?_
            refine go_run 7 (F' := (102, [some (.ref 134), some (.int l1), u2, some (.int l3), some (.int l4), some (.int 1), u6, u7, u8], [.ref 134, .ref 134], Wm pre post I A)) rfl ?_
            refine go_gf rfl (w_0 hp) rfl ?_
            refine go_run 1 (F' := (107, [some (.ref 134), some (.int l1), u2, some (.int l3), some (.int l4), some (.int 1), u6, u7, u8], [.int l4, .ref 146, .ref 134], Wm pre post I A)) rfl ?_
            refine go_iald rfl (by decide) (w_12 hp) b2 rfl ?_
            refine go_run 0 (F' := (108, [some (.ref 134), some (.int l1), u2, some (.int l3), some (.int l4), some (.int 1), u6, u7, u8], [.int ((A 12) (Int32.toNatClampNeg l4)), .ref 134], Wm pre post I A)) rfl ?_
            obtain ⟨I2, A2, v2, e2, hm⟩ := xb_inv hm
            refine go_call (m' := 154) (v := some (.int v2)) (h1 := Wm pre post I2 A2) rfl (by simp only [ie_step, ie_iv, List.drop, w_0 hp]; rfl) ⟨rfl, Nat.le_of_ble_eq_true rfl⟩ (g_unaware (d := d) hp e2) ?_
            refine go_run 0 (F' := (111, [some (.ref 134), some (.int l1), u2, some (.int l3), some (.int l4), some (.int 1), u6, u7, u8], [.int v2], Wm pre post I2 A2)) rfl ?_
            refine go_run 3 (F' := (119, [some (.ref 134), some (.int l1), u2, some (.int l3), some (.int l4), some (.int 1), some (.int v2), u7, u8], [.int v2], Wm pre post I2 A2)) rfl ?_
            refine go_step rfl rfl ?_
            by_cases q7 : v2 = 0
            · rw [if_pos q7] at hm ⊢
              refine go_run 0 (F' := (122, [some (.ref 134), some (.int l1), u2, some (.int l3), some (.int l4), some (.int 1), some (.int v2), u7, u8], [], Wm pre post I2 A2)) rfl ?_
              refine go_run 3 (F' := (41, [some (.ref 134), some (.int l1), u2, some (.int l3), some (.int (l4 + 1)), some (.int 1), some (.int v2), u7, u8], [], Wm pre post I2 A2)) rfl ?_
              exact ih hm
            · rw [if_neg q7] at hm ⊢
              refine go_run 0 (F' := (125, [some (.ref 134), some (.int l1), u2, some (.int l3), some (.int l4), some (.int 1), some (.int v2), u7, u8], [], Wm pre post I2 A2)) rfl ?_
              refine go_run 1 (F' := (126, [some (.ref 134), some (.int l1), u2, some (.int l3), some (.int l4), some (.int 1), some (.int v2), u7, u8], [.ref 134], Wm pre post I2 A2)) rfl ?_
              refine go_gf rfl (w_0 hp) rfl ?_
              refine go_run 1 (F' := (131, [some (.ref 134), some (.int l1), u2, some (.int l3), some (.int l4), some (.int 1), some (.int v2), u7, u8], [.int l4, .ref 146], Wm pre post I2 A2)) rfl ?_
              refine go_iald rfl (by decide) (w_12 hp) b2 rfl ?_
              refine go_run 4 (F' := (138, [some (.ref 134), some (.int l1), u2, some (.int l3), some (.int l4), some (.int 1), some (.int v2), some (.int ((A2 12) (Int32.toNatClampNeg l4))), u8], [.int v2, .int 2, .int l3], Wm pre post I2 A2)) rfl ?_
              obtain ⟨I3, A3, v3, e3, hm⟩ := xb_inv hm
              refine go_call (m' := 177) (v := some (.int v3)) (h1 := Wm pre post I3 A3) rfl rfl ⟨rfl, Nat.le_of_ble_eq_true rfl⟩ (g_bitsOf (d := d + 5) hp e3) ?_
              refine go_run 0 (F' := (141, [some (.ref 134), some (.int l1), u2, some (.int l3), some (.int l4), some (.int 1), some (.int v2), some (.int ((A2 12) (Int32.toNatClampNeg l4))), u8], [.int v3, .int 2, .int l3], Wm pre post I3 A3)) rfl ?_
              refine go_run 5 (F' := (146, [some (.ref 134), some (.int l1), u2, some (.int (l3 + (2 * v3))), some (.int l4), some (.int 1), some (.int v2), some (.int ((A2 12) (Int32.toNatClampNeg l4))), u8], [.int l1, .ref 134], Wm pre post I3 A3)) rfl ?_
              refine go_step rfl rfl ?_
              by_cases q8 : l1 = 0
              · rw [if_pos q8] at hm ⊢
                refine go_run 0 (F' := (149, [some (.ref 134), some (.int l1), u2, some (.int (l3 + (2 * v3))), some (.int l4), some (.int 1), some (.int v2), some (.int ((A2 12) (Int32.toNatClampNeg l4))), u8], [.ref 134], Wm pre post I3 A3)) rfl ?_
                refine go_run 2 (F' := (169, [some (.ref 134), some (.int l1), u2, some (.int (l3 + (2 * v3))), some (.int l4), some (.int 1), some (.int v2), some (.int ((A2 12) (Int32.toNatClampNeg l4))), u8], [.int 2, .ref 134], Wm pre post I3 A3)) rfl ?_
                refine go_pf rfl (w_0 hp) (Nat.le_of_ble_eq_true rfl) rfl (wo_0 hp) ?_
                refine go_run 1 (F' := (173, [some (.ref 134), some (.int l1), u2, some (.int (l3 + (2 * v3))), some (.int l4), some (.int 1), some (.int v2), some (.int ((A2 12) (Int32.toNatClampNeg l4))), u8], [.ref 134], Wm pre post (upd I3 0 2) A3)) rfl ?_
                refine go_gf rfl (w_0 hp) rfl ?_
                refine go_run 3 (F' := (181, [some (.ref 134), some (.int l1), u2, some (.int (l3 + (2 * v3))), some (.int l4), some (.int 1), some (.int v2), some (.int ((A2 12) (Int32.toNatClampNeg l4))), u8], [.ref 134, .ref 134], Wm pre post (upd I3 0 2) A3)) rfl ?_
                refine go_gf rfl (w_0 hp) rfl ?_
                refine go_run 1 (F' := (186, [some (.ref 134), some (.int l1), u2, some (.int (l3 + (2 * v3))), some (.int l4), some (.int 1), some (.int v2), some (.int ((A2 12) (Int32.toNatClampNeg l4))), u8], [.int ((A2 12) (Int32.toNatClampNeg l4)), .ref 143, .ref 134], Wm pre post (upd I3 0 2) A3)) rfl ?_
                obtain ⟨b9, hm⟩ := gd hm
                refine go_iald rfl (by decide) (w_9 hp) b9 rfl ?_
                refine go_run 0 (F' := (187, [some (.ref 134), some (.int l1), u2, some (.int (l3 + (2 * v3))), some (.int l4), some (.int 1), some (.int v2), some (.int ((A2 12) (Int32.toNatClampNeg l4))), u8], [.int ((A3 9) (Int32.toNatClampNeg ((A2 12) (Int32.toNatClampNeg l4)))), .ref 134], Wm pre post (upd I3 0 2) A3)) rfl ?_
                refine go_pf rfl (w_0 hp) (Nat.le_of_ble_eq_true rfl) rfl (wo_2 hp) ?_
                refine go_run 2 (F' := (193, [some (.ref 134), some (.int l1), u2, some (.int (l3 + (2 * v3))), some (.int l4), some (.int 1), some (.int v2), some (.int ((A2 12) (Int32.toNatClampNeg l4))), some (.int 5)], [], Wm pre post (upd (upd I3 0 2) 2 ((A3 9) (Int32.toNatClampNeg ((A2 12) (Int32.toNatClampNeg l4))))) A3)) rfl ?_
                exact g_load_193 hp  n hm
              · rw [if_neg q8] at hm ⊢
                refine go_run 0 (F' := (153, [some (.ref 134), some (.int l1), u2, some (.int (l3 + (2 * v3))), some (.int l4), some (.int 1), some (.int v2), some (.int ((A2 12) (Int32.toNatClampNeg l4))), u8], [.ref 134], Wm pre post I3 A3)) rfl ?_
                refine go_run 1 (F' := (154, [some (.ref 134), some (.int l1), u2, some (.int (l3 + (2 * v3))), some (.int l4), some (.int 1), some (.int v2), some (.int ((A2 12) (Int32.toNatClampNeg l4))), u8], [.ref 134, .ref 134], Wm pre post I3 A3)) rfl ?_
                refine go_gf rfl (w_0 hp) rfl ?_
                refine go_run 3 (F' := (161, [some (.ref 134), some (.int l1), u2, some (.int (l3 + (2 * v3))), some (.int l4), some (.int 1), some (.int v2), some (.int ((A2 12) (Int32.toNatClampNeg l4))), u8], [.int 80, .int ((I3 8) + (l3 + (2 * v3))), .ref 134], Wm pre post I3 A3)) rfl ?_
                refine go_step rfl rfl ?_
                by_cases q10 : (I3 8) + (l3 + (2 * v3)) ≤ 80
                · rw [if_pos q10] at hm ⊢
                  refine go_run 0 (F' := (168, [some (.ref 134), some (.int l1), u2, some (.int (l3 + (2 * v3))), some (.int l4), some (.int 1), some (.int v2), some (.int ((A2 12) (Int32.toNatClampNeg l4))), u8], [.ref 134], Wm pre post I3 A3)) rfl ?_
                  refine go_run 1 (F' := (169, [some (.ref 134), some (.int l1), u2, some (.int (l3 + (2 * v3))), some (.int l4), some (.int 1), some (.int v2), some (.int ((A2 12) (Int32.toNatClampNeg l4))), u8], [.int 0, .ref 134], Wm pre post I3 A3)) rfl ?_
                  refine go_pf rfl (w_0 hp) (Nat.le_of_ble_eq_true rfl) rfl (wo_0 hp) ?_
                  refine go_run 1 (F' := (173, [some (.ref 134), some (.int l1), u2, some (.int (l3 + (2 * v3))), some (.int l4), some (.int 1), some (.int v2), some (.int ((A2 12) (Int32.toNatClampNeg l4))), u8], [.ref 134], Wm pre post (upd I3 0 0) A3)) rfl ?_
                  refine go_gf rfl (w_0 hp) rfl ?_
                  refine go_run 2 (F' := (239, [some (.ref 134), some (.int l1), u2, some (.int (l3 + (2 * v3))), some (.int l4), some (.int 1), some (.int v2), some (.int ((A2 12) (Int32.toNatClampNeg l4))), u8], [.ref 134], Wm pre post (upd I3 0 0) A3)) rfl ?_
                  refine go_gf rfl (w_0 hp) rfl ?_
                  refine go_run 2 (F' := (246, [some (.ref 134), some (.int l1), u2, some (.int (l3 + (2 * v3))), some (.int l4), some (.int 1), some (.int v2), some (.int ((A2 12) (Int32.toNatClampNeg l4))), u8], [.int v2, .int ((A2 12) (Int32.toNatClampNeg l4)), .ref 148], Wm pre post (upd I3 0 0) A3)) rfl ?_
                  obtain ⟨b11, hm⟩ := gd hm
                  refine go_iast rfl (w_14 hp) b11 (ws_14 hp) ?_
                  refine go_run 2 (F' := (41, [some (.ref 134), some (.int l1), u2, some (.int (l3 + (2 * v3))), some (.int (l4 + 1)), some (.int 1), some (.int v2), some (.int ((A2 12) (Int32.toNatClampNeg l4))), u8], [], Wm pre post (upd I3 0 0) (upA A3 14 (upd (A3 14) (Int32.toNatClampNeg ((A2 12) (Int32.toNatClampNeg l4))) v2)))) rfl ?_
                  exact ih hm
                · rw [if_neg q10] at hm ⊢
                  refine go_run 0 (F' := (164, [some (.ref 134), some (.int l1), u2, some (.int (l3 + (2 * v3))), some (.int l4), some (.int 1), some (.int v2), some (.int ((A2 12) (Int32.toNatClampNeg l4))), u8], [.ref 134], Wm pre post I3 A3)) rfl ?_
                  refine go_run 2 (F' := (169, [some (.ref 134), some (.int l1), u2, some (.int (l3 + (2 * v3))), some (.int l4), some (.int 1), some (.int v2), some (.int ((A2 12) (Int32.toNatClampNeg l4))), u8], [.int 3, .ref 134], Wm pre post I3 A3)) rfl ?_
                  refine go_pf rfl (w_0 hp) (Nat.le_of_ble_eq_true rfl) rfl (wo_0 hp) ?_
                  refine go_run 1 (F' := (173, [some (.ref 134), some (.int l1), u2, some (.int (l3 + (2 * v3))), some (.int l4), some (.int 1), some (.int v2), some (.int ((A2 12) (Int32.toNatClampNeg l4))), u8], [.ref 134], Wm pre post (upd I3 0 3) A3)) rfl ?_
                  refine go_gf rfl (w_0 hp) rfl ?_
                  refine go_run 3 (F' := (181, [some (.ref 134), some (.int l1), u2, some (.int (l3 + (2 * v3))), some (.int l4), some (.int 1), some (.int v2), some (.int ((A2 12) (Int32.toNatClampNeg l4))), u8], [.ref 134, .ref 134], Wm pre post (upd I3 0 3) A3)) rfl ?_
                  refine go_gf rfl (w_0 hp) rfl ?_
                  refine go_run 1 (F' := (186, [some (.ref 134), some (.int l1), u2, some (.int (l3 + (2 * v3))), some (.int l4), some (.int 1), some (.int v2), some (.int ((A2 12) (Int32.toNatClampNeg l4))), u8], [.int ((A2 12) (Int32.toNatClampNeg l4)), .ref 143, .ref 134], Wm pre post (upd I3 0 3) A3)) rfl ?_
                  obtain ⟨b12, hm⟩ := gd hm
                  refine go_iald rfl (by decide) (w_9 hp) b12 rfl ?_
                  refine go_run 0 (F' := (187, [some (.ref 134), some (.int l1), u2, some (.int (l3 + (2 * v3))), some (.int l4), some (.int 1), some (.int v2), some (.int ((A2 12) (Int32.toNatClampNeg l4))), u8], [.int ((A3 9) (Int32.toNatClampNeg ((A2 12) (Int32.toNatClampNeg l4)))), .ref 134], Wm pre post (upd I3 0 3) A3)) rfl ?_
                  refine go_pf rfl (w_0 hp) (Nat.le_of_ble_eq_true rfl) rfl (wo_2 hp) ?_
                  refine go_run 2 (F' := (193, [some (.ref 134), some (.int l1), u2, some (.int (l3 + (2 * v3))), some (.int l4), some (.int 1), some (.int v2), some (.int ((A2 12) (Int32.toNatClampNeg l4))), some (.int 5)], [], Wm pre post (upd (upd I3 0 3) 2 ((A3 9) (Int32.toNatClampNeg ((A2 12) (Int32.toNatClampNeg l4))))) A3)) rfl ?_
                  exact g_load_193 hp  n hm
          · rw [if_neg q6] at hm ⊢
            refine go_run 0 (F' := (92, [some (.ref 134), some (.int l1), u2, some (.int l3), some (.int l4), u5, u6, u7, u8], [], Wm pre post I A)) rfl ?_
            refine go_run 0 (F' := (92, [some (.ref 134), some (.int l1), u2, some (.int l3), some (.int l4), u5, u6, u7, u8], [], Wm pre post I A)) rfl ?_
            exact g_load_92 hp (fun z => ih z) hm
        · rw [if_neg q5] at hm ⊢
          refine go_run 0 (F' := (92, [some (.ref 134), some (.int l1), u2, some (.int l3), some (.int l4), u5, u6, u7, u8], [], Wm pre post I A)) rfl ?_
          refine go_run 0 (F' := (92, [some (.ref 134), some (.int l1), u2, some (.int l3), some (.int l4), u5, u6, u7, u8], [], Wm pre post I A)) rfl ?_
          exact g_load_92 hp (fun z => ih z) hm
      · rw [if_neg q3] at hm ⊢
        refine go_run 0 (F' := (92, [some (.ref 134), some (.int l1), u2, some (.int l3), some (.int l4), u5, u6, u7, u8], [], Wm pre post I A)) rfl ?_
        refine go_run 0 (F' := (92, [some (.ref 134), some (.int l1), u2, some (.int l3), some (.int l4), u5, u6, u7, u8], [], Wm pre post I A)) rfl ?_
        exact g_load_92 hp (fun z => ih z) hm
def x_load (n : Nat) (I : Nat → Int32) (A : Nat → Nat → Int32) (a1 : Int32) : Option xR := (xb (x_isPlay n (upd (upd (upd I 0 0) 2 (-1)) 3 (-1)) A) fun I1 A1 v1 => (if v1 = 0 then (some (upd (upd I1 1 0) 0 1, A1, 0)) else (x_load_41  n (upd I1 1 0) A1 a1 0 0)))
theorem g_load {X : ie_X} {d : Nat} {pre post : ie_H} (hp : pre.length = 134) {n : Nat} {I : Nat → Int32} {A : Nat → Nat → Int32} {a1 : Int32} {I' : Nat → Int32} {A' : Nat → Nat → Int32} {r : Int32} (hm : x_load n I A a1 = some (I', A', r)) : Go X (d + 6) 136 (0, ie_en 136 [.ref 134, .int a1], [], Wm pre post I A) (.inl (some (.int r))) (Wm pre post I' A') := by
  unfold x_load at hm
  refine go_run 0 (F' := (0, [some (.ref 134), some (.int a1), none, none, none, none, none, none, none], [], Wm pre post I A)) rfl ?_
  refine go_run 2 (F' := (2, [some (.ref 134), some (.int a1), none, none, none, none, none, none, none], [.int 0, .ref 134], Wm pre post I A)) rfl ?_
  refine go_pf rfl (w_0 hp) (Nat.le_of_ble_eq_true rfl) rfl (wo_0 hp) ?_
  refine go_run 2 (F' := (7, [some (.ref 134), some (.int a1), none, none, none, none, none, none, none], [.int (-1), .ref 134], Wm pre post (upd I 0 0) A)) rfl ?_
  refine go_pf rfl (w_0 hp) (Nat.le_of_ble_eq_true rfl) rfl (wo_2 hp) ?_
  refine go_run 2 (F' := (12, [some (.ref 134), some (.int a1), none, none, none, none, none, none, none], [.int (-1), .ref 134], Wm pre post (upd (upd I 0 0) 2 (-1)) A)) rfl ?_
  refine go_pf rfl (w_0 hp) (Nat.le_of_ble_eq_true rfl) rfl (wo_3 hp) ?_
  refine go_run 1 (F' := (16, [some (.ref 134), some (.int a1), none, none, none, none, none, none, none], [.ref 134], Wm pre post (upd (upd (upd I 0 0) 2 (-1)) 3 (-1)) A)) rfl ?_
  obtain ⟨I1, A1, v1, e1, hm⟩ := xb_inv hm
  refine go_call (m' := 137) (v := some (.int v1)) (h1 := Wm pre post I1 A1) rfl (by simp only [ie_step, ie_iv, List.drop, w_0 hp]; rfl) ⟨rfl, Nat.le_of_ble_eq_true rfl⟩ (g_isPlay (d := d) hp e1) ?_
  refine go_run 0 (F' := (19, [some (.ref 134), some (.int a1), none, none, none, none, none, none, none], [.int v1], Wm pre post I1 A1)) rfl ?_
  refine go_run 3 (F' := (22, [some (.ref 134), some (.int a1), some (.int v1), none, none, none, none, none, none], [.int 0, .ref 134], Wm pre post I1 A1)) rfl ?_
  refine go_pf rfl (w_0 hp) (Nat.le_of_ble_eq_true rfl) rfl (wo_1 hp) ?_
  refine go_run 1 (F' := (26, [some (.ref 134), some (.int a1), some (.int v1), none, none, none, none, none, none], [.int v1], Wm pre post (upd I1 1 0) A1)) rfl ?_
  refine go_step rfl rfl ?_
  by_cases q1 : v1 = 0
  · rw [if_pos q1] at hm ⊢
    refine go_run 0 (F' := (29, [some (.ref 134), some (.int a1), some (.int v1), none, none, none, none, none, none], [], Wm pre post (upd I1 1 0) A1)) rfl ?_
    refine go_run 2 (F' := (31, [some (.ref 134), some (.int a1), some (.int v1), none, none, none, none, none, none], [.int 1, .ref 134], Wm pre post (upd I1 1 0) A1)) rfl ?_
    refine go_pf rfl (w_0 hp) (Nat.le_of_ble_eq_true rfl) rfl (wo_0 hp) ?_
    refine go_run 1 (F' := (35, [some (.ref 134), some (.int a1), some (.int v1), none, none, none, none, none, none], [.int 0], Wm pre post (upd (upd I1 1 0) 0 1) A1)) rfl ?_
    cases hm
    exact go_end rfl rfl
  · rw [if_neg q1] at hm ⊢
    refine go_run 0 (F' := (36, [some (.ref 134), some (.int a1), some (.int v1), none, none, none, none, none, none], [], Wm pre post (upd I1 1 0) A1)) rfl ?_
    refine go_run 4 (F' := (41, [some (.ref 134), some (.int a1), some (.int v1), some (.int 0), some (.int 0), none, none, none, none], [], Wm pre post (upd I1 1 0) A1)) rfl ?_
    exact g_load_41 hp  n hm
def x_fault (I : Nat → Int32) (A : Nat → Nat → Int32) : Option xR := (some (upd I 0 0, A, I 2))
theorem g_fault {X : ie_X} {d : Nat} {pre post : ie_H} (hp : pre.length = 134) {I : Nat → Int32} {A : Nat → Nat → Int32} {I' : Nat → Int32} {A' : Nat → Nat → Int32} {r : Int32} (hm : x_fault I A = some (I', A', r)) : Go X (d + 0) 180 (0, ie_en 180 [.ref 134], [], Wm pre post I A) (.inl (some (.int r))) (Wm pre post I' A') := by
  unfold x_fault at hm
  refine go_run 0 (F' := (0, [some (.ref 134)], [], Wm pre post I A)) rfl ?_
  refine go_run 2 (F' := (2, [some (.ref 134)], [.int 0, .ref 134], Wm pre post I A)) rfl ?_
  refine go_pf rfl (w_0 hp) (Nat.le_of_ble_eq_true rfl) rfl (wo_0 hp) ?_
  refine go_run 1 (F' := (6, [some (.ref 134)], [.ref 134], Wm pre post (upd I 0 0) A)) rfl ?_
  refine go_gf rfl (w_0 hp) rfl ?_
  refine go_run 0 (F' := (9, [some (.ref 134)], [.int (I 2)], Wm pre post (upd I 0 0) A)) rfl ?_
  cases hm
  exact go_end rfl rfl
def x_who (I : Nat → Int32) (A : Nat → Nat → Int32) : Option xR := (some (upd I 0 0, A, I 3))
theorem g_who {X : ie_X} {d : Nat} {pre post : ie_H} (hp : pre.length = 134) {I : Nat → Int32} {A : Nat → Nat → Int32} {I' : Nat → Int32} {A' : Nat → Nat → Int32} {r : Int32} (hm : x_who I A = some (I', A', r)) : Go X (d + 0) 181 (0, ie_en 181 [.ref 134], [], Wm pre post I A) (.inl (some (.int r))) (Wm pre post I' A') := by
  unfold x_who at hm
  refine go_run 0 (F' := (0, [some (.ref 134)], [], Wm pre post I A)) rfl ?_
  refine go_run 2 (F' := (2, [some (.ref 134)], [.int 0, .ref 134], Wm pre post I A)) rfl ?_
  refine go_pf rfl (w_0 hp) (Nat.le_of_ble_eq_true rfl) rfl (wo_0 hp) ?_
  refine go_run 1 (F' := (6, [some (.ref 134)], [.ref 134], Wm pre post (upd I 0 0) A)) rfl ?_
  refine go_gf rfl (w_0 hp) rfl ?_
  refine go_run 0 (F' := (9, [some (.ref 134)], [.int (I 3)], Wm pre post (upd I 0 0) A)) rfl ?_
  cases hm
  exact go_end rfl rfl
def x_noParty (a1 : Int32) : Int32 := (if a1 < 0 then 1 else (if a1 ≤ 5 then 0 else 1))
theorem g_noParty {X : ie_X} {d : Nat} {h : ie_H} (a1 : Int32) : Go X (d + 0) 183 (0, ie_en 183 [.int a1], [], h) (.inl (some (.int (x_noParty a1)))) h := by
  generalize hm : x_noParty a1 = r
  unfold x_noParty at hm
  refine go_run 0 (F' := (0, [some (.int a1)], [], h)) rfl ?_
  refine go_run 1 (F' := (1, [some (.int a1)], [.int a1], h)) rfl ?_
  refine go_step rfl rfl ?_
  by_cases q1 : a1 < 0
  · rw [if_pos q1] at hm ⊢
    refine go_run 0 (F' := (9, [some (.int a1)], [], h)) rfl ?_
    refine go_run 2 (F' := (14, [some (.int a1)], [.int 1], h)) rfl ?_
    (cases hm; exact go_end rfl rfl)
  · rw [if_neg q1] at hm ⊢
    refine go_run 0 (F' := (4, [some (.int a1)], [], h)) rfl ?_
    refine go_run 2 (F' := (6, [some (.int a1)], [.int 5, .int a1], h)) rfl ?_
    refine go_step rfl rfl ?_
    by_cases q2 : a1 ≤ 5
    · rw [if_pos q2] at hm ⊢
      refine go_run 0 (F' := (13, [some (.int a1)], [], h)) rfl ?_
      refine go_run 1 (F' := (14, [some (.int a1)], [.int 0], h)) rfl ?_
      (cases hm; exact go_end rfl rfl)
    · rw [if_neg q2] at hm ⊢
      refine go_run 0 (F' := (9, [some (.int a1)], [], h)) rfl ?_
      refine go_run 2 (F' := (14, [some (.int a1)], [.int 1], h)) rfl ?_
      (cases hm; exact go_end rfl rfl)
def x_length (I : Nat → Int32) (A : Nat → Nat → Int32) (a1 : Int32) : Option xR := (if x_noParty a1 = 0 then (if I 10 = 0 then (some (upd I 0 2, A, 0)) else (if ib a1 6 then (some (upd I 0 0, A, (A 27) (Int32.toNatClampNeg a1))) else none)) else (some (upd I 0 1, A, 0)))
theorem g_length {X : ie_X} {d : Nat} {pre post : ie_H} (hp : pre.length = 134) {I : Nat → Int32} {A : Nat → Nat → Int32} {a1 : Int32} {I' : Nat → Int32} {A' : Nat → Nat → Int32} {r : Int32} (hm : x_length I A a1 = some (I', A', r)) : Go X (d + 1) 182 (0, ie_en 182 [.ref 134, .int a1], [], Wm pre post I A) (.inl (some (.int r))) (Wm pre post I' A') := by
  unfold x_length at hm
  refine go_run 0 (F' := (0, [some (.ref 134), some (.int a1)], [], Wm pre post I A)) rfl ?_
  refine go_run 2 (F' := (2, [some (.ref 134), some (.int a1)], [.int a1, .ref 134], Wm pre post I A)) rfl ?_
  refine go_call (m' := 183) (v := some (.int (x_noParty a1))) (h1 := Wm pre post I A) rfl rfl ⟨rfl, Nat.le_of_ble_eq_true rfl⟩ (g_noParty _) ?_
  refine go_run 0 (F' := (5, [some (.ref 134), some (.int a1)], [.int (x_noParty a1), .ref 134], Wm pre post I A)) rfl ?_
  refine go_run 0 (F' := (5, [some (.ref 134), some (.int a1)], [.int (x_noParty a1), .ref 134], Wm pre post I A)) rfl ?_
  refine go_step rfl rfl ?_
  by_cases q1 : x_noParty a1 = 0
  · rw [if_pos q1] at hm ⊢
    refine go_run 0 (F' := (12, [some (.ref 134), some (.int a1)], [.ref 134], Wm pre post I A)) rfl ?_
    refine go_run 1 (F' := (13, [some (.ref 134), some (.int a1)], [.ref 134, .ref 134], Wm pre post I A)) rfl ?_
    refine go_gf rfl (w_0 hp) rfl ?_
    refine go_run 0 (F' := (16, [some (.ref 134), some (.int a1)], [.int (I 10), .ref 134], Wm pre post I A)) rfl ?_
    refine go_step rfl rfl ?_
    by_cases q2 : I 10 = 0
    · rw [if_pos q2] at hm ⊢
      refine go_run 0 (F' := (19, [some (.ref 134), some (.int a1)], [.ref 134], Wm pre post I A)) rfl ?_
      refine go_run 2 (F' := (24, [some (.ref 134), some (.int a1)], [.int 2, .ref 134], Wm pre post I A)) rfl ?_
      refine go_pf rfl (w_0 hp) (Nat.le_of_ble_eq_true rfl) rfl (wo_0 hp) ?_
      refine go_run 1 (F' := (28, [some (.ref 134), some (.int a1)], [.ref 134], Wm pre post (upd I 0 2) A)) rfl ?_
      refine go_gf rfl (w_0 hp) rfl ?_
      refine go_run 2 (F' := (44, [some (.ref 134), some (.int a1)], [.int 0], Wm pre post (upd I 0 2) A)) rfl ?_
      cases hm
      exact go_end rfl rfl
    · rw [if_neg q2] at hm ⊢
      refine go_run 0 (F' := (23, [some (.ref 134), some (.int a1)], [.ref 134], Wm pre post I A)) rfl ?_
      refine go_run 1 (F' := (24, [some (.ref 134), some (.int a1)], [.int 0, .ref 134], Wm pre post I A)) rfl ?_
      refine go_pf rfl (w_0 hp) (Nat.le_of_ble_eq_true rfl) rfl (wo_0 hp) ?_
      refine go_run 1 (F' := (28, [some (.ref 134), some (.int a1)], [.ref 134], Wm pre post (upd I 0 0) A)) rfl ?_
      refine go_gf rfl (w_0 hp) rfl ?_
      refine go_run 2 (F' := (35, [some (.ref 134), some (.int a1)], [.ref 134], Wm pre post (upd I 0 0) A)) rfl ?_
      refine go_gf rfl (w_0 hp) rfl ?_
      refine go_run 1 (F' := (39, [some (.ref 134), some (.int a1)], [.int a1, .ref 161], Wm pre post (upd I 0 0) A)) rfl ?_
      obtain ⟨b3, hm⟩ := gd hm
      refine go_iald rfl (by decide) (w_27 hp) b3 rfl ?_
      refine go_run 1 (F' := (44, [some (.ref 134), some (.int a1)], [.int ((A 27) (Int32.toNatClampNeg a1))], Wm pre post (upd I 0 0) A)) rfl ?_
      cases hm
      exact go_end rfl rfl
  · rw [if_neg q1] at hm ⊢
    refine go_run 0 (F' := (8, [some (.ref 134), some (.int a1)], [.ref 134], Wm pre post I A)) rfl ?_
    refine go_run 2 (F' := (24, [some (.ref 134), some (.int a1)], [.int 1, .ref 134], Wm pre post I A)) rfl ?_
    refine go_pf rfl (w_0 hp) (Nat.le_of_ble_eq_true rfl) rfl (wo_0 hp) ?_
    refine go_run 1 (F' := (28, [some (.ref 134), some (.int a1)], [.ref 134], Wm pre post (upd I 0 1) A)) rfl ?_
    refine go_gf rfl (w_0 hp) rfl ?_
    refine go_run 2 (F' := (44, [some (.ref 134), some (.int a1)], [.int 0], Wm pre post (upd I 0 1) A)) rfl ?_
    cases hm
    exact go_end rfl rfl
def x_letter (I : Nat → Int32) (A : Nat → Nat → Int32) (a1 a2 : Int32) : Option xR := (if x_noParty a1 = 0 then (if I 10 = 0 then (some (upd I 0 2, A, 0)) else (if a2 < 0 then (some (upd I 0 3, A, 0)) else (if ib a1 6 then (if a2 < (A 27) (Int32.toNatClampNeg a1) then (if ib ((1000 * a1) + a2) 6000 then (some (upd I 0 0, A, (A 26) (Int32.toNatClampNeg ((1000 * a1) + a2)))) else none) else (some (upd I 0 3, A, 0))) else none))) else (some (upd I 0 1, A, 0)))
theorem g_letter {X : ie_X} {d : Nat} {pre post : ie_H} (hp : pre.length = 134) {I : Nat → Int32} {A : Nat → Nat → Int32} {a1 a2 : Int32} {I' : Nat → Int32} {A' : Nat → Nat → Int32} {r : Int32} (hm : x_letter I A a1 a2 = some (I', A', r)) : Go X (d + 1) 184 (0, ie_en 184 [.ref 134, .int a1, .int a2], [], Wm pre post I A) (.inl (some (.int r))) (Wm pre post I' A') := by
  unfold x_letter at hm
  refine go_run 0 (F' := (0, [some (.ref 134), some (.int a1), some (.int a2)], [], Wm pre post I A)) rfl ?_
  refine go_run 2 (F' := (2, [some (.ref 134), some (.int a1), some (.int a2)], [.int a1, .ref 134], Wm pre post I A)) rfl ?_
  refine go_call (m' := 183) (v := some (.int (x_noParty a1))) (h1 := Wm pre post I A) rfl rfl ⟨rfl, Nat.le_of_ble_eq_true rfl⟩ (g_noParty _) ?_
  refine go_run 0 (F' := (5, [some (.ref 134), some (.int a1), some (.int a2)], [.int (x_noParty a1), .ref 134], Wm pre post I A)) rfl ?_
  refine go_run 0 (F' := (5, [some (.ref 134), some (.int a1), some (.int a2)], [.int (x_noParty a1), .ref 134], Wm pre post I A)) rfl ?_
  refine go_step rfl rfl ?_
  by_cases q1 : x_noParty a1 = 0
  · rw [if_pos q1] at hm ⊢
    refine go_run 0 (F' := (12, [some (.ref 134), some (.int a1), some (.int a2)], [.ref 134], Wm pre post I A)) rfl ?_
    refine go_run 1 (F' := (13, [some (.ref 134), some (.int a1), some (.int a2)], [.ref 134, .ref 134], Wm pre post I A)) rfl ?_
    refine go_gf rfl (w_0 hp) rfl ?_
    refine go_run 0 (F' := (16, [some (.ref 134), some (.int a1), some (.int a2)], [.int (I 10), .ref 134], Wm pre post I A)) rfl ?_
    refine go_step rfl rfl ?_
    by_cases q2 : I 10 = 0
    · rw [if_pos q2] at hm ⊢
      refine go_run 0 (F' := (19, [some (.ref 134), some (.int a1), some (.int a2)], [.ref 134], Wm pre post I A)) rfl ?_
      refine go_run 2 (F' := (42, [some (.ref 134), some (.int a1), some (.int a2)], [.int 2, .ref 134], Wm pre post I A)) rfl ?_
      refine go_pf rfl (w_0 hp) (Nat.le_of_ble_eq_true rfl) rfl (wo_0 hp) ?_
      refine go_run 1 (F' := (46, [some (.ref 134), some (.int a1), some (.int a2)], [.ref 134], Wm pre post (upd I 0 2) A)) rfl ?_
      refine go_gf rfl (w_0 hp) rfl ?_
      refine go_run 2 (F' := (68, [some (.ref 134), some (.int a1), some (.int a2)], [.int 0], Wm pre post (upd I 0 2) A)) rfl ?_
      cases hm
      exact go_end rfl rfl
    · rw [if_neg q2] at hm ⊢
      refine go_run 0 (F' := (23, [some (.ref 134), some (.int a1), some (.int a2)], [.ref 134], Wm pre post I A)) rfl ?_
      refine go_run 1 (F' := (24, [some (.ref 134), some (.int a1), some (.int a2)], [.int a2, .ref 134], Wm pre post I A)) rfl ?_
      refine go_step rfl rfl ?_
      by_cases q3 : a2 < 0
      · rw [if_pos q3] at hm ⊢
        refine go_run 0 (F' := (37, [some (.ref 134), some (.int a1), some (.int a2)], [.ref 134], Wm pre post I A)) rfl ?_
        refine go_run 2 (F' := (42, [some (.ref 134), some (.int a1), some (.int a2)], [.int 3, .ref 134], Wm pre post I A)) rfl ?_
        refine go_pf rfl (w_0 hp) (Nat.le_of_ble_eq_true rfl) rfl (wo_0 hp) ?_
        refine go_run 1 (F' := (46, [some (.ref 134), some (.int a1), some (.int a2)], [.ref 134], Wm pre post (upd I 0 3) A)) rfl ?_
        refine go_gf rfl (w_0 hp) rfl ?_
        refine go_run 2 (F' := (68, [some (.ref 134), some (.int a1), some (.int a2)], [.int 0], Wm pre post (upd I 0 3) A)) rfl ?_
        cases hm
        exact go_end rfl rfl
      · rw [if_neg q3] at hm ⊢
        refine go_run 0 (F' := (27, [some (.ref 134), some (.int a1), some (.int a2)], [.ref 134], Wm pre post I A)) rfl ?_
        refine go_run 2 (F' := (29, [some (.ref 134), some (.int a1), some (.int a2)], [.ref 134, .int a2, .ref 134], Wm pre post I A)) rfl ?_
        refine go_gf rfl (w_0 hp) rfl ?_
        refine go_run 1 (F' := (33, [some (.ref 134), some (.int a1), some (.int a2)], [.int a1, .ref 161, .int a2, .ref 134], Wm pre post I A)) rfl ?_
        obtain ⟨b4, hm⟩ := gd hm
        refine go_iald rfl (by decide) (w_27 hp) b4 rfl ?_
        refine go_run 0 (F' := (34, [some (.ref 134), some (.int a1), some (.int a2)], [.int ((A 27) (Int32.toNatClampNeg a1)), .int a2, .ref 134], Wm pre post I A)) rfl ?_
        refine go_step rfl rfl ?_
        by_cases q5 : a2 < (A 27) (Int32.toNatClampNeg a1)
        · rw [if_pos q5] at hm ⊢
          refine go_run 0 (F' := (41, [some (.ref 134), some (.int a1), some (.int a2)], [.ref 134], Wm pre post I A)) rfl ?_
          refine go_run 1 (F' := (42, [some (.ref 134), some (.int a1), some (.int a2)], [.int 0, .ref 134], Wm pre post I A)) rfl ?_
          refine go_pf rfl (w_0 hp) (Nat.le_of_ble_eq_true rfl) rfl (wo_0 hp) ?_
          refine go_run 1 (F' := (46, [some (.ref 134), some (.int a1), some (.int a2)], [.ref 134], Wm pre post (upd I 0 0) A)) rfl ?_
          refine go_gf rfl (w_0 hp) rfl ?_
          refine go_run 2 (F' := (53, [some (.ref 134), some (.int a1), some (.int a2)], [.ref 134], Wm pre post (upd I 0 0) A)) rfl ?_
          refine go_gf rfl (w_0 hp) rfl ?_
          refine go_run 5 (F' := (63, [some (.ref 134), some (.int a1), some (.int a2)], [.int ((1000 * a1) + a2), .ref 160], Wm pre post (upd I 0 0) A)) rfl ?_
          obtain ⟨b6, hm⟩ := gd hm
          refine go_iald rfl (by decide) (w_26 hp) b6 rfl ?_
          refine go_run 1 (F' := (68, [some (.ref 134), some (.int a1), some (.int a2)], [.int ((A 26) (Int32.toNatClampNeg ((1000 * a1) + a2)))], Wm pre post (upd I 0 0) A)) rfl ?_
          cases hm
          exact go_end rfl rfl
        · rw [if_neg q5] at hm ⊢
          refine go_run 0 (F' := (37, [some (.ref 134), some (.int a1), some (.int a2)], [.ref 134], Wm pre post I A)) rfl ?_
          refine go_run 2 (F' := (42, [some (.ref 134), some (.int a1), some (.int a2)], [.int 3, .ref 134], Wm pre post I A)) rfl ?_
          refine go_pf rfl (w_0 hp) (Nat.le_of_ble_eq_true rfl) rfl (wo_0 hp) ?_
          refine go_run 1 (F' := (46, [some (.ref 134), some (.int a1), some (.int a2)], [.ref 134], Wm pre post (upd I 0 3) A)) rfl ?_
          refine go_gf rfl (w_0 hp) rfl ?_
          refine go_run 2 (F' := (68, [some (.ref 134), some (.int a1), some (.int a2)], [.int 0], Wm pre post (upd I 0 3) A)) rfl ?_
          cases hm
          exact go_end rfl rfl
  · rw [if_neg q1] at hm ⊢
    refine go_run 0 (F' := (8, [some (.ref 134), some (.int a1), some (.int a2)], [.ref 134], Wm pre post I A)) rfl ?_
    refine go_run 2 (F' := (42, [some (.ref 134), some (.int a1), some (.int a2)], [.int 1, .ref 134], Wm pre post I A)) rfl ?_
    refine go_pf rfl (w_0 hp) (Nat.le_of_ble_eq_true rfl) rfl (wo_0 hp) ?_
    refine go_run 1 (F' := (46, [some (.ref 134), some (.int a1), some (.int a2)], [.ref 134], Wm pre post (upd I 0 1) A)) rfl ?_
    refine go_gf rfl (w_0 hp) rfl ?_
    refine go_run 2 (F' := (68, [some (.ref 134), some (.int a1), some (.int a2)], [.int 0], Wm pre post (upd I 0 1) A)) rfl ?_
    cases hm
    exact go_end rfl rfl
def x_noVariable (a1 : Int32) : Int32 := (if a1 < 0 then 1 else (if a1 ≤ 3 then 0 else 1))
theorem g_noVariable {X : ie_X} {d : Nat} {h : ie_H} (a1 : Int32) : Go X (d + 0) 186 (0, ie_en 186 [.int a1], [], h) (.inl (some (.int (x_noVariable a1)))) h := by
  generalize hm : x_noVariable a1 = r
  unfold x_noVariable at hm
  refine go_run 0 (F' := (0, [some (.int a1)], [], h)) rfl ?_
  refine go_run 1 (F' := (1, [some (.int a1)], [.int a1], h)) rfl ?_
  refine go_step rfl rfl ?_
  by_cases q1 : a1 < 0
  · rw [if_pos q1] at hm ⊢
    refine go_run 0 (F' := (9, [some (.int a1)], [], h)) rfl ?_
    refine go_run 2 (F' := (14, [some (.int a1)], [.int 1], h)) rfl ?_
    (cases hm; exact go_end rfl rfl)
  · rw [if_neg q1] at hm ⊢
    refine go_run 0 (F' := (4, [some (.int a1)], [], h)) rfl ?_
    refine go_run 2 (F' := (6, [some (.int a1)], [.int 3, .int a1], h)) rfl ?_
    refine go_step rfl rfl ?_
    by_cases q2 : a1 ≤ 3
    · rw [if_pos q2] at hm ⊢
      refine go_run 0 (F' := (13, [some (.int a1)], [], h)) rfl ?_
      refine go_run 1 (F' := (14, [some (.int a1)], [.int 0], h)) rfl ?_
      (cases hm; exact go_end rfl rfl)
    · rw [if_neg q2] at hm ⊢
      refine go_run 0 (F' := (9, [some (.int a1)], [], h)) rfl ?_
      refine go_run 2 (F' := (14, [some (.int a1)], [.int 1], h)) rfl ?_
      (cases hm; exact go_end rfl rfl)
def x_input (I : Nat → Int32) (A : Nat → Nat → Int32) (a1 a2 a3 : Int32) : Option xR := (if x_noParty a1 = 0 then (if x_noVariable a2 = 0 then (if I 10 = 0 then (some (upd I 0 2, A, 0)) else (if I 18 = 0 then (if ib ((4 * a1) + a2) 24 then (some (upd I 0 0, upA (upA A 33 (upd (A 33) (Int32.toNatClampNeg ((4 * a1) + a2)) a3)) 34 (upd (A 34) (Int32.toNatClampNeg ((4 * a1) + a2)) a3), (A 33) (Int32.toNatClampNeg ((4 * a1) + a2)))) else none) else (some (upd I 0 2, A, 0)))) else (some (upd I 0 1, A, 0))) else (some (upd I 0 1, A, 0)))
theorem g_input {X : ie_X} {d : Nat} {pre post : ie_H} (hp : pre.length = 134) {I : Nat → Int32} {A : Nat → Nat → Int32} {a1 a2 a3 : Int32} {I' : Nat → Int32} {A' : Nat → Nat → Int32} {r : Int32} (hm : x_input I A a1 a2 a3 = some (I', A', r)) : Go X (d + 1) 185 (0, ie_en 185 [.ref 134, .int a1, .int a2, .int a3], [], Wm pre post I A) (.inl (some (.int r))) (Wm pre post I' A') := by
  unfold x_input at hm
  refine go_run 0 (F' := (0, [some (.ref 134), some (.int a1), some (.int a2), some (.int a3), none], [], Wm pre post I A)) rfl ?_
  refine go_run 2 (F' := (2, [some (.ref 134), some (.int a1), some (.int a2), some (.int a3), none], [.int a1, .ref 134], Wm pre post I A)) rfl ?_
  refine go_call (m' := 183) (v := some (.int (x_noParty a1))) (h1 := Wm pre post I A) rfl rfl ⟨rfl, Nat.le_of_ble_eq_true rfl⟩ (g_noParty _) ?_
  refine go_run 0 (F' := (5, [some (.ref 134), some (.int a1), some (.int a2), some (.int a3), none], [.int (x_noParty a1), .ref 134], Wm pre post I A)) rfl ?_
  refine go_run 0 (F' := (5, [some (.ref 134), some (.int a1), some (.int a2), some (.int a3), none], [.int (x_noParty a1), .ref 134], Wm pre post I A)) rfl ?_
  refine go_step rfl rfl ?_
  by_cases q1 : x_noParty a1 = 0
  · rw [if_pos q1] at hm ⊢
    refine go_run 0 (F' := (8, [some (.ref 134), some (.int a1), some (.int a2), some (.int a3), none], [.ref 134], Wm pre post I A)) rfl ?_
    refine go_run 1 (F' := (9, [some (.ref 134), some (.int a1), some (.int a2), some (.int a3), none], [.int a2, .ref 134], Wm pre post I A)) rfl ?_
    refine go_call (m' := 186) (v := some (.int (x_noVariable a2))) (h1 := Wm pre post I A) rfl rfl ⟨rfl, Nat.le_of_ble_eq_true rfl⟩ (g_noVariable _) ?_
    refine go_run 0 (F' := (12, [some (.ref 134), some (.int a1), some (.int a2), some (.int a3), none], [.int (x_noVariable a2), .ref 134], Wm pre post I A)) rfl ?_
    refine go_run 0 (F' := (12, [some (.ref 134), some (.int a1), some (.int a2), some (.int a3), none], [.int (x_noVariable a2), .ref 134], Wm pre post I A)) rfl ?_
    refine go_step rfl rfl ?_
    by_cases q2 : x_noVariable a2 = 0
    · rw [if_pos q2] at hm ⊢
      refine go_run 0 (F' := (19, [some (.ref 134), some (.int a1), some (.int a2), some (.int a3), none], [.ref 134], Wm pre post I A)) rfl ?_
      refine go_run 1 (F' := (20, [some (.ref 134), some (.int a1), some (.int a2), some (.int a3), none], [.ref 134, .ref 134], Wm pre post I A)) rfl ?_
      refine go_gf rfl (w_0 hp) rfl ?_
      refine go_run 0 (F' := (23, [some (.ref 134), some (.int a1), some (.int a2), some (.int a3), none], [.int (I 10), .ref 134], Wm pre post I A)) rfl ?_
      refine go_step rfl rfl ?_
      by_cases q3 : I 10 = 0
      · rw [if_pos q3] at hm ⊢
        refine go_run 0 (F' := (33, [some (.ref 134), some (.int a1), some (.int a2), some (.int a3), none], [.ref 134], Wm pre post I A)) rfl ?_
        refine go_run 2 (F' := (38, [some (.ref 134), some (.int a1), some (.int a2), some (.int a3), none], [.int 2, .ref 134], Wm pre post I A)) rfl ?_
        refine go_pf rfl (w_0 hp) (Nat.le_of_ble_eq_true rfl) rfl (wo_0 hp) ?_
        refine go_run 1 (F' := (42, [some (.ref 134), some (.int a1), some (.int a2), some (.int a3), none], [.ref 134], Wm pre post (upd I 0 2) A)) rfl ?_
        refine go_gf rfl (w_0 hp) rfl ?_
        refine go_run 2 (F' := (49, [some (.ref 134), some (.int a1), some (.int a2), some (.int a3), none], [.int 0], Wm pre post (upd I 0 2) A)) rfl ?_
        cases hm
        exact go_end rfl rfl
      · rw [if_neg q3] at hm ⊢
        refine go_run 0 (F' := (26, [some (.ref 134), some (.int a1), some (.int a2), some (.int a3), none], [.ref 134], Wm pre post I A)) rfl ?_
        refine go_run 1 (F' := (27, [some (.ref 134), some (.int a1), some (.int a2), some (.int a3), none], [.ref 134, .ref 134], Wm pre post I A)) rfl ?_
        refine go_gf rfl (w_0 hp) rfl ?_
        refine go_run 0 (F' := (30, [some (.ref 134), some (.int a1), some (.int a2), some (.int a3), none], [.int (I 18), .ref 134], Wm pre post I A)) rfl ?_
        refine go_step rfl rfl ?_
        by_cases q4 : I 18 = 0
        · rw [if_pos q4] at hm ⊢
          refine go_run 0 (F' := (37, [some (.ref 134), some (.int a1), some (.int a2), some (.int a3), none], [.ref 134], Wm pre post I A)) rfl ?_
          refine go_run 1 (F' := (38, [some (.ref 134), some (.int a1), some (.int a2), some (.int a3), none], [.int 0, .ref 134], Wm pre post I A)) rfl ?_
          refine go_pf rfl (w_0 hp) (Nat.le_of_ble_eq_true rfl) rfl (wo_0 hp) ?_
          refine go_run 1 (F' := (42, [some (.ref 134), some (.int a1), some (.int a2), some (.int a3), none], [.ref 134], Wm pre post (upd I 0 0) A)) rfl ?_
          refine go_gf rfl (w_0 hp) rfl ?_
          refine go_run 2 (F' := (51, [some (.ref 134), some (.int a1), some (.int a2), some (.int a3), none], [.ref 134], Wm pre post (upd I 0 0) A)) rfl ?_
          refine go_gf rfl (w_0 hp) rfl ?_
          refine go_run 5 (F' := (59, [some (.ref 134), some (.int a1), some (.int a2), some (.int a3), none], [.int ((4 * a1) + a2), .ref 167], Wm pre post (upd I 0 0) A)) rfl ?_
          obtain ⟨b5, hm⟩ := gd hm
          refine go_iald rfl (by decide) (w_33 hp) b5 rfl ?_
          refine go_run 2 (F' := (63, [some (.ref 134), some (.int a1), some (.int a2), some (.int a3), some (.int ((A 33) (Int32.toNatClampNeg ((4 * a1) + a2))))], [.ref 134], Wm pre post (upd I 0 0) A)) rfl ?_
          refine go_gf rfl (w_0 hp) rfl ?_
          refine go_run 6 (F' := (72, [some (.ref 134), some (.int a1), some (.int a2), some (.int a3), some (.int ((A 33) (Int32.toNatClampNeg ((4 * a1) + a2))))], [.int a3, .int ((4 * a1) + a2), .ref 167], Wm pre post (upd I 0 0) A)) rfl ?_
          refine go_iast rfl (w_33 hp) b5 (ws_33 hp) ?_
          refine go_run 1 (F' := (74, [some (.ref 134), some (.int a1), some (.int a2), some (.int a3), some (.int ((A 33) (Int32.toNatClampNeg ((4 * a1) + a2))))], [.ref 134], Wm pre post (upd I 0 0) (upA A 33 (upd (A 33) (Int32.toNatClampNeg ((4 * a1) + a2)) a3)))) rfl ?_
          refine go_gf rfl (w_0 hp) rfl ?_
          refine go_run 6 (F' := (83, [some (.ref 134), some (.int a1), some (.int a2), some (.int a3), some (.int ((A 33) (Int32.toNatClampNeg ((4 * a1) + a2))))], [.int a3, .int ((4 * a1) + a2), .ref 168], Wm pre post (upd I 0 0) (upA A 33 (upd (A 33) (Int32.toNatClampNeg ((4 * a1) + a2)) a3)))) rfl ?_
          refine go_iast rfl (w_34 hp) b5 (ws_34 hp) ?_
          refine go_run 1 (F' := (86, [some (.ref 134), some (.int a1), some (.int a2), some (.int a3), some (.int ((A 33) (Int32.toNatClampNeg ((4 * a1) + a2))))], [.int ((A 33) (Int32.toNatClampNeg ((4 * a1) + a2)))], Wm pre post (upd I 0 0) (upA (upA A 33 (upd (A 33) (Int32.toNatClampNeg ((4 * a1) + a2)) a3)) 34 (upd (A 34) (Int32.toNatClampNeg ((4 * a1) + a2)) a3)))) rfl ?_
          cases hm
          exact go_end rfl rfl
        · rw [if_neg q4] at hm ⊢
          refine go_run 0 (F' := (33, [some (.ref 134), some (.int a1), some (.int a2), some (.int a3), none], [.ref 134], Wm pre post I A)) rfl ?_
          refine go_run 2 (F' := (38, [some (.ref 134), some (.int a1), some (.int a2), some (.int a3), none], [.int 2, .ref 134], Wm pre post I A)) rfl ?_
          refine go_pf rfl (w_0 hp) (Nat.le_of_ble_eq_true rfl) rfl (wo_0 hp) ?_
          refine go_run 1 (F' := (42, [some (.ref 134), some (.int a1), some (.int a2), some (.int a3), none], [.ref 134], Wm pre post (upd I 0 2) A)) rfl ?_
          refine go_gf rfl (w_0 hp) rfl ?_
          refine go_run 2 (F' := (49, [some (.ref 134), some (.int a1), some (.int a2), some (.int a3), none], [.int 0], Wm pre post (upd I 0 2) A)) rfl ?_
          cases hm
          exact go_end rfl rfl
    · rw [if_neg q2] at hm ⊢
      refine go_run 0 (F' := (15, [some (.ref 134), some (.int a1), some (.int a2), some (.int a3), none], [.ref 134], Wm pre post I A)) rfl ?_
      refine go_run 2 (F' := (38, [some (.ref 134), some (.int a1), some (.int a2), some (.int a3), none], [.int 1, .ref 134], Wm pre post I A)) rfl ?_
      refine go_pf rfl (w_0 hp) (Nat.le_of_ble_eq_true rfl) rfl (wo_0 hp) ?_
      refine go_run 1 (F' := (42, [some (.ref 134), some (.int a1), some (.int a2), some (.int a3), none], [.ref 134], Wm pre post (upd I 0 1) A)) rfl ?_
      refine go_gf rfl (w_0 hp) rfl ?_
      refine go_run 2 (F' := (49, [some (.ref 134), some (.int a1), some (.int a2), some (.int a3), none], [.int 0], Wm pre post (upd I 0 1) A)) rfl ?_
      cases hm
      exact go_end rfl rfl
  · rw [if_neg q1] at hm ⊢
    refine go_run 0 (F' := (15, [some (.ref 134), some (.int a1), some (.int a2), some (.int a3), none], [.ref 134], Wm pre post I A)) rfl ?_
    refine go_run 2 (F' := (38, [some (.ref 134), some (.int a1), some (.int a2), some (.int a3), none], [.int 1, .ref 134], Wm pre post I A)) rfl ?_
    refine go_pf rfl (w_0 hp) (Nat.le_of_ble_eq_true rfl) rfl (wo_0 hp) ?_
    refine go_run 1 (F' := (42, [some (.ref 134), some (.int a1), some (.int a2), some (.int a3), none], [.ref 134], Wm pre post (upd I 0 1) A)) rfl ?_
    refine go_gf rfl (w_0 hp) rfl ?_
    refine go_run 2 (F' := (49, [some (.ref 134), some (.int a1), some (.int a2), some (.int a3), none], [.int 0], Wm pre post (upd I 0 1) A)) rfl ?_
    cases hm
    exact go_end rfl rfl
def x_room (I : Nat → Int32) (A : Nat → Nat → Int32) (a1 : Int32) : Option xR := (if a1 < 1 then (some (upd I 0 1, A, 0)) else (if a1 ≤ 8 then (if I 10 = 0 then (some (upd I 0 2, A, 0)) else (if I 18 = 0 then (some (upd (upd I 0 0) 17 a1, A, 0)) else (some (upd I 0 2, A, 0)))) else (some (upd I 0 1, A, 0))))
theorem g_room {X : ie_X} {d : Nat} {pre post : ie_H} (hp : pre.length = 134) {I : Nat → Int32} {A : Nat → Nat → Int32} {a1 : Int32} {I' : Nat → Int32} {A' : Nat → Nat → Int32} {r : Int32} (hm : x_room I A a1 = some (I', A', r)) : Go X (d + 0) 187 (0, ie_en 187 [.ref 134, .int a1], [], Wm pre post I A) (.inl none) (Wm pre post I' A') := by
  unfold x_room at hm
  refine go_run 0 (F' := (0, [some (.ref 134), some (.int a1)], [], Wm pre post I A)) rfl ?_
  refine go_run 3 (F' := (3, [some (.ref 134), some (.int a1)], [.int 1, .int a1, .ref 134], Wm pre post I A)) rfl ?_
  refine go_step rfl rfl ?_
  by_cases q1 : a1 < 1
  · rw [if_pos q1] at hm ⊢
    refine go_run 0 (F' := (12, [some (.ref 134), some (.int a1)], [.ref 134], Wm pre post I A)) rfl ?_
    refine go_run 2 (F' := (35, [some (.ref 134), some (.int a1)], [.int 1, .ref 134], Wm pre post I A)) rfl ?_
    refine go_pf rfl (w_0 hp) (Nat.le_of_ble_eq_true rfl) rfl (wo_0 hp) ?_
    refine go_run 1 (F' := (39, [some (.ref 134), some (.int a1)], [.ref 134], Wm pre post (upd I 0 1) A)) rfl ?_
    refine go_gf rfl (w_0 hp) rfl ?_
    refine go_run 1 (F' := (50, [some (.ref 134), some (.int a1)], [], Wm pre post (upd I 0 1) A)) rfl ?_
    cases hm
    exact go_end rfl rfl
  · rw [if_neg q1] at hm ⊢
    refine go_run 0 (F' := (6, [some (.ref 134), some (.int a1)], [.ref 134], Wm pre post I A)) rfl ?_
    refine go_run 2 (F' := (9, [some (.ref 134), some (.int a1)], [.int 8, .int a1, .ref 134], Wm pre post I A)) rfl ?_
    refine go_step rfl rfl ?_
    by_cases q2 : a1 ≤ 8
    · rw [if_pos q2] at hm ⊢
      refine go_run 0 (F' := (16, [some (.ref 134), some (.int a1)], [.ref 134], Wm pre post I A)) rfl ?_
      refine go_run 1 (F' := (17, [some (.ref 134), some (.int a1)], [.ref 134, .ref 134], Wm pre post I A)) rfl ?_
      refine go_gf rfl (w_0 hp) rfl ?_
      refine go_run 0 (F' := (20, [some (.ref 134), some (.int a1)], [.int (I 10), .ref 134], Wm pre post I A)) rfl ?_
      refine go_step rfl rfl ?_
      by_cases q3 : I 10 = 0
      · rw [if_pos q3] at hm ⊢
        refine go_run 0 (F' := (30, [some (.ref 134), some (.int a1)], [.ref 134], Wm pre post I A)) rfl ?_
        refine go_run 2 (F' := (35, [some (.ref 134), some (.int a1)], [.int 2, .ref 134], Wm pre post I A)) rfl ?_
        refine go_pf rfl (w_0 hp) (Nat.le_of_ble_eq_true rfl) rfl (wo_0 hp) ?_
        refine go_run 1 (F' := (39, [some (.ref 134), some (.int a1)], [.ref 134], Wm pre post (upd I 0 2) A)) rfl ?_
        refine go_gf rfl (w_0 hp) rfl ?_
        refine go_run 1 (F' := (50, [some (.ref 134), some (.int a1)], [], Wm pre post (upd I 0 2) A)) rfl ?_
        cases hm
        exact go_end rfl rfl
      · rw [if_neg q3] at hm ⊢
        refine go_run 0 (F' := (23, [some (.ref 134), some (.int a1)], [.ref 134], Wm pre post I A)) rfl ?_
        refine go_run 1 (F' := (24, [some (.ref 134), some (.int a1)], [.ref 134, .ref 134], Wm pre post I A)) rfl ?_
        refine go_gf rfl (w_0 hp) rfl ?_
        refine go_run 0 (F' := (27, [some (.ref 134), some (.int a1)], [.int (I 18), .ref 134], Wm pre post I A)) rfl ?_
        refine go_step rfl rfl ?_
        by_cases q4 : I 18 = 0
        · rw [if_pos q4] at hm ⊢
          refine go_run 0 (F' := (34, [some (.ref 134), some (.int a1)], [.ref 134], Wm pre post I A)) rfl ?_
          refine go_run 1 (F' := (35, [some (.ref 134), some (.int a1)], [.int 0, .ref 134], Wm pre post I A)) rfl ?_
          refine go_pf rfl (w_0 hp) (Nat.le_of_ble_eq_true rfl) rfl (wo_0 hp) ?_
          refine go_run 1 (F' := (39, [some (.ref 134), some (.int a1)], [.ref 134], Wm pre post (upd I 0 0) A)) rfl ?_
          refine go_gf rfl (w_0 hp) rfl ?_
          refine go_run 3 (F' := (47, [some (.ref 134), some (.int a1)], [.int a1, .ref 134], Wm pre post (upd I 0 0) A)) rfl ?_
          refine go_pf rfl (w_0 hp) (Nat.le_of_ble_eq_true rfl) rfl (wo_17 hp) ?_
          refine go_run 0 (F' := (50, [some (.ref 134), some (.int a1)], [], Wm pre post (upd (upd I 0 0) 17 a1) A)) rfl ?_
          cases hm
          exact go_end rfl rfl
        · rw [if_neg q4] at hm ⊢
          refine go_run 0 (F' := (30, [some (.ref 134), some (.int a1)], [.ref 134], Wm pre post I A)) rfl ?_
          refine go_run 2 (F' := (35, [some (.ref 134), some (.int a1)], [.int 2, .ref 134], Wm pre post I A)) rfl ?_
          refine go_pf rfl (w_0 hp) (Nat.le_of_ble_eq_true rfl) rfl (wo_0 hp) ?_
          refine go_run 1 (F' := (39, [some (.ref 134), some (.int a1)], [.ref 134], Wm pre post (upd I 0 2) A)) rfl ?_
          refine go_gf rfl (w_0 hp) rfl ?_
          refine go_run 1 (F' := (50, [some (.ref 134), some (.int a1)], [], Wm pre post (upd I 0 2) A)) rfl ?_
          cases hm
          exact go_end rfl rfl
    · rw [if_neg q2] at hm ⊢
      refine go_run 0 (F' := (12, [some (.ref 134), some (.int a1)], [.ref 134], Wm pre post I A)) rfl ?_
      refine go_run 2 (F' := (35, [some (.ref 134), some (.int a1)], [.int 1, .ref 134], Wm pre post I A)) rfl ?_
      refine go_pf rfl (w_0 hp) (Nat.le_of_ble_eq_true rfl) rfl (wo_0 hp) ?_
      refine go_run 1 (F' := (39, [some (.ref 134), some (.int a1)], [.ref 134], Wm pre post (upd I 0 1) A)) rfl ?_
      refine go_gf rfl (w_0 hp) rfl ?_
      refine go_run 1 (F' := (50, [some (.ref 134), some (.int a1)], [], Wm pre post (upd I 0 1) A)) rfl ?_
      cases hm
      exact go_end rfl rfl
def x_reset (n : Nat) (I : Nat → Int32) (A : Nat → Nat → Int32) : Option xR := (if I 10 = 0 then (some (upd I 0 1, A, 0)) else (xb (x_restart n (upd I 0 0) A) fun I1 A1 v1 => (some (I1, A1, 0))))
theorem g_reset {X : ie_X} {d : Nat} {pre post : ie_H} (hp : pre.length = 134) {n : Nat} {I : Nat → Int32} {A : Nat → Nat → Int32} {I' : Nat → Int32} {A' : Nat → Nat → Int32} {r : Int32} (hm : x_reset n I A = some (I', A', r)) : Go X (d + 1) 188 (0, ie_en 188 [.ref 134], [], Wm pre post I A) (.inl none) (Wm pre post I' A') := by
  unfold x_reset at hm
  refine go_run 0 (F' := (0, [some (.ref 134)], [], Wm pre post I A)) rfl ?_
  refine go_run 2 (F' := (2, [some (.ref 134)], [.ref 134, .ref 134], Wm pre post I A)) rfl ?_
  refine go_gf rfl (w_0 hp) rfl ?_
  refine go_run 0 (F' := (5, [some (.ref 134)], [.int (I 10), .ref 134], Wm pre post I A)) rfl ?_
  refine go_step rfl rfl ?_
  by_cases q1 : I 10 = 0
  · rw [if_pos q1] at hm ⊢
    refine go_run 0 (F' := (12, [some (.ref 134)], [.ref 134], Wm pre post I A)) rfl ?_
    refine go_run 1 (F' := (13, [some (.ref 134)], [.int 1, .ref 134], Wm pre post I A)) rfl ?_
    refine go_pf rfl (w_0 hp) (Nat.le_of_ble_eq_true rfl) rfl (wo_0 hp) ?_
    refine go_run 1 (F' := (17, [some (.ref 134)], [.ref 134], Wm pre post (upd I 0 1) A)) rfl ?_
    refine go_gf rfl (w_0 hp) rfl ?_
    refine go_run 0 (F' := (20, [some (.ref 134)], [.int (I 10)], Wm pre post (upd I 0 1) A)) rfl ?_
    refine go_step rfl rfl ?_
    rw [if_pos q1]
    refine go_run 0 (F' := (27, [some (.ref 134)], [], Wm pre post (upd I 0 1) A)) rfl ?_
    cases hm
    exact go_end rfl rfl
  · rw [if_neg q1] at hm ⊢
    refine go_run 0 (F' := (8, [some (.ref 134)], [.ref 134], Wm pre post I A)) rfl ?_
    refine go_run 2 (F' := (13, [some (.ref 134)], [.int 0, .ref 134], Wm pre post I A)) rfl ?_
    refine go_pf rfl (w_0 hp) (Nat.le_of_ble_eq_true rfl) rfl (wo_0 hp) ?_
    refine go_run 1 (F' := (17, [some (.ref 134)], [.ref 134], Wm pre post (upd I 0 0) A)) rfl ?_
    refine go_gf rfl (w_0 hp) rfl ?_
    refine go_run 0 (F' := (20, [some (.ref 134)], [.int (I 10)], Wm pre post (upd I 0 0) A)) rfl ?_
    refine go_step rfl rfl ?_
    rw [if_neg q1]
    refine go_run 1 (F' := (24, [some (.ref 134)], [.ref 134], Wm pre post (upd I 0 0) A)) rfl ?_
    obtain ⟨I1, A1, v1, e1, hm⟩ := xb_inv hm
    refine go_call (m' := 179) (v := none) (h1 := Wm pre post I1 A1) rfl (by simp only [ie_step, ie_iv, List.drop, w_0 hp]; rfl) ⟨rfl, Nat.le_of_ble_eq_true rfl⟩ (g_restart (d := d) hp e1) ?_
    refine go_run 0 (F' := (27, [some (.ref 134)], [], Wm pre post I1 A1)) rfl ?_
    refine go_run 0 (F' := (27, [some (.ref 134)], [], Wm pre post I1 A1)) rfl ?_
    cases hm
    exact go_end rfl rfl
def x_charAt (I : Nat → Int32) (A : Nat → Nat → Int32) (a1 a2 : Int32) : Option xR := (if ib a1 6 then (if (A 27) (Int32.toNatClampNeg a1) ≤ a2 then (some (I, A, 0)) else (if ib ((1000 * a1) + a2) 6000 then (some (I, A, (A 26) (Int32.toNatClampNeg ((1000 * a1) + a2)))) else none)) else none)
theorem g_charAt {X : ie_X} {d : Nat} {pre post : ie_H} (hp : pre.length = 134) {I : Nat → Int32} {A : Nat → Nat → Int32} {a1 a2 : Int32} {I' : Nat → Int32} {A' : Nat → Nat → Int32} {r : Int32} (hm : x_charAt I A a1 a2 = some (I', A', r)) : Go X (d + 0) 191 (0, ie_en 191 [.ref 134, .int a1, .int a2], [], Wm pre post I A) (.inl (some (.int r))) (Wm pre post I' A') := by
  unfold x_charAt at hm
  refine go_run 0 (F' := (0, [some (.ref 134), some (.int a1), some (.int a2)], [], Wm pre post I A)) rfl ?_
  refine go_run 2 (F' := (2, [some (.ref 134), some (.int a1), some (.int a2)], [.ref 134, .int a2], Wm pre post I A)) rfl ?_
  refine go_gf rfl (w_0 hp) rfl ?_
  refine go_run 1 (F' := (6, [some (.ref 134), some (.int a1), some (.int a2)], [.int a1, .ref 161, .int a2], Wm pre post I A)) rfl ?_
  obtain ⟨b1, hm⟩ := gd hm
  refine go_iald rfl (by decide) (w_27 hp) b1 rfl ?_
  refine go_run 0 (F' := (7, [some (.ref 134), some (.int a1), some (.int a2)], [.int ((A 27) (Int32.toNatClampNeg a1)), .int a2], Wm pre post I A)) rfl ?_
  refine go_step rfl rfl ?_
  by_cases q2 : (A 27) (Int32.toNatClampNeg a1) ≤ a2
  · rw [if_pos q2] at hm ⊢
    refine go_run 0 (F' := (25, [some (.ref 134), some (.int a1), some (.int a2)], [], Wm pre post I A)) rfl ?_
    refine go_run 1 (F' := (26, [some (.ref 134), some (.int a1), some (.int a2)], [.int 0], Wm pre post I A)) rfl ?_
    cases hm
    exact go_end rfl rfl
  · rw [if_neg q2] at hm ⊢
    refine go_run 0 (F' := (10, [some (.ref 134), some (.int a1), some (.int a2)], [], Wm pre post I A)) rfl ?_
    refine go_run 1 (F' := (11, [some (.ref 134), some (.int a1), some (.int a2)], [.ref 134], Wm pre post I A)) rfl ?_
    refine go_gf rfl (w_0 hp) rfl ?_
    refine go_run 5 (F' := (21, [some (.ref 134), some (.int a1), some (.int a2)], [.int ((1000 * a1) + a2), .ref 160], Wm pre post I A)) rfl ?_
    obtain ⟨b3, hm⟩ := gd hm
    refine go_iald rfl (by decide) (w_26 hp) b3 rfl ?_
    refine go_run 1 (F' := (26, [some (.ref 134), some (.int a1), some (.int a2)], [.int ((A 26) (Int32.toNatClampNeg ((1000 * a1) + a2)))], Wm pre post I A)) rfl ?_
    cases hm
    exact go_end rfl rfl
def x_isFull (I : Nat → Int32) (A : Nat → Nat → Int32) (a1 a2 : Int32) : Option xR := (if ib ((6 * a1) + a2) 36 then (if (A 39) (Int32.toNatClampNeg ((6 * a1) + a2)) = I 17 then (some (I, A, 1)) else (some (I, A, 0))) else none)
theorem g_isFull {X : ie_X} {d : Nat} {pre post : ie_H} (hp : pre.length = 134) {I : Nat → Int32} {A : Nat → Nat → Int32} {a1 a2 : Int32} {I' : Nat → Int32} {A' : Nat → Nat → Int32} {r : Int32} (hm : x_isFull I A a1 a2 = some (I', A', r)) : Go X (d + 0) 193 (0, ie_en 193 [.ref 134, .int a1, .int a2], [], Wm pre post I A) (.inl (some (.int r))) (Wm pre post I' A') := by
  unfold x_isFull at hm
  refine go_run 0 (F' := (0, [some (.ref 134), some (.int a1), some (.int a2)], [], Wm pre post I A)) rfl ?_
  refine go_run 1 (F' := (1, [some (.ref 134), some (.int a1), some (.int a2)], [.ref 134], Wm pre post I A)) rfl ?_
  refine go_gf rfl (w_0 hp) rfl ?_
  refine go_run 5 (F' := (10, [some (.ref 134), some (.int a1), some (.int a2)], [.int ((6 * a1) + a2), .ref 173], Wm pre post I A)) rfl ?_
  obtain ⟨b1, hm⟩ := gd hm
  refine go_iald rfl (by decide) (w_39 hp) b1 rfl ?_
  refine go_run 1 (F' := (12, [some (.ref 134), some (.int a1), some (.int a2)], [.ref 134, .int ((A 39) (Int32.toNatClampNeg ((6 * a1) + a2)))], Wm pre post I A)) rfl ?_
  refine go_gf rfl (w_0 hp) rfl ?_
  refine go_run 0 (F' := (15, [some (.ref 134), some (.int a1), some (.int a2)], [.int (I 17), .int ((A 39) (Int32.toNatClampNeg ((6 * a1) + a2)))], Wm pre post I A)) rfl ?_
  refine go_step rfl rfl ?_
  by_cases q2 : (A 39) (Int32.toNatClampNeg ((6 * a1) + a2)) = I 17
  · rw [if_pos q2] at hm ⊢
    refine go_run 0 (F' := (18, [some (.ref 134), some (.int a1), some (.int a2)], [], Wm pre post I A)) rfl ?_
    refine go_run 2 (F' := (23, [some (.ref 134), some (.int a1), some (.int a2)], [.int 1], Wm pre post I A)) rfl ?_
    cases hm
    exact go_end rfl rfl
  · rw [if_neg q2] at hm ⊢
    refine go_run 0 (F' := (22, [some (.ref 134), some (.int a1), some (.int a2)], [], Wm pre post I A)) rfl ?_
    refine go_run 1 (F' := (23, [some (.ref 134), some (.int a1), some (.int a2)], [.int 0], Wm pre post I A)) rfl ?_
    cases hm
    exact go_end rfl rfl
def x_give (I : Nat → Int32) (A : Nat → Nat → Int32) (a1 a2 a3 a4 : Int32) : Option xR := (if ib ((6 * a1) + a2) 36 then (if ib ((8 * ((6 * a1) + a2)) + ((A 39) (Int32.toNatClampNeg ((6 * a1) + a2)))) 288 then (some (I, upA (upA (upA A 40 (upd (A 40) (Int32.toNatClampNeg ((8 * ((6 * a1) + a2)) + ((A 39) (Int32.toNatClampNeg ((6 * a1) + a2))))) a3)) 41 (upd (A 41) (Int32.toNatClampNeg ((8 * ((6 * a1) + a2)) + ((A 39) (Int32.toNatClampNeg ((6 * a1) + a2))))) (vp_nar .boolean a4))) 39 (upd (A 39) (Int32.toNatClampNeg ((6 * a1) + a2)) (((A 39) (Int32.toNatClampNeg ((6 * a1) + a2))) + 1)), 0)) else none) else none)
theorem g_give {X : ie_X} {d : Nat} {pre post : ie_H} (hp : pre.length = 134) {I : Nat → Int32} {A : Nat → Nat → Int32} {a1 a2 a3 a4 : Int32} {I' : Nat → Int32} {A' : Nat → Nat → Int32} {r : Int32} (hm : x_give I A a1 a2 a3 a4 = some (I', A', r)) : Go X (d + 0) 194 (0, ie_en 194 [.ref 134, .int a1, .int a2, .int a3, .int a4], [], Wm pre post I A) (.inl none) (Wm pre post I' A') := by
  unfold x_give at hm
  refine go_run 0 (F' := (0, [some (.ref 134), some (.int a1), some (.int a2), some (.int a3), some (.int a4), none], [], Wm pre post I A)) rfl ?_
  refine go_run 8 (F' := (10, [some (.ref 134), some (.int a1), some (.int a2), some (.int a3), some (.int a4), none], [.ref 134, .int (8 * ((6 * a1) + a2))], Wm pre post I A)) rfl ?_
  refine go_gf rfl (w_0 hp) rfl ?_
  refine go_run 5 (F' := (19, [some (.ref 134), some (.int a1), some (.int a2), some (.int a3), some (.int a4), none], [.int ((6 * a1) + a2), .ref 173, .int (8 * ((6 * a1) + a2))], Wm pre post I A)) rfl ?_
  obtain ⟨b1, hm⟩ := gd hm
  refine go_iald rfl (by decide) (w_39 hp) b1 rfl ?_
  refine go_run 3 (F' := (24, [some (.ref 134), some (.int a1), some (.int a2), some (.int a3), some (.int a4), some (.int ((8 * ((6 * a1) + a2)) + ((A 39) (Int32.toNatClampNeg ((6 * a1) + a2)))))], [.ref 134], Wm pre post I A)) rfl ?_
  refine go_gf rfl (w_0 hp) rfl ?_
  refine go_run 2 (F' := (30, [some (.ref 134), some (.int a1), some (.int a2), some (.int a3), some (.int a4), some (.int ((8 * ((6 * a1) + a2)) + ((A 39) (Int32.toNatClampNeg ((6 * a1) + a2)))))], [.int a3, .int ((8 * ((6 * a1) + a2)) + ((A 39) (Int32.toNatClampNeg ((6 * a1) + a2)))), .ref 174], Wm pre post I A)) rfl ?_
  obtain ⟨b2, hm⟩ := gd hm
  refine go_iast rfl (w_40 hp) b2 (ws_40 hp) ?_
  refine go_run 1 (F' := (32, [some (.ref 134), some (.int a1), some (.int a2), some (.int a3), some (.int a4), some (.int ((8 * ((6 * a1) + a2)) + ((A 39) (Int32.toNatClampNeg ((6 * a1) + a2)))))], [.ref 134], Wm pre post I (upA A 40 (upd (A 40) (Int32.toNatClampNeg ((8 * ((6 * a1) + a2)) + ((A 39) (Int32.toNatClampNeg ((6 * a1) + a2))))) a3)))) rfl ?_
  refine go_gf rfl (w_0 hp) rfl ?_
  refine go_run 2 (F' := (39, [some (.ref 134), some (.int a1), some (.int a2), some (.int a3), some (.int a4), some (.int ((8 * ((6 * a1) + a2)) + ((A 39) (Int32.toNatClampNeg ((6 * a1) + a2)))))], [.int a4, .int ((8 * ((6 * a1) + a2)) + ((A 39) (Int32.toNatClampNeg ((6 * a1) + a2)))), .ref 175], Wm pre post I (upA A 40 (upd (A 40) (Int32.toNatClampNeg ((8 * ((6 * a1) + a2)) + ((A 39) (Int32.toNatClampNeg ((6 * a1) + a2))))) a3)))) rfl ?_
  refine go_bast rfl (w_41 hp) b2 (ws_41 hp) ?_
  refine go_run 1 (F' := (41, [some (.ref 134), some (.int a1), some (.int a2), some (.int a3), some (.int a4), some (.int ((8 * ((6 * a1) + a2)) + ((A 39) (Int32.toNatClampNeg ((6 * a1) + a2)))))], [.ref 134], Wm pre post I (upA (upA A 40 (upd (A 40) (Int32.toNatClampNeg ((8 * ((6 * a1) + a2)) + ((A 39) (Int32.toNatClampNeg ((6 * a1) + a2))))) a3)) 41 (upd (A 41) (Int32.toNatClampNeg ((8 * ((6 * a1) + a2)) + ((A 39) (Int32.toNatClampNeg ((6 * a1) + a2))))) (vp_nar .boolean a4))))) rfl ?_
  refine go_gf rfl (w_0 hp) rfl ?_
  refine go_run 6 (F' := (51, [some (.ref 134), some (.int a1), some (.int a2), some (.int a3), some (.int a4), some (.int ((8 * ((6 * a1) + a2)) + ((A 39) (Int32.toNatClampNeg ((6 * a1) + a2)))))], [.int ((6 * a1) + a2), .ref 173, .int ((6 * a1) + a2), .ref 173], Wm pre post I (upA (upA A 40 (upd (A 40) (Int32.toNatClampNeg ((8 * ((6 * a1) + a2)) + ((A 39) (Int32.toNatClampNeg ((6 * a1) + a2))))) a3)) 41 (upd (A 41) (Int32.toNatClampNeg ((8 * ((6 * a1) + a2)) + ((A 39) (Int32.toNatClampNeg ((6 * a1) + a2))))) (vp_nar .boolean a4))))) rfl ?_
  refine go_iald rfl (by decide) (w_39 hp) b1 rfl ?_
  refine go_run 2 (F' := (54, [some (.ref 134), some (.int a1), some (.int a2), some (.int a3), some (.int a4), some (.int ((8 * ((6 * a1) + a2)) + ((A 39) (Int32.toNatClampNeg ((6 * a1) + a2)))))], [.int (((A 39) (Int32.toNatClampNeg ((6 * a1) + a2))) + 1), .int ((6 * a1) + a2), .ref 173], Wm pre post I (upA (upA A 40 (upd (A 40) (Int32.toNatClampNeg ((8 * ((6 * a1) + a2)) + ((A 39) (Int32.toNatClampNeg ((6 * a1) + a2))))) a3)) 41 (upd (A 41) (Int32.toNatClampNeg ((8 * ((6 * a1) + a2)) + ((A 39) (Int32.toNatClampNeg ((6 * a1) + a2))))) (vp_nar .boolean a4))))) rfl ?_
  refine go_iast rfl (w_39 hp) b1 (ws_39 hp) ?_
  refine go_run 0 (F' := (55, [some (.ref 134), some (.int a1), some (.int a2), some (.int a3), some (.int a4), some (.int ((8 * ((6 * a1) + a2)) + ((A 39) (Int32.toNatClampNeg ((6 * a1) + a2)))))], [], Wm pre post I (upA (upA (upA A 40 (upd (A 40) (Int32.toNatClampNeg ((8 * ((6 * a1) + a2)) + ((A 39) (Int32.toNatClampNeg ((6 * a1) + a2))))) a3)) 41 (upd (A 41) (Int32.toNatClampNeg ((8 * ((6 * a1) + a2)) + ((A 39) (Int32.toNatClampNeg ((6 * a1) + a2))))) (vp_nar .boolean a4))) 39 (upd (A 39) (Int32.toNatClampNeg ((6 * a1) + a2)) (((A 39) (Int32.toNatClampNeg ((6 * a1) + a2))) + 1))))) rfl ?_
  cases hm
  exact go_end rfl rfl
def x_opening_5 : Nat → (Nat → Int32) → (Nat → Nat → Int32) → Int32 → Int32 → Int32 → Option xR
  | 0, _, _, _, _, _ => none
  | n + 1, I, A, l1, l3, l4 => (if l4 ≤ 0 then (some (I, A, l3)) else (xb (x_charAt I A l1 (l3 + (-1))) fun I1 A1 v1 => (if v1 = 125 then (x_opening_5 n I1 A1 l1 (l3 + (-1)) (l4 + 1)) else (if v1 = 123 then (x_opening_5 n I1 A1 l1 (l3 + (-1)) (l4 + (-1))) else (x_opening_5 n I1 A1 l1 (l3 + (-1)) (l4 + 0))))))
theorem g_opening_5 {X : ie_X} {d : Nat} {pre post : ie_H} (hp : pre.length = 134) : ∀ (n : Nat) {I : Nat → Int32} {A : Nat → Nat → Int32} {l1 l3 l4 : Int32} {u2 u5 : Option Value} {I' : Nat → Int32} {A' : Nat → Nat → Int32} {r : Int32}, x_opening_5 n I A l1 l3 l4 = some (I', A', r) → Go X (d + 1) 197 (5, [some (.ref 134), some (.int l1), u2, some (.int l3), some (.int l4), u5], [], Wm pre post I A) (.inl (some (.int r))) (Wm pre post I' A') := by
  intro n
  induction n with
  | zero => intro I A l1 l3 l4 u2 u5 I' A' r hm; cases hm
  | succ n ih =>
    intro I A l1 l3 l4 u2 u5 I' A' r hm
    unfold x_opening_5 at hm
    refine go_run 0 (F' := (5, [some (.ref 134), some (.int l1), u2, some (.int l3), some (.int l4), u5], [], Wm pre post I A)) rfl ?_
    refine go_run 1 (F' := (7, [some (.ref 134), some (.int l1), u2, some (.int l3), some (.int l4), u5], [.int l4], Wm pre post I A)) rfl ?_
    refine go_step rfl rfl ?_
    by_cases q1 : l4 ≤ 0
    · rw [if_pos q1] at hm ⊢
      refine go_run 0 (F' := (52, [some (.ref 134), some (.int l1), u2, some (.int l3), some (.int l4), u5], [], Wm pre post I A)) rfl ?_
      refine go_run 1 (F' := (53, [some (.ref 134), some (.int l1), u2, some (.int l3), some (.int l4), u5], [.int l3], Wm pre post I A)) rfl ?_
      cases hm
      exact go_end rfl rfl
    · rw [if_neg q1] at hm ⊢
      refine go_run 0 (F' := (10, [some (.ref 134), some (.int l1), u2, some (.int l3), some (.int l4), u5], [], Wm pre post I A)) rfl ?_
      refine go_run 4 (F' := (16, [some (.ref 134), some (.int l1), u2, some (.int (l3 + (-1))), some (.int l4), u5], [.int (l3 + (-1)), .int l1, .ref 134], Wm pre post I A)) rfl ?_
      obtain ⟨I1, A1, v1, e1, hm⟩ := xb_inv hm
      refine go_call (m' := 191) (v := some (.int v1)) (h1 := Wm pre post I1 A1) rfl (by simp only [ie_step, ie_iv, List.drop, w_0 hp]; rfl) ⟨rfl, Nat.le_of_ble_eq_true rfl⟩ (g_charAt (d := d) hp e1) ?_
      refine go_run 0 (F' := (19, [some (.ref 134), some (.int l1), u2, some (.int (l3 + (-1))), some (.int l4), u5], [.int v1], Wm pre post I1 A1)) rfl ?_
      refine go_run 4 (F' := (27, [some (.ref 134), some (.int l1), u2, some (.int (l3 + (-1))), some (.int l4), some (.int v1)], [.int 125, .int v1, .int l4], Wm pre post I1 A1)) rfl ?_
      refine go_step rfl rfl ?_
      by_cases q2 : v1 = 125
      · rw [if_pos q2] at hm ⊢
        refine go_run 0 (F' := (30, [some (.ref 134), some (.int l1), u2, some (.int (l3 + (-1))), some (.int l4), some (.int v1)], [.int l4], Wm pre post I1 A1)) rfl ?_
        refine go_run 5 (F' := (5, [some (.ref 134), some (.int l1), u2, some (.int (l3 + (-1))), some (.int (l4 + 1)), some (.int v1)], [], Wm pre post I1 A1)) rfl ?_
        exact ih hm
      · rw [if_neg q2] at hm ⊢
        refine go_run 0 (F' := (34, [some (.ref 134), some (.int l1), u2, some (.int (l3 + (-1))), some (.int l4), some (.int v1)], [.int l4], Wm pre post I1 A1)) rfl ?_
        refine go_run 2 (F' := (38, [some (.ref 134), some (.int l1), u2, some (.int (l3 + (-1))), some (.int l4), some (.int v1)], [.int 123, .int v1, .int l4], Wm pre post I1 A1)) rfl ?_
        refine go_step rfl rfl ?_
        by_cases q3 : v1 = 123
        · rw [if_pos q3] at hm ⊢
          refine go_run 0 (F' := (41, [some (.ref 134), some (.int l1), u2, some (.int (l3 + (-1))), some (.int l4), some (.int v1)], [.int l4], Wm pre post I1 A1)) rfl ?_
          refine go_run 5 (F' := (5, [some (.ref 134), some (.int l1), u2, some (.int (l3 + (-1))), some (.int (l4 + (-1))), some (.int v1)], [], Wm pre post I1 A1)) rfl ?_
          exact ih hm
        · rw [if_neg q3] at hm ⊢
          refine go_run 0 (F' := (45, [some (.ref 134), some (.int l1), u2, some (.int (l3 + (-1))), some (.int l4), some (.int v1)], [.int l4], Wm pre post I1 A1)) rfl ?_
          refine go_run 4 (F' := (5, [some (.ref 134), some (.int l1), u2, some (.int (l3 + (-1))), some (.int (l4 + 0)), some (.int v1)], [], Wm pre post I1 A1)) rfl ?_
          exact ih hm
def x_opening (n : Nat) (I : Nat → Int32) (A : Nat → Nat → Int32) (a1 a2 : Int32) : Option xR := (x_opening_5  n I A a1 a2 1)
theorem g_opening {X : ie_X} {d : Nat} {pre post : ie_H} (hp : pre.length = 134) {n : Nat} {I : Nat → Int32} {A : Nat → Nat → Int32} {a1 a2 : Int32} {I' : Nat → Int32} {A' : Nat → Nat → Int32} {r : Int32} (hm : x_opening n I A a1 a2 = some (I', A', r)) : Go X (d + 1) 197 (0, ie_en 197 [.ref 134, .int a1, .int a2], [], Wm pre post I A) (.inl (some (.int r))) (Wm pre post I' A') := by
  unfold x_opening at hm
  refine go_run 0 (F' := (0, [some (.ref 134), some (.int a1), some (.int a2), none, none, none], [], Wm pre post I A)) rfl ?_
  refine go_run 4 (F' := (5, [some (.ref 134), some (.int a1), some (.int a2), some (.int a2), some (.int 1), none], [], Wm pre post I A)) rfl ?_
  exact g_opening_5 hp  n hm
def x_isCase (I : Nat → Int32) (A : Nat → Nat → Int32) (a1 a2 : Int32) : Option xR := (xb (x_charAt I A a1 a2) fun I1 A1 v1 => (if ty_b (rd_fig v1) = 0 then (some (I1, A1, 0)) else (xb (x_charAt I1 A1 a1 (a2 + 1)) fun I2 A2 v2 => (if v2 = 123 then (some (I2, A2, 1)) else (some (I2, A2, 0))))))
theorem g_isCase {X : ie_X} {d : Nat} {pre post : ie_H} (hp : pre.length = 134) {I : Nat → Int32} {A : Nat → Nat → Int32} {a1 a2 : Int32} {I' : Nat → Int32} {A' : Nat → Nat → Int32} {r : Int32} (hm : x_isCase I A a1 a2 = some (I', A', r)) : Go X (d + 1) 199 (0, ie_en 199 [.ref 134, .int a1, .int a2], [], Wm pre post I A) (.inl (some (.int r))) (Wm pre post I' A') := by
  unfold x_isCase at hm
  refine go_run 0 (F' := (0, [some (.ref 134), some (.int a1), some (.int a2)], [], Wm pre post I A)) rfl ?_
  refine go_run 3 (F' := (3, [some (.ref 134), some (.int a1), some (.int a2)], [.int a2, .int a1, .ref 134], Wm pre post I A)) rfl ?_
  obtain ⟨I1, A1, v1, e1, hm⟩ := xb_inv hm
  refine go_call (m' := 191) (v := some (.int v1)) (h1 := Wm pre post I1 A1) rfl (by simp only [ie_step, ie_iv, List.drop, w_0 hp]; rfl) ⟨rfl, Nat.le_of_ble_eq_true rfl⟩ (g_charAt (d := d) hp e1) ?_
  refine go_run 0 (F' := (6, [some (.ref 134), some (.int a1), some (.int a2)], [.int v1], Wm pre post I1 A1)) rfl ?_
  refine go_run 0 (F' := (6, [some (.ref 134), some (.int a1), some (.int a2)], [.int v1], Wm pre post I1 A1)) rfl ?_
  refine go_call (m' := 146) (v := some (.int (ty_b (rd_fig v1)))) (h1 := Wm pre post I1 A1) rfl rfl ⟨rfl, Nat.le_of_ble_eq_true rfl⟩ (rm_isFig _) ?_
  refine go_run 0 (F' := (9, [some (.ref 134), some (.int a1), some (.int a2)], [.int (ty_b (rd_fig v1))], Wm pre post I1 A1)) rfl ?_
  refine go_run 0 (F' := (9, [some (.ref 134), some (.int a1), some (.int a2)], [.int (ty_b (rd_fig v1))], Wm pre post I1 A1)) rfl ?_
  refine go_step rfl rfl ?_
  by_cases q1 : ty_b (rd_fig v1) = 0
  · rw [if_pos q1] at hm ⊢
    refine go_run 0 (F' := (29, [some (.ref 134), some (.int a1), some (.int a2)], [], Wm pre post I1 A1)) rfl ?_
    refine go_run 1 (F' := (30, [some (.ref 134), some (.int a1), some (.int a2)], [.int 0], Wm pre post I1 A1)) rfl ?_
    cases hm
    exact go_end rfl rfl
  · rw [if_neg q1] at hm ⊢
    refine go_run 0 (F' := (12, [some (.ref 134), some (.int a1), some (.int a2)], [], Wm pre post I1 A1)) rfl ?_
    refine go_run 5 (F' := (17, [some (.ref 134), some (.int a1), some (.int a2)], [.int (a2 + 1), .int a1, .ref 134], Wm pre post I1 A1)) rfl ?_
    obtain ⟨I2, A2, v2, e2, hm⟩ := xb_inv hm
    refine go_call (m' := 191) (v := some (.int v2)) (h1 := Wm pre post I2 A2) rfl (by simp only [ie_step, ie_iv, List.drop, w_0 hp]; rfl) ⟨rfl, Nat.le_of_ble_eq_true rfl⟩ (g_charAt (d := d) hp e2) ?_
    refine go_run 0 (F' := (20, [some (.ref 134), some (.int a1), some (.int a2)], [.int v2], Wm pre post I2 A2)) rfl ?_
    refine go_run 1 (F' := (22, [some (.ref 134), some (.int a1), some (.int a2)], [.int 123, .int v2], Wm pre post I2 A2)) rfl ?_
    refine go_step rfl rfl ?_
    by_cases q2 : v2 = 123
    · rw [if_pos q2] at hm ⊢
      refine go_run 0 (F' := (25, [some (.ref 134), some (.int a1), some (.int a2)], [], Wm pre post I2 A2)) rfl ?_
      refine go_run 2 (F' := (30, [some (.ref 134), some (.int a1), some (.int a2)], [.int 1], Wm pre post I2 A2)) rfl ?_
      cases hm
      exact go_end rfl rfl
    · rw [if_neg q2] at hm ⊢
      refine go_run 0 (F' := (29, [some (.ref 134), some (.int a1), some (.int a2)], [], Wm pre post I2 A2)) rfl ?_
      refine go_run 1 (F' := (30, [some (.ref 134), some (.int a1), some (.int a2)], [.int 0], Wm pre post I2 A2)) rfl ?_
      cases hm
      exact go_end rfl rfl
def x_closing_5 : Nat → (Nat → Int32) → (Nat → Nat → Int32) → Int32 → Int32 → Int32 → Option xR
  | 0, _, _, _, _, _ => none
  | n + 1, I, A, l1, l3, l4 => (if l4 ≤ 0 then (some (I, A, l3)) else (xb (x_charAt I A l1 (l3 + 1)) fun I1 A1 v1 => (if v1 = 123 then (x_closing_5 n I1 A1 l1 (l3 + 1) (l4 + 1)) else (if v1 = 125 then (x_closing_5 n I1 A1 l1 (l3 + 1) (l4 + (-1))) else (x_closing_5 n I1 A1 l1 (l3 + 1) (l4 + 0))))))
theorem g_closing_5 {X : ie_X} {d : Nat} {pre post : ie_H} (hp : pre.length = 134) : ∀ (n : Nat) {I : Nat → Int32} {A : Nat → Nat → Int32} {l1 l3 l4 : Int32} {u2 u5 : Option Value} {I' : Nat → Int32} {A' : Nat → Nat → Int32} {r : Int32}, x_closing_5 n I A l1 l3 l4 = some (I', A', r) → Go X (d + 1) 200 (5, [some (.ref 134), some (.int l1), u2, some (.int l3), some (.int l4), u5], [], Wm pre post I A) (.inl (some (.int r))) (Wm pre post I' A') := by
  intro n
  induction n with
  | zero => intro I A l1 l3 l4 u2 u5 I' A' r hm; cases hm
  | succ n ih =>
    intro I A l1 l3 l4 u2 u5 I' A' r hm
    unfold x_closing_5 at hm
    refine go_run 0 (F' := (5, [some (.ref 134), some (.int l1), u2, some (.int l3), some (.int l4), u5], [], Wm pre post I A)) rfl ?_
    refine go_run 1 (F' := (7, [some (.ref 134), some (.int l1), u2, some (.int l3), some (.int l4), u5], [.int l4], Wm pre post I A)) rfl ?_
    refine go_step rfl rfl ?_
    by_cases q1 : l4 ≤ 0
    · rw [if_pos q1] at hm ⊢
      refine go_run 0 (F' := (52, [some (.ref 134), some (.int l1), u2, some (.int l3), some (.int l4), u5], [], Wm pre post I A)) rfl ?_
      refine go_run 1 (F' := (53, [some (.ref 134), some (.int l1), u2, some (.int l3), some (.int l4), u5], [.int l3], Wm pre post I A)) rfl ?_
      cases hm
      exact go_end rfl rfl
    · rw [if_neg q1] at hm ⊢
      refine go_run 0 (F' := (10, [some (.ref 134), some (.int l1), u2, some (.int l3), some (.int l4), u5], [], Wm pre post I A)) rfl ?_
      refine go_run 4 (F' := (16, [some (.ref 134), some (.int l1), u2, some (.int (l3 + 1)), some (.int l4), u5], [.int (l3 + 1), .int l1, .ref 134], Wm pre post I A)) rfl ?_
      obtain ⟨I1, A1, v1, e1, hm⟩ := xb_inv hm
      refine go_call (m' := 191) (v := some (.int v1)) (h1 := Wm pre post I1 A1) rfl (by simp only [ie_step, ie_iv, List.drop, w_0 hp]; rfl) ⟨rfl, Nat.le_of_ble_eq_true rfl⟩ (g_charAt (d := d) hp e1) ?_
      refine go_run 0 (F' := (19, [some (.ref 134), some (.int l1), u2, some (.int (l3 + 1)), some (.int l4), u5], [.int v1], Wm pre post I1 A1)) rfl ?_
      refine go_run 4 (F' := (27, [some (.ref 134), some (.int l1), u2, some (.int (l3 + 1)), some (.int l4), some (.int v1)], [.int 123, .int v1, .int l4], Wm pre post I1 A1)) rfl ?_
      refine go_step rfl rfl ?_
      by_cases q2 : v1 = 123
      · rw [if_pos q2] at hm ⊢
        refine go_run 0 (F' := (30, [some (.ref 134), some (.int l1), u2, some (.int (l3 + 1)), some (.int l4), some (.int v1)], [.int l4], Wm pre post I1 A1)) rfl ?_
        refine go_run 5 (F' := (5, [some (.ref 134), some (.int l1), u2, some (.int (l3 + 1)), some (.int (l4 + 1)), some (.int v1)], [], Wm pre post I1 A1)) rfl ?_
        exact ih hm
      · rw [if_neg q2] at hm ⊢
        refine go_run 0 (F' := (34, [some (.ref 134), some (.int l1), u2, some (.int (l3 + 1)), some (.int l4), some (.int v1)], [.int l4], Wm pre post I1 A1)) rfl ?_
        refine go_run 2 (F' := (38, [some (.ref 134), some (.int l1), u2, some (.int (l3 + 1)), some (.int l4), some (.int v1)], [.int 125, .int v1, .int l4], Wm pre post I1 A1)) rfl ?_
        refine go_step rfl rfl ?_
        by_cases q3 : v1 = 125
        · rw [if_pos q3] at hm ⊢
          refine go_run 0 (F' := (41, [some (.ref 134), some (.int l1), u2, some (.int (l3 + 1)), some (.int l4), some (.int v1)], [.int l4], Wm pre post I1 A1)) rfl ?_
          refine go_run 5 (F' := (5, [some (.ref 134), some (.int l1), u2, some (.int (l3 + 1)), some (.int (l4 + (-1))), some (.int v1)], [], Wm pre post I1 A1)) rfl ?_
          exact ih hm
        · rw [if_neg q3] at hm ⊢
          refine go_run 0 (F' := (45, [some (.ref 134), some (.int l1), u2, some (.int (l3 + 1)), some (.int l4), some (.int v1)], [.int l4], Wm pre post I1 A1)) rfl ?_
          refine go_run 4 (F' := (5, [some (.ref 134), some (.int l1), u2, some (.int (l3 + 1)), some (.int (l4 + 0)), some (.int v1)], [], Wm pre post I1 A1)) rfl ?_
          exact ih hm
def x_closing (n : Nat) (I : Nat → Int32) (A : Nat → Nat → Int32) (a1 a2 : Int32) : Option xR := (x_closing_5  n I A a1 a2 1)
theorem g_closing {X : ie_X} {d : Nat} {pre post : ie_H} (hp : pre.length = 134) {n : Nat} {I : Nat → Int32} {A : Nat → Nat → Int32} {a1 a2 : Int32} {I' : Nat → Int32} {A' : Nat → Nat → Int32} {r : Int32} (hm : x_closing n I A a1 a2 = some (I', A', r)) : Go X (d + 1) 200 (0, ie_en 200 [.ref 134, .int a1, .int a2], [], Wm pre post I A) (.inl (some (.int r))) (Wm pre post I' A') := by
  unfold x_closing at hm
  refine go_run 0 (F' := (0, [some (.ref 134), some (.int a1), some (.int a2), none, none, none], [], Wm pre post I A)) rfl ?_
  refine go_run 4 (F' := (5, [some (.ref 134), some (.int a1), some (.int a2), some (.int a2), some (.int 1), none], [], Wm pre post I A)) rfl ?_
  exact g_closing_5 hp  n hm
def x_behindCases_2 : Nat → (Nat → Int32) → (Nat → Nat → Int32) → Int32 → Int32 → Option xR
  | 0, _, _, _, _ => none
  | n + 1, I, A, l1, l3 => (xb (x_isCase I A l1 l3) fun I1 A1 v1 => (if v1 = 0 then (some (I1, A1, l3)) else (xb (x_closing n I1 A1 l1 (l3 + 1)) fun I2 A2 v2 => (x_behindCases_2 n I2 A2 l1 (v2 + 1)))))
theorem g_behindCases_2 {X : ie_X} {d : Nat} {pre post : ie_H} (hp : pre.length = 134) : ∀ (n : Nat) {I : Nat → Int32} {A : Nat → Nat → Int32} {l1 l3 : Int32} {u2 : Option Value} {I' : Nat → Int32} {A' : Nat → Nat → Int32} {r : Int32}, x_behindCases_2 n I A l1 l3 = some (I', A', r) → Go X (d + 2) 198 (2, [some (.ref 134), some (.int l1), u2, some (.int l3)], [], Wm pre post I A) (.inl (some (.int r))) (Wm pre post I' A') := by
  intro n
  induction n with
  | zero => intro I A l1 l3 u2 I' A' r hm; cases hm
  | succ n ih =>
    intro I A l1 l3 u2 I' A' r hm
    unfold x_behindCases_2 at hm
    refine go_run 0 (F' := (2, [some (.ref 134), some (.int l1), u2, some (.int l3)], [], Wm pre post I A)) rfl ?_
    refine go_run 3 (F' := (5, [some (.ref 134), some (.int l1), u2, some (.int l3)], [.int l3, .int l1, .ref 134], Wm pre post I A)) rfl ?_
    obtain ⟨I1, A1, v1, e1, hm⟩ := xb_inv hm
    refine go_call (m' := 199) (v := some (.int v1)) (h1 := Wm pre post I1 A1) rfl (by simp only [ie_step, ie_iv, List.drop, w_0 hp]; rfl) ⟨rfl, Nat.le_of_ble_eq_true rfl⟩ (g_isCase (d := d) hp e1) ?_
    refine go_run 0 (F' := (8, [some (.ref 134), some (.int l1), u2, some (.int l3)], [.int v1], Wm pre post I1 A1)) rfl ?_
    refine go_run 0 (F' := (8, [some (.ref 134), some (.int l1), u2, some (.int l3)], [.int v1], Wm pre post I1 A1)) rfl ?_
    refine go_step rfl rfl ?_
    by_cases q1 : v1 = 0
    · rw [if_pos q1] at hm ⊢
      refine go_run 0 (F' := (25, [some (.ref 134), some (.int l1), u2, some (.int l3)], [], Wm pre post I1 A1)) rfl ?_
      refine go_run 1 (F' := (26, [some (.ref 134), some (.int l1), u2, some (.int l3)], [.int l3], Wm pre post I1 A1)) rfl ?_
      cases hm
      exact go_end rfl rfl
    · rw [if_neg q1] at hm ⊢
      refine go_run 0 (F' := (11, [some (.ref 134), some (.int l1), u2, some (.int l3)], [], Wm pre post I1 A1)) rfl ?_
      refine go_run 5 (F' := (16, [some (.ref 134), some (.int l1), u2, some (.int l3)], [.int (l3 + 1), .int l1, .ref 134], Wm pre post I1 A1)) rfl ?_
      obtain ⟨I2, A2, v2, e2, hm⟩ := xb_inv hm
      refine go_call (m' := 200) (v := some (.int v2)) (h1 := Wm pre post I2 A2) rfl (by simp only [ie_step, ie_iv, List.drop, w_0 hp]; rfl) ⟨rfl, Nat.le_of_ble_eq_true rfl⟩ (g_closing (d := d) hp e2) ?_
      refine go_run 0 (F' := (19, [some (.ref 134), some (.int l1), u2, some (.int l3)], [.int v2], Wm pre post I2 A2)) rfl ?_
      refine go_run 4 (F' := (2, [some (.ref 134), some (.int l1), u2, some (.int (v2 + 1))], [], Wm pre post I2 A2)) rfl ?_
      exact ih hm
def x_behindCases (n : Nat) (I : Nat → Int32) (A : Nat → Nat → Int32) (a1 a2 : Int32) : Option xR := (x_behindCases_2  n I A a1 a2)
theorem g_behindCases {X : ie_X} {d : Nat} {pre post : ie_H} (hp : pre.length = 134) {n : Nat} {I : Nat → Int32} {A : Nat → Nat → Int32} {a1 a2 : Int32} {I' : Nat → Int32} {A' : Nat → Nat → Int32} {r : Int32} (hm : x_behindCases n I A a1 a2 = some (I', A', r)) : Go X (d + 2) 198 (0, ie_en 198 [.ref 134, .int a1, .int a2], [], Wm pre post I A) (.inl (some (.int r))) (Wm pre post I' A') := by
  unfold x_behindCases at hm
  refine go_run 0 (F' := (0, [some (.ref 134), some (.int a1), some (.int a2), none], [], Wm pre post I A)) rfl ?_
  refine go_run 2 (F' := (2, [some (.ref 134), some (.int a1), some (.int a2), some (.int a2)], [], Wm pre post I A)) rfl ?_
  exact g_behindCases_2 hp  n hm
