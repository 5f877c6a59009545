def x_isPlay_155 (n : Nat) (I : Nat → Int32) (A : Nat → Nat → Int32) (l1 : Int32) : Option xR := (if l1 = 0 then (if I 7 = 0 then (some (upd I 2 (I 4), A, 0)) else (some (upd I 2 (I 6), A, 0))) else (some (I, A, 1)))
theorem g_isPlay_155 {X : ie_X} {d : Nat} {pre post : ie_H} (hp : pre.length = 134) {n : Nat} {I : Nat → Int32} {A : Nat → Nat → Int32} {l1 : Int32} {I' : Nat → Int32} {A' : Nat → Nat → Int32} {r : Int32} (hm : x_isPlay_155 n I A l1 = some (I', A', r)) : Go X (d + 5) 137 (155, [some (.ref 134), some (.int l1)], [], Wm pre post I A) (.inl (some (.int r))) (Wm pre post I' A') := by
  unfold x_isPlay_155 at hm
  refine go_run 0 (F' := (155, [some (.ref 134), some (.int l1)], [], Wm pre post I A)) rfl ?_
  refine go_run 1 (F' := (156, [some (.ref 134), some (.int l1)], [.int l1], Wm pre post I A)) rfl ?_
  refine go_step rfl rfl ?_
  by_cases q1 : l1 = 0
  · rw [if_pos q1] at hm ⊢
    refine go_run 0 (F' := (161, [some (.ref 134), some (.int l1)], [], Wm pre post I A)) rfl ?_
    refine go_run 2 (F' := (163, [some (.ref 134), some (.int l1)], [.ref 134, .ref 134], Wm pre post I A)) rfl ?_
    refine go_gf rfl (w_0 hp) rfl ?_
    refine go_run 0 (F' := (166, [some (.ref 134), some (.int l1)], [.int (I 7), .ref 134], Wm pre post I A)) rfl ?_
    refine go_step rfl rfl ?_
    by_cases q2 : I 7 = 0
    · rw [if_pos q2] at hm ⊢
      refine go_run 0 (F' := (176, [some (.ref 134), some (.int l1)], [.ref 134], Wm pre post I A)) rfl ?_
      refine go_run 1 (F' := (177, [some (.ref 134), some (.int l1)], [.ref 134, .ref 134], Wm pre post I A)) rfl ?_
      refine go_gf rfl (w_0 hp) rfl ?_
      refine go_run 0 (F' := (180, [some (.ref 134), some (.int l1)], [.int (I 4), .ref 134], Wm pre post I A)) rfl ?_
      refine go_pf rfl (w_0 hp) (Nat.le_of_ble_eq_true rfl) rfl (wo_2 hp) ?_
      refine go_run 1 (F' := (184, [some (.ref 134), some (.int l1)], [.int 0], Wm pre post (upd I 2 (I 4)) A)) rfl ?_
      cases hm
      exact go_end rfl rfl
    · rw [if_neg q2] at hm ⊢
      refine go_run 0 (F' := (169, [some (.ref 134), some (.int l1)], [.ref 134], Wm pre post I A)) rfl ?_
      refine go_run 1 (F' := (170, [some (.ref 134), some (.int l1)], [.ref 134, .ref 134], Wm pre post I A)) rfl ?_
      refine go_gf rfl (w_0 hp) rfl ?_
      refine go_run 1 (F' := (180, [some (.ref 134), some (.int l1)], [.int (I 6), .ref 134], Wm pre post I A)) rfl ?_
      refine go_pf rfl (w_0 hp) (Nat.le_of_ble_eq_true rfl) rfl (wo_2 hp) ?_
      refine go_run 1 (F' := (184, [some (.ref 134), some (.int l1)], [.int 0], Wm pre post (upd I 2 (I 6)) A)) rfl ?_
      cases hm
      exact go_end rfl rfl
  · rw [if_neg q1] at hm ⊢
    refine go_run 0 (F' := (159, [some (.ref 134), some (.int l1)], [], Wm pre post I A)) rfl ?_
    refine go_run 1 (F' := (160, [some (.ref 134), some (.int l1)], [.int 1], Wm pre post I A)) rfl ?_
    cases hm
    exact go_end rfl rfl
def x_isPlay_108 (rec63 : (Nat → Int32) → (Nat → Nat → Int32) → Int32 → Option xR) (n : Nat) (I : Nat → Int32) (A : Nat → Nat → Int32) : Option xR := (if I 6 = I 4 then (if I 7 = 0 then (if I 9 = 0 then (xb (x_isEnd I A ((I 4) - 1)) fun I1 A1 v1 => (if v1 = 0 then (rec63 I1 A1 0) else (rec63 I1 A1 1))) else (rec63 I A 0)) else (rec63 I A 0)) else (rec63 I A 0))
theorem g_isPlay_108 {X : ie_X} {d : Nat} {pre post : ie_H} (hp : pre.length = 134) {rec63 : (Nat → Int32) → (Nat → Nat → Int32) → Int32 → Option xR} (hr63 : ∀ {J : Nat → Int32} {B : Nat → Nat → Int32} {m1 : Int32} {J' : Nat → Int32} {B' : Nat → Nat → Int32} {r' : Int32}, rec63 J B m1 = some (J', B', r') → Go X (d + 5) 137 (63, [some (.ref 134), some (.int m1)], [], Wm pre post J B) (.inl (some (.int r'))) (Wm pre post J' B')) {n : Nat} {I : Nat → Int32} {A : Nat → Nat → Int32} {u1 : Option Value} {I' : Nat → Int32} {A' : Nat → Nat → Int32} {r : Int32} (hm : x_isPlay_108 rec63 n I A = some (I', A', r)) : Go X (d + 5) 137 (108, [some (.ref 134), u1], [], Wm pre post I A) (.inl (some (.int r))) (Wm pre post I' A') := by
  unfold x_isPlay_108 at hm
  refine go_run 0 (F' := (108, [some (.ref 134), u1], [], Wm pre post I A)) rfl ?_
  refine go_run 1 (F' := (109, [some (.ref 134), u1], [.ref 134], Wm pre post I A)) rfl ?_
  refine go_gf rfl (w_0 hp) rfl ?_
  refine go_run 1 (F' := (113, [some (.ref 134), u1], [.ref 134, .int (I 6)], Wm pre post I A)) rfl ?_
  refine go_gf rfl (w_0 hp) rfl ?_
  refine go_run 0 (F' := (116, [some (.ref 134), u1], [.int (I 4), .int (I 6)], Wm pre post I A)) rfl ?_
  refine go_step rfl rfl ?_
  by_cases q1 : I 6 = I 4
  · rw [if_pos q1] at hm ⊢
    refine go_run 0 (F' := (119, [some (.ref 134), u1], [], Wm pre post I A)) rfl ?_
    refine go_run 1 (F' := (120, [some (.ref 134), u1], [.ref 134], Wm pre post I A)) rfl ?_
    refine go_gf rfl (w_0 hp) rfl ?_
    refine go_run 0 (F' := (123, [some (.ref 134), u1], [.int (I 7)], Wm pre post I A)) rfl ?_
    refine go_step rfl rfl ?_
    by_cases q2 : I 7 = 0
    · rw [if_pos q2] at hm ⊢
      refine go_run 0 (F' := (126, [some (.ref 134), u1], [], Wm pre post I A)) rfl ?_
      refine go_run 1 (F' := (127, [some (.ref 134), u1], [.ref 134], Wm pre post I A)) rfl ?_
      refine go_gf rfl (w_0 hp) rfl ?_
      refine go_run 0 (F' := (130, [some (.ref 134), u1], [.int (I 9)], Wm pre post I A)) rfl ?_
      refine go_step rfl rfl ?_
      by_cases q3 : I 9 = 0
      · rw [if_pos q3] at hm ⊢
        refine go_run 0 (F' := (133, [some (.ref 134), u1], [], Wm pre post I A)) rfl ?_
        refine go_run 2 (F' := (135, [some (.ref 134), u1], [.ref 134, .ref 134], Wm pre post I A)) rfl ?_
        refine go_gf rfl (w_0 hp) rfl ?_
        refine go_run 2 (F' := (140, [some (.ref 134), u1], [.int ((I 4) - 1), .ref 134], Wm pre post I A)) rfl ?_
        obtain ⟨I1, A1, v1, e1, hm⟩ := xb_inv hm
        refine go_call (m' := 153) (v := some (.int v1)) (h1 := Wm pre post I1 A1) rfl (by simp only [ie_step, ie_iv, List.drop, w_0 hp]; rfl) ⟨rfl, Nat.le_of_ble_eq_true rfl⟩ (g_isEnd (d := d + 4) hp e1) ?_
        refine go_run 0 (F' := (143, [some (.ref 134), u1], [.int v1], Wm pre post I1 A1)) rfl ?_
        refine go_run 0 (F' := (143, [some (.ref 134), u1], [.int v1], Wm pre post I1 A1)) rfl ?_
        refine go_step rfl rfl ?_
        by_cases q4 : v1 = 0
        · rw [if_pos q4] at hm ⊢
          refine go_run 0 (F' := (150, [some (.ref 134), u1], [], Wm pre post I1 A1)) rfl ?_
          refine go_run 3 (F' := (63, [some (.ref 134), some (.int 0)], [], Wm pre post I1 A1)) rfl ?_
          exact hr63 hm
        · rw [if_neg q4] at hm ⊢
          refine go_run 0 (F' := (146, [some (.ref 134), u1], [], Wm pre post I1 A1)) rfl ?_
          refine go_run 4 (F' := (63, [some (.ref 134), some (.int 1)], [], Wm pre post I1 A1)) rfl ?_
          exact hr63 hm
      · rw [if_neg q3] at hm ⊢
        refine go_run 0 (F' := (150, [some (.ref 134), u1], [], Wm pre post I A)) rfl ?_
        refine go_run 3 (F' := (63, [some (.ref 134), some (.int 0)], [], Wm pre post I A)) rfl ?_
        exact hr63 hm
    · rw [if_neg q2] at hm ⊢
      refine go_run 0 (F' := (150, [some (.ref 134), u1], [], Wm pre post I A)) rfl ?_
      refine go_run 3 (F' := (63, [some (.ref 134), some (.int 0)], [], Wm pre post I A)) rfl ?_
      exact hr63 hm
  · rw [if_neg q1] at hm ⊢
    refine go_run 0 (F' := (150, [some (.ref 134), u1], [], Wm pre post I A)) rfl ?_
    refine go_run 3 (F' := (63, [some (.ref 134), some (.int 0)], [], Wm pre post I A)) rfl ?_
    exact hr63 hm
def x_isPlay_104 (rec63 : (Nat → Int32) → (Nat → Nat → Int32) → Int32 → Option xR) (n : Nat) (I : Nat → Int32) (A : Nat → Nat → Int32) : Option xR := (xb (x_readStatement n I A) fun I1 A1 v1 => (x_isPlay_108 rec63 n I1 A1))
theorem g_isPlay_104 {X : ie_X} {d : Nat} {pre post : ie_H} (hp : pre.length = 134) {rec63 : (Nat → Int32) → (Nat → Nat → Int32) → Int32 → Option xR} (hr63 : ∀ {J : Nat → Int32} {B : Nat → Nat → Int32} {m1 : Int32} {J' : Nat → Int32} {B' : Nat → Nat → Int32} {r' : Int32}, rec63 J B m1 = some (J', B', r') → Go X (d + 5) 137 (63, [some (.ref 134), some (.int m1)], [], Wm pre post J B) (.inl (some (.int r'))) (Wm pre post J' B')) {n : Nat} {I : Nat → Int32} {A : Nat → Nat → Int32} {u1 : Option Value} {I' : Nat → Int32} {A' : Nat → Nat → Int32} {r : Int32} (hm : x_isPlay_104 rec63 n I A = some (I', A', r)) : Go X (d + 5) 137 (104, [some (.ref 134), u1], [], Wm pre post I A) (.inl (some (.int r))) (Wm pre post I' A') := by
  unfold x_isPlay_104 at hm
  refine go_run 0 (F' := (104, [some (.ref 134), u1], [], Wm pre post I A)) rfl ?_
  refine go_run 1 (F' := (105, [some (.ref 134), u1], [.ref 134], Wm pre post I A)) rfl ?_
  obtain ⟨I1, A1, v1, e1, hm⟩ := xb_inv hm
  refine go_call (m' := 143) (v := none) (h1 := Wm pre post I1 A1) rfl (by simp only [ie_step, ie_iv, List.drop, w_0 hp]; rfl) ⟨rfl, Nat.le_of_ble_eq_true rfl⟩ (g_readStatement (d := d) hp e1) ?_
  refine go_run 0 (F' := (108, [some (.ref 134), u1], [], Wm pre post I1 A1)) rfl ?_
  refine go_run 0 (F' := (108, [some (.ref 134), u1], [], Wm pre post I1 A1)) rfl ?_
  exact g_isPlay_108 hp hr63 hm
def x_isPlay_63 : Nat → (Nat → Int32) → (Nat → Nat → Int32) → Int32 → Option xR
  | 0, _, _, _ => none
  | n + 1, I, A, l1 => (if I 4 ≤ I 6 then (x_isPlay_155  n I A l1) else (if I 7 = 0 then (if I 9 ≤ 0 then (x_isPlay_104 (x_isPlay_63 n) n I A) else (xb (x_now I A) fun I1 A1 v1 => (if v1 = 125 then (xb (x_readEnd I1 A1) fun I2 A2 v2 => (x_isPlay_108 (x_isPlay_63 n) n I2 A2)) else (x_isPlay_104 (x_isPlay_63 n) n I1 A1)))) else (x_isPlay_155  n I A l1)))
theorem g_isPlay_63 {X : ie_X} {d : Nat} {pre post : ie_H} (hp : pre.length = 134) : ∀ (n : Nat) {I : Nat → Int32} {A : Nat → Nat → Int32} {l1 : Int32} {I' : Nat → Int32} {A' : Nat → Nat → Int32} {r : Int32}, x_isPlay_63 n I A l1 = some (I', A', r) → Go X (d + 5) 137 (63, [some (.ref 134), some (.int l1)], [], Wm pre post I A) (.inl (some (.int r))) (Wm pre post I' A') := by
  intro n
  induction n with
  | zero => intro I A l1 I' A' r hm; cases hm
  | succ n ih =>
    intro I A l1 I' A' r hm
    unfold x_isPlay_63 at hm
    refine go_run 0 (F' := (63, [some (.ref 134), some (.int l1)], [], Wm pre post I A)) rfl ?_
    refine go_run 1 (F' := (64, [some (.ref 134), some (.int l1)], [.ref 134], Wm pre post I A)) rfl ?_
    refine go_gf rfl (w_0 hp) rfl ?_
    refine go_run 1 (F' := (68, [some (.ref 134), some (.int l1)], [.ref 134, .int (I 6)], Wm pre post I A)) rfl ?_
    refine go_gf rfl (w_0 hp) rfl ?_
    refine go_run 0 (F' := (71, [some (.ref 134), some (.int l1)], [.int (I 4), .int (I 6)], Wm pre post I A)) rfl ?_
    refine go_step rfl rfl ?_
    by_cases q1 : I 4 ≤ I 6
    · rw [if_pos q1] at hm ⊢
      refine go_run 0 (F' := (155, [some (.ref 134), some (.int l1)], [], Wm pre post I A)) rfl ?_
      refine go_run 0 (F' := (155, [some (.ref 134), some (.int l1)], [], Wm pre post I A)) rfl ?_
      exact g_isPlay_155 hp  hm
    · rw [if_neg q1] at hm ⊢
      refine go_run 0 (F' := (74, [some (.ref 134), some (.int l1)], [], Wm pre post I A)) rfl ?_
      refine go_run 1 (F' := (75, [some (.ref 134), some (.int l1)], [.ref 134], Wm pre post I A)) rfl ?_
      refine go_gf rfl (w_0 hp) rfl ?_
      refine go_run 0 (F' := (78, [some (.ref 134), some (.int l1)], [.int (I 7)], Wm pre post I A)) rfl ?_
      refine go_step rfl rfl ?_
      by_cases q2 : I 7 = 0
      · rw [if_pos q2] at hm ⊢
        refine go_run 0 (F' := (81, [some (.ref 134), some (.int l1)], [], Wm pre post I A)) rfl ?_
        refine go_run 1 (F' := (82, [some (.ref 134), some (.int l1)], [.ref 134], Wm pre post I A)) rfl ?_
        refine go_gf rfl (w_0 hp) rfl ?_
        refine go_run 0 (F' := (85, [some (.ref 134), some (.int l1)], [.int (I 9)], Wm pre post I A)) rfl ?_
        refine go_step rfl rfl ?_
        by_cases q3 : I 9 ≤ 0
        · rw [if_pos q3] at hm ⊢
          refine go_run 0 (F' := (104, [some (.ref 134), some (.int l1)], [], Wm pre post I A)) rfl ?_
          refine go_run 0 (F' := (104, [some (.ref 134), some (.int l1)], [], Wm pre post I A)) rfl ?_
          exact g_isPlay_104 hp (fun z => ih z) hm
        · rw [if_neg q3] at hm ⊢
          refine go_run 0 (F' := (88, [some (.ref 134), some (.int l1)], [], Wm pre post I A)) rfl ?_
          refine go_run 1 (F' := (89, [some (.ref 134), some (.int l1)], [.ref 134], Wm pre post I A)) rfl ?_
          obtain ⟨I1, A1, v1, e1, hm⟩ := xb_inv hm
          refine go_call (m' := 138) (v := some (.int v1)) (h1 := Wm pre post I1 A1) rfl (by simp only [ie_step, ie_iv, List.drop, w_0 hp]; rfl) ⟨rfl, Nat.le_of_ble_eq_true rfl⟩ (g_now (d := d + 4) hp e1) ?_
          refine go_run 0 (F' := (92, [some (.ref 134), some (.int l1)], [.int v1], Wm pre post I1 A1)) rfl ?_
          refine go_run 1 (F' := (94, [some (.ref 134), some (.int l1)], [.int 125, .int v1], Wm pre post I1 A1)) rfl ?_
          refine go_step rfl rfl ?_
          by_cases q4 : v1 = 125
          · rw [if_pos q4] at hm ⊢
            refine go_run 0 (F' := (97, [some (.ref 134), some (.int l1)], [], Wm pre post I1 A1)) rfl ?_
            refine go_run 1 (F' := (98, [some (.ref 134), some (.int l1)], [.ref 134], Wm pre post I1 A1)) rfl ?_
            obtain ⟨I2, A2, v2, e2, hm⟩ := xb_inv hm
            refine go_call (m' := 139) (v := none) (h1 := Wm pre post I2 A2) rfl (by simp only [ie_step, ie_iv, List.drop, w_0 hp]; rfl) ⟨rfl, Nat.le_of_ble_eq_true rfl⟩ (g_readEnd (d := d + 2) hp e2) ?_
            refine go_run 0 (F' := (101, [some (.ref 134), some (.int l1)], [], Wm pre post I2 A2)) rfl ?_
            refine go_run 1 (F' := (108, [some (.ref 134), some (.int l1)], [], Wm pre post I2 A2)) rfl ?_
            exact g_isPlay_108 hp (fun z => ih z) hm
          · rw [if_neg q4] at hm ⊢
            refine go_run 0 (F' := (104, [some (.ref 134), some (.int l1)], [], Wm pre post I1 A1)) rfl ?_
            refine go_run 0 (F' := (104, [some (.ref 134), some (.int l1)], [], Wm pre post I1 A1)) rfl ?_
            exact g_isPlay_104 hp (fun z => ih z) hm
      · rw [if_neg q2] at hm ⊢
        refine go_run 0 (F' := (155, [some (.ref 134), some (.int l1)], [], Wm pre post I A)) rfl ?_
        refine go_run 0 (F' := (155, [some (.ref 134), some (.int l1)], [], Wm pre post I A)) rfl ?_
        exact g_isPlay_155 hp  hm
def x_isPlay_10 : Nat → (Nat → Int32) → (Nat → Nat → Int32) → Int32 → Option xR
  | 0, _, _, _ => none
  | n + 1, I, A, l1 => (if I 1 ≤ l1 then (x_isPlay_63  n (upd (upd (upd (upd (upd I 6 0) 7 0) 5 0) 8 0) 9 0) A 0) else (if ib l1 200 then (x_isPlay_10 n I (upA A 2 (upd (A 2) (Int32.toNatClampNeg l1) ((A 1) (Int32.toNatClampNeg l1)))) (l1 + 1)) else none))
theorem g_isPlay_10 {X : ie_X} {d : Nat} {pre post : ie_H} (hp : pre.length = 134) : ∀ (n : Nat) {I : Nat → Int32} {A : Nat → Nat → Int32} {l1 : Int32} {I' : Nat → Int32} {A' : Nat → Nat → Int32} {r : Int32}, x_isPlay_10 n I A l1 = some (I', A', r) → Go X (d + 5) 137 (10, [some (.ref 134), some (.int l1)], [], Wm pre post I A) (.inl (some (.int r))) (Wm pre post I' A') := by
  intro n
  induction n with
  | zero => intro I A l1 I' A' r hm; cases hm
  | succ n ih =>
    intro I A l1 I' A' r hm
    unfold x_isPlay_10 at hm
    refine go_run 0 (F' := (10, [some (.ref 134), some (.int l1)], [], Wm pre post I A)) rfl ?_
    refine go_run 2 (F' := (12, [some (.ref 134), some (.int l1)], [.ref 134, .int l1], Wm pre post I A)) rfl ?_
    refine go_gf rfl (w_0 hp) rfl ?_
    refine go_run 0 (F' := (15, [some (.ref 134), some (.int l1)], [.int (I 1), .int l1], Wm pre post I A)) rfl ?_
    refine go_step rfl rfl ?_
    by_cases q1 : I 1 ≤ l1
    · rw [if_pos q1] at hm ⊢
      refine go_run 0 (F' := (36, [some (.ref 134), some (.int l1)], [], Wm pre post I A)) rfl ?_
      refine go_run 2 (F' := (38, [some (.ref 134), some (.int l1)], [.int 0, .ref 134], Wm pre post I A)) rfl ?_
      refine go_pf rfl (w_0 hp) (Nat.le_of_ble_eq_true rfl) rfl (wo_6 hp) ?_
      refine go_run 2 (F' := (43, [some (.ref 134), some (.int l1)], [.int 0, .ref 134], Wm pre post (upd I 6 0) A)) rfl ?_
      refine go_pf rfl (w_0 hp) (Nat.le_of_ble_eq_true rfl) rfl (wo_7 hp) ?_
      refine go_run 2 (F' := (48, [some (.ref 134), some (.int l1)], [.int 0, .ref 134], Wm pre post (upd (upd I 6 0) 7 0) A)) rfl ?_
      refine go_pf rfl (w_0 hp) (Nat.le_of_ble_eq_true rfl) rfl (wo_5 hp) ?_
      refine go_run 2 (F' := (53, [some (.ref 134), some (.int l1)], [.int 0, .ref 134], Wm pre post (upd (upd (upd I 6 0) 7 0) 5 0) A)) rfl ?_
      refine go_pf rfl (w_0 hp) (Nat.le_of_ble_eq_true rfl) rfl (wo_8 hp) ?_
      refine go_run 2 (F' := (58, [some (.ref 134), some (.int l1)], [.int 0, .ref 134], Wm pre post (upd (upd (upd (upd I 6 0) 7 0) 5 0) 8 0) A)) rfl ?_
      refine go_pf rfl (w_0 hp) (Nat.le_of_ble_eq_true rfl) rfl (wo_9 hp) ?_
      refine go_run 2 (F' := (63, [some (.ref 134), some (.int 0)], [], Wm pre post (upd (upd (upd (upd (upd I 6 0) 7 0) 5 0) 8 0) 9 0) A)) rfl ?_
      exact g_isPlay_63 hp  n hm
    · rw [if_neg q1] at hm ⊢
      refine go_run 0 (F' := (18, [some (.ref 134), some (.int l1)], [], Wm pre post I A)) rfl ?_
      refine go_run 1 (F' := (19, [some (.ref 134), some (.int l1)], [.ref 134], Wm pre post I A)) rfl ?_
      refine go_gf rfl (w_0 hp) rfl ?_
      refine go_run 2 (F' := (24, [some (.ref 134), some (.int l1)], [.ref 134, .int l1, .ref 136], Wm pre post I A)) rfl ?_
      refine go_gf rfl (w_0 hp) rfl ?_
      refine go_run 1 (F' := (28, [some (.ref 134), some (.int l1)], [.int l1, .ref 135, .int l1, .ref 136], Wm pre post I A)) rfl ?_
      obtain ⟨b2, hm⟩ := gd hm
      refine go_iald rfl (by decide) (w_1 hp) b2 rfl ?_
      refine go_run 0 (F' := (29, [some (.ref 134), some (.int l1)], [.int ((A 1) (Int32.toNatClampNeg l1)), .int l1, .ref 136], Wm pre post I A)) rfl ?_
      refine go_iast rfl (w_2 hp) b2 (ws_2 hp) ?_
      refine go_run 2 (F' := (10, [some (.ref 134), some (.int (l1 + 1))], [], Wm pre post I (upA A 2 (upd (A 2) (Int32.toNatClampNeg l1) ((A 1) (Int32.toNatClampNeg l1)))))) rfl ?_
      exact ih hm
def x_isPlay (n : Nat) (I : Nat → Int32) (A : Nat → Nat → Int32) : Option xR := (x_isPlay_10  n (upd I 4 (I 1)) A 0)
theorem g_isPlay {X : ie_X} {d : Nat} {pre post : ie_H} (hp : pre.length = 134) {n : Nat} {I : Nat → Int32} {A : Nat → Nat → Int32} {I' : Nat → Int32} {A' : Nat → Nat → Int32} {r : Int32} (hm : x_isPlay n I A = some (I', A', r)) : Go X (d + 5) 137 (0, ie_en 137 [.ref 134], [], Wm pre post I A) (.inl (some (.int r))) (Wm pre post I' A') := by
  unfold x_isPlay at hm
  refine go_run 0 (F' := (0, [some (.ref 134), none], [], Wm pre post I A)) rfl ?_
  refine go_run 2 (F' := (2, [some (.ref 134), none], [.ref 134, .ref 134], Wm pre post I A)) rfl ?_
  refine go_gf rfl (w_0 hp) rfl ?_
  refine go_run 0 (F' := (5, [some (.ref 134), none], [.int (I 1), .ref 134], Wm pre post I A)) rfl ?_
  refine go_pf rfl (w_0 hp) (Nat.le_of_ble_eq_true rfl) rfl (wo_4 hp) ?_
  refine go_run 2 (F' := (10, [some (.ref 134), some (.int 0)], [], Wm pre post (upd I 4 (I 1)) A)) rfl ?_
  exact g_isPlay_10 hp  n hm
def x_add (I : Nat → Int32) (A : Nat → Nat → Int32) (a1 : Int32) : Option xR := (if ib (I 12) 1100 then (some (upd I 12 ((I 12) + 1), upA A 28 (upd (A 28) (Int32.toNatClampNeg (I 12)) a1), 0)) else none)
theorem g_add {X : ie_X} {d : Nat} {pre post : ie_H} (hp : pre.length = 134) {I : Nat → Int32} {A : Nat → Nat → Int32} {a1 : Int32} {I' : Nat → Int32} {A' : Nat → Nat → Int32} {r : Int32} (hm : x_add I A a1 = some (I', A', r)) : Go X (d + 0) 157 (0, ie_en 157 [.ref 134, .int a1], [], Wm pre post I A) (.inl none) (Wm pre post I' A') := by
  unfold x_add at hm
  refine go_run 0 (F' := (0, [some (.ref 134), some (.int a1)], [], Wm pre post I A)) rfl ?_
  refine go_run 1 (F' := (1, [some (.ref 134), some (.int a1)], [.ref 134], Wm pre post I A)) rfl ?_
  refine go_gf rfl (w_0 hp) rfl ?_
  refine go_run 1 (F' := (5, [some (.ref 134), some (.int a1)], [.ref 134, .ref 162], Wm pre post I A)) rfl ?_
  refine go_gf rfl (w_0 hp) rfl ?_
  refine go_run 1 (F' := (9, [some (.ref 134), some (.int a1)], [.int a1, .int (I 12), .ref 162], Wm pre post I A)) rfl ?_
  obtain ⟨b1, hm⟩ := gd hm
  refine go_iast rfl (w_28 hp) b1 (ws_28 hp) ?_
  refine go_run 2 (F' := (12, [some (.ref 134), some (.int a1)], [.ref 134, .ref 134], Wm pre post I (upA A 28 (upd (A 28) (Int32.toNatClampNeg (I 12)) a1)))) rfl ?_
  refine go_gf rfl (w_0 hp) rfl ?_
  refine go_run 2 (F' := (17, [some (.ref 134), some (.int a1)], [.int ((I 12) + 1), .ref 134], Wm pre post I (upA A 28 (upd (A 28) (Int32.toNatClampNeg (I 12)) a1)))) rfl ?_
  refine go_pf rfl (w_0 hp) (Nat.le_of_ble_eq_true rfl) rfl (wo_12 hp) ?_
  refine go_run 0 (F' := (20, [some (.ref 134), some (.int a1)], [], Wm pre post (upd I 12 ((I 12) + 1)) (upA A 28 (upd (A 28) (Int32.toNatClampNeg (I 12)) a1)))) rfl ?_
  cases hm
  exact go_end rfl rfl
def x_addTold_55 : Nat → (Nat → Int32) → (Nat → Nat → Int32) → Int32 → Int32 → Int32 → Option xR
  | 0, _, _, _, _, _ => none
  | n + 1, I, A, l1, l3, l5 => (if ib (I 13) 20 then (if l5 ≤ (A 29) (Int32.toNatClampNeg (I 13)) then (if ib ((A 29) (Int32.toNatClampNeg (I 13))) 1100 then (xb (x_add (upd I 12 ((I 12) + 1)) (upA A 28 (upd (A 28) (Int32.toNatClampNeg ((A 29) (Int32.toNatClampNeg (I 13)))) 125)) 123) fun I1 A1 v1 => (xb (x_add I1 A1 (48 + l3)) fun I2 A2 v2 => (xb (x_add I2 A2 (65 + l1)) fun I3 A3 v3 => (some (I3, A3, 0))))) else none) else (if ib (l5 - 1) 1100 then (if ib l5 1100 then (x_addTold_55 n I (upA A 28 (upd (A 28) (Int32.toNatClampNeg l5) ((A 28) (Int32.toNatClampNeg (l5 - 1))))) l1 l3 (l5 + (-1))) else none) else none)) else none)
theorem g_addTold_55 {X : ie_X} {d : Nat} {pre post : ie_H} (hp : pre.length = 134) : ∀ (n : Nat) {I : Nat → Int32} {A : Nat → Nat → Int32} {l1 l3 l5 : Int32} {u2 u4 : Option Value} {I' : Nat → Int32} {A' : Nat → Nat → Int32} {r : Int32}, x_addTold_55 n I A l1 l3 l5 = some (I', A', r) → Go X (d + 1) 156 (55, [some (.ref 134), some (.int l1), u2, some (.int l3), u4, some (.int l5)], [], Wm pre post I A) (.inl none) (Wm pre post I' A') := by
  intro n
  induction n with
  | zero => intro I A l1 l3 l5 u2 u4 I' A' r hm; cases hm
  | succ n ih =>
    intro I A l1 l3 l5 u2 u4 I' A' r hm
    unfold x_addTold_55 at hm
    refine go_run 0 (F' := (55, [some (.ref 134), some (.int l1), u2, some (.int l3), u4, some (.int l5)], [], Wm pre post I A)) rfl ?_
    refine go_run 2 (F' := (58, [some (.ref 134), some (.int l1), u2, some (.int l3), u4, some (.int l5)], [.ref 134, .int l5], Wm pre post I A)) rfl ?_
    refine go_gf rfl (w_0 hp) rfl ?_
    refine go_run 1 (F' := (62, [some (.ref 134), some (.int l1), u2, some (.int l3), u4, some (.int l5)], [.ref 134, .ref 163, .int l5], Wm pre post I A)) rfl ?_
    refine go_gf rfl (w_0 hp) rfl ?_
    refine go_run 0 (F' := (65, [some (.ref 134), some (.int l1), u2, some (.int l3), u4, some (.int l5)], [.int (I 13), .ref 163, .int l5], Wm pre post I A)) rfl ?_
    obtain ⟨b1, hm⟩ := gd hm
    refine go_iald rfl (by decide) (w_29 hp) b1 rfl ?_
    refine go_run 0 (F' := (66, [some (.ref 134), some (.int l1), u2, some (.int l3), u4, some (.int l5)], [.int ((A 29) (Int32.toNatClampNeg (I 13))), .int l5], Wm pre post I A)) rfl ?_
    refine go_step rfl rfl ?_
    by_cases q2 : l5 ≤ (A 29) (Int32.toNatClampNeg (I 13))
    · rw [if_pos q2] at hm ⊢
      refine go_run 0 (F' := (91, [some (.ref 134), some (.int l1), u2, some (.int l3), u4, some (.int l5)], [], Wm pre post I A)) rfl ?_
      refine go_run 1 (F' := (92, [some (.ref 134), some (.int l1), u2, some (.int l3), u4, some (.int l5)], [.ref 134], Wm pre post I A)) rfl ?_
      refine go_gf rfl (w_0 hp) rfl ?_
      refine go_run 1 (F' := (96, [some (.ref 134), some (.int l1), u2, some (.int l3), u4, some (.int l5)], [.ref 134, .ref 162], Wm pre post I A)) rfl ?_
      refine go_gf rfl (w_0 hp) rfl ?_
      refine go_run 1 (F' := (100, [some (.ref 134), some (.int l1), u2, some (.int l3), u4, some (.int l5)], [.ref 134, .ref 163, .ref 162], Wm pre post I A)) rfl ?_
      refine go_gf rfl (w_0 hp) rfl ?_
      refine go_run 0 (F' := (103, [some (.ref 134), some (.int l1), u2, some (.int l3), u4, some (.int l5)], [.int (I 13), .ref 163, .ref 162], Wm pre post I A)) rfl ?_
      refine go_iald rfl (by decide) (w_29 hp) b1 rfl ?_
      refine go_run 1 (F' := (106, [some (.ref 134), some (.int l1), u2, some (.int l3), u4, some (.int l5)], [.int 125, .int ((A 29) (Int32.toNatClampNeg (I 13))), .ref 162], Wm pre post I A)) rfl ?_
      obtain ⟨b3, hm⟩ := gd hm
      refine go_iast rfl (w_28 hp) b3 (ws_28 hp) ?_
      refine go_run 2 (F' := (109, [some (.ref 134), some (.int l1), u2, some (.int l3), u4, some (.int l5)], [.ref 134, .ref 134], Wm pre post I (upA A 28 (upd (A 28) (Int32.toNatClampNeg ((A 29) (Int32.toNatClampNeg (I 13)))) 125)))) rfl ?_
      refine go_gf rfl (w_0 hp) rfl ?_
      refine go_run 2 (F' := (114, [some (.ref 134), some (.int l1), u2, some (.int l3), u4, some (.int l5)], [.int ((I 12) + 1), .ref 134], Wm pre post I (upA A 28 (upd (A 28) (Int32.toNatClampNeg ((A 29) (Int32.toNatClampNeg (I 13)))) 125)))) rfl ?_
      refine go_pf rfl (w_0 hp) (Nat.le_of_ble_eq_true rfl) rfl (wo_12 hp) ?_
      refine go_run 2 (F' := (120, [some (.ref 134), some (.int l1), u2, some (.int l3), u4, some (.int l5)], [.int 123, .ref 134], Wm pre post (upd I 12 ((I 12) + 1)) (upA A 28 (upd (A 28) (Int32.toNatClampNeg ((A 29) (Int32.toNatClampNeg (I 13)))) 125)))) rfl ?_
      obtain ⟨I1, A1, v1, e1, hm⟩ := xb_inv hm
      refine go_call (m' := 157) (v := none) (h1 := Wm pre post I1 A1) rfl (by simp only [ie_step, ie_iv, List.drop, w_0 hp]; rfl) ⟨rfl, Nat.le_of_ble_eq_true rfl⟩ (g_add (d := d) hp e1) ?_
      refine go_run 0 (F' := (123, [some (.ref 134), some (.int l1), u2, some (.int l3), u4, some (.int l5)], [], Wm pre post I1 A1)) rfl ?_
      refine go_run 4 (F' := (128, [some (.ref 134), some (.int l1), u2, some (.int l3), u4, some (.int l5)], [.int (48 + l3), .ref 134], Wm pre post I1 A1)) rfl ?_
      obtain ⟨I2, A2, v2, e2, hm⟩ := xb_inv hm
      refine go_call (m' := 157) (v := none) (h1 := Wm pre post I2 A2) rfl (by simp only [ie_step, ie_iv, List.drop, w_0 hp]; rfl) ⟨rfl, Nat.le_of_ble_eq_true rfl⟩ (g_add (d := d) hp e2) ?_
      refine go_run 0 (F' := (131, [some (.ref 134), some (.int l1), u2, some (.int l3), u4, some (.int l5)], [], Wm pre post I2 A2)) rfl ?_
      refine go_run 4 (F' := (136, [some (.ref 134), some (.int l1), u2, some (.int l3), u4, some (.int l5)], [.int (65 + l1), .ref 134], Wm pre post I2 A2)) rfl ?_
      obtain ⟨I3, A3, v3, e3, hm⟩ := xb_inv hm
      refine go_call (m' := 157) (v := none) (h1 := Wm pre post I3 A3) rfl (by simp only [ie_step, ie_iv, List.drop, w_0 hp]; rfl) ⟨rfl, Nat.le_of_ble_eq_true rfl⟩ (g_add (d := d) hp e3) ?_
      refine go_run 0 (F' := (139, [some (.ref 134), some (.int l1), u2, some (.int l3), u4, some (.int l5)], [], Wm pre post I3 A3)) rfl ?_
      refine go_run 0 (F' := (139, [some (.ref 134), some (.int l1), u2, some (.int l3), u4, some (.int l5)], [], Wm pre post I3 A3)) rfl ?_
      cases hm
      exact go_end rfl rfl
    · rw [if_neg q2] at hm ⊢
      refine go_run 0 (F' := (69, [some (.ref 134), some (.int l1), u2, some (.int l3), u4, some (.int l5)], [], Wm pre post I A)) rfl ?_
      refine go_run 1 (F' := (70, [some (.ref 134), some (.int l1), u2, some (.int l3), u4, some (.int l5)], [.ref 134], Wm pre post I A)) rfl ?_
      refine go_gf rfl (w_0 hp) rfl ?_
      refine go_run 2 (F' := (76, [some (.ref 134), some (.int l1), u2, some (.int l3), u4, some (.int l5)], [.ref 134, .int l5, .ref 162], Wm pre post I A)) rfl ?_
      refine go_gf rfl (w_0 hp) rfl ?_
      refine go_run 3 (F' := (83, [some (.ref 134), some (.int l1), u2, some (.int l3), u4, some (.int l5)], [.int (l5 - 1), .ref 162, .int l5, .ref 162], Wm pre post I A)) rfl ?_
      obtain ⟨b4, hm⟩ := gd hm
      refine go_iald rfl (by decide) (w_28 hp) b4 rfl ?_
      refine go_run 0 (F' := (84, [some (.ref 134), some (.int l1), u2, some (.int l3), u4, some (.int l5)], [.int ((A 28) (Int32.toNatClampNeg (l5 - 1))), .int l5, .ref 162], Wm pre post I A)) rfl ?_
      obtain ⟨b5, hm⟩ := gd hm
      refine go_iast rfl (w_28 hp) b5 (ws_28 hp) ?_
      refine go_run 2 (F' := (55, [some (.ref 134), some (.int l1), u2, some (.int l3), u4, some (.int (l5 + (-1)))], [], Wm pre post I (upA A 28 (upd (A 28) (Int32.toNatClampNeg l5) ((A 28) (Int32.toNatClampNeg (l5 - 1))))))) rfl ?_
      exact ih hm
def x_addTold (n : Nat) (I : Nat → Int32) (A : Nat → Nat → Int32) (a1 a2 a3 a4 : Int32) : Option xR := (if a4 = a1 then (xb (x_add I A 59) fun I1 A1 v1 => (xb (x_add I1 A1 (65 + a2)) fun I2 A2 v2 => (xb (x_add I2 A2 62) fun I3 A3 v3 => (xb (x_add I3 A3 (48 + a3)) fun I4 A4 v4 => (xb (x_add I4 A4 33) fun I5 A5 v5 => (some (I5, A5, 0))))))) else (if a4 = a2 then (x_addTold_55  n I A a1 a3 (I 12)) else (some (I, A, 0))))
theorem g_addTold {X : ie_X} {d : Nat} {pre post : ie_H} (hp : pre.length = 134) {n : Nat} {I : Nat → Int32} {A : Nat → Nat → Int32} {a1 a2 a3 a4 : Int32} {I' : Nat → Int32} {A' : Nat → Nat → Int32} {r : Int32} (hm : x_addTold n I A a1 a2 a3 a4 = some (I', A', r)) : Go X (d + 1) 156 (0, ie_en 156 [.ref 134, .int a1, .int a2, .int a3, .int a4], [], Wm pre post I A) (.inl none) (Wm pre post I' A') := by
  unfold x_addTold at hm
  refine go_run 0 (F' := (0, [some (.ref 134), some (.int a1), some (.int a2), some (.int a3), some (.int a4), none], [], Wm pre post I A)) rfl ?_
  refine go_run 2 (F' := (3, [some (.ref 134), some (.int a1), some (.int a2), some (.int a3), some (.int a4), none], [.int a1, .int a4], Wm pre post I A)) rfl ?_
  refine go_step rfl rfl ?_
  by_cases q1 : a4 = a1
  · rw [if_pos q1] at hm ⊢
    refine go_run 0 (F' := (6, [some (.ref 134), some (.int a1), some (.int a2), some (.int a3), some (.int a4), none], [], Wm pre post I A)) rfl ?_
    refine go_run 2 (F' := (9, [some (.ref 134), some (.int a1), some (.int a2), some (.int a3), some (.int a4), none], [.int 59, .ref 134], Wm pre post I A)) rfl ?_
    obtain ⟨I1, A1, v1, e1, hm⟩ := xb_inv hm
    refine go_call (m' := 157) (v := none) (h1 := Wm pre post I1 A1) rfl (by simp only [ie_step, ie_iv, List.drop, w_0 hp]; rfl) ⟨rfl, Nat.le_of_ble_eq_true rfl⟩ (g_add (d := d) hp e1) ?_
    refine go_run 0 (F' := (12, [some (.ref 134), some (.int a1), some (.int a2), some (.int a3), some (.int a4), none], [], Wm pre post I1 A1)) rfl ?_
    refine go_run 4 (F' := (17, [some (.ref 134), some (.int a1), some (.int a2), some (.int a3), some (.int a4), none], [.int (65 + a2), .ref 134], Wm pre post I1 A1)) rfl ?_
    obtain ⟨I2, A2, v2, e2, hm⟩ := xb_inv hm
    refine go_call (m' := 157) (v := none) (h1 := Wm pre post I2 A2) rfl (by simp only [ie_step, ie_iv, List.drop, w_0 hp]; rfl) ⟨rfl, Nat.le_of_ble_eq_true rfl⟩ (g_add (d := d) hp e2) ?_
    refine go_run 0 (F' := (20, [some (.ref 134), some (.int a1), some (.int a2), some (.int a3), some (.int a4), none], [], Wm pre post I2 A2)) rfl ?_
    refine go_run 2 (F' := (23, [some (.ref 134), some (.int a1), some (.int a2), some (.int a3), some (.int a4), none], [.int 62, .ref 134], Wm pre post I2 A2)) rfl ?_
    obtain ⟨I3, A3, v3, e3, hm⟩ := xb_inv hm
    refine go_call (m' := 157) (v := none) (h1 := Wm pre post I3 A3) rfl (by simp only [ie_step, ie_iv, List.drop, w_0 hp]; rfl) ⟨rfl, Nat.le_of_ble_eq_true rfl⟩ (g_add (d := d) hp e3) ?_
    refine go_run 0 (F' := (26, [some (.ref 134), some (.int a1), some (.int a2), some (.int a3), some (.int a4), none], [], Wm pre post I3 A3)) rfl ?_
    refine go_run 4 (F' := (31, [some (.ref 134), some (.int a1), some (.int a2), some (.int a3), some (.int a4), none], [.int (48 + a3), .ref 134], Wm pre post I3 A3)) rfl ?_
    obtain ⟨I4, A4, v4, e4, hm⟩ := xb_inv hm
    refine go_call (m' := 157) (v := none) (h1 := Wm pre post I4 A4) rfl (by simp only [ie_step, ie_iv, List.drop, w_0 hp]; rfl) ⟨rfl, Nat.le_of_ble_eq_true rfl⟩ (g_add (d := d) hp e4) ?_
    refine go_run 0 (F' := (34, [some (.ref 134), some (.int a1), some (.int a2), some (.int a3), some (.int a4), none], [], Wm pre post I4 A4)) rfl ?_
    refine go_run 2 (F' := (37, [some (.ref 134), some (.int a1), some (.int a2), some (.int a3), some (.int a4), none], [.int 33, .ref 134], Wm pre post I4 A4)) rfl ?_
    obtain ⟨I5, A5, v5, e5, hm⟩ := xb_inv hm
    refine go_call (m' := 157) (v := none) (h1 := Wm pre post I5 A5) rfl (by simp only [ie_step, ie_iv, List.drop, w_0 hp]; rfl) ⟨rfl, Nat.le_of_ble_eq_true rfl⟩ (g_add (d := d) hp e5) ?_
    refine go_run 0 (F' := (40, [some (.ref 134), some (.int a1), some (.int a2), some (.int a3), some (.int a4), none], [], Wm pre post I5 A5)) rfl ?_
    refine go_run 1 (F' := (139, [some (.ref 134), some (.int a1), some (.int a2), some (.int a3), some (.int a4), none], [], Wm pre post I5 A5)) rfl ?_
    cases hm
    exact go_end rfl rfl
  · rw [if_neg q1] at hm ⊢
    refine go_run 0 (F' := (43, [some (.ref 134), some (.int a1), some (.int a2), some (.int a3), some (.int a4), none], [], Wm pre post I A)) rfl ?_
    refine go_run 2 (F' := (46, [some (.ref 134), some (.int a1), some (.int a2), some (.int a3), some (.int a4), none], [.int a2, .int a4], Wm pre post I A)) rfl ?_
    refine go_step rfl rfl ?_
    by_cases q2 : a4 = a2
    · rw [if_pos q2] at hm ⊢
      refine go_run 0 (F' := (49, [some (.ref 134), some (.int a1), some (.int a2), some (.int a3), some (.int a4), none], [], Wm pre post I A)) rfl ?_
      refine go_run 1 (F' := (50, [some (.ref 134), some (.int a1), some (.int a2), some (.int a3), some (.int a4), none], [.ref 134], Wm pre post I A)) rfl ?_
      refine go_gf rfl (w_0 hp) rfl ?_
      refine go_run 1 (F' := (55, [some (.ref 134), some (.int a1), some (.int a2), some (.int a3), some (.int a4), some (.int (I 12))], [], Wm pre post I A)) rfl ?_
      exact g_addTold_55 hp  n hm
    · rw [if_neg q2] at hm ⊢
      refine go_run 0 (F' := (139, [some (.ref 134), some (.int a1), some (.int a2), some (.int a3), some (.int a4), none], [], Wm pre post I A)) rfl ?_
      refine go_run 0 (F' := (139, [some (.ref 134), some (.int a1), some (.int a2), some (.int a3), some (.int a4), none], [], Wm pre post I A)) rfl ?_
      cases hm
      exact go_end rfl rfl
def x_takeA_20 : Nat → (Nat → Int32) → (Nat → Nat → Int32) → Int32 → Option xR
  | 0, _, _, _ => none
  | n + 1, I, A, l1 => (if I 14 ≤ l1 then (if ib (I 13) 20 then (some (upd (upd I 12 ((A 29) (Int32.toNatClampNeg (I 13)))) 13 ((I 13) - 1), A, 0)) else none) else (if ib (((I 12) - 1) - l1) 1100 then (if ib l1 1000 then (x_takeA_20 n I (upA A 30 (upd (A 30) (Int32.toNatClampNeg l1) ((A 28) (Int32.toNatClampNeg (((I 12) - 1) - l1))))) (l1 + 1)) else none) else none))
theorem g_takeA_20 {X : ie_X} {d : Nat} {pre post : ie_H} (hp : pre.length = 134) : ∀ (n : Nat) {I : Nat → Int32} {A : Nat → Nat → Int32} {l1 : Int32} {I' : Nat → Int32} {A' : Nat → Nat → Int32} {r : Int32}, x_takeA_20 n I A l1 = some (I', A', r) → Go X (d + 0) 159 (20, [some (.ref 134), some (.int l1)], [], Wm pre post I A) (.inl none) (Wm pre post I' A') := by
  intro n
  induction n with
  | zero => intro I A l1 I' A' r hm; cases hm
  | succ n ih =>
    intro I A l1 I' A' r hm
    unfold x_takeA_20 at hm
    refine go_run 0 (F' := (20, [some (.ref 134), some (.int l1)], [], Wm pre post I A)) rfl ?_
    refine go_run 2 (F' := (22, [some (.ref 134), some (.int l1)], [.ref 134, .int l1], Wm pre post I A)) rfl ?_
    refine go_gf rfl (w_0 hp) rfl ?_
    refine go_run 0 (F' := (25, [some (.ref 134), some (.int l1)], [.int (I 14), .int l1], Wm pre post I A)) rfl ?_
    refine go_step rfl rfl ?_
    by_cases q1 : I 14 ≤ l1
    · rw [if_pos q1] at hm ⊢
      refine go_run 0 (F' := (53, [some (.ref 134), some (.int l1)], [], Wm pre post I A)) rfl ?_
      refine go_run 2 (F' := (55, [some (.ref 134), some (.int l1)], [.ref 134, .ref 134], Wm pre post I A)) rfl ?_
      refine go_gf rfl (w_0 hp) rfl ?_
      refine go_run 1 (F' := (59, [some (.ref 134), some (.int l1)], [.ref 134, .ref 163, .ref 134], Wm pre post I A)) rfl ?_
      refine go_gf rfl (w_0 hp) rfl ?_
      refine go_run 0 (F' := (62, [some (.ref 134), some (.int l1)], [.int (I 13), .ref 163, .ref 134], Wm pre post I A)) rfl ?_
      obtain ⟨b2, hm⟩ := gd hm
      refine go_iald rfl (by decide) (w_29 hp) b2 rfl ?_
      refine go_run 0 (F' := (63, [some (.ref 134), some (.int l1)], [.int ((A 29) (Int32.toNatClampNeg (I 13))), .ref 134], Wm pre post I A)) rfl ?_
      refine go_pf rfl (w_0 hp) (Nat.le_of_ble_eq_true rfl) rfl (wo_12 hp) ?_
      refine go_run 2 (F' := (68, [some (.ref 134), some (.int l1)], [.ref 134, .ref 134], Wm pre post (upd I 12 ((A 29) (Int32.toNatClampNeg (I 13)))) A)) rfl ?_
      refine go_gf rfl (w_0 hp) rfl ?_
      refine go_run 2 (F' := (73, [some (.ref 134), some (.int l1)], [.int ((I 13) - 1), .ref 134], Wm pre post (upd I 12 ((A 29) (Int32.toNatClampNeg (I 13)))) A)) rfl ?_
      refine go_pf rfl (w_0 hp) (Nat.le_of_ble_eq_true rfl) rfl (wo_13 hp) ?_
      refine go_run 0 (F' := (76, [some (.ref 134), some (.int l1)], [], Wm pre post (upd (upd I 12 ((A 29) (Int32.toNatClampNeg (I 13)))) 13 ((I 13) - 1)) A)) rfl ?_
      cases hm
      exact go_end rfl rfl
    · rw [if_neg q1] at hm ⊢
      refine go_run 0 (F' := (28, [some (.ref 134), some (.int l1)], [], Wm pre post I A)) rfl ?_
      refine go_run 1 (F' := (29, [some (.ref 134), some (.int l1)], [.ref 134], Wm pre post I A)) rfl ?_
      refine go_gf rfl (w_0 hp) rfl ?_
      refine go_run 2 (F' := (34, [some (.ref 134), some (.int l1)], [.ref 134, .int l1, .ref 164], Wm pre post I A)) rfl ?_
      refine go_gf rfl (w_0 hp) rfl ?_
      refine go_run 1 (F' := (38, [some (.ref 134), some (.int l1)], [.ref 134, .ref 162, .int l1, .ref 164], Wm pre post I A)) rfl ?_
      refine go_gf rfl (w_0 hp) rfl ?_
      refine go_run 4 (F' := (45, [some (.ref 134), some (.int l1)], [.int (((I 12) - 1) - l1), .ref 162, .int l1, .ref 164], Wm pre post I A)) rfl ?_
      obtain ⟨b3, hm⟩ := gd hm
      refine go_iald rfl (by decide) (w_28 hp) b3 rfl ?_
      refine go_run 0 (F' := (46, [some (.ref 134), some (.int l1)], [.int ((A 28) (Int32.toNatClampNeg (((I 12) - 1) - l1))), .int l1, .ref 164], Wm pre post I A)) rfl ?_
      obtain ⟨b4, hm⟩ := gd hm
      refine go_iast rfl (w_30 hp) b4 (ws_30 hp) ?_
      refine go_run 2 (F' := (20, [some (.ref 134), some (.int (l1 + 1))], [], Wm pre post I (upA A 30 (upd (A 30) (Int32.toNatClampNeg l1) ((A 28) (Int32.toNatClampNeg (((I 12) - 1) - l1))))))) rfl ?_
      exact ih hm
def x_takeA (n : Nat) (I : Nat → Int32) (A : Nat → Nat → Int32) : Option xR := (if ib (I 13) 20 then (x_takeA_20  n (upd I 14 ((I 12) - ((A 29) (Int32.toNatClampNeg (I 13))))) A 0) else none)
theorem g_takeA {X : ie_X} {d : Nat} {pre post : ie_H} (hp : pre.length = 134) {n : Nat} {I : Nat → Int32} {A : Nat → Nat → Int32} {I' : Nat → Int32} {A' : Nat → Nat → Int32} {r : Int32} (hm : x_takeA n I A = some (I', A', r)) : Go X (d + 0) 159 (0, ie_en 159 [.ref 134], [], Wm pre post I A) (.inl none) (Wm pre post I' A') := by
  unfold x_takeA at hm
  refine go_run 0 (F' := (0, [some (.ref 134), none], [], Wm pre post I A)) rfl ?_
  refine go_run 2 (F' := (2, [some (.ref 134), none], [.ref 134, .ref 134], Wm pre post I A)) rfl ?_
  refine go_gf rfl (w_0 hp) rfl ?_
  refine go_run 1 (F' := (6, [some (.ref 134), none], [.ref 134, .int (I 12), .ref 134], Wm pre post I A)) rfl ?_
  refine go_gf rfl (w_0 hp) rfl ?_
  refine go_run 1 (F' := (10, [some (.ref 134), none], [.ref 134, .ref 163, .int (I 12), .ref 134], Wm pre post I A)) rfl ?_
  refine go_gf rfl (w_0 hp) rfl ?_
  refine go_run 0 (F' := (13, [some (.ref 134), none], [.int (I 13), .ref 163, .int (I 12), .ref 134], Wm pre post I A)) rfl ?_
  obtain ⟨b1, hm⟩ := gd hm
  refine go_iald rfl (by decide) (w_29 hp) b1 rfl ?_
  refine go_run 1 (F' := (15, [some (.ref 134), none], [.int ((I 12) - ((A 29) (Int32.toNatClampNeg (I 13)))), .ref 134], Wm pre post I A)) rfl ?_
  refine go_pf rfl (w_0 hp) (Nat.le_of_ble_eq_true rfl) rfl (wo_14 hp) ?_
  refine go_run 2 (F' := (20, [some (.ref 134), some (.int 0)], [], Wm pre post (upd I 14 ((I 12) - ((A 29) (Int32.toNatClampNeg (I 13))))) A)) rfl ?_
  exact g_takeA_20 hp  n hm
def x_takeB_20 : Nat → (Nat → Int32) → (Nat → Nat → Int32) → Int32 → Option xR
  | 0, _, _, _ => none
  | n + 1, I, A, l1 => (if I 15 ≤ l1 then (if ib (I 13) 20 then (some (upd (upd I 12 ((A 29) (Int32.toNatClampNeg (I 13)))) 13 ((I 13) - 1), A, 0)) else none) else (if ib (((I 12) - 1) - l1) 1100 then (if ib l1 1000 then (x_takeB_20 n I (upA A 31 (upd (A 31) (Int32.toNatClampNeg l1) ((A 28) (Int32.toNatClampNeg (((I 12) - 1) - l1))))) (l1 + 1)) else none) else none))
theorem g_takeB_20 {X : ie_X} {d : Nat} {pre post : ie_H} (hp : pre.length = 134) : ∀ (n : Nat) {I : Nat → Int32} {A : Nat → Nat → Int32} {l1 : Int32} {I' : Nat → Int32} {A' : Nat → Nat → Int32} {r : Int32}, x_takeB_20 n I A l1 = some (I', A', r) → Go X (d + 0) 160 (20, [some (.ref 134), some (.int l1)], [], Wm pre post I A) (.inl none) (Wm pre post I' A') := by
  intro n
  induction n with
  | zero => intro I A l1 I' A' r hm; cases hm
  | succ n ih =>
    intro I A l1 I' A' r hm
    unfold x_takeB_20 at hm
    refine go_run 0 (F' := (20, [some (.ref 134), some (.int l1)], [], Wm pre post I A)) rfl ?_
    refine go_run 2 (F' := (22, [some (.ref 134), some (.int l1)], [.ref 134, .int l1], Wm pre post I A)) rfl ?_
    refine go_gf rfl (w_0 hp) rfl ?_
    refine go_run 0 (F' := (25, [some (.ref 134), some (.int l1)], [.int (I 15), .int l1], Wm pre post I A)) rfl ?_
    refine go_step rfl rfl ?_
    by_cases q1 : I 15 ≤ l1
    · rw [if_pos q1] at hm ⊢
      refine go_run 0 (F' := (53, [some (.ref 134), some (.int l1)], [], Wm pre post I A)) rfl ?_
      refine go_run 2 (F' := (55, [some (.ref 134), some (.int l1)], [.ref 134, .ref 134], Wm pre post I A)) rfl ?_
      refine go_gf rfl (w_0 hp) rfl ?_
      refine go_run 1 (F' := (59, [some (.ref 134), some (.int l1)], [.ref 134, .ref 163, .ref 134], Wm pre post I A)) rfl ?_
      refine go_gf rfl (w_0 hp) rfl ?_
      refine go_run 0 (F' := (62, [some (.ref 134), some (.int l1)], [.int (I 13), .ref 163, .ref 134], Wm pre post I A)) rfl ?_
      obtain ⟨b2, hm⟩ := gd hm
      refine go_iald rfl (by decide) (w_29 hp) b2 rfl ?_
      refine go_run 0 (F' := (63, [some (.ref 134), some (.int l1)], [.int ((A 29) (Int32.toNatClampNeg (I 13))), .ref 134], Wm pre post I A)) rfl ?_
      refine go_pf rfl (w_0 hp) (Nat.le_of_ble_eq_true rfl) rfl (wo_12 hp) ?_
      refine go_run 2 (F' := (68, [some (.ref 134), some (.int l1)], [.ref 134, .ref 134], Wm pre post (upd I 12 ((A 29) (Int32.toNatClampNeg (I 13)))) A)) rfl ?_
      refine go_gf rfl (w_0 hp) rfl ?_
      refine go_run 2 (F' := (73, [some (.ref 134), some (.int l1)], [.int ((I 13) - 1), .ref 134], Wm pre post (upd I 12 ((A 29) (Int32.toNatClampNeg (I 13)))) A)) rfl ?_
      refine go_pf rfl (w_0 hp) (Nat.le_of_ble_eq_true rfl) rfl (wo_13 hp) ?_
      refine go_run 0 (F' := (76, [some (.ref 134), some (.int l1)], [], Wm pre post (upd (upd I 12 ((A 29) (Int32.toNatClampNeg (I 13)))) 13 ((I 13) - 1)) A)) rfl ?_
      cases hm
      exact go_end rfl rfl
    · rw [if_neg q1] at hm ⊢
      refine go_run 0 (F' := (28, [some (.ref 134), some (.int l1)], [], Wm pre post I A)) rfl ?_
      refine go_run 1 (F' := (29, [some (.ref 134), some (.int l1)], [.ref 134], Wm pre post I A)) rfl ?_
      refine go_gf rfl (w_0 hp) rfl ?_
      refine go_run 2 (F' := (34, [some (.ref 134), some (.int l1)], [.ref 134, .int l1, .ref 165], Wm pre post I A)) rfl ?_
      refine go_gf rfl (w_0 hp) rfl ?_
      refine go_run 1 (F' := (38, [some (.ref 134), some (.int l1)], [.ref 134, .ref 162, .int l1, .ref 165], Wm pre post I A)) rfl ?_
      refine go_gf rfl (w_0 hp) rfl ?_
      refine go_run 4 (F' := (45, [some (.ref 134), some (.int l1)], [.int (((I 12) - 1) - l1), .ref 162, .int l1, .ref 165], Wm pre post I A)) rfl ?_
      obtain ⟨b3, hm⟩ := gd hm
      refine go_iald rfl (by decide) (w_28 hp) b3 rfl ?_
      refine go_run 0 (F' := (46, [some (.ref 134), some (.int l1)], [.int ((A 28) (Int32.toNatClampNeg (((I 12) - 1) - l1))), .int l1, .ref 165], Wm pre post I A)) rfl ?_
      obtain ⟨b4, hm⟩ := gd hm
      refine go_iast rfl (w_31 hp) b4 (ws_31 hp) ?_
      refine go_run 2 (F' := (20, [some (.ref 134), some (.int (l1 + 1))], [], Wm pre post I (upA A 31 (upd (A 31) (Int32.toNatClampNeg l1) ((A 28) (Int32.toNatClampNeg (((I 12) - 1) - l1))))))) rfl ?_
      exact ih hm
def x_takeB (n : Nat) (I : Nat → Int32) (A : Nat → Nat → Int32) : Option xR := (if ib (I 13) 20 then (x_takeB_20  n (upd I 15 ((I 12) - ((A 29) (Int32.toNatClampNeg (I 13))))) A 0) else none)
theorem g_takeB {X : ie_X} {d : Nat} {pre post : ie_H} (hp : pre.length = 134) {n : Nat} {I : Nat → Int32} {A : Nat → Nat → Int32} {I' : Nat → Int32} {A' : Nat → Nat → Int32} {r : Int32} (hm : x_takeB n I A = some (I', A', r)) : Go X (d + 0) 160 (0, ie_en 160 [.ref 134], [], Wm pre post I A) (.inl none) (Wm pre post I' A') := by
  unfold x_takeB at hm
  refine go_run 0 (F' := (0, [some (.ref 134), none], [], Wm pre post I A)) rfl ?_
  refine go_run 2 (F' := (2, [some (.ref 134), none], [.ref 134, .ref 134], Wm pre post I A)) rfl ?_
  refine go_gf rfl (w_0 hp) rfl ?_
  refine go_run 1 (F' := (6, [some (.ref 134), none], [.ref 134, .int (I 12), .ref 134], Wm pre post I A)) rfl ?_
  refine go_gf rfl (w_0 hp) rfl ?_
  refine go_run 1 (F' := (10, [some (.ref 134), none], [.ref 134, .ref 163, .int (I 12), .ref 134], Wm pre post I A)) rfl ?_
  refine go_gf rfl (w_0 hp) rfl ?_
  refine go_run 0 (F' := (13, [some (.ref 134), none], [.int (I 13), .ref 163, .int (I 12), .ref 134], Wm pre post I A)) rfl ?_
  obtain ⟨b1, hm⟩ := gd hm
  refine go_iald rfl (by decide) (w_29 hp) b1 rfl ?_
  refine go_run 1 (F' := (15, [some (.ref 134), none], [.int ((I 12) - ((A 29) (Int32.toNatClampNeg (I 13)))), .ref 134], Wm pre post I A)) rfl ?_
  refine go_pf rfl (w_0 hp) (Nat.le_of_ble_eq_true rfl) rfl (wo_15 hp) ?_
  refine go_run 2 (F' := (20, [some (.ref 134), some (.int 0)], [], Wm pre post (upd I 15 ((I 12) - ((A 29) (Int32.toNatClampNeg (I 13))))) A)) rfl ?_
  exact g_takeB_20 hp  n hm
def x_aAt (I : Nat → Int32) (A : Nat → Nat → Int32) (a1 : Int32) : Option xR := (if I 14 ≤ a1 then (some (I, A, 0)) else (if ib a1 1000 then (some (I, A, (A 30) (Int32.toNatClampNeg a1))) else none))
theorem g_aAt {X : ie_X} {d : Nat} {pre post : ie_H} (hp : pre.length = 134) {I : Nat → Int32} {A : Nat → Nat → Int32} {a1 : Int32} {I' : Nat → Int32} {A' : Nat → Nat → Int32} {r : Int32} (hm : x_aAt I A a1 = some (I', A', r)) : Go X (d + 0) 163 (0, ie_en 163 [.ref 134, .int a1], [], Wm pre post I A) (.inl (some (.int r))) (Wm pre post I' A') := by
  unfold x_aAt at hm
  refine go_run 0 (F' := (0, [some (.ref 134), some (.int a1)], [], Wm pre post I A)) rfl ?_
  refine go_run 2 (F' := (2, [some (.ref 134), some (.int a1)], [.ref 134, .int a1], Wm pre post I A)) rfl ?_
  refine go_gf rfl (w_0 hp) rfl ?_
  refine go_run 0 (F' := (5, [some (.ref 134), some (.int a1)], [.int (I 14), .int a1], Wm pre post I A)) rfl ?_
  refine go_step rfl rfl ?_
  by_cases q1 : I 14 ≤ a1
  · rw [if_pos q1] at hm ⊢
    refine go_run 0 (F' := (17, [some (.ref 134), some (.int a1)], [], Wm pre post I A)) rfl ?_
    refine go_run 1 (F' := (18, [some (.ref 134), some (.int a1)], [.int 0], Wm pre post I A)) rfl ?_
    cases hm
    exact go_end rfl rfl
  · rw [if_neg q1] at hm ⊢
    refine go_run 0 (F' := (8, [some (.ref 134), some (.int a1)], [], Wm pre post I A)) rfl ?_
    refine go_run 1 (F' := (9, [some (.ref 134), some (.int a1)], [.ref 134], Wm pre post I A)) rfl ?_
    refine go_gf rfl (w_0 hp) rfl ?_
    refine go_run 1 (F' := (13, [some (.ref 134), some (.int a1)], [.int a1, .ref 164], Wm pre post I A)) rfl ?_
    obtain ⟨b2, hm⟩ := gd hm
    refine go_iald rfl (by decide) (w_30 hp) b2 rfl ?_
    refine go_run 1 (F' := (18, [some (.ref 134), some (.int a1)], [.int ((A 30) (Int32.toNatClampNeg a1))], Wm pre post I A)) rfl ?_
    cases hm
    exact go_end rfl rfl
def x_isCaseA_31 (I : Nat → Int32) (A : Nat → Nat → Int32) (l1 : Int32) : Option xR := (xb (x_aAt I A l1) fun I1 A1 v1 => (if ty_b (rd_fig v1) = 0 then (some (I1, A1, 0)) else (xb (x_aAt I1 A1 (l1 + 1)) fun I2 A2 v2 => (if v2 = 123 then (some (I2, A2, 1)) else (some (I2, A2, 0))))))
theorem g_isCaseA_31 {X : ie_X} {d : Nat} {pre post : ie_H} (hp : pre.length = 134) {I : Nat → Int32} {A : Nat → Nat → Int32} {l1 : Int32} {I' : Nat → Int32} {A' : Nat → Nat → Int32} {r : Int32} (hm : x_isCaseA_31 I A l1 = some (I', A', r)) : Go X (d + 1) 162 (31, [some (.ref 134), some (.int l1)], [], Wm pre post I A) (.inl (some (.int r))) (Wm pre post I' A') := by
  unfold x_isCaseA_31 at hm
  refine go_run 0 (F' := (31, [some (.ref 134), some (.int l1)], [], Wm pre post I A)) rfl ?_
  refine go_run 2 (F' := (33, [some (.ref 134), some (.int l1)], [.int l1, .ref 134], Wm pre post I A)) rfl ?_
  obtain ⟨I1, A1, v1, e1, hm⟩ := xb_inv hm
  refine go_call (m' := 163) (v := some (.int v1)) (h1 := Wm pre post I1 A1) rfl (by simp only [ie_step, ie_iv, List.drop, w_0 hp]; rfl) ⟨rfl, Nat.le_of_ble_eq_true rfl⟩ (g_aAt (d := d) hp e1) ?_
  refine go_run 0 (F' := (36, [some (.ref 134), some (.int l1)], [.int v1], Wm pre post I1 A1)) rfl ?_
  refine go_run 0 (F' := (36, [some (.ref 134), some (.int l1)], [.int v1], Wm pre post I1 A1)) rfl ?_
  refine go_call (m' := 146) (v := some (.int (ty_b (rd_fig v1)))) (h1 := Wm pre post I1 A1) rfl rfl ⟨rfl, Nat.le_of_ble_eq_true rfl⟩ (rm_isFig _) ?_
  refine go_run 0 (F' := (39, [some (.ref 134), some (.int l1)], [.int (ty_b (rd_fig v1))], Wm pre post I1 A1)) rfl ?_
  refine go_run 0 (F' := (39, [some (.ref 134), some (.int l1)], [.int (ty_b (rd_fig v1))], Wm pre post I1 A1)) rfl ?_
  refine go_step rfl rfl ?_
  by_cases q1 : ty_b (rd_fig v1) = 0
  · rw [if_pos q1] at hm ⊢
    refine go_run 0 (F' := (58, [some (.ref 134), some (.int l1)], [], Wm pre post I1 A1)) rfl ?_
    refine go_run 1 (F' := (59, [some (.ref 134), some (.int l1)], [.int 0], Wm pre post I1 A1)) rfl ?_
    cases hm
    exact go_end rfl rfl
  · rw [if_neg q1] at hm ⊢
    refine go_run 0 (F' := (42, [some (.ref 134), some (.int l1)], [], Wm pre post I1 A1)) rfl ?_
    refine go_run 4 (F' := (46, [some (.ref 134), some (.int l1)], [.int (l1 + 1), .ref 134], Wm pre post I1 A1)) rfl ?_
    obtain ⟨I2, A2, v2, e2, hm⟩ := xb_inv hm
    refine go_call (m' := 163) (v := some (.int v2)) (h1 := Wm pre post I2 A2) rfl (by simp only [ie_step, ie_iv, List.drop, w_0 hp]; rfl) ⟨rfl, Nat.le_of_ble_eq_true rfl⟩ (g_aAt (d := d) hp e2) ?_
    refine go_run 0 (F' := (49, [some (.ref 134), some (.int l1)], [.int v2], Wm pre post I2 A2)) rfl ?_
    refine go_run 1 (F' := (51, [some (.ref 134), some (.int l1)], [.int 123, .int v2], Wm pre post I2 A2)) rfl ?_
    refine go_step rfl rfl ?_
    by_cases q2 : v2 = 123
    · rw [if_pos q2] at hm ⊢
      refine go_run 0 (F' := (54, [some (.ref 134), some (.int l1)], [], Wm pre post I2 A2)) rfl ?_
      refine go_run 2 (F' := (59, [some (.ref 134), some (.int l1)], [.int 1], Wm pre post I2 A2)) rfl ?_
      cases hm
      exact go_end rfl rfl
    · rw [if_neg q2] at hm ⊢
      refine go_run 0 (F' := (58, [some (.ref 134), some (.int l1)], [], Wm pre post I2 A2)) rfl ?_
      refine go_run 1 (F' := (59, [some (.ref 134), some (.int l1)], [.int 0], Wm pre post I2 A2)) rfl ?_
      cases hm
      exact go_end rfl rfl
def x_isCaseA (I : Nat → Int32) (A : Nat → Nat → Int32) (a1 : Int32) : Option xR := (if a1 ≤ 0 then (some (I, A, 0)) else (if ib (a1 - 1) 1000 then (if ty_b (rd_pty ((A 30) (Int32.toNatClampNeg (a1 - 1)))) = 0 then (if (A 30) (Int32.toNatClampNeg (a1 - 1)) = 125 then (x_isCaseA_31  I A a1) else (some (I, A, 0))) else (x_isCaseA_31  I A a1)) else none))
theorem g_isCaseA {X : ie_X} {d : Nat} {pre post : ie_H} (hp : pre.length = 134) {I : Nat → Int32} {A : Nat → Nat → Int32} {a1 : Int32} {I' : Nat → Int32} {A' : Nat → Nat → Int32} {r : Int32} (hm : x_isCaseA I A a1 = some (I', A', r)) : Go X (d + 1) 162 (0, ie_en 162 [.ref 134, .int a1], [], Wm pre post I A) (.inl (some (.int r))) (Wm pre post I' A') := by
  unfold x_isCaseA at hm
  refine go_run 0 (F' := (0, [some (.ref 134), some (.int a1)], [], Wm pre post I A)) rfl ?_
  refine go_run 1 (F' := (1, [some (.ref 134), some (.int a1)], [.int a1], Wm pre post I A)) rfl ?_
  refine go_step rfl rfl ?_
  by_cases q1 : a1 ≤ 0
  · rw [if_pos q1] at hm ⊢
    refine go_run 0 (F' := (58, [some (.ref 134), some (.int a1)], [], Wm pre post I A)) rfl ?_
    refine go_run 1 (F' := (59, [some (.ref 134), some (.int a1)], [.int 0], Wm pre post I A)) rfl ?_
    cases hm
    exact go_end rfl rfl
  · rw [if_neg q1] at hm ⊢
    refine go_run 0 (F' := (4, [some (.ref 134), some (.int a1)], [], Wm pre post I A)) rfl ?_
    refine go_run 1 (F' := (5, [some (.ref 134), some (.int a1)], [.ref 134], Wm pre post I A)) rfl ?_
    refine go_gf rfl (w_0 hp) rfl ?_
    refine go_run 3 (F' := (11, [some (.ref 134), some (.int a1)], [.int (a1 - 1), .ref 164], Wm pre post I A)) rfl ?_
    obtain ⟨b2, hm⟩ := gd hm
    refine go_iald rfl (by decide) (w_30 hp) b2 rfl ?_
    refine go_run 0 (F' := (12, [some (.ref 134), some (.int a1)], [.int ((A 30) (Int32.toNatClampNeg (a1 - 1)))], Wm pre post I A)) rfl ?_
    refine go_call (m' := 144) (v := some (.int (ty_b (rd_pty ((A 30) (Int32.toNatClampNeg (a1 - 1))))))) (h1 := Wm pre post I A) rfl rfl ⟨rfl, Nat.le_of_ble_eq_true rfl⟩ (rm_isPty _) ?_
    refine go_run 0 (F' := (15, [some (.ref 134), some (.int a1)], [.int (ty_b (rd_pty ((A 30) (Int32.toNatClampNeg (a1 - 1)))))], Wm pre post I A)) rfl ?_
    refine go_run 0 (F' := (15, [some (.ref 134), some (.int a1)], [.int (ty_b (rd_pty ((A 30) (Int32.toNatClampNeg (a1 - 1)))))], Wm pre post I A)) rfl ?_
    refine go_step rfl rfl ?_
    by_cases q3 : ty_b (rd_pty ((A 30) (Int32.toNatClampNeg (a1 - 1)))) = 0
    · rw [if_pos q3] at hm ⊢
      refine go_run 0 (F' := (18, [some (.ref 134), some (.int a1)], [], Wm pre post I A)) rfl ?_
      refine go_run 1 (F' := (19, [some (.ref 134), some (.int a1)], [.ref 134], Wm pre post I A)) rfl ?_
      refine go_gf rfl (w_0 hp) rfl ?_
      refine go_run 3 (F' := (25, [some (.ref 134), some (.int a1)], [.int (a1 - 1), .ref 164], Wm pre post I A)) rfl ?_
      refine go_iald rfl (by decide) (w_30 hp) b2 rfl ?_
      refine go_run 1 (F' := (28, [some (.ref 134), some (.int a1)], [.int 125, .int ((A 30) (Int32.toNatClampNeg (a1 - 1)))], Wm pre post I A)) rfl ?_
      refine go_step rfl rfl ?_
      by_cases q4 : (A 30) (Int32.toNatClampNeg (a1 - 1)) = 125
      · rw [if_pos q4] at hm ⊢
        refine go_run 0 (F' := (31, [some (.ref 134), some (.int a1)], [], Wm pre post I A)) rfl ?_
        refine go_run 0 (F' := (31, [some (.ref 134), some (.int a1)], [], Wm pre post I A)) rfl ?_
        exact g_isCaseA_31 hp  hm
      · rw [if_neg q4] at hm ⊢
        refine go_run 0 (F' := (58, [some (.ref 134), some (.int a1)], [], Wm pre post I A)) rfl ?_
        refine go_run 1 (F' := (59, [some (.ref 134), some (.int a1)], [.int 0], Wm pre post I A)) rfl ?_
        cases hm
        exact go_end rfl rfl
    · rw [if_neg q3] at hm ⊢
      refine go_run 0 (F' := (31, [some (.ref 134), some (.int a1)], [], Wm pre post I A)) rfl ?_
      refine go_run 0 (F' := (31, [some (.ref 134), some (.int a1)], [], Wm pre post I A)) rfl ?_
      exact g_isCaseA_31 hp  hm
def x_bAt (I : Nat → Int32) (A : Nat → Nat → Int32) (a1 : Int32) : Option xR := (if I 15 ≤ a1 then (some (I, A, 0)) else (if ib a1 1000 then (some (I, A, (A 31) (Int32.toNatClampNeg a1))) else none))
theorem g_bAt {X : ie_X} {d : Nat} {pre post : ie_H} (hp : pre.length = 134) {I : Nat → Int32} {A : Nat → Nat → Int32} {a1 : Int32} {I' : Nat → Int32} {A' : Nat → Nat → Int32} {r : Int32} (hm : x_bAt I A a1 = some (I', A', r)) : Go X (d + 0) 165 (0, ie_en 165 [.ref 134, .int a1], [], Wm pre post I A) (.inl (some (.int r))) (Wm pre post I' A') := by
  unfold x_bAt at hm
  refine go_run 0 (F' := (0, [some (.ref 134), some (.int a1)], [], Wm pre post I A)) rfl ?_
  refine go_run 2 (F' := (2, [some (.ref 134), some (.int a1)], [.ref 134, .int a1], Wm pre post I A)) rfl ?_
  refine go_gf rfl (w_0 hp) rfl ?_
  refine go_run 0 (F' := (5, [some (.ref 134), some (.int a1)], [.int (I 15), .int a1], Wm pre post I A)) rfl ?_
  refine go_step rfl rfl ?_
  by_cases q1 : I 15 ≤ a1
  · rw [if_pos q1] at hm ⊢
    refine go_run 0 (F' := (17, [some (.ref 134), some (.int a1)], [], Wm pre post I A)) rfl ?_
    refine go_run 1 (F' := (18, [some (.ref 134), some (.int a1)], [.int 0], Wm pre post I A)) rfl ?_
    cases hm
    exact go_end rfl rfl
  · rw [if_neg q1] at hm ⊢
    refine go_run 0 (F' := (8, [some (.ref 134), some (.int a1)], [], Wm pre post I A)) rfl ?_
    refine go_run 1 (F' := (9, [some (.ref 134), some (.int a1)], [.ref 134], Wm pre post I A)) rfl ?_
    refine go_gf rfl (w_0 hp) rfl ?_
    refine go_run 1 (F' := (13, [some (.ref 134), some (.int a1)], [.int a1, .ref 165], Wm pre post I A)) rfl ?_
    obtain ⟨b2, hm⟩ := gd hm
    refine go_iald rfl (by decide) (w_31 hp) b2 rfl ?_
    refine go_run 1 (F' := (18, [some (.ref 134), some (.int a1)], [.int ((A 31) (Int32.toNatClampNeg a1))], Wm pre post I A)) rfl ?_
    cases hm
    exact go_end rfl rfl
def x_isCaseB_31 (I : Nat → Int32) (A : Nat → Nat → Int32) (l1 : Int32) : Option xR := (xb (x_bAt I A l1) fun I1 A1 v1 => (if ty_b (rd_fig v1) = 0 then (some (I1, A1, 0)) else (xb (x_bAt I1 A1 (l1 + 1)) fun I2 A2 v2 => (if v2 = 123 then (some (I2, A2, 1)) else (some (I2, A2, 0))))))
theorem g_isCaseB_31 {X : ie_X} {d : Nat} {pre post : ie_H} (hp : pre.length = 134) {I : Nat → Int32} {A : Nat → Nat → Int32} {l1 : Int32} {I' : Nat → Int32} {A' : Nat → Nat → Int32} {r : Int32} (hm : x_isCaseB_31 I A l1 = some (I', A', r)) : Go X (d + 1) 164 (31, [some (.ref 134), some (.int l1)], [], Wm pre post I A) (.inl (some (.int r))) (Wm pre post I' A') := by
  unfold x_isCaseB_31 at hm
  refine go_run 0 (F' := (31, [some (.ref 134), some (.int l1)], [], Wm pre post I A)) rfl ?_
  refine go_run 2 (F' := (33, [some (.ref 134), some (.int l1)], [.int l1, .ref 134], Wm pre post I A)) rfl ?_
  obtain ⟨I1, A1, v1, e1, hm⟩ := xb_inv hm
  refine go_call (m' := 165) (v := some (.int v1)) (h1 := Wm pre post I1 A1) rfl (by simp only [ie_step, ie_iv, List.drop, w_0 hp]; rfl) ⟨rfl, Nat.le_of_ble_eq_true rfl⟩ (g_bAt (d := d) hp e1) ?_
  refine go_run 0 (F' := (36, [some (.ref 134), some (.int l1)], [.int v1], Wm pre post I1 A1)) rfl ?_
  refine go_run 0 (F' := (36, [some (.ref 134), some (.int l1)], [.int v1], Wm pre post I1 A1)) rfl ?_
  refine go_call (m' := 146) (v := some (.int (ty_b (rd_fig v1)))) (h1 := Wm pre post I1 A1) rfl rfl ⟨rfl, Nat.le_of_ble_eq_true rfl⟩ (rm_isFig _) ?_
  refine go_run 0 (F' := (39, [some (.ref 134), some (.int l1)], [.int (ty_b (rd_fig v1))], Wm pre post I1 A1)) rfl ?_
  refine go_run 0 (F' := (39, [some (.ref 134), some (.int l1)], [.int (ty_b (rd_fig v1))], Wm pre post I1 A1)) rfl ?_
  refine go_step rfl rfl ?_
  by_cases q1 : ty_b (rd_fig v1) = 0
  · rw [if_pos q1] at hm ⊢
    refine go_run 0 (F' := (58, [some (.ref 134), some (.int l1)], [], Wm pre post I1 A1)) rfl ?_
    refine go_run 1 (F' := (59, [some (.ref 134), some (.int l1)], [.int 0], Wm pre post I1 A1)) rfl ?_
    cases hm
    exact go_end rfl rfl
  · rw [if_neg q1] at hm ⊢
    refine go_run 0 (F' := (42, [some (.ref 134), some (.int l1)], [], Wm pre post I1 A1)) rfl ?_
    refine go_run 4 (F' := (46, [some (.ref 134), some (.int l1)], [.int (l1 + 1), .ref 134], Wm pre post I1 A1)) rfl ?_
    obtain ⟨I2, A2, v2, e2, hm⟩ := xb_inv hm
    refine go_call (m' := 165) (v := some (.int v2)) (h1 := Wm pre post I2 A2) rfl (by simp only [ie_step, ie_iv, List.drop, w_0 hp]; rfl) ⟨rfl, Nat.le_of_ble_eq_true rfl⟩ (g_bAt (d := d) hp e2) ?_
    refine go_run 0 (F' := (49, [some (.ref 134), some (.int l1)], [.int v2], Wm pre post I2 A2)) rfl ?_
    refine go_run 1 (F' := (51, [some (.ref 134), some (.int l1)], [.int 123, .int v2], Wm pre post I2 A2)) rfl ?_
    refine go_step rfl rfl ?_
    by_cases q2 : v2 = 123
    · rw [if_pos q2] at hm ⊢
      refine go_run 0 (F' := (54, [some (.ref 134), some (.int l1)], [], Wm pre post I2 A2)) rfl ?_
      refine go_run 2 (F' := (59, [some (.ref 134), some (.int l1)], [.int 1], Wm pre post I2 A2)) rfl ?_
      cases hm
      exact go_end rfl rfl
    · rw [if_neg q2] at hm ⊢
      refine go_run 0 (F' := (58, [some (.ref 134), some (.int l1)], [], Wm pre post I2 A2)) rfl ?_
      refine go_run 1 (F' := (59, [some (.ref 134), some (.int l1)], [.int 0], Wm pre post I2 A2)) rfl ?_
      cases hm
      exact go_end rfl rfl
def x_isCaseB (I : Nat → Int32) (A : Nat → Nat → Int32) (a1 : Int32) : Option xR := (if a1 ≤ 0 then (some (I, A, 0)) else (if ib (a1 - 1) 1000 then (if ty_b (rd_pty ((A 31) (Int32.toNatClampNeg (a1 - 1)))) = 0 then (if (A 31) (Int32.toNatClampNeg (a1 - 1)) = 125 then (x_isCaseB_31  I A a1) else (some (I, A, 0))) else (x_isCaseB_31  I A a1)) else none))
theorem g_isCaseB {X : ie_X} {d : Nat} {pre post : ie_H} (hp : pre.length = 134) {I : Nat → Int32} {A : Nat → Nat → Int32} {a1 : Int32} {I' : Nat → Int32} {A' : Nat → Nat → Int32} {r : Int32} (hm : x_isCaseB I A a1 = some (I', A', r)) : Go X (d + 1) 164 (0, ie_en 164 [.ref 134, .int a1], [], Wm pre post I A) (.inl (some (.int r))) (Wm pre post I' A') := by
  unfold x_isCaseB at hm
  refine go_run 0 (F' := (0, [some (.ref 134), some (.int a1)], [], Wm pre post I A)) rfl ?_
  refine go_run 1 (F' := (1, [some (.ref 134), some (.int a1)], [.int a1], Wm pre post I A)) rfl ?_
  refine go_step rfl rfl ?_
  by_cases q1 : a1 ≤ 0
  · rw [if_pos q1] at hm ⊢
    refine go_run 0 (F' := (58, [some (.ref 134), some (.int a1)], [], Wm pre post I A)) rfl ?_
    refine go_run 1 (F' := (59, [some (.ref 134), some (.int a1)], [.int 0], Wm pre post I A)) rfl ?_
    cases hm
    exact go_end rfl rfl
  · rw [if_neg q1] at hm ⊢
    refine go_run 0 (F' := (4, [some (.ref 134), some (.int a1)], [], Wm pre post I A)) rfl ?_
    refine go_run 1 (F' := (5, [some (.ref 134), some (.int a1)], [.ref 134], Wm pre post I A)) rfl ?_
    refine go_gf rfl (w_0 hp) rfl ?_
    refine go_run 3 (F' := (11, [some (.ref 134), some (.int a1)], [.int (a1 - 1), .ref 165], Wm pre post I A)) rfl ?_
    obtain ⟨b2, hm⟩ := gd hm
    refine go_iald rfl (by decide) (w_31 hp) b2 rfl ?_
    refine go_run 0 (F' := (12, [some (.ref 134), some (.int a1)], [.int ((A 31) (Int32.toNatClampNeg (a1 - 1)))], Wm pre post I A)) rfl ?_
    refine go_call (m' := 144) (v := some (.int (ty_b (rd_pty ((A 31) (Int32.toNatClampNeg (a1 - 1))))))) (h1 := Wm pre post I A) rfl rfl ⟨rfl, Nat.le_of_ble_eq_true rfl⟩ (rm_isPty _) ?_
    refine go_run 0 (F' := (15, [some (.ref 134), some (.int a1)], [.int (ty_b (rd_pty ((A 31) (Int32.toNatClampNeg (a1 - 1)))))], Wm pre post I A)) rfl ?_
    refine go_run 0 (F' := (15, [some (.ref 134), some (.int a1)], [.int (ty_b (rd_pty ((A 31) (Int32.toNatClampNeg (a1 - 1)))))], Wm pre post I A)) rfl ?_
    refine go_step rfl rfl ?_
    by_cases q3 : ty_b (rd_pty ((A 31) (Int32.toNatClampNeg (a1 - 1)))) = 0
    · rw [if_pos q3] at hm ⊢
      refine go_run 0 (F' := (18, [some (.ref 134), some (.int a1)], [], Wm pre post I A)) rfl ?_
      refine go_run 1 (F' := (19, [some (.ref 134), some (.int a1)], [.ref 134], Wm pre post I A)) rfl ?_
      refine go_gf rfl (w_0 hp) rfl ?_
      refine go_run 3 (F' := (25, [some (.ref 134), some (.int a1)], [.int (a1 - 1), .ref 165], Wm pre post I A)) rfl ?_
      refine go_iald rfl (by decide) (w_31 hp) b2 rfl ?_
      refine go_run 1 (F' := (28, [some (.ref 134), some (.int a1)], [.int 125, .int ((A 31) (Int32.toNatClampNeg (a1 - 1)))], Wm pre post I A)) rfl ?_
      refine go_step rfl rfl ?_
      by_cases q4 : (A 31) (Int32.toNatClampNeg (a1 - 1)) = 125
      · rw [if_pos q4] at hm ⊢
        refine go_run 0 (F' := (31, [some (.ref 134), some (.int a1)], [], Wm pre post I A)) rfl ?_
        refine go_run 0 (F' := (31, [some (.ref 134), some (.int a1)], [], Wm pre post I A)) rfl ?_
        exact g_isCaseB_31 hp  hm
      · rw [if_neg q4] at hm ⊢
        refine go_run 0 (F' := (58, [some (.ref 134), some (.int a1)], [], Wm pre post I A)) rfl ?_
        refine go_run 1 (F' := (59, [some (.ref 134), some (.int a1)], [.int 0], Wm pre post I A)) rfl ?_
        cases hm
        exact go_end rfl rfl
    · rw [if_neg q3] at hm ⊢
      refine go_run 0 (F' := (31, [some (.ref 134), some (.int a1)], [], Wm pre post I A)) rfl ?_
      refine go_run 0 (F' := (31, [some (.ref 134), some (.int a1)], [], Wm pre post I A)) rfl ?_
      exact g_isCaseB_31 hp  hm
def x_put (I : Nat → Int32) (A : Nat → Nat → Int32) (a1 : Int32) : Option xR := (if ib (I 16) 1000 then (some (upd I 16 ((I 16) + 1), upA A 32 (upd (A 32) (Int32.toNatClampNeg (I 16)) a1), 0)) else none)
theorem g_put {X : ie_X} {d : Nat} {pre post : ie_H} (hp : pre.length = 134) {I : Nat → Int32} {A : Nat → Nat → Int32} {a1 : Int32} {I' : Nat → Int32} {A' : Nat → Nat → Int32} {r : Int32} (hm : x_put I A a1 = some (I', A', r)) : Go X (d + 0) 167 (0, ie_en 167 [.ref 134, .int a1], [], Wm pre post I A) (.inl none) (Wm pre post I' A') := by
  unfold x_put at hm
  refine go_run 0 (F' := (0, [some (.ref 134), some (.int a1)], [], Wm pre post I A)) rfl ?_
  refine go_run 1 (F' := (1, [some (.ref 134), some (.int a1)], [.ref 134], Wm pre post I A)) rfl ?_
  refine go_gf rfl (w_0 hp) rfl ?_
  refine go_run 1 (F' := (5, [some (.ref 134), some (.int a1)], [.ref 134, .ref 166], Wm pre post I A)) rfl ?_
  refine go_gf rfl (w_0 hp) rfl ?_
  refine go_run 1 (F' := (9, [some (.ref 134), some (.int a1)], [.int a1, .int (I 16), .ref 166], Wm pre post I A)) rfl ?_
  obtain ⟨b1, hm⟩ := gd hm
  refine go_iast rfl (w_32 hp) b1 (ws_32 hp) ?_
  refine go_run 2 (F' := (12, [some (.ref 134), some (.int a1)], [.ref 134, .ref 134], Wm pre post I (upA A 32 (upd (A 32) (Int32.toNatClampNeg (I 16)) a1)))) rfl ?_
  refine go_gf rfl (w_0 hp) rfl ?_
  refine go_run 2 (F' := (17, [some (.ref 134), some (.int a1)], [.int ((I 16) + 1), .ref 134], Wm pre post I (upA A 32 (upd (A 32) (Int32.toNatClampNeg (I 16)) a1)))) rfl ?_
  refine go_pf rfl (w_0 hp) (Nat.le_of_ble_eq_true rfl) rfl (wo_16 hp) ?_
  refine go_run 0 (F' := (20, [some (.ref 134), some (.int a1)], [], Wm pre post (upd I 16 ((I 16) + 1)) (upA A 32 (upd (A 32) (Int32.toNatClampNeg (I 16)) a1)))) rfl ?_
  cases hm
  exact go_end rfl rfl
def x_copyA_7 : Nat → (Nat → Int32) → (Nat → Nat → Int32) → Int32 → Int32 → Int32 → Option xR
  | 0, _, _, _, _, _ => none
  | n + 1, I, A, l2, l3, l4 => (if l4 = 0 then (some (I, A, l2)) else (if ib l2 1000 then (xb (x_put I A ((A 30) (Int32.toNatClampNeg l2))) fun I1 A1 v1 => (if (A 30) (Int32.toNatClampNeg l2) = 123 then (if (A 30) (Int32.toNatClampNeg l2) = 125 then (if l3 + 1 ≤ 0 then (x_copyA_7 n I1 A1 (l2 + 1) (l3 + 1) 0) else (x_copyA_7 n I1 A1 (l2 + 1) (l3 + 1) 1)) else (x_copyA_7 n I1 A1 (l2 + 1) (l3 + 1) 1)) else (if (A 30) (Int32.toNatClampNeg l2) = 125 then (if l3 + (-1) ≤ 0 then (x_copyA_7 n I1 A1 (l2 + 1) (l3 + (-1)) 0) else (x_copyA_7 n I1 A1 (l2 + 1) (l3 + (-1)) 1)) else (x_copyA_7 n I1 A1 (l2 + 1) (l3 + 0) 1)))) else none))
theorem g_copyA_7 {X : ie_X} {d : Nat} {pre post : ie_H} (hp : pre.length = 134) : ∀ (n : Nat) {I : Nat → Int32} {A : Nat → Nat → Int32} {l2 l3 l4 : Int32} {u1 u5 : Option Value} {I' : Nat → Int32} {A' : Nat → Nat → Int32} {r : Int32}, x_copyA_7 n I A l2 l3 l4 = some (I', A', r) → Go X (d + 1) 166 (7, [some (.ref 134), u1, some (.int l2), some (.int l3), some (.int l4), u5], [], Wm pre post I A) (.inl (some (.int r))) (Wm pre post I' A') := by
  intro n
  induction n with
  | zero => intro I A l2 l3 l4 u1 u5 I' A' r hm; cases hm
  | succ n ih =>
    intro I A l2 l3 l4 u1 u5 I' A' r hm
    unfold x_copyA_7 at hm
    refine go_run 0 (F' := (7, [some (.ref 134), u1, some (.int l2), some (.int l3), some (.int l4), u5], [], Wm pre post I A)) rfl ?_
    refine go_run 1 (F' := (9, [some (.ref 134), u1, some (.int l2), some (.int l3), some (.int l4), u5], [.int l4], Wm pre post I A)) rfl ?_
    refine go_step rfl rfl ?_
    by_cases q1 : l4 = 0
    · rw [if_pos q1] at hm ⊢
      refine go_run 0 (F' := (76, [some (.ref 134), u1, some (.int l2), some (.int l3), some (.int l4), u5], [], Wm pre post I A)) rfl ?_
      refine go_run 1 (F' := (77, [some (.ref 134), u1, some (.int l2), some (.int l3), some (.int l4), u5], [.int l2], Wm pre post I A)) rfl ?_
      cases hm
      exact go_end rfl rfl
    · rw [if_neg q1] at hm ⊢
      refine go_run 0 (F' := (12, [some (.ref 134), u1, some (.int l2), some (.int l3), some (.int l4), u5], [], Wm pre post I A)) rfl ?_
      refine go_run 1 (F' := (13, [some (.ref 134), u1, some (.int l2), some (.int l3), some (.int l4), u5], [.ref 134], Wm pre post I A)) rfl ?_
      refine go_gf rfl (w_0 hp) rfl ?_
      refine go_run 1 (F' := (17, [some (.ref 134), u1, some (.int l2), some (.int l3), some (.int l4), u5], [.int l2, .ref 164], Wm pre post I A)) rfl ?_
      obtain ⟨b2, hm⟩ := gd hm
      refine go_iald rfl (by decide) (w_30 hp) b2 rfl ?_
      refine go_run 3 (F' := (23, [some (.ref 134), u1, some (.int l2), some (.int l3), some (.int l4), some (.int ((A 30) (Int32.toNatClampNeg l2)))], [.int ((A 30) (Int32.toNatClampNeg l2)), .ref 134], Wm pre post I A)) rfl ?_
      obtain ⟨I1, A1, v1, e1, hm⟩ := xb_inv hm
      refine go_call (m' := 167) (v := none) (h1 := Wm pre post I1 A1) rfl (by simp only [ie_step, ie_iv, List.drop, w_0 hp]; rfl) ⟨rfl, Nat.le_of_ble_eq_true rfl⟩ (g_put (d := d) hp e1) ?_
      refine go_run 0 (F' := (26, [some (.ref 134), u1, some (.int l2), some (.int l3), some (.int l4), some (.int ((A 30) (Int32.toNatClampNeg l2)))], [], Wm pre post I1 A1)) rfl ?_
      refine go_run 3 (F' := (31, [some (.ref 134), u1, some (.int l2), some (.int l3), some (.int l4), some (.int ((A 30) (Int32.toNatClampNeg l2)))], [.int 123, .int ((A 30) (Int32.toNatClampNeg l2)), .int l3], Wm pre post I1 A1)) rfl ?_
      refine go_step rfl rfl ?_
      by_cases q3 : (A 30) (Int32.toNatClampNeg l2) = 123
      · rw [if_pos q3] at hm ⊢
        refine go_run 0 (F' := (34, [some (.ref 134), u1, some (.int l2), some (.int l3), some (.int l4), some (.int ((A 30) (Int32.toNatClampNeg l2)))], [.int l3], Wm pre post I1 A1)) rfl ?_
        refine go_run 6 (F' := (56, [some (.ref 134), u1, some (.int l2), some (.int (l3 + 1)), some (.int l4), some (.int ((A 30) (Int32.toNatClampNeg l2)))], [.int 125, .int ((A 30) (Int32.toNatClampNeg l2))], Wm pre post I1 A1)) rfl ?_
        refine go_step rfl rfl ?_
        by_cases q4 : (A 30) (Int32.toNatClampNeg l2) = 125
        · rw [if_pos q4] at hm ⊢
          refine go_run 0 (F' := (59, [some (.ref 134), u1, some (.int l2), some (.int (l3 + 1)), some (.int l4), some (.int ((A 30) (Int32.toNatClampNeg l2)))], [], Wm pre post I1 A1)) rfl ?_
          refine go_run 1 (F' := (60, [some (.ref 134), u1, some (.int l2), some (.int (l3 + 1)), some (.int l4), some (.int ((A 30) (Int32.toNatClampNeg l2)))], [.int (l3 + 1)], Wm pre post I1 A1)) rfl ?_
          refine go_step rfl rfl ?_
          by_cases q5 : l3 + 1 ≤ 0
          · rw [if_pos q5] at hm ⊢
            refine go_run 0 (F' := (67, [some (.ref 134), u1, some (.int l2), some (.int (l3 + 1)), some (.int l4), some (.int ((A 30) (Int32.toNatClampNeg l2)))], [], Wm pre post I1 A1)) rfl ?_
            refine go_run 4 (F' := (7, [some (.ref 134), u1, some (.int (l2 + 1)), some (.int (l3 + 1)), some (.int 0), some (.int ((A 30) (Int32.toNatClampNeg l2)))], [], Wm pre post I1 A1)) rfl ?_
            exact ih hm
          · rw [if_neg q5] at hm ⊢
            refine go_run 0 (F' := (63, [some (.ref 134), u1, some (.int l2), some (.int (l3 + 1)), some (.int l4), some (.int ((A 30) (Int32.toNatClampNeg l2)))], [], Wm pre post I1 A1)) rfl ?_
            refine go_run 5 (F' := (7, [some (.ref 134), u1, some (.int (l2 + 1)), some (.int (l3 + 1)), some (.int 1), some (.int ((A 30) (Int32.toNatClampNeg l2)))], [], Wm pre post I1 A1)) rfl ?_
            exact ih hm
        · rw [if_neg q4] at hm ⊢
          refine go_run 0 (F' := (63, [some (.ref 134), u1, some (.int l2), some (.int (l3 + 1)), some (.int l4), some (.int ((A 30) (Int32.toNatClampNeg l2)))], [], Wm pre post I1 A1)) rfl ?_
          refine go_run 5 (F' := (7, [some (.ref 134), u1, some (.int (l2 + 1)), some (.int (l3 + 1)), some (.int 1), some (.int ((A 30) (Int32.toNatClampNeg l2)))], [], Wm pre post I1 A1)) rfl ?_
          exact ih hm
      · rw [if_neg q3] at hm ⊢
        refine go_run 0 (F' := (38, [some (.ref 134), u1, some (.int l2), some (.int l3), some (.int l4), some (.int ((A 30) (Int32.toNatClampNeg l2)))], [.int l3], Wm pre post I1 A1)) rfl ?_
        refine go_run 2 (F' := (42, [some (.ref 134), u1, some (.int l2), some (.int l3), some (.int l4), some (.int ((A 30) (Int32.toNatClampNeg l2)))], [.int 125, .int ((A 30) (Int32.toNatClampNeg l2)), .int l3], Wm pre post I1 A1)) rfl ?_
        refine go_step rfl rfl ?_
        by_cases q6 : (A 30) (Int32.toNatClampNeg l2) = 125
        · rw [if_pos q6] at hm ⊢
          refine go_run 0 (F' := (45, [some (.ref 134), u1, some (.int l2), some (.int l3), some (.int l4), some (.int ((A 30) (Int32.toNatClampNeg l2)))], [.int l3], Wm pre post I1 A1)) rfl ?_
          refine go_run 6 (F' := (56, [some (.ref 134), u1, some (.int l2), some (.int (l3 + (-1))), some (.int l4), some (.int ((A 30) (Int32.toNatClampNeg l2)))], [.int 125, .int ((A 30) (Int32.toNatClampNeg l2))], Wm pre post I1 A1)) rfl ?_
          refine go_step rfl rfl ?_
          rw [if_pos q6]
          refine go_run 1 (F' := (60, [some (.ref 134), u1, some (.int l2), some (.int (l3 + (-1))), some (.int l4), some (.int ((A 30) (Int32.toNatClampNeg l2)))], [.int (l3 + (-1))], Wm pre post I1 A1)) rfl ?_
          refine go_step rfl rfl ?_
          by_cases q7 : l3 + (-1) ≤ 0
          · rw [if_pos q7] at hm ⊢
            refine go_run 0 (F' := (67, [some (.ref 134), u1, some (.int l2), some (.int (l3 + (-1))), some (.int l4), some (.int ((A 30) (Int32.toNatClampNeg l2)))], [], Wm pre post I1 A1)) rfl ?_
            refine go_run 4 (F' := (7, [some (.ref 134), u1, some (.int (l2 + 1)), some (.int (l3 + (-1))), some (.int 0), some (.int ((A 30) (Int32.toNatClampNeg l2)))], [], Wm pre post I1 A1)) rfl ?_
            exact ih hm
          · rw [if_neg q7] at hm ⊢
            refine go_run 0 (F' := (63, [some (.ref 134), u1, some (.int l2), some (.int (l3 + (-1))), some (.int l4), some (.int ((A 30) (Int32.toNatClampNeg l2)))], [], Wm pre post I1 A1)) rfl ?_
            refine go_run 5 (F' := (7, [some (.ref 134), u1, some (.int (l2 + 1)), some (.int (l3 + (-1))), some (.int 1), some (.int ((A 30) (Int32.toNatClampNeg l2)))], [], Wm pre post I1 A1)) rfl ?_
            exact ih hm
        · rw [if_neg q6] at hm ⊢
          refine go_run 0 (F' := (49, [some (.ref 134), u1, some (.int l2), some (.int l3), some (.int l4), some (.int ((A 30) (Int32.toNatClampNeg l2)))], [.int l3], Wm pre post I1 A1)) rfl ?_
          refine go_run 5 (F' := (56, [some (.ref 134), u1, some (.int l2), some (.int (l3 + 0)), some (.int l4), some (.int ((A 30) (Int32.toNatClampNeg l2)))], [.int 125, .int ((A 30) (Int32.toNatClampNeg l2))], Wm pre post I1 A1)) rfl ?_
          refine go_step rfl rfl ?_
          rw [if_neg q6]
          refine go_run 5 (F' := (7, [some (.ref 134), u1, some (.int (l2 + 1)), some (.int (l3 + 0)), some (.int 1), some (.int ((A 30) (Int32.toNatClampNeg l2)))], [], Wm pre post I1 A1)) rfl ?_
          exact ih hm
def x_copyA (n : Nat) (I : Nat → Int32) (A : Nat → Nat → Int32) (a1 : Int32) : Option xR := (x_copyA_7  n I A a1 0 1)
theorem g_copyA {X : ie_X} {d : Nat} {pre post : ie_H} (hp : pre.length = 134) {n : Nat} {I : Nat → Int32} {A : Nat → Nat → Int32} {a1 : Int32} {I' : Nat → Int32} {A' : Nat → Nat → Int32} {r : Int32} (hm : x_copyA n I A a1 = some (I', A', r)) : Go X (d + 1) 166 (0, ie_en 166 [.ref 134, .int a1], [], Wm pre post I A) (.inl (some (.int r))) (Wm pre post I' A') := by
  unfold x_copyA at hm
  refine go_run 0 (F' := (0, [some (.ref 134), some (.int a1), none, none, none, none], [], Wm pre post I A)) rfl ?_
  refine go_run 6 (F' := (7, [some (.ref 134), some (.int a1), some (.int a1), some (.int 0), some (.int 1), none], [], Wm pre post I A)) rfl ?_
  exact g_copyA_7 hp  n hm
def x_copyB_7 : Nat → (Nat → Int32) → (Nat → Nat → Int32) → Int32 → Int32 → Int32 → Option xR
  | 0, _, _, _, _, _ => none
  | n + 1, I, A, l2, l3, l4 => (if l4 = 0 then (some (I, A, l2)) else (if ib l2 1000 then (xb (x_put I A ((A 31) (Int32.toNatClampNeg l2))) fun I1 A1 v1 => (if (A 31) (Int32.toNatClampNeg l2) = 123 then (if (A 31) (Int32.toNatClampNeg l2) = 125 then (if l3 + 1 ≤ 0 then (x_copyB_7 n I1 A1 (l2 + 1) (l3 + 1) 0) else (x_copyB_7 n I1 A1 (l2 + 1) (l3 + 1) 1)) else (x_copyB_7 n I1 A1 (l2 + 1) (l3 + 1) 1)) else (if (A 31) (Int32.toNatClampNeg l2) = 125 then (if l3 + (-1) ≤ 0 then (x_copyB_7 n I1 A1 (l2 + 1) (l3 + (-1)) 0) else (x_copyB_7 n I1 A1 (l2 + 1) (l3 + (-1)) 1)) else (x_copyB_7 n I1 A1 (l2 + 1) (l3 + 0) 1)))) else none))
theorem g_copyB_7 {X : ie_X} {d : Nat} {pre post : ie_H} (hp : pre.length = 134) : ∀ (n : Nat) {I : Nat → Int32} {A : Nat → Nat → Int32} {l2 l3 l4 : Int32} {u1 u5 : Option Value} {I' : Nat → Int32} {A' : Nat → Nat → Int32} {r : Int32}, x_copyB_7 n I A l2 l3 l4 = some (I', A', r) → Go X (d + 1) 168 (7, [some (.ref 134), u1, some (.int l2), some (.int l3), some (.int l4), u5], [], Wm pre post I A) (.inl (some (.int r))) (Wm pre post I' A') := by
  intro n
  induction n with
  | zero => intro I A l2 l3 l4 u1 u5 I' A' r hm; cases hm
  | succ n ih =>
    intro I A l2 l3 l4 u1 u5 I' A' r hm
    unfold x_copyB_7 at hm
    refine go_run 0 (F' := (7, [some (.ref 134), u1, some (.int l2), some (.int l3), some (.int l4), u5], [], Wm pre post I A)) rfl ?_
    refine go_run 1 (F' := (9, [some (.ref 134), u1, some (.int l2), some (.int l3), some (.int l4), u5], [.int l4], Wm pre post I A)) rfl ?_
    refine go_step rfl rfl ?_
    by_cases q1 : l4 = 0
    · rw [if_pos q1] at hm ⊢
      refine go_run 0 (F' := (76, [some (.ref 134), u1, some (.int l2), some (.int l3), some (.int l4), u5], [], Wm pre post I A)) rfl ?_
      refine go_run 1 (F' := (77, [some (.ref 134), u1, some (.int l2), some (.int l3), some (.int l4), u5], [.int l2], Wm pre post I A)) rfl ?_
      cases hm
      exact go_end rfl rfl
    · rw [if_neg q1] at hm ⊢
      refine go_run 0 (F' := (12, [some (.ref 134), u1, some (.int l2), some (.int l3), some (.int l4), u5], [], Wm pre post I A)) rfl ?_
      refine go_run 1 (F' := (13, [some (.ref 134), u1, some (.int l2), some (.int l3), some (.int l4), u5], [.ref 134], Wm pre post I A)) rfl ?_
      refine go_gf rfl (w_0 hp) rfl ?_
      refine go_run 1 (F' := (17, [some (.ref 134), u1, some (.int l2), some (.int l3), some (.int l4), u5], [.int l2, .ref 165], Wm pre post I A)) rfl ?_
      obtain ⟨b2, hm⟩ := gd hm
      refine go_iald rfl (by decide) (w_31 hp) b2 rfl ?_
      refine go_run 3 (F' := (23, [some (.ref 134), u1, some (.int l2), some (.int l3), some (.int l4), some (.int ((A 31) (Int32.toNatClampNeg l2)))], [.int ((A 31) (Int32.toNatClampNeg l2)), .ref 134], Wm pre post I A)) rfl ?_
      obtain ⟨I1, A1, v1, e1, hm⟩ := xb_inv hm
      refine go_call (m' := 167) (v := none) (h1 := Wm pre post I1 A1) rfl (by simp only [ie_step, ie_iv, List.drop, w_0 hp]; rfl) ⟨rfl, Nat.le_of_ble_eq_true rfl⟩ (g_put (d := d) hp e1) ?_
      refine go_run 0 (F' := (26, [some (.ref 134), u1, some (.int l2), some (.int l3), some (.int l4), some (.int ((A 31) (Int32.toNatClampNeg l2)))], [], Wm pre post I1 A1)) rfl ?_
      refine go_run 3 (F' := (31, [some (.ref 134), u1, some (.int l2), some (.int l3), some (.int l4), some (.int ((A 31) (Int32.toNatClampNeg l2)))], [.int 123, .int ((A 31) (Int32.toNatClampNeg l2)), .int l3], Wm pre post I1 A1)) rfl ?_
      refine go_step rfl rfl ?_
      by_cases q3 : (A 31) (Int32.toNatClampNeg l2) = 123
      · rw [if_pos q3] at hm ⊢
        refine go_run 0 (F' := (34, [some (.ref 134), u1, some (.int l2), some (.int l3), some (.int l4), some (.int ((A 31) (Int32.toNatClampNeg l2)))], [.int l3], Wm pre post I1 A1)) rfl ?_
        refine go_run 6 (F' := (56, [some (.ref 134), u1, some (.int l2), some (.int (l3 + 1)), some (.int l4), some (.int ((A 31) (Int32.toNatClampNeg l2)))], [.int 125, .int ((A 31) (Int32.toNatClampNeg l2))], Wm pre post I1 A1)) rfl ?_
        refine go_step rfl rfl ?_
        by_cases q4 : (A 31) (Int32.toNatClampNeg l2) = 125
        · rw [if_pos q4] at hm ⊢
          refine go_run 0 (F' := (59, [some (.ref 134), u1, some (.int l2), some (.int (l3 + 1)), some (.int l4), some (.int ((A 31) (Int32.toNatClampNeg l2)))], [], Wm pre post I1 A1)) rfl ?_
          refine go_run 1 (F' := (60, [some (.ref 134), u1, some (.int l2), some (.int (l3 + 1)), some (.int l4), some (.int ((A 31) (Int32.toNatClampNeg l2)))], [.int (l3 + 1)], Wm pre post I1 A1)) rfl ?_
          refine go_step rfl rfl ?_
          by_cases q5 : l3 + 1 ≤ 0
          · rw [if_pos q5] at hm ⊢
            refine go_run 0 (F' := (67, [some (.ref 134), u1, some (.int l2), some (.int (l3 + 1)), some (.int l4), some (.int ((A 31) (Int32.toNatClampNeg l2)))], [], Wm pre post I1 A1)) rfl ?_
            refine go_run 4 (F' := (7, [some (.ref 134), u1, some (.int (l2 + 1)), some (.int (l3 + 1)), some (.int 0), some (.int ((A 31) (Int32.toNatClampNeg l2)))], [], Wm pre post I1 A1)) rfl ?_
            exact ih hm
          · rw [if_neg q5] at hm ⊢
            refine go_run 0 (F' := (63, [some (.ref 134), u1, some (.int l2), some (.int (l3 + 1)), some (.int l4), some (.int ((A 31) (Int32.toNatClampNeg l2)))], [], Wm pre post I1 A1)) rfl ?_
            refine go_run 5 (F' := (7, [some (.ref 134), u1, some (.int (l2 + 1)), some (.int (l3 + 1)), some (.int 1), some (.int ((A 31) (Int32.toNatClampNeg l2)))], [], Wm pre post I1 A1)) rfl ?_
            exact ih hm
        · rw [if_neg q4] at hm ⊢
          refine go_run 0 (F' := (63, [some (.ref 134), u1, some (.int l2), some (.int (l3 + 1)), some (.int l4), some (.int ((A 31) (Int32.toNatClampNeg l2)))], [], Wm pre post I1 A1)) rfl ?_
          refine go_run 5 (F' := (7, [some (.ref 134), u1, some (.int (l2 + 1)), some (.int (l3 + 1)), some (.int 1), some (.int ((A 31) (Int32.toNatClampNeg l2)))], [], Wm pre post I1 A1)) rfl ?_
          exact ih hm
      · rw [if_neg q3] at hm ⊢
        refine go_run 0 (F' := (38, [some (.ref 134), u1, some (.int l2), some (.int l3), some (.int l4), some (.int ((A 31) (Int32.toNatClampNeg l2)))], [.int l3], Wm pre post I1 A1)) rfl ?_
        refine go_run 2 (F' := (42, [some (.ref 134), u1, some (.int l2), some (.int l3), some (.int l4), some (.int ((A 31) (Int32.toNatClampNeg l2)))], [.int 125, .int ((A 31) (Int32.toNatClampNeg l2)), .int l3], Wm pre post I1 A1)) rfl ?_
        refine go_step rfl rfl ?_
        by_cases q6 : (A 31) (Int32.toNatClampNeg l2) = 125
        · rw [if_pos q6] at hm ⊢
          refine go_run 0 (F' := (45, [some (.ref 134), u1, some (.int l2), some (.int l3), some (.int l4), some (.int ((A 31) (Int32.toNatClampNeg l2)))], [.int l3], Wm pre post I1 A1)) rfl ?_
          refine go_run 6 (F' := (56, [some (.ref 134), u1, some (.int l2), some (.int (l3 + (-1))), some (.int l4), some (.int ((A 31) (Int32.toNatClampNeg l2)))], [.int 125, .int ((A 31) (Int32.toNatClampNeg l2))], Wm pre post I1 A1)) rfl ?_
          refine go_step rfl rfl ?_
          rw [if_pos q6]
          refine go_run 1 (F' := (60, [some (.ref 134), u1, some (.int l2), some (.int (l3 + (-1))), some (.int l4), some (.int ((A 31) (Int32.toNatClampNeg l2)))], [.int (l3 + (-1))], Wm pre post I1 A1)) rfl ?_
          refine go_step rfl rfl ?_
          by_cases q7 : l3 + (-1) ≤ 0
          · rw [if_pos q7] at hm ⊢
            refine go_run 0 (F' := (67, [some (.ref 134), u1, some (.int l2), some (.int (l3 + (-1))), some (.int l4), some (.int ((A 31) (Int32.toNatClampNeg l2)))], [], Wm pre post I1 A1)) rfl ?_
            refine go_run 4 (F' := (7, [some (.ref 134), u1, some (.int (l2 + 1)), some (.int (l3 + (-1))), some (.int 0), some (.int ((A 31) (Int32.toNatClampNeg l2)))], [], Wm pre post I1 A1)) rfl ?_
            exact ih hm
          · rw [if_neg q7] at hm ⊢
            refine go_run 0 (F' := (63, [some (.ref 134), u1, some (.int l2), some (.int (l3 + (-1))), some (.int l4), some (.int ((A 31) (Int32.toNatClampNeg l2)))], [], Wm pre post I1 A1)) rfl ?_
            refine go_run 5 (F' := (7, [some (.ref 134), u1, some (.int (l2 + 1)), some (.int (l3 + (-1))), some (.int 1), some (.int ((A 31) (Int32.toNatClampNeg l2)))], [], Wm pre post I1 A1)) rfl ?_
            exact ih hm
        · rw [if_neg q6] at hm ⊢
          refine go_run 0 (F' := (49, [some (.ref 134), u1, some (.int l2), some (.int l3), some (.int l4), some (.int ((A 31) (Int32.toNatClampNeg l2)))], [.int l3], Wm pre post I1 A1)) rfl ?_
          refine go_run 5 (F' := (56, [some (.ref 134), u1, some (.int l2), some (.int (l3 + 0)), some (.int l4), some (.int ((A 31) (Int32.toNatClampNeg l2)))], [.int 125, .int ((A 31) (Int32.toNatClampNeg l2))], Wm pre post I1 A1)) rfl ?_
          refine go_step rfl rfl ?_
          rw [if_neg q6]
          refine go_run 5 (F' := (7, [some (.ref 134), u1, some (.int (l2 + 1)), some (.int (l3 + 0)), some (.int 1), some (.int ((A 31) (Int32.toNatClampNeg l2)))], [], Wm pre post I1 A1)) rfl ?_
          exact ih hm
def x_copyB (n : Nat) (I : Nat → Int32) (A : Nat → Nat → Int32) (a1 : Int32) : Option xR := (x_copyB_7  n I A a1 0 1)
theorem g_copyB {X : ie_X} {d : Nat} {pre post : ie_H} (hp : pre.length = 134) {n : Nat} {I : Nat → Int32} {A : Nat → Nat → Int32} {a1 : Int32} {I' : Nat → Int32} {A' : Nat → Nat → Int32} {r : Int32} (hm : x_copyB n I A a1 = some (I', A', r)) : Go X (d + 1) 168 (0, ie_en 168 [.ref 134, .int a1], [], Wm pre post I A) (.inl (some (.int r))) (Wm pre post I' A') := by
  unfold x_copyB at hm
  refine go_run 0 (F' := (0, [some (.ref 134), some (.int a1), none, none, none, none], [], Wm pre post I A)) rfl ?_
  refine go_run 6 (F' := (7, [some (.ref 134), some (.int a1), some (.int a1), some (.int 0), some (.int 1), none], [], Wm pre post I A)) rfl ?_
  exact g_copyB_7 hp  n hm
def x_join_104 (rec9 : (Nat → Int32) → (Nat → Nat → Int32) → Int32 → Int32 → Option xR) (n : Nat) (I : Nat → Int32) (A : Nat → Nat → Int32) (l1 l2 : Int32) : Option xR := (xb (x_aAt I A l1) fun I1 A1 v1 => (xb (x_bAt I1 A1 l2) fun I2 A2 v2 => (if v1 = v2 then (xb (x_aAt I2 A2 l1) fun I3 A3 v3 => (xb (x_aAt I3 A3 l1) fun I4 A4 v4 => (xb (x_put I4 A4 v4) fun I5 A5 v5 => (if ty_b (rd_pty v3) = 0 then (rec9 I5 A5 (l1 + 1) (l2 + 1)) else (xb (x_isCaseA I5 A5 (l1 + 1)) fun I6 A6 v6 => (xb (x_isCaseB I6 A6 (l2 + 1)) fun I7 A7 v7 => (if v6 = v7 then (rec9 I7 A7 (l1 + 1) (l2 + 1)) else (some (I7, A7, 0))))))))) else (some (I2, A2, 0)))))
theorem g_join_104 {X : ie_X} {d : Nat} {pre post : ie_H} (hp : pre.length = 134) {rec9 : (Nat → Int32) → (Nat → Nat → Int32) → Int32 → Int32 → Option xR} (hr9 : ∀ {J : Nat → Int32} {B : Nat → Nat → Int32} {m1 m2 : Int32} {w3 w4 w5 : Option Value} {J' : Nat → Int32} {B' : Nat → Nat → Int32} {r' : Int32}, rec9 J B m1 m2 = some (J', B', r') → Go X (d + 2) 161 (9, [some (.ref 134), some (.int m1), some (.int m2), w3, w4, w5], [], Wm pre post J B) (.inl (some (.int r'))) (Wm pre post J' B')) {n : Nat} {I : Nat → Int32} {A : Nat → Nat → Int32} {l1 l2 : Int32} {u3 u4 u5 : Option Value} {I' : Nat → Int32} {A' : Nat → Nat → Int32} {r : Int32} (hm : x_join_104 rec9 n I A l1 l2 = some (I', A', r)) : Go X (d + 2) 161 (104, [some (.ref 134), some (.int l1), some (.int l2), u3, u4, u5], [], Wm pre post I A) (.inl (some (.int r))) (Wm pre post I' A') := by
  unfold x_join_104 at hm
  refine go_run 0 (F' := (104, [some (.ref 134), some (.int l1), some (.int l2), u3, u4, u5], [], Wm pre post I A)) rfl ?_
  refine go_run 2 (F' := (106, [some (.ref 134), some (.int l1), some (.int l2), u3, u4, u5], [.int l1, .ref 134], Wm pre post I A)) rfl ?_
  obtain ⟨I1, A1, v1, e1, hm⟩ := xb_inv hm
  refine go_call (m' := 163) (v := some (.int v1)) (h1 := Wm pre post I1 A1) rfl (by simp only [ie_step, ie_iv, List.drop, w_0 hp]; rfl) ⟨rfl, Nat.le_of_ble_eq_true rfl⟩ (g_aAt (d := d + 1) hp e1) ?_
  refine go_run 0 (F' := (109, [some (.ref 134), some (.int l1), some (.int l2), u3, u4, u5], [.int v1], Wm pre post I1 A1)) rfl ?_
  refine go_run 2 (F' := (111, [some (.ref 134), some (.int l1), some (.int l2), u3, u4, u5], [.int l2, .ref 134, .int v1], Wm pre post I1 A1)) rfl ?_
  obtain ⟨I2, A2, v2, e2, hm⟩ := xb_inv hm
  refine go_call (m' := 165) (v := some (.int v2)) (h1 := Wm pre post I2 A2) rfl (by simp only [ie_step, ie_iv, List.drop, w_0 hp]; rfl) ⟨rfl, Nat.le_of_ble_eq_true rfl⟩ (g_bAt (d := d + 1) hp e2) ?_
  refine go_run 0 (F' := (114, [some (.ref 134), some (.int l1), some (.int l2), u3, u4, u5], [.int v2, .int v1], Wm pre post I2 A2)) rfl ?_
  refine go_run 0 (F' := (114, [some (.ref 134), some (.int l1), some (.int l2), u3, u4, u5], [.int v2, .int v1], Wm pre post I2 A2)) rfl ?_
  refine go_step rfl rfl ?_
  by_cases q1 : v1 = v2
  · rw [if_pos q1] at hm ⊢
    refine go_run 0 (F' := (119, [some (.ref 134), some (.int l1), some (.int l2), u3, u4, u5], [], Wm pre post I2 A2)) rfl ?_
    refine go_run 2 (F' := (121, [some (.ref 134), some (.int l1), some (.int l2), u3, u4, u5], [.int l1, .ref 134], Wm pre post I2 A2)) rfl ?_
    obtain ⟨I3, A3, v3, e3, hm⟩ := xb_inv hm
    refine go_call (m' := 163) (v := some (.int v3)) (h1 := Wm pre post I3 A3) rfl (by simp only [ie_step, ie_iv, List.drop, w_0 hp]; rfl) ⟨rfl, Nat.le_of_ble_eq_true rfl⟩ (g_aAt (d := d + 1) hp e3) ?_
    refine go_run 0 (F' := (124, [some (.ref 134), some (.int l1), some (.int l2), u3, u4, u5], [.int v3], Wm pre post I3 A3)) rfl ?_
    refine go_run 0 (F' := (124, [some (.ref 134), some (.int l1), some (.int l2), u3, u4, u5], [.int v3], Wm pre post I3 A3)) rfl ?_
    refine go_call (m' := 144) (v := some (.int (ty_b (rd_pty v3)))) (h1 := Wm pre post I3 A3) rfl rfl ⟨rfl, Nat.le_of_ble_eq_true rfl⟩ (rm_isPty _) ?_
    refine go_run 0 (F' := (127, [some (.ref 134), some (.int l1), some (.int l2), u3, u4, u5], [.int (ty_b (rd_pty v3))], Wm pre post I3 A3)) rfl ?_
    refine go_run 4 (F' := (132, [some (.ref 134), some (.int l1), some (.int l2), u3, u4, some (.int (ty_b (rd_pty v3)))], [.int l1, .ref 134, .ref 134], Wm pre post I3 A3)) rfl ?_
    obtain ⟨I4, A4, v4, e4, hm⟩ := xb_inv hm
    refine go_call (m' := 163) (v := some (.int v4)) (h1 := Wm pre post I4 A4) rfl (by simp only [ie_step, ie_iv, List.drop, w_0 hp]; rfl) ⟨rfl, Nat.le_of_ble_eq_true rfl⟩ (g_aAt (d := d + 1) hp e4) ?_
    refine go_run 0 (F' := (135, [some (.ref 134), some (.int l1), some (.int l2), u3, u4, some (.int (ty_b (rd_pty v3)))], [.int v4, .ref 134], Wm pre post I4 A4)) rfl ?_
    refine go_run 0 (F' := (135, [some (.ref 134), some (.int l1), some (.int l2), u3, u4, some (.int (ty_b (rd_pty v3)))], [.int v4, .ref 134], Wm pre post I4 A4)) rfl ?_
    obtain ⟨I5, A5, v5, e5, hm⟩ := xb_inv hm
    refine go_call (m' := 167) (v := none) (h1 := Wm pre post I5 A5) rfl (by simp only [ie_step, ie_iv, List.drop, w_0 hp]; rfl) ⟨rfl, Nat.le_of_ble_eq_true rfl⟩ (g_put (d := d + 1) hp e5) ?_
    refine go_run 0 (F' := (138, [some (.ref 134), some (.int l1), some (.int l2), u3, u4, some (.int (ty_b (rd_pty v3)))], [], Wm pre post I5 A5)) rfl ?_
    refine go_run 3 (F' := (146, [some (.ref 134), some (.int (l1 + 1)), some (.int (l2 + 1)), u3, u4, some (.int (ty_b (rd_pty v3)))], [.int (ty_b (rd_pty v3))], Wm pre post I5 A5)) rfl ?_
    refine go_step rfl rfl ?_
    by_cases q2 : ty_b (rd_pty v3) = 0
    · rw [if_pos q2] at hm ⊢
      refine go_run 0 (F' := (164, [some (.ref 134), some (.int (l1 + 1)), some (.int (l2 + 1)), u3, u4, some (.int (ty_b (rd_pty v3)))], [], Wm pre post I5 A5)) rfl ?_
      refine go_run 1 (F' := (9, [some (.ref 134), some (.int (l1 + 1)), some (.int (l2 + 1)), u3, u4, some (.int (ty_b (rd_pty v3)))], [], Wm pre post I5 A5)) rfl ?_
      exact hr9 hm
    · rw [if_neg q2] at hm ⊢
      refine go_run 0 (F' := (149, [some (.ref 134), some (.int (l1 + 1)), some (.int (l2 + 1)), u3, u4, some (.int (ty_b (rd_pty v3)))], [], Wm pre post I5 A5)) rfl ?_
      refine go_run 2 (F' := (151, [some (.ref 134), some (.int (l1 + 1)), some (.int (l2 + 1)), u3, u4, some (.int (ty_b (rd_pty v3)))], [.int (l1 + 1), .ref 134], Wm pre post I5 A5)) rfl ?_
      obtain ⟨I6, A6, v6, e6, hm⟩ := xb_inv hm
      refine go_call (m' := 162) (v := some (.int v6)) (h1 := Wm pre post I6 A6) rfl (by simp only [ie_step, ie_iv, List.drop, w_0 hp]; rfl) ⟨rfl, Nat.le_of_ble_eq_true rfl⟩ (g_isCaseA (d := d) hp e6) ?_
      refine go_run 0 (F' := (154, [some (.ref 134), some (.int (l1 + 1)), some (.int (l2 + 1)), u3, u4, some (.int (ty_b (rd_pty v3)))], [.int v6], Wm pre post I6 A6)) rfl ?_
      refine go_run 2 (F' := (156, [some (.ref 134), some (.int (l1 + 1)), some (.int (l2 + 1)), u3, u4, some (.int (ty_b (rd_pty v3)))], [.int (l2 + 1), .ref 134, .int v6], Wm pre post I6 A6)) rfl ?_
      obtain ⟨I7, A7, v7, e7, hm⟩ := xb_inv hm
      refine go_call (m' := 164) (v := some (.int v7)) (h1 := Wm pre post I7 A7) rfl (by simp only [ie_step, ie_iv, List.drop, w_0 hp]; rfl) ⟨rfl, Nat.le_of_ble_eq_true rfl⟩ (g_isCaseB (d := d) hp e7) ?_
      refine go_run 0 (F' := (159, [some (.ref 134), some (.int (l1 + 1)), some (.int (l2 + 1)), u3, u4, some (.int (ty_b (rd_pty v3)))], [.int v7, .int v6], Wm pre post I7 A7)) rfl ?_
      refine go_run 0 (F' := (159, [some (.ref 134), some (.int (l1 + 1)), some (.int (l2 + 1)), u3, u4, some (.int (ty_b (rd_pty v3)))], [.int v7, .int v6], Wm pre post I7 A7)) rfl ?_
      refine go_step rfl rfl ?_
      by_cases q3 : v6 = v7
      · rw [if_pos q3] at hm ⊢
        refine go_run 0 (F' := (164, [some (.ref 134), some (.int (l1 + 1)), some (.int (l2 + 1)), u3, u4, some (.int (ty_b (rd_pty v3)))], [], Wm pre post I7 A7)) rfl ?_
        refine go_run 1 (F' := (9, [some (.ref 134), some (.int (l1 + 1)), some (.int (l2 + 1)), u3, u4, some (.int (ty_b (rd_pty v3)))], [], Wm pre post I7 A7)) rfl ?_
        exact hr9 hm
      · rw [if_neg q3] at hm ⊢
        refine go_run 0 (F' := (162, [some (.ref 134), some (.int (l1 + 1)), some (.int (l2 + 1)), u3, u4, some (.int (ty_b (rd_pty v3)))], [], Wm pre post I7 A7)) rfl ?_
        refine go_run 1 (F' := (163, [some (.ref 134), some (.int (l1 + 1)), some (.int (l2 + 1)), u3, u4, some (.int (ty_b (rd_pty v3)))], [.int 0], Wm pre post I7 A7)) rfl ?_
        cases hm
        exact go_end rfl rfl
  · rw [if_neg q1] at hm ⊢
    refine go_run 0 (F' := (117, [some (.ref 134), some (.int l1), some (.int l2), u3, u4, u5], [], Wm pre post I2 A2)) rfl ?_
    refine go_run 1 (F' := (118, [some (.ref 134), some (.int l1), some (.int l2), u3, u4, u5], [.int 0], Wm pre post I2 A2)) rfl ?_
    cases hm
    exact go_end rfl rfl
def x_join_71 (rec9 : (Nat → Int32) → (Nat → Nat → Int32) → Int32 → Int32 → Option xR) (n : Nat) (I : Nat → Int32) (A : Nat → Nat → Int32) (l1 l2 l3 l4 : Int32) : Option xR := (if l4 = 0 then (x_join_104 rec9 n I A l1 l2) else (if l3 = 0 then (xb (x_copyB n I A l2) fun I1 A1 v1 => (rec9 I1 A1 l1 v1)) else (if ib l2 1000 then (if ib l1 1000 then (if (A 30) (Int32.toNatClampNeg l1) ≤ (A 31) (Int32.toNatClampNeg l2) then (x_join_104 rec9 n I A l1 l2) else (xb (x_copyB n I A l2) fun I2 A2 v2 => (rec9 I2 A2 l1 v2))) else none) else none)))
theorem g_join_71 {X : ie_X} {d : Nat} {pre post : ie_H} (hp : pre.length = 134) {rec9 : (Nat → Int32) → (Nat → Nat → Int32) → Int32 → Int32 → Option xR} (hr9 : ∀ {J : Nat → Int32} {B : Nat → Nat → Int32} {m1 m2 : Int32} {w3 w4 w5 : Option Value} {J' : Nat → Int32} {B' : Nat → Nat → Int32} {r' : Int32}, rec9 J B m1 m2 = some (J', B', r') → Go X (d + 2) 161 (9, [some (.ref 134), some (.int m1), some (.int m2), w3, w4, w5], [], Wm pre post J B) (.inl (some (.int r'))) (Wm pre post J' B')) {n : Nat} {I : Nat → Int32} {A : Nat → Nat → Int32} {l1 l2 l3 l4 : Int32} {u5 : Option Value} {I' : Nat → Int32} {A' : Nat → Nat → Int32} {r : Int32} (hm : x_join_71 rec9 n I A l1 l2 l3 l4 = some (I', A', r)) : Go X (d + 2) 161 (71, [some (.ref 134), some (.int l1), some (.int l2), some (.int l3), some (.int l4), u5], [], Wm pre post I A) (.inl (some (.int r))) (Wm pre post I' A') := by
  unfold x_join_71 at hm
  refine go_run 0 (F' := (71, [some (.ref 134), some (.int l1), some (.int l2), some (.int l3), some (.int l4), u5], [], Wm pre post I A)) rfl ?_
  refine go_run 1 (F' := (73, [some (.ref 134), some (.int l1), some (.int l2), some (.int l3), some (.int l4), u5], [.int l4], Wm pre post I A)) rfl ?_
  refine go_step rfl rfl ?_
  by_cases q1 : l4 = 0
  · rw [if_pos q1] at hm ⊢
    refine go_run 0 (F' := (104, [some (.ref 134), some (.int l1), some (.int l2), some (.int l3), some (.int l4), u5], [], Wm pre post I A)) rfl ?_
    refine go_run 0 (F' := (104, [some (.ref 134), some (.int l1), some (.int l2), some (.int l3), some (.int l4), u5], [], Wm pre post I A)) rfl ?_
    exact g_join_104 hp hr9 hm
  · rw [if_neg q1] at hm ⊢
    refine go_run 0 (F' := (76, [some (.ref 134), some (.int l1), some (.int l2), some (.int l3), some (.int l4), u5], [], Wm pre post I A)) rfl ?_
    refine go_run 1 (F' := (77, [some (.ref 134), some (.int l1), some (.int l2), some (.int l3), some (.int l4), u5], [.int l3], Wm pre post I A)) rfl ?_
    refine go_step rfl rfl ?_
    by_cases q2 : l3 = 0
    · rw [if_pos q2] at hm ⊢
      refine go_run 0 (F' := (95, [some (.ref 134), some (.int l1), some (.int l2), some (.int l3), some (.int l4), u5], [], Wm pre post I A)) rfl ?_
      refine go_run 2 (F' := (97, [some (.ref 134), some (.int l1), some (.int l2), some (.int l3), some (.int l4), u5], [.int l2, .ref 134], Wm pre post I A)) rfl ?_
      obtain ⟨I1, A1, v1, e1, hm⟩ := xb_inv hm
      refine go_call (m' := 168) (v := some (.int v1)) (h1 := Wm pre post I1 A1) rfl (by simp only [ie_step, ie_iv, List.drop, w_0 hp]; rfl) ⟨rfl, Nat.le_of_ble_eq_true rfl⟩ (g_copyB (d := d) hp e1) ?_
      refine go_run 0 (F' := (100, [some (.ref 134), some (.int l1), some (.int l2), some (.int l3), some (.int l4), u5], [.int v1], Wm pre post I1 A1)) rfl ?_
      refine go_run 3 (F' := (9, [some (.ref 134), some (.int l1), some (.int v1), some (.int l3), some (.int l4), u5], [], Wm pre post I1 A1)) rfl ?_
      exact hr9 hm
    · rw [if_neg q2] at hm ⊢
      refine go_run 0 (F' := (80, [some (.ref 134), some (.int l1), some (.int l2), some (.int l3), some (.int l4), u5], [], Wm pre post I A)) rfl ?_
      refine go_run 1 (F' := (81, [some (.ref 134), some (.int l1), some (.int l2), some (.int l3), some (.int l4), u5], [.ref 134], Wm pre post I A)) rfl ?_
      refine go_gf rfl (w_0 hp) rfl ?_
      refine go_run 1 (F' := (85, [some (.ref 134), some (.int l1), some (.int l2), some (.int l3), some (.int l4), u5], [.int l2, .ref 165], Wm pre post I A)) rfl ?_
      obtain ⟨b3, hm⟩ := gd hm
      refine go_iald rfl (by decide) (w_31 hp) b3 rfl ?_
      refine go_run 1 (F' := (87, [some (.ref 134), some (.int l1), some (.int l2), some (.int l3), some (.int l4), u5], [.ref 134, .int ((A 31) (Int32.toNatClampNeg l2))], Wm pre post I A)) rfl ?_
      refine go_gf rfl (w_0 hp) rfl ?_
      refine go_run 1 (F' := (91, [some (.ref 134), some (.int l1), some (.int l2), some (.int l3), some (.int l4), u5], [.int l1, .ref 164, .int ((A 31) (Int32.toNatClampNeg l2))], Wm pre post I A)) rfl ?_
      obtain ⟨b4, hm⟩ := gd hm
      refine go_iald rfl (by decide) (w_30 hp) b4 rfl ?_
      refine go_run 0 (F' := (92, [some (.ref 134), some (.int l1), some (.int l2), some (.int l3), some (.int l4), u5], [.int ((A 30) (Int32.toNatClampNeg l1)), .int ((A 31) (Int32.toNatClampNeg l2))], Wm pre post I A)) rfl ?_
      refine go_step rfl rfl ?_
      by_cases q5 : (A 30) (Int32.toNatClampNeg l1) ≤ (A 31) (Int32.toNatClampNeg l2)
      · rw [if_pos q5] at hm ⊢
        refine go_run 0 (F' := (104, [some (.ref 134), some (.int l1), some (.int l2), some (.int l3), some (.int l4), u5], [], Wm pre post I A)) rfl ?_
        refine go_run 0 (F' := (104, [some (.ref 134), some (.int l1), some (.int l2), some (.int l3), some (.int l4), u5], [], Wm pre post I A)) rfl ?_
        exact g_join_104 hp hr9 hm
      · rw [if_neg q5] at hm ⊢
        refine go_run 0 (F' := (95, [some (.ref 134), some (.int l1), some (.int l2), some (.int l3), some (.int l4), u5], [], Wm pre post I A)) rfl ?_
        refine go_run 2 (F' := (97, [some (.ref 134), some (.int l1), some (.int l2), some (.int l3), some (.int l4), u5], [.int l2, .ref 134], Wm pre post I A)) rfl ?_
        obtain ⟨I2, A2, v2, e2, hm⟩ := xb_inv hm
        refine go_call (m' := 168) (v := some (.int v2)) (h1 := Wm pre post I2 A2) rfl (by simp only [ie_step, ie_iv, List.drop, w_0 hp]; rfl) ⟨rfl, Nat.le_of_ble_eq_true rfl⟩ (g_copyB (d := d) hp e2) ?_
        refine go_run 0 (F' := (100, [some (.ref 134), some (.int l1), some (.int l2), some (.int l3), some (.int l4), u5], [.int v2], Wm pre post I2 A2)) rfl ?_
        refine go_run 3 (F' := (9, [some (.ref 134), some (.int l1), some (.int v2), some (.int l3), some (.int l4), u5], [], Wm pre post I2 A2)) rfl ?_
        exact hr9 hm
def x_join_25 (rec9 : (Nat → Int32) → (Nat → Nat → Int32) → Int32 → Int32 → Option xR) (n : Nat) (I : Nat → Int32) (A : Nat → Nat → Int32) (l1 l2 : Int32) : Option xR := (xb (x_isCaseA I A l1) fun I1 A1 v1 => (xb (x_isCaseB I1 A1 l2) fun I2 A2 v2 => (if v1 = 0 then (x_join_71 rec9 n I2 A2 l1 l2 v1 v2) else (if v2 = 0 then (xb (x_copyA n I2 A2 l1) fun I3 A3 v3 => (rec9 I3 A3 v3 l2)) else (if ib l1 1000 then (if ib l2 1000 then (if (A2 31) (Int32.toNatClampNeg l2) ≤ (A2 30) (Int32.toNatClampNeg l1) then (x_join_71 rec9 n I2 A2 l1 l2 v1 v2) else (xb (x_copyA n I2 A2 l1) fun I4 A4 v4 => (rec9 I4 A4 v4 l2))) else none) else none)))))
theorem g_join_25 {X : ie_X} {d : Nat} {pre post : ie_H} (hp : pre.length = 134) {rec9 : (Nat → Int32) → (Nat → Nat → Int32) → Int32 → Int32 → Option xR} (hr9 : ∀ {J : Nat → Int32} {B : Nat → Nat → Int32} {m1 m2 : Int32} {w3 w4 w5 : Option Value} {J' : Nat → Int32} {B' : Nat → Nat → Int32} {r' : Int32}, rec9 J B m1 m2 = some (J', B', r') → Go X (d + 2) 161 (9, [some (.ref 134), some (.int m1), some (.int m2), w3, w4, w5], [], Wm pre post J B) (.inl (some (.int r'))) (Wm pre post J' B')) {n : Nat} {I : Nat → Int32} {A : Nat → Nat → Int32} {l1 l2 : Int32} {u3 u4 u5 : Option Value} {I' : Nat → Int32} {A' : Nat → Nat → Int32} {r : Int32} (hm : x_join_25 rec9 n I A l1 l2 = some (I', A', r)) : Go X (d + 2) 161 (25, [some (.ref 134), some (.int l1), some (.int l2), u3, u4, u5], [], Wm pre post I A) (.inl (some (.int r))) (Wm pre post I' A') := by
  unfold x_join_25 at hm
  refine go_run 0 (F' := (25, [some (.ref 134), some (.int l1), some (.int l2), u3, u4, u5], [], Wm pre post I A)) rfl ?_
  refine go_run 2 (F' := (27, [some (.ref 134), some (.int l1), some (.int l2), u3, u4, u5], [.int l1, .ref 134], Wm pre post I A)) rfl ?_
  obtain ⟨I1, A1, v1, e1, hm⟩ := xb_inv hm
  refine go_call (m' := 162) (v := some (.int v1)) (h1 := Wm pre post I1 A1) rfl (by simp only [ie_step, ie_iv, List.drop, w_0 hp]; rfl) ⟨rfl, Nat.le_of_ble_eq_true rfl⟩ (g_isCaseA (d := d) hp e1) ?_
  refine go_run 0 (F' := (30, [some (.ref 134), some (.int l1), some (.int l2), u3, u4, u5], [.int v1], Wm pre post I1 A1)) rfl ?_
  refine go_run 3 (F' := (33, [some (.ref 134), some (.int l1), some (.int l2), some (.int v1), u4, u5], [.int l2, .ref 134], Wm pre post I1 A1)) rfl ?_
  obtain ⟨I2, A2, v2, e2, hm⟩ := xb_inv hm
  refine go_call (m' := 164) (v := some (.int v2)) (h1 := Wm pre post I2 A2) rfl (by simp only [ie_step, ie_iv, List.drop, w_0 hp]; rfl) ⟨rfl, Nat.le_of_ble_eq_true rfl⟩ (g_isCaseB (d := d) hp e2) ?_
  refine go_run 0 (F' := (36, [some (.ref 134), some (.int l1), some (.int l2), some (.int v1), u4, u5], [.int v2], Wm pre post I2 A2)) rfl ?_
  refine go_run 2 (F' := (39, [some (.ref 134), some (.int l1), some (.int l2), some (.int v1), some (.int v2), u5], [.int v1], Wm pre post I2 A2)) rfl ?_
  refine go_step rfl rfl ?_
  by_cases q1 : v1 = 0
  · rw [if_pos q1] at hm ⊢
    refine go_run 0 (F' := (71, [some (.ref 134), some (.int l1), some (.int l2), some (.int v1), some (.int v2), u5], [], Wm pre post I2 A2)) rfl ?_
    refine go_run 0 (F' := (71, [some (.ref 134), some (.int l1), some (.int l2), some (.int v1), some (.int v2), u5], [], Wm pre post I2 A2)) rfl ?_
    exact g_join_71 hp hr9 hm
  · rw [if_neg q1] at hm ⊢
    refine go_run 0 (F' := (42, [some (.ref 134), some (.int l1), some (.int l2), some (.int v1), some (.int v2), u5], [], Wm pre post I2 A2)) rfl ?_
    refine go_run 1 (F' := (44, [some (.ref 134), some (.int l1), some (.int l2), some (.int v1), some (.int v2), u5], [.int v2], Wm pre post I2 A2)) rfl ?_
    refine go_step rfl rfl ?_
    by_cases q2 : v2 = 0
    · rw [if_pos q2] at hm ⊢
      refine go_run 0 (F' := (62, [some (.ref 134), some (.int l1), some (.int l2), some (.int v1), some (.int v2), u5], [], Wm pre post I2 A2)) rfl ?_
      refine go_run 2 (F' := (64, [some (.ref 134), some (.int l1), some (.int l2), some (.int v1), some (.int v2), u5], [.int l1, .ref 134], Wm pre post I2 A2)) rfl ?_
      obtain ⟨I3, A3, v3, e3, hm⟩ := xb_inv hm
      refine go_call (m' := 166) (v := some (.int v3)) (h1 := Wm pre post I3 A3) rfl (by simp only [ie_step, ie_iv, List.drop, w_0 hp]; rfl) ⟨rfl, Nat.le_of_ble_eq_true rfl⟩ (g_copyA (d := d) hp e3) ?_
      refine go_run 0 (F' := (67, [some (.ref 134), some (.int l1), some (.int l2), some (.int v1), some (.int v2), u5], [.int v3], Wm pre post I3 A3)) rfl ?_
      refine go_run 3 (F' := (9, [some (.ref 134), some (.int v3), some (.int l2), some (.int v1), some (.int v2), u5], [], Wm pre post I3 A3)) rfl ?_
      exact hr9 hm
    · rw [if_neg q2] at hm ⊢
      refine go_run 0 (F' := (47, [some (.ref 134), some (.int l1), some (.int l2), some (.int v1), some (.int v2), u5], [], Wm pre post I2 A2)) rfl ?_
      refine go_run 1 (F' := (48, [some (.ref 134), some (.int l1), some (.int l2), some (.int v1), some (.int v2), u5], [.ref 134], Wm pre post I2 A2)) rfl ?_
      refine go_gf rfl (w_0 hp) rfl ?_
      refine go_run 1 (F' := (52, [some (.ref 134), some (.int l1), some (.int l2), some (.int v1), some (.int v2), u5], [.int l1, .ref 164], Wm pre post I2 A2)) rfl ?_
      obtain ⟨b3, hm⟩ := gd hm
      refine go_iald rfl (by decide) (w_30 hp) b3 rfl ?_
      refine go_run 1 (F' := (54, [some (.ref 134), some (.int l1), some (.int l2), some (.int v1), some (.int v2), u5], [.ref 134, .int ((A2 30) (Int32.toNatClampNeg l1))], Wm pre post I2 A2)) rfl ?_
      refine go_gf rfl (w_0 hp) rfl ?_
      refine go_run 1 (F' := (58, [some (.ref 134), some (.int l1), some (.int l2), some (.int v1), some (.int v2), u5], [.int l2, .ref 165, .int ((A2 30) (Int32.toNatClampNeg l1))], Wm pre post I2 A2)) rfl ?_
      obtain ⟨b4, hm⟩ := gd hm
      refine go_iald rfl (by decide) (w_31 hp) b4 rfl ?_
      refine go_run 0 (F' := (59, [some (.ref 134), some (.int l1), some (.int l2), some (.int v1), some (.int v2), u5], [.int ((A2 31) (Int32.toNatClampNeg l2)), .int ((A2 30) (Int32.toNatClampNeg l1))], Wm pre post I2 A2)) rfl ?_
      refine go_step rfl rfl ?_
      by_cases q5 : (A2 31) (Int32.toNatClampNeg l2) ≤ (A2 30) (Int32.toNatClampNeg l1)
      · rw [if_pos q5] at hm ⊢
        refine go_run 0 (F' := (71, [some (.ref 134), some (.int l1), some (.int l2), some (.int v1), some (.int v2), u5], [], Wm pre post I2 A2)) rfl ?_
        refine go_run 0 (F' := (71, [some (.ref 134), some (.int l1), some (.int l2), some (.int v1), some (.int v2), u5], [], Wm pre post I2 A2)) rfl ?_
        exact g_join_71 hp hr9 hm
      · rw [if_neg q5] at hm ⊢
        refine go_run 0 (F' := (62, [some (.ref 134), some (.int l1), some (.int l2), some (.int v1), some (.int v2), u5], [], Wm pre post I2 A2)) rfl ?_
        refine go_run 2 (F' := (64, [some (.ref 134), some (.int l1), some (.int l2), some (.int v1), some (.int v2), u5], [.int l1, .ref 134], Wm pre post I2 A2)) rfl ?_
        obtain ⟨I4, A4, v4, e4, hm⟩ := xb_inv hm
        refine go_call (m' := 166) (v := some (.int v4)) (h1 := Wm pre post I4 A4) rfl (by simp only [ie_step, ie_iv, List.drop, w_0 hp]; rfl) ⟨rfl, Nat.le_of_ble_eq_true rfl⟩ (g_copyA (d := d) hp e4) ?_
        refine go_run 0 (F' := (67, [some (.ref 134), some (.int l1), some (.int l2), some (.int v1), some (.int v2), u5], [.int v4], Wm pre post I4 A4)) rfl ?_
        refine go_run 3 (F' := (9, [some (.ref 134), some (.int v4), some (.int l2), some (.int v1), some (.int v2), u5], [], Wm pre post I4 A4)) rfl ?_
        exact hr9 hm
def x_join_9 : Nat → (Nat → Int32) → (Nat → Nat → Int32) → Int32 → Int32 → Option xR
  | 0, _, _, _, _ => none
  | n + 1, I, A, l1, l2 => (if l1 < I 14 then (x_join_25 (x_join_9 n) n I A l1 l2) else (if I 15 ≤ l2 then (some (I, A, 1)) else (x_join_25 (x_join_9 n) n I A l1 l2)))
theorem g_join_9 {X : ie_X} {d : Nat} {pre post : ie_H} (hp : pre.length = 134) : ∀ (n : Nat) {I : Nat → Int32} {A : Nat → Nat → Int32} {l1 l2 : Int32} {u3 u4 u5 : Option Value} {I' : Nat → Int32} {A' : Nat → Nat → Int32} {r : Int32}, x_join_9 n I A l1 l2 = some (I', A', r) → Go X (d + 2) 161 (9, [some (.ref 134), some (.int l1), some (.int l2), u3, u4, u5], [], Wm pre post I A) (.inl (some (.int r))) (Wm pre post I' A') := by
  intro n
  induction n with
  | zero => intro I A l1 l2 u3 u4 u5 I' A' r hm; cases hm
  | succ n ih =>
    intro I A l1 l2 u3 u4 u5 I' A' r hm
    unfold x_join_9 at hm
    refine go_run 0 (F' := (9, [some (.ref 134), some (.int l1), some (.int l2), u3, u4, u5], [], Wm pre post I A)) rfl ?_
    refine go_run 2 (F' := (11, [some (.ref 134), some (.int l1), some (.int l2), u3, u4, u5], [.ref 134, .int l1], Wm pre post I A)) rfl ?_
    refine go_gf rfl (w_0 hp) rfl ?_
    refine go_run 0 (F' := (14, [some (.ref 134), some (.int l1), some (.int l2), u3, u4, u5], [.int (I 14), .int l1], Wm pre post I A)) rfl ?_
    refine go_step rfl rfl ?_
    by_cases q1 : l1 < I 14
    · rw [if_pos q1] at hm ⊢
      refine go_run 0 (F' := (25, [some (.ref 134), some (.int l1), some (.int l2), u3, u4, u5], [], Wm pre post I A)) rfl ?_
      refine go_run 0 (F' := (25, [some (.ref 134), some (.int l1), some (.int l2), u3, u4, u5], [], Wm pre post I A)) rfl ?_
      exact g_join_25 hp (fun z => ih z) hm
    · rw [if_neg q1] at hm ⊢
      refine go_run 0 (F' := (17, [some (.ref 134), some (.int l1), some (.int l2), u3, u4, u5], [], Wm pre post I A)) rfl ?_
      refine go_run 2 (F' := (19, [some (.ref 134), some (.int l1), some (.int l2), u3, u4, u5], [.ref 134, .int l2], Wm pre post I A)) rfl ?_
      refine go_gf rfl (w_0 hp) rfl ?_
      refine go_run 0 (F' := (22, [some (.ref 134), some (.int l1), some (.int l2), u3, u4, u5], [.int (I 15), .int l2], Wm pre post I A)) rfl ?_
      refine go_step rfl rfl ?_
      by_cases q2 : I 15 ≤ l2
      · rw [if_pos q2] at hm ⊢
        refine go_run 0 (F' := (167, [some (.ref 134), some (.int l1), some (.int l2), u3, u4, u5], [], Wm pre post I A)) rfl ?_
        refine go_run 1 (F' := (168, [some (.ref 134), some (.int l1), some (.int l2), u3, u4, u5], [.int 1], Wm pre post I A)) rfl ?_
        cases hm
        exact go_end rfl rfl
      · rw [if_neg q2] at hm ⊢
        refine go_run 0 (F' := (25, [some (.ref 134), some (.int l1), some (.int l2), u3, u4, u5], [], Wm pre post I A)) rfl ?_
        refine go_run 0 (F' := (25, [some (.ref 134), some (.int l1), some (.int l2), u3, u4, u5], [], Wm pre post I A)) rfl ?_
        exact g_join_25 hp (fun z => ih z) hm
def x_join (n : Nat) (I : Nat → Int32) (A : Nat → Nat → Int32) : Option xR := (x_join_9  n (upd I 16 0) A 0 0)
theorem g_join {X : ie_X} {d : Nat} {pre post : ie_H} (hp : pre.length = 134) {n : Nat} {I : Nat → Int32} {A : Nat → Nat → Int32} {I' : Nat → Int32} {A' : Nat → Nat → Int32} {r : Int32} (hm : x_join n I A = some (I', A', r)) : Go X (d + 2) 161 (0, ie_en 161 [.ref 134], [], Wm pre post I A) (.inl (some (.int r))) (Wm pre post I' A') := by
  unfold x_join at hm
  refine go_run 0 (F' := (0, [some (.ref 134), none, none, none, none, none], [], Wm pre post I A)) rfl ?_
  refine go_run 2 (F' := (2, [some (.ref 134), none, none, none, none, none], [.int 0, .ref 134], Wm pre post I A)) rfl ?_
  refine go_pf rfl (w_0 hp) (Nat.le_of_ble_eq_true rfl) rfl (wo_16 hp) ?_
  refine go_run 4 (F' := (9, [some (.ref 134), some (.int 0), some (.int 0), none, none, none], [], Wm pre post (upd I 16 0) A)) rfl ?_
  exact g_join_9 hp  n hm
def x_addB_7 : Nat → (Nat → Int32) → (Nat → Nat → Int32) → Int32 → Option xR
  | 0, _, _, _ => none
  | n + 1, I, A, l1 => (if l1 < 0 then (some (I, A, 0)) else (if ib l1 1000 then (xb (x_add I A ((A 31) (Int32.toNatClampNeg l1))) fun I1 A1 v1 => (x_addB_7 n I1 A1 (l1 + (-1)))) else none))
theorem g_addB_7 {X : ie_X} {d : Nat} {pre post : ie_H} (hp : pre.length = 134) : ∀ (n : Nat) {I : Nat → Int32} {A : Nat → Nat → Int32} {l1 : Int32} {I' : Nat → Int32} {A' : Nat → Nat → Int32} {r : Int32}, x_addB_7 n I A l1 = some (I', A', r) → Go X (d + 1) 169 (7, [some (.ref 134), some (.int l1)], [], Wm pre post I A) (.inl none) (Wm pre post I' A') := by
  intro n
  induction n with
  | zero => intro I A l1 I' A' r hm; cases hm
  | succ n ih =>
    intro I A l1 I' A' r hm
    unfold x_addB_7 at hm
    refine go_run 0 (F' := (7, [some (.ref 134), some (.int l1)], [], Wm pre post I A)) rfl ?_
    refine go_run 1 (F' := (8, [some (.ref 134), some (.int l1)], [.int l1], Wm pre post I A)) rfl ?_
    refine go_step rfl rfl ?_
    by_cases q1 : l1 < 0
    · rw [if_pos q1] at hm ⊢
      refine go_run 0 (F' := (27, [some (.ref 134), some (.int l1)], [], Wm pre post I A)) rfl ?_
      refine go_run 0 (F' := (27, [some (.ref 134), some (.int l1)], [], Wm pre post I A)) rfl ?_
      cases hm
      exact go_end rfl rfl
    · rw [if_neg q1] at hm ⊢
      refine go_run 0 (F' := (11, [some (.ref 134), some (.int l1)], [], Wm pre post I A)) rfl ?_
      refine go_run 2 (F' := (13, [some (.ref 134), some (.int l1)], [.ref 134, .ref 134], Wm pre post I A)) rfl ?_
      refine go_gf rfl (w_0 hp) rfl ?_
      refine go_run 1 (F' := (17, [some (.ref 134), some (.int l1)], [.int l1, .ref 165, .ref 134], Wm pre post I A)) rfl ?_
      obtain ⟨b2, hm⟩ := gd hm
      refine go_iald rfl (by decide) (w_31 hp) b2 rfl ?_
      refine go_run 0 (F' := (18, [some (.ref 134), some (.int l1)], [.int ((A 31) (Int32.toNatClampNeg l1)), .ref 134], Wm pre post I A)) rfl ?_
      obtain ⟨I1, A1, v1, e1, hm⟩ := xb_inv hm
      refine go_call (m' := 157) (v := none) (h1 := Wm pre post I1 A1) rfl (by simp only [ie_step, ie_iv, List.drop, w_0 hp]; rfl) ⟨rfl, Nat.le_of_ble_eq_true rfl⟩ (g_add (d := d) hp e1) ?_
      refine go_run 0 (F' := (21, [some (.ref 134), some (.int l1)], [], Wm pre post I1 A1)) rfl ?_
      refine go_run 2 (F' := (7, [some (.ref 134), some (.int (l1 + (-1)))], [], Wm pre post I1 A1)) rfl ?_
      exact ih hm
def x_addB (n : Nat) (I : Nat → Int32) (A : Nat → Nat → Int32) : Option xR := (x_addB_7  n I A ((I 15) - 1))
theorem g_addB {X : ie_X} {d : Nat} {pre post : ie_H} (hp : pre.length = 134) {n : Nat} {I : Nat → Int32} {A : Nat → Nat → Int32} {I' : Nat → Int32} {A' : Nat → Nat → Int32} {r : Int32} (hm : x_addB n I A = some (I', A', r)) : Go X (d + 1) 169 (0, ie_en 169 [.ref 134], [], Wm pre post I A) (.inl none) (Wm pre post I' A') := by
  unfold x_addB at hm
  refine go_run 0 (F' := (0, [some (.ref 134), none], [], Wm pre post I A)) rfl ?_
  refine go_run 1 (F' := (1, [some (.ref 134), none], [.ref 134], Wm pre post I A)) rfl ?_
  refine go_gf rfl (w_0 hp) rfl ?_
  refine go_run 3 (F' := (7, [some (.ref 134), some (.int ((I 15) - 1))], [], Wm pre post I A)) rfl ?_
  exact g_addB_7 hp  n hm
def x_addA_7 : Nat → (Nat → Int32) → (Nat → Nat → Int32) → Int32 → Option xR
  | 0, _, _, _ => none
  | n + 1, I, A, l1 => (if l1 < 0 then (some (I, A, 0)) else (if ib l1 1000 then (xb (x_add I A ((A 30) (Int32.toNatClampNeg l1))) fun I1 A1 v1 => (x_addA_7 n I1 A1 (l1 + (-1)))) else none))
theorem g_addA_7 {X : ie_X} {d : Nat} {pre post : ie_H} (hp : pre.length = 134) : ∀ (n : Nat) {I : Nat → Int32} {A : Nat → Nat → Int32} {l1 : Int32} {I' : Nat → Int32} {A' : Nat → Nat → Int32} {r : Int32}, x_addA_7 n I A l1 = some (I', A', r) → Go X (d + 1) 170 (7, [some (.ref 134), some (.int l1)], [], Wm pre post I A) (.inl none) (Wm pre post I' A') := by
  intro n
  induction n with
  | zero => intro I A l1 I' A' r hm; cases hm
  | succ n ih =>
    intro I A l1 I' A' r hm
    unfold x_addA_7 at hm
    refine go_run 0 (F' := (7, [some (.ref 134), some (.int l1)], [], Wm pre post I A)) rfl ?_
    refine go_run 1 (F' := (8, [some (.ref 134), some (.int l1)], [.int l1], Wm pre post I A)) rfl ?_
    refine go_step rfl rfl ?_
    by_cases q1 : l1 < 0
    · rw [if_pos q1] at hm ⊢
      refine go_run 0 (F' := (27, [some (.ref 134), some (.int l1)], [], Wm pre post I A)) rfl ?_
      refine go_run 0 (F' := (27, [some (.ref 134), some (.int l1)], [], Wm pre post I A)) rfl ?_
      cases hm
      exact go_end rfl rfl
    · rw [if_neg q1] at hm ⊢
      refine go_run 0 (F' := (11, [some (.ref 134), some (.int l1)], [], Wm pre post I A)) rfl ?_
      refine go_run 2 (F' := (13, [some (.ref 134), some (.int l1)], [.ref 134, .ref 134], Wm pre post I A)) rfl ?_
      refine go_gf rfl (w_0 hp) rfl ?_
      refine go_run 1 (F' := (17, [some (.ref 134), some (.int l1)], [.int l1, .ref 164, .ref 134], Wm pre post I A)) rfl ?_
      obtain ⟨b2, hm⟩ := gd hm
      refine go_iald rfl (by decide) (w_30 hp) b2 rfl ?_
      refine go_run 0 (F' := (18, [some (.ref 134), some (.int l1)], [.int ((A 30) (Int32.toNatClampNeg l1)), .ref 134], Wm pre post I A)) rfl ?_
      obtain ⟨I1, A1, v1, e1, hm⟩ := xb_inv hm
      refine go_call (m' := 157) (v := none) (h1 := Wm pre post I1 A1) rfl (by simp only [ie_step, ie_iv, List.drop, w_0 hp]; rfl) ⟨rfl, Nat.le_of_ble_eq_true rfl⟩ (g_add (d := d) hp e1) ?_
      refine go_run 0 (F' := (21, [some (.ref 134), some (.int l1)], [], Wm pre post I1 A1)) rfl ?_
      refine go_run 2 (F' := (7, [some (.ref 134), some (.int (l1 + (-1)))], [], Wm pre post I1 A1)) rfl ?_
      exact ih hm
def x_addA (n : Nat) (I : Nat → Int32) (A : Nat → Nat → Int32) : Option xR := (x_addA_7  n I A ((I 14) - 1))
theorem g_addA {X : ie_X} {d : Nat} {pre post : ie_H} (hp : pre.length = 134) {n : Nat} {I : Nat → Int32} {A : Nat → Nat → Int32} {I' : Nat → Int32} {A' : Nat → Nat → Int32} {r : Int32} (hm : x_addA n I A = some (I', A', r)) : Go X (d + 1) 170 (0, ie_en 170 [.ref 134], [], Wm pre post I A) (.inl none) (Wm pre post I' A') := by
  unfold x_addA at hm
  refine go_run 0 (F' := (0, [some (.ref 134), none], [], Wm pre post I A)) rfl ?_
  refine go_run 1 (F' := (1, [some (.ref 134), none], [.ref 134], Wm pre post I A)) rfl ?_
  refine go_gf rfl (w_0 hp) rfl ?_
  refine go_run 3 (F' := (7, [some (.ref 134), some (.int ((I 14) - 1))], [], Wm pre post I A)) rfl ?_
  exact g_addA_7 hp  n hm
def x_addExpression_9 : Nat → (Nat → Int32) → (Nat → Nat → Int32) → Int32 → Int32 → Option xR
  | 0, _, _, _, _ => none
  | n + 1, I, A, l1, l2 => (if ib l1 200 then (if l2 < (A 7) (Int32.toNatClampNeg l1) then (some (I, A, 0)) else (if ib l2 200 then (xb (x_add I A ((A 2) (Int32.toNatClampNeg l2))) fun I1 A1 v1 => (x_addExpression_9 n I1 A1 l1 (l2 + (-1)))) else none)) else none)
theorem g_addExpression_9 {X : ie_X} {d : Nat} {pre post : ie_H} (hp : pre.length = 134) : ∀ (n : Nat) {I : Nat → Int32} {A : Nat → Nat → Int32} {l1 l2 : Int32} {I' : Nat → Int32} {A' : Nat → Nat → Int32} {r : Int32}, x_addExpression_9 n I A l1 l2 = some (I', A', r) → Go X (d + 1) 171 (9, [some (.ref 134), some (.int l1), some (.int l2)], [], Wm pre post I A) (.inl none) (Wm pre post I' A') := by
  intro n
  induction n with
  | zero => intro I A l1 l2 I' A' r hm; cases hm
  | succ n ih =>
    intro I A l1 l2 I' A' r hm
    unfold x_addExpression_9 at hm
    refine go_run 0 (F' := (9, [some (.ref 134), some (.int l1), some (.int l2)], [], Wm pre post I A)) rfl ?_
    refine go_run 2 (F' := (11, [some (.ref 134), some (.int l1), some (.int l2)], [.ref 134, .int l2], Wm pre post I A)) rfl ?_
    refine go_gf rfl (w_0 hp) rfl ?_
    refine go_run 1 (F' := (15, [some (.ref 134), some (.int l1), some (.int l2)], [.int l1, .ref 141, .int l2], Wm pre post I A)) rfl ?_
    obtain ⟨b1, hm⟩ := gd hm
    refine go_iald rfl (by decide) (w_7 hp) b1 rfl ?_
    refine go_run 0 (F' := (16, [some (.ref 134), some (.int l1), some (.int l2)], [.int ((A 7) (Int32.toNatClampNeg l1)), .int l2], Wm pre post I A)) rfl ?_
    refine go_step rfl rfl ?_
    by_cases q2 : l2 < (A 7) (Int32.toNatClampNeg l1)
    · rw [if_pos q2] at hm ⊢
      refine go_run 0 (F' := (35, [some (.ref 134), some (.int l1), some (.int l2)], [], Wm pre post I A)) rfl ?_
      refine go_run 0 (F' := (35, [some (.ref 134), some (.int l1), some (.int l2)], [], Wm pre post I A)) rfl ?_
      cases hm
      exact go_end rfl rfl
    · rw [if_neg q2] at hm ⊢
      refine go_run 0 (F' := (19, [some (.ref 134), some (.int l1), some (.int l2)], [], Wm pre post I A)) rfl ?_
      refine go_run 2 (F' := (21, [some (.ref 134), some (.int l1), some (.int l2)], [.ref 134, .ref 134], Wm pre post I A)) rfl ?_
      refine go_gf rfl (w_0 hp) rfl ?_
      refine go_run 1 (F' := (25, [some (.ref 134), some (.int l1), some (.int l2)], [.int l2, .ref 136, .ref 134], Wm pre post I A)) rfl ?_
      obtain ⟨b3, hm⟩ := gd hm
      refine go_iald rfl (by decide) (w_2 hp) b3 rfl ?_
      refine go_run 0 (F' := (26, [some (.ref 134), some (.int l1), some (.int l2)], [.int ((A 2) (Int32.toNatClampNeg l2)), .ref 134], Wm pre post I A)) rfl ?_
      obtain ⟨I1, A1, v1, e1, hm⟩ := xb_inv hm
      refine go_call (m' := 157) (v := none) (h1 := Wm pre post I1 A1) rfl (by simp only [ie_step, ie_iv, List.drop, w_0 hp]; rfl) ⟨rfl, Nat.le_of_ble_eq_true rfl⟩ (g_add (d := d) hp e1) ?_
      refine go_run 0 (F' := (29, [some (.ref 134), some (.int l1), some (.int l2)], [], Wm pre post I1 A1)) rfl ?_
      refine go_run 2 (F' := (9, [some (.ref 134), some (.int l1), some (.int (l2 + (-1)))], [], Wm pre post I1 A1)) rfl ?_
      exact ih hm
def x_addExpression (n : Nat) (I : Nat → Int32) (A : Nat → Nat → Int32) (a1 : Int32) : Option xR := (if ib a1 200 then (x_addExpression_9  n I A a1 (((A 8) (Int32.toNatClampNeg a1)) - 1)) else none)
theorem g_addExpression {X : ie_X} {d : Nat} {pre post : ie_H} (hp : pre.length = 134) {n : Nat} {I : Nat → Int32} {A : Nat → Nat → Int32} {a1 : Int32} {I' : Nat → Int32} {A' : Nat → Nat → Int32} {r : Int32} (hm : x_addExpression n I A a1 = some (I', A', r)) : Go X (d + 1) 171 (0, ie_en 171 [.ref 134, .int a1], [], Wm pre post I A) (.inl none) (Wm pre post I' A') := by
  unfold x_addExpression at hm
  refine go_run 0 (F' := (0, [some (.ref 134), some (.int a1), none], [], Wm pre post I A)) rfl ?_
  refine go_run 1 (F' := (1, [some (.ref 134), some (.int a1), none], [.ref 134], Wm pre post I A)) rfl ?_
  refine go_gf rfl (w_0 hp) rfl ?_
  refine go_run 1 (F' := (5, [some (.ref 134), some (.int a1), none], [.int a1, .ref 142], Wm pre post I A)) rfl ?_
  obtain ⟨b1, hm⟩ := gd hm
  refine go_iald rfl (by decide) (w_8 hp) b1 rfl ?_
  refine go_run 3 (F' := (9, [some (.ref 134), some (.int a1), some (.int (((A 8) (Int32.toNatClampNeg a1)) - 1))], [], Wm pre post I A)) rfl ?_
  exact g_addExpression_9 hp  n hm
def x_addChoice_30 : Nat → (Nat → Int32) → (Nat → Nat → Int32) → Int32 → Option xR
  | 0, _, _, _ => none
  | n + 1, I, A, l3 => (if l3 < 0 then (some (I, A, 0)) else (if ib l3 1000 then (xb (x_add I A ((A 32) (Int32.toNatClampNeg l3))) fun I1 A1 v1 => (x_addChoice_30 n I1 A1 (l3 + (-1)))) else none))
theorem g_addChoice_30 {X : ie_X} {d : Nat} {pre post : ie_H} (hp : pre.length = 134) : ∀ (n : Nat) {I : Nat → Int32} {A : Nat → Nat → Int32} {l3 : Int32} {u1 u2 : Option Value} {I' : Nat → Int32} {A' : Nat → Nat → Int32} {r : Int32}, x_addChoice_30 n I A l3 = some (I', A', r) → Go X (d + 3) 158 (30, [some (.ref 134), u1, u2, some (.int l3)], [], Wm pre post I A) (.inl none) (Wm pre post I' A') := by
  intro n
  induction n with
  | zero => intro I A l3 u1 u2 I' A' r hm; cases hm
  | succ n ih =>
    intro I A l3 u1 u2 I' A' r hm
    unfold x_addChoice_30 at hm
    refine go_run 0 (F' := (30, [some (.ref 134), u1, u2, some (.int l3)], [], Wm pre post I A)) rfl ?_
    refine go_run 1 (F' := (31, [some (.ref 134), u1, u2, some (.int l3)], [.int l3], Wm pre post I A)) rfl ?_
    refine go_step rfl rfl ?_
    by_cases q1 : l3 < 0
    · rw [if_pos q1] at hm ⊢
      refine go_run 0 (F' := (50, [some (.ref 134), u1, u2, some (.int l3)], [], Wm pre post I A)) rfl ?_
      refine go_run 0 (F' := (50, [some (.ref 134), u1, u2, some (.int l3)], [], Wm pre post I A)) rfl ?_
      cases hm
      exact go_end rfl rfl
    · rw [if_neg q1] at hm ⊢
      refine go_run 0 (F' := (34, [some (.ref 134), u1, u2, some (.int l3)], [], Wm pre post I A)) rfl ?_
      refine go_run 2 (F' := (36, [some (.ref 134), u1, u2, some (.int l3)], [.ref 134, .ref 134], Wm pre post I A)) rfl ?_
      refine go_gf rfl (w_0 hp) rfl ?_
      refine go_run 1 (F' := (40, [some (.ref 134), u1, u2, some (.int l3)], [.int l3, .ref 166, .ref 134], Wm pre post I A)) rfl ?_
      obtain ⟨b2, hm⟩ := gd hm
      refine go_iald rfl (by decide) (w_32 hp) b2 rfl ?_
      refine go_run 0 (F' := (41, [some (.ref 134), u1, u2, some (.int l3)], [.int ((A 32) (Int32.toNatClampNeg l3)), .ref 134], Wm pre post I A)) rfl ?_
      obtain ⟨I1, A1, v1, e1, hm⟩ := xb_inv hm
      refine go_call (m' := 157) (v := none) (h1 := Wm pre post I1 A1) rfl (by simp only [ie_step, ie_iv, List.drop, w_0 hp]; rfl) ⟨rfl, Nat.le_of_ble_eq_true rfl⟩ (g_add (d := d + 2) hp e1) ?_
      refine go_run 0 (F' := (44, [some (.ref 134), u1, u2, some (.int l3)], [], Wm pre post I1 A1)) rfl ?_
      refine go_run 2 (F' := (30, [some (.ref 134), u1, u2, some (.int (l3 + (-1)))], [], Wm pre post I1 A1)) rfl ?_
      exact ih hm
def x_addChoice (n : Nat) (I : Nat → Int32) (A : Nat → Nat → Int32) (a1 a2 : Int32) : Option xR := (xb (x_takeA n I A) fun I1 A1 v1 => (xb (x_takeB n I1 A1) fun I2 A2 v2 => (if ib a1 200 then (if a2 = (A2 4) (Int32.toNatClampNeg a1) then (xb (x_add I2 A2 125) fun I3 A3 v3 => (xb (x_addB n I3 A3) fun I4 A4 v4 => (xb (x_add I4 A4 123) fun I5 A5 v5 => (xb (x_add I5 A5 125) fun I6 A6 v6 => (xb (x_addA n I6 A6) fun I7 A7 v7 => (xb (x_add I7 A7 123) fun I8 A8 v8 => (xb (x_addExpression n I8 A8 a1) fun I9 A9 v9 => (xb (x_add I9 A9 63) fun I10 A10 v10 => (some (I10, A10, 0)))))))))) else (xb (x_join n I2 A2) fun I11 A11 v11 => (x_addChoice_30  n I11 A11 ((I11 16) - 1)))) else none)))
theorem g_addChoice {X : ie_X} {d : Nat} {pre post : ie_H} (hp : pre.length = 134) {n : Nat} {I : Nat → Int32} {A : Nat → Nat → Int32} {a1 a2 : Int32} {I' : Nat → Int32} {A' : Nat → Nat → Int32} {r : Int32} (hm : x_addChoice n I A a1 a2 = some (I', A', r)) : Go X (d + 3) 158 (0, ie_en 158 [.ref 134, .int a1, .int a2], [], Wm pre post I A) (.inl none) (Wm pre post I' A') := by
  unfold x_addChoice at hm
  refine go_run 0 (F' := (0, [some (.ref 134), some (.int a1), some (.int a2), none], [], Wm pre post I A)) rfl ?_
  refine go_run 1 (F' := (1, [some (.ref 134), some (.int a1), some (.int a2), none], [.ref 134], Wm pre post I A)) rfl ?_
  obtain ⟨I1, A1, v1, e1, hm⟩ := xb_inv hm
  refine go_call (m' := 159) (v := none) (h1 := Wm pre post I1 A1) rfl (by simp only [ie_step, ie_iv, List.drop, w_0 hp]; rfl) ⟨rfl, Nat.le_of_ble_eq_true rfl⟩ (g_takeA (d := d + 2) hp e1) ?_
  refine go_run 0 (F' := (4, [some (.ref 134), some (.int a1), some (.int a2), none], [], Wm pre post I1 A1)) rfl ?_
  refine go_run 1 (F' := (5, [some (.ref 134), some (.int a1), some (.int a2), none], [.ref 134], Wm pre post I1 A1)) rfl ?_
  obtain ⟨I2, A2, v2, e2, hm⟩ := xb_inv hm
  refine go_call (m' := 160) (v := none) (h1 := Wm pre post I2 A2) rfl (by simp only [ie_step, ie_iv, List.drop, w_0 hp]; rfl) ⟨rfl, Nat.le_of_ble_eq_true rfl⟩ (g_takeB (d := d + 2) hp e2) ?_
  refine go_run 0 (F' := (8, [some (.ref 134), some (.int a1), some (.int a2), none], [], Wm pre post I2 A2)) rfl ?_
  refine go_run 2 (F' := (10, [some (.ref 134), some (.int a1), some (.int a2), none], [.ref 134, .int a2], Wm pre post I2 A2)) rfl ?_
  refine go_gf rfl (w_0 hp) rfl ?_
  refine go_run 1 (F' := (14, [some (.ref 134), some (.int a1), some (.int a2), none], [.int a1, .ref 138, .int a2], Wm pre post I2 A2)) rfl ?_
  obtain ⟨b1, hm⟩ := gd hm
  refine go_iald rfl (by decide) (w_4 hp) b1 rfl ?_
  refine go_run 0 (F' := (15, [some (.ref 134), some (.int a1), some (.int a2), none], [.int ((A2 4) (Int32.toNatClampNeg a1)), .int a2], Wm pre post I2 A2)) rfl ?_
  refine go_step rfl rfl ?_
  by_cases q2 : a2 = (A2 4) (Int32.toNatClampNeg a1)
  · rw [if_pos q2] at hm ⊢
    refine go_run 0 (F' := (51, [some (.ref 134), some (.int a1), some (.int a2), none], [], Wm pre post I2 A2)) rfl ?_
    refine go_run 2 (F' := (54, [some (.ref 134), some (.int a1), some (.int a2), none], [.int 125, .ref 134], Wm pre post I2 A2)) rfl ?_
    obtain ⟨I3, A3, v3, e3, hm⟩ := xb_inv hm
    refine go_call (m' := 157) (v := none) (h1 := Wm pre post I3 A3) rfl (by simp only [ie_step, ie_iv, List.drop, w_0 hp]; rfl) ⟨rfl, Nat.le_of_ble_eq_true rfl⟩ (g_add (d := d + 2) hp e3) ?_
    refine go_run 0 (F' := (57, [some (.ref 134), some (.int a1), some (.int a2), none], [], Wm pre post I3 A3)) rfl ?_
    refine go_run 1 (F' := (58, [some (.ref 134), some (.int a1), some (.int a2), none], [.ref 134], Wm pre post I3 A3)) rfl ?_
    obtain ⟨I4, A4, v4, e4, hm⟩ := xb_inv hm
    refine go_call (m' := 169) (v := none) (h1 := Wm pre post I4 A4) rfl (by simp only [ie_step, ie_iv, List.drop, w_0 hp]; rfl) ⟨rfl, Nat.le_of_ble_eq_true rfl⟩ (g_addB (d := d + 1) hp e4) ?_
    refine go_run 0 (F' := (61, [some (.ref 134), some (.int a1), some (.int a2), none], [], Wm pre post I4 A4)) rfl ?_
    refine go_run 2 (F' := (64, [some (.ref 134), some (.int a1), some (.int a2), none], [.int 123, .ref 134], Wm pre post I4 A4)) rfl ?_
    obtain ⟨I5, A5, v5, e5, hm⟩ := xb_inv hm
    refine go_call (m' := 157) (v := none) (h1 := Wm pre post I5 A5) rfl (by simp only [ie_step, ie_iv, List.drop, w_0 hp]; rfl) ⟨rfl, Nat.le_of_ble_eq_true rfl⟩ (g_add (d := d + 2) hp e5) ?_
    refine go_run 0 (F' := (67, [some (.ref 134), some (.int a1), some (.int a2), none], [], Wm pre post I5 A5)) rfl ?_
    refine go_run 2 (F' := (70, [some (.ref 134), some (.int a1), some (.int a2), none], [.int 125, .ref 134], Wm pre post I5 A5)) rfl ?_
    obtain ⟨I6, A6, v6, e6, hm⟩ := xb_inv hm
    refine go_call (m' := 157) (v := none) (h1 := Wm pre post I6 A6) rfl (by simp only [ie_step, ie_iv, List.drop, w_0 hp]; rfl) ⟨rfl, Nat.le_of_ble_eq_true rfl⟩ (g_add (d := d + 2) hp e6) ?_
    refine go_run 0 (F' := (73, [some (.ref 134), some (.int a1), some (.int a2), none], [], Wm pre post I6 A6)) rfl ?_
    refine go_run 1 (F' := (74, [some (.ref 134), some (.int a1), some (.int a2), none], [.ref 134], Wm pre post I6 A6)) rfl ?_
    obtain ⟨I7, A7, v7, e7, hm⟩ := xb_inv hm
    refine go_call (m' := 170) (v := none) (h1 := Wm pre post I7 A7) rfl (by simp only [ie_step, ie_iv, List.drop, w_0 hp]; rfl) ⟨rfl, Nat.le_of_ble_eq_true rfl⟩ (g_addA (d := d + 1) hp e7) ?_
    refine go_run 0 (F' := (77, [some (.ref 134), some (.int a1), some (.int a2), none], [], Wm pre post I7 A7)) rfl ?_
    refine go_run 2 (F' := (80, [some (.ref 134), some (.int a1), some (.int a2), none], [.int 123, .ref 134], Wm pre post I7 A7)) rfl ?_
    obtain ⟨I8, A8, v8, e8, hm⟩ := xb_inv hm
    refine go_call (m' := 157) (v := none) (h1 := Wm pre post I8 A8) rfl (by simp only [ie_step, ie_iv, List.drop, w_0 hp]; rfl) ⟨rfl, Nat.le_of_ble_eq_true rfl⟩ (g_add (d := d + 2) hp e8) ?_
    refine go_run 0 (F' := (83, [some (.ref 134), some (.int a1), some (.int a2), none], [], Wm pre post I8 A8)) rfl ?_
    refine go_run 2 (F' := (85, [some (.ref 134), some (.int a1), some (.int a2), none], [.int a1, .ref 134], Wm pre post I8 A8)) rfl ?_
    obtain ⟨I9, A9, v9, e9, hm⟩ := xb_inv hm
    refine go_call (m' := 171) (v := none) (h1 := Wm pre post I9 A9) rfl (by simp only [ie_step, ie_iv, List.drop, w_0 hp]; rfl) ⟨rfl, Nat.le_of_ble_eq_true rfl⟩ (g_addExpression (d := d + 1) hp e9) ?_
    refine go_run 0 (F' := (88, [some (.ref 134), some (.int a1), some (.int a2), none], [], Wm pre post I9 A9)) rfl ?_
    refine go_run 2 (F' := (91, [some (.ref 134), some (.int a1), some (.int a2), none], [.int 63, .ref 134], Wm pre post I9 A9)) rfl ?_
    obtain ⟨I10, A10, v10, e10, hm⟩ := xb_inv hm
    refine go_call (m' := 157) (v := none) (h1 := Wm pre post I10 A10) rfl (by simp only [ie_step, ie_iv, List.drop, w_0 hp]; rfl) ⟨rfl, Nat.le_of_ble_eq_true rfl⟩ (g_add (d := d + 2) hp e10) ?_
    refine go_run 0 (F' := (94, [some (.ref 134), some (.int a1), some (.int a2), none], [], Wm pre post I10 A10)) rfl ?_
    refine go_run 0 (F' := (94, [some (.ref 134), some (.int a1), some (.int a2), none], [], Wm pre post I10 A10)) rfl ?_
    cases hm
    exact go_end rfl rfl
  · rw [if_neg q2] at hm ⊢
    refine go_run 0 (F' := (18, [some (.ref 134), some (.int a1), some (.int a2), none], [], Wm pre post I2 A2)) rfl ?_
    refine go_run 1 (F' := (19, [some (.ref 134), some (.int a1), some (.int a2), none], [.ref 134], Wm pre post I2 A2)) rfl ?_
    obtain ⟨I11, A11, v11, e11, hm⟩ := xb_inv hm
    refine go_call (m' := 161) (v := some (.int v11)) (h1 := Wm pre post I11 A11) rfl (by simp only [ie_step, ie_iv, List.drop, w_0 hp]; rfl) ⟨rfl, Nat.le_of_ble_eq_true rfl⟩ (g_join (d := d) hp e11) ?_
    refine go_run 0 (F' := (22, [some (.ref 134), some (.int a1), some (.int a2), none], [.int v11], Wm pre post I11 A11)) rfl ?_
    refine go_run 2 (F' := (24, [some (.ref 134), some (.int a1), some (.int a2), none], [.ref 134], Wm pre post I11 A11)) rfl ?_
    refine go_gf rfl (w_0 hp) rfl ?_
    refine go_run 3 (F' := (30, [some (.ref 134), some (.int a1), some (.int a2), some (.int ((I11 16) - 1))], [], Wm pre post I11 A11)) rfl ?_
    exact g_addChoice_30 hp  n hm
