def yA_ledFrom_2 (th : Nat) : Nat → hS → Int32 → Option (hS × Int32)
  | 0, _, _ => none
  | n + 1, S, l2 => (if 6 ≤ l2 then (some (S, (-1))) else (if ztg S th = 2 then (if y_contains (zI S 4 th) l2 = 0 then (yA_ledFrom_2 th n S (l2 + 1)) else (some (S, l2))) else none))
theorem hyA_ledFrom_2 {X : ie_X} {d th : Nat} : ∀ (n : Nat) {S : hS} {l2 : Int32} {u1 : Option Value} {S' : hS} {r : Int32}, yA_ledFrom_2 th n S l2 = some (S', r) → Go X (d + 1) 108 (2, [some (.ref th), u1, some (.int l2)], [], zhp S) (.inl (some (.int r))) (zhp S') := by
  intro n
  induction n with
  | zero => intro S l2 u1 S' r hm; cases hm
  | succ n ih =>
    intro S l2 u1 S' r hm
    unfold yA_ledFrom_2 at hm
    refine go_run 0 (F' := (2, [some (.ref th), u1, some (.int l2)], [], zhp S)) rfl ?_
    refine go_run 2 (F' := (5, [some (.ref th), u1, some (.int l2)], [.int 6, .int l2], zhp S)) rfl ?_
    refine go_step rfl rfl ?_
    by_cases q1 : 6 ≤ l2
    · rw [if_pos q1] at hm ⊢
      refine go_run 0 (F' := (27, [some (.ref th), u1, some (.int l2)], [], zhp S)) rfl ?_
      refine go_run 1 (F' := (28, [some (.ref th), u1, some (.int l2)], [.int (-1)], zhp S)) rfl ?_
      cases hm
      exact go_end rfl rfl
    · rw [if_neg q1] at hm ⊢
      refine go_run 0 (F' := (8, [some (.ref th), u1, some (.int l2)], [], zhp S)) rfl ?_
      refine go_run 1 (F' := (9, [some (.ref th), u1, some (.int l2)], [.ref th], zhp S)) rfl ?_
      replace hm := zgd hm
      obtain ⟨b2, hm⟩ := hm
      refine go_hg (v := .int (zI S 4 th)) rfl b2 (by decide) rfl ?_
      refine go_run 1 (F' := (13, [some (.ref th), u1, some (.int l2)], [.int l2, .int (zI S 4 th)], zhp S)) rfl ?_
      refine go_call (m' := 49) (as := [.int (zI S 4 th), .int l2]) (rest := []) (v := some (.int (y_contains (zI S 4 th) l2))) (h1 := zhp S) rfl rfl ⟨rfl, Nat.le_of_ble_eq_true rfl⟩ (hy_contains _ _) ?_
      refine go_run 0 (F' := (16, [some (.ref th), u1, some (.int l2)], [.int (y_contains (zI S 4 th) l2)], zhp S)) rfl ?_
      refine go_run 0 (F' := (16, [some (.ref th), u1, some (.int l2)], [.int (y_contains (zI S 4 th) l2)], zhp S)) rfl ?_
      refine go_step rfl rfl ?_
      by_cases q3 : y_contains (zI S 4 th) l2 = 0
      · rw [if_pos q3] at hm ⊢
        refine go_run 0 (F' := (21, [some (.ref th), u1, some (.int l2)], [], zhp S)) rfl ?_
        refine go_run 2 (F' := (2, [some (.ref th), u1, some (.int (l2 + 1))], [], zhp S)) rfl ?_
        exact ih hm
      · rw [if_neg q3] at hm ⊢
        refine go_run 0 (F' := (19, [some (.ref th), u1, some (.int l2)], [], zhp S)) rfl ?_
        refine go_run 1 (F' := (20, [some (.ref th), u1, some (.int l2)], [.int l2], zhp S)) rfl ?_
        cases hm
        exact go_end rfl rfl
theorem ehyA_ledFrom_2 {th : Nat} : ∀ (n : Nat) {S : hS} {l2 : Int32} {S' : hS} {r : Int32}, yA_ledFrom_2 th n S l2 = some (S', r) → Ex S S' := by
  intro n
  induction n with
  | zero => intro S l2 S' r hm; cases hm
  | succ n ih =>
    intro S l2 S' r hm
    unfold yA_ledFrom_2 at hm
    have hx : Ex S S := Ex_r
    by_cases q1 : 6 ≤ l2
    · rw [if_pos q1] at hm
      cases hm
      exact hx
    · rw [if_neg q1] at hm
      replace hm := zgd hm
      obtain ⟨b2, hm⟩ := hm
      by_cases q3 : y_contains (zI S 4 th) l2 = 0
      · rw [if_pos q3] at hm
        refine Ex_t ?_ (ih hm)
        exact hx
      · rw [if_neg q3] at hm
        cases hm
        exact hx
def yA_ledFrom (n : Nat) (S : hS) (th : Nat) (x1 : Int32) : Option (hS × Int32) := (yA_ledFrom_2 th  n S x1)
theorem hyA_ledFrom {X : ie_X} {d th : Nat} {n : Nat} {S : hS} {x1 : Int32} {S' : hS} {r : Int32} (hm : yA_ledFrom n S th x1 = some (S', r)) : Go X (d + 1) 108 (0, ie_en 108 [.ref th, .int x1], [], zhp S) (.inl (some (.int r))) (zhp S') := by
  unfold yA_ledFrom at hm
  refine go_run 0 (F' := (0, [some (.ref th), some (.int x1), none], [], zhp S)) rfl ?_
  refine go_run 2 (F' := (2, [some (.ref th), some (.int x1), some (.int x1)], [], zhp S)) rfl ?_
  exact hyA_ledFrom_2  n hm
theorem ehyA_ledFrom {th : Nat} {n : Nat} {S : hS} {x1 : Int32} {S' : hS} {r : Int32} (hm : yA_ledFrom n S th x1 = some (S', r)) : Ex S S' := by
  unfold yA_ledFrom at hm
  have hx : Ex S S := Ex_r
  refine Ex_t ?_ (ehyA_ledFrom_2  n hm)
  exact hx
def yT_goRound_85 (th : Nat) (n : Nat) (S : hS) (p2 : Option Nat) (p3 : Option Nat) : Option (hS × Int32) := (zob p3 fun a1 => (if ztg S a1 = 5 then (if zI S 5 a1 = (-1) then (if zI S 4 a1 = 0 then (zob p2 fun a2 => (if ztg S a2 = 2 then (zlb (zR S 9 a2) fun o3 => (some (szR (szI S 3 a1 0) 2 a1 o3, 1))) else none)) else (zob p2 fun a4 => (if ztg S a4 = 2 then (zcP (yA_enter (szI S 3 a1 0) a4 0) fun S5 o5 => (if ztg S5 a1 = 5 then (some (szR S5 2 a1 o5, 1)) else none)) else none))) else (some (S, 1))) else none))
theorem hyT_goRound_85 {X : ie_X} {d th : Nat} {n : Nat} {S : hS} {p2 : Option Nat} {p3 : Option Nat} {u1 : Option Value} {S' : hS} {r : Int32} (hm : yT_goRound_85 th n S p2 p3 = some (S', r)) : Go X (d + 4) 107 (85, [some (.ref th), u1, some (va_rf p2), some (va_rf p3)], [], zhp S) (.inl (some (.int r))) (zhp S') := by
  unfold yT_goRound_85 at hm
  refine go_run 0 (F' := (85, [some (.ref th), u1, some (va_rf p2), some (va_rf p3)], [], zhp S)) rfl ?_
  refine go_run 0 (F' := (85, [some (.ref th), u1, some (va_rf p2), some (va_rf p3)], [], zhp S)) rfl ?_
  refine go_al rfl rfl ?_
  refine go_run 0 (F' := (86, [some (.ref th), u1, some (va_rf p2), some (va_rf p3)], [va_rf p3], zhp S)) rfl ?_
  replace hm := zob_inv hm
  obtain ⟨a1, rfl, hm⟩ := hm
  replace hm := zgd hm
  obtain ⟨b1, hm⟩ := hm
  refine go_hg (v := .int (zI S 5 a1)) rfl b1 (by decide) rfl ?_
  refine go_run 1 (F' := (90, [some (.ref th), u1, some (va_rf p2), some (.ref a1)], [.int (-1), .int (zI S 5 a1)], zhp S)) rfl ?_
  refine go_step rfl rfl ?_
  by_cases q2 : zI S 5 a1 = (-1)
  · rw [if_pos q2] at hm ⊢
    refine go_run 0 (F' := (93, [some (.ref th), u1, some (va_rf p2), some (.ref a1)], [], zhp S)) rfl ?_
    refine go_run 2 (F' := (95, [some (.ref th), u1, some (va_rf p2), some (.ref a1)], [.int 0, .ref a1], zhp S)) rfl ?_
    refine go_hpI rfl b1 (by decide) rfl (Nat.le_of_ble_eq_true rfl) fs_4_3 ?_
    refine go_run 2 (F' := (100, [some (.ref th), u1, some (va_rf p2), some (.ref a1)], [.ref a1, .ref a1], zhp (szI S 3 a1 0))) rfl ?_
    refine go_hg (v := .int (zI S 4 a1)) rfl b1 (by decide) rfl ?_
    refine go_run 0 (F' := (103, [some (.ref th), u1, some (va_rf p2), some (.ref a1)], [.int (zI S 4 a1), .ref a1], zhp (szI S 3 a1 0))) rfl ?_
    refine go_step rfl rfl ?_
    by_cases q3 : zI S 4 a1 = 0
    · rw [if_pos q3] at hm ⊢
      refine go_run 0 (F' := (114, [some (.ref th), u1, some (va_rf p2), some (.ref a1)], [.ref a1], zhp (szI S 3 a1 0))) rfl ?_
      refine go_run 0 (F' := (114, [some (.ref th), u1, some (va_rf p2), some (.ref a1)], [.ref a1], zhp (szI S 3 a1 0))) rfl ?_
      refine go_al rfl rfl ?_
      refine go_run 0 (F' := (115, [some (.ref th), u1, some (va_rf p2), some (.ref a1)], [va_rf p2, .ref a1], zhp (szI S 3 a1 0))) rfl ?_
      replace hm := zob_inv hm
      obtain ⟨a2, rfl, hm⟩ := hm
      replace hm := zgd hm
      obtain ⟨b4, hm⟩ := hm
      replace hm := zlb_inv hm
      obtain ⟨o3, eo3, hm⟩ := hm
      refine go_hg (v := va_rf o3) rfl b4 (by decide) (by rw [← eo3]; rfl) ?_
      refine go_run 0 (F' := (118, [some (.ref th), u1, some (.ref a2), some (.ref a1)], [va_rf o3, .ref a1], zhp (szI S 3 a1 0))) rfl ?_
      refine go_hpR (v := o3) rfl b1 (by decide) (by cases o3 <;> rfl) (Nat.le_of_ble_eq_true rfl) fs_4_2 ?_
      refine go_run 1 (F' := (122, [some (.ref th), u1, some (.ref a2), some (.ref a1)], [.int 1], zhp (szR (szI S 3 a1 0) 2 a1 o3))) rfl ?_
      cases hm
      exact go_end rfl rfl
    · rw [if_neg q3] at hm ⊢
      refine go_run 0 (F' := (106, [some (.ref th), u1, some (va_rf p2), some (.ref a1)], [.ref a1], zhp (szI S 3 a1 0))) rfl ?_
      refine go_run 0 (F' := (106, [some (.ref th), u1, some (va_rf p2), some (.ref a1)], [.ref a1], zhp (szI S 3 a1 0))) rfl ?_
      refine go_al rfl rfl ?_
      refine go_run 1 (F' := (108, [some (.ref th), u1, some (va_rf p2), some (.ref a1)], [.int 0, va_rf p2, .ref a1], zhp (szI S 3 a1 0))) rfl ?_
      replace hm := zob_inv hm
      obtain ⟨a4, rfl, hm⟩ := hm
      refine go_run 0 (F' := (108, [some (.ref th), u1, some (.ref a4), some (.ref a1)], [.int 0, .ref a4, .ref a1], zhp (szI S 3 a1 0))) rfl ?_
      replace hm := zgd hm
      obtain ⟨b5, hm⟩ := hm
      replace hm := zcP_inv hm
      obtain ⟨S5, o5, e5, hm⟩ := hm
      have k5 := hyA_enter (X := X) (d := d + 2) e5
      refine go_call (m' := 106) (as := [.ref a4, .int 0]) (rest := [.ref a1]) (v := some (va_rf o5)) (h1 := zhp S5) rfl (by simp only [ie_step, ie_iv, List.drop, zhp_obj (S := szI S 3 a1 0) b5 (by decide)]; rfl) ⟨rfl, Nat.le_of_ble_eq_true rfl⟩ k5 ?_
      refine go_run 0 (F' := (111, [some (.ref th), u1, some (.ref a4), some (.ref a1)], [va_rf o5, .ref a1], zhp S5)) rfl ?_
      refine go_run 1 (F' := (118, [some (.ref th), u1, some (.ref a4), some (.ref a1)], [va_rf o5, .ref a1], zhp S5)) rfl ?_
      replace hm := zgd hm
      obtain ⟨b6, hm⟩ := hm
      refine go_hpR (v := o5) rfl b6 (by decide) (by cases o5 <;> rfl) (Nat.le_of_ble_eq_true rfl) fs_4_2 ?_
      refine go_run 1 (F' := (122, [some (.ref th), u1, some (.ref a4), some (.ref a1)], [.int 1], zhp (szR S5 2 a1 o5))) rfl ?_
      cases hm
      exact go_end rfl rfl
  · rw [if_neg q2] at hm ⊢
    refine go_run 0 (F' := (121, [some (.ref th), u1, some (va_rf p2), some (.ref a1)], [], zhp S)) rfl ?_
    refine go_run 1 (F' := (122, [some (.ref th), u1, some (va_rf p2), some (.ref a1)], [.int 1], zhp S)) rfl ?_
    cases hm
    exact go_end rfl rfl
theorem ehyT_goRound_85 {th : Nat} {n : Nat} {S : hS} {p2 : Option Nat} {p3 : Option Nat} {S' : hS} {r : Int32} (hm : yT_goRound_85 th n S p2 p3 = some (S', r)) : Ex S S' := by
  unfold yT_goRound_85 at hm
  have hx : Ex S S := Ex_r
  replace hm := zob_inv hm
  obtain ⟨a1, rfl, hm⟩ := hm
  replace hm := zgd hm
  obtain ⟨b1, hm⟩ := hm
  by_cases q2 : zI S 5 a1 = (-1)
  · rw [if_pos q2] at hm
    by_cases q3 : zI S 4 a1 = 0
    · rw [if_pos q3] at hm
      replace hm := zob_inv hm
      obtain ⟨a2, rfl, hm⟩ := hm
      replace hm := zgd hm
      obtain ⟨b4, hm⟩ := hm
      replace hm := zlb_inv hm
      obtain ⟨o3, eo3, hm⟩ := hm
      cases hm
      exact hx
    · rw [if_neg q3] at hm
      replace hm := zob_inv hm
      obtain ⟨a4, rfl, hm⟩ := hm
      replace hm := zgd hm
      obtain ⟨b5, hm⟩ := hm
      replace hm := zcP_inv hm
      obtain ⟨S5, o5, e5, hm⟩ := hm
      have hx := Ex_t (T := szI S 3 a1 0) hx (ehyA_enter e5)
      replace hm := zgd hm
      obtain ⟨b6, hm⟩ := hm
      cases hm
      exact hx
  · rw [if_neg q2] at hm
    cases hm
    exact hx
def yT_goRound (n : Nat) (S : hS) (th : Nat) (x1 : Int32) (p2 : Option Nat) : Option (hS × Int32) := (if ztg S th = 9 then (zlb (zR S 0 th) fun o1 => (zob o1 fun a2 => (if zar S a2 then (if ib x1 (zLen S a2) then (zlb ((zAR S a2) (Int32.toNatClampNeg x1)) fun o3 => (zob o3 fun a4 => (if ztg S a4 = 5 then (if zI S 3 a4 = 0 then (zcP (yT_valueFor n (szI S 3 a4 1) th x1 p2) fun S5 v5 => (if v5 = 0 then (if ztg S5 a4 = 5 then (zob p2 fun a6 => (if ztg S5 a6 = 2 then (zcP (yA_ledFrom n (szI S5 4 a4 0) a6 0) fun S7 v7 => (if ztg S7 a4 = 5 then (yT_goRound_85 th  n (szI S7 5 a4 v7) (some a6) (some a4)) else none)) else none)) else none) else (if ztg S5 a4 = 5 then (zob p2 fun a8 => (if ztg S5 a8 = 2 then (zcP (yA_ledFrom n (szI S5 4 a4 1) a8 0) fun S9 v9 => (if ztg S9 a4 = 5 then (yT_goRound_85 th  n (szI S9 5 a4 v9) (some a8) (some a4)) else none)) else none)) else none))) else (zcP (yT_enqueue S th x1 (zI S 5 a4) (zI S 4 a4) 1) fun S10 v10 => (if v10 = 0 then (some (S10, 0)) else (if ztg S10 a4 = 5 then (zob p2 fun a11 => (if ztg S10 a11 = 2 then (zcP (yA_ledFrom n S10 a11 ((zI S10 5 a4) + 1)) fun S12 v12 => (if ztg S12 a4 = 5 then (yT_goRound_85 th  n (szI S12 5 a4 v12) (some a11) (some a4)) else none)) else none)) else none)))) else none))) else none) else none))) else none)
theorem hyT_goRound {X : ie_X} {d th : Nat} {n : Nat} {S : hS} {x1 : Int32} {p2 : Option Nat} {S' : hS} {r : Int32} (hm : yT_goRound n S th x1 p2 = some (S', r)) : Go X (d + 4) 107 (0, ie_en 107 [.ref th, .int x1, va_rf p2], [], zhp S) (.inl (some (.int r))) (zhp S') := by
  unfold yT_goRound at hm
  refine go_run 0 (F' := (0, [some (.ref th), some (.int x1), some (va_rf p2), none], [], zhp S)) (by cases p2 <;> rfl) ?_
  refine go_run 1 (F' := (1, [some (.ref th), some (.int x1), some (va_rf p2), none], [.ref th], zhp S)) rfl ?_
  replace hm := zgd hm
  obtain ⟨b1, hm⟩ := hm
  replace hm := zlb_inv hm
  obtain ⟨o1, eo1, hm⟩ := hm
  refine go_hg (v := va_rf o1) rfl b1 (by decide) (by rw [← eo1]; rfl) ?_
  refine go_run 1 (F' := (5, [some (.ref th), some (.int x1), some (va_rf p2), none], [.int x1, va_rf o1], zhp S)) rfl ?_
  replace hm := zob_inv hm
  obtain ⟨a2, rfl, hm⟩ := hm
  replace hm := zgd hm
  obtain ⟨b2, hm⟩ := hm
  replace hm := zgd hm
  obtain ⟨b3, hm⟩ := hm
  replace hm := zlb_inv hm
  obtain ⟨o3, eo3, hm⟩ := hm
  refine go_haald rfl b2 b3 rfl eo3 ?_
  refine go_run 0 (F' := (6, [some (.ref th), some (.int x1), some (va_rf p2), none], [va_rf o3], zhp S)) rfl ?_
  refine go_as rfl ?_
  refine go_run 0 (F' := (7, [some (.ref th), some (.int x1), some (va_rf p2), some (va_rf o3)], [], zhp S)) rfl ?_
  refine go_al rfl rfl ?_
  refine go_run 0 (F' := (8, [some (.ref th), some (.int x1), some (va_rf p2), some (va_rf o3)], [va_rf o3], zhp S)) rfl ?_
  replace hm := zob_inv hm
  obtain ⟨a4, rfl, hm⟩ := hm
  replace hm := zgd hm
  obtain ⟨b4, hm⟩ := hm
  refine go_hg (v := .int (zI S 3 a4)) rfl b4 (by decide) rfl ?_
  refine go_run 0 (F' := (11, [some (.ref th), some (.int x1), some (va_rf p2), some (.ref a4)], [.int (zI S 3 a4)], zhp S)) rfl ?_
  refine go_step rfl rfl ?_
  by_cases q5 : zI S 3 a4 = 0
  · rw [if_pos q5] at hm ⊢
    refine go_run 0 (F' := (14, [some (.ref th), some (.int x1), some (va_rf p2), some (.ref a4)], [], zhp S)) rfl ?_
    refine go_run 2 (F' := (16, [some (.ref th), some (.int x1), some (va_rf p2), some (.ref a4)], [.int 1, .ref a4], zhp S)) rfl ?_
    refine go_hpI rfl b4 (by decide) rfl (Nat.le_of_ble_eq_true rfl) fs_4_3 ?_
    refine go_run 3 (F' := (22, [some (.ref th), some (.int x1), some (va_rf p2), some (.ref a4)], [.int x1, .ref th, .ref a4], zhp (szI S 3 a4 1))) rfl ?_
    refine go_al rfl rfl ?_
    refine go_run 0 (F' := (23, [some (.ref th), some (.int x1), some (va_rf p2), some (.ref a4)], [va_rf p2, .int x1, .ref th, .ref a4], zhp (szI S 3 a4 1))) rfl ?_
    replace hm := zcP_inv hm
    obtain ⟨S5, v5, e5, hm⟩ := hm
    have k5 := hyT_valueFor (X := X) (d := d) e5
    refine go_call (m' := 97) (as := [.ref th, .int x1, va_rf p2]) (rest := [.ref a4]) (v := some (.int v5)) (h1 := zhp S5) rfl (by simp only [ie_step, ie_iv, List.drop, zhp_obj (S := szI S 3 a4 1) b1 (by decide)]; rfl) ⟨by cases p2 <;> rfl, by cases p2 <;> exact Nat.le_of_ble_eq_true rfl⟩ k5 ?_
    refine go_run 0 (F' := (26, [some (.ref th), some (.int x1), some (va_rf p2), some (.ref a4)], [.int v5, .ref a4], zhp S5)) rfl ?_
    refine go_run 0 (F' := (26, [some (.ref th), some (.int x1), some (va_rf p2), some (.ref a4)], [.int v5, .ref a4], zhp S5)) rfl ?_
    refine go_step rfl rfl ?_
    by_cases q6 : v5 = 0
    · rw [if_pos q6] at hm ⊢
      refine go_run 0 (F' := (33, [some (.ref th), some (.int x1), some (va_rf p2), some (.ref a4)], [.ref a4], zhp S5)) rfl ?_
      refine go_run 1 (F' := (34, [some (.ref th), some (.int x1), some (va_rf p2), some (.ref a4)], [.int 0, .ref a4], zhp S5)) rfl ?_
      replace hm := zgd hm
      obtain ⟨b7, hm⟩ := hm
      refine go_hpI rfl b7 (by decide) rfl (Nat.le_of_ble_eq_true rfl) fs_4_4 ?_
      refine go_run 1 (F' := (38, [some (.ref th), some (.int x1), some (va_rf p2), some (.ref a4)], [.ref a4], zhp (szI S5 4 a4 0))) rfl ?_
      refine go_al rfl rfl ?_
      refine go_run 1 (F' := (40, [some (.ref th), some (.int x1), some (va_rf p2), some (.ref a4)], [.int 0, va_rf p2, .ref a4], zhp (szI S5 4 a4 0))) rfl ?_
      replace hm := zob_inv hm
      obtain ⟨a6, rfl, hm⟩ := hm
      refine go_run 0 (F' := (40, [some (.ref th), some (.int x1), some (.ref a6), some (.ref a4)], [.int 0, .ref a6, .ref a4], zhp (szI S5 4 a4 0))) rfl ?_
      replace hm := zgd hm
      obtain ⟨b8, hm⟩ := hm
      replace hm := zcP_inv hm
      obtain ⟨S7, v7, e7, hm⟩ := hm
      have k7 := hyA_ledFrom (X := X) (d := d + 2) e7
      refine go_call (m' := 108) (as := [.ref a6, .int 0]) (rest := [.ref a4]) (v := some (.int v7)) (h1 := zhp S7) rfl (by simp only [ie_step, ie_iv, List.drop, zhp_obj (S := szI S5 4 a4 0) b8 (by decide)]; rfl) ⟨rfl, Nat.le_of_ble_eq_true rfl⟩ k7 ?_
      refine go_run 0 (F' := (43, [some (.ref th), some (.int x1), some (.ref a6), some (.ref a4)], [.int v7, .ref a4], zhp S7)) rfl ?_
      refine go_run 0 (F' := (43, [some (.ref th), some (.int x1), some (.ref a6), some (.ref a4)], [.int v7, .ref a4], zhp S7)) rfl ?_
      replace hm := zgd hm
      obtain ⟨b9, hm⟩ := hm
      refine go_hpI rfl b9 (by decide) rfl (Nat.le_of_ble_eq_true rfl) fs_4_5 ?_
      refine go_run 1 (F' := (85, [some (.ref th), some (.int x1), some (va_rf (some a6)), some (va_rf (some a4))], [], zhp (szI S7 5 a4 v7))) rfl ?_
      exact hyT_goRound_85  hm
    · rw [if_neg q6] at hm ⊢
      refine go_run 0 (F' := (29, [some (.ref th), some (.int x1), some (va_rf p2), some (.ref a4)], [.ref a4], zhp S5)) rfl ?_
      refine go_run 2 (F' := (34, [some (.ref th), some (.int x1), some (va_rf p2), some (.ref a4)], [.int 1, .ref a4], zhp S5)) rfl ?_
      replace hm := zgd hm
      obtain ⟨b10, hm⟩ := hm
      refine go_hpI rfl b10 (by decide) rfl (Nat.le_of_ble_eq_true rfl) fs_4_4 ?_
      refine go_run 1 (F' := (38, [some (.ref th), some (.int x1), some (va_rf p2), some (.ref a4)], [.ref a4], zhp (szI S5 4 a4 1))) rfl ?_
      refine go_al rfl rfl ?_
      refine go_run 1 (F' := (40, [some (.ref th), some (.int x1), some (va_rf p2), some (.ref a4)], [.int 0, va_rf p2, .ref a4], zhp (szI S5 4 a4 1))) rfl ?_
      replace hm := zob_inv hm
      obtain ⟨a8, rfl, hm⟩ := hm
      refine go_run 0 (F' := (40, [some (.ref th), some (.int x1), some (.ref a8), some (.ref a4)], [.int 0, .ref a8, .ref a4], zhp (szI S5 4 a4 1))) rfl ?_
      replace hm := zgd hm
      obtain ⟨b11, hm⟩ := hm
      replace hm := zcP_inv hm
      obtain ⟨S9, v9, e9, hm⟩ := hm
      have k9 := hyA_ledFrom (X := X) (d := d + 2) e9
      refine go_call (m' := 108) (as := [.ref a8, .int 0]) (rest := [.ref a4]) (v := some (.int v9)) (h1 := zhp S9) rfl (by simp only [ie_step, ie_iv, List.drop, zhp_obj (S := szI S5 4 a4 1) b11 (by decide)]; rfl) ⟨rfl, Nat.le_of_ble_eq_true rfl⟩ k9 ?_
      refine go_run 0 (F' := (43, [some (.ref th), some (.int x1), some (.ref a8), some (.ref a4)], [.int v9, .ref a4], zhp S9)) rfl ?_
      refine go_run 0 (F' := (43, [some (.ref th), some (.int x1), some (.ref a8), some (.ref a4)], [.int v9, .ref a4], zhp S9)) rfl ?_
      replace hm := zgd hm
      obtain ⟨b12, hm⟩ := hm
      refine go_hpI rfl b12 (by decide) rfl (Nat.le_of_ble_eq_true rfl) fs_4_5 ?_
      refine go_run 1 (F' := (85, [some (.ref th), some (.int x1), some (va_rf (some a8)), some (va_rf (some a4))], [], zhp (szI S9 5 a4 v9))) rfl ?_
      exact hyT_goRound_85  hm
  · rw [if_neg q5] at hm ⊢
    refine go_run 0 (F' := (49, [some (.ref th), some (.int x1), some (va_rf p2), some (.ref a4)], [], zhp S)) rfl ?_
    refine go_run 3 (F' := (52, [some (.ref th), some (.int x1), some (va_rf p2), some (.ref a4)], [.ref a4, .int x1, .ref th], zhp S)) rfl ?_
    refine go_hg (v := .int (zI S 5 a4)) rfl b4 (by decide) rfl ?_
    refine go_run 1 (F' := (56, [some (.ref th), some (.int x1), some (va_rf p2), some (.ref a4)], [.ref a4, .int (zI S 5 a4), .int x1, .ref th], zhp S)) rfl ?_
    refine go_hg (v := .int (zI S 4 a4)) rfl b4 (by decide) rfl ?_
    refine go_run 1 (F' := (60, [some (.ref th), some (.int x1), some (va_rf p2), some (.ref a4)], [.int 1, .int (zI S 4 a4), .int (zI S 5 a4), .int x1, .ref th], zhp S)) rfl ?_
    replace hm := zcP_inv hm
    obtain ⟨S10, v10, e10, hm⟩ := hm
    have k10 := hyT_enqueue (X := X) (d := d + 2) e10
    refine go_call (m' := 103) (as := [.ref th, .int x1, .int (zI S 5 a4), .int (zI S 4 a4), .int 1]) (rest := []) (v := some (.int v10)) (h1 := zhp S10) rfl (by simp only [ie_step, ie_iv, List.drop, zhp_obj (S := S) b1 (by decide)]; rfl) ⟨rfl, Nat.le_of_ble_eq_true rfl⟩ k10 ?_
    refine go_run 0 (F' := (63, [some (.ref th), some (.int x1), some (va_rf p2), some (.ref a4)], [.int v10], zhp S10)) rfl ?_
    refine go_run 0 (F' := (63, [some (.ref th), some (.int x1), some (va_rf p2), some (.ref a4)], [.int v10], zhp S10)) rfl ?_
    refine go_step rfl rfl ?_
    by_cases q13 : v10 = 0
    · rw [if_pos q13] at hm ⊢
      refine go_run 0 (F' := (83, [some (.ref th), some (.int x1), some (va_rf p2), some (.ref a4)], [], zhp S10)) rfl ?_
      refine go_run 1 (F' := (84, [some (.ref th), some (.int x1), some (va_rf p2), some (.ref a4)], [.int 0], zhp S10)) rfl ?_
      cases hm
      exact go_end rfl rfl
    · rw [if_neg q13] at hm ⊢
      refine go_run 0 (F' := (66, [some (.ref th), some (.int x1), some (va_rf p2), some (.ref a4)], [], zhp S10)) rfl ?_
      refine go_run 1 (F' := (67, [some (.ref th), some (.int x1), some (va_rf p2), some (.ref a4)], [.ref a4], zhp S10)) rfl ?_
      refine go_al rfl rfl ?_
      refine go_run 1 (F' := (69, [some (.ref th), some (.int x1), some (va_rf p2), some (.ref a4)], [.ref a4, va_rf p2, .ref a4], zhp S10)) rfl ?_
      replace hm := zgd hm
      obtain ⟨b14, hm⟩ := hm
      refine go_hg (v := .int (zI S10 5 a4)) rfl b14 (by decide) rfl ?_
      refine go_run 2 (F' := (74, [some (.ref th), some (.int x1), some (va_rf p2), some (.ref a4)], [.int ((zI S10 5 a4) + 1), va_rf p2, .ref a4], zhp S10)) rfl ?_
      replace hm := zob_inv hm
      obtain ⟨a11, rfl, hm⟩ := hm
      refine go_run 0 (F' := (74, [some (.ref th), some (.int x1), some (.ref a11), some (.ref a4)], [.int ((zI S10 5 a4) + 1), .ref a11, .ref a4], zhp S10)) rfl ?_
      replace hm := zgd hm
      obtain ⟨b15, hm⟩ := hm
      replace hm := zcP_inv hm
      obtain ⟨S12, v12, e12, hm⟩ := hm
      have k12 := hyA_ledFrom (X := X) (d := d + 2) e12
      refine go_call (m' := 108) (as := [.ref a11, .int ((zI S10 5 a4) + 1)]) (rest := [.ref a4]) (v := some (.int v12)) (h1 := zhp S12) rfl (by simp only [ie_step, ie_iv, List.drop, zhp_obj (S := S10) b15 (by decide)]; rfl) ⟨rfl, Nat.le_of_ble_eq_true rfl⟩ k12 ?_
      refine go_run 0 (F' := (77, [some (.ref th), some (.int x1), some (.ref a11), some (.ref a4)], [.int v12, .ref a4], zhp S12)) rfl ?_
      refine go_run 0 (F' := (77, [some (.ref th), some (.int x1), some (.ref a11), some (.ref a4)], [.int v12, .ref a4], zhp S12)) rfl ?_
      replace hm := zgd hm
      obtain ⟨b16, hm⟩ := hm
      refine go_hpI rfl b16 (by decide) rfl (Nat.le_of_ble_eq_true rfl) fs_4_5 ?_
      refine go_run 1 (F' := (85, [some (.ref th), some (.int x1), some (va_rf (some a11)), some (va_rf (some a4))], [], zhp (szI S12 5 a4 v12))) rfl ?_
      exact hyT_goRound_85  hm
theorem ehyT_goRound {th : Nat} {n : Nat} {S : hS} {x1 : Int32} {p2 : Option Nat} {S' : hS} {r : Int32} (hm : yT_goRound n S th x1 p2 = some (S', r)) : Ex S S' := by
  unfold yT_goRound at hm
  have hx : Ex S S := Ex_r
  replace hm := zgd hm
  obtain ⟨b1, hm⟩ := hm
  replace hm := zlb_inv hm
  obtain ⟨o1, eo1, hm⟩ := hm
  replace hm := zob_inv hm
  obtain ⟨a2, rfl, hm⟩ := hm
  replace hm := zgd hm
  obtain ⟨b2, hm⟩ := hm
  replace hm := zgd hm
  obtain ⟨b3, hm⟩ := hm
  replace hm := zlb_inv hm
  obtain ⟨o3, eo3, hm⟩ := hm
  replace hm := zob_inv hm
  obtain ⟨a4, rfl, hm⟩ := hm
  replace hm := zgd hm
  obtain ⟨b4, hm⟩ := hm
  by_cases q5 : zI S 3 a4 = 0
  · rw [if_pos q5] at hm
    replace hm := zcP_inv hm
    obtain ⟨S5, v5, e5, hm⟩ := hm
    have hx := Ex_t (T := szI S 3 a4 1) hx (ehyT_valueFor e5)
    by_cases q6 : v5 = 0
    · rw [if_pos q6] at hm
      replace hm := zgd hm
      obtain ⟨b7, hm⟩ := hm
      replace hm := zob_inv hm
      obtain ⟨a6, rfl, hm⟩ := hm
      replace hm := zgd hm
      obtain ⟨b8, hm⟩ := hm
      replace hm := zcP_inv hm
      obtain ⟨S7, v7, e7, hm⟩ := hm
      have hx := Ex_t (T := szI S5 4 a4 0) hx (ehyA_ledFrom e7)
      replace hm := zgd hm
      obtain ⟨b9, hm⟩ := hm
      refine Ex_t ?_ (ehyT_goRound_85  hm)
      exact hx
    · rw [if_neg q6] at hm
      replace hm := zgd hm
      obtain ⟨b10, hm⟩ := hm
      replace hm := zob_inv hm
      obtain ⟨a8, rfl, hm⟩ := hm
      replace hm := zgd hm
      obtain ⟨b11, hm⟩ := hm
      replace hm := zcP_inv hm
      obtain ⟨S9, v9, e9, hm⟩ := hm
      have hx := Ex_t (T := szI S5 4 a4 1) hx (ehyA_ledFrom e9)
      replace hm := zgd hm
      obtain ⟨b12, hm⟩ := hm
      refine Ex_t ?_ (ehyT_goRound_85  hm)
      exact hx
  · rw [if_neg q5] at hm
    replace hm := zcP_inv hm
    obtain ⟨S10, v10, e10, hm⟩ := hm
    have hx := Ex_t (T := S) hx (ehyT_enqueue e10)
    by_cases q13 : v10 = 0
    · rw [if_pos q13] at hm
      cases hm
      exact hx
    · rw [if_neg q13] at hm
      replace hm := zgd hm
      obtain ⟨b14, hm⟩ := hm
      replace hm := zob_inv hm
      obtain ⟨a11, rfl, hm⟩ := hm
      replace hm := zgd hm
      obtain ⟨b15, hm⟩ := hm
      replace hm := zcP_inv hm
      obtain ⟨S12, v12, e12, hm⟩ := hm
      have hx := Ex_t (T := S10) hx (ehyA_ledFrom e12)
      replace hm := zgd hm
      obtain ⟨b16, hm⟩ := hm
      refine Ex_t ?_ (ehyT_goRound_85  hm)
      exact hx
def yQ_valueAt (S : hS) (th : Nat) (x1 : Int32) : Option (hS × Int32) := (if ztg S th = 7 then (zlb (zR S 0 th) fun o1 => (zob o1 fun a2 => (if ztg S a2 = 20 then (if ib (((zI S 2 th) + x1) - ((zI S 2 th) + x1) / 8 * 8) (zLen S a2) then (some (S, (zAI S a2) (Int32.toNatClampNeg (((zI S 2 th) + x1) - ((zI S 2 th) + x1) / 8 * 8)))) else none) else none))) else none)
theorem hyQ_valueAt {X : ie_X} {d th : Nat} {S : hS} {x1 : Int32} {S' : hS} {r : Int32} (hm : yQ_valueAt S th x1 = some (S', r)) : Go X (d + 0) 110 (0, ie_en 110 [.ref th, .int x1], [], zhp S) (.inl (some (.int r))) (zhp S') := by
  unfold yQ_valueAt at hm
  refine go_run 0 (F' := (0, [some (.ref th), some (.int x1)], [], zhp S)) rfl ?_
  refine go_run 1 (F' := (1, [some (.ref th), some (.int x1)], [.ref th], zhp S)) rfl ?_
  replace hm := zgd hm
  obtain ⟨b1, hm⟩ := hm
  replace hm := zlb_inv hm
  obtain ⟨o1, eo1, hm⟩ := hm
  refine go_hg (v := va_rf o1) rfl b1 (by decide) (by rw [← eo1]; rfl) ?_
  refine go_run 1 (F' := (5, [some (.ref th), some (.int x1)], [.ref th, va_rf o1], zhp S)) rfl ?_
  refine go_hg (v := .int (zI S 2 th)) rfl b1 (by decide) rfl ?_
  refine go_run 3 (F' := (12, [some (.ref th), some (.int x1)], [.int 8, .int ((zI S 2 th) + x1), va_rf o1], zhp S)) rfl ?_
  refine go_run 1 (F' := (13, [some (.ref th), some (.int x1)], [.int (((zI S 2 th) + x1) - ((zI S 2 th) + x1) / 8 * 8), va_rf o1], zhp S)) rfl ?_
  replace hm := zob_inv hm
  obtain ⟨a2, rfl, hm⟩ := hm
  replace hm := zgd hm
  obtain ⟨b2, hm⟩ := hm
  replace hm := zgd hm
  obtain ⟨b3, hm⟩ := hm
  refine go_hald0 rfl b2 b3 rfl rfl ?_
  refine go_run 0 (F' := (14, [some (.ref th), some (.int x1)], [.int ((zAI S a2) (Int32.toNatClampNeg (((zI S 2 th) + x1) - ((zI S 2 th) + x1) / 8 * 8)))], zhp S)) rfl ?_
  cases hm
  exact go_end rfl rfl
theorem ehyQ_valueAt {th : Nat} {S : hS} {x1 : Int32} {S' : hS} {r : Int32} (hm : yQ_valueAt S th x1 = some (S', r)) : Ex S S' := by
  unfold yQ_valueAt at hm
  have hx : Ex S S := Ex_r
  replace hm := zgd hm
  obtain ⟨b1, hm⟩ := hm
  replace hm := zlb_inv hm
  obtain ⟨o1, eo1, hm⟩ := hm
  replace hm := zob_inv hm
  obtain ⟨a2, rfl, hm⟩ := hm
  replace hm := zgd hm
  obtain ⟨b2, hm⟩ := hm
  replace hm := zgd hm
  obtain ⟨b3, hm⟩ := hm
  cases hm
  exact hx
def yQ_removeFirst (S : hS) (th : Nat) : Option (hS) := (if ztg S th = 7 then (if zI S 3 th ≤ 0 then (some S) else (some (szI (szI S 2 th (((zI S 2 th) + 1) - ((zI S 2 th) + 1) / 8 * 8)) 3 th ((zI S 3 th) - 1)))) else none)
theorem hyQ_removeFirst {X : ie_X} {d th : Nat} {S : hS} {S' : hS} (hm : yQ_removeFirst S th = some S') : Go X (d + 0) 111 (0, ie_en 111 [.ref th], [], zhp S) (.inl none) (zhp S') := by
  unfold yQ_removeFirst at hm
  refine go_run 0 (F' := (0, [some (.ref th)], [], zhp S)) rfl ?_
  refine go_run 1 (F' := (1, [some (.ref th)], [.ref th], zhp S)) rfl ?_
  replace hm := zgd hm
  obtain ⟨b1, hm⟩ := hm
  refine go_hg (v := .int (zI S 3 th)) rfl b1 (by decide) rfl ?_
  refine go_run 0 (F' := (4, [some (.ref th)], [.int (zI S 3 th)], zhp S)) rfl ?_
  refine go_step rfl rfl ?_
  by_cases q2 : zI S 3 th ≤ 0
  · rw [if_pos q2] at hm ⊢
    refine go_run 0 (F' := (30, [some (.ref th)], [], zhp S)) rfl ?_
    refine go_run 0 (F' := (30, [some (.ref th)], [], zhp S)) rfl ?_
    cases hm
    exact go_end rfl rfl
  · rw [if_neg q2] at hm ⊢
    refine go_run 0 (F' := (7, [some (.ref th)], [], zhp S)) rfl ?_
    refine go_run 2 (F' := (9, [some (.ref th)], [.ref th, .ref th], zhp S)) rfl ?_
    refine go_hg (v := .int (zI S 2 th)) rfl b1 (by decide) rfl ?_
    refine go_run 3 (F' := (16, [some (.ref th)], [.int 8, .int ((zI S 2 th) + 1), .ref th], zhp S)) rfl ?_
    refine go_run 1 (F' := (17, [some (.ref th)], [.int (((zI S 2 th) + 1) - ((zI S 2 th) + 1) / 8 * 8), .ref th], zhp S)) rfl ?_
    refine go_hpI rfl b1 (by decide) rfl (Nat.le_of_ble_eq_true rfl) fs_6_2 ?_
    refine go_run 2 (F' := (22, [some (.ref th)], [.ref th, .ref th], zhp (szI S 2 th (((zI S 2 th) + 1) - ((zI S 2 th) + 1) / 8 * 8)))) rfl ?_
    refine go_hg (v := .int (zI S 3 th)) rfl b1 (by decide) rfl ?_
    refine go_run 2 (F' := (27, [some (.ref th)], [.int ((zI S 3 th) - 1), .ref th], zhp (szI S 2 th (((zI S 2 th) + 1) - ((zI S 2 th) + 1) / 8 * 8)))) rfl ?_
    refine go_hpI rfl b1 (by decide) rfl (Nat.le_of_ble_eq_true rfl) fs_6_3 ?_
    refine go_run 0 (F' := (30, [some (.ref th)], [], zhp (szI (szI S 2 th (((zI S 2 th) + 1) - ((zI S 2 th) + 1) / 8 * 8)) 3 th ((zI S 3 th) - 1)))) rfl ?_
    cases hm
    exact go_end rfl rfl
theorem ehyQ_removeFirst {th : Nat} {S : hS} {S' : hS} (hm : yQ_removeFirst S th = some S') : Ex S S' := by
  unfold yQ_removeFirst at hm
  have hx : Ex S S := Ex_r
  replace hm := zgd hm
  obtain ⟨b1, hm⟩ := hm
  by_cases q2 : zI S 3 th ≤ 0
  · rw [if_pos q2] at hm
    cases hm
    exact hx
  · rw [if_neg q2] at hm
    cases hm
    exact hx
def yT_receive_45 (th : Nat) (S : hS) (l1 : Int32) (p2 : Option Nat) (p3 : Option Nat) (l4 : Int32) : Option (hS × Int32) := (zob p3 fun a1 => (if ztg S a1 = 7 then (zcV (yQ_removeFirst S a1) fun S2 => (if ztg S2 th = 9 then (zlb (zR S2 0 th) fun o3 => (zob o3 fun a4 => (if zar S2 a4 then (if ib l1 (zLen S2 a4) then (zlb ((zAR S2 a4) (Int32.toNatClampNeg l1)) fun o5 => (zob p2 fun a6 => (if ztg S2 a6 = 2 then (if zI S2 0 a6 = 3 then (zlb (zR S2 3 th) fun o7 => (zob o7 fun a8 => (if ztg S2 a8 = 20 then (if ib (y_indexOf l1 (zI S2 1 a6)) (zLen S2 a8) then (zlb (zR S2 9 a6) fun o9 => (zob o5 fun a10 => (if ztg S2 a10 = 5 then (some (szR (szAI S2 a8 (upd (zAI S2 a8) (Int32.toNatClampNeg (y_indexOf l1 (zI S2 1 a6))) l4)) 2 a10 o9, 1)) else none))) else none) else none))) else (if zI S2 0 a6 = 5 then (zcP (yA_enter S2 a6 l4) fun S11 o11 => (zob o5 fun a12 => (if ztg S11 a12 = 5 then (some (szR S11 2 a12 o11, 1)) else none))) else (if l4 = 0 then (zlb (zR S2 9 a6) fun o13 => (zob o5 fun a14 => (if ztg S2 a14 = 5 then (some (szR S2 2 a14 o13, 1)) else none))) else (zcP (yA_enter S2 a6 0) fun S15 o15 => (zob o5 fun a16 => (if ztg S15 a16 = 5 then (some (szR S15 2 a16 o15, 1)) else none)))))) else none))) else none) else none))) else none)) else none))
theorem hyT_receive_45 {X : ie_X} {d th : Nat} {S : hS} {l1 : Int32} {p2 : Option Nat} {p3 : Option Nat} {l4 : Int32} {u5 : Option Value} {S' : hS} {r : Int32} (hm : yT_receive_45 th S l1 p2 p3 l4 = some (S', r)) : Go X (d + 2) 109 (45, [some (.ref th), some (.int l1), some (va_rf p2), some (va_rf p3), some (.int l4), u5], [], zhp S) (.inl (some (.int r))) (zhp S') := by
  unfold yT_receive_45 at hm
  refine go_run 0 (F' := (45, [some (.ref th), some (.int l1), some (va_rf p2), some (va_rf p3), some (.int l4), u5], [], zhp S)) rfl ?_
  refine go_run 0 (F' := (45, [some (.ref th), some (.int l1), some (va_rf p2), some (va_rf p3), some (.int l4), u5], [], zhp S)) rfl ?_
  refine go_al rfl rfl ?_
  refine go_run 0 (F' := (46, [some (.ref th), some (.int l1), some (va_rf p2), some (va_rf p3), some (.int l4), u5], [va_rf p3], zhp S)) rfl ?_
  replace hm := zob_inv hm
  obtain ⟨a1, rfl, hm⟩ := hm
  refine go_run 0 (F' := (46, [some (.ref th), some (.int l1), some (va_rf p2), some (.ref a1), some (.int l4), u5], [.ref a1], zhp S)) rfl ?_
  replace hm := zgd hm
  obtain ⟨b1, hm⟩ := hm
  replace hm := zcV_inv hm
  obtain ⟨S2, e2, hm⟩ := hm
  have k2 := hyQ_removeFirst (X := X) (d := d + 1) e2
  refine go_call (m' := 111) (as := [.ref a1]) (rest := []) (v := none) (h1 := zhp S2) rfl (by simp only [ie_step, ie_iv, List.drop, zhp_obj (S := S) b1 (by decide)]; rfl) ⟨rfl, Nat.le_of_ble_eq_true rfl⟩ k2 ?_
  refine go_run 0 (F' := (49, [some (.ref th), some (.int l1), some (va_rf p2), some (.ref a1), some (.int l4), u5], [], zhp S2)) rfl ?_
  refine go_run 1 (F' := (50, [some (.ref th), some (.int l1), some (va_rf p2), some (.ref a1), some (.int l4), u5], [.ref th], zhp S2)) rfl ?_
  replace hm := zgd hm
  obtain ⟨b2, hm⟩ := hm
  replace hm := zlb_inv hm
  obtain ⟨o3, eo3, hm⟩ := hm
  refine go_hg (v := va_rf o3) rfl b2 (by decide) (by rw [← eo3]; rfl) ?_
  refine go_run 1 (F' := (54, [some (.ref th), some (.int l1), some (va_rf p2), some (.ref a1), some (.int l4), u5], [.int l1, va_rf o3], zhp S2)) rfl ?_
  replace hm := zob_inv hm
  obtain ⟨a4, rfl, hm⟩ := hm
  replace hm := zgd hm
  obtain ⟨b3, hm⟩ := hm
  replace hm := zgd hm
  obtain ⟨b4, hm⟩ := hm
  replace hm := zlb_inv hm
  obtain ⟨o5, eo5, hm⟩ := hm
  refine go_haald rfl b3 b4 rfl eo5 ?_
  refine go_run 0 (F' := (55, [some (.ref th), some (.int l1), some (va_rf p2), some (.ref a1), some (.int l4), u5], [va_rf o5], zhp S2)) rfl ?_
  refine go_as2 rfl ?_
  refine go_run 0 (F' := (57, [some (.ref th), some (.int l1), some (va_rf p2), some (.ref a1), some (.int l4), some (va_rf o5)], [], zhp S2)) rfl ?_
  refine go_al rfl rfl ?_
  refine go_run 0 (F' := (58, [some (.ref th), some (.int l1), some (va_rf p2), some (.ref a1), some (.int l4), some (va_rf o5)], [va_rf p2], zhp S2)) rfl ?_
  replace hm := zob_inv hm
  obtain ⟨a6, rfl, hm⟩ := hm
  replace hm := zgd hm
  obtain ⟨b5, hm⟩ := hm
  refine go_hg (v := .int (zI S2 0 a6)) rfl b5 (by decide) rfl ?_
  refine go_run 1 (F' := (62, [some (.ref th), some (.int l1), some (.ref a6), some (.ref a1), some (.int l4), some (va_rf o5)], [.int 3, .int (zI S2 0 a6)], zhp S2)) rfl ?_
  refine go_step rfl rfl ?_
  by_cases q6 : zI S2 0 a6 = 3
  · rw [if_pos q6] at hm ⊢
    refine go_run 0 (F' := (65, [some (.ref th), some (.int l1), some (.ref a6), some (.ref a1), some (.int l4), some (va_rf o5)], [], zhp S2)) rfl ?_
    refine go_run 1 (F' := (66, [some (.ref th), some (.int l1), some (.ref a6), some (.ref a1), some (.int l4), some (va_rf o5)], [.ref th], zhp S2)) rfl ?_
    replace hm := zlb_inv hm
    obtain ⟨o7, eo7, hm⟩ := hm
    refine go_hg (v := va_rf o7) rfl b2 (by decide) (by rw [← eo7]; rfl) ?_
    refine go_run 2 (F' := (71, [some (.ref th), some (.int l1), some (.ref a6), some (.ref a1), some (.int l4), some (va_rf o5)], [.ref a6, .int l1, va_rf o7], zhp S2)) rfl ?_
    refine go_hg (v := .int (zI S2 1 a6)) rfl b5 (by decide) rfl ?_
    refine go_run 0 (F' := (74, [some (.ref th), some (.int l1), some (.ref a6), some (.ref a1), some (.int l4), some (va_rf o5)], [.int (zI S2 1 a6), .int l1, va_rf o7], zhp S2)) rfl ?_
    refine go_call (m' := 88) (as := [.int l1, .int (zI S2 1 a6)]) (rest := [va_rf o7]) (v := some (.int (y_indexOf l1 (zI S2 1 a6)))) (h1 := zhp S2) rfl (by cases o7 <;> rfl) ⟨rfl, Nat.le_of_ble_eq_true rfl⟩ (hy_indexOf _ _) ?_
    refine go_run 0 (F' := (77, [some (.ref th), some (.int l1), some (.ref a6), some (.ref a1), some (.int l4), some (va_rf o5)], [.int (y_indexOf l1 (zI S2 1 a6)), va_rf o7], zhp S2)) rfl ?_
    refine go_run 1 (F' := (79, [some (.ref th), some (.int l1), some (.ref a6), some (.ref a1), some (.int l4), some (va_rf o5)], [.int l4, .int (y_indexOf l1 (zI S2 1 a6)), va_rf o7], zhp S2)) rfl ?_
    replace hm := zob_inv hm
    obtain ⟨a8, rfl, hm⟩ := hm
    replace hm := zgd hm
    obtain ⟨b7, hm⟩ := hm
    replace hm := zgd hm
    obtain ⟨b8, hm⟩ := hm
    refine go_hast0 rfl b7 b8 rfl rfl ?_
    refine go_run 0 (F' := (80, [some (.ref th), some (.int l1), some (.ref a6), some (.ref a1), some (.int l4), some (va_rf o5)], [], zhp (szAI S2 a8 (upd (zAI S2 a8) (Int32.toNatClampNeg (y_indexOf l1 (zI S2 1 a6))) l4)))) rfl ?_
    refine go_al2 rfl rfl ?_
    refine go_run 1 (F' := (83, [some (.ref th), some (.int l1), some (.ref a6), some (.ref a1), some (.int l4), some (va_rf o5)], [.ref a6, va_rf o5], zhp (szAI S2 a8 (upd (zAI S2 a8) (Int32.toNatClampNeg (y_indexOf l1 (zI S2 1 a6))) l4)))) rfl ?_
    replace hm := zlb_inv hm
    obtain ⟨o9, eo9, hm⟩ := hm
    refine go_hg (v := va_rf o9) rfl b5 (by decide) (by rw [← eo9]; rfl) ?_
    refine go_run 0 (F' := (86, [some (.ref th), some (.int l1), some (.ref a6), some (.ref a1), some (.int l4), some (va_rf o5)], [va_rf o9, va_rf o5], zhp (szAI S2 a8 (upd (zAI S2 a8) (Int32.toNatClampNeg (y_indexOf l1 (zI S2 1 a6))) l4)))) rfl ?_
    replace hm := zob_inv hm
    obtain ⟨a10, rfl, hm⟩ := hm
    replace hm := zgd hm
    obtain ⟨b9, hm⟩ := hm
    refine go_hpR (v := o9) rfl b9 (by decide) (by cases o9 <;> rfl) (Nat.le_of_ble_eq_true rfl) fs_4_2 ?_
    refine go_run 2 (F' := (137, [some (.ref th), some (.int l1), some (.ref a6), some (.ref a1), some (.int l4), some (.ref a10)], [.int 1], zhp (szR (szAI S2 a8 (upd (zAI S2 a8) (Int32.toNatClampNeg (y_indexOf l1 (zI S2 1 a6))) l4)) 2 a10 o9))) rfl ?_
    cases hm
    exact go_end rfl rfl
  · rw [if_neg q6] at hm ⊢
    refine go_run 0 (F' := (92, [some (.ref th), some (.int l1), some (.ref a6), some (.ref a1), some (.int l4), some (va_rf o5)], [], zhp S2)) rfl ?_
    refine go_run 1 (F' := (93, [some (.ref th), some (.int l1), some (.ref a6), some (.ref a1), some (.int l4), some (va_rf o5)], [.ref a6], zhp S2)) rfl ?_
    refine go_hg (v := .int (zI S2 0 a6)) rfl b5 (by decide) rfl ?_
    refine go_run 1 (F' := (97, [some (.ref th), some (.int l1), some (.ref a6), some (.ref a1), some (.int l4), some (va_rf o5)], [.int 5, .int (zI S2 0 a6)], zhp S2)) rfl ?_
    refine go_step rfl rfl ?_
    by_cases q10 : zI S2 0 a6 = 5
    · rw [if_pos q10] at hm ⊢
      refine go_run 0 (F' := (100, [some (.ref th), some (.int l1), some (.ref a6), some (.ref a1), some (.int l4), some (va_rf o5)], [], zhp S2)) rfl ?_
      refine go_run 0 (F' := (100, [some (.ref th), some (.int l1), some (.ref a6), some (.ref a1), some (.int l4), some (va_rf o5)], [], zhp S2)) rfl ?_
      refine go_al2 rfl rfl ?_
      refine go_run 2 (F' := (105, [some (.ref th), some (.int l1), some (.ref a6), some (.ref a1), some (.int l4), some (va_rf o5)], [.int l4, .ref a6, va_rf o5], zhp S2)) rfl ?_
      replace hm := zcP_inv hm
      obtain ⟨S11, o11, e11, hm⟩ := hm
      have k11 := hyA_enter (X := X) (d := d) e11
      refine go_call (m' := 106) (as := [.ref a6, .int l4]) (rest := [va_rf o5]) (v := some (va_rf o11)) (h1 := zhp S11) rfl (by simp only [ie_step, ie_iv, List.drop, zhp_obj (S := S2) b5 (by decide)]; cases o5 <;> rfl) ⟨rfl, Nat.le_of_ble_eq_true rfl⟩ k11 ?_
      refine go_run 0 (F' := (108, [some (.ref th), some (.int l1), some (.ref a6), some (.ref a1), some (.int l4), some (va_rf o5)], [va_rf o11, va_rf o5], zhp S11)) rfl ?_
      refine go_run 0 (F' := (108, [some (.ref th), some (.int l1), some (.ref a6), some (.ref a1), some (.int l4), some (va_rf o5)], [va_rf o11, va_rf o5], zhp S11)) rfl ?_
      replace hm := zob_inv hm
      obtain ⟨a12, rfl, hm⟩ := hm
      replace hm := zgd hm
      obtain ⟨b11, hm⟩ := hm
      refine go_hpR (v := o11) rfl b11 (by decide) (by cases o11 <;> rfl) (Nat.le_of_ble_eq_true rfl) fs_4_2 ?_
      refine go_run 2 (F' := (137, [some (.ref th), some (.int l1), some (.ref a6), some (.ref a1), some (.int l4), some (.ref a12)], [.int 1], zhp (szR S11 2 a12 o11))) rfl ?_
      cases hm
      exact go_end rfl rfl
    · rw [if_neg q10] at hm ⊢
      refine go_run 0 (F' := (114, [some (.ref th), some (.int l1), some (.ref a6), some (.ref a1), some (.int l4), some (va_rf o5)], [], zhp S2)) rfl ?_
      refine go_run 0 (F' := (114, [some (.ref th), some (.int l1), some (.ref a6), some (.ref a1), some (.int l4), some (va_rf o5)], [], zhp S2)) rfl ?_
      refine go_al2 rfl rfl ?_
      refine go_run 1 (F' := (118, [some (.ref th), some (.int l1), some (.ref a6), some (.ref a1), some (.int l4), some (va_rf o5)], [.int l4, va_rf o5], zhp S2)) rfl ?_
      refine go_step rfl rfl ?_
      by_cases q12 : l4 = 0
      · rw [if_pos q12] at hm ⊢
        refine go_run 0 (F' := (129, [some (.ref th), some (.int l1), some (.ref a6), some (.ref a1), some (.int l4), some (va_rf o5)], [va_rf o5], zhp S2)) rfl ?_
        refine go_run 1 (F' := (130, [some (.ref th), some (.int l1), some (.ref a6), some (.ref a1), some (.int l4), some (va_rf o5)], [.ref a6, va_rf o5], zhp S2)) rfl ?_
        replace hm := zlb_inv hm
        obtain ⟨o13, eo13, hm⟩ := hm
        refine go_hg (v := va_rf o13) rfl b5 (by decide) (by rw [← eo13]; rfl) ?_
        refine go_run 0 (F' := (133, [some (.ref th), some (.int l1), some (.ref a6), some (.ref a1), some (.int l4), some (va_rf o5)], [va_rf o13, va_rf o5], zhp S2)) rfl ?_
        replace hm := zob_inv hm
        obtain ⟨a14, rfl, hm⟩ := hm
        replace hm := zgd hm
        obtain ⟨b13, hm⟩ := hm
        refine go_hpR (v := o13) rfl b13 (by decide) (by cases o13 <;> rfl) (Nat.le_of_ble_eq_true rfl) fs_4_2 ?_
        refine go_run 1 (F' := (137, [some (.ref th), some (.int l1), some (.ref a6), some (.ref a1), some (.int l4), some (.ref a14)], [.int 1], zhp (szR S2 2 a14 o13))) rfl ?_
        cases hm
        exact go_end rfl rfl
      · rw [if_neg q12] at hm ⊢
        refine go_run 0 (F' := (121, [some (.ref th), some (.int l1), some (.ref a6), some (.ref a1), some (.int l4), some (va_rf o5)], [va_rf o5], zhp S2)) rfl ?_
        refine go_run 2 (F' := (123, [some (.ref th), some (.int l1), some (.ref a6), some (.ref a1), some (.int l4), some (va_rf o5)], [.int 0, .ref a6, va_rf o5], zhp S2)) rfl ?_
        replace hm := zcP_inv hm
        obtain ⟨S15, o15, e15, hm⟩ := hm
        have k15 := hyA_enter (X := X) (d := d) e15
        refine go_call (m' := 106) (as := [.ref a6, .int 0]) (rest := [va_rf o5]) (v := some (va_rf o15)) (h1 := zhp S15) rfl (by simp only [ie_step, ie_iv, List.drop, zhp_obj (S := S2) b5 (by decide)]; cases o5 <;> rfl) ⟨rfl, Nat.le_of_ble_eq_true rfl⟩ k15 ?_
        refine go_run 0 (F' := (126, [some (.ref th), some (.int l1), some (.ref a6), some (.ref a1), some (.int l4), some (va_rf o5)], [va_rf o15, va_rf o5], zhp S15)) rfl ?_
        refine go_run 1 (F' := (133, [some (.ref th), some (.int l1), some (.ref a6), some (.ref a1), some (.int l4), some (va_rf o5)], [va_rf o15, va_rf o5], zhp S15)) rfl ?_
        replace hm := zob_inv hm
        obtain ⟨a16, rfl, hm⟩ := hm
        replace hm := zgd hm
        obtain ⟨b14, hm⟩ := hm
        refine go_hpR (v := o15) rfl b14 (by decide) (by cases o15 <;> rfl) (Nat.le_of_ble_eq_true rfl) fs_4_2 ?_
        refine go_run 1 (F' := (137, [some (.ref th), some (.int l1), some (.ref a6), some (.ref a1), some (.int l4), some (.ref a16)], [.int 1], zhp (szR S15 2 a16 o15))) rfl ?_
        cases hm
        exact go_end rfl rfl
theorem ehyT_receive_45 {th : Nat} {S : hS} {l1 : Int32} {p2 : Option Nat} {p3 : Option Nat} {l4 : Int32} {S' : hS} {r : Int32} (hm : yT_receive_45 th S l1 p2 p3 l4 = some (S', r)) : Ex S S' := by
  unfold yT_receive_45 at hm
  have hx : Ex S S := Ex_r
  replace hm := zob_inv hm
  obtain ⟨a1, rfl, hm⟩ := hm
  replace hm := zgd hm
  obtain ⟨b1, hm⟩ := hm
  replace hm := zcV_inv hm
  obtain ⟨S2, e2, hm⟩ := hm
  have hx := Ex_t (T := S) hx (ehyQ_removeFirst e2)
  replace hm := zgd hm
  obtain ⟨b2, hm⟩ := hm
  replace hm := zlb_inv hm
  obtain ⟨o3, eo3, hm⟩ := hm
  replace hm := zob_inv hm
  obtain ⟨a4, rfl, hm⟩ := hm
  replace hm := zgd hm
  obtain ⟨b3, hm⟩ := hm
  replace hm := zgd hm
  obtain ⟨b4, hm⟩ := hm
  replace hm := zlb_inv hm
  obtain ⟨o5, eo5, hm⟩ := hm
  replace hm := zob_inv hm
  obtain ⟨a6, rfl, hm⟩ := hm
  replace hm := zgd hm
  obtain ⟨b5, hm⟩ := hm
  by_cases q6 : zI S2 0 a6 = 3
  · rw [if_pos q6] at hm
    replace hm := zlb_inv hm
    obtain ⟨o7, eo7, hm⟩ := hm
    replace hm := zob_inv hm
    obtain ⟨a8, rfl, hm⟩ := hm
    replace hm := zgd hm
    obtain ⟨b7, hm⟩ := hm
    replace hm := zgd hm
    obtain ⟨b8, hm⟩ := hm
    replace hm := zlb_inv hm
    obtain ⟨o9, eo9, hm⟩ := hm
    replace hm := zob_inv hm
    obtain ⟨a10, rfl, hm⟩ := hm
    replace hm := zgd hm
    obtain ⟨b9, hm⟩ := hm
    cases hm
    exact hx
  · rw [if_neg q6] at hm
    by_cases q10 : zI S2 0 a6 = 5
    · rw [if_pos q10] at hm
      replace hm := zcP_inv hm
      obtain ⟨S11, o11, e11, hm⟩ := hm
      have hx := Ex_t (T := S2) hx (ehyA_enter e11)
      replace hm := zob_inv hm
      obtain ⟨a12, rfl, hm⟩ := hm
      replace hm := zgd hm
      obtain ⟨b11, hm⟩ := hm
      cases hm
      exact hx
    · rw [if_neg q10] at hm
      by_cases q12 : l4 = 0
      · rw [if_pos q12] at hm
        replace hm := zlb_inv hm
        obtain ⟨o13, eo13, hm⟩ := hm
        replace hm := zob_inv hm
        obtain ⟨a14, rfl, hm⟩ := hm
        replace hm := zgd hm
        obtain ⟨b13, hm⟩ := hm
        cases hm
        exact hx
      · rw [if_neg q12] at hm
        replace hm := zcP_inv hm
        obtain ⟨S15, o15, e15, hm⟩ := hm
        have hx := Ex_t (T := S2) hx (ehyA_enter e15)
        replace hm := zob_inv hm
        obtain ⟨a16, rfl, hm⟩ := hm
        replace hm := zgd hm
        obtain ⟨b14, hm⟩ := hm
        cases hm
        exact hx
def yT_receive (S : hS) (th : Nat) (x1 : Int32) (p2 : Option Nat) : Option (hS × Int32) := (zob p2 fun a1 => (if ztg S a1 = 2 then (if ztg S th = 9 then (zcP (yT_queueOf S th (zI S 3 a1) x1) fun S2 o2 => (zob o2 fun a3 => (if ztg S2 a3 = 7 then (if zI S2 3 a3 = 0 then (some (S2, 0)) else (zcP (yQ_valueAt S2 a3 0) fun S4 v4 => (if ztg S4 a1 = 2 then (if zI S4 0 a1 = 5 then (zcP (yA_hasPart S4 a1 v4) fun S5 v5 => (if v5 = 0 then (some (S5, 0)) else (yT_receive_45 th   S5 x1 (some a1) (some a3) v4))) else (yT_receive_45 th   S4 x1 (some a1) (some a3) v4)) else none))) else none))) else none) else none))
theorem hyT_receive {X : ie_X} {d th : Nat} {S : hS} {x1 : Int32} {p2 : Option Nat} {S' : hS} {r : Int32} (hm : yT_receive S th x1 p2 = some (S', r)) : Go X (d + 2) 109 (0, ie_en 109 [.ref th, .int x1, va_rf p2], [], zhp S) (.inl (some (.int r))) (zhp S') := by
  unfold yT_receive at hm
  refine go_run 0 (F' := (0, [some (.ref th), some (.int x1), some (va_rf p2), none, none, none], [], zhp S)) (by cases p2 <;> rfl) ?_
  refine go_run 1 (F' := (1, [some (.ref th), some (.int x1), some (va_rf p2), none, none, none], [.ref th], zhp S)) rfl ?_
  refine go_al rfl rfl ?_
  refine go_run 0 (F' := (2, [some (.ref th), some (.int x1), some (va_rf p2), none, none, none], [va_rf p2, .ref th], zhp S)) rfl ?_
  replace hm := zob_inv hm
  obtain ⟨a1, rfl, hm⟩ := hm
  replace hm := zgd hm
  obtain ⟨b1, hm⟩ := hm
  refine go_hg (v := .int (zI S 3 a1)) rfl b1 (by decide) rfl ?_
  refine go_run 1 (F' := (6, [some (.ref th), some (.int x1), some (.ref a1), none, none, none], [.int x1, .int (zI S 3 a1), .ref th], zhp S)) rfl ?_
  replace hm := zgd hm
  obtain ⟨b2, hm⟩ := hm
  replace hm := zcP_inv hm
  obtain ⟨S2, o2, e2, hm⟩ := hm
  have k2 := hyT_queueOf (X := X) (d := d + 1) e2
  refine go_call (m' := 104) (as := [.ref th, .int (zI S 3 a1), .int x1]) (rest := []) (v := some (va_rf o2)) (h1 := zhp S2) rfl (by simp only [ie_step, ie_iv, List.drop, zhp_obj (S := S) b2 (by decide)]; rfl) ⟨rfl, Nat.le_of_ble_eq_true rfl⟩ k2 ?_
  refine go_run 0 (F' := (9, [some (.ref th), some (.int x1), some (.ref a1), none, none, none], [va_rf o2], zhp S2)) rfl ?_
  refine go_run 0 (F' := (9, [some (.ref th), some (.int x1), some (.ref a1), none, none, none], [va_rf o2], zhp S2)) rfl ?_
  refine go_as rfl ?_
  refine go_run 0 (F' := (10, [some (.ref th), some (.int x1), some (.ref a1), some (va_rf o2), none, none], [], zhp S2)) rfl ?_
  refine go_al rfl rfl ?_
  refine go_run 0 (F' := (11, [some (.ref th), some (.int x1), some (.ref a1), some (va_rf o2), none, none], [va_rf o2], zhp S2)) rfl ?_
  replace hm := zob_inv hm
  obtain ⟨a3, rfl, hm⟩ := hm
  replace hm := zgd hm
  obtain ⟨b3, hm⟩ := hm
  refine go_hg (v := .int (zI S2 3 a3)) rfl b3 (by decide) rfl ?_
  refine go_run 0 (F' := (14, [some (.ref th), some (.int x1), some (.ref a1), some (.ref a3), none, none], [.int (zI S2 3 a3)], zhp S2)) rfl ?_
  refine go_step rfl rfl ?_
  by_cases q4 : zI S2 3 a3 = 0
  · rw [if_pos q4] at hm ⊢
    refine go_run 0 (F' := (17, [some (.ref th), some (.int x1), some (.ref a1), some (.ref a3), none, none], [], zhp S2)) rfl ?_
    refine go_run 1 (F' := (18, [some (.ref th), some (.int x1), some (.ref a1), some (.ref a3), none, none], [.int 0], zhp S2)) rfl ?_
    cases hm
    exact go_end rfl rfl
  · rw [if_neg q4] at hm ⊢
    refine go_run 0 (F' := (19, [some (.ref th), some (.int x1), some (.ref a1), some (.ref a3), none, none], [], zhp S2)) rfl ?_
    refine go_run 2 (F' := (21, [some (.ref th), some (.int x1), some (.ref a1), some (.ref a3), none, none], [.int 0, .ref a3], zhp S2)) rfl ?_
    replace hm := zcP_inv hm
    obtain ⟨S4, v4, e4, hm⟩ := hm
    have k4 := hyQ_valueAt (X := X) (d := d + 1) e4
    refine go_call (m' := 110) (as := [.ref a3, .int 0]) (rest := []) (v := some (.int v4)) (h1 := zhp S4) rfl (by simp only [ie_step, ie_iv, List.drop, zhp_obj (S := S2) b3 (by decide)]; rfl) ⟨rfl, Nat.le_of_ble_eq_true rfl⟩ k4 ?_
    refine go_run 0 (F' := (24, [some (.ref th), some (.int x1), some (.ref a1), some (.ref a3), none, none], [.int v4], zhp S4)) rfl ?_
    refine go_run 2 (F' := (27, [some (.ref th), some (.int x1), some (.ref a1), some (.ref a3), some (.int v4), none], [.ref a1], zhp S4)) rfl ?_
    replace hm := zgd hm
    obtain ⟨b5, hm⟩ := hm
    refine go_hg (v := .int (zI S4 0 a1)) rfl b5 (by decide) rfl ?_
    refine go_run 1 (F' := (31, [some (.ref th), some (.int x1), some (.ref a1), some (.ref a3), some (.int v4), none], [.int 5, .int (zI S4 0 a1)], zhp S4)) rfl ?_
    refine go_step rfl rfl ?_
    by_cases q6 : zI S4 0 a1 = 5
    · rw [if_pos q6] at hm ⊢
      refine go_run 0 (F' := (34, [some (.ref th), some (.int x1), some (.ref a1), some (.ref a3), some (.int v4), none], [], zhp S4)) rfl ?_
      refine go_run 2 (F' := (37, [some (.ref th), some (.int x1), some (.ref a1), some (.ref a3), some (.int v4), none], [.int v4, .ref a1], zhp S4)) rfl ?_
      replace hm := zcP_inv hm
      obtain ⟨S5, v5, e5, hm⟩ := hm
      have k5 := hyA_hasPart (X := X) (d := d + 1) e5
      refine go_call (m' := 55) (as := [.ref a1, .int v4]) (rest := []) (v := some (.int v5)) (h1 := zhp S5) rfl (by simp only [ie_step, ie_iv, List.drop, zhp_obj (S := S4) b5 (by decide)]; rfl) ⟨rfl, Nat.le_of_ble_eq_true rfl⟩ k5 ?_
      refine go_run 0 (F' := (40, [some (.ref th), some (.int x1), some (.ref a1), some (.ref a3), some (.int v4), none], [.int v5], zhp S5)) rfl ?_
      refine go_run 0 (F' := (40, [some (.ref th), some (.int x1), some (.ref a1), some (.ref a3), some (.int v4), none], [.int v5], zhp S5)) rfl ?_
      refine go_step rfl rfl ?_
      by_cases q7 : v5 = 0
      · rw [if_pos q7] at hm ⊢
        refine go_run 0 (F' := (43, [some (.ref th), some (.int x1), some (.ref a1), some (.ref a3), some (.int v4), none], [], zhp S5)) rfl ?_
        refine go_run 1 (F' := (44, [some (.ref th), some (.int x1), some (.ref a1), some (.ref a3), some (.int v4), none], [.int 0], zhp S5)) rfl ?_
        cases hm
        exact go_end rfl rfl
      · rw [if_neg q7] at hm ⊢
        refine go_run 0 (F' := (45, [some (.ref th), some (.int x1), some (.ref a1), some (.ref a3), some (.int v4), none], [], zhp S5)) rfl ?_
        refine go_run 0 (F' := (45, [some (.ref th), some (.int x1), some (va_rf (some a1)), some (va_rf (some a3)), some (.int v4), none], [], zhp S5)) rfl ?_
        exact hyT_receive_45  hm
    · rw [if_neg q6] at hm ⊢
      refine go_run 0 (F' := (45, [some (.ref th), some (.int x1), some (.ref a1), some (.ref a3), some (.int v4), none], [], zhp S4)) rfl ?_
      refine go_run 0 (F' := (45, [some (.ref th), some (.int x1), some (va_rf (some a1)), some (va_rf (some a3)), some (.int v4), none], [], zhp S4)) rfl ?_
      exact hyT_receive_45  hm
theorem ehyT_receive {th : Nat} {S : hS} {x1 : Int32} {p2 : Option Nat} {S' : hS} {r : Int32} (hm : yT_receive S th x1 p2 = some (S', r)) : Ex S S' := by
  unfold yT_receive at hm
  have hx : Ex S S := Ex_r
  replace hm := zob_inv hm
  obtain ⟨a1, rfl, hm⟩ := hm
  replace hm := zgd hm
  obtain ⟨b1, hm⟩ := hm
  replace hm := zgd hm
  obtain ⟨b2, hm⟩ := hm
  replace hm := zcP_inv hm
  obtain ⟨S2, o2, e2, hm⟩ := hm
  have hx := Ex_t (T := S) hx (ehyT_queueOf e2)
  replace hm := zob_inv hm
  obtain ⟨a3, rfl, hm⟩ := hm
  replace hm := zgd hm
  obtain ⟨b3, hm⟩ := hm
  by_cases q4 : zI S2 3 a3 = 0
  · rw [if_pos q4] at hm
    cases hm
    exact hx
  · rw [if_neg q4] at hm
    replace hm := zcP_inv hm
    obtain ⟨S4, v4, e4, hm⟩ := hm
    have hx := Ex_t (T := S2) hx (ehyQ_valueAt e4)
    replace hm := zgd hm
    obtain ⟨b5, hm⟩ := hm
    by_cases q6 : zI S4 0 a1 = 5
    · rw [if_pos q6] at hm
      replace hm := zcP_inv hm
      obtain ⟨S5, v5, e5, hm⟩ := hm
      have hx := Ex_t (T := S4) hx (ehyA_hasPart e5)
      by_cases q7 : v5 = 0
      · rw [if_pos q7] at hm
        cases hm
        exact hx
      · rw [if_neg q7] at hm
        refine Ex_t ?_ (ehyT_receive_45  hm)
        exact hx
    · rw [if_neg q6] at hm
      refine Ex_t ?_ (ehyT_receive_45  hm)
      exact hx
theorem sw_96_11 {X : ie_X} {r : Nat × Nat × Nat} {ls : ie_L} {st : List Value} {h : ie_H} {x : Int32} (q0 : ¬ x = 1) (q1 : ¬ x = 2) (q2 : ¬ x = 4) (q3 : ¬ x = 6) (q4 : ¬ x = 7) : ie_step X 96 (.tableswitch 127 1 7 #[41, 70, 127, 84, 127, 96, 120]) r 11 ls (.int x :: st) h = some (.inl (138, ls, st, h)) := by
  have n0 : x.toInt ≠ 1 := fun z => q0 (Int32.toInt_inj.mp z)
  have n1 : x.toInt ≠ 2 := fun z => q1 (Int32.toInt_inj.mp z)
  have n2 : x.toInt ≠ 4 := fun z => q2 (Int32.toInt_inj.mp z)
  have n3 : x.toInt ≠ 6 := fun z => q3 (Int32.toInt_inj.mp z)
  have n4 : x.toInt ≠ 7 := fun z => q4 (Int32.toInt_inj.mp z)
  clear q0 q1 q2 q3 q4
  show (some (.inl (ie_ts 11 127 1 7 #[41, 70, 127, 84, 127, 96, 120] x.toInt, ls, st, h)) : ie_R) = _
  unfold ie_ts
  by_cases c : x.toInt < 1 ∨ 7 < x.toInt
  · rw [if_pos c]; rfl
  · rw [if_neg c]
    rcases (show x.toInt = 3 ∨ x.toInt = 5 by omega) with e | e
    · rw [e]; rfl
    · rw [e]; rfl
def yT_goOn (n : Nat) (S : hS) (th : Nat) (x1 : Int32) (p2 : Option Nat) : Option (hS × Int32) := (if ztg S th = 9 then (zlb (zR S 0 th) fun o1 => (zob o1 fun a2 => (if zar S a2 then (if ib x1 (zLen S a2) then (zlb ((zAR S a2) (Int32.toNatClampNeg x1)) fun o3 => (zob p2 fun a4 => (if ztg S a4 = 2 then (if zI S 0 a4 = 1 then (zlb (zR S 3 th) fun o5 => (zcP (yT_valueFor n S th x1 (some a4)) fun S6 v6 => (zob o5 fun a7 => (if ztg S6 a7 = 20 then (if ib (y_indexOf x1 (zI S 1 a4)) (zLen S6 a7) then (if ztg S6 a4 = 2 then (zlb (zR S6 9 a4) fun o8 => (zob o3 fun a9 => (if ztg S6 a9 = 5 then (some (szR (szAI S6 a7 (upd (zAI S6 a7) (Int32.toNatClampNeg (y_indexOf x1 (zI S 1 a4))) v6)) 2 a9 o8, 1)) else none))) else none) else none) else none)))) else (if zI S 0 a4 = 2 then (zcP (yT_valueFor n S th x1 (some a4)) fun S10 v10 => (if ztg S10 th = 9 then (zcP (yT_send S10 th x1 (some a4) v10 0) fun S11 v11 => (if v11 = 0 ∨ v11 = 1 then (some (S11, v11)) else none)) else none)) else (if zI S 0 a4 = 4 then (zcP (yT_send S th x1 (some a4) (zI S 2 a4) 1) fun S12 v12 => (if v12 = 0 ∨ v12 = 1 then (some (S12, v12)) else none)) else (if zI S 0 a4 = 6 then (zcP (yT_valueFor n S th x1 (some a4)) fun S13 v13 => (if v13 = 0 then (if ztg S13 a4 = 2 then (zcP (yA_enter S13 a4 1) fun S14 o14 => (zob o3 fun a15 => (if ztg S14 a15 = 5 then (some (szR S14 2 a15 o14, 1)) else none))) else none) else (if ztg S13 a4 = 2 then (zcP (yA_enter S13 a4 0) fun S16 o16 => (zob o3 fun a17 => (if ztg S16 a17 = 5 then (some (szR S16 2 a17 o16, 1)) else none))) else none))) else (if zI S 0 a4 = 7 then (zcP (yT_goRound n S th x1 (some a4)) fun S18 v18 => (if v18 = 0 ∨ v18 = 1 then (some (S18, v18)) else none)) else (zcP (yT_receive S th x1 (some a4)) fun S19 v19 => (if v19 = 0 ∨ v19 = 1 then (some (S19, v19)) else none))))))) else none))) else none) else none))) else none)
theorem hyT_goOn {X : ie_X} {d th : Nat} {n : Nat} {S : hS} {x1 : Int32} {p2 : Option Nat} {S' : hS} {r : Int32} (hm : yT_goOn n S th x1 p2 = some (S', r)) : Go X (d + 5) 96 (0, ie_en 96 [.ref th, .int x1, va_rf p2], [], zhp S) (.inl (some (.int r))) (zhp S') := by
  unfold yT_goOn at hm
  refine go_run 0 (F' := (0, [some (.ref th), some (.int x1), some (va_rf p2), none], [], zhp S)) (by cases p2 <;> rfl) ?_
  refine go_run 1 (F' := (1, [some (.ref th), some (.int x1), some (va_rf p2), none], [.ref th], zhp S)) rfl ?_
  replace hm := zgd hm
  obtain ⟨b1, hm⟩ := hm
  replace hm := zlb_inv hm
  obtain ⟨o1, eo1, hm⟩ := hm
  refine go_hg (v := va_rf o1) rfl b1 (by decide) (by rw [← eo1]; rfl) ?_
  refine go_run 1 (F' := (5, [some (.ref th), some (.int x1), some (va_rf p2), none], [.int x1, va_rf o1], zhp S)) rfl ?_
  replace hm := zob_inv hm
  obtain ⟨a2, rfl, hm⟩ := hm
  replace hm := zgd hm
  obtain ⟨b2, hm⟩ := hm
  replace hm := zgd hm
  obtain ⟨b3, hm⟩ := hm
  replace hm := zlb_inv hm
  obtain ⟨o3, eo3, hm⟩ := hm
  refine go_haald rfl b2 b3 rfl eo3 ?_
  refine go_run 0 (F' := (6, [some (.ref th), some (.int x1), some (va_rf p2), none], [va_rf o3], zhp S)) rfl ?_
  refine go_as rfl ?_
  refine go_run 0 (F' := (7, [some (.ref th), some (.int x1), some (va_rf p2), some (va_rf o3)], [], zhp S)) rfl ?_
  refine go_al rfl rfl ?_
  refine go_run 0 (F' := (8, [some (.ref th), some (.int x1), some (va_rf p2), some (va_rf o3)], [va_rf p2], zhp S)) rfl ?_
  replace hm := zob_inv hm
  obtain ⟨a4, rfl, hm⟩ := hm
  replace hm := zgd hm
  obtain ⟨b4, hm⟩ := hm
  refine go_hg (v := .int (zI S 0 a4)) rfl b4 (by decide) rfl ?_
  refine go_run 0 (F' := (11, [some (.ref th), some (.int x1), some (.ref a4), some (va_rf o3)], [.int (zI S 0 a4)], zhp S)) rfl ?_
  by_cases q5 : zI S 0 a4 = 1
  · rw [if_pos q5] at hm
    refine go_step rfl (F := (52, [some (.ref th), some (.int x1), some (.ref a4), some (va_rf o3)], [], zhp S)) (by simp only [ie_step, q5]; rfl) ?_
    refine go_run 0 (F' := (52, [some (.ref th), some (.int x1), some (.ref a4), some (va_rf o3)], [], zhp S)) rfl ?_
    refine go_run 1 (F' := (53, [some (.ref th), some (.int x1), some (.ref a4), some (va_rf o3)], [.ref th], zhp S)) rfl ?_
    replace hm := zlb_inv hm
    obtain ⟨o5, eo5, hm⟩ := hm
    refine go_hg (v := va_rf o5) rfl b1 (by decide) (by rw [← eo5]; rfl) ?_
    refine go_run 2 (F' := (58, [some (.ref th), some (.int x1), some (.ref a4), some (va_rf o3)], [.ref a4, .int x1, va_rf o5], zhp S)) rfl ?_
    refine go_hg (v := .int (zI S 1 a4)) rfl b4 (by decide) rfl ?_
    refine go_run 0 (F' := (61, [some (.ref th), some (.int x1), some (.ref a4), some (va_rf o3)], [.int (zI S 1 a4), .int x1, va_rf o5], zhp S)) rfl ?_
    refine go_call (m' := 88) (as := [.int x1, .int (zI S 1 a4)]) (rest := [va_rf o5]) (v := some (.int (y_indexOf x1 (zI S 1 a4)))) (h1 := zhp S) rfl (by cases o5 <;> rfl) ⟨rfl, Nat.le_of_ble_eq_true rfl⟩ (hy_indexOf _ _) ?_
    refine go_run 0 (F' := (64, [some (.ref th), some (.int x1), some (.ref a4), some (va_rf o3)], [.int (y_indexOf x1 (zI S 1 a4)), va_rf o5], zhp S)) rfl ?_
    refine go_run 3 (F' := (67, [some (.ref th), some (.int x1), some (.ref a4), some (va_rf o3)], [.ref a4, .int x1, .ref th, .int (y_indexOf x1 (zI S 1 a4)), va_rf o5], zhp S)) rfl ?_
    replace hm := zcP_inv hm
    obtain ⟨S6, v6, e6, hm⟩ := hm
    have k6 := hyT_valueFor (X := X) (d := d + 1) e6
    refine go_call (m' := 97) (as := [.ref th, .int x1, .ref a4]) (rest := [.int (y_indexOf x1 (zI S 1 a4)), va_rf o5]) (v := some (.int v6)) (h1 := zhp S6) rfl (by simp only [ie_step, ie_iv, List.drop, zhp_obj (S := S) b1 (by decide)]; cases o5 <;> rfl) ⟨rfl, Nat.le_of_ble_eq_true rfl⟩ k6 ?_
    refine go_run 0 (F' := (70, [some (.ref th), some (.int x1), some (.ref a4), some (va_rf o3)], [.int v6, .int (y_indexOf x1 (zI S 1 a4)), va_rf o5], zhp S6)) rfl ?_
    refine go_run 0 (F' := (70, [some (.ref th), some (.int x1), some (.ref a4), some (va_rf o3)], [.int v6, .int (y_indexOf x1 (zI S 1 a4)), va_rf o5], zhp S6)) rfl ?_
    replace hm := zob_inv hm
    obtain ⟨a7, rfl, hm⟩ := hm
    replace hm := zgd hm
    obtain ⟨b6, hm⟩ := hm
    replace hm := zgd hm
    obtain ⟨b7, hm⟩ := hm
    refine go_hast0 rfl b6 b7 rfl rfl ?_
    refine go_run 0 (F' := (71, [some (.ref th), some (.int x1), some (.ref a4), some (va_rf o3)], [], zhp (szAI S6 a7 (upd (zAI S6 a7) (Int32.toNatClampNeg (y_indexOf x1 (zI S 1 a4))) v6)))) rfl ?_
    refine go_al rfl rfl ?_
    refine go_run 1 (F' := (73, [some (.ref th), some (.int x1), some (.ref a4), some (va_rf o3)], [.ref a4, va_rf o3], zhp (szAI S6 a7 (upd (zAI S6 a7) (Int32.toNatClampNeg (y_indexOf x1 (zI S 1 a4))) v6)))) rfl ?_
    replace hm := zgd hm
    obtain ⟨b8, hm⟩ := hm
    replace hm := zlb_inv hm
    obtain ⟨o8, eo8, hm⟩ := hm
    refine go_hg (v := va_rf o8) rfl b8 (by decide) (by rw [← eo8]; rfl) ?_
    refine go_run 0 (F' := (76, [some (.ref th), some (.int x1), some (.ref a4), some (va_rf o3)], [va_rf o8, va_rf o3], zhp (szAI S6 a7 (upd (zAI S6 a7) (Int32.toNatClampNeg (y_indexOf x1 (zI S 1 a4))) v6)))) rfl ?_
    replace hm := zob_inv hm
    obtain ⟨a9, rfl, hm⟩ := hm
    replace hm := zgd hm
    obtain ⟨b9, hm⟩ := hm
    refine go_hpR (v := o8) rfl b9 (by decide) (by cases o8 <;> rfl) (Nat.le_of_ble_eq_true rfl) fs_4_2 ?_
    refine go_run 1 (F' := (80, [some (.ref th), some (.int x1), some (.ref a4), some (.ref a9)], [.int 1], zhp (szR (szAI S6 a7 (upd (zAI S6 a7) (Int32.toNatClampNeg (y_indexOf x1 (zI S 1 a4))) v6)) 2 a9 o8))) rfl ?_
    cases hm
    exact go_end rfl rfl
  · rw [if_neg q5] at hm
    by_cases q10 : zI S 0 a4 = 2
    · rw [if_pos q10] at hm
      refine go_step rfl (F := (81, [some (.ref th), some (.int x1), some (.ref a4), some (va_rf o3)], [], zhp S)) (by simp only [ie_step, q10]; rfl) ?_
      refine go_run 0 (F' := (81, [some (.ref th), some (.int x1), some (.ref a4), some (va_rf o3)], [], zhp S)) rfl ?_
      refine go_run 6 (F' := (87, [some (.ref th), some (.int x1), some (.ref a4), some (va_rf o3)], [.ref a4, .int x1, .ref th, .ref a4, .int x1, .ref th], zhp S)) rfl ?_
      replace hm := zcP_inv hm
      obtain ⟨S10, v10, e10, hm⟩ := hm
      have k10 := hyT_valueFor (X := X) (d := d + 1) e10
      refine go_call (m' := 97) (as := [.ref th, .int x1, .ref a4]) (rest := [.ref a4, .int x1, .ref th]) (v := some (.int v10)) (h1 := zhp S10) rfl (by simp only [ie_step, ie_iv, List.drop, zhp_obj (S := S) b1 (by decide)]; rfl) ⟨rfl, Nat.le_of_ble_eq_true rfl⟩ k10 ?_
      refine go_run 0 (F' := (90, [some (.ref th), some (.int x1), some (.ref a4), some (va_rf o3)], [.int v10, .ref a4, .int x1, .ref th], zhp S10)) rfl ?_
      refine go_run 1 (F' := (91, [some (.ref th), some (.int x1), some (.ref a4), some (va_rf o3)], [.int 0, .int v10, .ref a4, .int x1, .ref th], zhp S10)) rfl ?_
      replace hm := zgd hm
      obtain ⟨b11, hm⟩ := hm
      replace hm := zcP_inv hm
      obtain ⟨S11, v11, e11, hm⟩ := hm
      have k11 := hyT_send (X := X) (d := d + 2) e11
      refine go_call (m' := 102) (as := [.ref th, .int x1, .ref a4, .int v10, .int 0]) (rest := []) (v := some (.int v11)) (h1 := zhp S11) rfl (by simp only [ie_step, ie_iv, List.drop, zhp_obj (S := S10) b11 (by decide)]; rfl) ⟨rfl, Nat.le_of_ble_eq_true rfl⟩ k11 ?_
      refine go_run 0 (F' := (94, [some (.ref th), some (.int x1), some (.ref a4), some (va_rf o3)], [.int v11], zhp S11)) rfl ?_
      refine go_run 0 (F' := (94, [some (.ref th), some (.int x1), some (.ref a4), some (va_rf o3)], [.int v11], zhp S11)) rfl ?_
      replace hm := zgd hm
      obtain ⟨b12, hm⟩ := hm
      cases hm
      exact go_ret rfl rfl rfl (decide_eq_true b12)
    · rw [if_neg q10] at hm
      by_cases q13 : zI S 0 a4 = 4
      · rw [if_pos q13] at hm
        refine go_step rfl (F := (95, [some (.ref th), some (.int x1), some (.ref a4), some (va_rf o3)], [], zhp S)) (by simp only [ie_step, q13]; rfl) ?_
        refine go_run 0 (F' := (95, [some (.ref th), some (.int x1), some (.ref a4), some (va_rf o3)], [], zhp S)) rfl ?_
        refine go_run 4 (F' := (99, [some (.ref th), some (.int x1), some (.ref a4), some (va_rf o3)], [.ref a4, .ref a4, .int x1, .ref th], zhp S)) rfl ?_
        refine go_hg (v := .int (zI S 2 a4)) rfl b4 (by decide) rfl ?_
        refine go_run 1 (F' := (103, [some (.ref th), some (.int x1), some (.ref a4), some (va_rf o3)], [.int 1, .int (zI S 2 a4), .ref a4, .int x1, .ref th], zhp S)) rfl ?_
        replace hm := zcP_inv hm
        obtain ⟨S12, v12, e12, hm⟩ := hm
        have k12 := hyT_send (X := X) (d := d + 2) e12
        refine go_call (m' := 102) (as := [.ref th, .int x1, .ref a4, .int (zI S 2 a4), .int 1]) (rest := []) (v := some (.int v12)) (h1 := zhp S12) rfl (by simp only [ie_step, ie_iv, List.drop, zhp_obj (S := S) b1 (by decide)]; rfl) ⟨rfl, Nat.le_of_ble_eq_true rfl⟩ k12 ?_
        refine go_run 0 (F' := (106, [some (.ref th), some (.int x1), some (.ref a4), some (va_rf o3)], [.int v12], zhp S12)) rfl ?_
        refine go_run 0 (F' := (106, [some (.ref th), some (.int x1), some (.ref a4), some (va_rf o3)], [.int v12], zhp S12)) rfl ?_
        replace hm := zgd hm
        obtain ⟨b14, hm⟩ := hm
        cases hm
        exact go_ret rfl rfl rfl (decide_eq_true b14)
      · rw [if_neg q13] at hm
        by_cases q15 : zI S 0 a4 = 6
        · rw [if_pos q15] at hm
          refine go_step rfl (F := (107, [some (.ref th), some (.int x1), some (.ref a4), some (va_rf o3)], [], zhp S)) (by simp only [ie_step, q15]; rfl) ?_
          refine go_run 0 (F' := (107, [some (.ref th), some (.int x1), some (.ref a4), some (va_rf o3)], [], zhp S)) rfl ?_
          refine go_run 0 (F' := (107, [some (.ref th), some (.int x1), some (.ref a4), some (va_rf o3)], [], zhp S)) rfl ?_
          refine go_al rfl rfl ?_
          refine go_run 4 (F' := (112, [some (.ref th), some (.int x1), some (.ref a4), some (va_rf o3)], [.ref a4, .int x1, .ref th, .ref a4, va_rf o3], zhp S)) rfl ?_
          replace hm := zcP_inv hm
          obtain ⟨S13, v13, e13, hm⟩ := hm
          have k13 := hyT_valueFor (X := X) (d := d + 1) e13
          refine go_call (m' := 97) (as := [.ref th, .int x1, .ref a4]) (rest := [.ref a4, va_rf o3]) (v := some (.int v13)) (h1 := zhp S13) rfl (by simp only [ie_step, ie_iv, List.drop, zhp_obj (S := S) b1 (by decide)]; cases o3 <;> rfl) ⟨rfl, Nat.le_of_ble_eq_true rfl⟩ k13 ?_
          refine go_run 0 (F' := (115, [some (.ref th), some (.int x1), some (.ref a4), some (va_rf o3)], [.int v13, .ref a4, va_rf o3], zhp S13)) rfl ?_
          refine go_run 0 (F' := (115, [some (.ref th), some (.int x1), some (.ref a4), some (va_rf o3)], [.int v13, .ref a4, va_rf o3], zhp S13)) rfl ?_
          refine go_step rfl rfl ?_
          by_cases q16 : v13 = 0
          · rw [if_pos q16] at hm ⊢
            refine go_run 0 (F' := (122, [some (.ref th), some (.int x1), some (.ref a4), some (va_rf o3)], [.ref a4, va_rf o3], zhp S13)) rfl ?_
            refine go_run 1 (F' := (123, [some (.ref th), some (.int x1), some (.ref a4), some (va_rf o3)], [.int 1, .ref a4, va_rf o3], zhp S13)) rfl ?_
            replace hm := zgd hm
            obtain ⟨b17, hm⟩ := hm
            replace hm := zcP_inv hm
            obtain ⟨S14, o14, e14, hm⟩ := hm
            have k14 := hyA_enter (X := X) (d := d + 3) e14
            refine go_call (m' := 106) (as := [.ref a4, .int 1]) (rest := [va_rf o3]) (v := some (va_rf o14)) (h1 := zhp S14) rfl (by simp only [ie_step, ie_iv, List.drop, zhp_obj (S := S13) b17 (by decide)]; cases o3 <;> rfl) ⟨rfl, Nat.le_of_ble_eq_true rfl⟩ k14 ?_
            refine go_run 0 (F' := (126, [some (.ref th), some (.int x1), some (.ref a4), some (va_rf o3)], [va_rf o14, va_rf o3], zhp S14)) rfl ?_
            refine go_run 0 (F' := (126, [some (.ref th), some (.int x1), some (.ref a4), some (va_rf o3)], [va_rf o14, va_rf o3], zhp S14)) rfl ?_
            replace hm := zob_inv hm
            obtain ⟨a15, rfl, hm⟩ := hm
            replace hm := zgd hm
            obtain ⟨b18, hm⟩ := hm
            refine go_hpR (v := o14) rfl b18 (by decide) (by cases o14 <;> rfl) (Nat.le_of_ble_eq_true rfl) fs_4_2 ?_
            refine go_run 1 (F' := (130, [some (.ref th), some (.int x1), some (.ref a4), some (.ref a15)], [.int 1], zhp (szR S14 2 a15 o14))) rfl ?_
            cases hm
            exact go_end rfl rfl
          · rw [if_neg q16] at hm ⊢
            refine go_run 0 (F' := (118, [some (.ref th), some (.int x1), some (.ref a4), some (va_rf o3)], [.ref a4, va_rf o3], zhp S13)) rfl ?_
            refine go_run 2 (F' := (123, [some (.ref th), some (.int x1), some (.ref a4), some (va_rf o3)], [.int 0, .ref a4, va_rf o3], zhp S13)) rfl ?_
            replace hm := zgd hm
            obtain ⟨b19, hm⟩ := hm
            replace hm := zcP_inv hm
            obtain ⟨S16, o16, e16, hm⟩ := hm
            have k16 := hyA_enter (X := X) (d := d + 3) e16
            refine go_call (m' := 106) (as := [.ref a4, .int 0]) (rest := [va_rf o3]) (v := some (va_rf o16)) (h1 := zhp S16) rfl (by simp only [ie_step, ie_iv, List.drop, zhp_obj (S := S13) b19 (by decide)]; cases o3 <;> rfl) ⟨rfl, Nat.le_of_ble_eq_true rfl⟩ k16 ?_
            refine go_run 0 (F' := (126, [some (.ref th), some (.int x1), some (.ref a4), some (va_rf o3)], [va_rf o16, va_rf o3], zhp S16)) rfl ?_
            refine go_run 0 (F' := (126, [some (.ref th), some (.int x1), some (.ref a4), some (va_rf o3)], [va_rf o16, va_rf o3], zhp S16)) rfl ?_
            replace hm := zob_inv hm
            obtain ⟨a17, rfl, hm⟩ := hm
            replace hm := zgd hm
            obtain ⟨b20, hm⟩ := hm
            refine go_hpR (v := o16) rfl b20 (by decide) (by cases o16 <;> rfl) (Nat.le_of_ble_eq_true rfl) fs_4_2 ?_
            refine go_run 1 (F' := (130, [some (.ref th), some (.int x1), some (.ref a4), some (.ref a17)], [.int 1], zhp (szR S16 2 a17 o16))) rfl ?_
            cases hm
            exact go_end rfl rfl
        · rw [if_neg q15] at hm
          by_cases q21 : zI S 0 a4 = 7
          · rw [if_pos q21] at hm
            refine go_step rfl (F := (131, [some (.ref th), some (.int x1), some (.ref a4), some (va_rf o3)], [], zhp S)) (by simp only [ie_step, q21]; rfl) ?_
            refine go_run 0 (F' := (131, [some (.ref th), some (.int x1), some (.ref a4), some (va_rf o3)], [], zhp S)) rfl ?_
            refine go_run 3 (F' := (134, [some (.ref th), some (.int x1), some (.ref a4), some (va_rf o3)], [.ref a4, .int x1, .ref th], zhp S)) rfl ?_
            replace hm := zcP_inv hm
            obtain ⟨S18, v18, e18, hm⟩ := hm
            have k18 := hyT_goRound (X := X) (d := d) e18
            refine go_call (m' := 107) (as := [.ref th, .int x1, .ref a4]) (rest := []) (v := some (.int v18)) (h1 := zhp S18) rfl (by simp only [ie_step, ie_iv, List.drop, zhp_obj (S := S) b1 (by decide)]; rfl) ⟨rfl, Nat.le_of_ble_eq_true rfl⟩ k18 ?_
            refine go_run 0 (F' := (137, [some (.ref th), some (.int x1), some (.ref a4), some (va_rf o3)], [.int v18], zhp S18)) rfl ?_
            refine go_run 0 (F' := (137, [some (.ref th), some (.int x1), some (.ref a4), some (va_rf o3)], [.int v18], zhp S18)) rfl ?_
            replace hm := zgd hm
            obtain ⟨b22, hm⟩ := hm
            cases hm
            exact go_ret rfl rfl rfl (decide_eq_true b22)
          · rw [if_neg q21] at hm
            refine go_step rfl (F := (138, [some (.ref th), some (.int x1), some (.ref a4), some (va_rf o3)], [], zhp S)) (sw_96_11 q5 q10 q13 q15 q21) ?_
            refine go_run 0 (F' := (138, [some (.ref th), some (.int x1), some (.ref a4), some (va_rf o3)], [], zhp S)) rfl ?_
            refine go_run 3 (F' := (141, [some (.ref th), some (.int x1), some (.ref a4), some (va_rf o3)], [.ref a4, .int x1, .ref th], zhp S)) rfl ?_
            replace hm := zcP_inv hm
            obtain ⟨S19, v19, e19, hm⟩ := hm
            have k19 := hyT_receive (X := X) (d := d + 2) e19
            refine go_call (m' := 109) (as := [.ref th, .int x1, .ref a4]) (rest := []) (v := some (.int v19)) (h1 := zhp S19) rfl (by simp only [ie_step, ie_iv, List.drop, zhp_obj (S := S) b1 (by decide)]; rfl) ⟨rfl, Nat.le_of_ble_eq_true rfl⟩ k19 ?_
            refine go_run 0 (F' := (144, [some (.ref th), some (.int x1), some (.ref a4), some (va_rf o3)], [.int v19], zhp S19)) rfl ?_
            refine go_run 0 (F' := (144, [some (.ref th), some (.int x1), some (.ref a4), some (va_rf o3)], [.int v19], zhp S19)) rfl ?_
            replace hm := zgd hm
            obtain ⟨b23, hm⟩ := hm
            cases hm
            exact go_ret rfl rfl rfl (decide_eq_true b23)
theorem ehyT_goOn {th : Nat} {n : Nat} {S : hS} {x1 : Int32} {p2 : Option Nat} {S' : hS} {r : Int32} (hm : yT_goOn n S th x1 p2 = some (S', r)) : Ex S S' := by
  unfold yT_goOn at hm
  have hx : Ex S S := Ex_r
  replace hm := zgd hm
  obtain ⟨b1, hm⟩ := hm
  replace hm := zlb_inv hm
  obtain ⟨o1, eo1, hm⟩ := hm
  replace hm := zob_inv hm
  obtain ⟨a2, rfl, hm⟩ := hm
  replace hm := zgd hm
  obtain ⟨b2, hm⟩ := hm
  replace hm := zgd hm
  obtain ⟨b3, hm⟩ := hm
  replace hm := zlb_inv hm
  obtain ⟨o3, eo3, hm⟩ := hm
  replace hm := zob_inv hm
  obtain ⟨a4, rfl, hm⟩ := hm
  replace hm := zgd hm
  obtain ⟨b4, hm⟩ := hm
  by_cases q5 : zI S 0 a4 = 1
  · rw [if_pos q5] at hm
    replace hm := zlb_inv hm
    obtain ⟨o5, eo5, hm⟩ := hm
    replace hm := zcP_inv hm
    obtain ⟨S6, v6, e6, hm⟩ := hm
    have hx := Ex_t (T := S) hx (ehyT_valueFor e6)
    replace hm := zob_inv hm
    obtain ⟨a7, rfl, hm⟩ := hm
    replace hm := zgd hm
    obtain ⟨b6, hm⟩ := hm
    replace hm := zgd hm
    obtain ⟨b7, hm⟩ := hm
    replace hm := zgd hm
    obtain ⟨b8, hm⟩ := hm
    replace hm := zlb_inv hm
    obtain ⟨o8, eo8, hm⟩ := hm
    replace hm := zob_inv hm
    obtain ⟨a9, rfl, hm⟩ := hm
    replace hm := zgd hm
    obtain ⟨b9, hm⟩ := hm
    cases hm
    exact hx
  · rw [if_neg q5] at hm
    by_cases q10 : zI S 0 a4 = 2
    · rw [if_pos q10] at hm
      replace hm := zcP_inv hm
      obtain ⟨S10, v10, e10, hm⟩ := hm
      have hx := Ex_t (T := S) hx (ehyT_valueFor e10)
      replace hm := zgd hm
      obtain ⟨b11, hm⟩ := hm
      replace hm := zcP_inv hm
      obtain ⟨S11, v11, e11, hm⟩ := hm
      have hx := Ex_t (T := S10) hx (ehyT_send e11)
      replace hm := zgd hm
      obtain ⟨b12, hm⟩ := hm
      cases hm
      exact hx
    · rw [if_neg q10] at hm
      by_cases q13 : zI S 0 a4 = 4
      · rw [if_pos q13] at hm
        replace hm := zcP_inv hm
        obtain ⟨S12, v12, e12, hm⟩ := hm
        have hx := Ex_t (T := S) hx (ehyT_send e12)
        replace hm := zgd hm
        obtain ⟨b14, hm⟩ := hm
        cases hm
        exact hx
      · rw [if_neg q13] at hm
        by_cases q15 : zI S 0 a4 = 6
        · rw [if_pos q15] at hm
          replace hm := zcP_inv hm
          obtain ⟨S13, v13, e13, hm⟩ := hm
          have hx := Ex_t (T := S) hx (ehyT_valueFor e13)
          by_cases q16 : v13 = 0
          · rw [if_pos q16] at hm
            replace hm := zgd hm
            obtain ⟨b17, hm⟩ := hm
            replace hm := zcP_inv hm
            obtain ⟨S14, o14, e14, hm⟩ := hm
            have hx := Ex_t (T := S13) hx (ehyA_enter e14)
            replace hm := zob_inv hm
            obtain ⟨a15, rfl, hm⟩ := hm
            replace hm := zgd hm
            obtain ⟨b18, hm⟩ := hm
            cases hm
            exact hx
          · rw [if_neg q16] at hm
            replace hm := zgd hm
            obtain ⟨b19, hm⟩ := hm
            replace hm := zcP_inv hm
            obtain ⟨S16, o16, e16, hm⟩ := hm
            have hx := Ex_t (T := S13) hx (ehyA_enter e16)
            replace hm := zob_inv hm
            obtain ⟨a17, rfl, hm⟩ := hm
            replace hm := zgd hm
            obtain ⟨b20, hm⟩ := hm
            cases hm
            exact hx
        · rw [if_neg q15] at hm
          by_cases q21 : zI S 0 a4 = 7
          · rw [if_pos q21] at hm
            replace hm := zcP_inv hm
            obtain ⟨S18, v18, e18, hm⟩ := hm
            have hx := Ex_t (T := S) hx (ehyT_goRound e18)
            replace hm := zgd hm
            obtain ⟨b22, hm⟩ := hm
            cases hm
            exact hx
          · rw [if_neg q21] at hm
            replace hm := zcP_inv hm
            obtain ⟨S19, v19, e19, hm⟩ := hm
            have hx := Ex_t (T := S) hx (ehyT_receive e19)
            replace hm := zgd hm
            obtain ⟨b23, hm⟩ := hm
            cases hm
            exact hx
def yT_takeTurn (n : Nat) (S : hS) (th : Nat) (x1 : Int32) : Option (hS × Int32) := (if ztg S th = 9 then (zlb (zR S 0 th) fun o1 => (zob o1 fun a2 => (if zar S a2 then (if ib x1 (zLen S a2) then (zlb ((zAR S a2) (Int32.toNatClampNeg x1)) fun o3 => (zob o3 fun a4 => (if ztg S a4 = 5 then (zlb (zR S 2 a4) fun o5 => (zoc o5 (some (S, 2)) fun a6 => (zcP (yT_goOn n S th x1 (some a6)) fun S7 v7 => (if v7 = 0 then (some (S7, 0)) else (if ztg S7 th = 9 then (some (szI S7 5 th 1, 1)) else none))))) else none))) else none) else none))) else none)
theorem hyT_takeTurn {X : ie_X} {d th : Nat} {n : Nat} {S : hS} {x1 : Int32} {S' : hS} {r : Int32} (hm : yT_takeTurn n S th x1 = some (S', r)) : Go X (d + 6) 95 (0, ie_en 95 [.ref th, .int x1], [], zhp S) (.inl (some (.int r))) (zhp S') := by
  unfold yT_takeTurn at hm
  refine go_run 0 (F' := (0, [some (.ref th), some (.int x1), none], [], zhp S)) rfl ?_
  refine go_run 1 (F' := (1, [some (.ref th), some (.int x1), none], [.ref th], zhp S)) rfl ?_
  replace hm := zgd hm
  obtain ⟨b1, hm⟩ := hm
  replace hm := zlb_inv hm
  obtain ⟨o1, eo1, hm⟩ := hm
  refine go_hg (v := va_rf o1) rfl b1 (by decide) (by rw [← eo1]; rfl) ?_
  refine go_run 1 (F' := (5, [some (.ref th), some (.int x1), none], [.int x1, va_rf o1], zhp S)) rfl ?_
  replace hm := zob_inv hm
  obtain ⟨a2, rfl, hm⟩ := hm
  replace hm := zgd hm
  obtain ⟨b2, hm⟩ := hm
  replace hm := zgd hm
  obtain ⟨b3, hm⟩ := hm
  replace hm := zlb_inv hm
  obtain ⟨o3, eo3, hm⟩ := hm
  refine go_haald rfl b2 b3 rfl eo3 ?_
  refine go_run 0 (F' := (6, [some (.ref th), some (.int x1), none], [va_rf o3], zhp S)) rfl ?_
  replace hm := zob_inv hm
  obtain ⟨a4, rfl, hm⟩ := hm
  replace hm := zgd hm
  obtain ⟨b4, hm⟩ := hm
  replace hm := zlb_inv hm
  obtain ⟨o5, eo5, hm⟩ := hm
  refine go_hg (v := va_rf o5) rfl b4 (by decide) (by rw [← eo5]; rfl) ?_
  refine go_run 0 (F' := (9, [some (.ref th), some (.int x1), none], [va_rf o5], zhp S)) rfl ?_
  refine go_as rfl ?_
  refine go_run 0 (F' := (10, [some (.ref th), some (.int x1), some (va_rf o5)], [], zhp S)) rfl ?_
  refine go_al rfl rfl ?_
  refine go_run 0 (F' := (11, [some (.ref th), some (.int x1), some (va_rf o5)], [va_rf o5], zhp S)) rfl ?_
  cases o5 with
  | none =>
    replace hm := zoc_n hm
    refine go_step rfl rfl ?_
    refine go_run 0 (F' := (14, [some (.ref th), some (.int x1), some (.null)], [], zhp S)) rfl ?_
    refine go_run 1 (F' := (15, [some (.ref th), some (.int x1), some (.null)], [.int 2], zhp S)) rfl ?_
    cases hm
    exact go_end rfl rfl
  | some a6 =>
    replace hm := zoc_s hm
    refine go_step rfl rfl ?_
    refine go_run 0 (F' := (16, [some (.ref th), some (.int x1), some (.ref a6)], [], zhp S)) rfl ?_
    refine go_run 3 (F' := (19, [some (.ref th), some (.int x1), some (.ref a6)], [.ref a6, .int x1, .ref th], zhp S)) rfl ?_
    replace hm := zcP_inv hm
    obtain ⟨S7, v7, e7, hm⟩ := hm
    have k7 := hyT_goOn (X := X) (d := d) e7
    refine go_call (m' := 96) (as := [.ref th, .int x1, .ref a6]) (rest := []) (v := some (.int v7)) (h1 := zhp S7) rfl (by simp only [ie_step, ie_iv, List.drop, zhp_obj (S := S) b1 (by decide)]; rfl) ⟨rfl, Nat.le_of_ble_eq_true rfl⟩ k7 ?_
    refine go_run 0 (F' := (22, [some (.ref th), some (.int x1), some (.ref a6)], [.int v7], zhp S7)) rfl ?_
    refine go_run 0 (F' := (22, [some (.ref th), some (.int x1), some (.ref a6)], [.int v7], zhp S7)) rfl ?_
    refine go_step rfl rfl ?_
    by_cases q5 : v7 = 0
    · rw [if_pos q5] at hm ⊢
      refine go_run 0 (F' := (25, [some (.ref th), some (.int x1), some (.ref a6)], [], zhp S7)) rfl ?_
      refine go_run 1 (F' := (26, [some (.ref th), some (.int x1), some (.ref a6)], [.int 0], zhp S7)) rfl ?_
      cases hm
      exact go_end rfl rfl
    · rw [if_neg q5] at hm ⊢
      refine go_run 0 (F' := (27, [some (.ref th), some (.int x1), some (.ref a6)], [], zhp S7)) rfl ?_
      refine go_run 2 (F' := (29, [some (.ref th), some (.int x1), some (.ref a6)], [.int 1, .ref th], zhp S7)) rfl ?_
      replace hm := zgd hm
      obtain ⟨b6, hm⟩ := hm
      refine go_hpI rfl b6 (by decide) rfl (Nat.le_of_ble_eq_true rfl) fs_8_5 ?_
      refine go_run 1 (F' := (33, [some (.ref th), some (.int x1), some (.ref a6)], [.int 1], zhp (szI S7 5 th 1))) rfl ?_
      cases hm
      exact go_end rfl rfl
theorem ehyT_takeTurn {th : Nat} {n : Nat} {S : hS} {x1 : Int32} {S' : hS} {r : Int32} (hm : yT_takeTurn n S th x1 = some (S', r)) : Ex S S' := by
  unfold yT_takeTurn at hm
  have hx : Ex S S := Ex_r
  replace hm := zgd hm
  obtain ⟨b1, hm⟩ := hm
  replace hm := zlb_inv hm
  obtain ⟨o1, eo1, hm⟩ := hm
  replace hm := zob_inv hm
  obtain ⟨a2, rfl, hm⟩ := hm
  replace hm := zgd hm
  obtain ⟨b2, hm⟩ := hm
  replace hm := zgd hm
  obtain ⟨b3, hm⟩ := hm
  replace hm := zlb_inv hm
  obtain ⟨o3, eo3, hm⟩ := hm
  replace hm := zob_inv hm
  obtain ⟨a4, rfl, hm⟩ := hm
  replace hm := zgd hm
  obtain ⟨b4, hm⟩ := hm
  replace hm := zlb_inv hm
  obtain ⟨o5, eo5, hm⟩ := hm
  cases o5 with
  | none =>
    replace hm := zoc_n hm
    cases hm
    exact hx
  | some a6 =>
    replace hm := zoc_s hm
    replace hm := zcP_inv hm
    obtain ⟨S7, v7, e7, hm⟩ := hm
    have hx := Ex_t (T := S) hx (ehyT_goOn e7)
    by_cases q5 : v7 = 0
    · rw [if_pos q5] at hm
      cases hm
      exact hx
    · rw [if_neg q5] at hm
      replace hm := zgd hm
      obtain ⟨b6, hm⟩ := hm
      cases hm
      exact hx
def y_step (n : Nat) (S : hS) (th : Nat) (x1 : Int32) : Option (hS × (Nat ⊕ Int32)) := (zcT (y_needParty S x1) fun S1 v1 => (if ztg S1 th = 1 then (zcT (y_needPlay S1 th) fun S2 v2 => (if ztg S2 th = 1 then (zlb (zR S2 5 th) fun o3 => (zob o3 fun a4 => (if ztg S2 a4 = 9 then (zcP (yT_takeTurn n S2 a4 x1) fun S5 v5 => (some (S5, .inr v5))) else none))) else none)) else none))
theorem hy_step {X : ie_X} {d th : Nat} {n : Nat} {S : hS} {x1 : Int32} {S' : hS} {r : Nat ⊕ Int32} (hm : y_step n S th x1 = some (S', r)) : Go X (d + 7) 94 (0, ie_en 94 [.ref th, .int x1], [], zhp S) (roI r) (zhp S') := by
  unfold y_step at hm
  refine go_run 0 (F' := (0, [some (.ref th), some (.int x1)], [], zhp S)) rfl ?_
  refine go_run 1 (F' := (1, [some (.ref th), some (.int x1)], [.int x1], zhp S)) rfl ?_
  replace hm := zcT_inv hm
  obtain ⟨S1, w1, e1, hm⟩ := hm
  have k1 := hy_needParty (X := X) (d := d + 5) e1
  rcases w1 with c1 | v1
  · cases hm
    exact go_out (m' := 80) (as := [.int x1]) (rest := []) rfl rfl ⟨rfl, Nat.le_of_ble_eq_true rfl⟩ rfl rfl k1
  replace hm := zcT_v hm
  refine go_call (m' := 80) (as := [.int x1]) (rest := []) (v := none) (h1 := zhp S1) rfl rfl ⟨rfl, Nat.le_of_ble_eq_true rfl⟩ k1 ?_
  refine go_run 0 (F' := (4, [some (.ref th), some (.int x1)], [], zhp S1)) rfl ?_
  refine go_run 1 (F' := (5, [some (.ref th), some (.int x1)], [.ref th], zhp S1)) rfl ?_
  replace hm := zgd hm
  obtain ⟨b1, hm⟩ := hm
  replace hm := zcT_inv hm
  obtain ⟨S2, w2, e2, hm⟩ := hm
  have k2 := hy_needPlay (X := X) (d := d + 6) e2
  rcases w2 with c2 | v2
  · cases hm
    exact go_out (m' := 81) (as := [.ref th]) (rest := []) rfl (by simp only [ie_step, ie_iv, List.drop, zhp_obj (S := S1) b1 (by decide)]; rfl) ⟨rfl, Nat.le_of_ble_eq_true rfl⟩ rfl rfl k2
  replace hm := zcT_v hm
  refine go_call (m' := 81) (as := [.ref th]) (rest := []) (v := none) (h1 := zhp S2) rfl (by simp only [ie_step, ie_iv, List.drop, zhp_obj (S := S1) b1 (by decide)]; rfl) ⟨rfl, Nat.le_of_ble_eq_true rfl⟩ k2 ?_
  refine go_run 0 (F' := (8, [some (.ref th), some (.int x1)], [], zhp S2)) rfl ?_
  refine go_run 1 (F' := (9, [some (.ref th), some (.int x1)], [.ref th], zhp S2)) rfl ?_
  replace hm := zgd hm
  obtain ⟨b2, hm⟩ := hm
  replace hm := zlb_inv hm
  obtain ⟨o3, eo3, hm⟩ := hm
  refine go_hg (v := va_rf o3) rfl b2 (by decide) (by rw [← eo3]; rfl) ?_
  refine go_run 1 (F' := (13, [some (.ref th), some (.int x1)], [.int x1, va_rf o3], zhp S2)) rfl ?_
  replace hm := zob_inv hm
  obtain ⟨a4, rfl, hm⟩ := hm
  refine go_run 0 (F' := (13, [some (.ref th), some (.int x1)], [.int x1, .ref a4], zhp S2)) rfl ?_
  replace hm := zgd hm
  obtain ⟨b3, hm⟩ := hm
  replace hm := zcP_inv hm
  obtain ⟨S5, v5, e5, hm⟩ := hm
  have k5 := hyT_takeTurn (X := X) (d := d) e5
  refine go_call (m' := 95) (as := [.ref a4, .int x1]) (rest := []) (v := some (.int v5)) (h1 := zhp S5) rfl (by simp only [ie_step, ie_iv, List.drop, zhp_obj (S := S2) b3 (by decide)]; rfl) ⟨rfl, Nat.le_of_ble_eq_true rfl⟩ k5 ?_
  refine go_run 0 (F' := (16, [some (.ref th), some (.int x1)], [.int v5], zhp S5)) rfl ?_
  refine go_run 0 (F' := (16, [some (.ref th), some (.int x1)], [.int v5], zhp S5)) rfl ?_
  cases hm
  exact go_end rfl rfl
theorem ehy_step {th : Nat} {n : Nat} {S : hS} {x1 : Int32} {S' : hS} {r : Nat ⊕ Int32} (hm : y_step n S th x1 = some (S', r)) : Ex S S' := by
  unfold y_step at hm
  have hx : Ex S S := Ex_r
  replace hm := zcT_inv hm
  obtain ⟨S1, w1, e1, hm⟩ := hm
  have hx := Ex_t (T := S) hx (ehy_needParty e1)
  rcases w1 with c1 | v1
  · cases hm
    exact hx
  replace hm := zcT_v hm
  replace hm := zgd hm
  obtain ⟨b1, hm⟩ := hm
  replace hm := zcT_inv hm
  obtain ⟨S2, w2, e2, hm⟩ := hm
  have hx := Ex_t (T := S1) hx (ehy_needPlay e2)
  rcases w2 with c2 | v2
  · cases hm
    exact hx
  replace hm := zcT_v hm
  replace hm := zgd hm
  obtain ⟨b2, hm⟩ := hm
  replace hm := zlb_inv hm
  obtain ⟨o3, eo3, hm⟩ := hm
  replace hm := zob_inv hm
  obtain ⟨a4, rfl, hm⟩ := hm
  replace hm := zgd hm
  obtain ⟨b3, hm⟩ := hm
  replace hm := zcP_inv hm
  obtain ⟨S5, v5, e5, hm⟩ := hm
  have hx := Ex_t (T := S2) hx (ehyT_takeTurn e5)
  cases hm
  exact hx
def y_run_32 (th : Nat) : Nat → hS → Int32 → Int32 → Int32 → Int32 → Option (hS × (Nat ⊕ Int32))
  | 0, _, _, _, _, _ => none
  | n + 1, S, l1, l2, l3, l4 => (if l2 ≤ l4 then (some (S, .inr l3)) else (if ztg S th = 1 then (zlb (zR S 5 th) fun o1 => (zob o1 fun a2 => (if ztg S a2 = 9 then (zcP (yT_takeTurn n S a2 ((l1 + l4) - (l1 + l4) / 6 * 6)) fun S3 v3 => (if v3 = 1 then (y_run_32 th n S3 l1 l2 (l3 + 1) (l4 + 1)) else (y_run_32 th n S3 l1 l2 l3 (l4 + 1)))) else none))) else none))
theorem hy_run_32 {X : ie_X} {d th : Nat} : ∀ (n : Nat) {S : hS} {l1 : Int32} {l2 : Int32} {l3 : Int32} {l4 : Int32} {S' : hS} {r : Nat ⊕ Int32}, y_run_32 th n S l1 l2 l3 l4 = some (S', r) → Go X (d + 7) 113 (32, [some (.ref th), some (.int l1), some (.int l2), some (.int l3), some (.int l4)], [], zhp S) (roI r) (zhp S') := by
  intro n
  induction n with
  | zero => intro S l1 l2 l3 l4 S' r hm; cases hm
  | succ n ih =>
    intro S l1 l2 l3 l4 S' r hm
    unfold y_run_32 at hm
    refine go_run 0 (F' := (32, [some (.ref th), some (.int l1), some (.int l2), some (.int l3), some (.int l4)], [], zhp S)) rfl ?_
    refine go_run 2 (F' := (35, [some (.ref th), some (.int l1), some (.int l2), some (.int l3), some (.int l4)], [.int l2, .int l4], zhp S)) rfl ?_
    refine go_step rfl rfl ?_
    by_cases q1 : l2 ≤ l4
    · rw [if_pos q1] at hm ⊢
      refine go_run 0 (F' := (65, [some (.ref th), some (.int l1), some (.int l2), some (.int l3), some (.int l4)], [], zhp S)) rfl ?_
      refine go_run 1 (F' := (66, [some (.ref th), some (.int l1), some (.int l2), some (.int l3), some (.int l4)], [.int l3], zhp S)) rfl ?_
      cases hm
      exact go_end rfl rfl
    · rw [if_neg q1] at hm ⊢
      refine go_run 0 (F' := (38, [some (.ref th), some (.int l1), some (.int l2), some (.int l3), some (.int l4)], [], zhp S)) rfl ?_
      refine go_run 1 (F' := (39, [some (.ref th), some (.int l1), some (.int l2), some (.int l3), some (.int l4)], [.ref th], zhp S)) rfl ?_
      replace hm := zgd hm
      obtain ⟨b2, hm⟩ := hm
      replace hm := zlb_inv hm
      obtain ⟨o1, eo1, hm⟩ := hm
      refine go_hg (v := va_rf o1) rfl b2 (by decide) (by rw [← eo1]; rfl) ?_
      refine go_run 4 (F' := (48, [some (.ref th), some (.int l1), some (.int l2), some (.int l3), some (.int l4)], [.int 6, .int (l1 + l4), va_rf o1], zhp S)) rfl ?_
      refine go_run 1 (F' := (49, [some (.ref th), some (.int l1), some (.int l2), some (.int l3), some (.int l4)], [.int ((l1 + l4) - (l1 + l4) / 6 * 6), va_rf o1], zhp S)) rfl ?_
      replace hm := zob_inv hm
      obtain ⟨a2, rfl, hm⟩ := hm
      refine go_run 0 (F' := (49, [some (.ref th), some (.int l1), some (.int l2), some (.int l3), some (.int l4)], [.int ((l1 + l4) - (l1 + l4) / 6 * 6), .ref a2], zhp S)) rfl ?_
      replace hm := zgd hm
      obtain ⟨b3, hm⟩ := hm
      replace hm := zcP_inv hm
      obtain ⟨S3, v3, e3, hm⟩ := hm
      have k3 := hyT_takeTurn (X := X) (d := d) e3
      refine go_call (m' := 95) (as := [.ref a2, .int ((l1 + l4) - (l1 + l4) / 6 * 6)]) (rest := []) (v := some (.int v3)) (h1 := zhp S3) rfl (by simp only [ie_step, ie_iv, List.drop, zhp_obj (S := S) b3 (by decide)]; rfl) ⟨rfl, Nat.le_of_ble_eq_true rfl⟩ k3 ?_
      refine go_run 0 (F' := (52, [some (.ref th), some (.int l1), some (.int l2), some (.int l3), some (.int l4)], [.int v3], zhp S3)) rfl ?_
      refine go_run 1 (F' := (53, [some (.ref th), some (.int l1), some (.int l2), some (.int l3), some (.int l4)], [.int 1, .int v3], zhp S3)) rfl ?_
      refine go_step rfl rfl ?_
      by_cases q4 : v3 = 1
      · rw [if_pos q4] at hm ⊢
        refine go_run 0 (F' := (56, [some (.ref th), some (.int l1), some (.int l2), some (.int l3), some (.int l4)], [], zhp S3)) rfl ?_
        refine go_run 3 (F' := (32, [some (.ref th), some (.int l1), some (.int l2), some (.int (l3 + 1)), some (.int (l4 + 1))], [], zhp S3)) rfl ?_
        exact ih hm
      · rw [if_neg q4] at hm ⊢
        refine go_run 0 (F' := (59, [some (.ref th), some (.int l1), some (.int l2), some (.int l3), some (.int l4)], [], zhp S3)) rfl ?_
        refine go_run 2 (F' := (32, [some (.ref th), some (.int l1), some (.int l2), some (.int l3), some (.int (l4 + 1))], [], zhp S3)) rfl ?_
        exact ih hm
theorem ehy_run_32 {th : Nat} : ∀ (n : Nat) {S : hS} {l1 : Int32} {l2 : Int32} {l3 : Int32} {l4 : Int32} {S' : hS} {r : Nat ⊕ Int32}, y_run_32 th n S l1 l2 l3 l4 = some (S', r) → Ex S S' := by
  intro n
  induction n with
  | zero => intro S l1 l2 l3 l4 S' r hm; cases hm
  | succ n ih =>
    intro S l1 l2 l3 l4 S' r hm
    unfold y_run_32 at hm
    have hx : Ex S S := Ex_r
    by_cases q1 : l2 ≤ l4
    · rw [if_pos q1] at hm
      cases hm
      exact hx
    · rw [if_neg q1] at hm
      replace hm := zgd hm
      obtain ⟨b2, hm⟩ := hm
      replace hm := zlb_inv hm
      obtain ⟨o1, eo1, hm⟩ := hm
      replace hm := zob_inv hm
      obtain ⟨a2, rfl, hm⟩ := hm
      replace hm := zgd hm
      obtain ⟨b3, hm⟩ := hm
      replace hm := zcP_inv hm
      obtain ⟨S3, v3, e3, hm⟩ := hm
      have hx := Ex_t (T := S) hx (ehyT_takeTurn e3)
      by_cases q4 : v3 = 1
      · rw [if_pos q4] at hm
        refine Ex_t ?_ (ih hm)
        exact hx
      · rw [if_neg q4] at hm
        refine Ex_t ?_ (ih hm)
        exact hx
def y_run (n : Nat) (S : hS) (th : Nat) (x1 : Int32) (x2 : Int32) : Option (hS × (Nat ⊕ Int32)) := (zcT (y_needParty S x1) fun S1 v1 => (if x2 < 0 then (some (szEx S1 11, .inl 11)) else (if x2 ≤ 300 then (if ztg S1 th = 1 then (zcT (y_needPlay S1 th) fun S2 v2 => (y_run_32 th  n S2 x1 x2 0 0)) else none) else (some (szEx S1 11, .inl 11)))))
theorem hy_run {X : ie_X} {d th : Nat} {n : Nat} {S : hS} {x1 : Int32} {x2 : Int32} {S' : hS} {r : Nat ⊕ Int32} (hm : y_run n S th x1 x2 = some (S', r)) : Go X (d + 7) 113 (0, ie_en 113 [.ref th, .int x1, .int x2], [], zhp S) (roI r) (zhp S') := by
  unfold y_run at hm
  refine go_run 0 (F' := (0, [some (.ref th), some (.int x1), some (.int x2), none, none], [], zhp S)) rfl ?_
  refine go_run 1 (F' := (1, [some (.ref th), some (.int x1), some (.int x2), none, none], [.int x1], zhp S)) rfl ?_
  replace hm := zcT_inv hm
  obtain ⟨S1, w1, e1, hm⟩ := hm
  have k1 := hy_needParty (X := X) (d := d + 5) e1
  rcases w1 with c1 | v1
  · cases hm
    exact go_out (m' := 80) (as := [.int x1]) (rest := []) rfl rfl ⟨rfl, Nat.le_of_ble_eq_true rfl⟩ rfl rfl k1
  replace hm := zcT_v hm
  refine go_call (m' := 80) (as := [.int x1]) (rest := []) (v := none) (h1 := zhp S1) rfl rfl ⟨rfl, Nat.le_of_ble_eq_true rfl⟩ k1 ?_
  refine go_run 0 (F' := (4, [some (.ref th), some (.int x1), some (.int x2), none, none], [], zhp S1)) rfl ?_
  refine go_run 1 (F' := (5, [some (.ref th), some (.int x1), some (.int x2), none, none], [.int x2], zhp S1)) rfl ?_
  refine go_step rfl rfl ?_
  by_cases q1 : x2 < 0
  · rw [if_pos q1] at hm ⊢
    refine go_run 0 (F' := (15, [some (.ref th), some (.int x1), some (.int x2), none, none], [], zhp S1)) rfl ?_
    refine go_run 0 (F' := (15, [some (.ref th), some (.int x1), some (.int x2), none, none], [], zhp S1)) rfl ?_
    cases hm
    exact go_hexc rfl (by decide) (by decide)
  · rw [if_neg q1] at hm ⊢
    refine go_run 0 (F' := (8, [some (.ref th), some (.int x1), some (.int x2), none, none], [], zhp S1)) rfl ?_
    refine go_run 2 (F' := (12, [some (.ref th), some (.int x1), some (.int x2), none, none], [.int 300, .int x2], zhp S1)) rfl ?_
    refine go_step rfl rfl ?_
    by_cases q2 : x2 ≤ 300
    · rw [if_pos q2] at hm ⊢
      refine go_run 0 (F' := (23, [some (.ref th), some (.int x1), some (.int x2), none, none], [], zhp S1)) rfl ?_
      refine go_run 1 (F' := (24, [some (.ref th), some (.int x1), some (.int x2), none, none], [.ref th], zhp S1)) rfl ?_
      replace hm := zgd hm
      obtain ⟨b3, hm⟩ := hm
      replace hm := zcT_inv hm
      obtain ⟨S2, w2, e2, hm⟩ := hm
      have k2 := hy_needPlay (X := X) (d := d + 6) e2
      rcases w2 with c2 | v2
      · cases hm
        exact go_out (m' := 81) (as := [.ref th]) (rest := []) rfl (by simp only [ie_step, ie_iv, List.drop, zhp_obj (S := S1) b3 (by decide)]; rfl) ⟨rfl, Nat.le_of_ble_eq_true rfl⟩ rfl rfl k2
      replace hm := zcT_v hm
      refine go_call (m' := 81) (as := [.ref th]) (rest := []) (v := none) (h1 := zhp S2) rfl (by simp only [ie_step, ie_iv, List.drop, zhp_obj (S := S1) b3 (by decide)]; rfl) ⟨rfl, Nat.le_of_ble_eq_true rfl⟩ k2 ?_
      refine go_run 0 (F' := (27, [some (.ref th), some (.int x1), some (.int x2), none, none], [], zhp S2)) rfl ?_
      refine go_run 4 (F' := (32, [some (.ref th), some (.int x1), some (.int x2), some (.int 0), some (.int 0)], [], zhp S2)) rfl ?_
      exact hy_run_32  n hm
    · rw [if_neg q2] at hm ⊢
      refine go_run 0 (F' := (15, [some (.ref th), some (.int x1), some (.int x2), none, none], [], zhp S1)) rfl ?_
      refine go_run 0 (F' := (15, [some (.ref th), some (.int x1), some (.int x2), none, none], [], zhp S1)) rfl ?_
      cases hm
      exact go_hexc rfl (by decide) (by decide)
theorem ehy_run {th : Nat} {n : Nat} {S : hS} {x1 : Int32} {x2 : Int32} {S' : hS} {r : Nat ⊕ Int32} (hm : y_run n S th x1 x2 = some (S', r)) : Ex S S' := by
  unfold y_run at hm
  have hx : Ex S S := Ex_r
  replace hm := zcT_inv hm
  obtain ⟨S1, w1, e1, hm⟩ := hm
  have hx := Ex_t (T := S) hx (ehy_needParty e1)
  rcases w1 with c1 | v1
  · cases hm
    exact hx
  replace hm := zcT_v hm
  by_cases q1 : x2 < 0
  · rw [if_pos q1] at hm
    cases hm
    exact Ex_t hx Ex_ex
  · rw [if_neg q1] at hm
    by_cases q2 : x2 ≤ 300
    · rw [if_pos q2] at hm
      replace hm := zgd hm
      obtain ⟨b3, hm⟩ := hm
      replace hm := zcT_inv hm
      obtain ⟨S2, w2, e2, hm⟩ := hm
      have hx := Ex_t (T := S1) hx (ehy_needPlay e2)
      rcases w2 with c2 | v2
      · cases hm
        exact hx
      replace hm := zcT_v hm
      refine Ex_t ?_ (ehy_run_32  n hm)
      exact hx
    · rw [if_neg q2] at hm
      cases hm
      exact Ex_t hx Ex_ex
def y_at (S : hS) (th : Nat) (x1 : Int32) : Option (hS × (Nat ⊕ Int32)) := (zcT (y_needParty S x1) fun S1 v1 => (if ztg S1 th = 1 then (zcT (y_needPlay S1 th) fun S2 v2 => (if ztg S2 th = 1 then (zlb (zR S2 5 th) fun o3 => (zob o3 fun a4 => (if ztg S2 a4 = 9 then (zlb (zR S2 0 a4) fun o5 => (zob o5 fun a6 => (if zar S2 a6 then (if ib x1 (zLen S2 a6) then (zlb ((zAR S2 a6) (Int32.toNatClampNeg x1)) fun o7 => (zob o7 fun a8 => (if ztg S2 a8 = 5 then (zlb (zR S2 2 a8) fun o9 => (zoc o9 (some (S2, .inr 0)) fun a10 => (if ztg S2 a10 = 2 then (some (S2, .inr (zI S2 0 a10))) else none))) else none))) else none) else none))) else none))) else none)) else none))
theorem hy_at {X : ie_X} {d th : Nat} {S : hS} {x1 : Int32} {S' : hS} {r : Nat ⊕ Int32} (hm : y_at S th x1 = some (S', r)) : Go X (d + 2) 115 (0, ie_en 115 [.ref th, .int x1], [], zhp S) (roI r) (zhp S') := by
  unfold y_at at hm
  refine go_run 0 (F' := (0, [some (.ref th), some (.int x1), none], [], zhp S)) rfl ?_
  refine go_run 1 (F' := (1, [some (.ref th), some (.int x1), none], [.int x1], zhp S)) rfl ?_
  replace hm := zcT_inv hm
  obtain ⟨S1, w1, e1, hm⟩ := hm
  have k1 := hy_needParty (X := X) (d := d) e1
  rcases w1 with c1 | v1
  · cases hm
    exact go_out (m' := 80) (as := [.int x1]) (rest := []) rfl rfl ⟨rfl, Nat.le_of_ble_eq_true rfl⟩ rfl rfl k1
  replace hm := zcT_v hm
  refine go_call (m' := 80) (as := [.int x1]) (rest := []) (v := none) (h1 := zhp S1) rfl rfl ⟨rfl, Nat.le_of_ble_eq_true rfl⟩ k1 ?_
  refine go_run 0 (F' := (4, [some (.ref th), some (.int x1), none], [], zhp S1)) rfl ?_
  refine go_run 1 (F' := (5, [some (.ref th), some (.int x1), none], [.ref th], zhp S1)) rfl ?_
  replace hm := zgd hm
  obtain ⟨b1, hm⟩ := hm
  replace hm := zcT_inv hm
  obtain ⟨S2, w2, e2, hm⟩ := hm
  have k2 := hy_needPlay (X := X) (d := d + 1) e2
  rcases w2 with c2 | v2
  · cases hm
    exact go_out (m' := 81) (as := [.ref th]) (rest := []) rfl (by simp only [ie_step, ie_iv, List.drop, zhp_obj (S := S1) b1 (by decide)]; rfl) ⟨rfl, Nat.le_of_ble_eq_true rfl⟩ rfl rfl k2
  replace hm := zcT_v hm
  refine go_call (m' := 81) (as := [.ref th]) (rest := []) (v := none) (h1 := zhp S2) rfl (by simp only [ie_step, ie_iv, List.drop, zhp_obj (S := S1) b1 (by decide)]; rfl) ⟨rfl, Nat.le_of_ble_eq_true rfl⟩ k2 ?_
  refine go_run 0 (F' := (8, [some (.ref th), some (.int x1), none], [], zhp S2)) rfl ?_
  refine go_run 1 (F' := (9, [some (.ref th), some (.int x1), none], [.ref th], zhp S2)) rfl ?_
  replace hm := zgd hm
  obtain ⟨b2, hm⟩ := hm
  replace hm := zlb_inv hm
  obtain ⟨o3, eo3, hm⟩ := hm
  refine go_hg (v := va_rf o3) rfl b2 (by decide) (by rw [← eo3]; rfl) ?_
  refine go_run 0 (F' := (12, [some (.ref th), some (.int x1), none], [va_rf o3], zhp S2)) rfl ?_
  replace hm := zob_inv hm
  obtain ⟨a4, rfl, hm⟩ := hm
  replace hm := zgd hm
  obtain ⟨b3, hm⟩ := hm
  replace hm := zlb_inv hm
  obtain ⟨o5, eo5, hm⟩ := hm
  refine go_hg (v := va_rf o5) rfl b3 (by decide) (by rw [← eo5]; rfl) ?_
  refine go_run 1 (F' := (16, [some (.ref th), some (.int x1), none], [.int x1, va_rf o5], zhp S2)) rfl ?_
  replace hm := zob_inv hm
  obtain ⟨a6, rfl, hm⟩ := hm
  replace hm := zgd hm
  obtain ⟨b4, hm⟩ := hm
  replace hm := zgd hm
  obtain ⟨b5, hm⟩ := hm
  replace hm := zlb_inv hm
  obtain ⟨o7, eo7, hm⟩ := hm
  refine go_haald rfl b4 b5 rfl eo7 ?_
  refine go_run 0 (F' := (17, [some (.ref th), some (.int x1), none], [va_rf o7], zhp S2)) rfl ?_
  replace hm := zob_inv hm
  obtain ⟨a8, rfl, hm⟩ := hm
  replace hm := zgd hm
  obtain ⟨b6, hm⟩ := hm
  replace hm := zlb_inv hm
  obtain ⟨o9, eo9, hm⟩ := hm
  refine go_hg (v := va_rf o9) rfl b6 (by decide) (by rw [← eo9]; rfl) ?_
  refine go_run 0 (F' := (20, [some (.ref th), some (.int x1), none], [va_rf o9], zhp S2)) rfl ?_
  refine go_as rfl ?_
  refine go_run 0 (F' := (21, [some (.ref th), some (.int x1), some (va_rf o9)], [], zhp S2)) rfl ?_
  refine go_al rfl rfl ?_
  refine go_run 0 (F' := (22, [some (.ref th), some (.int x1), some (va_rf o9)], [va_rf o9], zhp S2)) rfl ?_
  cases o9 with
  | none =>
    replace hm := zoc_n hm
    refine go_step rfl rfl ?_
    refine go_run 0 (F' := (25, [some (.ref th), some (.int x1), some (.null)], [], zhp S2)) rfl ?_
    refine go_run 2 (F' := (33, [some (.ref th), some (.int x1), some (.null)], [.int 0], zhp S2)) rfl ?_
    cases hm
    exact go_end rfl rfl
  | some a10 =>
    replace hm := zoc_s hm
    refine go_step rfl rfl ?_
    refine go_run 0 (F' := (29, [some (.ref th), some (.int x1), some (.ref a10)], [], zhp S2)) rfl ?_
    refine go_run 1 (F' := (30, [some (.ref th), some (.int x1), some (.ref a10)], [.ref a10], zhp S2)) rfl ?_
    replace hm := zgd hm
    obtain ⟨b7, hm⟩ := hm
    refine go_hg (v := .int (zI S2 0 a10)) rfl b7 (by decide) rfl ?_
    refine go_run 0 (F' := (33, [some (.ref th), some (.int x1), some (.ref a10)], [.int (zI S2 0 a10)], zhp S2)) rfl ?_
    cases hm
    exact go_end rfl rfl
theorem ehy_at {th : Nat} {S : hS} {x1 : Int32} {S' : hS} {r : Nat ⊕ Int32} (hm : y_at S th x1 = some (S', r)) : Ex S S' := by
  unfold y_at at hm
  have hx : Ex S S := Ex_r
  replace hm := zcT_inv hm
  obtain ⟨S1, w1, e1, hm⟩ := hm
  have hx := Ex_t (T := S) hx (ehy_needParty e1)
  rcases w1 with c1 | v1
  · cases hm
    exact hx
  replace hm := zcT_v hm
  replace hm := zgd hm
  obtain ⟨b1, hm⟩ := hm
  replace hm := zcT_inv hm
  obtain ⟨S2, w2, e2, hm⟩ := hm
  have hx := Ex_t (T := S1) hx (ehy_needPlay e2)
  rcases w2 with c2 | v2
  · cases hm
    exact hx
  replace hm := zcT_v hm
  replace hm := zgd hm
  obtain ⟨b2, hm⟩ := hm
  replace hm := zlb_inv hm
  obtain ⟨o3, eo3, hm⟩ := hm
  replace hm := zob_inv hm
  obtain ⟨a4, rfl, hm⟩ := hm
  replace hm := zgd hm
  obtain ⟨b3, hm⟩ := hm
  replace hm := zlb_inv hm
  obtain ⟨o5, eo5, hm⟩ := hm
  replace hm := zob_inv hm
  obtain ⟨a6, rfl, hm⟩ := hm
  replace hm := zgd hm
  obtain ⟨b4, hm⟩ := hm
  replace hm := zgd hm
  obtain ⟨b5, hm⟩ := hm
  replace hm := zlb_inv hm
  obtain ⟨o7, eo7, hm⟩ := hm
  replace hm := zob_inv hm
  obtain ⟨a8, rfl, hm⟩ := hm
  replace hm := zgd hm
  obtain ⟨b6, hm⟩ := hm
  replace hm := zlb_inv hm
  obtain ⟨o9, eo9, hm⟩ := hm
  cases o9 with
  | none =>
    replace hm := zoc_n hm
    cases hm
    exact hx
  | some a10 =>
    replace hm := zoc_s hm
    replace hm := zgd hm
    obtain ⟨b7, hm⟩ := hm
    cases hm
    exact hx
def y_variable (S : hS) (th : Nat) (x1 : Int32) (x2 : Int32) : Option (hS × (Nat ⊕ Int32)) := (zcT (y_needVariable S x1 x2) fun S1 v1 => (if ztg S1 th = 1 then (zlb (zR S1 5 th) fun o2 => (zob o2 fun a3 => (if ztg S1 a3 = 9 then (zlb (zR S1 3 a3) fun o4 => (zob o4 fun a5 => (if ztg S1 a5 = 20 then (if ib (y_indexOf x1 x2) (zLen S1 a5) then (some (S1, .inr ((zAI S1 a5) (Int32.toNatClampNeg (y_indexOf x1 x2))))) else none) else none))) else none))) else none))
theorem hy_variable {X : ie_X} {d th : Nat} {S : hS} {x1 : Int32} {x2 : Int32} {S' : hS} {r : Nat ⊕ Int32} (hm : y_variable S th x1 x2 = some (S', r)) : Go X (d + 2) 117 (0, ie_en 117 [.ref th, .int x1, .int x2], [], zhp S) (roI r) (zhp S') := by
  unfold y_variable at hm
  refine go_run 0 (F' := (0, [some (.ref th), some (.int x1), some (.int x2)], [], zhp S)) rfl ?_
  refine go_run 2 (F' := (2, [some (.ref th), some (.int x1), some (.int x2)], [.int x2, .int x1], zhp S)) rfl ?_
  replace hm := zcT_inv hm
  obtain ⟨S1, w1, e1, hm⟩ := hm
  have k1 := hy_needVariable (X := X) (d := d) e1
  rcases w1 with c1 | v1
  · cases hm
    exact go_out (m' := 86) (as := [.int x1, .int x2]) (rest := []) rfl rfl ⟨rfl, Nat.le_of_ble_eq_true rfl⟩ rfl rfl k1
  replace hm := zcT_v hm
  refine go_call (m' := 86) (as := [.int x1, .int x2]) (rest := []) (v := none) (h1 := zhp S1) rfl rfl ⟨rfl, Nat.le_of_ble_eq_true rfl⟩ k1 ?_
  refine go_run 0 (F' := (5, [some (.ref th), some (.int x1), some (.int x2)], [], zhp S1)) rfl ?_
  refine go_run 1 (F' := (6, [some (.ref th), some (.int x1), some (.int x2)], [.ref th], zhp S1)) rfl ?_
  replace hm := zgd hm
  obtain ⟨b1, hm⟩ := hm
  replace hm := zlb_inv hm
  obtain ⟨o2, eo2, hm⟩ := hm
  refine go_hg (v := va_rf o2) rfl b1 (by decide) (by rw [← eo2]; rfl) ?_
  refine go_run 0 (F' := (9, [some (.ref th), some (.int x1), some (.int x2)], [va_rf o2], zhp S1)) rfl ?_
  replace hm := zob_inv hm
  obtain ⟨a3, rfl, hm⟩ := hm
  replace hm := zgd hm
  obtain ⟨b2, hm⟩ := hm
  replace hm := zlb_inv hm
  obtain ⟨o4, eo4, hm⟩ := hm
  refine go_hg (v := va_rf o4) rfl b2 (by decide) (by rw [← eo4]; rfl) ?_
  refine go_run 2 (F' := (14, [some (.ref th), some (.int x1), some (.int x2)], [.int x2, .int x1, va_rf o4], zhp S1)) rfl ?_
  refine go_call (m' := 88) (as := [.int x1, .int x2]) (rest := [va_rf o4]) (v := some (.int (y_indexOf x1 x2))) (h1 := zhp S1) rfl (by cases o4 <;> rfl) ⟨rfl, Nat.le_of_ble_eq_true rfl⟩ (hy_indexOf _ _) ?_
  refine go_run 0 (F' := (17, [some (.ref th), some (.int x1), some (.int x2)], [.int (y_indexOf x1 x2), va_rf o4], zhp S1)) rfl ?_
  refine go_run 0 (F' := (17, [some (.ref th), some (.int x1), some (.int x2)], [.int (y_indexOf x1 x2), va_rf o4], zhp S1)) rfl ?_
  replace hm := zob_inv hm
  obtain ⟨a5, rfl, hm⟩ := hm
  replace hm := zgd hm
  obtain ⟨b3, hm⟩ := hm
  replace hm := zgd hm
  obtain ⟨b4, hm⟩ := hm
  refine go_hald0 rfl b3 b4 rfl rfl ?_
  refine go_run 0 (F' := (18, [some (.ref th), some (.int x1), some (.int x2)], [.int ((zAI S1 a5) (Int32.toNatClampNeg (y_indexOf x1 x2)))], zhp S1)) rfl ?_
  cases hm
  exact go_end rfl rfl
theorem ehy_variable {th : Nat} {S : hS} {x1 : Int32} {x2 : Int32} {S' : hS} {r : Nat ⊕ Int32} (hm : y_variable S th x1 x2 = some (S', r)) : Ex S S' := by
  unfold y_variable at hm
  have hx : Ex S S := Ex_r
  replace hm := zcT_inv hm
  obtain ⟨S1, w1, e1, hm⟩ := hm
  have hx := Ex_t (T := S) hx (ehy_needVariable e1)
  rcases w1 with c1 | v1
  · cases hm
    exact hx
  replace hm := zcT_v hm
  replace hm := zgd hm
  obtain ⟨b1, hm⟩ := hm
  replace hm := zlb_inv hm
  obtain ⟨o2, eo2, hm⟩ := hm
  replace hm := zob_inv hm
  obtain ⟨a3, rfl, hm⟩ := hm
  replace hm := zgd hm
  obtain ⟨b2, hm⟩ := hm
  replace hm := zlb_inv hm
  obtain ⟨o4, eo4, hm⟩ := hm
  replace hm := zob_inv hm
  obtain ⟨a5, rfl, hm⟩ := hm
  replace hm := zgd hm
  obtain ⟨b3, hm⟩ := hm
  replace hm := zgd hm
  obtain ⟨b4, hm⟩ := hm
  cases hm
  exact hx
def y_needPair (S : hS) (x1 : Int32) (x2 : Int32) : Option (hS × (Nat ⊕ Int32)) := (if ty_b (rd_rp x1) = 0 then (some (szEx S 14, .inl 14)) else (if ty_b (rd_rp x2) = 0 then (some (szEx S 14, .inl 14)) else (if x1 = x2 then (some (szEx S 14, .inl 14)) else (some (S, .inr 0)))))
theorem hy_needPair {X : ie_X} {d : Nat} {S : hS} {x1 : Int32} {x2 : Int32} {S' : hS} {r : Nat ⊕ Int32} (hm : y_needPair S x1 x2 = some (S', r)) : Go X (d + 1) 120 (0, ie_en 120 [.int x1, .int x2], [], zhp S) (roV r) (zhp S') := by
  unfold y_needPair at hm
  refine go_run 0 (F' := (0, [some (.int x1), some (.int x2)], [], zhp S)) rfl ?_
  refine go_run 1 (F' := (1, [some (.int x1), some (.int x2)], [.int x1], zhp S)) rfl ?_
  refine go_call (m' := 33) (as := [.int x1]) (rest := []) (v := some (.int (ty_b (rd_rp x1)))) (h1 := zhp S) rfl rfl ⟨rfl, Nat.le_of_ble_eq_true rfl⟩ (rd_isParty _) ?_
  refine go_run 0 (F' := (4, [some (.int x1), some (.int x2)], [.int (ty_b (rd_rp x1))], zhp S)) rfl ?_
  refine go_run 0 (F' := (4, [some (.int x1), some (.int x2)], [.int (ty_b (rd_rp x1))], zhp S)) rfl ?_
  refine go_step rfl rfl ?_
  by_cases q1 : ty_b (rd_rp x1) = 0
  · rw [if_pos q1] at hm ⊢
    refine go_run 0 (F' := (19, [some (.int x1), some (.int x2)], [], zhp S)) rfl ?_
    refine go_run 0 (F' := (19, [some (.int x1), some (.int x2)], [], zhp S)) rfl ?_
    cases hm
    exact go_hexc rfl (by decide) (by decide)
  · rw [if_neg q1] at hm ⊢
    refine go_run 0 (F' := (7, [some (.int x1), some (.int x2)], [], zhp S)) rfl ?_
    refine go_run 1 (F' := (8, [some (.int x1), some (.int x2)], [.int x2], zhp S)) rfl ?_
    refine go_call (m' := 33) (as := [.int x2]) (rest := []) (v := some (.int (ty_b (rd_rp x2)))) (h1 := zhp S) rfl rfl ⟨rfl, Nat.le_of_ble_eq_true rfl⟩ (rd_isParty _) ?_
    refine go_run 0 (F' := (11, [some (.int x1), some (.int x2)], [.int (ty_b (rd_rp x2))], zhp S)) rfl ?_
    refine go_run 0 (F' := (11, [some (.int x1), some (.int x2)], [.int (ty_b (rd_rp x2))], zhp S)) rfl ?_
    refine go_step rfl rfl ?_
    by_cases q2 : ty_b (rd_rp x2) = 0
    · rw [if_pos q2] at hm ⊢
      refine go_run 0 (F' := (19, [some (.int x1), some (.int x2)], [], zhp S)) rfl ?_
      refine go_run 0 (F' := (19, [some (.int x1), some (.int x2)], [], zhp S)) rfl ?_
      cases hm
      exact go_hexc rfl (by decide) (by decide)
    · rw [if_neg q2] at hm ⊢
      refine go_run 0 (F' := (14, [some (.int x1), some (.int x2)], [], zhp S)) rfl ?_
      refine go_run 2 (F' := (16, [some (.int x1), some (.int x2)], [.int x2, .int x1], zhp S)) rfl ?_
      refine go_step rfl rfl ?_
      by_cases q3 : x1 = x2
      · rw [if_pos q3] at hm ⊢
        refine go_run 0 (F' := (19, [some (.int x1), some (.int x2)], [], zhp S)) rfl ?_
        refine go_run 0 (F' := (19, [some (.int x1), some (.int x2)], [], zhp S)) rfl ?_
        cases hm
        exact go_hexc rfl (by decide) (by decide)
      · rw [if_neg q3] at hm ⊢
        refine go_run 0 (F' := (27, [some (.int x1), some (.int x2)], [], zhp S)) rfl ?_
        refine go_run 0 (F' := (27, [some (.int x1), some (.int x2)], [], zhp S)) rfl ?_
        cases hm
        exact go_end rfl rfl
theorem ehy_needPair {S : hS} {x1 : Int32} {x2 : Int32} {S' : hS} {r : Nat ⊕ Int32} (hm : y_needPair S x1 x2 = some (S', r)) : Ex S S' := by
  unfold y_needPair at hm
  have hx : Ex S S := Ex_r
  by_cases q1 : ty_b (rd_rp x1) = 0
  · rw [if_pos q1] at hm
    cases hm
    exact Ex_t hx Ex_ex
  · rw [if_neg q1] at hm
    by_cases q2 : ty_b (rd_rp x2) = 0
    · rw [if_pos q2] at hm
      cases hm
      exact Ex_t hx Ex_ex
    · rw [if_neg q2] at hm
      by_cases q3 : x1 = x2
      · rw [if_pos q3] at hm
        cases hm
        exact Ex_t hx Ex_ex
      · rw [if_neg q3] at hm
        cases hm
        exact hx
def y_queue (S : hS) (th : Nat) (x1 : Int32) (x2 : Int32) : Option (hS × (Nat ⊕ Int32)) := (zcT (y_needPair S x1 x2) fun S1 v1 => (if ztg S1 th = 1 then (zlb (zR S1 5 th) fun o2 => (zob o2 fun a3 => (if ztg S1 a3 = 9 then (zcP (yT_queueOf S1 a3 x1 x2) fun S4 o4 => (zob o4 fun a5 => (if ztg S4 a5 = 7 then (some (S4, .inr (zI S4 3 a5))) else none))) else none))) else none))
theorem hy_queue {X : ie_X} {d th : Nat} {S : hS} {x1 : Int32} {x2 : Int32} {S' : hS} {r : Nat ⊕ Int32} (hm : y_queue S th x1 x2 = some (S', r)) : Go X (d + 2) 119 (0, ie_en 119 [.ref th, .int x1, .int x2], [], zhp S) (roI r) (zhp S') := by
  unfold y_queue at hm
  refine go_run 0 (F' := (0, [some (.ref th), some (.int x1), some (.int x2)], [], zhp S)) rfl ?_
  refine go_run 2 (F' := (2, [some (.ref th), some (.int x1), some (.int x2)], [.int x2, .int x1], zhp S)) rfl ?_
  replace hm := zcT_inv hm
  obtain ⟨S1, w1, e1, hm⟩ := hm
  have k1 := hy_needPair (X := X) (d := d) e1
  rcases w1 with c1 | v1
  · cases hm
    exact go_out (m' := 120) (as := [.int x1, .int x2]) (rest := []) rfl rfl ⟨rfl, Nat.le_of_ble_eq_true rfl⟩ rfl rfl k1
  replace hm := zcT_v hm
  refine go_call (m' := 120) (as := [.int x1, .int x2]) (rest := []) (v := none) (h1 := zhp S1) rfl rfl ⟨rfl, Nat.le_of_ble_eq_true rfl⟩ k1 ?_
  refine go_run 0 (F' := (5, [some (.ref th), some (.int x1), some (.int x2)], [], zhp S1)) rfl ?_
  refine go_run 1 (F' := (6, [some (.ref th), some (.int x1), some (.int x2)], [.ref th], zhp S1)) rfl ?_
  replace hm := zgd hm
  obtain ⟨b1, hm⟩ := hm
  replace hm := zlb_inv hm
  obtain ⟨o2, eo2, hm⟩ := hm
  refine go_hg (v := va_rf o2) rfl b1 (by decide) (by rw [← eo2]; rfl) ?_
  refine go_run 2 (F' := (11, [some (.ref th), some (.int x1), some (.int x2)], [.int x2, .int x1, va_rf o2], zhp S1)) rfl ?_
  replace hm := zob_inv hm
  obtain ⟨a3, rfl, hm⟩ := hm
  refine go_run 0 (F' := (11, [some (.ref th), some (.int x1), some (.int x2)], [.int x2, .int x1, .ref a3], zhp S1)) rfl ?_
  replace hm := zgd hm
  obtain ⟨b2, hm⟩ := hm
  replace hm := zcP_inv hm
  obtain ⟨S4, o4, e4, hm⟩ := hm
  have k4 := hyT_queueOf (X := X) (d := d + 1) e4
  refine go_call (m' := 104) (as := [.ref a3, .int x1, .int x2]) (rest := []) (v := some (va_rf o4)) (h1 := zhp S4) rfl (by simp only [ie_step, ie_iv, List.drop, zhp_obj (S := S1) b2 (by decide)]; rfl) ⟨rfl, Nat.le_of_ble_eq_true rfl⟩ k4 ?_
  refine go_run 0 (F' := (14, [some (.ref th), some (.int x1), some (.int x2)], [va_rf o4], zhp S4)) rfl ?_
  refine go_run 0 (F' := (14, [some (.ref th), some (.int x1), some (.int x2)], [va_rf o4], zhp S4)) rfl ?_
  replace hm := zob_inv hm
  obtain ⟨a5, rfl, hm⟩ := hm
  replace hm := zgd hm
  obtain ⟨b3, hm⟩ := hm
  refine go_hg (v := .int (zI S4 3 a5)) rfl b3 (by decide) rfl ?_
  refine go_run 0 (F' := (17, [some (.ref th), some (.int x1), some (.int x2)], [.int (zI S4 3 a5)], zhp S4)) rfl ?_
  cases hm
  exact go_end rfl rfl
theorem ehy_queue {th : Nat} {S : hS} {x1 : Int32} {x2 : Int32} {S' : hS} {r : Nat ⊕ Int32} (hm : y_queue S th x1 x2 = some (S', r)) : Ex S S' := by
  unfold y_queue at hm
  have hx : Ex S S := Ex_r
  replace hm := zcT_inv hm
  obtain ⟨S1, w1, e1, hm⟩ := hm
  have hx := Ex_t (T := S) hx (ehy_needPair e1)
  rcases w1 with c1 | v1
  · cases hm
    exact hx
  replace hm := zcT_v hm
  replace hm := zgd hm
  obtain ⟨b1, hm⟩ := hm
  replace hm := zlb_inv hm
  obtain ⟨o2, eo2, hm⟩ := hm
  replace hm := zob_inv hm
  obtain ⟨a3, rfl, hm⟩ := hm
  replace hm := zgd hm
  obtain ⟨b2, hm⟩ := hm
  replace hm := zcP_inv hm
  obtain ⟨S4, o4, e4, hm⟩ := hm
  have hx := Ex_t (T := S1) hx (ehyT_queueOf e4)
  replace hm := zob_inv hm
  obtain ⟨a5, rfl, hm⟩ := hm
  replace hm := zgd hm
  obtain ⟨b3, hm⟩ := hm
  cases hm
  exact hx
def y_needMessage (S : hS) (th : Nat) (x1 : Int32) (x2 : Int32) (x3 : Int32) : Option (hS × (Nat ⊕ Int32)) := (zcT (y_needPair S x1 x2) fun S1 v1 => (if x3 < 0 then (some (szEx S1 15, .inl 15)) else (if ztg S1 th = 1 then (zlb (zR S1 5 th) fun o2 => (zob o2 fun a3 => (if ztg S1 a3 = 9 then (zcP (yT_queueOf S1 a3 x1 x2) fun S4 o4 => (zob o4 fun a5 => (if ztg S4 a5 = 7 then (if x3 < zI S4 3 a5 then (some (S4, .inr 0)) else (some (szEx S4 15, .inl 15))) else none))) else none))) else none)))
theorem hy_needMessage {X : ie_X} {d th : Nat} {S : hS} {x1 : Int32} {x2 : Int32} {x3 : Int32} {S' : hS} {r : Nat ⊕ Int32} (hm : y_needMessage S th x1 x2 x3 = some (S', r)) : Go X (d + 2) 123 (0, ie_en 123 [.ref th, .int x1, .int x2, .int x3], [], zhp S) (roV r) (zhp S') := by
  unfold y_needMessage at hm
  refine go_run 0 (F' := (0, [some (.ref th), some (.int x1), some (.int x2), some (.int x3)], [], zhp S)) rfl ?_
  refine go_run 2 (F' := (2, [some (.ref th), some (.int x1), some (.int x2), some (.int x3)], [.int x2, .int x1], zhp S)) rfl ?_
  replace hm := zcT_inv hm
  obtain ⟨S1, w1, e1, hm⟩ := hm
  have k1 := hy_needPair (X := X) (d := d) e1
  rcases w1 with c1 | v1
  · cases hm
    exact go_out (m' := 120) (as := [.int x1, .int x2]) (rest := []) rfl rfl ⟨rfl, Nat.le_of_ble_eq_true rfl⟩ rfl rfl k1
  replace hm := zcT_v hm
  refine go_call (m' := 120) (as := [.int x1, .int x2]) (rest := []) (v := none) (h1 := zhp S1) rfl rfl ⟨rfl, Nat.le_of_ble_eq_true rfl⟩ k1 ?_
  refine go_run 0 (F' := (5, [some (.ref th), some (.int x1), some (.int x2), some (.int x3)], [], zhp S1)) rfl ?_
  refine go_run 1 (F' := (6, [some (.ref th), some (.int x1), some (.int x2), some (.int x3)], [.int x3], zhp S1)) rfl ?_
  refine go_step rfl rfl ?_
  by_cases q1 : x3 < 0
  · rw [if_pos q1] at hm ⊢
    refine go_run 0 (F' := (25, [some (.ref th), some (.int x1), some (.int x2), some (.int x3)], [], zhp S1)) rfl ?_
    refine go_run 0 (F' := (25, [some (.ref th), some (.int x1), some (.int x2), some (.int x3)], [], zhp S1)) rfl ?_
    cases hm
    exact go_hexc rfl (by decide) (by decide)
  · rw [if_neg q1] at hm ⊢
    refine go_run 0 (F' := (9, [some (.ref th), some (.int x1), some (.int x2), some (.int x3)], [], zhp S1)) rfl ?_
    refine go_run 2 (F' := (11, [some (.ref th), some (.int x1), some (.int x2), some (.int x3)], [.ref th, .int x3], zhp S1)) rfl ?_
    replace hm := zgd hm
    obtain ⟨b2, hm⟩ := hm
    replace hm := zlb_inv hm
    obtain ⟨o2, eo2, hm⟩ := hm
    refine go_hg (v := va_rf o2) rfl b2 (by decide) (by rw [← eo2]; rfl) ?_
    refine go_run 2 (F' := (16, [some (.ref th), some (.int x1), some (.int x2), some (.int x3)], [.int x2, .int x1, va_rf o2, .int x3], zhp S1)) rfl ?_
    replace hm := zob_inv hm
    obtain ⟨a3, rfl, hm⟩ := hm
    refine go_run 0 (F' := (16, [some (.ref th), some (.int x1), some (.int x2), some (.int x3)], [.int x2, .int x1, .ref a3, .int x3], zhp S1)) rfl ?_
    replace hm := zgd hm
    obtain ⟨b3, hm⟩ := hm
    replace hm := zcP_inv hm
    obtain ⟨S4, o4, e4, hm⟩ := hm
    have k4 := hyT_queueOf (X := X) (d := d + 1) e4
    refine go_call (m' := 104) (as := [.ref a3, .int x1, .int x2]) (rest := [.int x3]) (v := some (va_rf o4)) (h1 := zhp S4) rfl (by simp only [ie_step, ie_iv, List.drop, zhp_obj (S := S1) b3 (by decide)]; rfl) ⟨rfl, Nat.le_of_ble_eq_true rfl⟩ k4 ?_
    refine go_run 0 (F' := (19, [some (.ref th), some (.int x1), some (.int x2), some (.int x3)], [va_rf o4, .int x3], zhp S4)) rfl ?_
    refine go_run 0 (F' := (19, [some (.ref th), some (.int x1), some (.int x2), some (.int x3)], [va_rf o4, .int x3], zhp S4)) rfl ?_
    replace hm := zob_inv hm
    obtain ⟨a5, rfl, hm⟩ := hm
    replace hm := zgd hm
    obtain ⟨b4, hm⟩ := hm
    refine go_hg (v := .int (zI S4 3 a5)) rfl b4 (by decide) rfl ?_
    refine go_run 0 (F' := (22, [some (.ref th), some (.int x1), some (.int x2), some (.int x3)], [.int (zI S4 3 a5), .int x3], zhp S4)) rfl ?_
    refine go_step rfl rfl ?_
    by_cases q5 : x3 < zI S4 3 a5
    · rw [if_pos q5] at hm ⊢
      refine go_run 0 (F' := (33, [some (.ref th), some (.int x1), some (.int x2), some (.int x3)], [], zhp S4)) rfl ?_
      refine go_run 0 (F' := (33, [some (.ref th), some (.int x1), some (.int x2), some (.int x3)], [], zhp S4)) rfl ?_
      cases hm
      exact go_end rfl rfl
    · rw [if_neg q5] at hm ⊢
      refine go_run 0 (F' := (25, [some (.ref th), some (.int x1), some (.int x2), some (.int x3)], [], zhp S4)) rfl ?_
      refine go_run 0 (F' := (25, [some (.ref th), some (.int x1), some (.int x2), some (.int x3)], [], zhp S4)) rfl ?_
      cases hm
      exact go_hexc rfl (by decide) (by decide)
theorem ehy_needMessage {th : Nat} {S : hS} {x1 : Int32} {x2 : Int32} {x3 : Int32} {S' : hS} {r : Nat ⊕ Int32} (hm : y_needMessage S th x1 x2 x3 = some (S', r)) : Ex S S' := by
  unfold y_needMessage at hm
  have hx : Ex S S := Ex_r
  replace hm := zcT_inv hm
  obtain ⟨S1, w1, e1, hm⟩ := hm
  have hx := Ex_t (T := S) hx (ehy_needPair e1)
  rcases w1 with c1 | v1
  · cases hm
    exact hx
  replace hm := zcT_v hm
  by_cases q1 : x3 < 0
  · rw [if_pos q1] at hm
    cases hm
    exact Ex_t hx Ex_ex
  · rw [if_neg q1] at hm
    replace hm := zgd hm
    obtain ⟨b2, hm⟩ := hm
    replace hm := zlb_inv hm
    obtain ⟨o2, eo2, hm⟩ := hm
    replace hm := zob_inv hm
    obtain ⟨a3, rfl, hm⟩ := hm
    replace hm := zgd hm
    obtain ⟨b3, hm⟩ := hm
    replace hm := zcP_inv hm
    obtain ⟨S4, o4, e4, hm⟩ := hm
    have hx := Ex_t (T := S1) hx (ehyT_queueOf e4)
    replace hm := zob_inv hm
    obtain ⟨a5, rfl, hm⟩ := hm
    replace hm := zgd hm
    obtain ⟨b4, hm⟩ := hm
    by_cases q5 : x3 < zI S4 3 a5
    · rw [if_pos q5] at hm
      cases hm
      exact hx
    · rw [if_neg q5] at hm
      cases hm
      exact Ex_t hx Ex_ex
def y_message (S : hS) (th : Nat) (x1 : Int32) (x2 : Int32) (x3 : Int32) : Option (hS × (Nat ⊕ Int32)) := (if ztg S th = 1 then (zcT (y_needMessage S th x1 x2 x3) fun S1 v1 => (if ztg S1 th = 1 then (zlb (zR S1 5 th) fun o2 => (zob o2 fun a3 => (if ztg S1 a3 = 9 then (zcP (yT_queueOf S1 a3 x1 x2) fun S4 o4 => (zob o4 fun a5 => (if ztg S4 a5 = 7 then (zcP (yQ_valueAt S4 a5 x3) fun S6 v6 => (some (S6, .inr v6))) else none))) else none))) else none)) else none)
theorem hy_message {X : ie_X} {d th : Nat} {S : hS} {x1 : Int32} {x2 : Int32} {x3 : Int32} {S' : hS} {r : Nat ⊕ Int32} (hm : y_message S th x1 x2 x3 = some (S', r)) : Go X (d + 3) 122 (0, ie_en 122 [.ref th, .int x1, .int x2, .int x3], [], zhp S) (roI r) (zhp S') := by
  unfold y_message at hm
  refine go_run 0 (F' := (0, [some (.ref th), some (.int x1), some (.int x2), some (.int x3)], [], zhp S)) rfl ?_
  refine go_run 4 (F' := (4, [some (.ref th), some (.int x1), some (.int x2), some (.int x3)], [.int x3, .int x2, .int x1, .ref th], zhp S)) rfl ?_
  replace hm := zgd hm
  obtain ⟨b1, hm⟩ := hm
  replace hm := zcT_inv hm
  obtain ⟨S1, w1, e1, hm⟩ := hm
  have k1 := hy_needMessage (X := X) (d := d) e1
  rcases w1 with c1 | v1
  · cases hm
    exact go_out (m' := 123) (as := [.ref th, .int x1, .int x2, .int x3]) (rest := []) rfl (by simp only [ie_step, ie_iv, List.drop, zhp_obj (S := S) b1 (by decide)]; rfl) ⟨rfl, Nat.le_of_ble_eq_true rfl⟩ rfl rfl k1
  replace hm := zcT_v hm
  refine go_call (m' := 123) (as := [.ref th, .int x1, .int x2, .int x3]) (rest := []) (v := none) (h1 := zhp S1) rfl (by simp only [ie_step, ie_iv, List.drop, zhp_obj (S := S) b1 (by decide)]; rfl) ⟨rfl, Nat.le_of_ble_eq_true rfl⟩ k1 ?_
  refine go_run 0 (F' := (7, [some (.ref th), some (.int x1), some (.int x2), some (.int x3)], [], zhp S1)) rfl ?_
  refine go_run 1 (F' := (8, [some (.ref th), some (.int x1), some (.int x2), some (.int x3)], [.ref th], zhp S1)) rfl ?_
  replace hm := zgd hm
  obtain ⟨b2, hm⟩ := hm
  replace hm := zlb_inv hm
  obtain ⟨o2, eo2, hm⟩ := hm
  refine go_hg (v := va_rf o2) rfl b2 (by decide) (by rw [← eo2]; rfl) ?_
  refine go_run 2 (F' := (13, [some (.ref th), some (.int x1), some (.int x2), some (.int x3)], [.int x2, .int x1, va_rf o2], zhp S1)) rfl ?_
  replace hm := zob_inv hm
  obtain ⟨a3, rfl, hm⟩ := hm
  refine go_run 0 (F' := (13, [some (.ref th), some (.int x1), some (.int x2), some (.int x3)], [.int x2, .int x1, .ref a3], zhp S1)) rfl ?_
  replace hm := zgd hm
  obtain ⟨b3, hm⟩ := hm
  replace hm := zcP_inv hm
  obtain ⟨S4, o4, e4, hm⟩ := hm
  have k4 := hyT_queueOf (X := X) (d := d + 2) e4
  refine go_call (m' := 104) (as := [.ref a3, .int x1, .int x2]) (rest := []) (v := some (va_rf o4)) (h1 := zhp S4) rfl (by simp only [ie_step, ie_iv, List.drop, zhp_obj (S := S1) b3 (by decide)]; rfl) ⟨rfl, Nat.le_of_ble_eq_true rfl⟩ k4 ?_
  refine go_run 0 (F' := (16, [some (.ref th), some (.int x1), some (.int x2), some (.int x3)], [va_rf o4], zhp S4)) rfl ?_
  refine go_run 1 (F' := (17, [some (.ref th), some (.int x1), some (.int x2), some (.int x3)], [.int x3, va_rf o4], zhp S4)) rfl ?_
  replace hm := zob_inv hm
  obtain ⟨a5, rfl, hm⟩ := hm
  refine go_run 0 (F' := (17, [some (.ref th), some (.int x1), some (.int x2), some (.int x3)], [.int x3, .ref a5], zhp S4)) rfl ?_
  replace hm := zgd hm
  obtain ⟨b4, hm⟩ := hm
  replace hm := zcP_inv hm
  obtain ⟨S6, v6, e6, hm⟩ := hm
  have k6 := hyQ_valueAt (X := X) (d := d + 2) e6
  refine go_call (m' := 110) (as := [.ref a5, .int x3]) (rest := []) (v := some (.int v6)) (h1 := zhp S6) rfl (by simp only [ie_step, ie_iv, List.drop, zhp_obj (S := S4) b4 (by decide)]; rfl) ⟨rfl, Nat.le_of_ble_eq_true rfl⟩ k6 ?_
  refine go_run 0 (F' := (20, [some (.ref th), some (.int x1), some (.int x2), some (.int x3)], [.int v6], zhp S6)) rfl ?_
  refine go_run 0 (F' := (20, [some (.ref th), some (.int x1), some (.int x2), some (.int x3)], [.int v6], zhp S6)) rfl ?_
  cases hm
  exact go_end rfl rfl
theorem ehy_message {th : Nat} {S : hS} {x1 : Int32} {x2 : Int32} {x3 : Int32} {S' : hS} {r : Nat ⊕ Int32} (hm : y_message S th x1 x2 x3 = some (S', r)) : Ex S S' := by
  unfold y_message at hm
  have hx : Ex S S := Ex_r
  replace hm := zgd hm
  obtain ⟨b1, hm⟩ := hm
  replace hm := zcT_inv hm
  obtain ⟨S1, w1, e1, hm⟩ := hm
  have hx := Ex_t (T := S) hx (ehy_needMessage e1)
  rcases w1 with c1 | v1
  · cases hm
    exact hx
  replace hm := zcT_v hm
  replace hm := zgd hm
  obtain ⟨b2, hm⟩ := hm
  replace hm := zlb_inv hm
  obtain ⟨o2, eo2, hm⟩ := hm
  replace hm := zob_inv hm
  obtain ⟨a3, rfl, hm⟩ := hm
  replace hm := zgd hm
  obtain ⟨b3, hm⟩ := hm
  replace hm := zcP_inv hm
  obtain ⟨S4, o4, e4, hm⟩ := hm
  have hx := Ex_t (T := S1) hx (ehyT_queueOf e4)
  replace hm := zob_inv hm
  obtain ⟨a5, rfl, hm⟩ := hm
  replace hm := zgd hm
  obtain ⟨b4, hm⟩ := hm
  replace hm := zcP_inv hm
  obtain ⟨S6, v6, e6, hm⟩ := hm
  have hx := Ex_t (T := S4) hx (ehyQ_valueAt e6)
  cases hm
  exact hx
def yQ_isLabelAt (S : hS) (th : Nat) (x1 : Int32) : Option (hS × Int32) := (if ztg S th = 7 then (zlb (zR S 1 th) fun o1 => (zob o1 fun a2 => (if ztg S a2 = 22 then (if ib (((zI S 2 th) + x1) - ((zI S 2 th) + x1) / 8 * 8) (zLen S a2) then (if (zAI S a2) (Int32.toNatClampNeg (((zI S 2 th) + x1) - ((zI S 2 th) + x1) / 8 * 8)) = 0 ∨ (zAI S a2) (Int32.toNatClampNeg (((zI S 2 th) + x1) - ((zI S 2 th) + x1) / 8 * 8)) = 1 then (some (S, (zAI S a2) (Int32.toNatClampNeg (((zI S 2 th) + x1) - ((zI S 2 th) + x1) / 8 * 8)))) else none) else none) else none))) else none)
theorem hyQ_isLabelAt {X : ie_X} {d th : Nat} {S : hS} {x1 : Int32} {S' : hS} {r : Int32} (hm : yQ_isLabelAt S th x1 = some (S', r)) : Go X (d + 0) 126 (0, ie_en 126 [.ref th, .int x1], [], zhp S) (.inl (some (.int r))) (zhp S') := by
  unfold yQ_isLabelAt at hm
  refine go_run 0 (F' := (0, [some (.ref th), some (.int x1)], [], zhp S)) rfl ?_
  refine go_run 1 (F' := (1, [some (.ref th), some (.int x1)], [.ref th], zhp S)) rfl ?_
  replace hm := zgd hm
  obtain ⟨b1, hm⟩ := hm
  replace hm := zlb_inv hm
  obtain ⟨o1, eo1, hm⟩ := hm
  refine go_hg (v := va_rf o1) rfl b1 (by decide) (by rw [← eo1]; rfl) ?_
  refine go_run 1 (F' := (5, [some (.ref th), some (.int x1)], [.ref th, va_rf o1], zhp S)) rfl ?_
  refine go_hg (v := .int (zI S 2 th)) rfl b1 (by decide) rfl ?_
  refine go_run 3 (F' := (12, [some (.ref th), some (.int x1)], [.int 8, .int ((zI S 2 th) + x1), va_rf o1], zhp S)) rfl ?_
  refine go_run 1 (F' := (13, [some (.ref th), some (.int x1)], [.int (((zI S 2 th) + x1) - ((zI S 2 th) + x1) / 8 * 8), va_rf o1], zhp S)) rfl ?_
  replace hm := zob_inv hm
  obtain ⟨a2, rfl, hm⟩ := hm
  replace hm := zgd hm
  obtain ⟨b2, hm⟩ := hm
  replace hm := zgd hm
  obtain ⟨b3, hm⟩ := hm
  refine go_hald2 rfl b2 b3 rfl rfl ?_
  refine go_run 0 (F' := (14, [some (.ref th), some (.int x1)], [.int ((zAI S a2) (Int32.toNatClampNeg (((zI S 2 th) + x1) - ((zI S 2 th) + x1) / 8 * 8)))], zhp S)) rfl ?_
  replace hm := zgd hm
  obtain ⟨b4, hm⟩ := hm
  cases hm
  exact go_ret rfl rfl rfl (decide_eq_true b4)
theorem ehyQ_isLabelAt {th : Nat} {S : hS} {x1 : Int32} {S' : hS} {r : Int32} (hm : yQ_isLabelAt S th x1 = some (S', r)) : Ex S S' := by
  unfold yQ_isLabelAt at hm
  have hx : Ex S S := Ex_r
  replace hm := zgd hm
  obtain ⟨b1, hm⟩ := hm
  replace hm := zlb_inv hm
  obtain ⟨o1, eo1, hm⟩ := hm
  replace hm := zob_inv hm
  obtain ⟨a2, rfl, hm⟩ := hm
  replace hm := zgd hm
  obtain ⟨b2, hm⟩ := hm
  replace hm := zgd hm
  obtain ⟨b3, hm⟩ := hm
  replace hm := zgd hm
  obtain ⟨b4, hm⟩ := hm
  cases hm
  exact hx
def y_label (S : hS) (th : Nat) (x1 : Int32) (x2 : Int32) (x3 : Int32) : Option (hS × (Nat ⊕ Int32)) := (if ztg S th = 1 then (zcT (y_needMessage S th x1 x2 x3) fun S1 v1 => (if ztg S1 th = 1 then (zlb (zR S1 5 th) fun o2 => (zob o2 fun a3 => (if ztg S1 a3 = 9 then (zcP (yT_queueOf S1 a3 x1 x2) fun S4 o4 => (zob o4 fun a5 => (if ztg S4 a5 = 7 then (zcP (yQ_isLabelAt S4 a5 x3) fun S6 v6 => (if v6 = 0 ∨ v6 = 1 then (some (S6, .inr v6)) else none)) else none))) else none))) else none)) else none)
theorem hy_label {X : ie_X} {d th : Nat} {S : hS} {x1 : Int32} {x2 : Int32} {x3 : Int32} {S' : hS} {r : Nat ⊕ Int32} (hm : y_label S th x1 x2 x3 = some (S', r)) : Go X (d + 3) 125 (0, ie_en 125 [.ref th, .int x1, .int x2, .int x3], [], zhp S) (roI r) (zhp S') := by
  unfold y_label at hm
  refine go_run 0 (F' := (0, [some (.ref th), some (.int x1), some (.int x2), some (.int x3)], [], zhp S)) rfl ?_
  refine go_run 4 (F' := (4, [some (.ref th), some (.int x1), some (.int x2), some (.int x3)], [.int x3, .int x2, .int x1, .ref th], zhp S)) rfl ?_
  replace hm := zgd hm
  obtain ⟨b1, hm⟩ := hm
  replace hm := zcT_inv hm
  obtain ⟨S1, w1, e1, hm⟩ := hm
  have k1 := hy_needMessage (X := X) (d := d) e1
  rcases w1 with c1 | v1
  · cases hm
    exact go_out (m' := 123) (as := [.ref th, .int x1, .int x2, .int x3]) (rest := []) rfl (by simp only [ie_step, ie_iv, List.drop, zhp_obj (S := S) b1 (by decide)]; rfl) ⟨rfl, Nat.le_of_ble_eq_true rfl⟩ rfl rfl k1
  replace hm := zcT_v hm
  refine go_call (m' := 123) (as := [.ref th, .int x1, .int x2, .int x3]) (rest := []) (v := none) (h1 := zhp S1) rfl (by simp only [ie_step, ie_iv, List.drop, zhp_obj (S := S) b1 (by decide)]; rfl) ⟨rfl, Nat.le_of_ble_eq_true rfl⟩ k1 ?_
  refine go_run 0 (F' := (7, [some (.ref th), some (.int x1), some (.int x2), some (.int x3)], [], zhp S1)) rfl ?_
  refine go_run 1 (F' := (8, [some (.ref th), some (.int x1), some (.int x2), some (.int x3)], [.ref th], zhp S1)) rfl ?_
  replace hm := zgd hm
  obtain ⟨b2, hm⟩ := hm
  replace hm := zlb_inv hm
  obtain ⟨o2, eo2, hm⟩ := hm
  refine go_hg (v := va_rf o2) rfl b2 (by decide) (by rw [← eo2]; rfl) ?_
  refine go_run 2 (F' := (13, [some (.ref th), some (.int x1), some (.int x2), some (.int x3)], [.int x2, .int x1, va_rf o2], zhp S1)) rfl ?_
  replace hm := zob_inv hm
  obtain ⟨a3, rfl, hm⟩ := hm
  refine go_run 0 (F' := (13, [some (.ref th), some (.int x1), some (.int x2), some (.int x3)], [.int x2, .int x1, .ref a3], zhp S1)) rfl ?_
  replace hm := zgd hm
  obtain ⟨b3, hm⟩ := hm
  replace hm := zcP_inv hm
  obtain ⟨S4, o4, e4, hm⟩ := hm
  have k4 := hyT_queueOf (X := X) (d := d + 2) e4
  refine go_call (m' := 104) (as := [.ref a3, .int x1, .int x2]) (rest := []) (v := some (va_rf o4)) (h1 := zhp S4) rfl (by simp only [ie_step, ie_iv, List.drop, zhp_obj (S := S1) b3 (by decide)]; rfl) ⟨rfl, Nat.le_of_ble_eq_true rfl⟩ k4 ?_
  refine go_run 0 (F' := (16, [some (.ref th), some (.int x1), some (.int x2), some (.int x3)], [va_rf o4], zhp S4)) rfl ?_
  refine go_run 1 (F' := (17, [some (.ref th), some (.int x1), some (.int x2), some (.int x3)], [.int x3, va_rf o4], zhp S4)) rfl ?_
  replace hm := zob_inv hm
  obtain ⟨a5, rfl, hm⟩ := hm
  refine go_run 0 (F' := (17, [some (.ref th), some (.int x1), some (.int x2), some (.int x3)], [.int x3, .ref a5], zhp S4)) rfl ?_
  replace hm := zgd hm
  obtain ⟨b4, hm⟩ := hm
  replace hm := zcP_inv hm
  obtain ⟨S6, v6, e6, hm⟩ := hm
  have k6 := hyQ_isLabelAt (X := X) (d := d + 2) e6
  refine go_call (m' := 126) (as := [.ref a5, .int x3]) (rest := []) (v := some (.int v6)) (h1 := zhp S6) rfl (by simp only [ie_step, ie_iv, List.drop, zhp_obj (S := S4) b4 (by decide)]; rfl) ⟨rfl, Nat.le_of_ble_eq_true rfl⟩ k6 ?_
  refine go_run 0 (F' := (20, [some (.ref th), some (.int x1), some (.int x2), some (.int x3)], [.int v6], zhp S6)) rfl ?_
  refine go_run 0 (F' := (20, [some (.ref th), some (.int x1), some (.int x2), some (.int x3)], [.int v6], zhp S6)) rfl ?_
  replace hm := zgd hm
  obtain ⟨b5, hm⟩ := hm
  cases hm
  exact go_ret rfl rfl rfl (decide_eq_true b5)
theorem ehy_label {th : Nat} {S : hS} {x1 : Int32} {x2 : Int32} {x3 : Int32} {S' : hS} {r : Nat ⊕ Int32} (hm : y_label S th x1 x2 x3 = some (S', r)) : Ex S S' := by
  unfold y_label at hm
  have hx : Ex S S := Ex_r
  replace hm := zgd hm
  obtain ⟨b1, hm⟩ := hm
  replace hm := zcT_inv hm
  obtain ⟨S1, w1, e1, hm⟩ := hm
  have hx := Ex_t (T := S) hx (ehy_needMessage e1)
  rcases w1 with c1 | v1
  · cases hm
    exact hx
  replace hm := zcT_v hm
  replace hm := zgd hm
  obtain ⟨b2, hm⟩ := hm
  replace hm := zlb_inv hm
  obtain ⟨o2, eo2, hm⟩ := hm
  replace hm := zob_inv hm
  obtain ⟨a3, rfl, hm⟩ := hm
  replace hm := zgd hm
  obtain ⟨b3, hm⟩ := hm
  replace hm := zcP_inv hm
  obtain ⟨S4, o4, e4, hm⟩ := hm
  have hx := Ex_t (T := S1) hx (ehyT_queueOf e4)
  replace hm := zob_inv hm
  obtain ⟨a5, rfl, hm⟩ := hm
  replace hm := zgd hm
  obtain ⟨b4, hm⟩ := hm
  replace hm := zcP_inv hm
  obtain ⟨S6, v6, e6, hm⟩ := hm
  have hx := Ex_t (T := S4) hx (ehyQ_isLabelAt e6)
  replace hm := zgd hm
  obtain ⟨b5, hm⟩ := hm
  cases hm
  exact hx
def yS_orElse (S : hS) (p1 : Option Nat) (p2 : Option Nat) : Option (hS × Option Nat) := (zoc p1 (some (S, p2)) fun a1 => (some (S, some a1)))
theorem hyS_orElse {X : ie_X} {d : Nat} {S : hS} {p1 : Option Nat} {p2 : Option Nat} {S' : hS} {r : Option Nat} (hm : yS_orElse S p1 p2 = some (S', r)) : Go X (d + 0) 130 (0, ie_en 130 [va_rf p1, va_rf p2], [], zhp S) (.inl (some (va_rf r))) (zhp S') := by
  unfold yS_orElse at hm
  refine go_run 0 (F' := (0, [some (va_rf p1), some (va_rf p2)], [], zhp S)) (by cases p1 <;> cases p2 <;> rfl) ?_
  refine go_run 0 (F' := (0, [some (va_rf p1), some (va_rf p2)], [], zhp S)) rfl ?_
  refine go_al rfl rfl ?_
  refine go_run 0 (F' := (1, [some (va_rf p1), some (va_rf p2)], [va_rf p1], zhp S)) rfl ?_
  cases p1 with
  | none =>
    replace hm := zoc_n hm
    refine go_step rfl rfl ?_
    refine go_run 0 (F' := (4, [some (.null), some (va_rf p2)], [], zhp S)) rfl ?_
    refine go_run 0 (F' := (4, [some (.null), some (va_rf p2)], [], zhp S)) rfl ?_
    refine go_al rfl rfl ?_
    refine go_run 1 (F' := (9, [some (.null), some (va_rf p2)], [va_rf p2], zhp S)) rfl ?_
    cases hm
    exact go_reta rfl rfl rfl (fun _ => rfl)
  | some a1 =>
    replace hm := zoc_s hm
    refine go_step rfl rfl ?_
    refine go_run 0 (F' := (8, [some (.ref a1), some (va_rf p2)], [], zhp S)) rfl ?_
    refine go_run 1 (F' := (9, [some (.ref a1), some (va_rf p2)], [.ref a1], zhp S)) rfl ?_
    cases hm
    exact go_end rfl rfl
theorem ehyS_orElse {S : hS} {p1 : Option Nat} {p2 : Option Nat} {S' : hS} {r : Option Nat} (hm : yS_orElse S p1 p2 = some (S', r)) : Ex S S' := by
  unfold yS_orElse at hm
  have hx : Ex S S := Ex_r
  cases p1 with
  | none =>
    replace hm := zoc_n hm
    cases hm
    exact hx
  | some a1 =>
    replace hm := zoc_s hm
    cases hm
    exact hx
