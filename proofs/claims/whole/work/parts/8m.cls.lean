def y_message (S : hS) (th : Nat) (x1 : Int32) (x2 : Int32) (x3 : Int32) : Option (hS × (Nat ⊕ Int32)) := (if ztg S th = 1 then (zcT (y_needMessage S th x1 x2 x3) fun S1 v1 => (if ztg S1 th = 1 then (zlb (zR S1 5 th) fun o2 => (zob o2 fun a3 => (if ztg S1 a3 = 9 then (zcP (yT_queueOf S1 a3 x1 x2) fun S4 o4 => (zob o4 fun a5 => (if ztg S4 a5 = 7 then (zcP (yQ_valueAt S4 a5 x3) fun S6 v6 => (some (S6, .inr v6))) else none))) else none))) else none)) else none)
theorem hy_message {X : ie_X} {d th : Nat} {S : hS} {x1 : Int32} {x2 : Int32} {x3 : Int32} {S' : hS} {r : Nat ⊕ Int32} (hm : y_message S th x1 x2 x3 = some (S', r)) : Go X (d + 3) 122 (0, ie_en 122 [.ref th, .int x1, .int x2, .int x3], [], zhp S) (roI r) (zhp S') := by
  unfold y_message at hm
  refine go_run 0 (F' := (0, [some (.ref th), some (.int x1), some (.int x2), some (.int x3)], [], zhp S)) rfl ?_
  refine go_run 4 (F' := (4, [some (.ref th), some (.int x1), some (.int x2), some (.int x3)], [.int x3, .int x2, .int x1, .ref th], zhp S)) rfl ?_
  replace hm := zgd hm
  obtain ⟨b1, hm⟩ := hm
  replace hm := zcT_inv hm
  obtain ⟨S1, w1, e1, hm⟩ := hm
  have k1 := hy_needMessage (X := X) (d := d) e1
  rcases w1 with c1 | v1
  · cases hm
    exact go_out (m' := 123) (as := [.ref th, .int x1, .int x2, .int x3]) (rest := []) rfl (by simp only [ie_step, ie_iv, List.drop, zhp_obj (S := S) b1 (by decide)]; rfl) ⟨rfl, Nat.le_of_ble_eq_true rfl⟩ rfl rfl k1
  replace hm := zcT_v hm
  refine go_call (m' := 123) (as := [.ref th, .int x1, .int x2, .int x3]) (rest := []) (v := none) (h1 := zhp S1) rfl (by simp only [ie_step, ie_iv, List.drop, zhp_obj (S := S) b1 (by decide)]; rfl) ⟨rfl, Nat.le_of_ble_eq_true rfl⟩ k1 ?_
  refine go_run 0 (F' := (7, [some (.ref th), some (.int x1), some (.int x2), some (.int x3)], [], zhp S1)) rfl ?_
  refine go_run 1 (F' := (8, [some (.ref th), some (.int x1), some (.int x2), some (.int x3)], [.ref th], zhp S1)) rfl ?_
  replace hm := zgd hm
  obtain ⟨b2, hm⟩ := hm
  replace hm := zlb_inv hm
  obtain ⟨o2, eo2, hm⟩ := hm
  refine go_hg (v := va_rf o2) rfl b2 (by decide) (by rw [← eo2]; rfl) ?_
  refine go_run 2 (F' := (13, [some (.ref th), some (.int x1), some (.int x2), some (.int x3)], [.int x2, .int x1, va_rf o2], zhp S1)) rfl ?_
  replace hm := zob_inv hm
  obtain ⟨a3, rfl, hm⟩ := hm
  refine go_run 0 (F' := (13, [some (.ref th), some (.int x1), some (.int x2), some (.int x3)], [.int x2, .int x1, .ref a3], zhp S1)) rfl ?_
  replace hm := zgd hm
  obtain ⟨b3, hm⟩ := hm
  replace hm := zcP_inv hm
  obtain ⟨S4, o4, e4, hm⟩ := hm
  have k4 := hyT_queueOf (X := X) (d := d + 2) e4
  refine go_call (m' := 104) (as := [.ref a3, .int x1, .int x2]) (rest := []) (v := some (va_rf o4)) (h1 := zhp S4) rfl (by simp only [ie_step, ie_iv, List.drop, zhp_obj (S := S1) b3 (by decide)]; rfl) ⟨rfl, Nat.le_of_ble_eq_true rfl⟩ k4 ?_
  refine go_run 0 (F' := (16, [some (.ref th), some (.int x1), some (.int x2), some (.int x3)], [va_rf o4], zhp S4)) rfl ?_
  refine go_run 1 (F' := (17, [some (.ref th), some (.int x1), some (.int x2), some (.int x3)], [.int x3, va_rf o4], zhp S4)) rfl ?_
  replace hm := zob_inv hm
  obtain ⟨a5, rfl, hm⟩ := hm
  refine go_run 0 (F' := (17, [some (.ref th), some (.int x1), some (.int x2), some (.int x3)], [.int x3, .ref a5], zhp S4)) rfl ?_
  replace hm := zgd hm
  obtain ⟨b4, hm⟩ := hm
  replace hm := zcP_inv hm
  obtain ⟨S6, v6, e6, hm⟩ := hm
  have k6 := hyQ_valueAt (X := X) (d := d + 2) e6
  refine go_call (m' := 110) (as := [.ref a5, .int x3]) (rest := []) (v := some (.int v6)) (h1 := zhp S6) rfl (by simp only [ie_step, ie_iv, List.drop, zhp_obj (S := S4) b4 (by decide)]; rfl) ⟨rfl, Nat.le_of_ble_eq_true rfl⟩ k6 ?_
  refine go_run 0 (F' := (20, [some (.ref th), some (.int x1), some (.int x2), some (.int x3)], [.int v6], zhp S6)) rfl ?_
  refine go_run 0 (F' := (20, [some (.ref th), some (.int x1), some (.int x2), some (.int x3)], [.int v6], zhp S6)) rfl ?_
  cases hm
  exact go_end rfl rfl
def yQ_isLabelAt (S : hS) (th : Nat) (x1 : Int32) : Option (hS × Int32) := (if ztg S th = 7 then (zlb (zR S 1 th) fun o1 => (zob o1 fun a2 => (if ztg S a2 = 22 then (if ib (((zI S 2 th) + x1) - ((zI S 2 th) + x1) / 8 * 8) (zLen S a2) then (if (zAI S a2) (Int32.toNatClampNeg (((zI S 2 th) + x1) - ((zI S 2 th) + x1) / 8 * 8)) = 0 ∨ (zAI S a2) (Int32.toNatClampNeg (((zI S 2 th) + x1) - ((zI S 2 th) + x1) / 8 * 8)) = 1 then (some (S, (zAI S a2) (Int32.toNatClampNeg (((zI S 2 th) + x1) - ((zI S 2 th) + x1) / 8 * 8)))) else none) else none) else none))) else none)
theorem hyQ_isLabelAt {X : ie_X} {d th : Nat} {S : hS} {x1 : Int32} {S' : hS} {r : Int32} (hm : yQ_isLabelAt S th x1 = some (S', r)) : Go X (d + 0) 126 (0, ie_en 126 [.ref th, .int x1], [], zhp S) (.inl (some (.int r))) (zhp S') := by
  unfold yQ_isLabelAt at hm
  refine go_run 0 (F' := (0, [some (.ref th), some (.int x1)], [], zhp S)) rfl ?_
  refine go_run 1 (F' := (1, [some (.ref th), some (.int x1)], [.ref th], zhp S)) rfl ?_
  replace hm := zgd hm
  obtain ⟨b1, hm⟩ := hm
  replace hm := zlb_inv hm
  obtain ⟨o1, eo1, hm⟩ := hm
  refine go_hg (v := va_rf o1) rfl b1 (by decide) (by rw [← eo1]; rfl) ?_
  refine go_run 1 (F' := (5, [some (.ref th), some (.int x1)], [.ref th, va_rf o1], zhp S)) rfl ?_
  refine go_hg (v := .int (zI S 2 th)) rfl b1 (by decide) rfl ?_
  refine go_run 3 (F' := (12, [some (.ref th), some (.int x1)], [.int 8, .int ((zI S 2 th) + x1), va_rf o1], zhp S)) rfl ?_
  refine go_run 1 (F' := (13, [some (.ref th), some (.int x1)], [.int (((zI S 2 th) + x1) - ((zI S 2 th) + x1) / 8 * 8), va_rf o1], zhp S)) rfl ?_
  replace hm := zob_inv hm
  obtain ⟨a2, rfl, hm⟩ := hm
  replace hm := zgd hm
  obtain ⟨b2, hm⟩ := hm
  replace hm := zgd hm
  obtain ⟨b3, hm⟩ := hm
  refine go_hald2 rfl b2 b3 rfl rfl ?_
  refine go_run 0 (F' := (14, [some (.ref th), some (.int x1)], [.int ((zAI S a2) (Int32.toNatClampNeg (((zI S 2 th) + x1) - ((zI S 2 th) + x1) / 8 * 8)))], zhp S)) rfl ?_
  replace hm := zgd hm
  obtain ⟨b4, hm⟩ := hm
  cases hm
  exact go_ret rfl rfl rfl (decide_eq_true b4)
def y_label (S : hS) (th : Nat) (x1 : Int32) (x2 : Int32) (x3 : Int32) : Option (hS × (Nat ⊕ Int32)) := (if ztg S th = 1 then (zcT (y_needMessage S th x1 x2 x3) fun S1 v1 => (if ztg S1 th = 1 then (zlb (zR S1 5 th) fun o2 => (zob o2 fun a3 => (if ztg S1 a3 = 9 then (zcP (yT_queueOf S1 a3 x1 x2) fun S4 o4 => (zob o4 fun a5 => (if ztg S4 a5 = 7 then (zcP (yQ_isLabelAt S4 a5 x3) fun S6 v6 => (if v6 = 0 ∨ v6 = 1 then (some (S6, .inr v6)) else none)) else none))) else none))) else none)) else none)
theorem hy_label {X : ie_X} {d th : Nat} {S : hS} {x1 : Int32} {x2 : Int32} {x3 : Int32} {S' : hS} {r : Nat ⊕ Int32} (hm : y_label S th x1 x2 x3 = some (S', r)) : Go X (d + 3) 125 (0, ie_en 125 [.ref th, .int x1, .int x2, .int x3], [], zhp S) (roI r) (zhp S') := by
  unfold y_label at hm
  refine go_run 0 (F' := (0, [some (.ref th), some (.int x1), some (.int x2), some (.int x3)], [], zhp S)) rfl ?_
  refine go_run 4 (F' := (4, [some (.ref th), some (.int x1), some (.int x2), some (.int x3)], [.int x3, .int x2, .int x1, .ref th], zhp S)) rfl ?_
  replace hm := zgd hm
  obtain ⟨b1, hm⟩ := hm
  replace hm := zcT_inv hm
  obtain ⟨S1, w1, e1, hm⟩ := hm
  have k1 := hy_needMessage (X := X) (d := d) e1
  rcases w1 with c1 | v1
  · cases hm
    exact go_out (m' := 123) (as := [.ref th, .int x1, .int x2, .int x3]) (rest := []) rfl (by simp only [ie_step, ie_iv, List.drop, zhp_obj (S := S) b1 (by decide)]; rfl) ⟨rfl, Nat.le_of_ble_eq_true rfl⟩ rfl rfl k1
  replace hm := zcT_v hm
  refine go_call (m' := 123) (as := [.ref th, .int x1, .int x2, .int x3]) (rest := []) (v := none) (h1 := zhp S1) rfl (by simp only [ie_step, ie_iv, List.drop, zhp_obj (S := S) b1 (by decide)]; rfl) ⟨rfl, Nat.le_of_ble_eq_true rfl⟩ k1 ?_
  refine go_run 0 (F' := (7, [some (.ref th), some (.int x1), some (.int x2), some (.int x3)], [], zhp S1)) rfl ?_
  refine go_run 1 (F' := (8, [some (.ref th), some (.int x1), some (.int x2), some (.int x3)], [.ref th], zhp S1)) rfl ?_
  replace hm := zgd hm
  obtain ⟨b2, hm⟩ := hm
  replace hm := zlb_inv hm
  obtain ⟨o2, eo2, hm⟩ := hm
  refine go_hg (v := va_rf o2) rfl b2 (by decide) (by rw [← eo2]; rfl) ?_
  refine go_run 2 (F' := (13, [some (.ref th), some (.int x1), some (.int x2), some (.int x3)], [.int x2, .int x1, va_rf o2], zhp S1)) rfl ?_
  replace hm := zob_inv hm
  obtain ⟨a3, rfl, hm⟩ := hm
  refine go_run 0 (F' := (13, [some (.ref th), some (.int x1), some (.int x2), some (.int x3)], [.int x2, .int x1, .ref a3], zhp S1)) rfl ?_
  replace hm := zgd hm
  obtain ⟨b3, hm⟩ := hm
  replace hm := zcP_inv hm
  obtain ⟨S4, o4, e4, hm⟩ := hm
  have k4 := hyT_queueOf (X := X) (d := d + 2) e4
  refine go_call (m' := 104) (as := [.ref a3, .int x1, .int x2]) (rest := []) (v := some (va_rf o4)) (h1 := zhp S4) rfl (by simp only [ie_step, ie_iv, List.drop, zhp_obj (S := S1) b3 (by decide)]; rfl) ⟨rfl, Nat.le_of_ble_eq_true rfl⟩ k4 ?_
  refine go_run 0 (F' := (16, [some (.ref th), some (.int x1), some (.int x2), some (.int x3)], [va_rf o4], zhp S4)) rfl ?_
  refine go_run 1 (F' := (17, [some (.ref th), some (.int x1), some (.int x2), some (.int x3)], [.int x3, va_rf o4], zhp S4)) rfl ?_
  replace hm := zob_inv hm
  obtain ⟨a5, rfl, hm⟩ := hm
  refine go_run 0 (F' := (17, [some (.ref th), some (.int x1), some (.int x2), some (.int x3)], [.int x3, .ref a5], zhp S4)) rfl ?_
  replace hm := zgd hm
  obtain ⟨b4, hm⟩ := hm
  replace hm := zcP_inv hm
  obtain ⟨S6, v6, e6, hm⟩ := hm
  have k6 := hyQ_isLabelAt (X := X) (d := d + 2) e6
  refine go_call (m' := 126) (as := [.ref a5, .int x3]) (rest := []) (v := some (.int v6)) (h1 := zhp S6) rfl (by simp only [ie_step, ie_iv, List.drop, zhp_obj (S := S4) b4 (by decide)]; rfl) ⟨rfl, Nat.le_of_ble_eq_true rfl⟩ k6 ?_
  refine go_run 0 (F' := (20, [some (.ref th), some (.int x1), some (.int x2), some (.int x3)], [.int v6], zhp S6)) rfl ?_
  refine go_run 0 (F' := (20, [some (.ref th), some (.int x1), some (.int x2), some (.int x3)], [.int v6], zhp S6)) rfl ?_
  replace hm := zgd hm
  obtain ⟨b5, hm⟩ := hm
  cases hm
  exact go_ret rfl rfl rfl (decide_eq_true b5)
def yS_orElse (S : hS) (p1 : Option Nat) (p2 : Option Nat) : Option (hS × Option Nat) := (zoc p1 (some (S, p2)) fun a1 => (some (S, some a1)))
theorem hyS_orElse {X : ie_X} {d : Nat} {S : hS} {p1 : Option Nat} {p2 : Option Nat} {S' : hS} {r : Option Nat} (hm : yS_orElse S p1 p2 = some (S', r)) : Go X (d + 0) 130 (0, ie_en 130 [va_rf p1, va_rf p2], [], zhp S) (.inl (some (va_rf r))) (zhp S') := by
  unfold yS_orElse at hm
  refine go_run 0 (F' := (0, [some (va_rf p1), some (va_rf p2)], [], zhp S)) (by cases p1 <;> cases p2 <;> rfl) ?_
  refine go_run 0 (F' := (0, [some (va_rf p1), some (va_rf p2)], [], zhp S)) rfl ?_
  refine go_al rfl rfl ?_
  refine go_run 0 (F' := (1, [some (va_rf p1), some (va_rf p2)], [va_rf p1], zhp S)) rfl ?_
  cases p1 with
  | none =>
    replace hm := zoc_n hm
    refine go_step rfl rfl ?_
    refine go_run 0 (F' := (4, [some (.null), some (va_rf p2)], [], zhp S)) rfl ?_
    refine go_run 0 (F' := (4, [some (.null), some (va_rf p2)], [], zhp S)) rfl ?_
    refine go_al rfl rfl ?_
    refine go_run 1 (F' := (9, [some (.null), some (va_rf p2)], [va_rf p2], zhp S)) rfl ?_
    cases hm
    exact go_reta rfl rfl rfl (fun _ => rfl)
  | some a1 =>
    replace hm := zoc_s hm
    refine go_step rfl rfl ?_
    refine go_run 0 (F' := (8, [some (.ref a1), some (va_rf p2)], [], zhp S)) rfl ?_
    refine go_run 1 (F' := (9, [some (.ref a1), some (va_rf p2)], [.ref a1], zhp S)) rfl ?_
    cases hm
    exact go_end rfl rfl
theorem sw_129_30 {X : ie_X} {r : Nat × Nat × Nat} {ls : ie_L} {st : List Value} {h : ie_H} {x : Int32} (q0 : ¬ x = 1) (q1 : ¬ x = 2) (q2 : ¬ x = 6) : ie_step X 129 (.lookupswitch 95 #[(1, 34), (2, 53), (6, 72)]) r 30 ls (.int x :: st) h = some (.inl (125, ls, st, h)) := by
  have n0 : x.toInt ≠ 1 := fun z => q0 (Int32.toInt_inj.mp z)
  have n1 : x.toInt ≠ 2 := fun z => q1 (Int32.toInt_inj.mp z)
  have n2 : x.toInt ≠ 6 := fun z => q2 (Int32.toInt_inj.mp z)
  clear q0 q1 q2
  show (some (.inl (ie_lk 30 95 [(1, 34), (2, 53), (6, 72)] x.toInt, ls, st, h)) : ie_R) = _
  unfold ie_lk
  rw [Op.lookupswitch.offset_cons, if_neg (Ne.symm n0), Op.lookupswitch.offset_cons, if_neg (Ne.symm n1), Op.lookupswitch.offset_cons, if_neg (Ne.symm n2), Op.lookupswitch.offset_nil]
  rfl
def yS_perform (n : Nat) (S : hS) (th : Nat) (p1 : Option Nat) : Option (hS × Option Nat) := (if ztg S th = 10 then (if zI S 1 th = 4 then (zlb (zR S 10 th) fun o1 => (some (S, o1))) else (zcP (yE_value n S (zL S th) p1 (zI S 2 th)) fun S2 v2 => (if ztg S2 th = 10 then (if zI S2 1 th = 1 then (zob p1 fun a3 => (if ztg S2 a3 = 20 then (if ib (y_indexOf (zI S2 2 th) (zI S2 4 th)) (zLen S2 a3) then (zlb (zR S2 10 th) fun o4 => (some (szAI S2 a3 (upd (zAI S2 a3) (Int32.toNatClampNeg (y_indexOf (zI S2 2 th) (zI S2 4 th))) v2), o4))) else none) else none)) else (if zI S2 1 th = 2 then (zob p1 fun a5 => (if ztg S2 a5 = 20 then (if ib (y_indexOf (zI S2 3 th) (zI S2 4 th)) (zLen S2 a5) then (zlb (zR S2 10 th) fun o6 => (some (szAI S2 a5 (upd (zAI S2 a5) (Int32.toNatClampNeg (y_indexOf (zI S2 3 th) (zI S2 4 th))) v2), o6))) else none) else none)) else (if zI S2 1 th = 6 then (if v2 = 0 then (zlb (zR S2 8 th) fun o7 => (zlb (zR S2 10 th) fun o8 => (zcP (yS_orElse S2 o7 o8) fun S9 o9 => (some (S9, o9))))) else (zlb (zR S2 7 th) fun o10 => (zlb (zR S2 10 th) fun o11 => (zcP (yS_orElse S2 o10 o11) fun S12 o12 => (some (S12, o12)))))) else (if v2 = 0 then (zlb (zR S2 10 th) fun o13 => (some (S2, o13))) else (zlb (zR S2 7 th) fun o14 => (zcP (yS_orElse S2 o14 (some th)) fun S15 o15 => (some (S15, o15)))))))) else none))) else none)
theorem hyS_perform {X : ie_X} {d th : Nat} {n : Nat} {S : hS} {p1 : Option Nat} {S' : hS} {r : Option Nat} (hm : yS_perform n S th p1 = some (S', r)) : Go X (d + 3) 129 (0, ie_en 129 [.ref th, va_rf p1], [], zhp S) (.inl (some (va_rf r))) (zhp S') := by
  unfold yS_perform at hm
  refine go_run 0 (F' := (0, [some (.ref th), some (va_rf p1), none], [], zhp S)) (by cases p1 <;> rfl) ?_
  refine go_run 1 (F' := (1, [some (.ref th), some (va_rf p1), none], [.ref th], zhp S)) rfl ?_
  replace hm := zgd hm
  obtain ⟨b1, hm⟩ := hm
  refine go_hg (v := .int (zI S 1 th)) rfl b1 (by decide) rfl ?_
  refine go_run 1 (F' := (5, [some (.ref th), some (va_rf p1), none], [.int 4, .int (zI S 1 th)], zhp S)) rfl ?_
  refine go_step rfl rfl ?_
  by_cases q2 : zI S 1 th = 4
  · rw [if_pos q2] at hm ⊢
    refine go_run 0 (F' := (8, [some (.ref th), some (va_rf p1), none], [], zhp S)) rfl ?_
    refine go_run 1 (F' := (9, [some (.ref th), some (va_rf p1), none], [.ref th], zhp S)) rfl ?_
    replace hm := zlb_inv hm
    obtain ⟨o1, eo1, hm⟩ := hm
    refine go_hg (v := va_rf o1) rfl b1 (by decide) (by rw [← eo1]; rfl) ?_
    refine go_run 0 (F' := (12, [some (.ref th), some (va_rf p1), none], [va_rf o1], zhp S)) rfl ?_
    cases hm
    exact go_reta rfl rfl rfl (fun _ => rfl)
  · rw [if_neg q2] at hm ⊢
    refine go_run 0 (F' := (13, [some (.ref th), some (va_rf p1), none], [], zhp S)) rfl ?_
    refine go_run 1 (F' := (14, [some (.ref th), some (va_rf p1), none], [.ref th], zhp S)) rfl ?_
    refine go_hg (v := .long (zL S th)) rfl b1 (by decide) rfl ?_
    refine go_run 0 (F' := (17, [some (.ref th), some (va_rf p1), none], [.long (zL S th)], zhp S)) rfl ?_
    refine go_al rfl rfl ?_
    refine go_run 1 (F' := (19, [some (.ref th), some (va_rf p1), none], [.ref th, va_rf p1, .long (zL S th)], zhp S)) rfl ?_
    refine go_hg (v := .int (zI S 2 th)) rfl b1 (by decide) rfl ?_
    refine go_run 0 (F' := (22, [some (.ref th), some (va_rf p1), none], [.int (zI S 2 th), va_rf p1, .long (zL S th)], zhp S)) rfl ?_
    replace hm := zcP_inv hm
    obtain ⟨S2, v2, e2, hm⟩ := hm
    have k2 := hyE_value (X := X) (d := d) e2
    refine go_call (m' := 98) (as := [.long (zL S th), va_rf p1, .int (zI S 2 th)]) (rest := []) (v := some (.int v2)) (h1 := zhp S2) rfl rfl ⟨by cases p1 <;> rfl, by cases p1 <;> exact Nat.le_of_ble_eq_true rfl⟩ k2 ?_
    refine go_run 0 (F' := (25, [some (.ref th), some (va_rf p1), none], [.int v2], zhp S2)) rfl ?_
    refine go_run 2 (F' := (27, [some (.ref th), some (va_rf p1), some (.int v2)], [.ref th], zhp S2)) rfl ?_
    replace hm := zgd hm
    obtain ⟨b3, hm⟩ := hm
    refine go_hg (v := .int (zI S2 1 th)) rfl b3 (by decide) rfl ?_
    refine go_run 0 (F' := (30, [some (.ref th), some (va_rf p1), some (.int v2)], [.int (zI S2 1 th)], zhp S2)) rfl ?_
    by_cases q4 : zI S2 1 th = 1
    · rw [if_pos q4] at hm
      refine go_step rfl (F := (64, [some (.ref th), some (va_rf p1), some (.int v2)], [], zhp S2)) (by simp only [ie_step, q4]; rfl) ?_
      refine go_run 0 (F' := (64, [some (.ref th), some (va_rf p1), some (.int v2)], [], zhp S2)) rfl ?_
      refine go_run 0 (F' := (64, [some (.ref th), some (va_rf p1), some (.int v2)], [], zhp S2)) rfl ?_
      refine go_al rfl rfl ?_
      refine go_run 1 (F' := (66, [some (.ref th), some (va_rf p1), some (.int v2)], [.ref th, va_rf p1], zhp S2)) rfl ?_
      refine go_hg (v := .int (zI S2 2 th)) rfl b3 (by decide) rfl ?_
      refine go_run 1 (F' := (70, [some (.ref th), some (va_rf p1), some (.int v2)], [.ref th, .int (zI S2 2 th), va_rf p1], zhp S2)) rfl ?_
      refine go_hg (v := .int (zI S2 4 th)) rfl b3 (by decide) rfl ?_
      refine go_run 0 (F' := (73, [some (.ref th), some (va_rf p1), some (.int v2)], [.int (zI S2 4 th), .int (zI S2 2 th), va_rf p1], zhp S2)) rfl ?_
      refine go_call (m' := 88) (as := [.int (zI S2 2 th), .int (zI S2 4 th)]) (rest := [va_rf p1]) (v := some (.int (y_indexOf (zI S2 2 th) (zI S2 4 th)))) (h1 := zhp S2) rfl (by cases p1 <;> rfl) ⟨rfl, Nat.le_of_ble_eq_true rfl⟩ (hy_indexOf _ _) ?_
      refine go_run 0 (F' := (76, [some (.ref th), some (va_rf p1), some (.int v2)], [.int (y_indexOf (zI S2 2 th) (zI S2 4 th)), va_rf p1], zhp S2)) rfl ?_
      refine go_run 1 (F' := (77, [some (.ref th), some (va_rf p1), some (.int v2)], [.int v2, .int (y_indexOf (zI S2 2 th) (zI S2 4 th)), va_rf p1], zhp S2)) rfl ?_
      replace hm := zob_inv hm
      obtain ⟨a3, rfl, hm⟩ := hm
      replace hm := zgd hm
      obtain ⟨b5, hm⟩ := hm
      replace hm := zgd hm
      obtain ⟨b6, hm⟩ := hm
      refine go_hast0 rfl b5 b6 rfl rfl ?_
      refine go_run 1 (F' := (79, [some (.ref th), some (.ref a3), some (.int v2)], [.ref th], zhp (szAI S2 a3 (upd (zAI S2 a3) (Int32.toNatClampNeg (y_indexOf (zI S2 2 th) (zI S2 4 th))) v2)))) rfl ?_
      replace hm := zlb_inv hm
      obtain ⟨o4, eo4, hm⟩ := hm
      refine go_hg (v := va_rf o4) rfl b3 (by decide) (by rw [← eo4]; rfl) ?_
      refine go_run 0 (F' := (82, [some (.ref th), some (.ref a3), some (.int v2)], [va_rf o4], zhp (szAI S2 a3 (upd (zAI S2 a3) (Int32.toNatClampNeg (y_indexOf (zI S2 2 th) (zI S2 4 th))) v2)))) rfl ?_
      cases hm
      exact go_reta rfl rfl rfl (fun _ => rfl)
    · rw [if_neg q4] at hm
      by_cases q7 : zI S2 1 th = 2
      · rw [if_pos q7] at hm
        refine go_step rfl (F := (83, [some (.ref th), some (va_rf p1), some (.int v2)], [], zhp S2)) (by simp only [ie_step, q7]; rfl) ?_
        refine go_run 0 (F' := (83, [some (.ref th), some (va_rf p1), some (.int v2)], [], zhp S2)) rfl ?_
        refine go_run 0 (F' := (83, [some (.ref th), some (va_rf p1), some (.int v2)], [], zhp S2)) rfl ?_
        refine go_al rfl rfl ?_
        refine go_run 1 (F' := (85, [some (.ref th), some (va_rf p1), some (.int v2)], [.ref th, va_rf p1], zhp S2)) rfl ?_
        refine go_hg (v := .int (zI S2 3 th)) rfl b3 (by decide) rfl ?_
        refine go_run 1 (F' := (89, [some (.ref th), some (va_rf p1), some (.int v2)], [.ref th, .int (zI S2 3 th), va_rf p1], zhp S2)) rfl ?_
        refine go_hg (v := .int (zI S2 4 th)) rfl b3 (by decide) rfl ?_
        refine go_run 0 (F' := (92, [some (.ref th), some (va_rf p1), some (.int v2)], [.int (zI S2 4 th), .int (zI S2 3 th), va_rf p1], zhp S2)) rfl ?_
        refine go_call (m' := 88) (as := [.int (zI S2 3 th), .int (zI S2 4 th)]) (rest := [va_rf p1]) (v := some (.int (y_indexOf (zI S2 3 th) (zI S2 4 th)))) (h1 := zhp S2) rfl (by cases p1 <;> rfl) ⟨rfl, Nat.le_of_ble_eq_true rfl⟩ (hy_indexOf _ _) ?_
        refine go_run 0 (F' := (95, [some (.ref th), some (va_rf p1), some (.int v2)], [.int (y_indexOf (zI S2 3 th) (zI S2 4 th)), va_rf p1], zhp S2)) rfl ?_
        refine go_run 1 (F' := (96, [some (.ref th), some (va_rf p1), some (.int v2)], [.int v2, .int (y_indexOf (zI S2 3 th) (zI S2 4 th)), va_rf p1], zhp S2)) rfl ?_
        replace hm := zob_inv hm
        obtain ⟨a5, rfl, hm⟩ := hm
        replace hm := zgd hm
        obtain ⟨b8, hm⟩ := hm
        replace hm := zgd hm
        obtain ⟨b9, hm⟩ := hm
        refine go_hast0 rfl b8 b9 rfl rfl ?_
        refine go_run 1 (F' := (98, [some (.ref th), some (.ref a5), some (.int v2)], [.ref th], zhp (szAI S2 a5 (upd (zAI S2 a5) (Int32.toNatClampNeg (y_indexOf (zI S2 3 th) (zI S2 4 th))) v2)))) rfl ?_
        replace hm := zlb_inv hm
        obtain ⟨o6, eo6, hm⟩ := hm
        refine go_hg (v := va_rf o6) rfl b3 (by decide) (by rw [← eo6]; rfl) ?_
        refine go_run 0 (F' := (101, [some (.ref th), some (.ref a5), some (.int v2)], [va_rf o6], zhp (szAI S2 a5 (upd (zAI S2 a5) (Int32.toNatClampNeg (y_indexOf (zI S2 3 th) (zI S2 4 th))) v2)))) rfl ?_
        cases hm
        exact go_reta rfl rfl rfl (fun _ => rfl)
      · rw [if_neg q7] at hm
        by_cases q10 : zI S2 1 th = 6
        · rw [if_pos q10] at hm
          refine go_step rfl (F := (102, [some (.ref th), some (va_rf p1), some (.int v2)], [], zhp S2)) (by simp only [ie_step, q10]; rfl) ?_
          refine go_run 0 (F' := (102, [some (.ref th), some (va_rf p1), some (.int v2)], [], zhp S2)) rfl ?_
          refine go_run 1 (F' := (103, [some (.ref th), some (va_rf p1), some (.int v2)], [.int v2], zhp S2)) rfl ?_
          refine go_step rfl rfl ?_
          by_cases q11 : v2 = 0
          · rw [if_pos q11] at hm ⊢
            refine go_run 0 (F' := (113, [some (.ref th), some (va_rf p1), some (.int v2)], [], zhp S2)) rfl ?_
            refine go_run 1 (F' := (114, [some (.ref th), some (va_rf p1), some (.int v2)], [.ref th], zhp S2)) rfl ?_
            replace hm := zlb_inv hm
            obtain ⟨o7, eo7, hm⟩ := hm
            refine go_hg (v := va_rf o7) rfl b3 (by decide) (by rw [← eo7]; rfl) ?_
            refine go_run 1 (F' := (118, [some (.ref th), some (va_rf p1), some (.int v2)], [.ref th, va_rf o7], zhp S2)) rfl ?_
            replace hm := zlb_inv hm
            obtain ⟨o8, eo8, hm⟩ := hm
            refine go_hg (v := va_rf o8) rfl b3 (by decide) (by rw [← eo8]; rfl) ?_
            refine go_run 0 (F' := (121, [some (.ref th), some (va_rf p1), some (.int v2)], [va_rf o8, va_rf o7], zhp S2)) rfl ?_
            replace hm := zcP_inv hm
            obtain ⟨S9, o9, e9, hm⟩ := hm
            have k9 := hyS_orElse (X := X) (d := d + 2) e9
            refine go_call (m' := 130) (as := [va_rf o7, va_rf o8]) (rest := []) (v := some (va_rf o9)) (h1 := zhp S9) rfl rfl ⟨by cases o7 <;> cases o8 <;> rfl, by cases o7 <;> cases o8 <;> exact Nat.le_of_ble_eq_true rfl⟩ k9 ?_
            refine go_run 0 (F' := (124, [some (.ref th), some (va_rf p1), some (.int v2)], [va_rf o9], zhp S9)) rfl ?_
            refine go_run 0 (F' := (124, [some (.ref th), some (va_rf p1), some (.int v2)], [va_rf o9], zhp S9)) rfl ?_
            cases hm
            exact go_reta rfl rfl rfl (fun _ => rfl)
          · rw [if_neg q11] at hm ⊢
            refine go_run 0 (F' := (106, [some (.ref th), some (va_rf p1), some (.int v2)], [], zhp S2)) rfl ?_
            refine go_run 1 (F' := (107, [some (.ref th), some (va_rf p1), some (.int v2)], [.ref th], zhp S2)) rfl ?_
            replace hm := zlb_inv hm
            obtain ⟨o10, eo10, hm⟩ := hm
            refine go_hg (v := va_rf o10) rfl b3 (by decide) (by rw [← eo10]; rfl) ?_
            refine go_run 2 (F' := (118, [some (.ref th), some (va_rf p1), some (.int v2)], [.ref th, va_rf o10], zhp S2)) rfl ?_
            replace hm := zlb_inv hm
            obtain ⟨o11, eo11, hm⟩ := hm
            refine go_hg (v := va_rf o11) rfl b3 (by decide) (by rw [← eo11]; rfl) ?_
            refine go_run 0 (F' := (121, [some (.ref th), some (va_rf p1), some (.int v2)], [va_rf o11, va_rf o10], zhp S2)) rfl ?_
            replace hm := zcP_inv hm
            obtain ⟨S12, o12, e12, hm⟩ := hm
            have k12 := hyS_orElse (X := X) (d := d + 2) e12
            refine go_call (m' := 130) (as := [va_rf o10, va_rf o11]) (rest := []) (v := some (va_rf o12)) (h1 := zhp S12) rfl rfl ⟨by cases o10 <;> cases o11 <;> rfl, by cases o10 <;> cases o11 <;> exact Nat.le_of_ble_eq_true rfl⟩ k12 ?_
            refine go_run 0 (F' := (124, [some (.ref th), some (va_rf p1), some (.int v2)], [va_rf o12], zhp S12)) rfl ?_
            refine go_run 0 (F' := (124, [some (.ref th), some (va_rf p1), some (.int v2)], [va_rf o12], zhp S12)) rfl ?_
            cases hm
            exact go_reta rfl rfl rfl (fun _ => rfl)
        · rw [if_neg q10] at hm
          refine go_step rfl (F := (125, [some (.ref th), some (va_rf p1), some (.int v2)], [], zhp S2)) (sw_129_30 q4 q7 q10) ?_
          refine go_run 0 (F' := (125, [some (.ref th), some (va_rf p1), some (.int v2)], [], zhp S2)) rfl ?_
          refine go_run 1 (F' := (126, [some (.ref th), some (va_rf p1), some (.int v2)], [.int v2], zhp S2)) rfl ?_
          refine go_step rfl rfl ?_
          by_cases q12 : v2 = 0
          · rw [if_pos q12] at hm ⊢
            refine go_run 0 (F' := (140, [some (.ref th), some (va_rf p1), some (.int v2)], [], zhp S2)) rfl ?_
            refine go_run 1 (F' := (141, [some (.ref th), some (va_rf p1), some (.int v2)], [.ref th], zhp S2)) rfl ?_
            replace hm := zlb_inv hm
            obtain ⟨o13, eo13, hm⟩ := hm
            refine go_hg (v := va_rf o13) rfl b3 (by decide) (by rw [← eo13]; rfl) ?_
            refine go_run 0 (F' := (144, [some (.ref th), some (va_rf p1), some (.int v2)], [va_rf o13], zhp S2)) rfl ?_
            cases hm
            exact go_reta rfl rfl rfl (fun _ => rfl)
          · rw [if_neg q12] at hm ⊢
            refine go_run 0 (F' := (129, [some (.ref th), some (va_rf p1), some (.int v2)], [], zhp S2)) rfl ?_
            refine go_run 1 (F' := (130, [some (.ref th), some (va_rf p1), some (.int v2)], [.ref th], zhp S2)) rfl ?_
            replace hm := zlb_inv hm
            obtain ⟨o14, eo14, hm⟩ := hm
            refine go_hg (v := va_rf o14) rfl b3 (by decide) (by rw [← eo14]; rfl) ?_
            refine go_run 1 (F' := (134, [some (.ref th), some (va_rf p1), some (.int v2)], [.ref th, va_rf o14], zhp S2)) rfl ?_
            replace hm := zcP_inv hm
            obtain ⟨S15, o15, e15, hm⟩ := hm
            have k15 := hyS_orElse (X := X) (d := d + 2) e15
            refine go_call (m' := 130) (as := [va_rf o14, .ref th]) (rest := []) (v := some (va_rf o15)) (h1 := zhp S15) rfl rfl ⟨by cases o14 <;> rfl, by cases o14 <;> exact Nat.le_of_ble_eq_true rfl⟩ k15 ?_
            refine go_run 0 (F' := (137, [some (.ref th), some (va_rf p1), some (.int v2)], [va_rf o15], zhp S15)) rfl ?_
            refine go_run 1 (F' := (144, [some (.ref th), some (va_rf p1), some (.int v2)], [va_rf o15], zhp S15)) rfl ?_
            cases hm
            exact go_reta rfl rfl rfl (fun _ => rfl)
def y_whole_51 (th : Nat) : Nat → hS → Int32 → Option Nat → Int32 → Option (hS × (Nat ⊕ Int32))
  | 0, _, _, _, _ => none
  | n + 1, S, l1, p2, l3 => (if l1 ≤ l3 then (zoc p2 (some (S, .inr l3)) fun a1 => (some (S, .inr (-1)))) else (zoc p2 (some (S, .inr l3)) fun a2 => (if ztg S th = 1 then (zlb (zR S 6 th) fun o3 => (if ztg S a2 = 10 then (zcP (yS_perform n S a2 o3) fun S4 o4 => (y_whole_51 th n S4 l1 o4 (l3 + 1))) else none)) else none)))
theorem hy_whole_51 {X : ie_X} {d th : Nat} : ∀ (n : Nat) {S : hS} {l1 : Int32} {p2 : Option Nat} {l3 : Int32} {S' : hS} {r : Nat ⊕ Int32}, y_whole_51 th n S l1 p2 l3 = some (S', r) → Go X (d + 4) 128 (51, [some (.ref th), some (.int l1), some (va_rf p2), some (.int l3)], [], zhp S) (roI r) (zhp S') := by
  intro n
  induction n with
  | zero => intro S l1 p2 l3 S' r hm; cases hm
  | succ n ih =>
    intro S l1 p2 l3 S' r hm
    unfold y_whole_51 at hm
    refine go_run 0 (F' := (51, [some (.ref th), some (.int l1), some (va_rf p2), some (.int l3)], [], zhp S)) rfl ?_
    refine go_run 2 (F' := (53, [some (.ref th), some (.int l1), some (va_rf p2), some (.int l3)], [.int l1, .int l3], zhp S)) rfl ?_
    refine go_step rfl rfl ?_
    by_cases q1 : l1 ≤ l3
    · rw [if_pos q1] at hm ⊢
      refine go_run 0 (F' := (75, [some (.ref th), some (.int l1), some (va_rf p2), some (.int l3)], [], zhp S)) rfl ?_
      refine go_run 0 (F' := (75, [some (.ref th), some (.int l1), some (va_rf p2), some (.int l3)], [], zhp S)) rfl ?_
      refine go_al rfl rfl ?_
      refine go_run 0 (F' := (76, [some (.ref th), some (.int l1), some (va_rf p2), some (.int l3)], [va_rf p2], zhp S)) rfl ?_
      cases p2 with
      | none =>
        replace hm := zoc_n hm
        refine go_step rfl rfl ?_
        refine go_run 0 (F' := (79, [some (.ref th), some (.int l1), some (.null), some (.int l3)], [], zhp S)) rfl ?_
        refine go_run 2 (F' := (84, [some (.ref th), some (.int l1), some (.null), some (.int l3)], [.int l3], zhp S)) rfl ?_
        cases hm
        exact go_end rfl rfl
      | some a1 =>
        replace hm := zoc_s hm
        refine go_step rfl rfl ?_
        refine go_run 0 (F' := (83, [some (.ref th), some (.int l1), some (.ref a1), some (.int l3)], [], zhp S)) rfl ?_
        refine go_run 1 (F' := (84, [some (.ref th), some (.int l1), some (.ref a1), some (.int l3)], [.int (-1)], zhp S)) rfl ?_
        cases hm
        exact go_end rfl rfl
    · rw [if_neg q1] at hm ⊢
      refine go_run 0 (F' := (56, [some (.ref th), some (.int l1), some (va_rf p2), some (.int l3)], [], zhp S)) rfl ?_
      refine go_run 0 (F' := (56, [some (.ref th), some (.int l1), some (va_rf p2), some (.int l3)], [], zhp S)) rfl ?_
      refine go_al rfl rfl ?_
      refine go_run 0 (F' := (57, [some (.ref th), some (.int l1), some (va_rf p2), some (.int l3)], [va_rf p2], zhp S)) rfl ?_
      cases p2 with
      | none =>
        replace hm := zoc_n hm
        refine go_step rfl rfl ?_
        refine go_run 0 (F' := (75, [some (.ref th), some (.int l1), some (.null), some (.int l3)], [], zhp S)) rfl ?_
        refine go_run 4 (F' := (84, [some (.ref th), some (.int l1), some (.null), some (.int l3)], [.int l3], zhp S)) rfl ?_
        cases hm
        exact go_end rfl rfl
      | some a2 =>
        replace hm := zoc_s hm
        refine go_step rfl rfl ?_
        refine go_run 0 (F' := (60, [some (.ref th), some (.int l1), some (.ref a2), some (.int l3)], [], zhp S)) rfl ?_
        refine go_run 2 (F' := (62, [some (.ref th), some (.int l1), some (.ref a2), some (.int l3)], [.ref th, .ref a2], zhp S)) rfl ?_
        replace hm := zgd hm
        obtain ⟨b2, hm⟩ := hm
        replace hm := zlb_inv hm
        obtain ⟨o3, eo3, hm⟩ := hm
        refine go_hg (v := va_rf o3) rfl b2 (by decide) (by rw [← eo3]; rfl) ?_
        refine go_run 0 (F' := (65, [some (.ref th), some (.int l1), some (.ref a2), some (.int l3)], [va_rf o3, .ref a2], zhp S)) rfl ?_
        replace hm := zgd hm
        obtain ⟨b3, hm⟩ := hm
        replace hm := zcP_inv hm
        obtain ⟨S4, o4, e4, hm⟩ := hm
        have k4 := hyS_perform (X := X) (d := d) e4
        refine go_call (m' := 129) (as := [.ref a2, va_rf o3]) (rest := []) (v := some (va_rf o4)) (h1 := zhp S4) rfl (by simp only [ie_step, ie_iv, List.drop, zhp_obj (S := S) b3 (by decide)]; rfl) ⟨by cases o3 <;> rfl, by cases o3 <;> exact Nat.le_of_ble_eq_true rfl⟩ k4 ?_
        refine go_run 0 (F' := (68, [some (.ref th), some (.int l1), some (.ref a2), some (.int l3)], [va_rf o4], zhp S4)) rfl ?_
        refine go_run 0 (F' := (68, [some (.ref th), some (.int l1), some (.ref a2), some (.int l3)], [va_rf o4], zhp S4)) rfl ?_
        refine go_as rfl ?_
        refine go_run 2 (F' := (51, [some (.ref th), some (.int l1), some (va_rf o4), some (.int (l3 + 1))], [], zhp S4)) rfl ?_
        exact ih hm
def y_whole (n : Nat) (S : hS) (th : Nat) (x1 : Int32) : Option (hS × (Nat ⊕ Int32)) := (if x1 < 0 then (some (szEx S 11, .inl 11)) else (if x1 ≤ 2000 then (if ztg S th = 1 then (zcT (y_needPlay S th) fun S1 v1 => (if ztg S1 th = 1 then (zlb (zR S1 5 th) fun o2 => (zob o2 fun a3 => (if ztg S1 a3 = 9 then (zlb (zR S1 2 a3) fun o4 => (zlb (zR S1 6 th) fun o5 => (zlb (zR S1 6 th) fun o6 => (zob o6 fun a7 => (if zal S1 a7 then (zob o5 fun a8 => (zob o4 fun a9 => (if ztg S1 a9 = 20 then (if ztg S1 a8 = 20 then (if zcpk (Int32.ofNat (zLen S1 a7)) S1 a9 a8 then (zlb (zR S1 4 th) fun o10 => (y_whole_51 th  n (szAI S1 a8 (va_cpy (zAI S1 a9) (zAI S1 a8) 0 0 (Int32.toNatClampNeg (Int32.ofNat (zLen S1 a7))))) x1 o10 0)) else none) else none) else none))) else none))))) else none))) else none)) else none) else (some (szEx S 11, .inl 11))))
theorem hy_whole {X : ie_X} {d th : Nat} {n : Nat} {S : hS} {x1 : Int32} {S' : hS} {r : Nat ⊕ Int32} (hm : y_whole n S th x1 = some (S', r)) : Go X (d + 4) 128 (0, ie_en 128 [.ref th, .int x1], [], zhp S) (roI r) (zhp S') := by
  unfold y_whole at hm
  refine go_run 0 (F' := (0, [some (.ref th), some (.int x1), none, none], [], zhp S)) rfl ?_
  refine go_run 1 (F' := (1, [some (.ref th), some (.int x1), none, none], [.int x1], zhp S)) rfl ?_
  refine go_step rfl rfl ?_
  by_cases q1 : x1 < 0
  · rw [if_pos q1] at hm ⊢
    refine go_run 0 (F' := (11, [some (.ref th), some (.int x1), none, none], [], zhp S)) rfl ?_
    refine go_run 0 (F' := (11, [some (.ref th), some (.int x1), none, none], [], zhp S)) rfl ?_
    cases hm
    exact go_hexc rfl (by decide) (by decide)
  · rw [if_neg q1] at hm ⊢
    refine go_run 0 (F' := (4, [some (.ref th), some (.int x1), none, none], [], zhp S)) rfl ?_
    refine go_run 2 (F' := (8, [some (.ref th), some (.int x1), none, none], [.int 2000, .int x1], zhp S)) rfl ?_
    refine go_step rfl rfl ?_
    by_cases q2 : x1 ≤ 2000
    · rw [if_pos q2] at hm ⊢
      refine go_run 0 (F' := (19, [some (.ref th), some (.int x1), none, none], [], zhp S)) rfl ?_
      refine go_run 1 (F' := (20, [some (.ref th), some (.int x1), none, none], [.ref th], zhp S)) rfl ?_
      replace hm := zgd hm
      obtain ⟨b3, hm⟩ := hm
      replace hm := zcT_inv hm
      obtain ⟨S1, w1, e1, hm⟩ := hm
      have k1 := hy_needPlay (X := X) (d := d + 3) e1
      rcases w1 with c1 | v1
      · cases hm
        exact go_out (m' := 81) (as := [.ref th]) (rest := []) rfl (by simp only [ie_step, ie_iv, List.drop, zhp_obj (S := S) b3 (by decide)]; rfl) ⟨rfl, Nat.le_of_ble_eq_true rfl⟩ rfl rfl k1
      replace hm := zcT_v hm
      refine go_call (m' := 81) (as := [.ref th]) (rest := []) (v := none) (h1 := zhp S1) rfl (by simp only [ie_step, ie_iv, List.drop, zhp_obj (S := S) b3 (by decide)]; rfl) ⟨rfl, Nat.le_of_ble_eq_true rfl⟩ k1 ?_
      refine go_run 0 (F' := (23, [some (.ref th), some (.int x1), none, none], [], zhp S1)) rfl ?_
      refine go_run 1 (F' := (24, [some (.ref th), some (.int x1), none, none], [.ref th], zhp S1)) rfl ?_
      replace hm := zgd hm
      obtain ⟨b4, hm⟩ := hm
      replace hm := zlb_inv hm
      obtain ⟨o2, eo2, hm⟩ := hm
      refine go_hg (v := va_rf o2) rfl b4 (by decide) (by rw [← eo2]; rfl) ?_
      refine go_run 0 (F' := (27, [some (.ref th), some (.int x1), none, none], [va_rf o2], zhp S1)) rfl ?_
      replace hm := zob_inv hm
      obtain ⟨a3, rfl, hm⟩ := hm
      replace hm := zgd hm
      obtain ⟨b5, hm⟩ := hm
      replace hm := zlb_inv hm
      obtain ⟨o4, eo4, hm⟩ := hm
      refine go_hg (v := va_rf o4) rfl b5 (by decide) (by rw [← eo4]; rfl) ?_
      refine go_run 2 (F' := (32, [some (.ref th), some (.int x1), none, none], [.ref th, .int 0, va_rf o4], zhp S1)) rfl ?_
      replace hm := zlb_inv hm
      obtain ⟨o5, eo5, hm⟩ := hm
      refine go_hg (v := va_rf o5) rfl b4 (by decide) (by rw [← eo5]; rfl) ?_
      refine go_run 2 (F' := (37, [some (.ref th), some (.int x1), none, none], [.ref th, .int 0, va_rf o5, .int 0, va_rf o4], zhp S1)) rfl ?_
      replace hm := zlb_inv hm
      obtain ⟨o6, eo6, hm⟩ := hm
      refine go_hg (v := va_rf o6) rfl b4 (by decide) (by rw [← eo6]; rfl) ?_
      refine go_run 0 (F' := (40, [some (.ref th), some (.int x1), none, none], [va_rf o6, .int 0, va_rf o5, .int 0, va_rf o4], zhp S1)) rfl ?_
      replace hm := zob_inv hm
      obtain ⟨a7, rfl, hm⟩ := hm
      replace hm := zgd hm
      obtain ⟨b6, hm⟩ := hm
      refine go_hlen rfl b6 ?_
      refine go_run 0 (F' := (41, [some (.ref th), some (.int x1), none, none], [.int (Int32.ofNat (zLen S1 a7)), .int 0, va_rf o5, .int 0, va_rf o4], zhp S1)) rfl ?_
      replace hm := zob_inv hm
      obtain ⟨a8, rfl, hm⟩ := hm
      replace hm := zob_inv hm
      obtain ⟨a9, rfl, hm⟩ := hm
      replace hm := zgd hm
      obtain ⟨b7, hm⟩ := hm
      replace hm := zgd hm
      obtain ⟨b8, hm⟩ := hm
      replace hm := zgd hm
      obtain ⟨b9, hm⟩ := hm
      refine go_hcp rfl b7 b8 b9 (Nat.le_of_ble_eq_true rfl) ?_
      refine go_run 1 (F' := (45, [some (.ref th), some (.int x1), none, none], [.ref th], zhp (szAI S1 a8 (va_cpy (zAI S1 a9) (zAI S1 a8) 0 0 (Int32.toNatClampNeg (Int32.ofNat (zLen S1 a7))))))) rfl ?_
      replace hm := zlb_inv hm
      obtain ⟨o10, eo10, hm⟩ := hm
      refine go_hg (v := va_rf o10) rfl b4 (by decide) (by rw [← eo10]; rfl) ?_
      refine go_run 0 (F' := (48, [some (.ref th), some (.int x1), none, none], [va_rf o10], zhp (szAI S1 a8 (va_cpy (zAI S1 a9) (zAI S1 a8) 0 0 (Int32.toNatClampNeg (Int32.ofNat (zLen S1 a7))))))) rfl ?_
      refine go_as rfl ?_
      refine go_run 2 (F' := (51, [some (.ref th), some (.int x1), some (va_rf o10), some (.int 0)], [], zhp (szAI S1 a8 (va_cpy (zAI S1 a9) (zAI S1 a8) 0 0 (Int32.toNatClampNeg (Int32.ofNat (zLen S1 a7))))))) rfl ?_
      exact hy_whole_51  n hm
    · rw [if_neg q2] at hm ⊢
      refine go_run 0 (F' := (11, [some (.ref th), some (.int x1), none, none], [], zhp S)) rfl ?_
      refine go_run 0 (F' := (11, [some (.ref th), some (.int x1), none, none], [], zhp S)) rfl ?_
      cases hm
      exact go_hexc rfl (by decide) (by decide)
def y_wanted (S : hS) (th : Nat) (x1 : Int32) (x2 : Int32) : Option (hS × (Nat ⊕ Int32)) := (zcT (y_needVariable S x1 x2) fun S1 v1 => (if ztg S1 th = 1 then (zlb (zR S1 6 th) fun o2 => (zob o2 fun a3 => (if ztg S1 a3 = 20 then (if ib (y_indexOf x1 x2) (zLen S1 a3) then (some (S1, .inr ((zAI S1 a3) (Int32.toNatClampNeg (y_indexOf x1 x2))))) else none) else none))) else none))
theorem hy_wanted {X : ie_X} {d th : Nat} {S : hS} {x1 : Int32} {x2 : Int32} {S' : hS} {r : Nat ⊕ Int32} (hm : y_wanted S th x1 x2 = some (S', r)) : Go X (d + 2) 132 (0, ie_en 132 [.ref th, .int x1, .int x2], [], zhp S) (roI r) (zhp S') := by
  unfold y_wanted at hm
  refine go_run 0 (F' := (0, [some (.ref th), some (.int x1), some (.int x2)], [], zhp S)) rfl ?_
  refine go_run 2 (F' := (2, [some (.ref th), some (.int x1), some (.int x2)], [.int x2, .int x1], zhp S)) rfl ?_
  replace hm := zcT_inv hm
  obtain ⟨S1, w1, e1, hm⟩ := hm
  have k1 := hy_needVariable (X := X) (d := d) e1
  rcases w1 with c1 | v1
  · cases hm
    exact go_out (m' := 86) (as := [.int x1, .int x2]) (rest := []) rfl rfl ⟨rfl, Nat.le_of_ble_eq_true rfl⟩ rfl rfl k1
  replace hm := zcT_v hm
  refine go_call (m' := 86) (as := [.int x1, .int x2]) (rest := []) (v := none) (h1 := zhp S1) rfl rfl ⟨rfl, Nat.le_of_ble_eq_true rfl⟩ k1 ?_
  refine go_run 0 (F' := (5, [some (.ref th), some (.int x1), some (.int x2)], [], zhp S1)) rfl ?_
  refine go_run 1 (F' := (6, [some (.ref th), some (.int x1), some (.int x2)], [.ref th], zhp S1)) rfl ?_
  replace hm := zgd hm
  obtain ⟨b1, hm⟩ := hm
  replace hm := zlb_inv hm
  obtain ⟨o2, eo2, hm⟩ := hm
  refine go_hg (v := va_rf o2) rfl b1 (by decide) (by rw [← eo2]; rfl) ?_
  refine go_run 2 (F' := (11, [some (.ref th), some (.int x1), some (.int x2)], [.int x2, .int x1, va_rf o2], zhp S1)) rfl ?_
  refine go_call (m' := 88) (as := [.int x1, .int x2]) (rest := [va_rf o2]) (v := some (.int (y_indexOf x1 x2))) (h1 := zhp S1) rfl (by cases o2 <;> rfl) ⟨rfl, Nat.le_of_ble_eq_true rfl⟩ (hy_indexOf _ _) ?_
  refine go_run 0 (F' := (14, [some (.ref th), some (.int x1), some (.int x2)], [.int (y_indexOf x1 x2), va_rf o2], zhp S1)) rfl ?_
  refine go_run 0 (F' := (14, [some (.ref th), some (.int x1), some (.int x2)], [.int (y_indexOf x1 x2), va_rf o2], zhp S1)) rfl ?_
  replace hm := zob_inv hm
  obtain ⟨a3, rfl, hm⟩ := hm
  replace hm := zgd hm
  obtain ⟨b2, hm⟩ := hm
  replace hm := zgd hm
  obtain ⟨b3, hm⟩ := hm
  refine go_hald0 rfl b2 b3 rfl rfl ?_
  refine go_run 0 (F' := (15, [some (.ref th), some (.int x1), some (.int x2)], [.int ((zAI S1 a3) (Int32.toNatClampNeg (y_indexOf x1 x2)))], zhp S1)) rfl ?_
  cases hm
  exact go_end rfl rfl
