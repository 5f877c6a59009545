theorem sw_129_30 {X : ie_X} {r : Nat × Nat × Nat} {ls : ie_L} {st : List Value} {h : ie_H} {x : Int32} (q0 : ¬ x = 1) (q1 : ¬ x = 2) (q2 : ¬ x = 6) : ie_step X 129 (.lookupswitch 95 #[(1, 34), (2, 53), (6, 72)]) r 30 ls (.int x :: st) h = some (.inl (125, ls, st, h)) := by
  have n0 : x.toInt ≠ 1 := fun z => q0 (Int32.toInt_inj.mp z)
  have n1 : x.toInt ≠ 2 := fun z => q1 (Int32.toInt_inj.mp z)
  have n2 : x.toInt ≠ 6 := fun z => q2 (Int32.toInt_inj.mp z)
  clear q0 q1 q2
  show (some (.inl (ie_lk 30 95 [(1, 34), (2, 53), (6, 72)] x.toInt, ls, st, h)) : ie_R) = _
  unfold ie_lk
  rw [Op.lookupswitch.offset_cons, if_neg (Ne.symm n0), Op.lookupswitch.offset_cons, if_neg (Ne.symm n1), Op.lookupswitch.offset_cons, if_neg (Ne.symm n2), Op.lookupswitch.offset_nil]
  rfl
def yS_perform (n : Nat) (S : hS) (th : Nat) (p1 : Option Nat) : Option (hS × Option Nat) := (if ztg S th = 10 then (if zI S 1 th = 4 then (zlb (zR S 10 th) fun o1 => (some (S, o1))) else (zcP (yE_value n S (zL S th) p1 (zI S 2 th)) fun S2 v2 => (if ztg S2 th = 10 then (if zI S2 1 th = 1 then (zob p1 fun a3 => (if ztg S2 a3 = 20 then (if ib (y_indexOf (zI S2 2 th) (zI S2 4 th)) (zLen S2 a3) then (zlb (zR S2 10 th) fun o4 => (some (szAI S2 a3 (upd (zAI S2 a3) (Int32.toNatClampNeg (y_indexOf (zI S2 2 th) (zI S2 4 th))) v2), o4))) else none) else none)) else (if zI S2 1 th = 2 then (zob p1 fun a5 => (if ztg S2 a5 = 20 then (if ib (y_indexOf (zI S2 3 th) (zI S2 4 th)) (zLen S2 a5) then (zlb (zR S2 10 th) fun o6 => (some (szAI S2 a5 (upd (zAI S2 a5) (Int32.toNatClampNeg (y_indexOf (zI S2 3 th) (zI S2 4 th))) v2), o6))) else none) else none)) else (if zI S2 1 th = 6 then (if v2 = 0 then (zlb (zR S2 8 th) fun o7 => (zlb (zR S2 10 th) fun o8 => (zcP (yS_orElse S2 o7 o8) fun S9 o9 => (some (S9, o9))))) else (zlb (zR S2 7 th) fun o10 => (zlb (zR S2 10 th) fun o11 => (zcP (yS_orElse S2 o10 o11) fun S12 o12 => (some (S12, o12)))))) else (if v2 = 0 then (zlb (zR S2 10 th) fun o13 => (some (S2, o13))) else (zlb (zR S2 7 th) fun o14 => (zcP (yS_orElse S2 o14 (some th)) fun S15 o15 => (some (S15, o15)))))))) else none))) else none)
theorem hyS_perform {X : ie_X} {d th : Nat} {n : Nat} {S : hS} {p1 : Option Nat} {S' : hS} {r : Option Nat} (hm : yS_perform n S th p1 = some (S', r)) : Go X (d + 3) 129 (0, ie_en 129 [.ref th, va_rf p1], [], zhp S) (.inl (some (va_rf r))) (zhp S') := by
  unfold yS_perform at hm
  refine go_run 0 (F' := (0, [some (.ref th), some (va_rf p1), none], [], zhp S)) (by cases p1 <;> rfl) ?_
  refine go_run 1 (F' := (1, [some (.ref th), some (va_rf p1), none], [.ref th], zhp S)) rfl ?_
  replace hm := zgd hm
  obtain ⟨b1, hm⟩ := hm
  refine go_hg (v := .int (zI S 1 th)) rfl b1 (by decide) rfl ?_
  refine go_run 1 (F' := (5, [some (.ref th), some (va_rf p1), none], [.int 4, .int (zI S 1 th)], zhp S)) rfl ?_
  refine go_step rfl rfl ?_
  by_cases q2 : zI S 1 th = 4
  · rw [if_pos q2] at hm ⊢
    refine go_run 0 (F' := (8, [some (.ref th), some (va_rf p1), none], [], zhp S)) rfl ?_
    refine go_run 1 (F' := (9, [some (.ref th), some (va_rf p1), none], [.ref th], zhp S)) rfl ?_
    replace hm := zlb_inv hm
    obtain ⟨o1, eo1, hm⟩ := hm
    refine go_hg (v := va_rf o1) rfl b1 (by decide) (by rw [← eo1]; rfl) ?_
    refine go_run 0 (F' := (12, [some (.ref th), some (va_rf p1), none], [va_rf o1], zhp S)) rfl ?_
    cases hm
    exact go_reta rfl rfl rfl (fun _ => rfl)
  · rw [if_neg q2] at hm ⊢
    refine go_run 0 (F' := (13, [some (.ref th), some (va_rf p1), none], [], zhp S)) rfl ?_
    refine go_run 1 (F' := (14, [some (.ref th), some (va_rf p1), none], [.ref th], zhp S)) rfl ?_
    refine go_hg (v := .long (zL S th)) rfl b1 (by decide) rfl ?_
    refine go_run 0 (F' := (17, [some (.ref th), some (va_rf p1), none], [.long (zL S th)], zhp S)) rfl ?_
    refine go_al rfl rfl ?_
    refine go_run 1 (F' := (19, [some (.ref th), some (va_rf p1), none], [.ref th, va_rf p1, .long (zL S th)], zhp S)) rfl ?_
    refine go_hg (v := .int (zI S 2 th)) rfl b1 (by decide) rfl ?_
    refine go_run 0 (F' := (22, [some (.ref th), some (va_rf p1), none], [.int (zI S 2 th), va_rf p1, .long (zL S th)], zhp S)) rfl ?_
    replace hm := zcP_inv hm
    obtain ⟨S2, v2, e2, hm⟩ := hm
    have k2 := hyE_value (X := X) (d := d) e2
    refine go_call (m' := 98) (as := [.long (zL S th), va_rf p1, .int (zI S 2 th)]) (rest := []) (v := some (.int v2)) (h1 := zhp S2) rfl rfl ⟨by cases p1 <;> rfl, by cases p1 <;> exact Nat.le_of_ble_eq_true rfl⟩ k2 ?_
    refine go_run 0 (F' := (25, [some (.ref th), some (va_rf p1), none], [.int v2], zhp S2)) rfl ?_
    refine go_run 2 (F' := (27, [some (.ref th), some (va_rf p1), some (.int v2)], [.ref th], zhp S2)) rfl ?_
    replace hm := zgd hm
    obtain ⟨b3, hm⟩ := hm
    refine go_hg (v := .int (zI S2 1 th)) rfl b3 (by decide) rfl ?_
    refine go_run 0 (F' := (30, [some (.ref th), some (va_rf p1), some (.int v2)], [.int (zI S2 1 th)], zhp S2)) rfl ?_
    by_cases q4 : zI S2 1 th = 1
    · rw [if_pos q4] at hm
      refine go_step rfl (F := (64, [some (.ref th), some (va_rf p1), some (.int v2)], [], zhp S2)) (by simp only [ie_step, q4]; rfl) ?_
      refine go_run 0 (F' := (64, [some (.ref th), some (va_rf p1), some (.int v2)], [], zhp S2)) rfl ?_
      refine go_run 0 (F' := (64, [some (.ref th), some (va_rf p1), some (.int v2)], [], zhp S2)) rfl ?_
      refine go_al rfl rfl ?_
      refine go_run 1 (F' := (66, [some (.ref th), some (va_rf p1), some (.int v2)], [.ref th, va_rf p1], zhp S2)) rfl ?_
      refine go_hg (v := .int (zI S2 2 th)) rfl b3 (by decide) rfl ?_
      refine go_run 1 (F' := (70, [some (.ref th), some (va_rf p1), some (.int v2)], [.ref th, .int (zI S2 2 th), va_rf p1], zhp S2)) rfl ?_
      refine go_hg (v := .int (zI S2 4 th)) rfl b3 (by decide) rfl ?_
      refine go_run 0 (F' := (73, [some (.ref th), some (va_rf p1), some (.int v2)], [.int (zI S2 4 th), .int (zI S2 2 th), va_rf p1], zhp S2)) rfl ?_
      refine go_call (m' := 88) (as := [.int (zI S2 2 th), .int (zI S2 4 th)]) (rest := [va_rf p1]) (v := some (.int (y_indexOf (zI S2 2 th) (zI S2 4 th)))) (h1 := zhp S2) rfl (by cases p1 <;> rfl) ⟨rfl, Nat.le_of_ble_eq_true rfl⟩ (hy_indexOf _ _) ?_
      refine go_run 0 (F' := (76, [some (.ref th), some (va_rf p1), some (.int v2)], [.int (y_indexOf (zI S2 2 th) (zI S2 4 th)), va_rf p1], zhp S2)) rfl ?_
      refine go_run 1 (F' := (77, [some (.ref th), some (va_rf p1), some (.int v2)], [.int v2, .int (y_indexOf (zI S2 2 th) (zI S2 4 th)), va_rf p1], zhp S2)) rfl ?_
      replace hm := zob_inv hm
      obtain ⟨a3, rfl, hm⟩ := hm
      replace hm := zgd hm
      obtain ⟨b5, hm⟩ := hm
      replace hm := zgd hm
      obtain ⟨b6, hm⟩ := hm
      refine go_hast0 rfl b5 b6 rfl rfl ?_
      refine go_run 1 (F' := (79, [some (.ref th), some (.ref a3), some (.int v2)], [.ref th], zhp (szAI S2 a3 (upd (zAI S2 a3) (Int32.toNatClampNeg (y_indexOf (zI S2 2 th) (zI S2 4 th))) v2)))) rfl ?_
      replace hm := zlb_inv hm
      obtain ⟨o4, eo4, hm⟩ := hm
      refine go_hg (v := va_rf o4) rfl b3 (by decide) (by rw [← eo4]; rfl) ?_
      refine go_run 0 (F' := (82, [some (.ref th), some (.ref a3), some (.int v2)], [va_rf o4], zhp (szAI S2 a3 (upd (zAI S2 a3) (Int32.toNatClampNeg (y_indexOf (zI S2 2 th) (zI S2 4 th))) v2)))) rfl ?_
      cases hm
      exact go_reta rfl rfl rfl (fun _ => rfl)
    · rw [if_neg q4] at hm
      by_cases q7 : zI S2 1 th = 2
      · rw [if_pos q7] at hm
        refine go_step rfl (F := (83, [some (.ref th), some (va_rf p1), some (.int v2)], [], zhp S2)) (by simp only [ie_step, q7]; rfl) ?_
        refine go_run 0 (F' := (83, [some (.ref th), some (va_rf p1), some (.int v2)], [], zhp S2)) rfl ?_
        refine go_run 0 (F' := (83, [some (.ref th), some (va_rf p1), some (.int v2)], [], zhp S2)) rfl ?_
        refine go_al rfl rfl ?_
        refine go_run 1 (F' := (85, [some (.ref th), some (va_rf p1), some (.int v2)], [.ref th, va_rf p1], zhp S2)) rfl ?_
        refine go_hg (v := .int (zI S2 3 th)) rfl b3 (by decide) rfl ?_
        refine go_run 1 (F' := (89, [some (.ref th), some (va_rf p1), some (.int v2)], [.ref th, .int (zI S2 3 th), va_rf p1], zhp S2)) rfl ?_
        refine go_hg (v := .int (zI S2 4 th)) rfl b3 (by decide) rfl ?_
        refine go_run 0 (F' := (92, [some (.ref th), some (va_rf p1), some (.int v2)], [.int (zI S2 4 th), .int (zI S2 3 th), va_rf p1], zhp S2)) rfl ?_
        refine go_call (m' := 88) (as := [.int (zI S2 3 th), .int (zI S2 4 th)]) (rest := [va_rf p1]) (v := some (.int (y_indexOf (zI S2 3 th) (zI S2 4 th)))) (h1 := zhp S2) rfl (by cases p1 <;> rfl) ⟨rfl, Nat.le_of_ble_eq_true rfl⟩ (hy_indexOf _ _) ?_
        refine go_run 0 (F' := (95, [some (.ref th), some (va_rf p1), some (.int v2)], [.int (y_indexOf (zI S2 3 th) (zI S2 4 th)), va_rf p1], zhp S2)) rfl ?_
        refine go_run 1 (F' := (96, [some (.ref th), some (va_rf p1), some (.int v2)], [.int v2, .int (y_indexOf (zI S2 3 th) (zI S2 4 th)), va_rf p1], zhp S2)) rfl ?_
        replace hm := zob_inv hm
        obtain ⟨a5, rfl, hm⟩ := hm
        replace hm := zgd hm
        obtain ⟨b8, hm⟩ := hm
        replace hm := zgd hm
        obtain ⟨b9, hm⟩ := hm
        refine go_hast0 rfl b8 b9 rfl rfl ?_
        refine go_run 1 (F' := (98, [some (.ref th), some (.ref a5), some (.int v2)], [.ref th], zhp (szAI S2 a5 (upd (zAI S2 a5) (Int32.toNatClampNeg (y_indexOf (zI S2 3 th) (zI S2 4 th))) v2)))) rfl ?_
        replace hm := zlb_inv hm
        obtain ⟨o6, eo6, hm⟩ := hm
        refine go_hg (v := va_rf o6) rfl b3 (by decide) (by rw [← eo6]; rfl) ?_
        refine go_run 0 (F' := (101, [some (.ref th), some (.ref a5), some (.int v2)], [va_rf o6], zhp (szAI S2 a5 (upd (zAI S2 a5) (Int32.toNatClampNeg (y_indexOf (zI S2 3 th) (zI S2 4 th))) v2)))) rfl ?_
        cases hm
        exact go_reta rfl rfl rfl (fun _ => rfl)
      · rw [if_neg q7] at hm
        by_cases q10 : zI S2 1 th = 6
        · rw [if_pos q10] at hm
          refine go_step rfl (F := (102, [some (.ref th), some (va_rf p1), some (.int v2)], [], zhp S2)) (by simp only [ie_step, q10]; rfl) ?_
          refine go_run 0 (F' := (102, [some (.ref th), some (va_rf p1), some (.int v2)], [], zhp S2)) rfl ?_
          refine go_run 1 (F' := (103, [some (.ref th), some (va_rf p1), some (.int v2)], [.int v2], zhp S2)) rfl ?_
          refine go_step rfl rfl ?_
          by_cases q11 : v2 = 0
          · rw [if_pos q11] at hm ⊢
            refine go_run 0 (F' := (113, [some (.ref th), some (va_rf p1), some (.int v2)], [], zhp S2)) rfl ?_
            refine go_run 1 (F' := (114, [some (.ref th), some (va_rf p1), some (.int v2)], [.ref th], zhp S2)) rfl ?_
            replace hm := zlb_inv hm
            obtain ⟨o7, eo7, hm⟩ := hm
            refine go_hg (v := va_rf o7) rfl b3 (by decide) (by rw [← eo7]; rfl) ?_
            refine go_run 1 (F' := (118, [some (.ref th), some (va_rf p1), some (.int v2)], [.ref th, va_rf o7], zhp S2)) rfl ?_
            replace hm := zlb_inv hm
            obtain ⟨o8, eo8, hm⟩ := hm
            refine go_hg (v := va_rf o8) rfl b3 (by decide) (by rw [← eo8]; rfl) ?_
            refine go_run 0 (F' := (121, [some (.ref th), some (va_rf p1), some (.int v2)], [va_rf o8, va_rf o7], zhp S2)) rfl ?_
            replace hm := zcP_inv hm
            obtain ⟨S9, o9, e9, hm⟩ := hm
            have k9 := hyS_orElse (X := X) (d := d + 2) e9
            refine go_call (m' := 130) (as := [va_rf o7, va_rf o8]) (rest := []) (v := some (va_rf o9)) (h1 := zhp S9) rfl rfl ⟨by cases o7 <;> cases o8 <;> rfl, by cases o7 <;> cases o8 <;> exact Nat.le_of_ble_eq_true rfl⟩ k9 ?_
            refine go_run 0 (F' := (124, [some (.ref th), some (va_rf p1), some (.int v2)], [va_rf o9], zhp S9)) rfl ?_
            refine go_run 0 (F' := (124, [some (.ref th), some (va_rf p1), some (.int v2)], [va_rf o9], zhp S9)) rfl ?_
            cases hm
            exact go_reta rfl rfl rfl (fun _ => rfl)
          · rw [if_neg q11] at hm ⊢
            refine go_run 0 (F' := (106, [some (.ref th), some (va_rf p1), some (.int v2)], [], zhp S2)) rfl ?_
            refine go_run 1 (F' := (107, [some (.ref th), some (va_rf p1), some (.int v2)], [.ref th], zhp S2)) rfl ?_
            replace hm := zlb_inv hm
            obtain ⟨o10, eo10, hm⟩ := hm
            refine go_hg (v := va_rf o10) rfl b3 (by decide) (by rw [← eo10]; rfl) ?_
            refine go_run 2 (F' := (118, [some (.ref th), some (va_rf p1), some (.int v2)], [.ref th, va_rf o10], zhp S2)) rfl ?_
            replace hm := zlb_inv hm
            obtain ⟨o11, eo11, hm⟩ := hm
            refine go_hg (v := va_rf o11) rfl b3 (by decide) (by rw [← eo11]; rfl) ?_
            refine go_run 0 (F' := (121, [some (.ref th), some (va_rf p1), some (.int v2)], [va_rf o11, va_rf o10], zhp S2)) rfl ?_
            replace hm := zcP_inv hm
            obtain ⟨S12, o12, e12, hm⟩ := hm
            have k12 := hyS_orElse (X := X) (d := d + 2) e12
            refine go_call (m' := 130) (as := [va_rf o10, va_rf o11]) (rest := []) (v := some (va_rf o12)) (h1 := zhp S12) rfl rfl ⟨by cases o10 <;> cases o11 <;> rfl, by cases o10 <;> cases o11 <;> exact Nat.le_of_ble_eq_true rfl⟩ k12 ?_
            refine go_run 0 (F' := (124, [some (.ref th), some (va_rf p1), some (.int v2)], [va_rf o12], zhp S12)) rfl ?_
            refine go_run 0 (F' := (124, [some (.ref th), some (va_rf p1), some (.int v2)], [va_rf o12], zhp S12)) rfl ?_
            cases hm
            exact go_reta rfl rfl rfl (fun _ => rfl)
        · rw [if_neg q10] at hm
          refine go_step rfl (F := (125, [some (.ref th), some (va_rf p1), some (.int v2)], [], zhp S2)) (sw_129_30 q4 q7 q10) ?_
          refine go_run 0 (F' := (125, [some (.ref th), some (va_rf p1), some (.int v2)], [], zhp S2)) rfl ?_
          refine go_run 1 (F' := (126, [some (.ref th), some (va_rf p1), some (.int v2)], [.int v2], zhp S2)) rfl ?_
          refine go_step rfl rfl ?_
          by_cases q12 : v2 = 0
          · rw [if_pos q12] at hm ⊢
            refine go_run 0 (F' := (140, [some (.ref th), some (va_rf p1), some (.int v2)], [], zhp S2)) rfl ?_
            refine go_run 1 (F' := (141, [some (.ref th), some (va_rf p1), some (.int v2)], [.ref th], zhp S2)) rfl ?_
            replace hm := zlb_inv hm
            obtain ⟨o13, eo13, hm⟩ := hm
            refine go_hg (v := va_rf o13) rfl b3 (by decide) (by rw [← eo13]; rfl) ?_
            refine go_run 0 (F' := (144, [some (.ref th), some (va_rf p1), some (.int v2)], [va_rf o13], zhp S2)) rfl ?_
            cases hm
            exact go_reta rfl rfl rfl (fun _ => rfl)
          · rw [if_neg q12] at hm ⊢
            refine go_run 0 (F' := (129, [some (.ref th), some (va_rf p1), some (.int v2)], [], zhp S2)) rfl ?_
            refine go_run 1 (F' := (130, [some (.ref th), some (va_rf p1), some (.int v2)], [.ref th], zhp S2)) rfl ?_
            replace hm := zlb_inv hm
            obtain ⟨o14, eo14, hm⟩ := hm
            refine go_hg (v := va_rf o14) rfl b3 (by decide) (by rw [← eo14]; rfl) ?_
            refine go_run 1 (F' := (134, [some (.ref th), some (va_rf p1), some (.int v2)], [.ref th, va_rf o14], zhp S2)) rfl ?_
            replace hm := zcP_inv hm
            obtain ⟨S15, o15, e15, hm⟩ := hm
            have k15 := hyS_orElse (X := X) (d := d + 2) e15
            refine go_call (m' := 130) (as := [va_rf o14, .ref th]) (rest := []) (v := some (va_rf o15)) (h1 := zhp S15) rfl rfl ⟨by cases o14 <;> rfl, by cases o14 <;> exact Nat.le_of_ble_eq_true rfl⟩ k15 ?_
            refine go_run 0 (F' := (137, [some (.ref th), some (va_rf p1), some (.int v2)], [va_rf o15], zhp S15)) rfl ?_
            refine go_run 1 (F' := (144, [some (.ref th), some (va_rf p1), some (.int v2)], [va_rf o15], zhp S15)) rfl ?_
            cases hm
            exact go_reta rfl rfl rfl (fun _ => rfl)
theorem ehyS_perform {th : Nat} {n : Nat} {S : hS} {p1 : Option Nat} {S' : hS} {r : Option Nat} (hm : yS_perform n S th p1 = some (S', r)) : Ex S S' := by
  unfold yS_perform at hm
  have hx : Ex S S := Ex_r
  replace hm := zgd hm
  obtain ⟨b1, hm⟩ := hm
  by_cases q2 : zI S 1 th = 4
  · rw [if_pos q2] at hm
    replace hm := zlb_inv hm
    obtain ⟨o1, eo1, hm⟩ := hm
    cases hm
    exact hx
  · rw [if_neg q2] at hm
    replace hm := zcP_inv hm
    obtain ⟨S2, v2, e2, hm⟩ := hm
    have hx := Ex_t (T := S) hx (ehyE_value e2)
    replace hm := zgd hm
    obtain ⟨b3, hm⟩ := hm
    by_cases q4 : zI S2 1 th = 1
    · rw [if_pos q4] at hm
      replace hm := zob_inv hm
      obtain ⟨a3, rfl, hm⟩ := hm
      replace hm := zgd hm
      obtain ⟨b5, hm⟩ := hm
      replace hm := zgd hm
      obtain ⟨b6, hm⟩ := hm
      replace hm := zlb_inv hm
      obtain ⟨o4, eo4, hm⟩ := hm
      cases hm
      exact hx
    · rw [if_neg q4] at hm
      by_cases q7 : zI S2 1 th = 2
      · rw [if_pos q7] at hm
        replace hm := zob_inv hm
        obtain ⟨a5, rfl, hm⟩ := hm
        replace hm := zgd hm
        obtain ⟨b8, hm⟩ := hm
        replace hm := zgd hm
        obtain ⟨b9, hm⟩ := hm
        replace hm := zlb_inv hm
        obtain ⟨o6, eo6, hm⟩ := hm
        cases hm
        exact hx
      · rw [if_neg q7] at hm
        by_cases q10 : zI S2 1 th = 6
        · rw [if_pos q10] at hm
          by_cases q11 : v2 = 0
          · rw [if_pos q11] at hm
            replace hm := zlb_inv hm
            obtain ⟨o7, eo7, hm⟩ := hm
            replace hm := zlb_inv hm
            obtain ⟨o8, eo8, hm⟩ := hm
            replace hm := zcP_inv hm
            obtain ⟨S9, o9, e9, hm⟩ := hm
            have hx := Ex_t (T := S2) hx (ehyS_orElse e9)
            cases hm
            exact hx
          · rw [if_neg q11] at hm
            replace hm := zlb_inv hm
            obtain ⟨o10, eo10, hm⟩ := hm
            replace hm := zlb_inv hm
            obtain ⟨o11, eo11, hm⟩ := hm
            replace hm := zcP_inv hm
            obtain ⟨S12, o12, e12, hm⟩ := hm
            have hx := Ex_t (T := S2) hx (ehyS_orElse e12)
            cases hm
            exact hx
        · rw [if_neg q10] at hm
          by_cases q12 : v2 = 0
          · rw [if_pos q12] at hm
            replace hm := zlb_inv hm
            obtain ⟨o13, eo13, hm⟩ := hm
            cases hm
            exact hx
          · rw [if_neg q12] at hm
            replace hm := zlb_inv hm
            obtain ⟨o14, eo14, hm⟩ := hm
            replace hm := zcP_inv hm
            obtain ⟨S15, o15, e15, hm⟩ := hm
            have hx := Ex_t (T := S2) hx (ehyS_orElse e15)
            cases hm
            exact hx
def y_whole_51 (th : Nat) : Nat → hS → Int32 → Option Nat → Int32 → Option (hS × (Nat ⊕ Int32))
  | 0, _, _, _, _ => none
  | n + 1, S, l1, p2, l3 => (if l1 ≤ l3 then (zoc p2 (some (S, .inr l3)) fun a1 => (some (S, .inr (-1)))) else (zoc p2 (some (S, .inr l3)) fun a2 => (if ztg S th = 1 then (zlb (zR S 6 th) fun o3 => (if ztg S a2 = 10 then (zcP (yS_perform n S a2 o3) fun S4 o4 => (y_whole_51 th n S4 l1 o4 (l3 + 1))) else none)) else none)))
theorem hy_whole_51 {X : ie_X} {d th : Nat} : ∀ (n : Nat) {S : hS} {l1 : Int32} {p2 : Option Nat} {l3 : Int32} {S' : hS} {r : Nat ⊕ Int32}, y_whole_51 th n S l1 p2 l3 = some (S', r) → Go X (d + 4) 128 (51, [some (.ref th), some (.int l1), some (va_rf p2), some (.int l3)], [], zhp S) (roI r) (zhp S') := by
  intro n
  induction n with
  | zero => intro S l1 p2 l3 S' r hm; cases hm
  | succ n ih =>
    intro S l1 p2 l3 S' r hm
    unfold y_whole_51 at hm
    refine go_run 0 (F' := (51, [some (.ref th), some (.int l1), some (va_rf p2), some (.int l3)], [], zhp S)) rfl ?_
    refine go_run 2 (F' := (53, [some (.ref th), some (.int l1), some (va_rf p2), some (.int l3)], [.int l1, .int l3], zhp S)) rfl ?_
    refine go_step rfl rfl ?_
    by_cases q1 : l1 ≤ l3
    · rw [if_pos q1] at hm ⊢
      refine go_run 0 (F' := (75, [some (.ref th), some (.int l1), some (va_rf p2), some (.int l3)], [], zhp S)) rfl ?_
      refine go_run 0 (F' := (75, [some (.ref th), some (.int l1), some (va_rf p2), some (.int l3)], [], zhp S)) rfl ?_
      refine go_al rfl rfl ?_
      refine go_run 0 (F' := (76, [some (.ref th), some (.int l1), some (va_rf p2), some (.int l3)], [va_rf p2], zhp S)) rfl ?_
      cases p2 with
      | none =>
        replace hm := zoc_n hm
        refine go_step rfl rfl ?_
        refine go_run 0 (F' := (79, [some (.ref th), some (.int l1), some (.null), some (.int l3)], [], zhp S)) rfl ?_
        refine go_run 2 (F' := (84, [some (.ref th), some (.int l1), some (.null), some (.int l3)], [.int l3], zhp S)) rfl ?_
        cases hm
        exact go_end rfl rfl
      | some a1 =>
        replace hm := zoc_s hm
        refine go_step rfl rfl ?_
        refine go_run 0 (F' := (83, [some (.ref th), some (.int l1), some (.ref a1), some (.int l3)], [], zhp S)) rfl ?_
        refine go_run 1 (F' := (84, [some (.ref th), some (.int l1), some (.ref a1), some (.int l3)], [.int (-1)], zhp S)) rfl ?_
        cases hm
        exact go_end rfl rfl
    · rw [if_neg q1] at hm ⊢
      refine go_run 0 (F' := (56, [some (.ref th), some (.int l1), some (va_rf p2), some (.int l3)], [], zhp S)) rfl ?_
      refine go_run 0 (F' := (56, [some (.ref th), some (.int l1), some (va_rf p2), some (.int l3)], [], zhp S)) rfl ?_
      refine go_al rfl rfl ?_
      refine go_run 0 (F' := (57, [some (.ref th), some (.int l1), some (va_rf p2), some (.int l3)], [va_rf p2], zhp S)) rfl ?_
      cases p2 with
      | none =>
        replace hm := zoc_n hm
        refine go_step rfl rfl ?_
        refine go_run 0 (F' := (75, [some (.ref th), some (.int l1), some (.null), some (.int l3)], [], zhp S)) rfl ?_
        refine go_run 4 (F' := (84, [some (.ref th), some (.int l1), some (.null), some (.int l3)], [.int l3], zhp S)) rfl ?_
        cases hm
        exact go_end rfl rfl
      | some a2 =>
        replace hm := zoc_s hm
        refine go_step rfl rfl ?_
        refine go_run 0 (F' := (60, [some (.ref th), some (.int l1), some (.ref a2), some (.int l3)], [], zhp S)) rfl ?_
        refine go_run 2 (F' := (62, [some (.ref th), some (.int l1), some (.ref a2), some (.int l3)], [.ref th, .ref a2], zhp S)) rfl ?_
        replace hm := zgd hm
        obtain ⟨b2, hm⟩ := hm
        replace hm := zlb_inv hm
        obtain ⟨o3, eo3, hm⟩ := hm
        refine go_hg (v := va_rf o3) rfl b2 (by decide) (by rw [← eo3]; rfl) ?_
        refine go_run 0 (F' := (65, [some (.ref th), some (.int l1), some (.ref a2), some (.int l3)], [va_rf o3, .ref a2], zhp S)) rfl ?_
        replace hm := zgd hm
        obtain ⟨b3, hm⟩ := hm
        replace hm := zcP_inv hm
        obtain ⟨S4, o4, e4, hm⟩ := hm
        have k4 := hyS_perform (X := X) (d := d) e4
        refine go_call (m' := 129) (as := [.ref a2, va_rf o3]) (rest := []) (v := some (va_rf o4)) (h1 := zhp S4) rfl (by simp only [ie_step, ie_iv, List.drop, zhp_obj (S := S) b3 (by decide)]; rfl) ⟨by cases o3 <;> rfl, by cases o3 <;> exact Nat.le_of_ble_eq_true rfl⟩ k4 ?_
        refine go_run 0 (F' := (68, [some (.ref th), some (.int l1), some (.ref a2), some (.int l3)], [va_rf o4], zhp S4)) rfl ?_
        refine go_run 0 (F' := (68, [some (.ref th), some (.int l1), some (.ref a2), some (.int l3)], [va_rf o4], zhp S4)) rfl ?_
        refine go_as rfl ?_
        refine go_run 2 (F' := (51, [some (.ref th), some (.int l1), some (va_rf o4), some (.int (l3 + 1))], [], zhp S4)) rfl ?_
        exact ih hm
theorem ehy_whole_51 {th : Nat} : ∀ (n : Nat) {S : hS} {l1 : Int32} {p2 : Option Nat} {l3 : Int32} {S' : hS} {r : Nat ⊕ Int32}, y_whole_51 th n S l1 p2 l3 = some (S', r) → Ex S S' := by
  intro n
  induction n with
  | zero => intro S l1 p2 l3 S' r hm; cases hm
  | succ n ih =>
    intro S l1 p2 l3 S' r hm
    unfold y_whole_51 at hm
    have hx : Ex S S := Ex_r
    by_cases q1 : l1 ≤ l3
    · rw [if_pos q1] at hm
      cases p2 with
      | none =>
        replace hm := zoc_n hm
        cases hm
        exact hx
      | some a1 =>
        replace hm := zoc_s hm
        cases hm
        exact hx
    · rw [if_neg q1] at hm
      cases p2 with
      | none =>
        replace hm := zoc_n hm
        cases hm
        exact hx
      | some a2 =>
        replace hm := zoc_s hm
        replace hm := zgd hm
        obtain ⟨b2, hm⟩ := hm
        replace hm := zlb_inv hm
        obtain ⟨o3, eo3, hm⟩ := hm
        replace hm := zgd hm
        obtain ⟨b3, hm⟩ := hm
        replace hm := zcP_inv hm
        obtain ⟨S4, o4, e4, hm⟩ := hm
        have hx := Ex_t (T := S) hx (ehyS_perform e4)
        refine Ex_t ?_ (ih hm)
        exact hx
def y_whole (n : Nat) (S : hS) (th : Nat) (x1 : Int32) : Option (hS × (Nat ⊕ Int32)) := (if x1 < 0 then (some (szEx S 11, .inl 11)) else (if x1 ≤ 2000 then (if ztg S th = 1 then (zcT (y_needPlay S th) fun S1 v1 => (if ztg S1 th = 1 then (zlb (zR S1 5 th) fun o2 => (zob o2 fun a3 => (if ztg S1 a3 = 9 then (zlb (zR S1 2 a3) fun o4 => (zlb (zR S1 6 th) fun o5 => (zlb (zR S1 6 th) fun o6 => (zob o6 fun a7 => (if zal S1 a7 then (zob o5 fun a8 => (zob o4 fun a9 => (if ztg S1 a9 = 20 then (if ztg S1 a8 = 20 then (if zcpk (Int32.ofNat (zLen S1 a7)) S1 a9 a8 then (zlb (zR S1 4 th) fun o10 => (y_whole_51 th  n (szAI S1 a8 (va_cpy (zAI S1 a9) (zAI S1 a8) 0 0 (Int32.toNatClampNeg (Int32.ofNat (zLen S1 a7))))) x1 o10 0)) else none) else none) else none))) else none))))) else none))) else none)) else none) else (some (szEx S 11, .inl 11))))
theorem hy_whole {X : ie_X} {d th : Nat} {n : Nat} {S : hS} {x1 : Int32} {S' : hS} {r : Nat ⊕ Int32} (hm : y_whole n S th x1 = some (S', r)) : Go X (d + 4) 128 (0, ie_en 128 [.ref th, .int x1], [], zhp S) (roI r) (zhp S') := by
  unfold y_whole at hm
  refine go_run 0 (F' := (0, [some (.ref th), some (.int x1), none, none], [], zhp S)) rfl ?_
  refine go_run 1 (F' := (1, [some (.ref th), some (.int x1), none, none], [.int x1], zhp S)) rfl ?_
  refine go_step rfl rfl ?_
  by_cases q1 : x1 < 0
  · rw [if_pos q1] at hm ⊢
    refine go_run 0 (F' := (11, [some (.ref th), some (.int x1), none, none], [], zhp S)) rfl ?_
    refine go_run 0 (F' := (11, [some (.ref th), some (.int x1), none, none], [], zhp S)) rfl ?_
    cases hm
    exact go_hexc rfl (by decide) (by decide)
  · rw [if_neg q1] at hm ⊢
    refine go_run 0 (F' := (4, [some (.ref th), some (.int x1), none, none], [], zhp S)) rfl ?_
    refine go_run 2 (F' := (8, [some (.ref th), some (.int x1), none, none], [.int 2000, .int x1], zhp S)) rfl ?_
    refine go_step rfl rfl ?_
    by_cases q2 : x1 ≤ 2000
    · rw [if_pos q2] at hm ⊢
      refine go_run 0 (F' := (19, [some (.ref th), some (.int x1), none, none], [], zhp S)) rfl ?_
      refine go_run 1 (F' := (20, [some (.ref th), some (.int x1), none, none], [.ref th], zhp S)) rfl ?_
      replace hm := zgd hm
      obtain ⟨b3, hm⟩ := hm
      replace hm := zcT_inv hm
      obtain ⟨S1, w1, e1, hm⟩ := hm
      have k1 := hy_needPlay (X := X) (d := d + 3) e1
      rcases w1 with c1 | v1
      · cases hm
        exact go_out (m' := 81) (as := [.ref th]) (rest := []) rfl (by simp only [ie_step, ie_iv, List.drop, zhp_obj (S := S) b3 (by decide)]; rfl) ⟨rfl, Nat.le_of_ble_eq_true rfl⟩ rfl rfl k1
      replace hm := zcT_v hm
      refine go_call (m' := 81) (as := [.ref th]) (rest := []) (v := none) (h1 := zhp S1) rfl (by simp only [ie_step, ie_iv, List.drop, zhp_obj (S := S) b3 (by decide)]; rfl) ⟨rfl, Nat.le_of_ble_eq_true rfl⟩ k1 ?_
      refine go_run 0 (F' := (23, [some (.ref th), some (.int x1), none, none], [], zhp S1)) rfl ?_
      refine go_run 1 (F' := (24, [some (.ref th), some (.int x1), none, none], [.ref th], zhp S1)) rfl ?_
      replace hm := zgd hm
      obtain ⟨b4, hm⟩ := hm
      replace hm := zlb_inv hm
      obtain ⟨o2, eo2, hm⟩ := hm
      refine go_hg (v := va_rf o2) rfl b4 (by decide) (by rw [← eo2]; rfl) ?_
      refine go_run 0 (F' := (27, [some (.ref th), some (.int x1), none, none], [va_rf o2], zhp S1)) rfl ?_
      replace hm := zob_inv hm
      obtain ⟨a3, rfl, hm⟩ := hm
      replace hm := zgd hm
      obtain ⟨b5, hm⟩ := hm
      replace hm := zlb_inv hm
      obtain ⟨o4, eo4, hm⟩ := hm
      refine go_hg (v := va_rf o4) rfl b5 (by decide) (by rw [← eo4]; rfl) ?_
      refine go_run 2 (F' := (32, [some (.ref th), some (.int x1), none, none], [.ref th, .int 0, va_rf o4], zhp S1)) rfl ?_
      replace hm := zlb_inv hm
      obtain ⟨o5, eo5, hm⟩ := hm
      refine go_hg (v := va_rf o5) rfl b4 (by decide) (by rw [← eo5]; rfl) ?_
      refine go_run 2 (F' := (37, [some (.ref th), some (.int x1), none, none], [.ref th, .int 0, va_rf o5, .int 0, va_rf o4], zhp S1)) rfl ?_
      replace hm := zlb_inv hm
      obtain ⟨o6, eo6, hm⟩ := hm
      refine go_hg (v := va_rf o6) rfl b4 (by decide) (by rw [← eo6]; rfl) ?_
      refine go_run 0 (F' := (40, [some (.ref th), some (.int x1), none, none], [va_rf o6, .int 0, va_rf o5, .int 0, va_rf o4], zhp S1)) rfl ?_
      replace hm := zob_inv hm
      obtain ⟨a7, rfl, hm⟩ := hm
      replace hm := zgd hm
      obtain ⟨b6, hm⟩ := hm
      refine go_hlen rfl b6 ?_
      refine go_run 0 (F' := (41, [some (.ref th), some (.int x1), none, none], [.int (Int32.ofNat (zLen S1 a7)), .int 0, va_rf o5, .int 0, va_rf o4], zhp S1)) rfl ?_
      replace hm := zob_inv hm
      obtain ⟨a8, rfl, hm⟩ := hm
      replace hm := zob_inv hm
      obtain ⟨a9, rfl, hm⟩ := hm
      replace hm := zgd hm
      obtain ⟨b7, hm⟩ := hm
      replace hm := zgd hm
      obtain ⟨b8, hm⟩ := hm
      replace hm := zgd hm
      obtain ⟨b9, hm⟩ := hm
      refine go_hcp rfl b7 b8 b9 (Nat.le_of_ble_eq_true rfl) ?_
      refine go_run 1 (F' := (45, [some (.ref th), some (.int x1), none, none], [.ref th], zhp (szAI S1 a8 (va_cpy (zAI S1 a9) (zAI S1 a8) 0 0 (Int32.toNatClampNeg (Int32.ofNat (zLen S1 a7))))))) rfl ?_
      replace hm := zlb_inv hm
      obtain ⟨o10, eo10, hm⟩ := hm
      refine go_hg (v := va_rf o10) rfl b4 (by decide) (by rw [← eo10]; rfl) ?_
      refine go_run 0 (F' := (48, [some (.ref th), some (.int x1), none, none], [va_rf o10], zhp (szAI S1 a8 (va_cpy (zAI S1 a9) (zAI S1 a8) 0 0 (Int32.toNatClampNeg (Int32.ofNat (zLen S1 a7))))))) rfl ?_
      refine go_as rfl ?_
      refine go_run 2 (F' := (51, [some (.ref th), some (.int x1), some (va_rf o10), some (.int 0)], [], zhp (szAI S1 a8 (va_cpy (zAI S1 a9) (zAI S1 a8) 0 0 (Int32.toNatClampNeg (Int32.ofNat (zLen S1 a7))))))) rfl ?_
      exact hy_whole_51  n hm
    · rw [if_neg q2] at hm ⊢
      refine go_run 0 (F' := (11, [some (.ref th), some (.int x1), none, none], [], zhp S)) rfl ?_
      refine go_run 0 (F' := (11, [some (.ref th), some (.int x1), none, none], [], zhp S)) rfl ?_
      cases hm
      exact go_hexc rfl (by decide) (by decide)
theorem ehy_whole {th : Nat} {n : Nat} {S : hS} {x1 : Int32} {S' : hS} {r : Nat ⊕ Int32} (hm : y_whole n S th x1 = some (S', r)) : Ex S S' := by
  unfold y_whole at hm
  have hx : Ex S S := Ex_r
  by_cases q1 : x1 < 0
  · rw [if_pos q1] at hm
    cases hm
    exact Ex_t hx Ex_ex
  · rw [if_neg q1] at hm
    by_cases q2 : x1 ≤ 2000
    · rw [if_pos q2] at hm
      replace hm := zgd hm
      obtain ⟨b3, hm⟩ := hm
      replace hm := zcT_inv hm
      obtain ⟨S1, w1, e1, hm⟩ := hm
      have hx := Ex_t (T := S) hx (ehy_needPlay e1)
      rcases w1 with c1 | v1
      · cases hm
        exact hx
      replace hm := zcT_v hm
      replace hm := zgd hm
      obtain ⟨b4, hm⟩ := hm
      replace hm := zlb_inv hm
      obtain ⟨o2, eo2, hm⟩ := hm
      replace hm := zob_inv hm
      obtain ⟨a3, rfl, hm⟩ := hm
      replace hm := zgd hm
      obtain ⟨b5, hm⟩ := hm
      replace hm := zlb_inv hm
      obtain ⟨o4, eo4, hm⟩ := hm
      replace hm := zlb_inv hm
      obtain ⟨o5, eo5, hm⟩ := hm
      replace hm := zlb_inv hm
      obtain ⟨o6, eo6, hm⟩ := hm
      replace hm := zob_inv hm
      obtain ⟨a7, rfl, hm⟩ := hm
      replace hm := zgd hm
      obtain ⟨b6, hm⟩ := hm
      replace hm := zob_inv hm
      obtain ⟨a8, rfl, hm⟩ := hm
      replace hm := zob_inv hm
      obtain ⟨a9, rfl, hm⟩ := hm
      replace hm := zgd hm
      obtain ⟨b7, hm⟩ := hm
      replace hm := zgd hm
      obtain ⟨b8, hm⟩ := hm
      replace hm := zgd hm
      obtain ⟨b9, hm⟩ := hm
      replace hm := zlb_inv hm
      obtain ⟨o10, eo10, hm⟩ := hm
      refine Ex_t ?_ (ehy_whole_51  n hm)
      exact hx
    · rw [if_neg q2] at hm
      cases hm
      exact Ex_t hx Ex_ex
def y_wanted (S : hS) (th : Nat) (x1 : Int32) (x2 : Int32) : Option (hS × (Nat ⊕ Int32)) := (zcT (y_needVariable S x1 x2) fun S1 v1 => (if ztg S1 th = 1 then (zlb (zR S1 6 th) fun o2 => (zob o2 fun a3 => (if ztg S1 a3 = 20 then (if ib (y_indexOf x1 x2) (zLen S1 a3) then (some (S1, .inr ((zAI S1 a3) (Int32.toNatClampNeg (y_indexOf x1 x2))))) else none) else none))) else none))
theorem hy_wanted {X : ie_X} {d th : Nat} {S : hS} {x1 : Int32} {x2 : Int32} {S' : hS} {r : Nat ⊕ Int32} (hm : y_wanted S th x1 x2 = some (S', r)) : Go X (d + 2) 132 (0, ie_en 132 [.ref th, .int x1, .int x2], [], zhp S) (roI r) (zhp S') := by
  unfold y_wanted at hm
  refine go_run 0 (F' := (0, [some (.ref th), some (.int x1), some (.int x2)], [], zhp S)) rfl ?_
  refine go_run 2 (F' := (2, [some (.ref th), some (.int x1), some (.int x2)], [.int x2, .int x1], zhp S)) rfl ?_
  replace hm := zcT_inv hm
  obtain ⟨S1, w1, e1, hm⟩ := hm
  have k1 := hy_needVariable (X := X) (d := d) e1
  rcases w1 with c1 | v1
  · cases hm
    exact go_out (m' := 86) (as := [.int x1, .int x2]) (rest := []) rfl rfl ⟨rfl, Nat.le_of_ble_eq_true rfl⟩ rfl rfl k1
  replace hm := zcT_v hm
  refine go_call (m' := 86) (as := [.int x1, .int x2]) (rest := []) (v := none) (h1 := zhp S1) rfl rfl ⟨rfl, Nat.le_of_ble_eq_true rfl⟩ k1 ?_
  refine go_run 0 (F' := (5, [some (.ref th), some (.int x1), some (.int x2)], [], zhp S1)) rfl ?_
  refine go_run 1 (F' := (6, [some (.ref th), some (.int x1), some (.int x2)], [.ref th], zhp S1)) rfl ?_
  replace hm := zgd hm
  obtain ⟨b1, hm⟩ := hm
  replace hm := zlb_inv hm
  obtain ⟨o2, eo2, hm⟩ := hm
  refine go_hg (v := va_rf o2) rfl b1 (by decide) (by rw [← eo2]; rfl) ?_
  refine go_run 2 (F' := (11, [some (.ref th), some (.int x1), some (.int x2)], [.int x2, .int x1, va_rf o2], zhp S1)) rfl ?_
  refine go_call (m' := 88) (as := [.int x1, .int x2]) (rest := [va_rf o2]) (v := some (.int (y_indexOf x1 x2))) (h1 := zhp S1) rfl (by cases o2 <;> rfl) ⟨rfl, Nat.le_of_ble_eq_true rfl⟩ (hy_indexOf _ _) ?_
  refine go_run 0 (F' := (14, [some (.ref th), some (.int x1), some (.int x2)], [.int (y_indexOf x1 x2), va_rf o2], zhp S1)) rfl ?_
  refine go_run 0 (F' := (14, [some (.ref th), some (.int x1), some (.int x2)], [.int (y_indexOf x1 x2), va_rf o2], zhp S1)) rfl ?_
  replace hm := zob_inv hm
  obtain ⟨a3, rfl, hm⟩ := hm
  replace hm := zgd hm
  obtain ⟨b2, hm⟩ := hm
  replace hm := zgd hm
  obtain ⟨b3, hm⟩ := hm
  refine go_hald0 rfl b2 b3 rfl rfl ?_
  refine go_run 0 (F' := (15, [some (.ref th), some (.int x1), some (.int x2)], [.int ((zAI S1 a3) (Int32.toNatClampNeg (y_indexOf x1 x2)))], zhp S1)) rfl ?_
  cases hm
  exact go_end rfl rfl
theorem ehy_wanted {th : Nat} {S : hS} {x1 : Int32} {x2 : Int32} {S' : hS} {r : Nat ⊕ Int32} (hm : y_wanted S th x1 x2 = some (S', r)) : Ex S S' := by
  unfold y_wanted at hm
  have hx : Ex S S := Ex_r
  replace hm := zcT_inv hm
  obtain ⟨S1, w1, e1, hm⟩ := hm
  have hx := Ex_t (T := S) hx (ehy_needVariable e1)
  rcases w1 with c1 | v1
  · cases hm
    exact hx
  replace hm := zcT_v hm
  replace hm := zgd hm
  obtain ⟨b1, hm⟩ := hm
  replace hm := zlb_inv hm
  obtain ⟨o2, eo2, hm⟩ := hm
  replace hm := zob_inv hm
  obtain ⟨a3, rfl, hm⟩ := hm
  replace hm := zgd hm
  obtain ⟨b2, hm⟩ := hm
  replace hm := zgd hm
  obtain ⟨b3, hm⟩ := hm
  cases hm
  exact hx
def y_type_62 (th : Nat) : Nat → hS → Int64 → Int32 → Int32 → Option (hS × Int32)
  | 0, _, _, _, _ => none
  | n + 1, S, l1, l3, l4 => (if l3 ≤ l4 then (if ztg S th = 1 then (some (szI S 1 th ((zI S 1 th) + l3), 1)) else none) else (if ztg S th = 1 then (zlb (zR S 0 th) fun o1 => (zob o1 fun a2 => (if ztg S a2 = 21 then (if ib ((zI S 1 th) + l4) (zLen S a2) then (y_type_62 th n (szAI S a2 (upd (zAI S a2) (Int32.toNatClampNeg ((zI S 1 th) + l4)) (vp_nar .char (by_c l1 l4)))) l1 l3 (l4 + 1)) else none) else none))) else none))
theorem hy_type_62 {X : ie_X} {d th : Nat} : ∀ (n : Nat) {S : hS} {l1 : Int64} {l3 : Int32} {l4 : Int32} {u2 : Option Value} {S' : hS} {r : Int32}, y_type_62 th n S l1 l3 l4 = some (S', r) → Go X (d + 1) 5 (62, [some (.ref th), some (.long l1), u2, some (.int l3), some (.int l4)], [], zhp S) (.inl (some (.int r))) (zhp S') := by
  intro n
  induction n with
  | zero => intro S l1 l3 l4 u2 S' r hm; cases hm
  | succ n ih =>
    intro S l1 l3 l4 u2 S' r hm
    unfold y_type_62 at hm
    refine go_run 0 (F' := (62, [some (.ref th), some (.long l1), u2, some (.int l3), some (.int l4)], [], zhp S)) rfl ?_
    refine go_run 2 (F' := (65, [some (.ref th), some (.long l1), u2, some (.int l3), some (.int l4)], [.int l3, .int l4], zhp S)) rfl ?_
    refine go_step rfl rfl ?_
    by_cases q1 : l3 ≤ l4
    · rw [if_pos q1] at hm ⊢
      refine go_run 0 (F' := (92, [some (.ref th), some (.long l1), u2, some (.int l3), some (.int l4)], [], zhp S)) rfl ?_
      refine go_run 2 (F' := (94, [some (.ref th), some (.long l1), u2, some (.int l3), some (.int l4)], [.ref th, .ref th], zhp S)) rfl ?_
      replace hm := zgd hm
      obtain ⟨b2, hm⟩ := hm
      refine go_hg (v := .int (zI S 1 th)) rfl b2 (by decide) rfl ?_
      refine go_run 2 (F' := (99, [some (.ref th), some (.long l1), u2, some (.int l3), some (.int l4)], [.int ((zI S 1 th) + l3), .ref th], zhp S)) rfl ?_
      refine go_hpI rfl b2 (by decide) rfl (Nat.le_of_ble_eq_true rfl) fs_0_1 ?_
      refine go_run 1 (F' := (103, [some (.ref th), some (.long l1), u2, some (.int l3), some (.int l4)], [.int 1], zhp (szI S 1 th ((zI S 1 th) + l3)))) rfl ?_
      cases hm
      exact go_end rfl rfl
    · rw [if_neg q1] at hm ⊢
      refine go_run 0 (F' := (68, [some (.ref th), some (.long l1), u2, some (.int l3), some (.int l4)], [], zhp S)) rfl ?_
      refine go_run 1 (F' := (69, [some (.ref th), some (.long l1), u2, some (.int l3), some (.int l4)], [.ref th], zhp S)) rfl ?_
      replace hm := zgd hm
      obtain ⟨b3, hm⟩ := hm
      replace hm := zlb_inv hm
      obtain ⟨o1, eo1, hm⟩ := hm
      refine go_hg (v := va_rf o1) rfl b3 (by decide) (by rw [← eo1]; rfl) ?_
      refine go_run 1 (F' := (73, [some (.ref th), some (.long l1), u2, some (.int l3), some (.int l4)], [.ref th, va_rf o1], zhp S)) rfl ?_
      refine go_hg (v := .int (zI S 1 th)) rfl b3 (by decide) rfl ?_
      refine go_run 4 (F' := (82, [some (.ref th), some (.long l1), u2, some (.int l3), some (.int l4)], [.int l4, .long l1, .int ((zI S 1 th) + l4), va_rf o1], zhp S)) rfl ?_
      refine go_call (m' := 6) (as := [.long l1, .int l4]) (rest := [.int ((zI S 1 th) + l4), va_rf o1]) (v := some (.int (by_c l1 l4))) (h1 := zhp S) rfl (by cases o1 <;> rfl) ⟨rfl, Nat.le_of_ble_eq_true rfl⟩ (y_pk _ _) ?_
      refine go_run 0 (F' := (85, [some (.ref th), some (.long l1), u2, some (.int l3), some (.int l4)], [.int (by_c l1 l4), .int ((zI S 1 th) + l4), va_rf o1], zhp S)) rfl ?_
      refine go_run 0 (F' := (85, [some (.ref th), some (.long l1), u2, some (.int l3), some (.int l4)], [.int (by_c l1 l4), .int ((zI S 1 th) + l4), va_rf o1], zhp S)) rfl ?_
      replace hm := zob_inv hm
      obtain ⟨a2, rfl, hm⟩ := hm
      replace hm := zgd hm
      obtain ⟨b4, hm⟩ := hm
      replace hm := zgd hm
      obtain ⟨b5, hm⟩ := hm
      refine go_hast1 rfl b4 b5 rfl rfl ?_
      refine go_run 2 (F' := (62, [some (.ref th), some (.long l1), u2, some (.int l3), some (.int (l4 + 1))], [], zhp (szAI S a2 (upd (zAI S a2) (Int32.toNatClampNeg ((zI S 1 th) + l4)) (vp_nar .char (by_c l1 l4)))))) rfl ?_
      exact ih hm
theorem ehy_type_62 {th : Nat} : ∀ (n : Nat) {S : hS} {l1 : Int64} {l3 : Int32} {l4 : Int32} {S' : hS} {r : Int32}, y_type_62 th n S l1 l3 l4 = some (S', r) → Ex S S' := by
  intro n
  induction n with
  | zero => intro S l1 l3 l4 S' r hm; cases hm
  | succ n ih =>
    intro S l1 l3 l4 S' r hm
    unfold y_type_62 at hm
    have hx : Ex S S := Ex_r
    by_cases q1 : l3 ≤ l4
    · rw [if_pos q1] at hm
      replace hm := zgd hm
      obtain ⟨b2, hm⟩ := hm
      cases hm
      exact hx
    · rw [if_neg q1] at hm
      replace hm := zgd hm
      obtain ⟨b3, hm⟩ := hm
      replace hm := zlb_inv hm
      obtain ⟨o1, eo1, hm⟩ := hm
      replace hm := zob_inv hm
      obtain ⟨a2, rfl, hm⟩ := hm
      replace hm := zgd hm
      obtain ⟨b4, hm⟩ := hm
      replace hm := zgd hm
      obtain ⟨b5, hm⟩ := hm
      refine Ex_t ?_ (ih hm)
      exact hx
def y_type_2 (th : Nat) : Nat → hS → Int64 → Int32 → Option (hS × Int32)
  | 0, _, _, _ => none
  | n + 1, S, l1, l3 => (if 8 ≤ l3 then (if ztg S th = 1 then (if (zI S 1 th) + l3 ≤ 200 then (y_type_62 th  n S l1 l3 0) else (some (S, 0))) else none) else (if by_c l1 l3 = 0 then (if ztg S th = 1 then (if (zI S 1 th) + l3 ≤ 200 then (y_type_62 th  n S l1 l3 0) else (some (S, 0))) else none) else (if by_c l1 l3 < 33 then (some (S, 0)) else (if by_c l1 l3 ≤ 126 then (y_type_2 th n S l1 (l3 + 1)) else (some (S, 0))))))
theorem hy_type_2 {X : ie_X} {d th : Nat} : ∀ (n : Nat) {S : hS} {l1 : Int64} {l3 : Int32} {u2 u4 : Option Value} {S' : hS} {r : Int32}, y_type_2 th n S l1 l3 = some (S', r) → Go X (d + 1) 5 (2, [some (.ref th), some (.long l1), u2, some (.int l3), u4], [], zhp S) (.inl (some (.int r))) (zhp S') := by
  intro n
  induction n with
  | zero => intro S l1 l3 u2 u4 S' r hm; cases hm
  | succ n ih =>
    intro S l1 l3 u2 u4 S' r hm
    unfold y_type_2 at hm
    refine go_run 0 (F' := (2, [some (.ref th), some (.long l1), u2, some (.int l3), u4], [], zhp S)) rfl ?_
    refine go_run 2 (F' := (5, [some (.ref th), some (.long l1), u2, some (.int l3), u4], [.int 8, .int l3], zhp S)) rfl ?_
    refine go_step rfl rfl ?_
    by_cases q1 : 8 ≤ l3
    · rw [if_pos q1] at hm ⊢
      refine go_run 0 (F' := (45, [some (.ref th), some (.long l1), u2, some (.int l3), u4], [], zhp S)) rfl ?_
      refine go_run 1 (F' := (46, [some (.ref th), some (.long l1), u2, some (.int l3), u4], [.ref th], zhp S)) rfl ?_
      replace hm := zgd hm
      obtain ⟨b2, hm⟩ := hm
      refine go_hg (v := .int (zI S 1 th)) rfl b2 (by decide) rfl ?_
      refine go_run 3 (F' := (54, [some (.ref th), some (.long l1), u2, some (.int l3), u4], [.int 200, .int ((zI S 1 th) + l3)], zhp S)) rfl ?_
      refine go_step rfl rfl ?_
      by_cases q3 : (zI S 1 th) + l3 ≤ 200
      · rw [if_pos q3] at hm ⊢
        refine go_run 0 (F' := (59, [some (.ref th), some (.long l1), u2, some (.int l3), u4], [], zhp S)) rfl ?_
        refine go_run 2 (F' := (62, [some (.ref th), some (.long l1), u2, some (.int l3), some (.int 0)], [], zhp S)) rfl ?_
        exact hy_type_62  n hm
      · rw [if_neg q3] at hm ⊢
        refine go_run 0 (F' := (57, [some (.ref th), some (.long l1), u2, some (.int l3), u4], [], zhp S)) rfl ?_
        refine go_run 1 (F' := (58, [some (.ref th), some (.long l1), u2, some (.int l3), u4], [.int 0], zhp S)) rfl ?_
        cases hm
        exact go_end rfl rfl
    · rw [if_neg q1] at hm ⊢
      refine go_run 0 (F' := (8, [some (.ref th), some (.long l1), u2, some (.int l3), u4], [], zhp S)) rfl ?_
      refine go_run 2 (F' := (10, [some (.ref th), some (.long l1), u2, some (.int l3), u4], [.int l3, .long l1], zhp S)) rfl ?_
      refine go_call (m' := 6) (as := [.long l1, .int l3]) (rest := []) (v := some (.int (by_c l1 l3))) (h1 := zhp S) rfl rfl ⟨rfl, Nat.le_of_ble_eq_true rfl⟩ (y_pk _ _) ?_
      refine go_run 0 (F' := (13, [some (.ref th), some (.long l1), u2, some (.int l3), u4], [.int (by_c l1 l3)], zhp S)) rfl ?_
      refine go_run 0 (F' := (13, [some (.ref th), some (.long l1), u2, some (.int l3), u4], [.int (by_c l1 l3)], zhp S)) rfl ?_
      refine go_step rfl rfl ?_
      by_cases q4 : by_c l1 l3 = 0
      · rw [if_pos q4] at hm ⊢
        refine go_run 0 (F' := (45, [some (.ref th), some (.long l1), u2, some (.int l3), u4], [], zhp S)) rfl ?_
        refine go_run 1 (F' := (46, [some (.ref th), some (.long l1), u2, some (.int l3), u4], [.ref th], zhp S)) rfl ?_
        replace hm := zgd hm
        obtain ⟨b5, hm⟩ := hm
        refine go_hg (v := .int (zI S 1 th)) rfl b5 (by decide) rfl ?_
        refine go_run 3 (F' := (54, [some (.ref th), some (.long l1), u2, some (.int l3), u4], [.int 200, .int ((zI S 1 th) + l3)], zhp S)) rfl ?_
        refine go_step rfl rfl ?_
        by_cases q6 : (zI S 1 th) + l3 ≤ 200
        · rw [if_pos q6] at hm ⊢
          refine go_run 0 (F' := (59, [some (.ref th), some (.long l1), u2, some (.int l3), u4], [], zhp S)) rfl ?_
          refine go_run 2 (F' := (62, [some (.ref th), some (.long l1), u2, some (.int l3), some (.int 0)], [], zhp S)) rfl ?_
          exact hy_type_62  n hm
        · rw [if_neg q6] at hm ⊢
          refine go_run 0 (F' := (57, [some (.ref th), some (.long l1), u2, some (.int l3), u4], [], zhp S)) rfl ?_
          refine go_run 1 (F' := (58, [some (.ref th), some (.long l1), u2, some (.int l3), u4], [.int 0], zhp S)) rfl ?_
          cases hm
          exact go_end rfl rfl
      · rw [if_neg q4] at hm ⊢
        refine go_run 0 (F' := (16, [some (.ref th), some (.long l1), u2, some (.int l3), u4], [], zhp S)) rfl ?_
        refine go_run 2 (F' := (18, [some (.ref th), some (.long l1), u2, some (.int l3), u4], [.int l3, .long l1], zhp S)) rfl ?_
        refine go_call (m' := 6) (as := [.long l1, .int l3]) (rest := []) (v := some (.int (by_c l1 l3))) (h1 := zhp S) rfl rfl ⟨rfl, Nat.le_of_ble_eq_true rfl⟩ (y_pk _ _) ?_
        refine go_run 0 (F' := (21, [some (.ref th), some (.long l1), u2, some (.int l3), u4], [.int (by_c l1 l3)], zhp S)) rfl ?_
        refine go_run 3 (F' := (27, [some (.ref th), some (.long l1), u2, some (.int l3), some (.int (by_c l1 l3))], [.int 33, .int (by_c l1 l3)], zhp S)) rfl ?_
        refine go_step rfl rfl ?_
        by_cases q7 : by_c l1 l3 < 33
        · rw [if_pos q7] at hm ⊢
          refine go_run 0 (F' := (37, [some (.ref th), some (.long l1), u2, some (.int l3), some (.int (by_c l1 l3))], [], zhp S)) rfl ?_
          refine go_run 1 (F' := (38, [some (.ref th), some (.long l1), u2, some (.int l3), some (.int (by_c l1 l3))], [.int 0], zhp S)) rfl ?_
          cases hm
          exact go_end rfl rfl
        · rw [if_neg q7] at hm ⊢
          refine go_run 0 (F' := (30, [some (.ref th), some (.long l1), u2, some (.int l3), some (.int (by_c l1 l3))], [], zhp S)) rfl ?_
          refine go_run 2 (F' := (34, [some (.ref th), some (.long l1), u2, some (.int l3), some (.int (by_c l1 l3))], [.int 126, .int (by_c l1 l3)], zhp S)) rfl ?_
          refine go_step rfl rfl ?_
          by_cases q8 : by_c l1 l3 ≤ 126
          · rw [if_pos q8] at hm ⊢
            refine go_run 0 (F' := (39, [some (.ref th), some (.long l1), u2, some (.int l3), some (.int (by_c l1 l3))], [], zhp S)) rfl ?_
            refine go_run 2 (F' := (2, [some (.ref th), some (.long l1), u2, some (.int (l3 + 1)), some (.int (by_c l1 l3))], [], zhp S)) rfl ?_
            exact ih hm
          · rw [if_neg q8] at hm ⊢
            refine go_run 0 (F' := (37, [some (.ref th), some (.long l1), u2, some (.int l3), some (.int (by_c l1 l3))], [], zhp S)) rfl ?_
            refine go_run 1 (F' := (38, [some (.ref th), some (.long l1), u2, some (.int l3), some (.int (by_c l1 l3))], [.int 0], zhp S)) rfl ?_
            cases hm
            exact go_end rfl rfl
theorem ehy_type_2 {th : Nat} : ∀ (n : Nat) {S : hS} {l1 : Int64} {l3 : Int32} {S' : hS} {r : Int32}, y_type_2 th n S l1 l3 = some (S', r) → Ex S S' := by
  intro n
  induction n with
  | zero => intro S l1 l3 S' r hm; cases hm
  | succ n ih =>
    intro S l1 l3 S' r hm
    unfold y_type_2 at hm
    have hx : Ex S S := Ex_r
    by_cases q1 : 8 ≤ l3
    · rw [if_pos q1] at hm
      replace hm := zgd hm
      obtain ⟨b2, hm⟩ := hm
      by_cases q3 : (zI S 1 th) + l3 ≤ 200
      · rw [if_pos q3] at hm
        refine Ex_t ?_ (ehy_type_62  n hm)
        exact hx
      · rw [if_neg q3] at hm
        cases hm
        exact hx
    · rw [if_neg q1] at hm
      by_cases q4 : by_c l1 l3 = 0
      · rw [if_pos q4] at hm
        replace hm := zgd hm
        obtain ⟨b5, hm⟩ := hm
        by_cases q6 : (zI S 1 th) + l3 ≤ 200
        · rw [if_pos q6] at hm
          refine Ex_t ?_ (ehy_type_62  n hm)
          exact hx
        · rw [if_neg q6] at hm
          cases hm
          exact hx
      · rw [if_neg q4] at hm
        by_cases q7 : by_c l1 l3 < 33
        · rw [if_pos q7] at hm
          cases hm
          exact hx
        · rw [if_neg q7] at hm
          by_cases q8 : by_c l1 l3 ≤ 126
          · rw [if_pos q8] at hm
            refine Ex_t ?_ (ih hm)
            exact hx
          · rw [if_neg q8] at hm
            cases hm
            exact hx
def y_type (n : Nat) (S : hS) (th : Nat) (x1 : Int64) : Option (hS × Int32) := (y_type_2 th  n S x1 0)
theorem hy_type {X : ie_X} {d th : Nat} {n : Nat} {S : hS} {x1 : Int64} {S' : hS} {r : Int32} (hm : y_type n S th x1 = some (S', r)) : Go X (d + 1) 5 (0, ie_en 5 [.ref th, .long x1], [], zhp S) (.inl (some (.int r))) (zhp S') := by
  unfold y_type at hm
  refine go_run 0 (F' := (0, [some (.ref th), some (.long x1), none, none, none], [], zhp S)) rfl ?_
  refine go_run 2 (F' := (2, [some (.ref th), some (.long x1), none, some (.int 0), none], [], zhp S)) rfl ?_
  exact hy_type_2  n hm
theorem ehy_type {th : Nat} {n : Nat} {S : hS} {x1 : Int64} {S' : hS} {r : Int32} (hm : y_type n S th x1 = some (S', r)) : Ex S S' := by
  unfold y_type at hm
  have hx : Ex S S := Ex_r
  refine Ex_t ?_ (ehy_type_2  n hm)
  exact hx
def y_fault (S : hS) (th : Nat) : Option (hS × Int32) := (if ztg S th = 1 then (some (S, zI S 2 th)) else none)
theorem hy_fault {X : ie_X} {d th : Nat} {S : hS} {S' : hS} {r : Int32} (hm : y_fault S th = some (S', r)) : Go X (d + 0) 7 (0, ie_en 7 [.ref th], [], zhp S) (.inl (some (.int r))) (zhp S') := by
  unfold y_fault at hm
  refine go_run 0 (F' := (0, [some (.ref th)], [], zhp S)) rfl ?_
  refine go_run 1 (F' := (1, [some (.ref th)], [.ref th], zhp S)) rfl ?_
  replace hm := zgd hm
  obtain ⟨b1, hm⟩ := hm
  refine go_hg (v := .int (zI S 2 th)) rfl b1 (by decide) rfl ?_
  refine go_run 0 (F' := (4, [some (.ref th)], [.int (zI S 2 th)], zhp S)) rfl ?_
  cases hm
  exact go_end rfl rfl
theorem ehy_fault {th : Nat} {S : hS} {S' : hS} {r : Int32} (hm : y_fault S th = some (S', r)) : Ex S S' := by
  unfold y_fault at hm
  have hx : Ex S S := Ex_r
  replace hm := zgd hm
  obtain ⟨b1, hm⟩ := hm
  cases hm
  exact hx
def y_who (S : hS) (th : Nat) : Option (hS × Int32) := (if ztg S th = 1 then (some (S, zI S 3 th)) else none)
theorem hy_who {X : ie_X} {d th : Nat} {S : hS} {S' : hS} {r : Int32} (hm : y_who S th = some (S', r)) : Go X (d + 0) 8 (0, ie_en 8 [.ref th], [], zhp S) (.inl (some (.int r))) (zhp S') := by
  unfold y_who at hm
  refine go_run 0 (F' := (0, [some (.ref th)], [], zhp S)) rfl ?_
  refine go_run 1 (F' := (1, [some (.ref th)], [.ref th], zhp S)) rfl ?_
  replace hm := zgd hm
  obtain ⟨b1, hm⟩ := hm
  refine go_hg (v := .int (zI S 3 th)) rfl b1 (by decide) rfl ?_
  refine go_run 0 (F' := (4, [some (.ref th)], [.int (zI S 3 th)], zhp S)) rfl ?_
  cases hm
  exact go_end rfl rfl
theorem ehy_who {th : Nat} {S : hS} {S' : hS} {r : Int32} (hm : y_who S th = some (S', r)) : Ex S S' := by
  unfold y_who at hm
  have hx : Ex S S := Ex_r
  replace hm := zgd hm
  obtain ⟨b1, hm⟩ := hm
  cases hm
  exact hx
def yL_load (n : Nat) (S : hS) (p1 : Option Nat) (x2 : Int32) (p3 : Option Nat) : Option (hS × Int32) := (zob p1 fun a1 => (if ztg S a1 = 1 then (zcH (y_load n S a1 x2) (fun S2 c2 => (if c2 = 11 then (some (S2, 1)) else (if c2 = 12 then (some (S2, 2)) else (if c2 = 13 then (some (S2, 3)) else none)))) fun S2 v2 => (zob p3 fun a3 => (if ztg S2 a3 = 23 then (if ib 0 (zLen S2 a3) then (some (szAL S2 a3 (vp_updL (zAL S2 a3) 0 (Int32.toInt64 v2)), 0)) else none) else none))) else none))
theorem hyL_load {X : ie_X} {d : Nat} {n : Nat} {S : hS} {p1 : Option Nat} {x2 : Int32} {p3 : Option Nat} {S' : hS} {r : Int32} (hm : yL_load n S p1 x2 p3 = some (S', r)) : Go X (d + 156) 9 (0, ie_en 9 [va_rf p1, .int x2, va_rf p3], [], zhp S) (.inl (some (.int r))) (zhp S') := by
  unfold yL_load at hm
  refine go_run 0 (F' := (0, [some (va_rf p1), some (.int x2), some (va_rf p3), none], [], zhp S)) (by cases p1 <;> cases p3 <;> rfl) ?_
  refine go_run 0 (F' := (0, [some (va_rf p1), some (.int x2), some (va_rf p3), none], [], zhp S)) rfl ?_
  refine go_al rfl rfl ?_
  refine go_run 1 (F' := (2, [some (va_rf p1), some (.int x2), some (va_rf p3), none], [.int 0, va_rf p3], zhp S)) rfl ?_
  refine go_al rfl rfl ?_
  refine go_run 1 (F' := (4, [some (va_rf p1), some (.int x2), some (va_rf p3), none], [.int x2, va_rf p1, .int 0, va_rf p3], zhp S)) rfl ?_
  replace hm := zob_inv hm
  obtain ⟨a1, rfl, hm⟩ := hm
  refine go_run 0 (F' := (4, [some (.ref a1), some (.int x2), some (va_rf p3), none], [.int x2, .ref a1, .int 0, va_rf p3], zhp S)) rfl ?_
  replace hm := zgd hm
  obtain ⟨b1, hm⟩ := hm
  replace hm := zcH_inv hm
  obtain ⟨S2, w2, e2, hm⟩ := hm
  have k2 := hy_load (X := X) (d := d) e2
  rcases w2 with c2 | v2
  · replace hm := zcH_t hm
    by_cases q2 : c2 = 11
    · rw [if_pos q2] at hm
      subst q2
      refine go_catch (m' := 10) (ci := 11) (as := [.ref a1, .int x2]) (rest := [.int 0, va_rf p3]) (h1 := zhp S2) rfl (by simp only [ie_step, ie_iv, List.drop, zhp_obj (S := S) b1 (by decide)]; cases p3 <;> rfl) ⟨rfl, Nat.le_of_ble_eq_true rfl⟩ rfl rfl rfl k2 ?_
      refine go_run 0 (F' := (13, [some (.ref a1), some (.int x2), some (va_rf p3), none], [], zhp S2)) rfl ?_
      refine go_run 1 (F' := (14, [some (.ref a1), some (.int x2), some (va_rf p3), none], [.int 1], zhp S2)) rfl ?_
      cases hm
      exact go_end rfl rfl
    · rw [if_neg q2] at hm
      by_cases q3 : c2 = 12
      · rw [if_pos q3] at hm
        subst q3
        refine go_catch (m' := 10) (ci := 12) (as := [.ref a1, .int x2]) (rest := [.int 0, va_rf p3]) (h1 := zhp S2) rfl (by simp only [ie_step, ie_iv, List.drop, zhp_obj (S := S) b1 (by decide)]; cases p3 <;> rfl) ⟨rfl, Nat.le_of_ble_eq_true rfl⟩ rfl rfl rfl k2 ?_
        refine go_run 0 (F' := (16, [some (.ref a1), some (.int x2), some (va_rf p3), none], [], zhp S2)) rfl ?_
        refine go_run 1 (F' := (17, [some (.ref a1), some (.int x2), some (va_rf p3), none], [.int 2], zhp S2)) rfl ?_
        cases hm
        exact go_end rfl rfl
      · rw [if_neg q3] at hm
        by_cases q4 : c2 = 13
        · rw [if_pos q4] at hm
          subst q4
          refine go_catch (m' := 10) (ci := 13) (as := [.ref a1, .int x2]) (rest := [.int 0, va_rf p3]) (h1 := zhp S2) rfl (by simp only [ie_step, ie_iv, List.drop, zhp_obj (S := S) b1 (by decide)]; cases p3 <;> rfl) ⟨rfl, Nat.le_of_ble_eq_true rfl⟩ rfl rfl rfl k2 ?_
          refine go_run 0 (F' := (19, [some (.ref a1), some (.int x2), some (va_rf p3), none], [], zhp S2)) rfl ?_
          refine go_run 1 (F' := (20, [some (.ref a1), some (.int x2), some (va_rf p3), none], [.int 3], zhp S2)) rfl ?_
          cases hm
          exact go_end rfl rfl
        · rw [if_neg q4] at hm
          cases hm
  replace hm := zcH_v hm
  refine go_call (m' := 10) (as := [.ref a1, .int x2]) (rest := [.int 0, va_rf p3]) (v := some (.int v2)) (h1 := zhp S2) rfl (by simp only [ie_step, ie_iv, List.drop, zhp_obj (S := S) b1 (by decide)]; cases p3 <;> rfl) ⟨rfl, Nat.le_of_ble_eq_true rfl⟩ k2 ?_
  refine go_run 0 (F' := (7, [some (.ref a1), some (.int x2), some (va_rf p3), none], [.int v2, .int 0, va_rf p3], zhp S2)) rfl ?_
  refine go_run 1 (F' := (8, [some (.ref a1), some (.int x2), some (va_rf p3), none], [.long (Int32.toInt64 v2), .int 0, va_rf p3], zhp S2)) rfl ?_
  replace hm := zob_inv hm
  obtain ⟨a3, rfl, hm⟩ := hm
  replace hm := zgd hm
  obtain ⟨b5, hm⟩ := hm
  replace hm := zgd hm
  obtain ⟨b6, hm⟩ := hm
  refine go_hlast rfl b5 b6 ?_
  refine go_run 2 (F' := (22, [some (.ref a1), some (.int x2), some (.ref a3), none], [.int 0], zhp (szAL S2 a3 (vp_updL (zAL S2 a3) 0 (Int32.toInt64 v2))))) rfl ?_
  cases hm
  exact go_end rfl rfl
theorem ehyL_load {n : Nat} {S : hS} {p1 : Option Nat} {x2 : Int32} {p3 : Option Nat} {S' : hS} {r : Int32} (hm : yL_load n S p1 x2 p3 = some (S', r)) : Ex S S' := by
  unfold yL_load at hm
  have hx : Ex S S := Ex_r
  replace hm := zob_inv hm
  obtain ⟨a1, rfl, hm⟩ := hm
  replace hm := zgd hm
  obtain ⟨b1, hm⟩ := hm
  replace hm := zcH_inv hm
  obtain ⟨S2, w2, e2, hm⟩ := hm
  have hx := Ex_t (T := S) hx (ehy_load e2)
  rcases w2 with c2 | v2
  · replace hm := zcH_t hm
    by_cases q2 : c2 = 11
    · rw [if_pos q2] at hm
      subst q2
      cases hm
      exact hx
    · rw [if_neg q2] at hm
      by_cases q3 : c2 = 12
      · rw [if_pos q3] at hm
        subst q3
        cases hm
        exact hx
      · rw [if_neg q3] at hm
        by_cases q4 : c2 = 13
        · rw [if_pos q4] at hm
          subst q4
          cases hm
          exact hx
        · rw [if_neg q4] at hm
          cases hm
  replace hm := zcH_v hm
  replace hm := zob_inv hm
  obtain ⟨a3, rfl, hm⟩ := hm
  replace hm := zgd hm
  obtain ⟨b5, hm⟩ := hm
  replace hm := zgd hm
  obtain ⟨b6, hm⟩ := hm
  cases hm
  exact hx
def yL_length (S : hS) (p1 : Option Nat) (x2 : Int32) (p3 : Option Nat) : Option (hS × Int32) := (zob p1 fun a1 => (if ztg S a1 = 1 then (zcH (y_length S a1 x2) (fun S2 c2 => (if c2 = 14 then (some (S2, 1)) else (if c2 = 12 then (some (S2, 2)) else none))) fun S2 v2 => (zob p3 fun a3 => (if ztg S2 a3 = 23 then (if ib 0 (zLen S2 a3) then (some (szAL S2 a3 (vp_updL (zAL S2 a3) 0 (Int32.toInt64 v2)), 0)) else none) else none))) else none))
theorem hyL_length {X : ie_X} {d : Nat} {S : hS} {p1 : Option Nat} {x2 : Int32} {p3 : Option Nat} {S' : hS} {r : Int32} (hm : yL_length S p1 x2 p3 = some (S', r)) : Go X (d + 3) 78 (0, ie_en 78 [va_rf p1, .int x2, va_rf p3], [], zhp S) (.inl (some (.int r))) (zhp S') := by
  unfold yL_length at hm
  refine go_run 0 (F' := (0, [some (va_rf p1), some (.int x2), some (va_rf p3), none], [], zhp S)) (by cases p1 <;> cases p3 <;> rfl) ?_
  refine go_run 0 (F' := (0, [some (va_rf p1), some (.int x2), some (va_rf p3), none], [], zhp S)) rfl ?_
  refine go_al rfl rfl ?_
  refine go_run 1 (F' := (2, [some (va_rf p1), some (.int x2), some (va_rf p3), none], [.int 0, va_rf p3], zhp S)) rfl ?_
  refine go_al rfl rfl ?_
  refine go_run 1 (F' := (4, [some (va_rf p1), some (.int x2), some (va_rf p3), none], [.int x2, va_rf p1, .int 0, va_rf p3], zhp S)) rfl ?_
  replace hm := zob_inv hm
  obtain ⟨a1, rfl, hm⟩ := hm
  refine go_run 0 (F' := (4, [some (.ref a1), some (.int x2), some (va_rf p3), none], [.int x2, .ref a1, .int 0, va_rf p3], zhp S)) rfl ?_
  replace hm := zgd hm
  obtain ⟨b1, hm⟩ := hm
  replace hm := zcH_inv hm
  obtain ⟨S2, w2, e2, hm⟩ := hm
  have k2 := hy_length (X := X) (d := d) e2
  rcases w2 with c2 | v2
  · replace hm := zcH_t hm
    by_cases q2 : c2 = 14
    · rw [if_pos q2] at hm
      subst q2
      refine go_catch (m' := 79) (ci := 14) (as := [.ref a1, .int x2]) (rest := [.int 0, va_rf p3]) (h1 := zhp S2) rfl (by simp only [ie_step, ie_iv, List.drop, zhp_obj (S := S) b1 (by decide)]; cases p3 <;> rfl) ⟨rfl, Nat.le_of_ble_eq_true rfl⟩ rfl rfl rfl k2 ?_
      refine go_run 0 (F' := (13, [some (.ref a1), some (.int x2), some (va_rf p3), none], [], zhp S2)) rfl ?_
      refine go_run 1 (F' := (14, [some (.ref a1), some (.int x2), some (va_rf p3), none], [.int 1], zhp S2)) rfl ?_
      cases hm
      exact go_end rfl rfl
    · rw [if_neg q2] at hm
      by_cases q3 : c2 = 12
      · rw [if_pos q3] at hm
        subst q3
        refine go_catch (m' := 79) (ci := 12) (as := [.ref a1, .int x2]) (rest := [.int 0, va_rf p3]) (h1 := zhp S2) rfl (by simp only [ie_step, ie_iv, List.drop, zhp_obj (S := S) b1 (by decide)]; cases p3 <;> rfl) ⟨rfl, Nat.le_of_ble_eq_true rfl⟩ rfl rfl rfl k2 ?_
        refine go_run 0 (F' := (16, [some (.ref a1), some (.int x2), some (va_rf p3), none], [], zhp S2)) rfl ?_
        refine go_run 1 (F' := (17, [some (.ref a1), some (.int x2), some (va_rf p3), none], [.int 2], zhp S2)) rfl ?_
        cases hm
        exact go_end rfl rfl
      · rw [if_neg q3] at hm
        cases hm
  replace hm := zcH_v hm
  refine go_call (m' := 79) (as := [.ref a1, .int x2]) (rest := [.int 0, va_rf p3]) (v := some (.int v2)) (h1 := zhp S2) rfl (by simp only [ie_step, ie_iv, List.drop, zhp_obj (S := S) b1 (by decide)]; cases p3 <;> rfl) ⟨rfl, Nat.le_of_ble_eq_true rfl⟩ k2 ?_
  refine go_run 0 (F' := (7, [some (.ref a1), some (.int x2), some (va_rf p3), none], [.int v2, .int 0, va_rf p3], zhp S2)) rfl ?_
  refine go_run 1 (F' := (8, [some (.ref a1), some (.int x2), some (va_rf p3), none], [.long (Int32.toInt64 v2), .int 0, va_rf p3], zhp S2)) rfl ?_
  replace hm := zob_inv hm
  obtain ⟨a3, rfl, hm⟩ := hm
  replace hm := zgd hm
  obtain ⟨b4, hm⟩ := hm
  replace hm := zgd hm
  obtain ⟨b5, hm⟩ := hm
  refine go_hlast rfl b4 b5 ?_
  refine go_run 2 (F' := (19, [some (.ref a1), some (.int x2), some (.ref a3), none], [.int 0], zhp (szAL S2 a3 (vp_updL (zAL S2 a3) 0 (Int32.toInt64 v2))))) rfl ?_
  cases hm
  exact go_end rfl rfl
theorem ehyL_length {S : hS} {p1 : Option Nat} {x2 : Int32} {p3 : Option Nat} {S' : hS} {r : Int32} (hm : yL_length S p1 x2 p3 = some (S', r)) : Ex S S' := by
  unfold yL_length at hm
  have hx : Ex S S := Ex_r
  replace hm := zob_inv hm
  obtain ⟨a1, rfl, hm⟩ := hm
  replace hm := zgd hm
  obtain ⟨b1, hm⟩ := hm
  replace hm := zcH_inv hm
  obtain ⟨S2, w2, e2, hm⟩ := hm
  have hx := Ex_t (T := S) hx (ehy_length e2)
  rcases w2 with c2 | v2
  · replace hm := zcH_t hm
    by_cases q2 : c2 = 14
    · rw [if_pos q2] at hm
      subst q2
      cases hm
      exact hx
    · rw [if_neg q2] at hm
      by_cases q3 : c2 = 12
      · rw [if_pos q3] at hm
        subst q3
        cases hm
        exact hx
      · rw [if_neg q3] at hm
        cases hm
  replace hm := zcH_v hm
  replace hm := zob_inv hm
  obtain ⟨a3, rfl, hm⟩ := hm
  replace hm := zgd hm
  obtain ⟨b4, hm⟩ := hm
  replace hm := zgd hm
  obtain ⟨b5, hm⟩ := hm
  cases hm
  exact hx
def yL_letter (S : hS) (p1 : Option Nat) (x2 : Int32) (x3 : Int32) (p4 : Option Nat) : Option (hS × Int32) := (zob p1 fun a1 => (if ztg S a1 = 1 then (zcH (y_letter S a1 x2 x3) (fun S2 c2 => (if c2 = 14 then (some (S2, 1)) else (if c2 = 12 then (some (S2, 2)) else (if c2 = 15 then (some (S2, 3)) else none)))) fun S2 v2 => (zob p4 fun a3 => (if ztg S2 a3 = 23 then (if ib 0 (zLen S2 a3) then (some (szAL S2 a3 (vp_updL (zAL S2 a3) 0 (Int32.toInt64 v2)), 0)) else none) else none))) else none))
theorem hyL_letter {X : ie_X} {d : Nat} {S : hS} {p1 : Option Nat} {x2 : Int32} {x3 : Int32} {p4 : Option Nat} {S' : hS} {r : Int32} (hm : yL_letter S p1 x2 x3 p4 = some (S', r)) : Go X (d + 3) 82 (0, ie_en 82 [va_rf p1, .int x2, .int x3, va_rf p4], [], zhp S) (.inl (some (.int r))) (zhp S') := by
  unfold yL_letter at hm
  refine go_run 0 (F' := (0, [some (va_rf p1), some (.int x2), some (.int x3), some (va_rf p4), none], [], zhp S)) (by cases p1 <;> cases p4 <;> rfl) ?_
  refine go_run 0 (F' := (0, [some (va_rf p1), some (.int x2), some (.int x3), some (va_rf p4), none], [], zhp S)) rfl ?_
  refine go_al rfl rfl ?_
  refine go_run 1 (F' := (2, [some (va_rf p1), some (.int x2), some (.int x3), some (va_rf p4), none], [.int 0, va_rf p4], zhp S)) rfl ?_
  refine go_al rfl rfl ?_
  refine go_run 2 (F' := (5, [some (va_rf p1), some (.int x2), some (.int x3), some (va_rf p4), none], [.int x3, .int x2, va_rf p1, .int 0, va_rf p4], zhp S)) rfl ?_
  replace hm := zob_inv hm
  obtain ⟨a1, rfl, hm⟩ := hm
  refine go_run 0 (F' := (5, [some (.ref a1), some (.int x2), some (.int x3), some (va_rf p4), none], [.int x3, .int x2, .ref a1, .int 0, va_rf p4], zhp S)) rfl ?_
  replace hm := zgd hm
  obtain ⟨b1, hm⟩ := hm
  replace hm := zcH_inv hm
  obtain ⟨S2, w2, e2, hm⟩ := hm
  have k2 := hy_letter (X := X) (d := d) e2
  rcases w2 with c2 | v2
  · replace hm := zcH_t hm
    by_cases q2 : c2 = 14
    · rw [if_pos q2] at hm
      subst q2
      refine go_catch (m' := 83) (ci := 14) (as := [.ref a1, .int x2, .int x3]) (rest := [.int 0, va_rf p4]) (h1 := zhp S2) rfl (by simp only [ie_step, ie_iv, List.drop, zhp_obj (S := S) b1 (by decide)]; cases p4 <;> rfl) ⟨rfl, Nat.le_of_ble_eq_true rfl⟩ rfl rfl rfl k2 ?_
      refine go_run 0 (F' := (15, [some (.ref a1), some (.int x2), some (.int x3), some (va_rf p4), none], [], zhp S2)) rfl ?_
      refine go_run 1 (F' := (16, [some (.ref a1), some (.int x2), some (.int x3), some (va_rf p4), none], [.int 1], zhp S2)) rfl ?_
      cases hm
      exact go_end rfl rfl
    · rw [if_neg q2] at hm
      by_cases q3 : c2 = 12
      · rw [if_pos q3] at hm
        subst q3
        refine go_catch (m' := 83) (ci := 12) (as := [.ref a1, .int x2, .int x3]) (rest := [.int 0, va_rf p4]) (h1 := zhp S2) rfl (by simp only [ie_step, ie_iv, List.drop, zhp_obj (S := S) b1 (by decide)]; cases p4 <;> rfl) ⟨rfl, Nat.le_of_ble_eq_true rfl⟩ rfl rfl rfl k2 ?_
        refine go_run 0 (F' := (19, [some (.ref a1), some (.int x2), some (.int x3), some (va_rf p4), none], [], zhp S2)) rfl ?_
        refine go_run 1 (F' := (20, [some (.ref a1), some (.int x2), some (.int x3), some (va_rf p4), none], [.int 2], zhp S2)) rfl ?_
        cases hm
        exact go_end rfl rfl
      · rw [if_neg q3] at hm
        by_cases q4 : c2 = 15
        · rw [if_pos q4] at hm
          subst q4
          refine go_catch (m' := 83) (ci := 15) (as := [.ref a1, .int x2, .int x3]) (rest := [.int 0, va_rf p4]) (h1 := zhp S2) rfl (by simp only [ie_step, ie_iv, List.drop, zhp_obj (S := S) b1 (by decide)]; cases p4 <;> rfl) ⟨rfl, Nat.le_of_ble_eq_true rfl⟩ rfl rfl rfl k2 ?_
          refine go_run 0 (F' := (23, [some (.ref a1), some (.int x2), some (.int x3), some (va_rf p4), none], [], zhp S2)) rfl ?_
          refine go_run 1 (F' := (24, [some (.ref a1), some (.int x2), some (.int x3), some (va_rf p4), none], [.int 3], zhp S2)) rfl ?_
          cases hm
          exact go_end rfl rfl
        · rw [if_neg q4] at hm
          cases hm
  replace hm := zcH_v hm
  refine go_call (m' := 83) (as := [.ref a1, .int x2, .int x3]) (rest := [.int 0, va_rf p4]) (v := some (.int v2)) (h1 := zhp S2) rfl (by simp only [ie_step, ie_iv, List.drop, zhp_obj (S := S) b1 (by decide)]; cases p4 <;> rfl) ⟨rfl, Nat.le_of_ble_eq_true rfl⟩ k2 ?_
  refine go_run 0 (F' := (8, [some (.ref a1), some (.int x2), some (.int x3), some (va_rf p4), none], [.int v2, .int 0, va_rf p4], zhp S2)) rfl ?_
  refine go_run 1 (F' := (9, [some (.ref a1), some (.int x2), some (.int x3), some (va_rf p4), none], [.long (Int32.toInt64 v2), .int 0, va_rf p4], zhp S2)) rfl ?_
  replace hm := zob_inv hm
  obtain ⟨a3, rfl, hm⟩ := hm
  replace hm := zgd hm
  obtain ⟨b5, hm⟩ := hm
  replace hm := zgd hm
  obtain ⟨b6, hm⟩ := hm
  refine go_hlast rfl b5 b6 ?_
  refine go_run 2 (F' := (26, [some (.ref a1), some (.int x2), some (.int x3), some (.ref a3), none], [.int 0], zhp (szAL S2 a3 (vp_updL (zAL S2 a3) 0 (Int32.toInt64 v2))))) rfl ?_
  cases hm
  exact go_end rfl rfl
theorem ehyL_letter {S : hS} {p1 : Option Nat} {x2 : Int32} {x3 : Int32} {p4 : Option Nat} {S' : hS} {r : Int32} (hm : yL_letter S p1 x2 x3 p4 = some (S', r)) : Ex S S' := by
  unfold yL_letter at hm
  have hx : Ex S S := Ex_r
  replace hm := zob_inv hm
  obtain ⟨a1, rfl, hm⟩ := hm
  replace hm := zgd hm
  obtain ⟨b1, hm⟩ := hm
  replace hm := zcH_inv hm
  obtain ⟨S2, w2, e2, hm⟩ := hm
  have hx := Ex_t (T := S) hx (ehy_letter e2)
  rcases w2 with c2 | v2
  · replace hm := zcH_t hm
    by_cases q2 : c2 = 14
    · rw [if_pos q2] at hm
      subst q2
      cases hm
      exact hx
    · rw [if_neg q2] at hm
      by_cases q3 : c2 = 12
      · rw [if_pos q3] at hm
        subst q3
        cases hm
        exact hx
      · rw [if_neg q3] at hm
        by_cases q4 : c2 = 15
        · rw [if_pos q4] at hm
          subst q4
          cases hm
          exact hx
        · rw [if_neg q4] at hm
          cases hm
  replace hm := zcH_v hm
  replace hm := zob_inv hm
  obtain ⟨a3, rfl, hm⟩ := hm
  replace hm := zgd hm
  obtain ⟨b5, hm⟩ := hm
  replace hm := zgd hm
  obtain ⟨b6, hm⟩ := hm
  cases hm
  exact hx
def yL_input (S : hS) (p1 : Option Nat) (x2 : Int32) (x3 : Int32) (x4 : Int32) (p5 : Option Nat) : Option (hS × Int32) := (zob p1 fun a1 => (if ztg S a1 = 1 then (zcH (y_input S a1 x2 x3 x4) (fun S2 c2 => (if c2 = 14 then (some (S2, 1)) else (if c2 = 12 then (some (S2, 2)) else none))) fun S2 v2 => (zob p5 fun a3 => (if ztg S2 a3 = 23 then (if ib 0 (zLen S2 a3) then (some (szAL S2 a3 (vp_updL (zAL S2 a3) 0 (Int32.toInt64 v2)), 0)) else none) else none))) else none))
theorem hyL_input {X : ie_X} {d : Nat} {S : hS} {p1 : Option Nat} {x2 : Int32} {x3 : Int32} {x4 : Int32} {p5 : Option Nat} {S' : hS} {r : Int32} (hm : yL_input S p1 x2 x3 x4 p5 = some (S', r)) : Go X (d + 3) 84 (0, ie_en 84 [va_rf p1, .int x2, .int x3, .int x4, va_rf p5], [], zhp S) (.inl (some (.int r))) (zhp S') := by
  unfold yL_input at hm
  refine go_run 0 (F' := (0, [some (va_rf p1), some (.int x2), some (.int x3), some (.int x4), some (va_rf p5), none], [], zhp S)) (by cases p1 <;> cases p5 <;> rfl) ?_
  refine go_run 0 (F' := (0, [some (va_rf p1), some (.int x2), some (.int x3), some (.int x4), some (va_rf p5), none], [], zhp S)) rfl ?_
  refine go_al2 rfl rfl ?_
  refine go_run 1 (F' := (3, [some (va_rf p1), some (.int x2), some (.int x3), some (.int x4), some (va_rf p5), none], [.int 0, va_rf p5], zhp S)) rfl ?_
  refine go_al rfl rfl ?_
  refine go_run 3 (F' := (7, [some (va_rf p1), some (.int x2), some (.int x3), some (.int x4), some (va_rf p5), none], [.int x4, .int x3, .int x2, va_rf p1, .int 0, va_rf p5], zhp S)) rfl ?_
  replace hm := zob_inv hm
  obtain ⟨a1, rfl, hm⟩ := hm
  refine go_run 0 (F' := (7, [some (.ref a1), some (.int x2), some (.int x3), some (.int x4), some (va_rf p5), none], [.int x4, .int x3, .int x2, .ref a1, .int 0, va_rf p5], zhp S)) rfl ?_
  replace hm := zgd hm
  obtain ⟨b1, hm⟩ := hm
  replace hm := zcH_inv hm
  obtain ⟨S2, w2, e2, hm⟩ := hm
  have k2 := hy_input (X := X) (d := d) e2
  rcases w2 with c2 | v2
  · replace hm := zcH_t hm
    by_cases q2 : c2 = 14
    · rw [if_pos q2] at hm
      subst q2
      refine go_catch (m' := 85) (ci := 14) (as := [.ref a1, .int x2, .int x3, .int x4]) (rest := [.int 0, va_rf p5]) (h1 := zhp S2) rfl (by simp only [ie_step, ie_iv, List.drop, zhp_obj (S := S) b1 (by decide)]; cases p5 <;> rfl) ⟨rfl, Nat.le_of_ble_eq_true rfl⟩ rfl rfl rfl k2 ?_
      refine go_run 0 (F' := (17, [some (.ref a1), some (.int x2), some (.int x3), some (.int x4), some (va_rf p5), none], [], zhp S2)) rfl ?_
      refine go_run 1 (F' := (18, [some (.ref a1), some (.int x2), some (.int x3), some (.int x4), some (va_rf p5), none], [.int 1], zhp S2)) rfl ?_
      cases hm
      exact go_end rfl rfl
    · rw [if_neg q2] at hm
      by_cases q3 : c2 = 12
      · rw [if_pos q3] at hm
        subst q3
        refine go_catch (m' := 85) (ci := 12) (as := [.ref a1, .int x2, .int x3, .int x4]) (rest := [.int 0, va_rf p5]) (h1 := zhp S2) rfl (by simp only [ie_step, ie_iv, List.drop, zhp_obj (S := S) b1 (by decide)]; cases p5 <;> rfl) ⟨rfl, Nat.le_of_ble_eq_true rfl⟩ rfl rfl rfl k2 ?_
        refine go_run 0 (F' := (21, [some (.ref a1), some (.int x2), some (.int x3), some (.int x4), some (va_rf p5), none], [], zhp S2)) rfl ?_
        refine go_run 1 (F' := (22, [some (.ref a1), some (.int x2), some (.int x3), some (.int x4), some (va_rf p5), none], [.int 2], zhp S2)) rfl ?_
        cases hm
        exact go_end rfl rfl
      · rw [if_neg q3] at hm
        cases hm
  replace hm := zcH_v hm
  refine go_call (m' := 85) (as := [.ref a1, .int x2, .int x3, .int x4]) (rest := [.int 0, va_rf p5]) (v := some (.int v2)) (h1 := zhp S2) rfl (by simp only [ie_step, ie_iv, List.drop, zhp_obj (S := S) b1 (by decide)]; cases p5 <;> rfl) ⟨rfl, Nat.le_of_ble_eq_true rfl⟩ k2 ?_
  refine go_run 0 (F' := (10, [some (.ref a1), some (.int x2), some (.int x3), some (.int x4), some (va_rf p5), none], [.int v2, .int 0, va_rf p5], zhp S2)) rfl ?_
  refine go_run 1 (F' := (11, [some (.ref a1), some (.int x2), some (.int x3), some (.int x4), some (va_rf p5), none], [.long (Int32.toInt64 v2), .int 0, va_rf p5], zhp S2)) rfl ?_
  replace hm := zob_inv hm
  obtain ⟨a3, rfl, hm⟩ := hm
  replace hm := zgd hm
  obtain ⟨b4, hm⟩ := hm
  replace hm := zgd hm
  obtain ⟨b5, hm⟩ := hm
  refine go_hlast rfl b4 b5 ?_
  refine go_run 2 (F' := (24, [some (.ref a1), some (.int x2), some (.int x3), some (.int x4), some (.ref a3), none], [.int 0], zhp (szAL S2 a3 (vp_updL (zAL S2 a3) 0 (Int32.toInt64 v2))))) rfl ?_
  cases hm
  exact go_end rfl rfl
theorem ehyL_input {S : hS} {p1 : Option Nat} {x2 : Int32} {x3 : Int32} {x4 : Int32} {p5 : Option Nat} {S' : hS} {r : Int32} (hm : yL_input S p1 x2 x3 x4 p5 = some (S', r)) : Ex S S' := by
  unfold yL_input at hm
  have hx : Ex S S := Ex_r
  replace hm := zob_inv hm
  obtain ⟨a1, rfl, hm⟩ := hm
  replace hm := zgd hm
  obtain ⟨b1, hm⟩ := hm
  replace hm := zcH_inv hm
  obtain ⟨S2, w2, e2, hm⟩ := hm
  have hx := Ex_t (T := S) hx (ehy_input e2)
  rcases w2 with c2 | v2
  · replace hm := zcH_t hm
    by_cases q2 : c2 = 14
    · rw [if_pos q2] at hm
      subst q2
      cases hm
      exact hx
    · rw [if_neg q2] at hm
      by_cases q3 : c2 = 12
      · rw [if_pos q3] at hm
        subst q3
        cases hm
        exact hx
      · rw [if_neg q3] at hm
        cases hm
  replace hm := zcH_v hm
  replace hm := zob_inv hm
  obtain ⟨a3, rfl, hm⟩ := hm
  replace hm := zgd hm
  obtain ⟨b4, hm⟩ := hm
  replace hm := zgd hm
  obtain ⟨b5, hm⟩ := hm
  cases hm
  exact hx
def yL_room (S : hS) (p1 : Option Nat) (x2 : Int32) : Option (hS × Int32) := (zob p1 fun a1 => (if ztg S a1 = 1 then (zcH (y_room S a1 x2) (fun S2 c2 => (if c2 = 11 then (some (S2, 1)) else (if c2 = 12 then (some (S2, 2)) else none))) fun S2 v2 => (some (S2, 0))) else none))
theorem hyL_room {X : ie_X} {d : Nat} {S : hS} {p1 : Option Nat} {x2 : Int32} {S' : hS} {r : Int32} (hm : yL_room S p1 x2 = some (S', r)) : Go X (d + 2) 89 (0, ie_en 89 [va_rf p1, .int x2], [], zhp S) (.inl (some (.int r))) (zhp S') := by
  unfold yL_room at hm
  refine go_run 0 (F' := (0, [some (va_rf p1), some (.int x2), none], [], zhp S)) (by cases p1 <;> rfl) ?_
  refine go_run 0 (F' := (0, [some (va_rf p1), some (.int x2), none], [], zhp S)) rfl ?_
  refine go_al rfl rfl ?_
  refine go_run 1 (F' := (2, [some (va_rf p1), some (.int x2), none], [.int x2, va_rf p1], zhp S)) rfl ?_
  replace hm := zob_inv hm
  obtain ⟨a1, rfl, hm⟩ := hm
  refine go_run 0 (F' := (2, [some (.ref a1), some (.int x2), none], [.int x2, .ref a1], zhp S)) rfl ?_
  replace hm := zgd hm
  obtain ⟨b1, hm⟩ := hm
  replace hm := zcH_inv hm
  obtain ⟨S2, w2, e2, hm⟩ := hm
  have k2 := hy_room (X := X) (d := d) e2
  rcases w2 with c2 | v2
  · replace hm := zcH_t hm
    by_cases q2 : c2 = 11
    · rw [if_pos q2] at hm
      subst q2
      refine go_catch (m' := 90) (ci := 11) (as := [.ref a1, .int x2]) (rest := []) (h1 := zhp S2) rfl (by simp only [ie_step, ie_iv, List.drop, zhp_obj (S := S) b1 (by decide)]; rfl) ⟨rfl, Nat.le_of_ble_eq_true rfl⟩ rfl rfl rfl k2 ?_
      refine go_run 0 (F' := (9, [some (.ref a1), some (.int x2), none], [], zhp S2)) rfl ?_
      refine go_run 1 (F' := (10, [some (.ref a1), some (.int x2), none], [.int 1], zhp S2)) rfl ?_
      cases hm
      exact go_end rfl rfl
    · rw [if_neg q2] at hm
      by_cases q3 : c2 = 12
      · rw [if_pos q3] at hm
        subst q3
        refine go_catch (m' := 90) (ci := 12) (as := [.ref a1, .int x2]) (rest := []) (h1 := zhp S2) rfl (by simp only [ie_step, ie_iv, List.drop, zhp_obj (S := S) b1 (by decide)]; rfl) ⟨rfl, Nat.le_of_ble_eq_true rfl⟩ rfl rfl rfl k2 ?_
        refine go_run 0 (F' := (12, [some (.ref a1), some (.int x2), none], [], zhp S2)) rfl ?_
        refine go_run 1 (F' := (13, [some (.ref a1), some (.int x2), none], [.int 2], zhp S2)) rfl ?_
        cases hm
        exact go_end rfl rfl
      · rw [if_neg q3] at hm
        cases hm
  replace hm := zcH_v hm
  refine go_call (m' := 90) (as := [.ref a1, .int x2]) (rest := []) (v := none) (h1 := zhp S2) rfl (by simp only [ie_step, ie_iv, List.drop, zhp_obj (S := S) b1 (by decide)]; rfl) ⟨rfl, Nat.le_of_ble_eq_true rfl⟩ k2 ?_
  refine go_run 0 (F' := (5, [some (.ref a1), some (.int x2), none], [], zhp S2)) rfl ?_
  refine go_run 2 (F' := (15, [some (.ref a1), some (.int x2), none], [.int 0], zhp S2)) rfl ?_
  cases hm
  exact go_end rfl rfl
theorem ehyL_room {S : hS} {p1 : Option Nat} {x2 : Int32} {S' : hS} {r : Int32} (hm : yL_room S p1 x2 = some (S', r)) : Ex S S' := by
  unfold yL_room at hm
  have hx : Ex S S := Ex_r
  replace hm := zob_inv hm
  obtain ⟨a1, rfl, hm⟩ := hm
  replace hm := zgd hm
  obtain ⟨b1, hm⟩ := hm
  replace hm := zcH_inv hm
  obtain ⟨S2, w2, e2, hm⟩ := hm
  have hx := Ex_t (T := S) hx (ehy_room e2)
  rcases w2 with c2 | v2
  · replace hm := zcH_t hm
    by_cases q2 : c2 = 11
    · rw [if_pos q2] at hm
      subst q2
      cases hm
      exact hx
    · rw [if_neg q2] at hm
      by_cases q3 : c2 = 12
      · rw [if_pos q3] at hm
        subst q3
        cases hm
        exact hx
      · rw [if_neg q3] at hm
        cases hm
  replace hm := zcH_v hm
  cases hm
  exact hx
def yL_reset (n : Nat) (S : hS) (p1 : Option Nat) : Option (hS × Int32) := (zob p1 fun a1 => (if ztg S a1 = 1 then (zcH (y_reset n S a1) (fun S2 c2 => (if c2 = 12 then (some (S2, 1)) else none)) fun S2 v2 => (some (S2, 0))) else none))
theorem hyL_reset {X : ie_X} {d : Nat} {n : Nat} {S : hS} {p1 : Option Nat} {S' : hS} {r : Int32} (hm : yL_reset n S p1 = some (S', r)) : Go X (d + 3) 91 (0, ie_en 91 [va_rf p1], [], zhp S) (.inl (some (.int r))) (zhp S') := by
  unfold yL_reset at hm
  refine go_run 0 (F' := (0, [some (va_rf p1), none], [], zhp S)) (by cases p1 <;> rfl) ?_
  refine go_run 0 (F' := (0, [some (va_rf p1), none], [], zhp S)) rfl ?_
  refine go_al rfl rfl ?_
  refine go_run 0 (F' := (1, [some (va_rf p1), none], [va_rf p1], zhp S)) rfl ?_
  replace hm := zob_inv hm
  obtain ⟨a1, rfl, hm⟩ := hm
  refine go_run 0 (F' := (1, [some (.ref a1), none], [.ref a1], zhp S)) rfl ?_
  replace hm := zgd hm
  obtain ⟨b1, hm⟩ := hm
  replace hm := zcH_inv hm
  obtain ⟨S2, w2, e2, hm⟩ := hm
  have k2 := hy_reset (X := X) (d := d) e2
  rcases w2 with c2 | v2
  · replace hm := zcH_t hm
    by_cases q2 : c2 = 12
    · rw [if_pos q2] at hm
      subst q2
      refine go_catch (m' := 92) (ci := 12) (as := [.ref a1]) (rest := []) (h1 := zhp S2) rfl (by simp only [ie_step, ie_iv, List.drop, zhp_obj (S := S) b1 (by decide)]; rfl) ⟨rfl, Nat.le_of_ble_eq_true rfl⟩ rfl rfl rfl k2 ?_
      refine go_run 0 (F' := (8, [some (.ref a1), none], [], zhp S2)) rfl ?_
      refine go_run 1 (F' := (9, [some (.ref a1), none], [.int 1], zhp S2)) rfl ?_
      cases hm
      exact go_end rfl rfl
    · rw [if_neg q2] at hm
      cases hm
  replace hm := zcH_v hm
  refine go_call (m' := 92) (as := [.ref a1]) (rest := []) (v := none) (h1 := zhp S2) rfl (by simp only [ie_step, ie_iv, List.drop, zhp_obj (S := S) b1 (by decide)]; rfl) ⟨rfl, Nat.le_of_ble_eq_true rfl⟩ k2 ?_
  refine go_run 0 (F' := (4, [some (.ref a1), none], [], zhp S2)) rfl ?_
  refine go_run 2 (F' := (11, [some (.ref a1), none], [.int 0], zhp S2)) rfl ?_
  cases hm
  exact go_end rfl rfl
theorem ehyL_reset {n : Nat} {S : hS} {p1 : Option Nat} {S' : hS} {r : Int32} (hm : yL_reset n S p1 = some (S', r)) : Ex S S' := by
  unfold yL_reset at hm
  have hx : Ex S S := Ex_r
  replace hm := zob_inv hm
  obtain ⟨a1, rfl, hm⟩ := hm
  replace hm := zgd hm
  obtain ⟨b1, hm⟩ := hm
  replace hm := zcH_inv hm
  obtain ⟨S2, w2, e2, hm⟩ := hm
  have hx := Ex_t (T := S) hx (ehy_reset e2)
  rcases w2 with c2 | v2
  · replace hm := zcH_t hm
    by_cases q2 : c2 = 12
    · rw [if_pos q2] at hm
      subst q2
      cases hm
      exact hx
    · rw [if_neg q2] at hm
      cases hm
  replace hm := zcH_v hm
  cases hm
  exact hx
def yL_step (n : Nat) (S : hS) (p1 : Option Nat) (x2 : Int32) (p3 : Option Nat) : Option (hS × Int32) := (zob p1 fun a1 => (if ztg S a1 = 1 then (zcH (y_step n S a1 x2) (fun S2 c2 => (if c2 = 14 then (some (S2, 1)) else (if c2 = 12 then (some (S2, 2)) else none))) fun S2 v2 => (zob p3 fun a3 => (if ztg S2 a3 = 23 then (if ib 0 (zLen S2 a3) then (some (szAL S2 a3 (vp_updL (zAL S2 a3) 0 (Int32.toInt64 v2)), 0)) else none) else none))) else none))
theorem hyL_step {X : ie_X} {d : Nat} {n : Nat} {S : hS} {p1 : Option Nat} {x2 : Int32} {p3 : Option Nat} {S' : hS} {r : Int32} (hm : yL_step n S p1 x2 p3 = some (S', r)) : Go X (d + 8) 93 (0, ie_en 93 [va_rf p1, .int x2, va_rf p3], [], zhp S) (.inl (some (.int r))) (zhp S') := by
  unfold yL_step at hm
  refine go_run 0 (F' := (0, [some (va_rf p1), some (.int x2), some (va_rf p3), none], [], zhp S)) (by cases p1 <;> cases p3 <;> rfl) ?_
  refine go_run 0 (F' := (0, [some (va_rf p1), some (.int x2), some (va_rf p3), none], [], zhp S)) rfl ?_
  refine go_al rfl rfl ?_
  refine go_run 1 (F' := (2, [some (va_rf p1), some (.int x2), some (va_rf p3), none], [.int 0, va_rf p3], zhp S)) rfl ?_
  refine go_al rfl rfl ?_
  refine go_run 1 (F' := (4, [some (va_rf p1), some (.int x2), some (va_rf p3), none], [.int x2, va_rf p1, .int 0, va_rf p3], zhp S)) rfl ?_
  replace hm := zob_inv hm
  obtain ⟨a1, rfl, hm⟩ := hm
  refine go_run 0 (F' := (4, [some (.ref a1), some (.int x2), some (va_rf p3), none], [.int x2, .ref a1, .int 0, va_rf p3], zhp S)) rfl ?_
  replace hm := zgd hm
  obtain ⟨b1, hm⟩ := hm
  replace hm := zcH_inv hm
  obtain ⟨S2, w2, e2, hm⟩ := hm
  have k2 := hy_step (X := X) (d := d) e2
  rcases w2 with c2 | v2
  · replace hm := zcH_t hm
    by_cases q2 : c2 = 14
    · rw [if_pos q2] at hm
      subst q2
      refine go_catch (m' := 94) (ci := 14) (as := [.ref a1, .int x2]) (rest := [.int 0, va_rf p3]) (h1 := zhp S2) rfl (by simp only [ie_step, ie_iv, List.drop, zhp_obj (S := S) b1 (by decide)]; cases p3 <;> rfl) ⟨rfl, Nat.le_of_ble_eq_true rfl⟩ rfl rfl rfl k2 ?_
      refine go_run 0 (F' := (13, [some (.ref a1), some (.int x2), some (va_rf p3), none], [], zhp S2)) rfl ?_
      refine go_run 1 (F' := (14, [some (.ref a1), some (.int x2), some (va_rf p3), none], [.int 1], zhp S2)) rfl ?_
      cases hm
      exact go_end rfl rfl
    · rw [if_neg q2] at hm
      by_cases q3 : c2 = 12
      · rw [if_pos q3] at hm
        subst q3
        refine go_catch (m' := 94) (ci := 12) (as := [.ref a1, .int x2]) (rest := [.int 0, va_rf p3]) (h1 := zhp S2) rfl (by simp only [ie_step, ie_iv, List.drop, zhp_obj (S := S) b1 (by decide)]; cases p3 <;> rfl) ⟨rfl, Nat.le_of_ble_eq_true rfl⟩ rfl rfl rfl k2 ?_
        refine go_run 0 (F' := (16, [some (.ref a1), some (.int x2), some (va_rf p3), none], [], zhp S2)) rfl ?_
        refine go_run 1 (F' := (17, [some (.ref a1), some (.int x2), some (va_rf p3), none], [.int 2], zhp S2)) rfl ?_
        cases hm
        exact go_end rfl rfl
      · rw [if_neg q3] at hm
        cases hm
  replace hm := zcH_v hm
  refine go_call (m' := 94) (as := [.ref a1, .int x2]) (rest := [.int 0, va_rf p3]) (v := some (.int v2)) (h1 := zhp S2) rfl (by simp only [ie_step, ie_iv, List.drop, zhp_obj (S := S) b1 (by decide)]; cases p3 <;> rfl) ⟨rfl, Nat.le_of_ble_eq_true rfl⟩ k2 ?_
  refine go_run 0 (F' := (7, [some (.ref a1), some (.int x2), some (va_rf p3), none], [.int v2, .int 0, va_rf p3], zhp S2)) rfl ?_
  refine go_run 1 (F' := (8, [some (.ref a1), some (.int x2), some (va_rf p3), none], [.long (Int32.toInt64 v2), .int 0, va_rf p3], zhp S2)) rfl ?_
  replace hm := zob_inv hm
  obtain ⟨a3, rfl, hm⟩ := hm
  replace hm := zgd hm
  obtain ⟨b4, hm⟩ := hm
  replace hm := zgd hm
  obtain ⟨b5, hm⟩ := hm
  refine go_hlast rfl b4 b5 ?_
  refine go_run 2 (F' := (19, [some (.ref a1), some (.int x2), some (.ref a3), none], [.int 0], zhp (szAL S2 a3 (vp_updL (zAL S2 a3) 0 (Int32.toInt64 v2))))) rfl ?_
  cases hm
  exact go_end rfl rfl
theorem ehyL_step {n : Nat} {S : hS} {p1 : Option Nat} {x2 : Int32} {p3 : Option Nat} {S' : hS} {r : Int32} (hm : yL_step n S p1 x2 p3 = some (S', r)) : Ex S S' := by
  unfold yL_step at hm
  have hx : Ex S S := Ex_r
  replace hm := zob_inv hm
  obtain ⟨a1, rfl, hm⟩ := hm
  replace hm := zgd hm
  obtain ⟨b1, hm⟩ := hm
  replace hm := zcH_inv hm
  obtain ⟨S2, w2, e2, hm⟩ := hm
  have hx := Ex_t (T := S) hx (ehy_step e2)
  rcases w2 with c2 | v2
  · replace hm := zcH_t hm
    by_cases q2 : c2 = 14
    · rw [if_pos q2] at hm
      subst q2
      cases hm
      exact hx
    · rw [if_neg q2] at hm
      by_cases q3 : c2 = 12
      · rw [if_pos q3] at hm
        subst q3
        cases hm
        exact hx
      · rw [if_neg q3] at hm
        cases hm
  replace hm := zcH_v hm
  replace hm := zob_inv hm
  obtain ⟨a3, rfl, hm⟩ := hm
  replace hm := zgd hm
  obtain ⟨b4, hm⟩ := hm
  replace hm := zgd hm
  obtain ⟨b5, hm⟩ := hm
  cases hm
  exact hx
def yL_run (n : Nat) (S : hS) (p1 : Option Nat) (x2 : Int32) (x3 : Int32) (p4 : Option Nat) : Option (hS × Int32) := (zob p1 fun a1 => (if ztg S a1 = 1 then (zcH (y_run n S a1 x2 x3) (fun S2 c2 => (if c2 = 14 then (some (S2, 1)) else (if c2 = 11 then (some (S2, 2)) else (if c2 = 12 then (some (S2, 3)) else none)))) fun S2 v2 => (zob p4 fun a3 => (if ztg S2 a3 = 23 then (if ib 0 (zLen S2 a3) then (some (szAL S2 a3 (vp_updL (zAL S2 a3) 0 (Int32.toInt64 v2)), 0)) else none) else none))) else none))
theorem hyL_run {X : ie_X} {d : Nat} {n : Nat} {S : hS} {p1 : Option Nat} {x2 : Int32} {x3 : Int32} {p4 : Option Nat} {S' : hS} {r : Int32} (hm : yL_run n S p1 x2 x3 p4 = some (S', r)) : Go X (d + 8) 112 (0, ie_en 112 [va_rf p1, .int x2, .int x3, va_rf p4], [], zhp S) (.inl (some (.int r))) (zhp S') := by
  unfold yL_run at hm
  refine go_run 0 (F' := (0, [some (va_rf p1), some (.int x2), some (.int x3), some (va_rf p4), none], [], zhp S)) (by cases p1 <;> cases p4 <;> rfl) ?_
  refine go_run 0 (F' := (0, [some (va_rf p1), some (.int x2), some (.int x3), some (va_rf p4), none], [], zhp S)) rfl ?_
  refine go_al rfl rfl ?_
  refine go_run 1 (F' := (2, [some (va_rf p1), some (.int x2), some (.int x3), some (va_rf p4), none], [.int 0, va_rf p4], zhp S)) rfl ?_
  refine go_al rfl rfl ?_
  refine go_run 2 (F' := (5, [some (va_rf p1), some (.int x2), some (.int x3), some (va_rf p4), none], [.int x3, .int x2, va_rf p1, .int 0, va_rf p4], zhp S)) rfl ?_
  replace hm := zob_inv hm
  obtain ⟨a1, rfl, hm⟩ := hm
  refine go_run 0 (F' := (5, [some (.ref a1), some (.int x2), some (.int x3), some (va_rf p4), none], [.int x3, .int x2, .ref a1, .int 0, va_rf p4], zhp S)) rfl ?_
  replace hm := zgd hm
  obtain ⟨b1, hm⟩ := hm
  replace hm := zcH_inv hm
  obtain ⟨S2, w2, e2, hm⟩ := hm
  have k2 := hy_run (X := X) (d := d) e2
  rcases w2 with c2 | v2
  · replace hm := zcH_t hm
    by_cases q2 : c2 = 14
    · rw [if_pos q2] at hm
      subst q2
      refine go_catch (m' := 113) (ci := 14) (as := [.ref a1, .int x2, .int x3]) (rest := [.int 0, va_rf p4]) (h1 := zhp S2) rfl (by simp only [ie_step, ie_iv, List.drop, zhp_obj (S := S) b1 (by decide)]; cases p4 <;> rfl) ⟨rfl, Nat.le_of_ble_eq_true rfl⟩ rfl rfl rfl k2 ?_
      refine go_run 0 (F' := (15, [some (.ref a1), some (.int x2), some (.int x3), some (va_rf p4), none], [], zhp S2)) rfl ?_
      refine go_run 1 (F' := (16, [some (.ref a1), some (.int x2), some (.int x3), some (va_rf p4), none], [.int 1], zhp S2)) rfl ?_
      cases hm
      exact go_end rfl rfl
    · rw [if_neg q2] at hm
      by_cases q3 : c2 = 11
      · rw [if_pos q3] at hm
        subst q3
        refine go_catch (m' := 113) (ci := 11) (as := [.ref a1, .int x2, .int x3]) (rest := [.int 0, va_rf p4]) (h1 := zhp S2) rfl (by simp only [ie_step, ie_iv, List.drop, zhp_obj (S := S) b1 (by decide)]; cases p4 <;> rfl) ⟨rfl, Nat.le_of_ble_eq_true rfl⟩ rfl rfl rfl k2 ?_
        refine go_run 0 (F' := (19, [some (.ref a1), some (.int x2), some (.int x3), some (va_rf p4), none], [], zhp S2)) rfl ?_
        refine go_run 1 (F' := (20, [some (.ref a1), some (.int x2), some (.int x3), some (va_rf p4), none], [.int 2], zhp S2)) rfl ?_
        cases hm
        exact go_end rfl rfl
      · rw [if_neg q3] at hm
        by_cases q4 : c2 = 12
        · rw [if_pos q4] at hm
          subst q4
          refine go_catch (m' := 113) (ci := 12) (as := [.ref a1, .int x2, .int x3]) (rest := [.int 0, va_rf p4]) (h1 := zhp S2) rfl (by simp only [ie_step, ie_iv, List.drop, zhp_obj (S := S) b1 (by decide)]; cases p4 <;> rfl) ⟨rfl, Nat.le_of_ble_eq_true rfl⟩ rfl rfl rfl k2 ?_
          refine go_run 0 (F' := (23, [some (.ref a1), some (.int x2), some (.int x3), some (va_rf p4), none], [], zhp S2)) rfl ?_
          refine go_run 1 (F' := (24, [some (.ref a1), some (.int x2), some (.int x3), some (va_rf p4), none], [.int 3], zhp S2)) rfl ?_
          cases hm
          exact go_end rfl rfl
        · rw [if_neg q4] at hm
          cases hm
  replace hm := zcH_v hm
  refine go_call (m' := 113) (as := [.ref a1, .int x2, .int x3]) (rest := [.int 0, va_rf p4]) (v := some (.int v2)) (h1 := zhp S2) rfl (by simp only [ie_step, ie_iv, List.drop, zhp_obj (S := S) b1 (by decide)]; cases p4 <;> rfl) ⟨rfl, Nat.le_of_ble_eq_true rfl⟩ k2 ?_
  refine go_run 0 (F' := (8, [some (.ref a1), some (.int x2), some (.int x3), some (va_rf p4), none], [.int v2, .int 0, va_rf p4], zhp S2)) rfl ?_
  refine go_run 1 (F' := (9, [some (.ref a1), some (.int x2), some (.int x3), some (va_rf p4), none], [.long (Int32.toInt64 v2), .int 0, va_rf p4], zhp S2)) rfl ?_
  replace hm := zob_inv hm
  obtain ⟨a3, rfl, hm⟩ := hm
  replace hm := zgd hm
  obtain ⟨b5, hm⟩ := hm
  replace hm := zgd hm
  obtain ⟨b6, hm⟩ := hm
  refine go_hlast rfl b5 b6 ?_
  refine go_run 2 (F' := (26, [some (.ref a1), some (.int x2), some (.int x3), some (.ref a3), none], [.int 0], zhp (szAL S2 a3 (vp_updL (zAL S2 a3) 0 (Int32.toInt64 v2))))) rfl ?_
  cases hm
  exact go_end rfl rfl
theorem ehyL_run {n : Nat} {S : hS} {p1 : Option Nat} {x2 : Int32} {x3 : Int32} {p4 : Option Nat} {S' : hS} {r : Int32} (hm : yL_run n S p1 x2 x3 p4 = some (S', r)) : Ex S S' := by
  unfold yL_run at hm
  have hx : Ex S S := Ex_r
  replace hm := zob_inv hm
  obtain ⟨a1, rfl, hm⟩ := hm
  replace hm := zgd hm
  obtain ⟨b1, hm⟩ := hm
  replace hm := zcH_inv hm
  obtain ⟨S2, w2, e2, hm⟩ := hm
  have hx := Ex_t (T := S) hx (ehy_run e2)
  rcases w2 with c2 | v2
  · replace hm := zcH_t hm
    by_cases q2 : c2 = 14
    · rw [if_pos q2] at hm
      subst q2
      cases hm
      exact hx
    · rw [if_neg q2] at hm
      by_cases q3 : c2 = 11
      · rw [if_pos q3] at hm
        subst q3
        cases hm
        exact hx
      · rw [if_neg q3] at hm
        by_cases q4 : c2 = 12
        · rw [if_pos q4] at hm
          subst q4
          cases hm
          exact hx
        · rw [if_neg q4] at hm
          cases hm
  replace hm := zcH_v hm
  replace hm := zob_inv hm
  obtain ⟨a3, rfl, hm⟩ := hm
  replace hm := zgd hm
  obtain ⟨b5, hm⟩ := hm
  replace hm := zgd hm
  obtain ⟨b6, hm⟩ := hm
  cases hm
  exact hx
def yL_at (S : hS) (p1 : Option Nat) (x2 : Int32) (p3 : Option Nat) : Option (hS × Int32) := (zob p1 fun a1 => (if ztg S a1 = 1 then (zcH (y_at S a1 x2) (fun S2 c2 => (if c2 = 14 then (some (S2, 1)) else (if c2 = 12 then (some (S2, 2)) else none))) fun S2 v2 => (zob p3 fun a3 => (if ztg S2 a3 = 23 then (if ib 0 (zLen S2 a3) then (some (szAL S2 a3 (vp_updL (zAL S2 a3) 0 (Int32.toInt64 v2)), 0)) else none) else none))) else none))
theorem hyL_at {X : ie_X} {d : Nat} {S : hS} {p1 : Option Nat} {x2 : Int32} {p3 : Option Nat} {S' : hS} {r : Int32} (hm : yL_at S p1 x2 p3 = some (S', r)) : Go X (d + 3) 114 (0, ie_en 114 [va_rf p1, .int x2, va_rf p3], [], zhp S) (.inl (some (.int r))) (zhp S') := by
  unfold yL_at at hm
  refine go_run 0 (F' := (0, [some (va_rf p1), some (.int x2), some (va_rf p3), none], [], zhp S)) (by cases p1 <;> cases p3 <;> rfl) ?_
  refine go_run 0 (F' := (0, [some (va_rf p1), some (.int x2), some (va_rf p3), none], [], zhp S)) rfl ?_
  refine go_al rfl rfl ?_
  refine go_run 1 (F' := (2, [some (va_rf p1), some (.int x2), some (va_rf p3), none], [.int 0, va_rf p3], zhp S)) rfl ?_
  refine go_al rfl rfl ?_
  refine go_run 1 (F' := (4, [some (va_rf p1), some (.int x2), some (va_rf p3), none], [.int x2, va_rf p1, .int 0, va_rf p3], zhp S)) rfl ?_
  replace hm := zob_inv hm
  obtain ⟨a1, rfl, hm⟩ := hm
  refine go_run 0 (F' := (4, [some (.ref a1), some (.int x2), some (va_rf p3), none], [.int x2, .ref a1, .int 0, va_rf p3], zhp S)) rfl ?_
  replace hm := zgd hm
  obtain ⟨b1, hm⟩ := hm
  replace hm := zcH_inv hm
  obtain ⟨S2, w2, e2, hm⟩ := hm
  have k2 := hy_at (X := X) (d := d) e2
  rcases w2 with c2 | v2
  · replace hm := zcH_t hm
    by_cases q2 : c2 = 14
    · rw [if_pos q2] at hm
      subst q2
      refine go_catch (m' := 115) (ci := 14) (as := [.ref a1, .int x2]) (rest := [.int 0, va_rf p3]) (h1 := zhp S2) rfl (by simp only [ie_step, ie_iv, List.drop, zhp_obj (S := S) b1 (by decide)]; cases p3 <;> rfl) ⟨rfl, Nat.le_of_ble_eq_true rfl⟩ rfl rfl rfl k2 ?_
      refine go_run 0 (F' := (13, [some (.ref a1), some (.int x2), some (va_rf p3), none], [], zhp S2)) rfl ?_
      refine go_run 1 (F' := (14, [some (.ref a1), some (.int x2), some (va_rf p3), none], [.int 1], zhp S2)) rfl ?_
      cases hm
      exact go_end rfl rfl
    · rw [if_neg q2] at hm
      by_cases q3 : c2 = 12
      · rw [if_pos q3] at hm
        subst q3
        refine go_catch (m' := 115) (ci := 12) (as := [.ref a1, .int x2]) (rest := [.int 0, va_rf p3]) (h1 := zhp S2) rfl (by simp only [ie_step, ie_iv, List.drop, zhp_obj (S := S) b1 (by decide)]; cases p3 <;> rfl) ⟨rfl, Nat.le_of_ble_eq_true rfl⟩ rfl rfl rfl k2 ?_
        refine go_run 0 (F' := (16, [some (.ref a1), some (.int x2), some (va_rf p3), none], [], zhp S2)) rfl ?_
        refine go_run 1 (F' := (17, [some (.ref a1), some (.int x2), some (va_rf p3), none], [.int 2], zhp S2)) rfl ?_
        cases hm
        exact go_end rfl rfl
      · rw [if_neg q3] at hm
        cases hm
  replace hm := zcH_v hm
  refine go_call (m' := 115) (as := [.ref a1, .int x2]) (rest := [.int 0, va_rf p3]) (v := some (.int v2)) (h1 := zhp S2) rfl (by simp only [ie_step, ie_iv, List.drop, zhp_obj (S := S) b1 (by decide)]; cases p3 <;> rfl) ⟨rfl, Nat.le_of_ble_eq_true rfl⟩ k2 ?_
  refine go_run 0 (F' := (7, [some (.ref a1), some (.int x2), some (va_rf p3), none], [.int v2, .int 0, va_rf p3], zhp S2)) rfl ?_
  refine go_run 1 (F' := (8, [some (.ref a1), some (.int x2), some (va_rf p3), none], [.long (Int32.toInt64 v2), .int 0, va_rf p3], zhp S2)) rfl ?_
  replace hm := zob_inv hm
  obtain ⟨a3, rfl, hm⟩ := hm
  replace hm := zgd hm
  obtain ⟨b4, hm⟩ := hm
  replace hm := zgd hm
  obtain ⟨b5, hm⟩ := hm
  refine go_hlast rfl b4 b5 ?_
  refine go_run 2 (F' := (19, [some (.ref a1), some (.int x2), some (.ref a3), none], [.int 0], zhp (szAL S2 a3 (vp_updL (zAL S2 a3) 0 (Int32.toInt64 v2))))) rfl ?_
  cases hm
  exact go_end rfl rfl
theorem ehyL_at {S : hS} {p1 : Option Nat} {x2 : Int32} {p3 : Option Nat} {S' : hS} {r : Int32} (hm : yL_at S p1 x2 p3 = some (S', r)) : Ex S S' := by
  unfold yL_at at hm
  have hx : Ex S S := Ex_r
  replace hm := zob_inv hm
  obtain ⟨a1, rfl, hm⟩ := hm
  replace hm := zgd hm
  obtain ⟨b1, hm⟩ := hm
  replace hm := zcH_inv hm
  obtain ⟨S2, w2, e2, hm⟩ := hm
  have hx := Ex_t (T := S) hx (ehy_at e2)
  rcases w2 with c2 | v2
  · replace hm := zcH_t hm
    by_cases q2 : c2 = 14
    · rw [if_pos q2] at hm
      subst q2
      cases hm
      exact hx
    · rw [if_neg q2] at hm
      by_cases q3 : c2 = 12
      · rw [if_pos q3] at hm
        subst q3
        cases hm
        exact hx
      · rw [if_neg q3] at hm
        cases hm
  replace hm := zcH_v hm
  replace hm := zob_inv hm
  obtain ⟨a3, rfl, hm⟩ := hm
  replace hm := zgd hm
  obtain ⟨b4, hm⟩ := hm
  replace hm := zgd hm
  obtain ⟨b5, hm⟩ := hm
  cases hm
  exact hx
def yL_variable (S : hS) (p1 : Option Nat) (x2 : Int32) (x3 : Int32) (p4 : Option Nat) : Option (hS × Int32) := (zob p1 fun a1 => (if ztg S a1 = 1 then (zcH (y_variable S a1 x2 x3) (fun S2 c2 => (if c2 = 14 then (some (S2, 1)) else none)) fun S2 v2 => (zob p4 fun a3 => (if ztg S2 a3 = 23 then (if ib 0 (zLen S2 a3) then (some (szAL S2 a3 (vp_updL (zAL S2 a3) 0 (Int32.toInt64 v2)), 0)) else none) else none))) else none))
theorem hyL_variable {X : ie_X} {d : Nat} {S : hS} {p1 : Option Nat} {x2 : Int32} {x3 : Int32} {p4 : Option Nat} {S' : hS} {r : Int32} (hm : yL_variable S p1 x2 x3 p4 = some (S', r)) : Go X (d + 3) 116 (0, ie_en 116 [va_rf p1, .int x2, .int x3, va_rf p4], [], zhp S) (.inl (some (.int r))) (zhp S') := by
  unfold yL_variable at hm
  refine go_run 0 (F' := (0, [some (va_rf p1), some (.int x2), some (.int x3), some (va_rf p4), none], [], zhp S)) (by cases p1 <;> cases p4 <;> rfl) ?_
  refine go_run 0 (F' := (0, [some (va_rf p1), some (.int x2), some (.int x3), some (va_rf p4), none], [], zhp S)) rfl ?_
  refine go_al rfl rfl ?_
  refine go_run 1 (F' := (2, [some (va_rf p1), some (.int x2), some (.int x3), some (va_rf p4), none], [.int 0, va_rf p4], zhp S)) rfl ?_
  refine go_al rfl rfl ?_
  refine go_run 2 (F' := (5, [some (va_rf p1), some (.int x2), some (.int x3), some (va_rf p4), none], [.int x3, .int x2, va_rf p1, .int 0, va_rf p4], zhp S)) rfl ?_
  replace hm := zob_inv hm
  obtain ⟨a1, rfl, hm⟩ := hm
  refine go_run 0 (F' := (5, [some (.ref a1), some (.int x2), some (.int x3), some (va_rf p4), none], [.int x3, .int x2, .ref a1, .int 0, va_rf p4], zhp S)) rfl ?_
  replace hm := zgd hm
  obtain ⟨b1, hm⟩ := hm
  replace hm := zcH_inv hm
  obtain ⟨S2, w2, e2, hm⟩ := hm
  have k2 := hy_variable (X := X) (d := d) e2
  rcases w2 with c2 | v2
  · replace hm := zcH_t hm
    by_cases q2 : c2 = 14
    · rw [if_pos q2] at hm
      subst q2
      refine go_catch (m' := 117) (ci := 14) (as := [.ref a1, .int x2, .int x3]) (rest := [.int 0, va_rf p4]) (h1 := zhp S2) rfl (by simp only [ie_step, ie_iv, List.drop, zhp_obj (S := S) b1 (by decide)]; cases p4 <;> rfl) ⟨rfl, Nat.le_of_ble_eq_true rfl⟩ rfl rfl rfl k2 ?_
      refine go_run 0 (F' := (15, [some (.ref a1), some (.int x2), some (.int x3), some (va_rf p4), none], [], zhp S2)) rfl ?_
      refine go_run 1 (F' := (16, [some (.ref a1), some (.int x2), some (.int x3), some (va_rf p4), none], [.int 1], zhp S2)) rfl ?_
      cases hm
      exact go_end rfl rfl
    · rw [if_neg q2] at hm
      cases hm
  replace hm := zcH_v hm
  refine go_call (m' := 117) (as := [.ref a1, .int x2, .int x3]) (rest := [.int 0, va_rf p4]) (v := some (.int v2)) (h1 := zhp S2) rfl (by simp only [ie_step, ie_iv, List.drop, zhp_obj (S := S) b1 (by decide)]; cases p4 <;> rfl) ⟨rfl, Nat.le_of_ble_eq_true rfl⟩ k2 ?_
  refine go_run 0 (F' := (8, [some (.ref a1), some (.int x2), some (.int x3), some (va_rf p4), none], [.int v2, .int 0, va_rf p4], zhp S2)) rfl ?_
  refine go_run 1 (F' := (9, [some (.ref a1), some (.int x2), some (.int x3), some (va_rf p4), none], [.long (Int32.toInt64 v2), .int 0, va_rf p4], zhp S2)) rfl ?_
  replace hm := zob_inv hm
  obtain ⟨a3, rfl, hm⟩ := hm
  replace hm := zgd hm
  obtain ⟨b3, hm⟩ := hm
  replace hm := zgd hm
  obtain ⟨b4, hm⟩ := hm
  refine go_hlast rfl b3 b4 ?_
  refine go_run 2 (F' := (18, [some (.ref a1), some (.int x2), some (.int x3), some (.ref a3), none], [.int 0], zhp (szAL S2 a3 (vp_updL (zAL S2 a3) 0 (Int32.toInt64 v2))))) rfl ?_
  cases hm
  exact go_end rfl rfl
theorem ehyL_variable {S : hS} {p1 : Option Nat} {x2 : Int32} {x3 : Int32} {p4 : Option Nat} {S' : hS} {r : Int32} (hm : yL_variable S p1 x2 x3 p4 = some (S', r)) : Ex S S' := by
  unfold yL_variable at hm
  have hx : Ex S S := Ex_r
  replace hm := zob_inv hm
  obtain ⟨a1, rfl, hm⟩ := hm
  replace hm := zgd hm
  obtain ⟨b1, hm⟩ := hm
  replace hm := zcH_inv hm
  obtain ⟨S2, w2, e2, hm⟩ := hm
  have hx := Ex_t (T := S) hx (ehy_variable e2)
  rcases w2 with c2 | v2
  · replace hm := zcH_t hm
    by_cases q2 : c2 = 14
    · rw [if_pos q2] at hm
      subst q2
      cases hm
      exact hx
    · rw [if_neg q2] at hm
      cases hm
  replace hm := zcH_v hm
  replace hm := zob_inv hm
  obtain ⟨a3, rfl, hm⟩ := hm
  replace hm := zgd hm
  obtain ⟨b3, hm⟩ := hm
  replace hm := zgd hm
  obtain ⟨b4, hm⟩ := hm
  cases hm
  exact hx
def yL_queue (S : hS) (p1 : Option Nat) (x2 : Int32) (x3 : Int32) (p4 : Option Nat) : Option (hS × Int32) := (zob p1 fun a1 => (if ztg S a1 = 1 then (zcH (y_queue S a1 x2 x3) (fun S2 c2 => (if c2 = 14 then (some (S2, 1)) else none)) fun S2 v2 => (zob p4 fun a3 => (if ztg S2 a3 = 23 then (if ib 0 (zLen S2 a3) then (some (szAL S2 a3 (vp_updL (zAL S2 a3) 0 (Int32.toInt64 v2)), 0)) else none) else none))) else none))
theorem hyL_queue {X : ie_X} {d : Nat} {S : hS} {p1 : Option Nat} {x2 : Int32} {x3 : Int32} {p4 : Option Nat} {S' : hS} {r : Int32} (hm : yL_queue S p1 x2 x3 p4 = some (S', r)) : Go X (d + 3) 118 (0, ie_en 118 [va_rf p1, .int x2, .int x3, va_rf p4], [], zhp S) (.inl (some (.int r))) (zhp S') := by
  unfold yL_queue at hm
  refine go_run 0 (F' := (0, [some (va_rf p1), some (.int x2), some (.int x3), some (va_rf p4), none], [], zhp S)) (by cases p1 <;> cases p4 <;> rfl) ?_
  refine go_run 0 (F' := (0, [some (va_rf p1), some (.int x2), some (.int x3), some (va_rf p4), none], [], zhp S)) rfl ?_
  refine go_al rfl rfl ?_
  refine go_run 1 (F' := (2, [some (va_rf p1), some (.int x2), some (.int x3), some (va_rf p4), none], [.int 0, va_rf p4], zhp S)) rfl ?_
  refine go_al rfl rfl ?_
  refine go_run 2 (F' := (5, [some (va_rf p1), some (.int x2), some (.int x3), some (va_rf p4), none], [.int x3, .int x2, va_rf p1, .int 0, va_rf p4], zhp S)) rfl ?_
  replace hm := zob_inv hm
  obtain ⟨a1, rfl, hm⟩ := hm
  refine go_run 0 (F' := (5, [some (.ref a1), some (.int x2), some (.int x3), some (va_rf p4), none], [.int x3, .int x2, .ref a1, .int 0, va_rf p4], zhp S)) rfl ?_
  replace hm := zgd hm
  obtain ⟨b1, hm⟩ := hm
  replace hm := zcH_inv hm
  obtain ⟨S2, w2, e2, hm⟩ := hm
  have k2 := hy_queue (X := X) (d := d) e2
  rcases w2 with c2 | v2
  · replace hm := zcH_t hm
    by_cases q2 : c2 = 14
    · rw [if_pos q2] at hm
      subst q2
      refine go_catch (m' := 119) (ci := 14) (as := [.ref a1, .int x2, .int x3]) (rest := [.int 0, va_rf p4]) (h1 := zhp S2) rfl (by simp only [ie_step, ie_iv, List.drop, zhp_obj (S := S) b1 (by decide)]; cases p4 <;> rfl) ⟨rfl, Nat.le_of_ble_eq_true rfl⟩ rfl rfl rfl k2 ?_
      refine go_run 0 (F' := (15, [some (.ref a1), some (.int x2), some (.int x3), some (va_rf p4), none], [], zhp S2)) rfl ?_
      refine go_run 1 (F' := (16, [some (.ref a1), some (.int x2), some (.int x3), some (va_rf p4), none], [.int 1], zhp S2)) rfl ?_
      cases hm
      exact go_end rfl rfl
    · rw [if_neg q2] at hm
      cases hm
  replace hm := zcH_v hm
  refine go_call (m' := 119) (as := [.ref a1, .int x2, .int x3]) (rest := [.int 0, va_rf p4]) (v := some (.int v2)) (h1 := zhp S2) rfl (by simp only [ie_step, ie_iv, List.drop, zhp_obj (S := S) b1 (by decide)]; cases p4 <;> rfl) ⟨rfl, Nat.le_of_ble_eq_true rfl⟩ k2 ?_
  refine go_run 0 (F' := (8, [some (.ref a1), some (.int x2), some (.int x3), some (va_rf p4), none], [.int v2, .int 0, va_rf p4], zhp S2)) rfl ?_
  refine go_run 1 (F' := (9, [some (.ref a1), some (.int x2), some (.int x3), some (va_rf p4), none], [.long (Int32.toInt64 v2), .int 0, va_rf p4], zhp S2)) rfl ?_
  replace hm := zob_inv hm
  obtain ⟨a3, rfl, hm⟩ := hm
  replace hm := zgd hm
  obtain ⟨b3, hm⟩ := hm
  replace hm := zgd hm
  obtain ⟨b4, hm⟩ := hm
  refine go_hlast rfl b3 b4 ?_
  refine go_run 2 (F' := (18, [some (.ref a1), some (.int x2), some (.int x3), some (.ref a3), none], [.int 0], zhp (szAL S2 a3 (vp_updL (zAL S2 a3) 0 (Int32.toInt64 v2))))) rfl ?_
  cases hm
  exact go_end rfl rfl
theorem ehyL_queue {S : hS} {p1 : Option Nat} {x2 : Int32} {x3 : Int32} {p4 : Option Nat} {S' : hS} {r : Int32} (hm : yL_queue S p1 x2 x3 p4 = some (S', r)) : Ex S S' := by
  unfold yL_queue at hm
  have hx : Ex S S := Ex_r
  replace hm := zob_inv hm
  obtain ⟨a1, rfl, hm⟩ := hm
  replace hm := zgd hm
  obtain ⟨b1, hm⟩ := hm
  replace hm := zcH_inv hm
  obtain ⟨S2, w2, e2, hm⟩ := hm
  have hx := Ex_t (T := S) hx (ehy_queue e2)
  rcases w2 with c2 | v2
  · replace hm := zcH_t hm
    by_cases q2 : c2 = 14
    · rw [if_pos q2] at hm
      subst q2
      cases hm
      exact hx
    · rw [if_neg q2] at hm
      cases hm
  replace hm := zcH_v hm
  replace hm := zob_inv hm
  obtain ⟨a3, rfl, hm⟩ := hm
  replace hm := zgd hm
  obtain ⟨b3, hm⟩ := hm
  replace hm := zgd hm
  obtain ⟨b4, hm⟩ := hm
  cases hm
  exact hx
def yL_message (S : hS) (p1 : Option Nat) (x2 : Int32) (x3 : Int32) (x4 : Int32) (p5 : Option Nat) : Option (hS × Int32) := (zob p1 fun a1 => (if ztg S a1 = 1 then (zcH (y_message S a1 x2 x3 x4) (fun S2 c2 => (if c2 = 14 then (some (S2, 1)) else (if c2 = 15 then (some (S2, 2)) else none))) fun S2 v2 => (zob p5 fun a3 => (if ztg S2 a3 = 23 then (if ib 0 (zLen S2 a3) then (some (szAL S2 a3 (vp_updL (zAL S2 a3) 0 (Int32.toInt64 v2)), 0)) else none) else none))) else none))
theorem hyL_message {X : ie_X} {d : Nat} {S : hS} {p1 : Option Nat} {x2 : Int32} {x3 : Int32} {x4 : Int32} {p5 : Option Nat} {S' : hS} {r : Int32} (hm : yL_message S p1 x2 x3 x4 p5 = some (S', r)) : Go X (d + 4) 121 (0, ie_en 121 [va_rf p1, .int x2, .int x3, .int x4, va_rf p5], [], zhp S) (.inl (some (.int r))) (zhp S') := by
  unfold yL_message at hm
  refine go_run 0 (F' := (0, [some (va_rf p1), some (.int x2), some (.int x3), some (.int x4), some (va_rf p5), none], [], zhp S)) (by cases p1 <;> cases p5 <;> rfl) ?_
  refine go_run 0 (F' := (0, [some (va_rf p1), some (.int x2), some (.int x3), some (.int x4), some (va_rf p5), none], [], zhp S)) rfl ?_
  refine go_al2 rfl rfl ?_
  refine go_run 1 (F' := (3, [some (va_rf p1), some (.int x2), some (.int x3), some (.int x4), some (va_rf p5), none], [.int 0, va_rf p5], zhp S)) rfl ?_
  refine go_al rfl rfl ?_
  refine go_run 3 (F' := (7, [some (va_rf p1), some (.int x2), some (.int x3), some (.int x4), some (va_rf p5), none], [.int x4, .int x3, .int x2, va_rf p1, .int 0, va_rf p5], zhp S)) rfl ?_
  replace hm := zob_inv hm
  obtain ⟨a1, rfl, hm⟩ := hm
  refine go_run 0 (F' := (7, [some (.ref a1), some (.int x2), some (.int x3), some (.int x4), some (va_rf p5), none], [.int x4, .int x3, .int x2, .ref a1, .int 0, va_rf p5], zhp S)) rfl ?_
  replace hm := zgd hm
  obtain ⟨b1, hm⟩ := hm
  replace hm := zcH_inv hm
  obtain ⟨S2, w2, e2, hm⟩ := hm
  have k2 := hy_message (X := X) (d := d) e2
  rcases w2 with c2 | v2
  · replace hm := zcH_t hm
    by_cases q2 : c2 = 14
    · rw [if_pos q2] at hm
      subst q2
      refine go_catch (m' := 122) (ci := 14) (as := [.ref a1, .int x2, .int x3, .int x4]) (rest := [.int 0, va_rf p5]) (h1 := zhp S2) rfl (by simp only [ie_step, ie_iv, List.drop, zhp_obj (S := S) b1 (by decide)]; cases p5 <;> rfl) ⟨rfl, Nat.le_of_ble_eq_true rfl⟩ rfl rfl rfl k2 ?_
      refine go_run 0 (F' := (17, [some (.ref a1), some (.int x2), some (.int x3), some (.int x4), some (va_rf p5), none], [], zhp S2)) rfl ?_
      refine go_run 1 (F' := (18, [some (.ref a1), some (.int x2), some (.int x3), some (.int x4), some (va_rf p5), none], [.int 1], zhp S2)) rfl ?_
      cases hm
      exact go_end rfl rfl
    · rw [if_neg q2] at hm
      by_cases q3 : c2 = 15
      · rw [if_pos q3] at hm
        subst q3
        refine go_catch (m' := 122) (ci := 15) (as := [.ref a1, .int x2, .int x3, .int x4]) (rest := [.int 0, va_rf p5]) (h1 := zhp S2) rfl (by simp only [ie_step, ie_iv, List.drop, zhp_obj (S := S) b1 (by decide)]; cases p5 <;> rfl) ⟨rfl, Nat.le_of_ble_eq_true rfl⟩ rfl rfl rfl k2 ?_
        refine go_run 0 (F' := (21, [some (.ref a1), some (.int x2), some (.int x3), some (.int x4), some (va_rf p5), none], [], zhp S2)) rfl ?_
        refine go_run 1 (F' := (22, [some (.ref a1), some (.int x2), some (.int x3), some (.int x4), some (va_rf p5), none], [.int 2], zhp S2)) rfl ?_
        cases hm
        exact go_end rfl rfl
      · rw [if_neg q3] at hm
        cases hm
  replace hm := zcH_v hm
  refine go_call (m' := 122) (as := [.ref a1, .int x2, .int x3, .int x4]) (rest := [.int 0, va_rf p5]) (v := some (.int v2)) (h1 := zhp S2) rfl (by simp only [ie_step, ie_iv, List.drop, zhp_obj (S := S) b1 (by decide)]; cases p5 <;> rfl) ⟨rfl, Nat.le_of_ble_eq_true rfl⟩ k2 ?_
  refine go_run 0 (F' := (10, [some (.ref a1), some (.int x2), some (.int x3), some (.int x4), some (va_rf p5), none], [.int v2, .int 0, va_rf p5], zhp S2)) rfl ?_
  refine go_run 1 (F' := (11, [some (.ref a1), some (.int x2), some (.int x3), some (.int x4), some (va_rf p5), none], [.long (Int32.toInt64 v2), .int 0, va_rf p5], zhp S2)) rfl ?_
  replace hm := zob_inv hm
  obtain ⟨a3, rfl, hm⟩ := hm
  replace hm := zgd hm
  obtain ⟨b4, hm⟩ := hm
  replace hm := zgd hm
  obtain ⟨b5, hm⟩ := hm
  refine go_hlast rfl b4 b5 ?_
  refine go_run 2 (F' := (24, [some (.ref a1), some (.int x2), some (.int x3), some (.int x4), some (.ref a3), none], [.int 0], zhp (szAL S2 a3 (vp_updL (zAL S2 a3) 0 (Int32.toInt64 v2))))) rfl ?_
  cases hm
  exact go_end rfl rfl
theorem ehyL_message {S : hS} {p1 : Option Nat} {x2 : Int32} {x3 : Int32} {x4 : Int32} {p5 : Option Nat} {S' : hS} {r : Int32} (hm : yL_message S p1 x2 x3 x4 p5 = some (S', r)) : Ex S S' := by
  unfold yL_message at hm
  have hx : Ex S S := Ex_r
  replace hm := zob_inv hm
  obtain ⟨a1, rfl, hm⟩ := hm
  replace hm := zgd hm
  obtain ⟨b1, hm⟩ := hm
  replace hm := zcH_inv hm
  obtain ⟨S2, w2, e2, hm⟩ := hm
  have hx := Ex_t (T := S) hx (ehy_message e2)
  rcases w2 with c2 | v2
  · replace hm := zcH_t hm
    by_cases q2 : c2 = 14
    · rw [if_pos q2] at hm
      subst q2
      cases hm
      exact hx
    · rw [if_neg q2] at hm
      by_cases q3 : c2 = 15
      · rw [if_pos q3] at hm
        subst q3
        cases hm
        exact hx
      · rw [if_neg q3] at hm
        cases hm
  replace hm := zcH_v hm
  replace hm := zob_inv hm
  obtain ⟨a3, rfl, hm⟩ := hm
  replace hm := zgd hm
  obtain ⟨b4, hm⟩ := hm
  replace hm := zgd hm
  obtain ⟨b5, hm⟩ := hm
  cases hm
  exact hx
def yL_label (S : hS) (p1 : Option Nat) (x2 : Int32) (x3 : Int32) (x4 : Int32) (p5 : Option Nat) : Option (hS × Int32) := (zob p1 fun a1 => (if ztg S a1 = 1 then (zcH (y_label S a1 x2 x3 x4) (fun S2 c2 => (if c2 = 14 then (some (S2, 1)) else (if c2 = 15 then (some (S2, 2)) else none))) fun S2 v2 => (if v2 = 0 then (zob p5 fun a3 => (if ztg S2 a3 = 23 then (if ib 0 (zLen S2 a3) then (some (szAL S2 a3 (vp_updL (zAL S2 a3) 0 0), 0)) else none) else none)) else (zob p5 fun a4 => (if ztg S2 a4 = 23 then (if ib 0 (zLen S2 a4) then (some (szAL S2 a4 (vp_updL (zAL S2 a4) 0 1), 0)) else none) else none)))) else none))
theorem hyL_label {X : ie_X} {d : Nat} {S : hS} {p1 : Option Nat} {x2 : Int32} {x3 : Int32} {x4 : Int32} {p5 : Option Nat} {S' : hS} {r : Int32} (hm : yL_label S p1 x2 x3 x4 p5 = some (S', r)) : Go X (d + 4) 124 (0, ie_en 124 [va_rf p1, .int x2, .int x3, .int x4, va_rf p5], [], zhp S) (.inl (some (.int r))) (zhp S') := by
  unfold yL_label at hm
  refine go_run 0 (F' := (0, [some (va_rf p1), some (.int x2), some (.int x3), some (.int x4), some (va_rf p5), none], [], zhp S)) (by cases p1 <;> cases p5 <;> rfl) ?_
  refine go_run 0 (F' := (0, [some (va_rf p1), some (.int x2), some (.int x3), some (.int x4), some (va_rf p5), none], [], zhp S)) rfl ?_
  refine go_al2 rfl rfl ?_
  refine go_run 1 (F' := (3, [some (va_rf p1), some (.int x2), some (.int x3), some (.int x4), some (va_rf p5), none], [.int 0, va_rf p5], zhp S)) rfl ?_
  refine go_al rfl rfl ?_
  refine go_run 3 (F' := (7, [some (va_rf p1), some (.int x2), some (.int x3), some (.int x4), some (va_rf p5), none], [.int x4, .int x3, .int x2, va_rf p1, .int 0, va_rf p5], zhp S)) rfl ?_
  replace hm := zob_inv hm
  obtain ⟨a1, rfl, hm⟩ := hm
  refine go_run 0 (F' := (7, [some (.ref a1), some (.int x2), some (.int x3), some (.int x4), some (va_rf p5), none], [.int x4, .int x3, .int x2, .ref a1, .int 0, va_rf p5], zhp S)) rfl ?_
  replace hm := zgd hm
  obtain ⟨b1, hm⟩ := hm
  replace hm := zcH_inv hm
  obtain ⟨S2, w2, e2, hm⟩ := hm
  have k2 := hy_label (X := X) (d := d) e2
  rcases w2 with c2 | v2
  · replace hm := zcH_t hm
    by_cases q2 : c2 = 14
    · rw [if_pos q2] at hm
      subst q2
      refine go_catch (m' := 125) (ci := 14) (as := [.ref a1, .int x2, .int x3, .int x4]) (rest := [.int 0, va_rf p5]) (h1 := zhp S2) rfl (by simp only [ie_step, ie_iv, List.drop, zhp_obj (S := S) b1 (by decide)]; cases p5 <;> rfl) ⟨rfl, Nat.le_of_ble_eq_true rfl⟩ rfl rfl rfl k2 ?_
      refine go_run 0 (F' := (24, [some (.ref a1), some (.int x2), some (.int x3), some (.int x4), some (va_rf p5), none], [], zhp S2)) rfl ?_
      refine go_run 1 (F' := (25, [some (.ref a1), some (.int x2), some (.int x3), some (.int x4), some (va_rf p5), none], [.int 1], zhp S2)) rfl ?_
      cases hm
      exact go_end rfl rfl
    · rw [if_neg q2] at hm
      by_cases q3 : c2 = 15
      · rw [if_pos q3] at hm
        subst q3
        refine go_catch (m' := 125) (ci := 15) (as := [.ref a1, .int x2, .int x3, .int x4]) (rest := [.int 0, va_rf p5]) (h1 := zhp S2) rfl (by simp only [ie_step, ie_iv, List.drop, zhp_obj (S := S) b1 (by decide)]; cases p5 <;> rfl) ⟨rfl, Nat.le_of_ble_eq_true rfl⟩ rfl rfl rfl k2 ?_
        refine go_run 0 (F' := (28, [some (.ref a1), some (.int x2), some (.int x3), some (.int x4), some (va_rf p5), none], [], zhp S2)) rfl ?_
        refine go_run 1 (F' := (29, [some (.ref a1), some (.int x2), some (.int x3), some (.int x4), some (va_rf p5), none], [.int 2], zhp S2)) rfl ?_
        cases hm
        exact go_end rfl rfl
      · rw [if_neg q3] at hm
        cases hm
  replace hm := zcH_v hm
  refine go_call (m' := 125) (as := [.ref a1, .int x2, .int x3, .int x4]) (rest := [.int 0, va_rf p5]) (v := some (.int v2)) (h1 := zhp S2) rfl (by simp only [ie_step, ie_iv, List.drop, zhp_obj (S := S) b1 (by decide)]; cases p5 <;> rfl) ⟨rfl, Nat.le_of_ble_eq_true rfl⟩ k2 ?_
  refine go_run 0 (F' := (10, [some (.ref a1), some (.int x2), some (.int x3), some (.int x4), some (va_rf p5), none], [.int v2, .int 0, va_rf p5], zhp S2)) rfl ?_
  refine go_run 0 (F' := (10, [some (.ref a1), some (.int x2), some (.int x3), some (.int x4), some (va_rf p5), none], [.int v2, .int 0, va_rf p5], zhp S2)) rfl ?_
  refine go_step rfl rfl ?_
  by_cases q4 : v2 = 0
  · rw [if_pos q4] at hm ⊢
    refine go_run 0 (F' := (17, [some (.ref a1), some (.int x2), some (.int x3), some (.int x4), some (va_rf p5), none], [.int 0, va_rf p5], zhp S2)) rfl ?_
    refine go_run 1 (F' := (18, [some (.ref a1), some (.int x2), some (.int x3), some (.int x4), some (va_rf p5), none], [.long 0, .int 0, va_rf p5], zhp S2)) rfl ?_
    replace hm := zob_inv hm
    obtain ⟨a3, rfl, hm⟩ := hm
    replace hm := zgd hm
    obtain ⟨b5, hm⟩ := hm
    replace hm := zgd hm
    obtain ⟨b6, hm⟩ := hm
    refine go_hlast rfl b5 b6 ?_
    refine go_run 2 (F' := (31, [some (.ref a1), some (.int x2), some (.int x3), some (.int x4), some (.ref a3), none], [.int 0], zhp (szAL S2 a3 (vp_updL (zAL S2 a3) 0 0)))) rfl ?_
    cases hm
    exact go_end rfl rfl
  · rw [if_neg q4] at hm ⊢
    refine go_run 0 (F' := (13, [some (.ref a1), some (.int x2), some (.int x3), some (.int x4), some (va_rf p5), none], [.int 0, va_rf p5], zhp S2)) rfl ?_
    refine go_run 2 (F' := (18, [some (.ref a1), some (.int x2), some (.int x3), some (.int x4), some (va_rf p5), none], [.long 1, .int 0, va_rf p5], zhp S2)) rfl ?_
    replace hm := zob_inv hm
    obtain ⟨a4, rfl, hm⟩ := hm
    replace hm := zgd hm
    obtain ⟨b7, hm⟩ := hm
    replace hm := zgd hm
    obtain ⟨b8, hm⟩ := hm
    refine go_hlast rfl b7 b8 ?_
    refine go_run 2 (F' := (31, [some (.ref a1), some (.int x2), some (.int x3), some (.int x4), some (.ref a4), none], [.int 0], zhp (szAL S2 a4 (vp_updL (zAL S2 a4) 0 1)))) rfl ?_
    cases hm
    exact go_end rfl rfl
theorem ehyL_label {S : hS} {p1 : Option Nat} {x2 : Int32} {x3 : Int32} {x4 : Int32} {p5 : Option Nat} {S' : hS} {r : Int32} (hm : yL_label S p1 x2 x3 x4 p5 = some (S', r)) : Ex S S' := by
  unfold yL_label at hm
  have hx : Ex S S := Ex_r
  replace hm := zob_inv hm
  obtain ⟨a1, rfl, hm⟩ := hm
  replace hm := zgd hm
  obtain ⟨b1, hm⟩ := hm
  replace hm := zcH_inv hm
  obtain ⟨S2, w2, e2, hm⟩ := hm
  have hx := Ex_t (T := S) hx (ehy_label e2)
  rcases w2 with c2 | v2
  · replace hm := zcH_t hm
    by_cases q2 : c2 = 14
    · rw [if_pos q2] at hm
      subst q2
      cases hm
      exact hx
    · rw [if_neg q2] at hm
      by_cases q3 : c2 = 15
      · rw [if_pos q3] at hm
        subst q3
        cases hm
        exact hx
      · rw [if_neg q3] at hm
        cases hm
  replace hm := zcH_v hm
  by_cases q4 : v2 = 0
  · rw [if_pos q4] at hm
    replace hm := zob_inv hm
    obtain ⟨a3, rfl, hm⟩ := hm
    replace hm := zgd hm
    obtain ⟨b5, hm⟩ := hm
    replace hm := zgd hm
    obtain ⟨b6, hm⟩ := hm
    cases hm
    exact hx
  · rw [if_neg q4] at hm
    replace hm := zob_inv hm
    obtain ⟨a4, rfl, hm⟩ := hm
    replace hm := zgd hm
    obtain ⟨b7, hm⟩ := hm
    replace hm := zgd hm
    obtain ⟨b8, hm⟩ := hm
    cases hm
    exact hx
def yL_whole (n : Nat) (S : hS) (p1 : Option Nat) (x2 : Int32) (p3 : Option Nat) : Option (hS × Int32) := (zob p1 fun a1 => (if ztg S a1 = 1 then (zcH (y_whole n S a1 x2) (fun S2 c2 => (if c2 = 11 then (some (S2, 1)) else (if c2 = 12 then (some (S2, 2)) else none))) fun S2 v2 => (zob p3 fun a3 => (if ztg S2 a3 = 23 then (if ib 0 (zLen S2 a3) then (some (szAL S2 a3 (vp_updL (zAL S2 a3) 0 (Int32.toInt64 v2)), 0)) else none) else none))) else none))
theorem hyL_whole {X : ie_X} {d : Nat} {n : Nat} {S : hS} {p1 : Option Nat} {x2 : Int32} {p3 : Option Nat} {S' : hS} {r : Int32} (hm : yL_whole n S p1 x2 p3 = some (S', r)) : Go X (d + 5) 127 (0, ie_en 127 [va_rf p1, .int x2, va_rf p3], [], zhp S) (.inl (some (.int r))) (zhp S') := by
  unfold yL_whole at hm
  refine go_run 0 (F' := (0, [some (va_rf p1), some (.int x2), some (va_rf p3), none], [], zhp S)) (by cases p1 <;> cases p3 <;> rfl) ?_
  refine go_run 0 (F' := (0, [some (va_rf p1), some (.int x2), some (va_rf p3), none], [], zhp S)) rfl ?_
  refine go_al rfl rfl ?_
  refine go_run 1 (F' := (2, [some (va_rf p1), some (.int x2), some (va_rf p3), none], [.int 0, va_rf p3], zhp S)) rfl ?_
  refine go_al rfl rfl ?_
  refine go_run 1 (F' := (4, [some (va_rf p1), some (.int x2), some (va_rf p3), none], [.int x2, va_rf p1, .int 0, va_rf p3], zhp S)) rfl ?_
  replace hm := zob_inv hm
  obtain ⟨a1, rfl, hm⟩ := hm
  refine go_run 0 (F' := (4, [some (.ref a1), some (.int x2), some (va_rf p3), none], [.int x2, .ref a1, .int 0, va_rf p3], zhp S)) rfl ?_
  replace hm := zgd hm
  obtain ⟨b1, hm⟩ := hm
  replace hm := zcH_inv hm
  obtain ⟨S2, w2, e2, hm⟩ := hm
  have k2 := hy_whole (X := X) (d := d) e2
  rcases w2 with c2 | v2
  · replace hm := zcH_t hm
    by_cases q2 : c2 = 11
    · rw [if_pos q2] at hm
      subst q2
      refine go_catch (m' := 128) (ci := 11) (as := [.ref a1, .int x2]) (rest := [.int 0, va_rf p3]) (h1 := zhp S2) rfl (by simp only [ie_step, ie_iv, List.drop, zhp_obj (S := S) b1 (by decide)]; cases p3 <;> rfl) ⟨rfl, Nat.le_of_ble_eq_true rfl⟩ rfl rfl rfl k2 ?_
      refine go_run 0 (F' := (13, [some (.ref a1), some (.int x2), some (va_rf p3), none], [], zhp S2)) rfl ?_
      refine go_run 1 (F' := (14, [some (.ref a1), some (.int x2), some (va_rf p3), none], [.int 1], zhp S2)) rfl ?_
      cases hm
      exact go_end rfl rfl
    · rw [if_neg q2] at hm
      by_cases q3 : c2 = 12
      · rw [if_pos q3] at hm
        subst q3
        refine go_catch (m' := 128) (ci := 12) (as := [.ref a1, .int x2]) (rest := [.int 0, va_rf p3]) (h1 := zhp S2) rfl (by simp only [ie_step, ie_iv, List.drop, zhp_obj (S := S) b1 (by decide)]; cases p3 <;> rfl) ⟨rfl, Nat.le_of_ble_eq_true rfl⟩ rfl rfl rfl k2 ?_
        refine go_run 0 (F' := (16, [some (.ref a1), some (.int x2), some (va_rf p3), none], [], zhp S2)) rfl ?_
        refine go_run 1 (F' := (17, [some (.ref a1), some (.int x2), some (va_rf p3), none], [.int 2], zhp S2)) rfl ?_
        cases hm
        exact go_end rfl rfl
      · rw [if_neg q3] at hm
        cases hm
  replace hm := zcH_v hm
  refine go_call (m' := 128) (as := [.ref a1, .int x2]) (rest := [.int 0, va_rf p3]) (v := some (.int v2)) (h1 := zhp S2) rfl (by simp only [ie_step, ie_iv, List.drop, zhp_obj (S := S) b1 (by decide)]; cases p3 <;> rfl) ⟨rfl, Nat.le_of_ble_eq_true rfl⟩ k2 ?_
  refine go_run 0 (F' := (7, [some (.ref a1), some (.int x2), some (va_rf p3), none], [.int v2, .int 0, va_rf p3], zhp S2)) rfl ?_
  refine go_run 1 (F' := (8, [some (.ref a1), some (.int x2), some (va_rf p3), none], [.long (Int32.toInt64 v2), .int 0, va_rf p3], zhp S2)) rfl ?_
  replace hm := zob_inv hm
  obtain ⟨a3, rfl, hm⟩ := hm
  replace hm := zgd hm
  obtain ⟨b4, hm⟩ := hm
  replace hm := zgd hm
  obtain ⟨b5, hm⟩ := hm
  refine go_hlast rfl b4 b5 ?_
  refine go_run 2 (F' := (19, [some (.ref a1), some (.int x2), some (.ref a3), none], [.int 0], zhp (szAL S2 a3 (vp_updL (zAL S2 a3) 0 (Int32.toInt64 v2))))) rfl ?_
  cases hm
  exact go_end rfl rfl
theorem ehyL_whole {n : Nat} {S : hS} {p1 : Option Nat} {x2 : Int32} {p3 : Option Nat} {S' : hS} {r : Int32} (hm : yL_whole n S p1 x2 p3 = some (S', r)) : Ex S S' := by
  unfold yL_whole at hm
  have hx : Ex S S := Ex_r
  replace hm := zob_inv hm
  obtain ⟨a1, rfl, hm⟩ := hm
  replace hm := zgd hm
  obtain ⟨b1, hm⟩ := hm
  replace hm := zcH_inv hm
  obtain ⟨S2, w2, e2, hm⟩ := hm
  have hx := Ex_t (T := S) hx (ehy_whole e2)
  rcases w2 with c2 | v2
  · replace hm := zcH_t hm
    by_cases q2 : c2 = 11
    · rw [if_pos q2] at hm
      subst q2
      cases hm
      exact hx
    · rw [if_neg q2] at hm
      by_cases q3 : c2 = 12
      · rw [if_pos q3] at hm
        subst q3
        cases hm
        exact hx
      · rw [if_neg q3] at hm
        cases hm
  replace hm := zcH_v hm
  replace hm := zob_inv hm
  obtain ⟨a3, rfl, hm⟩ := hm
  replace hm := zgd hm
  obtain ⟨b4, hm⟩ := hm
  replace hm := zgd hm
  obtain ⟨b5, hm⟩ := hm
  cases hm
  exact hx
def yL_wanted (S : hS) (p1 : Option Nat) (x2 : Int32) (x3 : Int32) (p4 : Option Nat) : Option (hS × Int32) := (zob p1 fun a1 => (if ztg S a1 = 1 then (zcH (y_wanted S a1 x2 x3) (fun S2 c2 => (if c2 = 14 then (some (S2, 1)) else none)) fun S2 v2 => (zob p4 fun a3 => (if ztg S2 a3 = 23 then (if ib 0 (zLen S2 a3) then (some (szAL S2 a3 (vp_updL (zAL S2 a3) 0 (Int32.toInt64 v2)), 0)) else none) else none))) else none))
theorem hyL_wanted {X : ie_X} {d : Nat} {S : hS} {p1 : Option Nat} {x2 : Int32} {x3 : Int32} {p4 : Option Nat} {S' : hS} {r : Int32} (hm : yL_wanted S p1 x2 x3 p4 = some (S', r)) : Go X (d + 3) 131 (0, ie_en 131 [va_rf p1, .int x2, .int x3, va_rf p4], [], zhp S) (.inl (some (.int r))) (zhp S') := by
  unfold yL_wanted at hm
  refine go_run 0 (F' := (0, [some (va_rf p1), some (.int x2), some (.int x3), some (va_rf p4), none], [], zhp S)) (by cases p1 <;> cases p4 <;> rfl) ?_
  refine go_run 0 (F' := (0, [some (va_rf p1), some (.int x2), some (.int x3), some (va_rf p4), none], [], zhp S)) rfl ?_
  refine go_al rfl rfl ?_
  refine go_run 1 (F' := (2, [some (va_rf p1), some (.int x2), some (.int x3), some (va_rf p4), none], [.int 0, va_rf p4], zhp S)) rfl ?_
  refine go_al rfl rfl ?_
  refine go_run 2 (F' := (5, [some (va_rf p1), some (.int x2), some (.int x3), some (va_rf p4), none], [.int x3, .int x2, va_rf p1, .int 0, va_rf p4], zhp S)) rfl ?_
  replace hm := zob_inv hm
  obtain ⟨a1, rfl, hm⟩ := hm
  refine go_run 0 (F' := (5, [some (.ref a1), some (.int x2), some (.int x3), some (va_rf p4), none], [.int x3, .int x2, .ref a1, .int 0, va_rf p4], zhp S)) rfl ?_
  replace hm := zgd hm
  obtain ⟨b1, hm⟩ := hm
  replace hm := zcH_inv hm
  obtain ⟨S2, w2, e2, hm⟩ := hm
  have k2 := hy_wanted (X := X) (d := d) e2
  rcases w2 with c2 | v2
  · replace hm := zcH_t hm
    by_cases q2 : c2 = 14
    · rw [if_pos q2] at hm
      subst q2
      refine go_catch (m' := 132) (ci := 14) (as := [.ref a1, .int x2, .int x3]) (rest := [.int 0, va_rf p4]) (h1 := zhp S2) rfl (by simp only [ie_step, ie_iv, List.drop, zhp_obj (S := S) b1 (by decide)]; cases p4 <;> rfl) ⟨rfl, Nat.le_of_ble_eq_true rfl⟩ rfl rfl rfl k2 ?_
      refine go_run 0 (F' := (15, [some (.ref a1), some (.int x2), some (.int x3), some (va_rf p4), none], [], zhp S2)) rfl ?_
      refine go_run 1 (F' := (16, [some (.ref a1), some (.int x2), some (.int x3), some (va_rf p4), none], [.int 1], zhp S2)) rfl ?_
      cases hm
      exact go_end rfl rfl
    · rw [if_neg q2] at hm
      cases hm
  replace hm := zcH_v hm
  refine go_call (m' := 132) (as := [.ref a1, .int x2, .int x3]) (rest := [.int 0, va_rf p4]) (v := some (.int v2)) (h1 := zhp S2) rfl (by simp only [ie_step, ie_iv, List.drop, zhp_obj (S := S) b1 (by decide)]; cases p4 <;> rfl) ⟨rfl, Nat.le_of_ble_eq_true rfl⟩ k2 ?_
  refine go_run 0 (F' := (8, [some (.ref a1), some (.int x2), some (.int x3), some (va_rf p4), none], [.int v2, .int 0, va_rf p4], zhp S2)) rfl ?_
  refine go_run 1 (F' := (9, [some (.ref a1), some (.int x2), some (.int x3), some (va_rf p4), none], [.long (Int32.toInt64 v2), .int 0, va_rf p4], zhp S2)) rfl ?_
  replace hm := zob_inv hm
  obtain ⟨a3, rfl, hm⟩ := hm
  replace hm := zgd hm
  obtain ⟨b3, hm⟩ := hm
  replace hm := zgd hm
  obtain ⟨b4, hm⟩ := hm
  refine go_hlast rfl b3 b4 ?_
  refine go_run 2 (F' := (18, [some (.ref a1), some (.int x2), some (.int x3), some (.ref a3), none], [.int 0], zhp (szAL S2 a3 (vp_updL (zAL S2 a3) 0 (Int32.toInt64 v2))))) rfl ?_
  cases hm
  exact go_end rfl rfl
theorem ehyL_wanted {S : hS} {p1 : Option Nat} {x2 : Int32} {x3 : Int32} {p4 : Option Nat} {S' : hS} {r : Int32} (hm : yL_wanted S p1 x2 x3 p4 = some (S', r)) : Ex S S' := by
  unfold yL_wanted at hm
  have hx : Ex S S := Ex_r
  replace hm := zob_inv hm
  obtain ⟨a1, rfl, hm⟩ := hm
  replace hm := zgd hm
  obtain ⟨b1, hm⟩ := hm
  replace hm := zcH_inv hm
  obtain ⟨S2, w2, e2, hm⟩ := hm
  have hx := Ex_t (T := S) hx (ehy_wanted e2)
  rcases w2 with c2 | v2
  · replace hm := zcH_t hm
    by_cases q2 : c2 = 14
    · rw [if_pos q2] at hm
      subst q2
      cases hm
      exact hx
    · rw [if_neg q2] at hm
      cases hm
  replace hm := zcH_v hm
  replace hm := zob_inv hm
  obtain ⟨a3, rfl, hm⟩ := hm
  replace hm := zgd hm
  obtain ⟨b3, hm⟩ := hm
  replace hm := zgd hm
  obtain ⟨b4, hm⟩ := hm
  cases hm
  exact hx
