def yS_settle_9 (rc : hS → Option Nat → Option Nat → Int32 → Option (hS)) : Nat → hS → Option Nat → Int32 → Option Nat → Option (hS)
  | 0, _, _, _, _ => none
  | n + 1, S, p1, l2, p3 => (zoc p3 (some S) fun a1 => (if ztg S a1 = 10 then (zlb (zR S 9 a1) fun o2 => (zoc o2 (zlb (zR S 7 a1) fun o4 => (if zI S 1 a1 = 7 then (zcV (rc (szR S 10 a1 p1) o4 (some a1) (l2 + 1)) fun S5 => (if ztg S5 a1 = 10 then (zlb (zR S5 8 a1) fun o6 => (zlb (zR S5 10 a1) fun o7 => (zcV (rc S5 o6 o7 (l2 + 1)) fun S8 => (if ztg S8 a1 = 10 then (zlb (zR S8 9 a1) fun o9 => (yS_settle_9 rc n S8 p1 l2 o9)) else none)))) else none)) else (zcV (rc (szR S 10 a1 p1) o4 p1 (l2 + 1)) fun S10 => (if ztg S10 a1 = 10 then (zlb (zR S10 8 a1) fun o11 => (zlb (zR S10 10 a1) fun o12 => (zcV (rc S10 o11 o12 (l2 + 1)) fun S13 => (if ztg S13 a1 = 10 then (zlb (zR S13 9 a1) fun o14 => (yS_settle_9 rc n S13 p1 l2 o14)) else none)))) else none)))) fun a3 => (zlb (zR S 9 a1) fun o15 => (zlb (zR S 7 a1) fun o16 => (if zI S 1 a1 = 7 then (zcV (rc (szR S 10 a1 o15) o16 (some a1) (l2 + 1)) fun S17 => (if ztg S17 a1 = 10 then (zlb (zR S17 8 a1) fun o18 => (zlb (zR S17 10 a1) fun o19 => (zcV (rc S17 o18 o19 (l2 + 1)) fun S20 => (if ztg S20 a1 = 10 then (zlb (zR S20 9 a1) fun o21 => (yS_settle_9 rc n S20 p1 l2 o21)) else none)))) else none)) else (zcV (rc (szR S 10 a1 o15) o16 o15 (l2 + 1)) fun S22 => (if ztg S22 a1 = 10 then (zlb (zR S22 8 a1) fun o23 => (zlb (zR S22 10 a1) fun o24 => (zcV (rc S22 o23 o24 (l2 + 1)) fun S25 => (if ztg S25 a1 = 10 then (zlb (zR S25 9 a1) fun o26 => (yS_settle_9 rc n S25 p1 l2 o26)) else none)))) else none))))))) else none))
theorem hyS_settle_9 {X : ie_X} {e : Nat} {rc : hS → Option Nat → Option Nat → Int32 → Option (hS)} (hrc : ∀ {S : hS} {z1 : Option Nat} {z2 : Option Nat} {z3 : Int32} {S' : hS}, rc S z1 z2 z3 = some S' → Go X (e + 0) 63 (0, ie_en 63 [va_rf z1, va_rf z2, .int z3], [], zhp S) (.inl none) (zhp S')) : ∀ (n : Nat) {S : hS} {p1 : Option Nat} {l2 : Int32} {p3 : Option Nat} {u0 : Option Value} {S' : hS}, yS_settle_9 rc n S p1 l2 p3 = some S' → Go X (e + 1) 63 (9, [u0, some (va_rf p1), some (.int l2), some (va_rf p3)], [], zhp S) (.inl none) (zhp S') := by
  intro n
  induction n with
  | zero => intro S p1 l2 p3 u0 S'  hm; cases hm
  | succ n ih =>
    intro S p1 l2 p3 u0 S'  hm
    unfold yS_settle_9 at hm
    refine go_run 0 (F' := (9, [u0, some (va_rf p1), some (.int l2), some (va_rf p3)], [], zhp S)) rfl ?_
    refine go_run 0 (F' := (9, [u0, some (va_rf p1), some (.int l2), some (va_rf p3)], [], zhp S)) rfl ?_
    refine go_al rfl rfl ?_
    refine go_run 0 (F' := (10, [u0, some (va_rf p1), some (.int l2), some (va_rf p3)], [va_rf p3], zhp S)) rfl ?_
    cases p3 with
    | none =>
      replace hm := zoc_n hm
      refine go_step rfl rfl ?_
      refine go_run 0 (F' := (81, [u0, some (va_rf p1), some (.int l2), some (.null)], [], zhp S)) rfl ?_
      refine go_run 0 (F' := (81, [u0, some (va_rf p1), some (.int l2), some (.null)], [], zhp S)) rfl ?_
      cases hm
      exact go_end rfl rfl
    | some a1 =>
      replace hm := zoc_s hm
      refine go_step rfl rfl ?_
      refine go_run 0 (F' := (13, [u0, some (va_rf p1), some (.int l2), some (.ref a1)], [], zhp S)) rfl ?_
      refine go_run 2 (F' := (15, [u0, some (va_rf p1), some (.int l2), some (.ref a1)], [.ref a1, .ref a1], zhp S)) rfl ?_
      replace hm := zgd hm
      obtain ⟨b1, hm⟩ := hm
      replace hm := zlb_inv hm
      obtain ⟨o2, eo2, hm⟩ := hm
      refine go_hg (v := va_rf o2) rfl b1 (by decide) (by rw [← eo2]; rfl) ?_
      refine go_run 0 (F' := (18, [u0, some (va_rf p1), some (.int l2), some (.ref a1)], [va_rf o2, .ref a1], zhp S)) rfl ?_
      cases o2 with
      | none =>
        replace hm := zoc_n hm
        refine go_step rfl rfl ?_
        refine go_run 0 (F' := (21, [u0, some (va_rf p1), some (.int l2), some (.ref a1)], [.ref a1], zhp S)) rfl ?_
        refine go_run 0 (F' := (21, [u0, some (va_rf p1), some (.int l2), some (.ref a1)], [.ref a1], zhp S)) rfl ?_
        refine go_al rfl rfl ?_
        refine go_run 1 (F' := (29, [u0, some (va_rf p1), some (.int l2), some (.ref a1)], [va_rf p1, .ref a1], zhp S)) rfl ?_
        refine go_hpR (v := p1) rfl b1 (by decide) (by cases p1 <;> rfl) (Nat.le_of_ble_eq_true rfl) fs_9_10 ?_
        refine go_run 1 (F' := (33, [u0, some (va_rf p1), some (.int l2), some (.ref a1)], [.ref a1], zhp (szR S 10 a1 p1))) rfl ?_
        replace hm := zlb_inv hm
        obtain ⟨o4, eo4, hm⟩ := hm
        refine go_hg (v := va_rf o4) rfl b1 (by decide) (by rw [← eo4]; rfl) ?_
        refine go_run 1 (F' := (37, [u0, some (va_rf p1), some (.int l2), some (.ref a1)], [.ref a1, va_rf o4], zhp (szR S 10 a1 p1))) rfl ?_
        refine go_hg (v := .int (zI S 1 a1)) rfl b1 (by decide) rfl ?_
        refine go_run 1 (F' := (42, [u0, some (va_rf p1), some (.int l2), some (.ref a1)], [.int 7, .int (zI S 1 a1), va_rf o4], zhp (szR S 10 a1 p1))) rfl ?_
        refine go_step rfl rfl ?_
        by_cases q2 : zI S 1 a1 = 7
        · rw [if_pos q2] at hm ⊢
          refine go_run 0 (F' := (45, [u0, some (va_rf p1), some (.int l2), some (.ref a1)], [va_rf o4], zhp (szR S 10 a1 p1))) rfl ?_
          refine go_run 5 (F' := (56, [u0, some (va_rf p1), some (.int l2), some (.ref a1)], [.int (l2 + 1), .ref a1, va_rf o4], zhp (szR S 10 a1 p1))) rfl ?_
          replace hm := zcV_inv hm
          obtain ⟨S5, e5, hm⟩ := hm
          have k5 := hrc e5
          refine go_call (m' := 63) (as := [va_rf o4, .ref a1, .int (l2 + 1)]) (rest := []) (v := none) (h1 := zhp S5) rfl rfl ⟨by cases o4 <;> rfl, by cases o4 <;> exact Nat.le_of_ble_eq_true rfl⟩ k5 ?_
          refine go_run 0 (F' := (59, [u0, some (va_rf p1), some (.int l2), some (.ref a1)], [], zhp S5)) rfl ?_
          refine go_run 1 (F' := (60, [u0, some (va_rf p1), some (.int l2), some (.ref a1)], [.ref a1], zhp S5)) rfl ?_
          replace hm := zgd hm
          obtain ⟨b3, hm⟩ := hm
          replace hm := zlb_inv hm
          obtain ⟨o6, eo6, hm⟩ := hm
          refine go_hg (v := va_rf o6) rfl b3 (by decide) (by rw [← eo6]; rfl) ?_
          refine go_run 1 (F' := (64, [u0, some (va_rf p1), some (.int l2), some (.ref a1)], [.ref a1, va_rf o6], zhp S5)) rfl ?_
          replace hm := zlb_inv hm
          obtain ⟨o7, eo7, hm⟩ := hm
          refine go_hg (v := va_rf o7) rfl b3 (by decide) (by rw [← eo7]; rfl) ?_
          refine go_run 3 (F' := (70, [u0, some (va_rf p1), some (.int l2), some (.ref a1)], [.int (l2 + 1), va_rf o7, va_rf o6], zhp S5)) rfl ?_
          replace hm := zcV_inv hm
          obtain ⟨S8, e8, hm⟩ := hm
          have k8 := hrc e8
          refine go_call (m' := 63) (as := [va_rf o6, va_rf o7, .int (l2 + 1)]) (rest := []) (v := none) (h1 := zhp S8) rfl rfl ⟨by cases o6 <;> cases o7 <;> rfl, by cases o6 <;> cases o7 <;> exact Nat.le_of_ble_eq_true rfl⟩ k8 ?_
          refine go_run 0 (F' := (73, [u0, some (va_rf p1), some (.int l2), some (.ref a1)], [], zhp S8)) rfl ?_
          refine go_run 1 (F' := (74, [u0, some (va_rf p1), some (.int l2), some (.ref a1)], [.ref a1], zhp S8)) rfl ?_
          replace hm := zgd hm
          obtain ⟨b4, hm⟩ := hm
          replace hm := zlb_inv hm
          obtain ⟨o9, eo9, hm⟩ := hm
          refine go_hg (v := va_rf o9) rfl b4 (by decide) (by rw [← eo9]; rfl) ?_
          refine go_run 0 (F' := (77, [u0, some (va_rf p1), some (.int l2), some (.ref a1)], [va_rf o9], zhp S8)) rfl ?_
          refine go_as rfl ?_
          refine go_run 1 (F' := (9, [u0, some (va_rf p1), some (.int l2), some (va_rf o9)], [], zhp S8)) rfl ?_
          exact ih hm
        · rw [if_neg q2] at hm ⊢
          refine go_run 0 (F' := (49, [u0, some (va_rf p1), some (.int l2), some (.ref a1)], [va_rf o4], zhp (szR S 10 a1 p1))) rfl ?_
          refine go_run 1 (F' := (50, [u0, some (va_rf p1), some (.int l2), some (.ref a1)], [.ref a1, va_rf o4], zhp (szR S 10 a1 p1))) rfl ?_
          refine go_hg (v := va_rf p1) rfl b1 (by decide) (congrArg (fun z => some (va_rf z)) (zR_self S 10 a1 p1)) ?_
          refine go_run 3 (F' := (56, [u0, some (va_rf p1), some (.int l2), some (.ref a1)], [.int (l2 + 1), va_rf p1, va_rf o4], zhp (szR S 10 a1 p1))) rfl ?_
          replace hm := zcV_inv hm
          obtain ⟨S10, e10, hm⟩ := hm
          have k10 := hrc e10
          refine go_call (m' := 63) (as := [va_rf o4, va_rf p1, .int (l2 + 1)]) (rest := []) (v := none) (h1 := zhp S10) rfl rfl ⟨by cases o4 <;> cases p1 <;> rfl, by cases o4 <;> cases p1 <;> exact Nat.le_of_ble_eq_true rfl⟩ k10 ?_
          refine go_run 0 (F' := (59, [u0, some (va_rf p1), some (.int l2), some (.ref a1)], [], zhp S10)) rfl ?_
          refine go_run 1 (F' := (60, [u0, some (va_rf p1), some (.int l2), some (.ref a1)], [.ref a1], zhp S10)) rfl ?_
          replace hm := zgd hm
          obtain ⟨b5, hm⟩ := hm
          replace hm := zlb_inv hm
          obtain ⟨o11, eo11, hm⟩ := hm
          refine go_hg (v := va_rf o11) rfl b5 (by decide) (by rw [← eo11]; rfl) ?_
          refine go_run 1 (F' := (64, [u0, some (va_rf p1), some (.int l2), some (.ref a1)], [.ref a1, va_rf o11], zhp S10)) rfl ?_
          replace hm := zlb_inv hm
          obtain ⟨o12, eo12, hm⟩ := hm
          refine go_hg (v := va_rf o12) rfl b5 (by decide) (by rw [← eo12]; rfl) ?_
          refine go_run 3 (F' := (70, [u0, some (va_rf p1), some (.int l2), some (.ref a1)], [.int (l2 + 1), va_rf o12, va_rf o11], zhp S10)) rfl ?_
          replace hm := zcV_inv hm
          obtain ⟨S13, e13, hm⟩ := hm
          have k13 := hrc e13
          refine go_call (m' := 63) (as := [va_rf o11, va_rf o12, .int (l2 + 1)]) (rest := []) (v := none) (h1 := zhp S13) rfl rfl ⟨by cases o11 <;> cases o12 <;> rfl, by cases o11 <;> cases o12 <;> exact Nat.le_of_ble_eq_true rfl⟩ k13 ?_
          refine go_run 0 (F' := (73, [u0, some (va_rf p1), some (.int l2), some (.ref a1)], [], zhp S13)) rfl ?_
          refine go_run 1 (F' := (74, [u0, some (va_rf p1), some (.int l2), some (.ref a1)], [.ref a1], zhp S13)) rfl ?_
          replace hm := zgd hm
          obtain ⟨b6, hm⟩ := hm
          replace hm := zlb_inv hm
          obtain ⟨o14, eo14, hm⟩ := hm
          refine go_hg (v := va_rf o14) rfl b6 (by decide) (by rw [← eo14]; rfl) ?_
          refine go_run 0 (F' := (77, [u0, some (va_rf p1), some (.int l2), some (.ref a1)], [va_rf o14], zhp S13)) rfl ?_
          refine go_as rfl ?_
          refine go_run 1 (F' := (9, [u0, some (va_rf p1), some (.int l2), some (va_rf o14)], [], zhp S13)) rfl ?_
          exact ih hm
      | some a3 =>
        replace hm := zoc_s hm
        refine go_step rfl rfl ?_
        refine go_run 0 (F' := (25, [u0, some (va_rf p1), some (.int l2), some (.ref a1)], [.ref a1], zhp S)) rfl ?_
        refine go_run 1 (F' := (26, [u0, some (va_rf p1), some (.int l2), some (.ref a1)], [.ref a1, .ref a1], zhp S)) rfl ?_
        replace hm := zlb_inv hm
        obtain ⟨o15, eo15, hm⟩ := hm
        refine go_hg (v := va_rf o15) rfl b1 (by decide) (by rw [← eo15]; rfl) ?_
        refine go_run 0 (F' := (29, [u0, some (va_rf p1), some (.int l2), some (.ref a1)], [va_rf o15, .ref a1], zhp S)) rfl ?_
        refine go_hpR (v := o15) rfl b1 (by decide) (by cases o15 <;> rfl) (Nat.le_of_ble_eq_true rfl) fs_9_10 ?_
        refine go_run 1 (F' := (33, [u0, some (va_rf p1), some (.int l2), some (.ref a1)], [.ref a1], zhp (szR S 10 a1 o15))) rfl ?_
        replace hm := zlb_inv hm
        obtain ⟨o16, eo16, hm⟩ := hm
        refine go_hg (v := va_rf o16) rfl b1 (by decide) (by rw [← eo16]; rfl) ?_
        refine go_run 1 (F' := (37, [u0, some (va_rf p1), some (.int l2), some (.ref a1)], [.ref a1, va_rf o16], zhp (szR S 10 a1 o15))) rfl ?_
        refine go_hg (v := .int (zI S 1 a1)) rfl b1 (by decide) rfl ?_
        refine go_run 1 (F' := (42, [u0, some (va_rf p1), some (.int l2), some (.ref a1)], [.int 7, .int (zI S 1 a1), va_rf o16], zhp (szR S 10 a1 o15))) rfl ?_
        refine go_step rfl rfl ?_
        by_cases q7 : zI S 1 a1 = 7
        · rw [if_pos q7] at hm ⊢
          refine go_run 0 (F' := (45, [u0, some (va_rf p1), some (.int l2), some (.ref a1)], [va_rf o16], zhp (szR S 10 a1 o15))) rfl ?_
          refine go_run 5 (F' := (56, [u0, some (va_rf p1), some (.int l2), some (.ref a1)], [.int (l2 + 1), .ref a1, va_rf o16], zhp (szR S 10 a1 o15))) rfl ?_
          replace hm := zcV_inv hm
          obtain ⟨S17, e17, hm⟩ := hm
          have k17 := hrc e17
          refine go_call (m' := 63) (as := [va_rf o16, .ref a1, .int (l2 + 1)]) (rest := []) (v := none) (h1 := zhp S17) rfl rfl ⟨by cases o16 <;> rfl, by cases o16 <;> exact Nat.le_of_ble_eq_true rfl⟩ k17 ?_
          refine go_run 0 (F' := (59, [u0, some (va_rf p1), some (.int l2), some (.ref a1)], [], zhp S17)) rfl ?_
          refine go_run 1 (F' := (60, [u0, some (va_rf p1), some (.int l2), some (.ref a1)], [.ref a1], zhp S17)) rfl ?_
          replace hm := zgd hm
          obtain ⟨b8, hm⟩ := hm
          replace hm := zlb_inv hm
          obtain ⟨o18, eo18, hm⟩ := hm
          refine go_hg (v := va_rf o18) rfl b8 (by decide) (by rw [← eo18]; rfl) ?_
          refine go_run 1 (F' := (64, [u0, some (va_rf p1), some (.int l2), some (.ref a1)], [.ref a1, va_rf o18], zhp S17)) rfl ?_
          replace hm := zlb_inv hm
          obtain ⟨o19, eo19, hm⟩ := hm
          refine go_hg (v := va_rf o19) rfl b8 (by decide) (by rw [← eo19]; rfl) ?_
          refine go_run 3 (F' := (70, [u0, some (va_rf p1), some (.int l2), some (.ref a1)], [.int (l2 + 1), va_rf o19, va_rf o18], zhp S17)) rfl ?_
          replace hm := zcV_inv hm
          obtain ⟨S20, e20, hm⟩ := hm
          have k20 := hrc e20
          refine go_call (m' := 63) (as := [va_rf o18, va_rf o19, .int (l2 + 1)]) (rest := []) (v := none) (h1 := zhp S20) rfl rfl ⟨by cases o18 <;> cases o19 <;> rfl, by cases o18 <;> cases o19 <;> exact Nat.le_of_ble_eq_true rfl⟩ k20 ?_
          refine go_run 0 (F' := (73, [u0, some (va_rf p1), some (.int l2), some (.ref a1)], [], zhp S20)) rfl ?_
          refine go_run 1 (F' := (74, [u0, some (va_rf p1), some (.int l2), some (.ref a1)], [.ref a1], zhp S20)) rfl ?_
          replace hm := zgd hm
          obtain ⟨b9, hm⟩ := hm
          replace hm := zlb_inv hm
          obtain ⟨o21, eo21, hm⟩ := hm
          refine go_hg (v := va_rf o21) rfl b9 (by decide) (by rw [← eo21]; rfl) ?_
          refine go_run 0 (F' := (77, [u0, some (va_rf p1), some (.int l2), some (.ref a1)], [va_rf o21], zhp S20)) rfl ?_
          refine go_as rfl ?_
          refine go_run 1 (F' := (9, [u0, some (va_rf p1), some (.int l2), some (va_rf o21)], [], zhp S20)) rfl ?_
          exact ih hm
        · rw [if_neg q7] at hm ⊢
          refine go_run 0 (F' := (49, [u0, some (va_rf p1), some (.int l2), some (.ref a1)], [va_rf o16], zhp (szR S 10 a1 o15))) rfl ?_
          refine go_run 1 (F' := (50, [u0, some (va_rf p1), some (.int l2), some (.ref a1)], [.ref a1, va_rf o16], zhp (szR S 10 a1 o15))) rfl ?_
          refine go_hg (v := va_rf o15) rfl b1 (by decide) (congrArg (fun z => some (va_rf z)) (zR_self S 10 a1 o15)) ?_
          refine go_run 3 (F' := (56, [u0, some (va_rf p1), some (.int l2), some (.ref a1)], [.int (l2 + 1), va_rf o15, va_rf o16], zhp (szR S 10 a1 o15))) rfl ?_
          replace hm := zcV_inv hm
          obtain ⟨S22, e22, hm⟩ := hm
          have k22 := hrc e22
          refine go_call (m' := 63) (as := [va_rf o16, va_rf o15, .int (l2 + 1)]) (rest := []) (v := none) (h1 := zhp S22) rfl rfl ⟨by cases o15 <;> cases o16 <;> rfl, by cases o15 <;> cases o16 <;> exact Nat.le_of_ble_eq_true rfl⟩ k22 ?_
          refine go_run 0 (F' := (59, [u0, some (va_rf p1), some (.int l2), some (.ref a1)], [], zhp S22)) rfl ?_
          refine go_run 1 (F' := (60, [u0, some (va_rf p1), some (.int l2), some (.ref a1)], [.ref a1], zhp S22)) rfl ?_
          replace hm := zgd hm
          obtain ⟨b10, hm⟩ := hm
          replace hm := zlb_inv hm
          obtain ⟨o23, eo23, hm⟩ := hm
          refine go_hg (v := va_rf o23) rfl b10 (by decide) (by rw [← eo23]; rfl) ?_
          refine go_run 1 (F' := (64, [u0, some (va_rf p1), some (.int l2), some (.ref a1)], [.ref a1, va_rf o23], zhp S22)) rfl ?_
          replace hm := zlb_inv hm
          obtain ⟨o24, eo24, hm⟩ := hm
          refine go_hg (v := va_rf o24) rfl b10 (by decide) (by rw [← eo24]; rfl) ?_
          refine go_run 3 (F' := (70, [u0, some (va_rf p1), some (.int l2), some (.ref a1)], [.int (l2 + 1), va_rf o24, va_rf o23], zhp S22)) rfl ?_
          replace hm := zcV_inv hm
          obtain ⟨S25, e25, hm⟩ := hm
          have k25 := hrc e25
          refine go_call (m' := 63) (as := [va_rf o23, va_rf o24, .int (l2 + 1)]) (rest := []) (v := none) (h1 := zhp S25) rfl rfl ⟨by cases o23 <;> cases o24 <;> rfl, by cases o23 <;> cases o24 <;> exact Nat.le_of_ble_eq_true rfl⟩ k25 ?_
          refine go_run 0 (F' := (73, [u0, some (va_rf p1), some (.int l2), some (.ref a1)], [], zhp S25)) rfl ?_
          refine go_run 1 (F' := (74, [u0, some (va_rf p1), some (.int l2), some (.ref a1)], [.ref a1], zhp S25)) rfl ?_
          replace hm := zgd hm
          obtain ⟨b11, hm⟩ := hm
          replace hm := zlb_inv hm
          obtain ⟨o26, eo26, hm⟩ := hm
          refine go_hg (v := va_rf o26) rfl b11 (by decide) (by rw [← eo26]; rfl) ?_
          refine go_run 0 (F' := (77, [u0, some (va_rf p1), some (.int l2), some (.ref a1)], [va_rf o26], zhp S25)) rfl ?_
          refine go_as rfl ?_
          refine go_run 1 (F' := (9, [u0, some (va_rf p1), some (.int l2), some (va_rf o26)], [], zhp S25)) rfl ?_
          exact ih hm
theorem ehyS_settle_9 {rc : hS → Option Nat → Option Nat → Int32 → Option (hS)} (hrc : ∀ {S : hS} {z1 : Option Nat} {z2 : Option Nat} {z3 : Int32} {S' : hS}, rc S z1 z2 z3 = some S' → Ex S S') : ∀ (n : Nat) {S : hS} {p1 : Option Nat} {l2 : Int32} {p3 : Option Nat} {S' : hS}, yS_settle_9 rc n S p1 l2 p3 = some S' → Ex S S' := by
  intro n
  induction n with
  | zero => intro S p1 l2 p3 S'  hm; cases hm
  | succ n ih =>
    intro S p1 l2 p3 S'  hm
    unfold yS_settle_9 at hm
    have hx : Ex S S := Ex_r
    cases p3 with
    | none =>
      replace hm := zoc_n hm
      cases hm
      exact hx
    | some a1 =>
      replace hm := zoc_s hm
      replace hm := zgd hm
      obtain ⟨b1, hm⟩ := hm
      replace hm := zlb_inv hm
      obtain ⟨o2, eo2, hm⟩ := hm
      cases o2 with
      | none =>
        replace hm := zoc_n hm
        replace hm := zlb_inv hm
        obtain ⟨o4, eo4, hm⟩ := hm
        by_cases q2 : zI S 1 a1 = 7
        · rw [if_pos q2] at hm
          replace hm := zcV_inv hm
          obtain ⟨S5, e5, hm⟩ := hm
          have hx := Ex_t (T := szR S 10 a1 p1) hx (hrc e5)
          replace hm := zgd hm
          obtain ⟨b3, hm⟩ := hm
          replace hm := zlb_inv hm
          obtain ⟨o6, eo6, hm⟩ := hm
          replace hm := zlb_inv hm
          obtain ⟨o7, eo7, hm⟩ := hm
          replace hm := zcV_inv hm
          obtain ⟨S8, e8, hm⟩ := hm
          have hx := Ex_t (T := S5) hx (hrc e8)
          replace hm := zgd hm
          obtain ⟨b4, hm⟩ := hm
          replace hm := zlb_inv hm
          obtain ⟨o9, eo9, hm⟩ := hm
          refine Ex_t ?_ (ih hm)
          exact hx
        · rw [if_neg q2] at hm
          replace hm := zcV_inv hm
          obtain ⟨S10, e10, hm⟩ := hm
          have hx := Ex_t (T := szR S 10 a1 p1) hx (hrc e10)
          replace hm := zgd hm
          obtain ⟨b5, hm⟩ := hm
          replace hm := zlb_inv hm
          obtain ⟨o11, eo11, hm⟩ := hm
          replace hm := zlb_inv hm
          obtain ⟨o12, eo12, hm⟩ := hm
          replace hm := zcV_inv hm
          obtain ⟨S13, e13, hm⟩ := hm
          have hx := Ex_t (T := S10) hx (hrc e13)
          replace hm := zgd hm
          obtain ⟨b6, hm⟩ := hm
          replace hm := zlb_inv hm
          obtain ⟨o14, eo14, hm⟩ := hm
          refine Ex_t ?_ (ih hm)
          exact hx
      | some a3 =>
        replace hm := zoc_s hm
        replace hm := zlb_inv hm
        obtain ⟨o15, eo15, hm⟩ := hm
        replace hm := zlb_inv hm
        obtain ⟨o16, eo16, hm⟩ := hm
        by_cases q7 : zI S 1 a1 = 7
        · rw [if_pos q7] at hm
          replace hm := zcV_inv hm
          obtain ⟨S17, e17, hm⟩ := hm
          have hx := Ex_t (T := szR S 10 a1 o15) hx (hrc e17)
          replace hm := zgd hm
          obtain ⟨b8, hm⟩ := hm
          replace hm := zlb_inv hm
          obtain ⟨o18, eo18, hm⟩ := hm
          replace hm := zlb_inv hm
          obtain ⟨o19, eo19, hm⟩ := hm
          replace hm := zcV_inv hm
          obtain ⟨S20, e20, hm⟩ := hm
          have hx := Ex_t (T := S17) hx (hrc e20)
          replace hm := zgd hm
          obtain ⟨b9, hm⟩ := hm
          replace hm := zlb_inv hm
          obtain ⟨o21, eo21, hm⟩ := hm
          refine Ex_t ?_ (ih hm)
          exact hx
        · rw [if_neg q7] at hm
          replace hm := zcV_inv hm
          obtain ⟨S22, e22, hm⟩ := hm
          have hx := Ex_t (T := szR S 10 a1 o15) hx (hrc e22)
          replace hm := zgd hm
          obtain ⟨b10, hm⟩ := hm
          replace hm := zlb_inv hm
          obtain ⟨o23, eo23, hm⟩ := hm
          replace hm := zlb_inv hm
          obtain ⟨o24, eo24, hm⟩ := hm
          replace hm := zcV_inv hm
          obtain ⟨S25, e25, hm⟩ := hm
          have hx := Ex_t (T := S22) hx (hrc e25)
          replace hm := zgd hm
          obtain ⟨b11, hm⟩ := hm
          replace hm := zlb_inv hm
          obtain ⟨o26, eo26, hm⟩ := hm
          refine Ex_t ?_ (ih hm)
          exact hx
def yS_settle (n : Nat) : Nat → hS → Option Nat → Option Nat → Int32 → Option (hS)
  | 0, _, _, _, _ => none
  | r + 1, S, p1, p2, x3 => (if x3 ≤ 6 then (yS_settle_9 (yS_settle n r) n S p2 x3 p1) else (some S))
theorem hyS_settle {X : ie_X} {d : Nat} {n : Nat} : ∀ (r : Nat) {S : hS} {p1 : Option Nat} {p2 : Option Nat} {x3 : Int32} {S' : hS}, yS_settle n r S p1 p2 x3 = some S' → Go X (d + 1 * r + 0) 63 (0, ie_en 63 [va_rf p1, va_rf p2, .int x3], [], zhp S) (.inl none) (zhp S') := by
  intro r
  induction r with
  | zero => intro S p1 p2 x3 S'  hm; cases hm
  | succ r ih =>
    intro S p1 p2 x3 S'  hm
    rw [show d + 1 * (r + 1) + 0 = (d + 1 * r) + 1 by omega]
    unfold yS_settle at hm
    refine go_run 0 (F' := (0, [some (va_rf p1), some (va_rf p2), some (.int x3), none], [], zhp S)) (by cases p1 <;> cases p2 <;> rfl) ?_
    refine go_run 2 (F' := (3, [some (va_rf p1), some (va_rf p2), some (.int x3), none], [.int 6, .int x3], zhp S)) rfl ?_
    refine go_step rfl rfl ?_
    by_cases q1 : x3 ≤ 6
    · rw [if_pos q1] at hm ⊢
      refine go_run 0 (F' := (7, [some (va_rf p1), some (va_rf p2), some (.int x3), none], [], zhp S)) rfl ?_
      refine go_run 0 (F' := (7, [some (va_rf p1), some (va_rf p2), some (.int x3), none], [], zhp S)) rfl ?_
      refine go_al rfl rfl ?_
      refine go_run 0 (F' := (8, [some (va_rf p1), some (va_rf p2), some (.int x3), none], [va_rf p1], zhp S)) rfl ?_
      refine go_as rfl ?_
      refine go_run 0 (F' := (9, [some (va_rf p1), some (va_rf p2), some (.int x3), some (va_rf p1)], [], zhp S)) rfl ?_
      exact hyS_settle_9 ih n hm
    · rw [if_neg q1] at hm ⊢
      refine go_run 0 (F' := (6, [some (va_rf p1), some (va_rf p2), some (.int x3), none], [], zhp S)) rfl ?_
      refine go_run 0 (F' := (6, [some (va_rf p1), some (va_rf p2), some (.int x3), none], [], zhp S)) rfl ?_
      cases hm
      exact go_end rfl rfl
theorem ehyS_settle {n : Nat} : ∀ (r : Nat) {S : hS} {p1 : Option Nat} {p2 : Option Nat} {x3 : Int32} {S' : hS}, yS_settle n r S p1 p2 x3 = some S' → Ex S S' := by
  intro r
  induction r with
  | zero => intro S p1 p2 x3 S'  hm; cases hm
  | succ r ih =>
    intro S p1 p2 x3 S'  hm
    unfold yS_settle at hm
    have hx : Ex S S := Ex_r
    by_cases q1 : x3 ≤ 6
    · rw [if_pos q1] at hm
      refine Ex_t ?_ (ehyS_settle_9 ih n hm)
      exact hx
    · rw [if_neg q1] at hm
      cases hm
      exact hx
theorem hyS_settle_o {X : ie_X} {d n : Nat} {S : hS} {p1 : Option Nat} {p2 : Option Nat} {x3 : Int32} {S' : hS} (hm : yS_settle n 9 S p1 p2 x3 = some S') : Go X (d + 9) 63 (0, ie_en 63 [va_rf p1, va_rf p2, .int x3], [], zhp S) (.inl none) (zhp S') := hyS_settle (X := X) (d := d) 9 hm
theorem ehyS_settle_o {n : Nat} {S : hS} {p1 : Option Nat} {p2 : Option Nat} {x3 : Int32} {S' : hS} (hm : yS_settle n 9 S p1 p2 x3 = some S') : Ex S S' := ehyS_settle 9 hm
def yA_comesAgain (S : hS) (th : Nat) : Option (hS × Int32) := (if ztg S th = 2 then (if zI S 0 th = 7 then (some (S, 1)) else (if zI S 0 th = 8 then (some (S, 1)) else (some (S, 0)))) else none)
theorem hyA_comesAgain {X : ie_X} {d th : Nat} {S : hS} {S' : hS} {r : Int32} (hm : yA_comesAgain S th = some (S', r)) : Go X (d + 0) 66 (0, ie_en 66 [.ref th], [], zhp S) (.inl (some (.int r))) (zhp S') := by
  unfold yA_comesAgain at hm
  refine go_run 0 (F' := (0, [some (.ref th)], [], zhp S)) rfl ?_
  refine go_run 1 (F' := (1, [some (.ref th)], [.ref th], zhp S)) rfl ?_
  replace hm := zgd hm
  obtain ⟨b1, hm⟩ := hm
  refine go_hg (v := .int (zI S 0 th)) rfl b1 (by decide) rfl ?_
  refine go_run 1 (F' := (6, [some (.ref th)], [.int 7, .int (zI S 0 th)], zhp S)) rfl ?_
  refine go_step rfl rfl ?_
  by_cases q2 : zI S 0 th = 7
  · rw [if_pos q2] at hm ⊢
    refine go_run 0 (F' := (18, [some (.ref th)], [], zhp S)) rfl ?_
    refine go_run 2 (F' := (23, [some (.ref th)], [.int 1], zhp S)) rfl ?_
    cases hm
    exact go_end rfl rfl
  · rw [if_neg q2] at hm ⊢
    refine go_run 0 (F' := (9, [some (.ref th)], [], zhp S)) rfl ?_
    refine go_run 1 (F' := (10, [some (.ref th)], [.ref th], zhp S)) rfl ?_
    refine go_hg (v := .int (zI S 0 th)) rfl b1 (by decide) rfl ?_
    refine go_run 1 (F' := (15, [some (.ref th)], [.int 8, .int (zI S 0 th)], zhp S)) rfl ?_
    refine go_step rfl rfl ?_
    by_cases q3 : zI S 0 th = 8
    · rw [if_pos q3] at hm ⊢
      refine go_run 0 (F' := (18, [some (.ref th)], [], zhp S)) rfl ?_
      refine go_run 2 (F' := (23, [some (.ref th)], [.int 1], zhp S)) rfl ?_
      cases hm
      exact go_end rfl rfl
    · rw [if_neg q3] at hm ⊢
      refine go_run 0 (F' := (22, [some (.ref th)], [], zhp S)) rfl ?_
      refine go_run 1 (F' := (23, [some (.ref th)], [.int 0], zhp S)) rfl ?_
      cases hm
      exact go_end rfl rfl
theorem ehyA_comesAgain {th : Nat} {S : hS} {S' : hS} {r : Int32} (hm : yA_comesAgain S th = some (S', r)) : Ex S S' := by
  unfold yA_comesAgain at hm
  have hx : Ex S S := Ex_r
  replace hm := zgd hm
  obtain ⟨b1, hm⟩ := hm
  by_cases q2 : zI S 0 th = 7
  · rw [if_pos q2] at hm
    cases hm
    exact hx
  · rw [if_neg q2] at hm
    by_cases q3 : zI S 0 th = 8
    · rw [if_pos q3] at hm
      cases hm
      exact hx
    · rw [if_neg q3] at hm
      cases hm
      exact hx
def yA_settle_35 (rc : hS → Option Nat → Option Nat → Int32 → Option (hS)) (rec9 : hS → Option Nat → Int32 → Option Nat → Option (hS)) : Nat → hS → Option Nat → Int32 → Option Nat → Int32 → Option (hS)
  | 0, _, _, _, _, _ => none
  | n + 1, S, p1, l2, p3, l4 => (zob p3 fun a1 => (if ztg S a1 = 2 then (zlb (zR S 6 a1) fun o2 => (zob o2 fun a3 => (if zal S a3 then (if Int32.ofNat (zLen S a3) ≤ l4 then (zlb (zR S 8 a1) fun o4 => (rec9 S p1 l2 o4)) else (zlb (zR S 6 a1) fun o5 => (zob o5 fun a6 => (if zar S a6 then (if ib l4 (zLen S a6) then (zlb ((zAR S a6) (Int32.toNatClampNeg l4)) fun o7 => (zcP (yA_comesAgain S a1) fun S8 v8 => (if v8 = 0 then (if ztg S8 a1 = 2 then (zlb (zR S8 9 a1) fun o9 => (zcV (rc S8 o7 o9 (l2 + 1)) fun S10 => (yA_settle_35 rc rec9 n S10 p1 l2 (some a1) (l4 + 1)))) else none) else (zcV (rc S8 o7 (some a1) (l2 + 1)) fun S11 => (yA_settle_35 rc rec9 n S11 p1 l2 (some a1) (l4 + 1)))))) else none) else none)))) else none))) else none))
theorem hyA_settle_35 {X : ie_X} {e : Nat} {rc : hS → Option Nat → Option Nat → Int32 → Option (hS)} {rec9 : hS → Option Nat → Int32 → Option Nat → Option (hS)} (hrc : ∀ {S : hS} {z1 : Option Nat} {z2 : Option Nat} {z3 : Int32} {S' : hS}, rc S z1 z2 z3 = some S' → Go X (e + 0) 65 (0, ie_en 65 [va_rf z1, va_rf z2, .int z3], [], zhp S) (.inl none) (zhp S')) (hr9 : ∀ {J : hS} {m1 : Option Nat} {m2 : Int32} {m3 : Option Nat} {w0 w4 : Option Value} {J' : hS}, rec9 J m1 m2 m3 = some J' → Go X (e + 1) 65 (9, [w0, some (va_rf m1), some (.int m2), some (va_rf m3), w4], [], zhp J) (.inl none) (zhp J')) : ∀ (n : Nat) {S : hS} {p1 : Option Nat} {l2 : Int32} {p3 : Option Nat} {l4 : Int32} {u0 : Option Value} {S' : hS}, yA_settle_35 rc rec9 n S p1 l2 p3 l4 = some S' → Go X (e + 1) 65 (35, [u0, some (va_rf p1), some (.int l2), some (va_rf p3), some (.int l4)], [], zhp S) (.inl none) (zhp S') := by
  intro n
  induction n with
  | zero => intro S p1 l2 p3 l4 u0 S'  hm; cases hm
  | succ n ih =>
    intro S p1 l2 p3 l4 u0 S'  hm
    unfold yA_settle_35 at hm
    refine go_run 0 (F' := (35, [u0, some (va_rf p1), some (.int l2), some (va_rf p3), some (.int l4)], [], zhp S)) rfl ?_
    refine go_run 1 (F' := (37, [u0, some (va_rf p1), some (.int l2), some (va_rf p3), some (.int l4)], [.int l4], zhp S)) rfl ?_
    refine go_al rfl rfl ?_
    refine go_run 0 (F' := (38, [u0, some (va_rf p1), some (.int l2), some (va_rf p3), some (.int l4)], [va_rf p3, .int l4], zhp S)) rfl ?_
    replace hm := zob_inv hm
    obtain ⟨a1, rfl, hm⟩ := hm
    replace hm := zgd hm
    obtain ⟨b1, hm⟩ := hm
    replace hm := zlb_inv hm
    obtain ⟨o2, eo2, hm⟩ := hm
    refine go_hg (v := va_rf o2) rfl b1 (by decide) (by rw [← eo2]; rfl) ?_
    refine go_run 0 (F' := (41, [u0, some (va_rf p1), some (.int l2), some (.ref a1), some (.int l4)], [va_rf o2, .int l4], zhp S)) rfl ?_
    replace hm := zob_inv hm
    obtain ⟨a3, rfl, hm⟩ := hm
    replace hm := zgd hm
    obtain ⟨b2, hm⟩ := hm
    refine go_hlen rfl b2 ?_
    refine go_run 0 (F' := (42, [u0, some (va_rf p1), some (.int l2), some (.ref a1), some (.int l4)], [.int (Int32.ofNat (zLen S a3)), .int l4], zhp S)) rfl ?_
    refine go_step rfl rfl ?_
    by_cases q3 : Int32.ofNat (zLen S a3) ≤ l4
    · rw [if_pos q3] at hm ⊢
      refine go_run 0 (F' := (79, [u0, some (va_rf p1), some (.int l2), some (.ref a1), some (.int l4)], [], zhp S)) rfl ?_
      refine go_run 1 (F' := (80, [u0, some (va_rf p1), some (.int l2), some (.ref a1), some (.int l4)], [.ref a1], zhp S)) rfl ?_
      replace hm := zlb_inv hm
      obtain ⟨o4, eo4, hm⟩ := hm
      refine go_hg (v := va_rf o4) rfl b1 (by decide) (by rw [← eo4]; rfl) ?_
      refine go_run 0 (F' := (83, [u0, some (va_rf p1), some (.int l2), some (.ref a1), some (.int l4)], [va_rf o4], zhp S)) rfl ?_
      refine go_as rfl ?_
      refine go_run 1 (F' := (9, [u0, some (va_rf p1), some (.int l2), some (va_rf o4), some (.int l4)], [], zhp S)) rfl ?_
      exact hr9 hm
    · rw [if_neg q3] at hm ⊢
      refine go_run 0 (F' := (45, [u0, some (va_rf p1), some (.int l2), some (.ref a1), some (.int l4)], [], zhp S)) rfl ?_
      refine go_run 1 (F' := (46, [u0, some (va_rf p1), some (.int l2), some (.ref a1), some (.int l4)], [.ref a1], zhp S)) rfl ?_
      replace hm := zlb_inv hm
      obtain ⟨o5, eo5, hm⟩ := hm
      refine go_hg (v := va_rf o5) rfl b1 (by decide) (by rw [← eo5]; rfl) ?_
      refine go_run 1 (F' := (51, [u0, some (va_rf p1), some (.int l2), some (.ref a1), some (.int l4)], [.int l4, va_rf o5], zhp S)) rfl ?_
      replace hm := zob_inv hm
      obtain ⟨a6, rfl, hm⟩ := hm
      replace hm := zgd hm
      obtain ⟨b4, hm⟩ := hm
      replace hm := zgd hm
      obtain ⟨b5, hm⟩ := hm
      replace hm := zlb_inv hm
      obtain ⟨o7, eo7, hm⟩ := hm
      refine go_haald rfl b4 b5 rfl eo7 ?_
      refine go_run 1 (F' := (53, [u0, some (va_rf p1), some (.int l2), some (.ref a1), some (.int l4)], [.ref a1, va_rf o7], zhp S)) rfl ?_
      replace hm := zcP_inv hm
      obtain ⟨S8, v8, e8, hm⟩ := hm
      have k8 := hyA_comesAgain (X := X) (d := e) e8
      refine go_call (m' := 66) (as := [.ref a1]) (rest := [va_rf o7]) (v := some (.int v8)) (h1 := zhp S8) rfl (by simp only [ie_step, ie_iv, List.drop, zhp_obj (S := S) b1 (by decide)]; cases o7 <;> rfl) ⟨rfl, Nat.le_of_ble_eq_true rfl⟩ k8 ?_
      refine go_run 0 (F' := (56, [u0, some (va_rf p1), some (.int l2), some (.ref a1), some (.int l4)], [.int v8, va_rf o7], zhp S8)) rfl ?_
      refine go_run 0 (F' := (56, [u0, some (va_rf p1), some (.int l2), some (.ref a1), some (.int l4)], [.int v8, va_rf o7], zhp S8)) rfl ?_
      refine go_step rfl rfl ?_
      by_cases q6 : v8 = 0
      · rw [if_pos q6] at hm ⊢
        refine go_run 0 (F' := (63, [u0, some (va_rf p1), some (.int l2), some (.ref a1), some (.int l4)], [va_rf o7], zhp S8)) rfl ?_
        refine go_run 1 (F' := (64, [u0, some (va_rf p1), some (.int l2), some (.ref a1), some (.int l4)], [.ref a1, va_rf o7], zhp S8)) rfl ?_
        replace hm := zgd hm
        obtain ⟨b7, hm⟩ := hm
        replace hm := zlb_inv hm
        obtain ⟨o9, eo9, hm⟩ := hm
        refine go_hg (v := va_rf o9) rfl b7 (by decide) (by rw [← eo9]; rfl) ?_
        refine go_run 3 (F' := (70, [u0, some (va_rf p1), some (.int l2), some (.ref a1), some (.int l4)], [.int (l2 + 1), va_rf o9, va_rf o7], zhp S8)) rfl ?_
        replace hm := zcV_inv hm
        obtain ⟨S10, e10, hm⟩ := hm
        have k10 := hrc e10
        refine go_call (m' := 65) (as := [va_rf o7, va_rf o9, .int (l2 + 1)]) (rest := []) (v := none) (h1 := zhp S10) rfl rfl ⟨by cases o7 <;> cases o9 <;> rfl, by cases o7 <;> cases o9 <;> exact Nat.le_of_ble_eq_true rfl⟩ k10 ?_
        refine go_run 0 (F' := (73, [u0, some (va_rf p1), some (.int l2), some (.ref a1), some (.int l4)], [], zhp S10)) rfl ?_
        refine go_run 2 (F' := (35, [u0, some (va_rf p1), some (.int l2), some (va_rf (some a1)), some (.int (l4 + 1))], [], zhp S10)) rfl ?_
        exact ih hm
      · rw [if_neg q6] at hm ⊢
        refine go_run 0 (F' := (59, [u0, some (va_rf p1), some (.int l2), some (.ref a1), some (.int l4)], [va_rf o7], zhp S8)) rfl ?_
        refine go_run 5 (F' := (70, [u0, some (va_rf p1), some (.int l2), some (.ref a1), some (.int l4)], [.int (l2 + 1), .ref a1, va_rf o7], zhp S8)) rfl ?_
        replace hm := zcV_inv hm
        obtain ⟨S11, e11, hm⟩ := hm
        have k11 := hrc e11
        refine go_call (m' := 65) (as := [va_rf o7, .ref a1, .int (l2 + 1)]) (rest := []) (v := none) (h1 := zhp S11) rfl rfl ⟨by cases o7 <;> rfl, by cases o7 <;> exact Nat.le_of_ble_eq_true rfl⟩ k11 ?_
        refine go_run 0 (F' := (73, [u0, some (va_rf p1), some (.int l2), some (.ref a1), some (.int l4)], [], zhp S11)) rfl ?_
        refine go_run 2 (F' := (35, [u0, some (va_rf p1), some (.int l2), some (va_rf (some a1)), some (.int (l4 + 1))], [], zhp S11)) rfl ?_
        exact ih hm
theorem ehyA_settle_35 {rc : hS → Option Nat → Option Nat → Int32 → Option (hS)} {rec9 : hS → Option Nat → Int32 → Option Nat → Option (hS)} (hrc : ∀ {S : hS} {z1 : Option Nat} {z2 : Option Nat} {z3 : Int32} {S' : hS}, rc S z1 z2 z3 = some S' → Ex S S') (hr9 : ∀ {J : hS} {m1 : Option Nat} {m2 : Int32} {m3 : Option Nat} {J' : hS}, rec9 J m1 m2 m3 = some J' → Ex J J') : ∀ (n : Nat) {S : hS} {p1 : Option Nat} {l2 : Int32} {p3 : Option Nat} {l4 : Int32} {S' : hS}, yA_settle_35 rc rec9 n S p1 l2 p3 l4 = some S' → Ex S S' := by
  intro n
  induction n with
  | zero => intro S p1 l2 p3 l4 S'  hm; cases hm
  | succ n ih =>
    intro S p1 l2 p3 l4 S'  hm
    unfold yA_settle_35 at hm
    have hx : Ex S S := Ex_r
    replace hm := zob_inv hm
    obtain ⟨a1, rfl, hm⟩ := hm
    replace hm := zgd hm
    obtain ⟨b1, hm⟩ := hm
    replace hm := zlb_inv hm
    obtain ⟨o2, eo2, hm⟩ := hm
    replace hm := zob_inv hm
    obtain ⟨a3, rfl, hm⟩ := hm
    replace hm := zgd hm
    obtain ⟨b2, hm⟩ := hm
    by_cases q3 : Int32.ofNat (zLen S a3) ≤ l4
    · rw [if_pos q3] at hm
      replace hm := zlb_inv hm
      obtain ⟨o4, eo4, hm⟩ := hm
      refine Ex_t ?_ (hr9 hm)
      exact hx
    · rw [if_neg q3] at hm
      replace hm := zlb_inv hm
      obtain ⟨o5, eo5, hm⟩ := hm
      replace hm := zob_inv hm
      obtain ⟨a6, rfl, hm⟩ := hm
      replace hm := zgd hm
      obtain ⟨b4, hm⟩ := hm
      replace hm := zgd hm
      obtain ⟨b5, hm⟩ := hm
      replace hm := zlb_inv hm
      obtain ⟨o7, eo7, hm⟩ := hm
      replace hm := zcP_inv hm
      obtain ⟨S8, v8, e8, hm⟩ := hm
      have hx := Ex_t (T := S) hx (ehyA_comesAgain e8)
      by_cases q6 : v8 = 0
      · rw [if_pos q6] at hm
        replace hm := zgd hm
        obtain ⟨b7, hm⟩ := hm
        replace hm := zlb_inv hm
        obtain ⟨o9, eo9, hm⟩ := hm
        replace hm := zcV_inv hm
        obtain ⟨S10, e10, hm⟩ := hm
        have hx := Ex_t (T := S8) hx (hrc e10)
        refine Ex_t ?_ (ih hm)
        exact hx
      · rw [if_neg q6] at hm
        replace hm := zcV_inv hm
        obtain ⟨S11, e11, hm⟩ := hm
        have hx := Ex_t (T := S8) hx (hrc e11)
        refine Ex_t ?_ (ih hm)
        exact hx
def yA_settle_9 (rc : hS → Option Nat → Option Nat → Int32 → Option (hS)) : Nat → hS → Option Nat → Int32 → Option Nat → Option (hS)
  | 0, _, _, _, _ => none
  | n + 1, S, p1, l2, p3 => (zoc p3 (some S) fun a1 => (if ztg S a1 = 2 then (zlb (zR S 8 a1) fun o2 => (zoc o2 (yA_settle_35 rc (yA_settle_9 rc n) n (szR S 9 a1 p1) p1 l2 (some a1) 0) fun a3 => (zlb (zR S 8 a1) fun o4 => (yA_settle_35 rc (yA_settle_9 rc n) n (szR S 9 a1 o4) p1 l2 (some a1) 0)))) else none))
theorem hyA_settle_9 {X : ie_X} {e : Nat} {rc : hS → Option Nat → Option Nat → Int32 → Option (hS)} (hrc : ∀ {S : hS} {z1 : Option Nat} {z2 : Option Nat} {z3 : Int32} {S' : hS}, rc S z1 z2 z3 = some S' → Go X (e + 0) 65 (0, ie_en 65 [va_rf z1, va_rf z2, .int z3], [], zhp S) (.inl none) (zhp S')) : ∀ (n : Nat) {S : hS} {p1 : Option Nat} {l2 : Int32} {p3 : Option Nat} {u0 u4 : Option Value} {S' : hS}, yA_settle_9 rc n S p1 l2 p3 = some S' → Go X (e + 1) 65 (9, [u0, some (va_rf p1), some (.int l2), some (va_rf p3), u4], [], zhp S) (.inl none) (zhp S') := by
  intro n
  induction n with
  | zero => intro S p1 l2 p3 u0 u4 S'  hm; cases hm
  | succ n ih =>
    intro S p1 l2 p3 u0 u4 S'  hm
    unfold yA_settle_9 at hm
    refine go_run 0 (F' := (9, [u0, some (va_rf p1), some (.int l2), some (va_rf p3), u4], [], zhp S)) rfl ?_
    refine go_run 0 (F' := (9, [u0, some (va_rf p1), some (.int l2), some (va_rf p3), u4], [], zhp S)) rfl ?_
    refine go_al rfl rfl ?_
    refine go_run 0 (F' := (10, [u0, some (va_rf p1), some (.int l2), some (va_rf p3), u4], [va_rf p3], zhp S)) rfl ?_
    cases p3 with
    | none =>
      replace hm := zoc_n hm
      refine go_step rfl rfl ?_
      refine go_run 0 (F' := (87, [u0, some (va_rf p1), some (.int l2), some (.null), u4], [], zhp S)) rfl ?_
      refine go_run 0 (F' := (87, [u0, some (va_rf p1), some (.int l2), some (.null), u4], [], zhp S)) rfl ?_
      cases hm
      exact go_end rfl rfl
    | some a1 =>
      replace hm := zoc_s hm
      refine go_step rfl rfl ?_
      refine go_run 0 (F' := (13, [u0, some (va_rf p1), some (.int l2), some (.ref a1), u4], [], zhp S)) rfl ?_
      refine go_run 2 (F' := (15, [u0, some (va_rf p1), some (.int l2), some (.ref a1), u4], [.ref a1, .ref a1], zhp S)) rfl ?_
      replace hm := zgd hm
      obtain ⟨b1, hm⟩ := hm
      replace hm := zlb_inv hm
      obtain ⟨o2, eo2, hm⟩ := hm
      refine go_hg (v := va_rf o2) rfl b1 (by decide) (by rw [← eo2]; rfl) ?_
      refine go_run 0 (F' := (18, [u0, some (va_rf p1), some (.int l2), some (.ref a1), u4], [va_rf o2, .ref a1], zhp S)) rfl ?_
      cases o2 with
      | none =>
        replace hm := zoc_n hm
        refine go_step rfl rfl ?_
        refine go_run 0 (F' := (21, [u0, some (va_rf p1), some (.int l2), some (.ref a1), u4], [.ref a1], zhp S)) rfl ?_
        refine go_run 0 (F' := (21, [u0, some (va_rf p1), some (.int l2), some (.ref a1), u4], [.ref a1], zhp S)) rfl ?_
        refine go_al rfl rfl ?_
        refine go_run 1 (F' := (29, [u0, some (va_rf p1), some (.int l2), some (.ref a1), u4], [va_rf p1, .ref a1], zhp S)) rfl ?_
        refine go_hpR (v := p1) rfl b1 (by decide) (by cases p1 <;> rfl) (Nat.le_of_ble_eq_true rfl) fs_1_9 ?_
        refine go_run 2 (F' := (35, [u0, some (va_rf p1), some (.int l2), some (va_rf (some a1)), some (.int 0)], [], zhp (szR S 9 a1 p1))) rfl ?_
        exact hyA_settle_35 hrc (fun z => ih z) n hm
      | some a3 =>
        replace hm := zoc_s hm
        refine go_step rfl rfl ?_
        refine go_run 0 (F' := (25, [u0, some (va_rf p1), some (.int l2), some (.ref a1), u4], [.ref a1], zhp S)) rfl ?_
        refine go_run 1 (F' := (26, [u0, some (va_rf p1), some (.int l2), some (.ref a1), u4], [.ref a1, .ref a1], zhp S)) rfl ?_
        replace hm := zlb_inv hm
        obtain ⟨o4, eo4, hm⟩ := hm
        refine go_hg (v := va_rf o4) rfl b1 (by decide) (by rw [← eo4]; rfl) ?_
        refine go_run 0 (F' := (29, [u0, some (va_rf p1), some (.int l2), some (.ref a1), u4], [va_rf o4, .ref a1], zhp S)) rfl ?_
        refine go_hpR (v := o4) rfl b1 (by decide) (by cases o4 <;> rfl) (Nat.le_of_ble_eq_true rfl) fs_1_9 ?_
        refine go_run 2 (F' := (35, [u0, some (va_rf p1), some (.int l2), some (va_rf (some a1)), some (.int 0)], [], zhp (szR S 9 a1 o4))) rfl ?_
        exact hyA_settle_35 hrc (fun z => ih z) n hm
theorem ehyA_settle_9 {rc : hS → Option Nat → Option Nat → Int32 → Option (hS)} (hrc : ∀ {S : hS} {z1 : Option Nat} {z2 : Option Nat} {z3 : Int32} {S' : hS}, rc S z1 z2 z3 = some S' → Ex S S') : ∀ (n : Nat) {S : hS} {p1 : Option Nat} {l2 : Int32} {p3 : Option Nat} {S' : hS}, yA_settle_9 rc n S p1 l2 p3 = some S' → Ex S S' := by
  intro n
  induction n with
  | zero => intro S p1 l2 p3 S'  hm; cases hm
  | succ n ih =>
    intro S p1 l2 p3 S'  hm
    unfold yA_settle_9 at hm
    have hx : Ex S S := Ex_r
    cases p3 with
    | none =>
      replace hm := zoc_n hm
      cases hm
      exact hx
    | some a1 =>
      replace hm := zoc_s hm
      replace hm := zgd hm
      obtain ⟨b1, hm⟩ := hm
      replace hm := zlb_inv hm
      obtain ⟨o2, eo2, hm⟩ := hm
      cases o2 with
      | none =>
        replace hm := zoc_n hm
        refine Ex_t ?_ (ehyA_settle_35 hrc (fun z => ih z) n hm)
        exact hx
      | some a3 =>
        replace hm := zoc_s hm
        replace hm := zlb_inv hm
        obtain ⟨o4, eo4, hm⟩ := hm
        refine Ex_t ?_ (ehyA_settle_35 hrc (fun z => ih z) n hm)
        exact hx
def yA_settle (n : Nat) : Nat → hS → Option Nat → Option Nat → Int32 → Option (hS)
  | 0, _, _, _, _ => none
  | r + 1, S, p1, p2, x3 => (if x3 ≤ 64 then (yA_settle_9 (yA_settle n r) n S p2 x3 p1) else (some S))
theorem hyA_settle {X : ie_X} {d : Nat} {n : Nat} : ∀ (r : Nat) {S : hS} {p1 : Option Nat} {p2 : Option Nat} {x3 : Int32} {S' : hS}, yA_settle n r S p1 p2 x3 = some S' → Go X (d + 1 * r + 0) 65 (0, ie_en 65 [va_rf p1, va_rf p2, .int x3], [], zhp S) (.inl none) (zhp S') := by
  intro r
  induction r with
  | zero => intro S p1 p2 x3 S'  hm; cases hm
  | succ r ih =>
    intro S p1 p2 x3 S'  hm
    rw [show d + 1 * (r + 1) + 0 = (d + 1 * r) + 1 by omega]
    unfold yA_settle at hm
    refine go_run 0 (F' := (0, [some (va_rf p1), some (va_rf p2), some (.int x3), none, none], [], zhp S)) (by cases p1 <;> cases p2 <;> rfl) ?_
    refine go_run 2 (F' := (3, [some (va_rf p1), some (va_rf p2), some (.int x3), none, none], [.int 64, .int x3], zhp S)) rfl ?_
    refine go_step rfl rfl ?_
    by_cases q1 : x3 ≤ 64
    · rw [if_pos q1] at hm ⊢
      refine go_run 0 (F' := (7, [some (va_rf p1), some (va_rf p2), some (.int x3), none, none], [], zhp S)) rfl ?_
      refine go_run 0 (F' := (7, [some (va_rf p1), some (va_rf p2), some (.int x3), none, none], [], zhp S)) rfl ?_
      refine go_al rfl rfl ?_
      refine go_run 0 (F' := (8, [some (va_rf p1), some (va_rf p2), some (.int x3), none, none], [va_rf p1], zhp S)) rfl ?_
      refine go_as rfl ?_
      refine go_run 0 (F' := (9, [some (va_rf p1), some (va_rf p2), some (.int x3), some (va_rf p1), none], [], zhp S)) rfl ?_
      exact hyA_settle_9 ih n hm
    · rw [if_neg q1] at hm ⊢
      refine go_run 0 (F' := (6, [some (va_rf p1), some (va_rf p2), some (.int x3), none, none], [], zhp S)) rfl ?_
      refine go_run 0 (F' := (6, [some (va_rf p1), some (va_rf p2), some (.int x3), none, none], [], zhp S)) rfl ?_
      cases hm
      exact go_end rfl rfl
theorem ehyA_settle {n : Nat} : ∀ (r : Nat) {S : hS} {p1 : Option Nat} {p2 : Option Nat} {x3 : Int32} {S' : hS}, yA_settle n r S p1 p2 x3 = some S' → Ex S S' := by
  intro r
  induction r with
  | zero => intro S p1 p2 x3 S'  hm; cases hm
  | succ r ih =>
    intro S p1 p2 x3 S'  hm
    unfold yA_settle at hm
    have hx : Ex S S := Ex_r
    by_cases q1 : x3 ≤ 64
    · rw [if_pos q1] at hm
      refine Ex_t ?_ (ehyA_settle_9 ih n hm)
      exact hx
    · rw [if_neg q1] at hm
      cases hm
      exact hx
theorem hyA_settle_o {X : ie_X} {d n : Nat} {S : hS} {p1 : Option Nat} {p2 : Option Nat} {x3 : Int32} {S' : hS} (hm : yA_settle n 67 S p1 p2 x3 = some S') : Go X (d + 67) 65 (0, ie_en 65 [va_rf p1, va_rf p2, .int x3], [], zhp S) (.inl none) (zhp S') := hyA_settle (X := X) (d := d) 67 hm
theorem ehyA_settle_o {n : Nat} {S : hS} {p1 : Option Nat} {p2 : Option Nat} {x3 : Int32} {S' : hS} (hm : yA_settle n 67 S p1 p2 x3 = some S') : Ex S S' := ehyA_settle 67 hm
def yX_put (S : hS) (th : Nat) (x1 : Int32) (x2 : Int32) : Option (hS) := (if ztg S th = 4 then (zlb (zR S 0 th) fun o1 => (zob o1 fun a2 => (if zal S a2 then (if Int32.ofNat (zLen S a2) ≤ zI S 1 th then (some S) else (zlb (zR S 0 th) fun o3 => (zob o3 fun a4 => (if ztg S a4 = 21 then (if ib (zI S 1 th) (zLen S a4) then (some (szI (szAI S a4 (upd (zAI S a4) (Int32.toNatClampNeg (zI S 1 th)) (vp_nar .char (i_ch (x1 + x2))))) 1 th ((zI S 1 th) + 1))) else none) else none)))) else none))) else none)
theorem hyX_put {X : ie_X} {d th : Nat} {S : hS} {x1 : Int32} {x2 : Int32} {S' : hS} (hm : yX_put S th x1 x2 = some S') : Go X (d + 0) 70 (0, ie_en 70 [.ref th, .int x1, .int x2], [], zhp S) (.inl none) (zhp S') := by
  unfold yX_put at hm
  refine go_run 0 (F' := (0, [some (.ref th), some (.int x1), some (.int x2)], [], zhp S)) rfl ?_
  refine go_run 1 (F' := (1, [some (.ref th), some (.int x1), some (.int x2)], [.ref th], zhp S)) rfl ?_
  replace hm := zgd hm
  obtain ⟨b1, hm⟩ := hm
  refine go_hg (v := .int (zI S 1 th)) rfl b1 (by decide) rfl ?_
  refine go_run 1 (F' := (5, [some (.ref th), some (.int x1), some (.int x2)], [.ref th, .int (zI S 1 th)], zhp S)) rfl ?_
  replace hm := zlb_inv hm
  obtain ⟨o1, eo1, hm⟩ := hm
  refine go_hg (v := va_rf o1) rfl b1 (by decide) (by rw [← eo1]; rfl) ?_
  refine go_run 0 (F' := (8, [some (.ref th), some (.int x1), some (.int x2)], [va_rf o1, .int (zI S 1 th)], zhp S)) rfl ?_
  replace hm := zob_inv hm
  obtain ⟨a2, rfl, hm⟩ := hm
  replace hm := zgd hm
  obtain ⟨b2, hm⟩ := hm
  refine go_hlen rfl b2 ?_
  refine go_run 0 (F' := (9, [some (.ref th), some (.int x1), some (.int x2)], [.int (Int32.ofNat (zLen S a2)), .int (zI S 1 th)], zhp S)) rfl ?_
  refine go_step rfl rfl ?_
  by_cases q3 : Int32.ofNat (zLen S a2) ≤ zI S 1 th
  · rw [if_pos q3] at hm ⊢
    refine go_run 0 (F' := (35, [some (.ref th), some (.int x1), some (.int x2)], [], zhp S)) rfl ?_
    refine go_run 0 (F' := (35, [some (.ref th), some (.int x1), some (.int x2)], [], zhp S)) rfl ?_
    cases hm
    exact go_end rfl rfl
  · rw [if_neg q3] at hm ⊢
    refine go_run 0 (F' := (12, [some (.ref th), some (.int x1), some (.int x2)], [], zhp S)) rfl ?_
    refine go_run 1 (F' := (13, [some (.ref th), some (.int x1), some (.int x2)], [.ref th], zhp S)) rfl ?_
    replace hm := zlb_inv hm
    obtain ⟨o3, eo3, hm⟩ := hm
    refine go_hg (v := va_rf o3) rfl b1 (by decide) (by rw [← eo3]; rfl) ?_
    refine go_run 1 (F' := (17, [some (.ref th), some (.int x1), some (.int x2)], [.ref th, va_rf o3], zhp S)) rfl ?_
    refine go_hg (v := .int (zI S 1 th)) rfl b1 (by decide) rfl ?_
    refine go_run 4 (F' := (24, [some (.ref th), some (.int x1), some (.int x2)], [.int (i_ch (x1 + x2)), .int (zI S 1 th), va_rf o3], zhp S)) rfl ?_
    replace hm := zob_inv hm
    obtain ⟨a4, rfl, hm⟩ := hm
    replace hm := zgd hm
    obtain ⟨b4, hm⟩ := hm
    replace hm := zgd hm
    obtain ⟨b5, hm⟩ := hm
    refine go_hast1 rfl b4 b5 rfl rfl ?_
    refine go_run 2 (F' := (27, [some (.ref th), some (.int x1), some (.int x2)], [.ref th, .ref th], zhp (szAI S a4 (upd (zAI S a4) (Int32.toNatClampNeg (zI S 1 th)) (vp_nar .char (i_ch (x1 + x2))))))) rfl ?_
    refine go_hg (v := .int (zI S 1 th)) rfl b1 (by decide) rfl ?_
    refine go_run 2 (F' := (32, [some (.ref th), some (.int x1), some (.int x2)], [.int ((zI S 1 th) + 1), .ref th], zhp (szAI S a4 (upd (zAI S a4) (Int32.toNatClampNeg (zI S 1 th)) (vp_nar .char (i_ch (x1 + x2))))))) rfl ?_
    refine go_hpI rfl b1 (by decide) rfl (Nat.le_of_ble_eq_true rfl) fs_3_1 ?_
    refine go_run 0 (F' := (35, [some (.ref th), some (.int x1), some (.int x2)], [], zhp (szI (szAI S a4 (upd (zAI S a4) (Int32.toNatClampNeg (zI S 1 th)) (vp_nar .char (i_ch (x1 + x2))))) 1 th ((zI S 1 th) + 1)))) rfl ?_
    cases hm
    exact go_end rfl rfl
theorem ehyX_put {th : Nat} {S : hS} {x1 : Int32} {x2 : Int32} {S' : hS} (hm : yX_put S th x1 x2 = some S') : Ex S S' := by
  unfold yX_put at hm
  have hx : Ex S S := Ex_r
  replace hm := zgd hm
  obtain ⟨b1, hm⟩ := hm
  replace hm := zlb_inv hm
  obtain ⟨o1, eo1, hm⟩ := hm
  replace hm := zob_inv hm
  obtain ⟨a2, rfl, hm⟩ := hm
  replace hm := zgd hm
  obtain ⟨b2, hm⟩ := hm
  by_cases q3 : Int32.ofNat (zLen S a2) ≤ zI S 1 th
  · rw [if_pos q3] at hm
    cases hm
    exact hx
  · rw [if_neg q3] at hm
    replace hm := zlb_inv hm
    obtain ⟨o3, eo3, hm⟩ := hm
    replace hm := zob_inv hm
    obtain ⟨a4, rfl, hm⟩ := hm
    replace hm := zgd hm
    obtain ⟨b4, hm⟩ := hm
    replace hm := zgd hm
    obtain ⟨b5, hm⟩ := hm
    cases hm
    exact hx
def yX_putExpression_2 (th : Nat) : Nat → hS → Int64 → Int32 → Option (hS)
  | 0, _, _, _ => none
  | n + 1, S, l1, l3 => (if 8 ≤ l3 then (some S) else (if by_c l1 l3 = 0 then (some S) else (if ztg S th = 4 then (zcV (yX_put S th (by_c l1 l3) 0) fun S1 => (yX_putExpression_2 th n S1 l1 (l3 + 1))) else none)))
theorem hyX_putExpression_2 {X : ie_X} {d th : Nat} : ∀ (n : Nat) {S : hS} {l1 : Int64} {l3 : Int32} {u2 : Option Value} {S' : hS}, yX_putExpression_2 th n S l1 l3 = some S' → Go X (d + 1) 71 (2, [some (.ref th), some (.long l1), u2, some (.int l3)], [], zhp S) (.inl none) (zhp S') := by
  intro n
  induction n with
  | zero => intro S l1 l3 u2 S'  hm; cases hm
  | succ n ih =>
    intro S l1 l3 u2 S'  hm
    unfold yX_putExpression_2 at hm
    refine go_run 0 (F' := (2, [some (.ref th), some (.long l1), u2, some (.int l3)], [], zhp S)) rfl ?_
    refine go_run 2 (F' := (5, [some (.ref th), some (.long l1), u2, some (.int l3)], [.int 8, .int l3], zhp S)) rfl ?_
    refine go_step rfl rfl ?_
    by_cases q1 : 8 ≤ l3
    · rw [if_pos q1] at hm ⊢
      refine go_run 0 (F' := (32, [some (.ref th), some (.long l1), u2, some (.int l3)], [], zhp S)) rfl ?_
      refine go_run 0 (F' := (32, [some (.ref th), some (.long l1), u2, some (.int l3)], [], zhp S)) rfl ?_
      cases hm
      exact go_end rfl rfl
    · rw [if_neg q1] at hm ⊢
      refine go_run 0 (F' := (8, [some (.ref th), some (.long l1), u2, some (.int l3)], [], zhp S)) rfl ?_
      refine go_run 2 (F' := (10, [some (.ref th), some (.long l1), u2, some (.int l3)], [.int l3, .long l1], zhp S)) rfl ?_
      refine go_call (m' := 6) (as := [.long l1, .int l3]) (rest := []) (v := some (.int (by_c l1 l3))) (h1 := zhp S) rfl rfl ⟨rfl, Nat.le_of_ble_eq_true rfl⟩ (y_pk _ _) ?_
      refine go_run 0 (F' := (13, [some (.ref th), some (.long l1), u2, some (.int l3)], [.int (by_c l1 l3)], zhp S)) rfl ?_
      refine go_run 0 (F' := (13, [some (.ref th), some (.long l1), u2, some (.int l3)], [.int (by_c l1 l3)], zhp S)) rfl ?_
      refine go_step rfl rfl ?_
      by_cases q2 : by_c l1 l3 = 0
      · rw [if_pos q2] at hm ⊢
        refine go_run 0 (F' := (32, [some (.ref th), some (.long l1), u2, some (.int l3)], [], zhp S)) rfl ?_
        refine go_run 0 (F' := (32, [some (.ref th), some (.long l1), u2, some (.int l3)], [], zhp S)) rfl ?_
        cases hm
        exact go_end rfl rfl
      · rw [if_neg q2] at hm ⊢
        refine go_run 0 (F' := (16, [some (.ref th), some (.long l1), u2, some (.int l3)], [], zhp S)) rfl ?_
        refine go_run 3 (F' := (19, [some (.ref th), some (.long l1), u2, some (.int l3)], [.int l3, .long l1, .ref th], zhp S)) rfl ?_
        refine go_call (m' := 6) (as := [.long l1, .int l3]) (rest := [.ref th]) (v := some (.int (by_c l1 l3))) (h1 := zhp S) rfl rfl ⟨rfl, Nat.le_of_ble_eq_true rfl⟩ (y_pk _ _) ?_
        refine go_run 0 (F' := (22, [some (.ref th), some (.long l1), u2, some (.int l3)], [.int (by_c l1 l3), .ref th], zhp S)) rfl ?_
        refine go_run 1 (F' := (23, [some (.ref th), some (.long l1), u2, some (.int l3)], [.int 0, .int (by_c l1 l3), .ref th], zhp S)) rfl ?_
        replace hm := zgd hm
        obtain ⟨b3, hm⟩ := hm
        replace hm := zcV_inv hm
        obtain ⟨S1, e1, hm⟩ := hm
        have k1 := hyX_put (X := X) (d := d) e1
        refine go_call (m' := 70) (as := [.ref th, .int (by_c l1 l3), .int 0]) (rest := []) (v := none) (h1 := zhp S1) rfl (by simp only [ie_step, ie_iv, List.drop, zhp_obj (S := S) b3 (by decide)]; rfl) ⟨rfl, Nat.le_of_ble_eq_true rfl⟩ k1 ?_
        refine go_run 0 (F' := (26, [some (.ref th), some (.long l1), u2, some (.int l3)], [], zhp S1)) rfl ?_
        refine go_run 2 (F' := (2, [some (.ref th), some (.long l1), u2, some (.int (l3 + 1))], [], zhp S1)) rfl ?_
        exact ih hm
theorem ehyX_putExpression_2 {th : Nat} : ∀ (n : Nat) {S : hS} {l1 : Int64} {l3 : Int32} {S' : hS}, yX_putExpression_2 th n S l1 l3 = some S' → Ex S S' := by
  intro n
  induction n with
  | zero => intro S l1 l3 S'  hm; cases hm
  | succ n ih =>
    intro S l1 l3 S'  hm
    unfold yX_putExpression_2 at hm
    have hx : Ex S S := Ex_r
    by_cases q1 : 8 ≤ l3
    · rw [if_pos q1] at hm
      cases hm
      exact hx
    · rw [if_neg q1] at hm
      by_cases q2 : by_c l1 l3 = 0
      · rw [if_pos q2] at hm
        cases hm
        exact hx
      · rw [if_neg q2] at hm
        replace hm := zgd hm
        obtain ⟨b3, hm⟩ := hm
        replace hm := zcV_inv hm
        obtain ⟨S1, e1, hm⟩ := hm
        have hx := Ex_t (T := S) hx (ehyX_put e1)
        refine Ex_t ?_ (ih hm)
        exact hx
def yX_putExpression (n : Nat) (S : hS) (th : Nat) (x1 : Int64) : Option (hS) := (yX_putExpression_2 th  n S x1 0)
theorem hyX_putExpression {X : ie_X} {d th : Nat} {n : Nat} {S : hS} {x1 : Int64} {S' : hS} (hm : yX_putExpression n S th x1 = some S') : Go X (d + 1) 71 (0, ie_en 71 [.ref th, .long x1], [], zhp S) (.inl none) (zhp S') := by
  unfold yX_putExpression at hm
  refine go_run 0 (F' := (0, [some (.ref th), some (.long x1), none, none], [], zhp S)) rfl ?_
  refine go_run 2 (F' := (2, [some (.ref th), some (.long x1), none, some (.int 0)], [], zhp S)) rfl ?_
  exact hyX_putExpression_2  n hm
theorem ehyX_putExpression {th : Nat} {n : Nat} {S : hS} {x1 : Int64} {S' : hS} (hm : yX_putExpression n S th x1 = some S') : Ex S S' := by
  unfold yX_putExpression at hm
  have hx : Ex S S := Ex_r
  refine Ex_t ?_ (ehyX_putExpression_2  n hm)
  exact hx
def yX_putTo (S : hS) (th : Nat) (x1 : Int32) : Option (hS) := (if ztg S th = 4 then (zcV (yX_put S th 62 0) fun S1 => (if ztg S1 th = 4 then (zcV (yX_put S1 th 65 x1) fun S2 => (if ztg S2 th = 4 then (zcV (yX_put S2 th 59 0) fun S3 => (some S3)) else none)) else none)) else none)
theorem hyX_putTo {X : ie_X} {d th : Nat} {S : hS} {x1 : Int32} {S' : hS} (hm : yX_putTo S th x1 = some S') : Go X (d + 1) 72 (0, ie_en 72 [.ref th, .int x1], [], zhp S) (.inl none) (zhp S') := by
  unfold yX_putTo at hm
  refine go_run 0 (F' := (0, [some (.ref th), some (.int x1)], [], zhp S)) rfl ?_
  refine go_run 3 (F' := (4, [some (.ref th), some (.int x1)], [.int 0, .int 62, .ref th], zhp S)) rfl ?_
  replace hm := zgd hm
  obtain ⟨b1, hm⟩ := hm
  replace hm := zcV_inv hm
  obtain ⟨S1, e1, hm⟩ := hm
  have k1 := hyX_put (X := X) (d := d) e1
  refine go_call (m' := 70) (as := [.ref th, .int 62, .int 0]) (rest := []) (v := none) (h1 := zhp S1) rfl (by simp only [ie_step, ie_iv, List.drop, zhp_obj (S := S) b1 (by decide)]; rfl) ⟨rfl, Nat.le_of_ble_eq_true rfl⟩ k1 ?_
  refine go_run 0 (F' := (7, [some (.ref th), some (.int x1)], [], zhp S1)) rfl ?_
  refine go_run 3 (F' := (11, [some (.ref th), some (.int x1)], [.int x1, .int 65, .ref th], zhp S1)) rfl ?_
  replace hm := zgd hm
  obtain ⟨b2, hm⟩ := hm
  replace hm := zcV_inv hm
  obtain ⟨S2, e2, hm⟩ := hm
  have k2 := hyX_put (X := X) (d := d) e2
  refine go_call (m' := 70) (as := [.ref th, .int 65, .int x1]) (rest := []) (v := none) (h1 := zhp S2) rfl (by simp only [ie_step, ie_iv, List.drop, zhp_obj (S := S1) b2 (by decide)]; rfl) ⟨rfl, Nat.le_of_ble_eq_true rfl⟩ k2 ?_
  refine go_run 0 (F' := (14, [some (.ref th), some (.int x1)], [], zhp S2)) rfl ?_
  refine go_run 3 (F' := (18, [some (.ref th), some (.int x1)], [.int 0, .int 59, .ref th], zhp S2)) rfl ?_
  replace hm := zgd hm
  obtain ⟨b3, hm⟩ := hm
  replace hm := zcV_inv hm
  obtain ⟨S3, e3, hm⟩ := hm
  have k3 := hyX_put (X := X) (d := d) e3
  refine go_call (m' := 70) (as := [.ref th, .int 59, .int 0]) (rest := []) (v := none) (h1 := zhp S3) rfl (by simp only [ie_step, ie_iv, List.drop, zhp_obj (S := S2) b3 (by decide)]; rfl) ⟨rfl, Nat.le_of_ble_eq_true rfl⟩ k3 ?_
  refine go_run 0 (F' := (21, [some (.ref th), some (.int x1)], [], zhp S3)) rfl ?_
  refine go_run 0 (F' := (21, [some (.ref th), some (.int x1)], [], zhp S3)) rfl ?_
  cases hm
  exact go_end rfl rfl
theorem ehyX_putTo {th : Nat} {S : hS} {x1 : Int32} {S' : hS} (hm : yX_putTo S th x1 = some S') : Ex S S' := by
  unfold yX_putTo at hm
  have hx : Ex S S := Ex_r
  replace hm := zgd hm
  obtain ⟨b1, hm⟩ := hm
  replace hm := zcV_inv hm
  obtain ⟨S1, e1, hm⟩ := hm
  have hx := Ex_t (T := S) hx (ehyX_put e1)
  replace hm := zgd hm
  obtain ⟨b2, hm⟩ := hm
  replace hm := zcV_inv hm
  obtain ⟨S2, e2, hm⟩ := hm
  have hx := Ex_t (T := S1) hx (ehyX_put e2)
  replace hm := zgd hm
  obtain ⟨b3, hm⟩ := hm
  replace hm := zcV_inv hm
  obtain ⟨S3, e3, hm⟩ := hm
  have hx := Ex_t (T := S2) hx (ehyX_put e3)
  cases hm
  exact hx
def yX_putLed_2 (th : Nat) : Nat → hS → Int32 → Int32 → Option (hS)
  | 0, _, _, _ => none
  | n + 1, S, l1, l2 => (if 6 ≤ l2 then (some S) else (if y_contains l1 l2 = 0 then (yX_putLed_2 th n S l1 (l2 + 1)) else (if ztg S th = 4 then (zcV (yX_put S th 65 l2) fun S1 => (yX_putLed_2 th n S1 l1 (l2 + 1))) else none)))
theorem hyX_putLed_2 {X : ie_X} {d th : Nat} : ∀ (n : Nat) {S : hS} {l1 : Int32} {l2 : Int32} {S' : hS}, yX_putLed_2 th n S l1 l2 = some S' → Go X (d + 1) 74 (2, [some (.ref th), some (.int l1), some (.int l2)], [], zhp S) (.inl none) (zhp S') := by
  intro n
  induction n with
  | zero => intro S l1 l2 S'  hm; cases hm
  | succ n ih =>
    intro S l1 l2 S'  hm
    unfold yX_putLed_2 at hm
    refine go_run 0 (F' := (2, [some (.ref th), some (.int l1), some (.int l2)], [], zhp S)) rfl ?_
    refine go_run 2 (F' := (5, [some (.ref th), some (.int l1), some (.int l2)], [.int 6, .int l2], zhp S)) rfl ?_
    refine go_step rfl rfl ?_
    by_cases q1 : 6 ≤ l2
    · rw [if_pos q1] at hm ⊢
      refine go_run 0 (F' := (29, [some (.ref th), some (.int l1), some (.int l2)], [], zhp S)) rfl ?_
      refine go_run 0 (F' := (29, [some (.ref th), some (.int l1), some (.int l2)], [], zhp S)) rfl ?_
      cases hm
      exact go_end rfl rfl
    · rw [if_neg q1] at hm ⊢
      refine go_run 0 (F' := (8, [some (.ref th), some (.int l1), some (.int l2)], [], zhp S)) rfl ?_
      refine go_run 2 (F' := (10, [some (.ref th), some (.int l1), some (.int l2)], [.int l2, .int l1], zhp S)) rfl ?_
      refine go_call (m' := 49) (as := [.int l1, .int l2]) (rest := []) (v := some (.int (y_contains l1 l2))) (h1 := zhp S) rfl rfl ⟨rfl, Nat.le_of_ble_eq_true rfl⟩ (hy_contains _ _) ?_
      refine go_run 0 (F' := (13, [some (.ref th), some (.int l1), some (.int l2)], [.int (y_contains l1 l2)], zhp S)) rfl ?_
      refine go_run 0 (F' := (13, [some (.ref th), some (.int l1), some (.int l2)], [.int (y_contains l1 l2)], zhp S)) rfl ?_
      refine go_step rfl rfl ?_
      by_cases q2 : y_contains l1 l2 = 0
      · rw [if_pos q2] at hm ⊢
        refine go_run 0 (F' := (23, [some (.ref th), some (.int l1), some (.int l2)], [], zhp S)) rfl ?_
        refine go_run 2 (F' := (2, [some (.ref th), some (.int l1), some (.int (l2 + 1))], [], zhp S)) rfl ?_
        exact ih hm
      · rw [if_neg q2] at hm ⊢
        refine go_run 0 (F' := (16, [some (.ref th), some (.int l1), some (.int l2)], [], zhp S)) rfl ?_
        refine go_run 3 (F' := (20, [some (.ref th), some (.int l1), some (.int l2)], [.int l2, .int 65, .ref th], zhp S)) rfl ?_
        replace hm := zgd hm
        obtain ⟨b3, hm⟩ := hm
        replace hm := zcV_inv hm
        obtain ⟨S1, e1, hm⟩ := hm
        have k1 := hyX_put (X := X) (d := d) e1
        refine go_call (m' := 70) (as := [.ref th, .int 65, .int l2]) (rest := []) (v := none) (h1 := zhp S1) rfl (by simp only [ie_step, ie_iv, List.drop, zhp_obj (S := S) b3 (by decide)]; rfl) ⟨rfl, Nat.le_of_ble_eq_true rfl⟩ k1 ?_
        refine go_run 0 (F' := (23, [some (.ref th), some (.int l1), some (.int l2)], [], zhp S1)) rfl ?_
        refine go_run 2 (F' := (2, [some (.ref th), some (.int l1), some (.int (l2 + 1))], [], zhp S1)) rfl ?_
        exact ih hm
theorem ehyX_putLed_2 {th : Nat} : ∀ (n : Nat) {S : hS} {l1 : Int32} {l2 : Int32} {S' : hS}, yX_putLed_2 th n S l1 l2 = some S' → Ex S S' := by
  intro n
  induction n with
  | zero => intro S l1 l2 S'  hm; cases hm
  | succ n ih =>
    intro S l1 l2 S'  hm
    unfold yX_putLed_2 at hm
    have hx : Ex S S := Ex_r
    by_cases q1 : 6 ≤ l2
    · rw [if_pos q1] at hm
      cases hm
      exact hx
    · rw [if_neg q1] at hm
      by_cases q2 : y_contains l1 l2 = 0
      · rw [if_pos q2] at hm
        refine Ex_t ?_ (ih hm)
        exact hx
      · rw [if_neg q2] at hm
        replace hm := zgd hm
        obtain ⟨b3, hm⟩ := hm
        replace hm := zcV_inv hm
        obtain ⟨S1, e1, hm⟩ := hm
        have hx := Ex_t (T := S) hx (ehyX_put e1)
        refine Ex_t ?_ (ih hm)
        exact hx
def yX_putLed (n : Nat) (S : hS) (th : Nat) (x1 : Int32) : Option (hS) := (yX_putLed_2 th  n S x1 0)
theorem hyX_putLed {X : ie_X} {d th : Nat} {n : Nat} {S : hS} {x1 : Int32} {S' : hS} (hm : yX_putLed n S th x1 = some S') : Go X (d + 1) 74 (0, ie_en 74 [.ref th, .int x1], [], zhp S) (.inl none) (zhp S') := by
  unfold yX_putLed at hm
  refine go_run 0 (F' := (0, [some (.ref th), some (.int x1), none], [], zhp S)) rfl ?_
  refine go_run 2 (F' := (2, [some (.ref th), some (.int x1), some (.int 0)], [], zhp S)) rfl ?_
  exact hyX_putLed_2  n hm
theorem ehyX_putLed {th : Nat} {n : Nat} {S : hS} {x1 : Int32} {S' : hS} (hm : yX_putLed n S th x1 = some S') : Ex S S' := by
  unfold yX_putLed at hm
  have hx : Ex S S := Ex_r
  refine Ex_t ?_ (ehyX_putLed_2  n hm)
  exact hx
theorem sw_73_4 {X : ie_X} {r : Nat × Nat × Nat} {ls : ie_L} {st : List Value} {h : ie_H} {x : Int32} (q0 : ¬ x = 5) (q1 : ¬ x = 6) (q2 : ¬ x = 7) : ie_step X 73 (.tableswitch 85 5 7 #[28, 41, 59]) r 4 ls (.int x :: st) h = some (.inl (89, ls, st, h)) := by
  have n0 : x.toInt ≠ 5 := fun z => q0 (Int32.toInt_inj.mp z)
  have n1 : x.toInt ≠ 6 := fun z => q1 (Int32.toInt_inj.mp z)
  have n2 : x.toInt ≠ 7 := fun z => q2 (Int32.toInt_inj.mp z)
  clear q0 q1 q2
  show (some (.inl (ie_ts 4 85 5 7 #[28, 41, 59] x.toInt, ls, st, h)) : ie_R) = _
  unfold ie_ts
  by_cases c : x.toInt < 5 ∨ 7 < x.toInt
  · rw [if_pos c]; rfl
  · exact absurd c (by omega)
def yX_writeHeadOfParts (n : Nat) (S : hS) (th : Nat) (p1 : Option Nat) : Option (hS) := (zob p1 fun a1 => (if ztg S a1 = 2 then (if zI S 0 a1 = 5 then (if ztg S th = 4 then (zcV (yX_put S th 65 (zI S 3 a1)) fun S2 => (some S2)) else none) else (if zI S 0 a1 = 6 then (if ztg S th = 4 then (zcV (yX_put S th 63 0) fun S3 => (if ztg S3 a1 = 2 then (if ztg S3 th = 4 then (zcV (yX_putExpression n S3 th (zL S3 a1)) fun S4 => (some S4)) else none) else none)) else none) else (if zI S 0 a1 = 7 then (if ztg S th = 4 then (zcV (yX_put S th 64 0) fun S5 => (if ztg S5 a1 = 2 then (if ztg S5 th = 4 then (zcV (yX_putExpression n S5 th (zL S5 a1)) fun S6 => (if ztg S6 a1 = 2 then (if ztg S6 th = 4 then (zcV (yX_putLed n S6 th (zI S6 4 a1)) fun S7 => (some S7)) else none) else none)) else none) else none)) else none) else (if ztg S th = 4 then (zcV (yX_put S th 65 (zI S 3 a1)) fun S8 => (if ztg S8 th = 4 then (zcV (yX_put S8 th 64 0) fun S9 => (some S9)) else none)) else none)))) else none))
theorem hyX_writeHeadOfParts {X : ie_X} {d th : Nat} {n : Nat} {S : hS} {p1 : Option Nat} {S' : hS} (hm : yX_writeHeadOfParts n S th p1 = some S') : Go X (d + 2) 73 (0, ie_en 73 [.ref th, va_rf p1], [], zhp S) (.inl none) (zhp S') := by
  unfold yX_writeHeadOfParts at hm
  refine go_run 0 (F' := (0, [some (.ref th), some (va_rf p1)], [], zhp S)) (by cases p1 <;> rfl) ?_
  refine go_run 0 (F' := (0, [some (.ref th), some (va_rf p1)], [], zhp S)) rfl ?_
  refine go_al rfl rfl ?_
  refine go_run 0 (F' := (1, [some (.ref th), some (va_rf p1)], [va_rf p1], zhp S)) rfl ?_
  replace hm := zob_inv hm
  obtain ⟨a1, rfl, hm⟩ := hm
  replace hm := zgd hm
  obtain ⟨b1, hm⟩ := hm
  refine go_hg (v := .int (zI S 0 a1)) rfl b1 (by decide) rfl ?_
  refine go_run 0 (F' := (4, [some (.ref th), some (.ref a1)], [.int (zI S 0 a1)], zhp S)) rfl ?_
  by_cases q2 : zI S 0 a1 = 5
  · rw [if_pos q2] at hm
    refine go_step rfl (F := (32, [some (.ref th), some (.ref a1)], [], zhp S)) (by simp only [ie_step, q2]; rfl) ?_
    refine go_run 0 (F' := (32, [some (.ref th), some (.ref a1)], [], zhp S)) rfl ?_
    refine go_run 3 (F' := (36, [some (.ref th), some (.ref a1)], [.ref a1, .int 65, .ref th], zhp S)) rfl ?_
    refine go_hg (v := .int (zI S 3 a1)) rfl b1 (by decide) rfl ?_
    refine go_run 0 (F' := (39, [some (.ref th), some (.ref a1)], [.int (zI S 3 a1), .int 65, .ref th], zhp S)) rfl ?_
    replace hm := zgd hm
    obtain ⟨b3, hm⟩ := hm
    replace hm := zcV_inv hm
    obtain ⟨S2, e2, hm⟩ := hm
    have k2 := hyX_put (X := X) (d := d + 1) e2
    refine go_call (m' := 70) (as := [.ref th, .int 65, .int (zI S 3 a1)]) (rest := []) (v := none) (h1 := zhp S2) rfl (by simp only [ie_step, ie_iv, List.drop, zhp_obj (S := S) b3 (by decide)]; rfl) ⟨rfl, Nat.le_of_ble_eq_true rfl⟩ k2 ?_
    refine go_run 0 (F' := (42, [some (.ref th), some (.ref a1)], [], zhp S2)) rfl ?_
    refine go_run 1 (F' := (106, [some (.ref th), some (.ref a1)], [], zhp S2)) rfl ?_
    cases hm
    exact go_end rfl rfl
  · rw [if_neg q2] at hm
    by_cases q4 : zI S 0 a1 = 6
    · rw [if_pos q4] at hm
      refine go_step rfl (F := (45, [some (.ref th), some (.ref a1)], [], zhp S)) (by simp only [ie_step, q4]; rfl) ?_
      refine go_run 0 (F' := (45, [some (.ref th), some (.ref a1)], [], zhp S)) rfl ?_
      refine go_run 3 (F' := (49, [some (.ref th), some (.ref a1)], [.int 0, .int 63, .ref th], zhp S)) rfl ?_
      replace hm := zgd hm
      obtain ⟨b5, hm⟩ := hm
      replace hm := zcV_inv hm
      obtain ⟨S3, e3, hm⟩ := hm
      have k3 := hyX_put (X := X) (d := d + 1) e3
      refine go_call (m' := 70) (as := [.ref th, .int 63, .int 0]) (rest := []) (v := none) (h1 := zhp S3) rfl (by simp only [ie_step, ie_iv, List.drop, zhp_obj (S := S) b5 (by decide)]; rfl) ⟨rfl, Nat.le_of_ble_eq_true rfl⟩ k3 ?_
      refine go_run 0 (F' := (52, [some (.ref th), some (.ref a1)], [], zhp S3)) rfl ?_
      refine go_run 2 (F' := (54, [some (.ref th), some (.ref a1)], [.ref a1, .ref th], zhp S3)) rfl ?_
      replace hm := zgd hm
      obtain ⟨b6, hm⟩ := hm
      refine go_hg (v := .long (zL S3 a1)) rfl b6 (by decide) rfl ?_
      refine go_run 0 (F' := (57, [some (.ref th), some (.ref a1)], [.long (zL S3 a1), .ref th], zhp S3)) rfl ?_
      replace hm := zgd hm
      obtain ⟨b7, hm⟩ := hm
      replace hm := zcV_inv hm
      obtain ⟨S4, e4, hm⟩ := hm
      have k4 := hyX_putExpression (X := X) (d := d) e4
      refine go_call (m' := 71) (as := [.ref th, .long (zL S3 a1)]) (rest := []) (v := none) (h1 := zhp S4) rfl (by simp only [ie_step, ie_iv, List.drop, zhp_obj (S := S3) b7 (by decide)]; rfl) ⟨rfl, Nat.le_of_ble_eq_true rfl⟩ k4 ?_
      refine go_run 0 (F' := (60, [some (.ref th), some (.ref a1)], [], zhp S4)) rfl ?_
      refine go_run 1 (F' := (106, [some (.ref th), some (.ref a1)], [], zhp S4)) rfl ?_
      cases hm
      exact go_end rfl rfl
    · rw [if_neg q4] at hm
      by_cases q8 : zI S 0 a1 = 7
      · rw [if_pos q8] at hm
        refine go_step rfl (F := (63, [some (.ref th), some (.ref a1)], [], zhp S)) (by simp only [ie_step, q8]; rfl) ?_
        refine go_run 0 (F' := (63, [some (.ref th), some (.ref a1)], [], zhp S)) rfl ?_
        refine go_run 3 (F' := (67, [some (.ref th), some (.ref a1)], [.int 0, .int 64, .ref th], zhp S)) rfl ?_
        replace hm := zgd hm
        obtain ⟨b9, hm⟩ := hm
        replace hm := zcV_inv hm
        obtain ⟨S5, e5, hm⟩ := hm
        have k5 := hyX_put (X := X) (d := d + 1) e5
        refine go_call (m' := 70) (as := [.ref th, .int 64, .int 0]) (rest := []) (v := none) (h1 := zhp S5) rfl (by simp only [ie_step, ie_iv, List.drop, zhp_obj (S := S) b9 (by decide)]; rfl) ⟨rfl, Nat.le_of_ble_eq_true rfl⟩ k5 ?_
        refine go_run 0 (F' := (70, [some (.ref th), some (.ref a1)], [], zhp S5)) rfl ?_
        refine go_run 2 (F' := (72, [some (.ref th), some (.ref a1)], [.ref a1, .ref th], zhp S5)) rfl ?_
        replace hm := zgd hm
        obtain ⟨b10, hm⟩ := hm
        refine go_hg (v := .long (zL S5 a1)) rfl b10 (by decide) rfl ?_
        refine go_run 0 (F' := (75, [some (.ref th), some (.ref a1)], [.long (zL S5 a1), .ref th], zhp S5)) rfl ?_
        replace hm := zgd hm
        obtain ⟨b11, hm⟩ := hm
        replace hm := zcV_inv hm
        obtain ⟨S6, e6, hm⟩ := hm
        have k6 := hyX_putExpression (X := X) (d := d) e6
        refine go_call (m' := 71) (as := [.ref th, .long (zL S5 a1)]) (rest := []) (v := none) (h1 := zhp S6) rfl (by simp only [ie_step, ie_iv, List.drop, zhp_obj (S := S5) b11 (by decide)]; rfl) ⟨rfl, Nat.le_of_ble_eq_true rfl⟩ k6 ?_
        refine go_run 0 (F' := (78, [some (.ref th), some (.ref a1)], [], zhp S6)) rfl ?_
        refine go_run 2 (F' := (80, [some (.ref th), some (.ref a1)], [.ref a1, .ref th], zhp S6)) rfl ?_
        replace hm := zgd hm
        obtain ⟨b12, hm⟩ := hm
        refine go_hg (v := .int (zI S6 4 a1)) rfl b12 (by decide) rfl ?_
        refine go_run 0 (F' := (83, [some (.ref th), some (.ref a1)], [.int (zI S6 4 a1), .ref th], zhp S6)) rfl ?_
        replace hm := zgd hm
        obtain ⟨b13, hm⟩ := hm
        replace hm := zcV_inv hm
        obtain ⟨S7, e7, hm⟩ := hm
        have k7 := hyX_putLed (X := X) (d := d) e7
        refine go_call (m' := 74) (as := [.ref th, .int (zI S6 4 a1)]) (rest := []) (v := none) (h1 := zhp S7) rfl (by simp only [ie_step, ie_iv, List.drop, zhp_obj (S := S6) b13 (by decide)]; rfl) ⟨rfl, Nat.le_of_ble_eq_true rfl⟩ k7 ?_
        refine go_run 0 (F' := (86, [some (.ref th), some (.ref a1)], [], zhp S7)) rfl ?_
        refine go_run 1 (F' := (106, [some (.ref th), some (.ref a1)], [], zhp S7)) rfl ?_
        cases hm
        exact go_end rfl rfl
      · rw [if_neg q8] at hm
        refine go_step rfl (F := (89, [some (.ref th), some (.ref a1)], [], zhp S)) (sw_73_4 q2 q4 q8) ?_
        refine go_run 0 (F' := (89, [some (.ref th), some (.ref a1)], [], zhp S)) rfl ?_
        refine go_run 3 (F' := (93, [some (.ref th), some (.ref a1)], [.ref a1, .int 65, .ref th], zhp S)) rfl ?_
        refine go_hg (v := .int (zI S 3 a1)) rfl b1 (by decide) rfl ?_
        refine go_run 0 (F' := (96, [some (.ref th), some (.ref a1)], [.int (zI S 3 a1), .int 65, .ref th], zhp S)) rfl ?_
        replace hm := zgd hm
        obtain ⟨b14, hm⟩ := hm
        replace hm := zcV_inv hm
        obtain ⟨S8, e8, hm⟩ := hm
        have k8 := hyX_put (X := X) (d := d + 1) e8
        refine go_call (m' := 70) (as := [.ref th, .int 65, .int (zI S 3 a1)]) (rest := []) (v := none) (h1 := zhp S8) rfl (by simp only [ie_step, ie_iv, List.drop, zhp_obj (S := S) b14 (by decide)]; rfl) ⟨rfl, Nat.le_of_ble_eq_true rfl⟩ k8 ?_
        refine go_run 0 (F' := (99, [some (.ref th), some (.ref a1)], [], zhp S8)) rfl ?_
        refine go_run 3 (F' := (103, [some (.ref th), some (.ref a1)], [.int 0, .int 64, .ref th], zhp S8)) rfl ?_
        replace hm := zgd hm
        obtain ⟨b15, hm⟩ := hm
        replace hm := zcV_inv hm
        obtain ⟨S9, e9, hm⟩ := hm
        have k9 := hyX_put (X := X) (d := d + 1) e9
        refine go_call (m' := 70) (as := [.ref th, .int 64, .int 0]) (rest := []) (v := none) (h1 := zhp S9) rfl (by simp only [ie_step, ie_iv, List.drop, zhp_obj (S := S8) b15 (by decide)]; rfl) ⟨rfl, Nat.le_of_ble_eq_true rfl⟩ k9 ?_
        refine go_run 0 (F' := (106, [some (.ref th), some (.ref a1)], [], zhp S9)) rfl ?_
        refine go_run 0 (F' := (106, [some (.ref th), some (.ref a1)], [], zhp S9)) rfl ?_
        cases hm
        exact go_end rfl rfl
theorem ehyX_writeHeadOfParts {th : Nat} {n : Nat} {S : hS} {p1 : Option Nat} {S' : hS} (hm : yX_writeHeadOfParts n S th p1 = some S') : Ex S S' := by
  unfold yX_writeHeadOfParts at hm
  have hx : Ex S S := Ex_r
  replace hm := zob_inv hm
  obtain ⟨a1, rfl, hm⟩ := hm
  replace hm := zgd hm
  obtain ⟨b1, hm⟩ := hm
  by_cases q2 : zI S 0 a1 = 5
  · rw [if_pos q2] at hm
    replace hm := zgd hm
    obtain ⟨b3, hm⟩ := hm
    replace hm := zcV_inv hm
    obtain ⟨S2, e2, hm⟩ := hm
    have hx := Ex_t (T := S) hx (ehyX_put e2)
    cases hm
    exact hx
  · rw [if_neg q2] at hm
    by_cases q4 : zI S 0 a1 = 6
    · rw [if_pos q4] at hm
      replace hm := zgd hm
      obtain ⟨b5, hm⟩ := hm
      replace hm := zcV_inv hm
      obtain ⟨S3, e3, hm⟩ := hm
      have hx := Ex_t (T := S) hx (ehyX_put e3)
      replace hm := zgd hm
      obtain ⟨b6, hm⟩ := hm
      replace hm := zgd hm
      obtain ⟨b7, hm⟩ := hm
      replace hm := zcV_inv hm
      obtain ⟨S4, e4, hm⟩ := hm
      have hx := Ex_t (T := S3) hx (ehyX_putExpression e4)
      cases hm
      exact hx
    · rw [if_neg q4] at hm
      by_cases q8 : zI S 0 a1 = 7
      · rw [if_pos q8] at hm
        replace hm := zgd hm
        obtain ⟨b9, hm⟩ := hm
        replace hm := zcV_inv hm
        obtain ⟨S5, e5, hm⟩ := hm
        have hx := Ex_t (T := S) hx (ehyX_put e5)
        replace hm := zgd hm
        obtain ⟨b10, hm⟩ := hm
        replace hm := zgd hm
        obtain ⟨b11, hm⟩ := hm
        replace hm := zcV_inv hm
        obtain ⟨S6, e6, hm⟩ := hm
        have hx := Ex_t (T := S5) hx (ehyX_putExpression e6)
        replace hm := zgd hm
        obtain ⟨b12, hm⟩ := hm
        replace hm := zgd hm
        obtain ⟨b13, hm⟩ := hm
        replace hm := zcV_inv hm
        obtain ⟨S7, e7, hm⟩ := hm
        have hx := Ex_t (T := S6) hx (ehyX_putLed e7)
        cases hm
        exact hx
      · rw [if_neg q8] at hm
        replace hm := zgd hm
        obtain ⟨b14, hm⟩ := hm
        replace hm := zcV_inv hm
        obtain ⟨S8, e8, hm⟩ := hm
        have hx := Ex_t (T := S) hx (ehyX_put e8)
        replace hm := zgd hm
        obtain ⟨b15, hm⟩ := hm
        replace hm := zcV_inv hm
        obtain ⟨S9, e9, hm⟩ := hm
        have hx := Ex_t (T := S8) hx (ehyX_put e9)
        cases hm
        exact hx
theorem sw_69_4 {X : ie_X} {r : Nat × Nat × Nat} {ls : ie_L} {st : List Value} {h : ie_H} {x : Int32} (q0 : ¬ x = 1) (q1 : ¬ x = 2) (q2 : ¬ x = 3) (q3 : ¬ x = 4) : ie_step X 69 (.tableswitch 151 1 4 #[32, 67, 86, 123]) r 4 ls (.int x :: st) h = some (.inl (155, ls, st, h)) := by
  have n0 : x.toInt ≠ 1 := fun z => q0 (Int32.toInt_inj.mp z)
  have n1 : x.toInt ≠ 2 := fun z => q1 (Int32.toInt_inj.mp z)
  have n2 : x.toInt ≠ 3 := fun z => q2 (Int32.toInt_inj.mp z)
  have n3 : x.toInt ≠ 4 := fun z => q3 (Int32.toInt_inj.mp z)
  clear q0 q1 q2 q3
  show (some (.inl (ie_ts 4 151 1 4 #[32, 67, 86, 123] x.toInt, ls, st, h)) : ie_R) = _
  unfold ie_ts
  by_cases c : x.toInt < 1 ∨ 4 < x.toInt
  · rw [if_pos c]; rfl
  · exact absurd c (by omega)
def yX_writeHead (n : Nat) (S : hS) (th : Nat) (p1 : Option Nat) : Option (hS) := (zob p1 fun a1 => (if ztg S a1 = 2 then (if zI S 0 a1 = 1 then (if ztg S th = 4 then (zcV (yX_put S th 119 (zI S 1 a1)) fun S2 => (if ztg S2 th = 4 then (zcV (yX_put S2 th 58 0) fun S3 => (if ztg S3 a1 = 2 then (if ztg S3 th = 4 then (zcV (yX_putExpression n S3 th (zL S3 a1)) fun S4 => (if ztg S4 th = 4 then (zcV (yX_put S4 th 59 0) fun S5 => (some S5)) else none)) else none) else none)) else none)) else none) else (if zI S 0 a1 = 2 then (if ztg S th = 4 then (zcV (yX_putExpression n S th (zL S a1)) fun S6 => (if ztg S6 a1 = 2 then (if ztg S6 th = 4 then (zcV (yX_putTo S6 th (zI S6 3 a1)) fun S7 => (some S7)) else none) else none)) else none) else (if zI S 0 a1 = 3 then (if ztg S th = 4 then (zcV (yX_put S th 65 (zI S 3 a1)) fun S8 => (if ztg S8 th = 4 then (zcV (yX_put S8 th 62 0) fun S9 => (if ztg S9 a1 = 2 then (if ztg S9 th = 4 then (zcV (yX_put S9 th 119 (zI S9 1 a1)) fun S10 => (if ztg S10 th = 4 then (zcV (yX_put S10 th 59 0) fun S11 => (some S11)) else none)) else none) else none)) else none)) else none) else (if zI S 0 a1 = 4 then (if ztg S th = 4 then (zcV (yX_put S th 33 0) fun S12 => (if ztg S12 a1 = 2 then (if ztg S12 th = 4 then (zcV (yX_put S12 th 48 (zI S12 2 a1)) fun S13 => (if ztg S13 a1 = 2 then (if ztg S13 th = 4 then (zcV (yX_putTo S13 th (zI S13 3 a1)) fun S14 => (some S14)) else none) else none)) else none) else none)) else none) else (if ztg S th = 4 then (zcV (yX_writeHeadOfParts n S th (some a1)) fun S15 => (some S15)) else none))))) else none))
theorem hyX_writeHead {X : ie_X} {d th : Nat} {n : Nat} {S : hS} {p1 : Option Nat} {S' : hS} (hm : yX_writeHead n S th p1 = some S') : Go X (d + 3) 69 (0, ie_en 69 [.ref th, va_rf p1], [], zhp S) (.inl none) (zhp S') := by
  unfold yX_writeHead at hm
  refine go_run 0 (F' := (0, [some (.ref th), some (va_rf p1)], [], zhp S)) (by cases p1 <;> rfl) ?_
  refine go_run 0 (F' := (0, [some (.ref th), some (va_rf p1)], [], zhp S)) rfl ?_
  refine go_al rfl rfl ?_
  refine go_run 0 (F' := (1, [some (.ref th), some (va_rf p1)], [va_rf p1], zhp S)) rfl ?_
  replace hm := zob_inv hm
  obtain ⟨a1, rfl, hm⟩ := hm
  replace hm := zgd hm
  obtain ⟨b1, hm⟩ := hm
  refine go_hg (v := .int (zI S 0 a1)) rfl b1 (by decide) rfl ?_
  refine go_run 0 (F' := (4, [some (.ref th), some (.ref a1)], [.int (zI S 0 a1)], zhp S)) rfl ?_
  by_cases q2 : zI S 0 a1 = 1
  · rw [if_pos q2] at hm
    refine go_step rfl (F := (36, [some (.ref th), some (.ref a1)], [], zhp S)) (by simp only [ie_step, q2]; rfl) ?_
    refine go_run 0 (F' := (36, [some (.ref th), some (.ref a1)], [], zhp S)) rfl ?_
    refine go_run 3 (F' := (40, [some (.ref th), some (.ref a1)], [.ref a1, .int 119, .ref th], zhp S)) rfl ?_
    refine go_hg (v := .int (zI S 1 a1)) rfl b1 (by decide) rfl ?_
    refine go_run 0 (F' := (43, [some (.ref th), some (.ref a1)], [.int (zI S 1 a1), .int 119, .ref th], zhp S)) rfl ?_
    replace hm := zgd hm
    obtain ⟨b3, hm⟩ := hm
    replace hm := zcV_inv hm
    obtain ⟨S2, e2, hm⟩ := hm
    have k2 := hyX_put (X := X) (d := d + 2) e2
    refine go_call (m' := 70) (as := [.ref th, .int 119, .int (zI S 1 a1)]) (rest := []) (v := none) (h1 := zhp S2) rfl (by simp only [ie_step, ie_iv, List.drop, zhp_obj (S := S) b3 (by decide)]; rfl) ⟨rfl, Nat.le_of_ble_eq_true rfl⟩ k2 ?_
    refine go_run 0 (F' := (46, [some (.ref th), some (.ref a1)], [], zhp S2)) rfl ?_
    refine go_run 3 (F' := (50, [some (.ref th), some (.ref a1)], [.int 0, .int 58, .ref th], zhp S2)) rfl ?_
    replace hm := zgd hm
    obtain ⟨b4, hm⟩ := hm
    replace hm := zcV_inv hm
    obtain ⟨S3, e3, hm⟩ := hm
    have k3 := hyX_put (X := X) (d := d + 2) e3
    refine go_call (m' := 70) (as := [.ref th, .int 58, .int 0]) (rest := []) (v := none) (h1 := zhp S3) rfl (by simp only [ie_step, ie_iv, List.drop, zhp_obj (S := S2) b4 (by decide)]; rfl) ⟨rfl, Nat.le_of_ble_eq_true rfl⟩ k3 ?_
    refine go_run 0 (F' := (53, [some (.ref th), some (.ref a1)], [], zhp S3)) rfl ?_
    refine go_run 2 (F' := (55, [some (.ref th), some (.ref a1)], [.ref a1, .ref th], zhp S3)) rfl ?_
    replace hm := zgd hm
    obtain ⟨b5, hm⟩ := hm
    refine go_hg (v := .long (zL S3 a1)) rfl b5 (by decide) rfl ?_
    refine go_run 0 (F' := (58, [some (.ref th), some (.ref a1)], [.long (zL S3 a1), .ref th], zhp S3)) rfl ?_
    replace hm := zgd hm
    obtain ⟨b6, hm⟩ := hm
    replace hm := zcV_inv hm
    obtain ⟨S4, e4, hm⟩ := hm
    have k4 := hyX_putExpression (X := X) (d := d + 1) e4
    refine go_call (m' := 71) (as := [.ref th, .long (zL S3 a1)]) (rest := []) (v := none) (h1 := zhp S4) rfl (by simp only [ie_step, ie_iv, List.drop, zhp_obj (S := S3) b6 (by decide)]; rfl) ⟨rfl, Nat.le_of_ble_eq_true rfl⟩ k4 ?_
    refine go_run 0 (F' := (61, [some (.ref th), some (.ref a1)], [], zhp S4)) rfl ?_
    refine go_run 3 (F' := (65, [some (.ref th), some (.ref a1)], [.int 0, .int 59, .ref th], zhp S4)) rfl ?_
    replace hm := zgd hm
    obtain ⟨b7, hm⟩ := hm
    replace hm := zcV_inv hm
    obtain ⟨S5, e5, hm⟩ := hm
    have k5 := hyX_put (X := X) (d := d + 2) e5
    refine go_call (m' := 70) (as := [.ref th, .int 59, .int 0]) (rest := []) (v := none) (h1 := zhp S5) rfl (by simp only [ie_step, ie_iv, List.drop, zhp_obj (S := S4) b7 (by decide)]; rfl) ⟨rfl, Nat.le_of_ble_eq_true rfl⟩ k5 ?_
    refine go_run 0 (F' := (68, [some (.ref th), some (.ref a1)], [], zhp S5)) rfl ?_
    refine go_run 1 (F' := (160, [some (.ref th), some (.ref a1)], [], zhp S5)) rfl ?_
    cases hm
    exact go_end rfl rfl
  · rw [if_neg q2] at hm
    by_cases q8 : zI S 0 a1 = 2
    · rw [if_pos q8] at hm
      refine go_step rfl (F := (71, [some (.ref th), some (.ref a1)], [], zhp S)) (by simp only [ie_step, q8]; rfl) ?_
      refine go_run 0 (F' := (71, [some (.ref th), some (.ref a1)], [], zhp S)) rfl ?_
      refine go_run 2 (F' := (73, [some (.ref th), some (.ref a1)], [.ref a1, .ref th], zhp S)) rfl ?_
      refine go_hg (v := .long (zL S a1)) rfl b1 (by decide) rfl ?_
      refine go_run 0 (F' := (76, [some (.ref th), some (.ref a1)], [.long (zL S a1), .ref th], zhp S)) rfl ?_
      replace hm := zgd hm
      obtain ⟨b9, hm⟩ := hm
      replace hm := zcV_inv hm
      obtain ⟨S6, e6, hm⟩ := hm
      have k6 := hyX_putExpression (X := X) (d := d + 1) e6
      refine go_call (m' := 71) (as := [.ref th, .long (zL S a1)]) (rest := []) (v := none) (h1 := zhp S6) rfl (by simp only [ie_step, ie_iv, List.drop, zhp_obj (S := S) b9 (by decide)]; rfl) ⟨rfl, Nat.le_of_ble_eq_true rfl⟩ k6 ?_
      refine go_run 0 (F' := (79, [some (.ref th), some (.ref a1)], [], zhp S6)) rfl ?_
      refine go_run 2 (F' := (81, [some (.ref th), some (.ref a1)], [.ref a1, .ref th], zhp S6)) rfl ?_
      replace hm := zgd hm
      obtain ⟨b10, hm⟩ := hm
      refine go_hg (v := .int (zI S6 3 a1)) rfl b10 (by decide) rfl ?_
      refine go_run 0 (F' := (84, [some (.ref th), some (.ref a1)], [.int (zI S6 3 a1), .ref th], zhp S6)) rfl ?_
      replace hm := zgd hm
      obtain ⟨b11, hm⟩ := hm
      replace hm := zcV_inv hm
      obtain ⟨S7, e7, hm⟩ := hm
      have k7 := hyX_putTo (X := X) (d := d + 1) e7
      refine go_call (m' := 72) (as := [.ref th, .int (zI S6 3 a1)]) (rest := []) (v := none) (h1 := zhp S7) rfl (by simp only [ie_step, ie_iv, List.drop, zhp_obj (S := S6) b11 (by decide)]; rfl) ⟨rfl, Nat.le_of_ble_eq_true rfl⟩ k7 ?_
      refine go_run 0 (F' := (87, [some (.ref th), some (.ref a1)], [], zhp S7)) rfl ?_
      refine go_run 1 (F' := (160, [some (.ref th), some (.ref a1)], [], zhp S7)) rfl ?_
      cases hm
      exact go_end rfl rfl
    · rw [if_neg q8] at hm
      by_cases q12 : zI S 0 a1 = 3
      · rw [if_pos q12] at hm
        refine go_step rfl (F := (90, [some (.ref th), some (.ref a1)], [], zhp S)) (by simp only [ie_step, q12]; rfl) ?_
        refine go_run 0 (F' := (90, [some (.ref th), some (.ref a1)], [], zhp S)) rfl ?_
        refine go_run 3 (F' := (94, [some (.ref th), some (.ref a1)], [.ref a1, .int 65, .ref th], zhp S)) rfl ?_
        refine go_hg (v := .int (zI S 3 a1)) rfl b1 (by decide) rfl ?_
        refine go_run 0 (F' := (97, [some (.ref th), some (.ref a1)], [.int (zI S 3 a1), .int 65, .ref th], zhp S)) rfl ?_
        replace hm := zgd hm
        obtain ⟨b13, hm⟩ := hm
        replace hm := zcV_inv hm
        obtain ⟨S8, e8, hm⟩ := hm
        have k8 := hyX_put (X := X) (d := d + 2) e8
        refine go_call (m' := 70) (as := [.ref th, .int 65, .int (zI S 3 a1)]) (rest := []) (v := none) (h1 := zhp S8) rfl (by simp only [ie_step, ie_iv, List.drop, zhp_obj (S := S) b13 (by decide)]; rfl) ⟨rfl, Nat.le_of_ble_eq_true rfl⟩ k8 ?_
        refine go_run 0 (F' := (100, [some (.ref th), some (.ref a1)], [], zhp S8)) rfl ?_
        refine go_run 3 (F' := (104, [some (.ref th), some (.ref a1)], [.int 0, .int 62, .ref th], zhp S8)) rfl ?_
        replace hm := zgd hm
        obtain ⟨b14, hm⟩ := hm
        replace hm := zcV_inv hm
        obtain ⟨S9, e9, hm⟩ := hm
        have k9 := hyX_put (X := X) (d := d + 2) e9
        refine go_call (m' := 70) (as := [.ref th, .int 62, .int 0]) (rest := []) (v := none) (h1 := zhp S9) rfl (by simp only [ie_step, ie_iv, List.drop, zhp_obj (S := S8) b14 (by decide)]; rfl) ⟨rfl, Nat.le_of_ble_eq_true rfl⟩ k9 ?_
        refine go_run 0 (F' := (107, [some (.ref th), some (.ref a1)], [], zhp S9)) rfl ?_
        refine go_run 3 (F' := (111, [some (.ref th), some (.ref a1)], [.ref a1, .int 119, .ref th], zhp S9)) rfl ?_
        replace hm := zgd hm
        obtain ⟨b15, hm⟩ := hm
        refine go_hg (v := .int (zI S9 1 a1)) rfl b15 (by decide) rfl ?_
        refine go_run 0 (F' := (114, [some (.ref th), some (.ref a1)], [.int (zI S9 1 a1), .int 119, .ref th], zhp S9)) rfl ?_
        replace hm := zgd hm
        obtain ⟨b16, hm⟩ := hm
        replace hm := zcV_inv hm
        obtain ⟨S10, e10, hm⟩ := hm
        have k10 := hyX_put (X := X) (d := d + 2) e10
        refine go_call (m' := 70) (as := [.ref th, .int 119, .int (zI S9 1 a1)]) (rest := []) (v := none) (h1 := zhp S10) rfl (by simp only [ie_step, ie_iv, List.drop, zhp_obj (S := S9) b16 (by decide)]; rfl) ⟨rfl, Nat.le_of_ble_eq_true rfl⟩ k10 ?_
        refine go_run 0 (F' := (117, [some (.ref th), some (.ref a1)], [], zhp S10)) rfl ?_
        refine go_run 3 (F' := (121, [some (.ref th), some (.ref a1)], [.int 0, .int 59, .ref th], zhp S10)) rfl ?_
        replace hm := zgd hm
        obtain ⟨b17, hm⟩ := hm
        replace hm := zcV_inv hm
        obtain ⟨S11, e11, hm⟩ := hm
        have k11 := hyX_put (X := X) (d := d + 2) e11
        refine go_call (m' := 70) (as := [.ref th, .int 59, .int 0]) (rest := []) (v := none) (h1 := zhp S11) rfl (by simp only [ie_step, ie_iv, List.drop, zhp_obj (S := S10) b17 (by decide)]; rfl) ⟨rfl, Nat.le_of_ble_eq_true rfl⟩ k11 ?_
        refine go_run 0 (F' := (124, [some (.ref th), some (.ref a1)], [], zhp S11)) rfl ?_
        refine go_run 1 (F' := (160, [some (.ref th), some (.ref a1)], [], zhp S11)) rfl ?_
        cases hm
        exact go_end rfl rfl
      · rw [if_neg q12] at hm
        by_cases q18 : zI S 0 a1 = 4
        · rw [if_pos q18] at hm
          refine go_step rfl (F := (127, [some (.ref th), some (.ref a1)], [], zhp S)) (by simp only [ie_step, q18]; rfl) ?_
          refine go_run 0 (F' := (127, [some (.ref th), some (.ref a1)], [], zhp S)) rfl ?_
          refine go_run 3 (F' := (131, [some (.ref th), some (.ref a1)], [.int 0, .int 33, .ref th], zhp S)) rfl ?_
          replace hm := zgd hm
          obtain ⟨b19, hm⟩ := hm
          replace hm := zcV_inv hm
          obtain ⟨S12, e12, hm⟩ := hm
          have k12 := hyX_put (X := X) (d := d + 2) e12
          refine go_call (m' := 70) (as := [.ref th, .int 33, .int 0]) (rest := []) (v := none) (h1 := zhp S12) rfl (by simp only [ie_step, ie_iv, List.drop, zhp_obj (S := S) b19 (by decide)]; rfl) ⟨rfl, Nat.le_of_ble_eq_true rfl⟩ k12 ?_
          refine go_run 0 (F' := (134, [some (.ref th), some (.ref a1)], [], zhp S12)) rfl ?_
          refine go_run 3 (F' := (138, [some (.ref th), some (.ref a1)], [.ref a1, .int 48, .ref th], zhp S12)) rfl ?_
          replace hm := zgd hm
          obtain ⟨b20, hm⟩ := hm
          refine go_hg (v := .int (zI S12 2 a1)) rfl b20 (by decide) rfl ?_
          refine go_run 0 (F' := (141, [some (.ref th), some (.ref a1)], [.int (zI S12 2 a1), .int 48, .ref th], zhp S12)) rfl ?_
          replace hm := zgd hm
          obtain ⟨b21, hm⟩ := hm
          replace hm := zcV_inv hm
          obtain ⟨S13, e13, hm⟩ := hm
          have k13 := hyX_put (X := X) (d := d + 2) e13
          refine go_call (m' := 70) (as := [.ref th, .int 48, .int (zI S12 2 a1)]) (rest := []) (v := none) (h1 := zhp S13) rfl (by simp only [ie_step, ie_iv, List.drop, zhp_obj (S := S12) b21 (by decide)]; rfl) ⟨rfl, Nat.le_of_ble_eq_true rfl⟩ k13 ?_
          refine go_run 0 (F' := (144, [some (.ref th), some (.ref a1)], [], zhp S13)) rfl ?_
          refine go_run 2 (F' := (146, [some (.ref th), some (.ref a1)], [.ref a1, .ref th], zhp S13)) rfl ?_
          replace hm := zgd hm
          obtain ⟨b22, hm⟩ := hm
          refine go_hg (v := .int (zI S13 3 a1)) rfl b22 (by decide) rfl ?_
          refine go_run 0 (F' := (149, [some (.ref th), some (.ref a1)], [.int (zI S13 3 a1), .ref th], zhp S13)) rfl ?_
          replace hm := zgd hm
          obtain ⟨b23, hm⟩ := hm
          replace hm := zcV_inv hm
          obtain ⟨S14, e14, hm⟩ := hm
          have k14 := hyX_putTo (X := X) (d := d + 1) e14
          refine go_call (m' := 72) (as := [.ref th, .int (zI S13 3 a1)]) (rest := []) (v := none) (h1 := zhp S14) rfl (by simp only [ie_step, ie_iv, List.drop, zhp_obj (S := S13) b23 (by decide)]; rfl) ⟨rfl, Nat.le_of_ble_eq_true rfl⟩ k14 ?_
          refine go_run 0 (F' := (152, [some (.ref th), some (.ref a1)], [], zhp S14)) rfl ?_
          refine go_run 1 (F' := (160, [some (.ref th), some (.ref a1)], [], zhp S14)) rfl ?_
          cases hm
          exact go_end rfl rfl
        · rw [if_neg q18] at hm
          refine go_step rfl (F := (155, [some (.ref th), some (.ref a1)], [], zhp S)) (sw_69_4 q2 q8 q12 q18) ?_
          refine go_run 0 (F' := (155, [some (.ref th), some (.ref a1)], [], zhp S)) rfl ?_
          refine go_run 2 (F' := (157, [some (.ref th), some (.ref a1)], [.ref a1, .ref th], zhp S)) rfl ?_
          replace hm := zgd hm
          obtain ⟨b24, hm⟩ := hm
          replace hm := zcV_inv hm
          obtain ⟨S15, e15, hm⟩ := hm
          have k15 := hyX_writeHeadOfParts (X := X) (d := d) e15
          refine go_call (m' := 73) (as := [.ref th, .ref a1]) (rest := []) (v := none) (h1 := zhp S15) rfl (by simp only [ie_step, ie_iv, List.drop, zhp_obj (S := S) b24 (by decide)]; rfl) ⟨rfl, Nat.le_of_ble_eq_true rfl⟩ k15 ?_
          refine go_run 0 (F' := (160, [some (.ref th), some (.ref a1)], [], zhp S15)) rfl ?_
          refine go_run 0 (F' := (160, [some (.ref th), some (.ref a1)], [], zhp S15)) rfl ?_
          cases hm
          exact go_end rfl rfl
theorem ehyX_writeHead {th : Nat} {n : Nat} {S : hS} {p1 : Option Nat} {S' : hS} (hm : yX_writeHead n S th p1 = some S') : Ex S S' := by
  unfold yX_writeHead at hm
  have hx : Ex S S := Ex_r
  replace hm := zob_inv hm
  obtain ⟨a1, rfl, hm⟩ := hm
  replace hm := zgd hm
  obtain ⟨b1, hm⟩ := hm
  by_cases q2 : zI S 0 a1 = 1
  · rw [if_pos q2] at hm
    replace hm := zgd hm
    obtain ⟨b3, hm⟩ := hm
    replace hm := zcV_inv hm
    obtain ⟨S2, e2, hm⟩ := hm
    have hx := Ex_t (T := S) hx (ehyX_put e2)
    replace hm := zgd hm
    obtain ⟨b4, hm⟩ := hm
    replace hm := zcV_inv hm
    obtain ⟨S3, e3, hm⟩ := hm
    have hx := Ex_t (T := S2) hx (ehyX_put e3)
    replace hm := zgd hm
    obtain ⟨b5, hm⟩ := hm
    replace hm := zgd hm
    obtain ⟨b6, hm⟩ := hm
    replace hm := zcV_inv hm
    obtain ⟨S4, e4, hm⟩ := hm
    have hx := Ex_t (T := S3) hx (ehyX_putExpression e4)
    replace hm := zgd hm
    obtain ⟨b7, hm⟩ := hm
    replace hm := zcV_inv hm
    obtain ⟨S5, e5, hm⟩ := hm
    have hx := Ex_t (T := S4) hx (ehyX_put e5)
    cases hm
    exact hx
  · rw [if_neg q2] at hm
    by_cases q8 : zI S 0 a1 = 2
    · rw [if_pos q8] at hm
      replace hm := zgd hm
      obtain ⟨b9, hm⟩ := hm
      replace hm := zcV_inv hm
      obtain ⟨S6, e6, hm⟩ := hm
      have hx := Ex_t (T := S) hx (ehyX_putExpression e6)
      replace hm := zgd hm
      obtain ⟨b10, hm⟩ := hm
      replace hm := zgd hm
      obtain ⟨b11, hm⟩ := hm
      replace hm := zcV_inv hm
      obtain ⟨S7, e7, hm⟩ := hm
      have hx := Ex_t (T := S6) hx (ehyX_putTo e7)
      cases hm
      exact hx
    · rw [if_neg q8] at hm
      by_cases q12 : zI S 0 a1 = 3
      · rw [if_pos q12] at hm
        replace hm := zgd hm
        obtain ⟨b13, hm⟩ := hm
        replace hm := zcV_inv hm
        obtain ⟨S8, e8, hm⟩ := hm
        have hx := Ex_t (T := S) hx (ehyX_put e8)
        replace hm := zgd hm
        obtain ⟨b14, hm⟩ := hm
        replace hm := zcV_inv hm
        obtain ⟨S9, e9, hm⟩ := hm
        have hx := Ex_t (T := S8) hx (ehyX_put e9)
        replace hm := zgd hm
        obtain ⟨b15, hm⟩ := hm
        replace hm := zgd hm
        obtain ⟨b16, hm⟩ := hm
        replace hm := zcV_inv hm
        obtain ⟨S10, e10, hm⟩ := hm
        have hx := Ex_t (T := S9) hx (ehyX_put e10)
        replace hm := zgd hm
        obtain ⟨b17, hm⟩ := hm
        replace hm := zcV_inv hm
        obtain ⟨S11, e11, hm⟩ := hm
        have hx := Ex_t (T := S10) hx (ehyX_put e11)
        cases hm
        exact hx
      · rw [if_neg q12] at hm
        by_cases q18 : zI S 0 a1 = 4
        · rw [if_pos q18] at hm
          replace hm := zgd hm
          obtain ⟨b19, hm⟩ := hm
          replace hm := zcV_inv hm
          obtain ⟨S12, e12, hm⟩ := hm
          have hx := Ex_t (T := S) hx (ehyX_put e12)
          replace hm := zgd hm
          obtain ⟨b20, hm⟩ := hm
          replace hm := zgd hm
          obtain ⟨b21, hm⟩ := hm
          replace hm := zcV_inv hm
          obtain ⟨S13, e13, hm⟩ := hm
          have hx := Ex_t (T := S12) hx (ehyX_put e13)
          replace hm := zgd hm
          obtain ⟨b22, hm⟩ := hm
          replace hm := zgd hm
          obtain ⟨b23, hm⟩ := hm
          replace hm := zcV_inv hm
          obtain ⟨S14, e14, hm⟩ := hm
          have hx := Ex_t (T := S13) hx (ehyX_putTo e14)
          cases hm
          exact hx
        · rw [if_neg q18] at hm
          replace hm := zgd hm
          obtain ⟨b24, hm⟩ := hm
          replace hm := zcV_inv hm
          obtain ⟨S15, e15, hm⟩ := hm
          have hx := Ex_t (T := S) hx (ehyX_writeHeadOfParts e15)
          cases hm
          exact hx
def yX_writeRow_56 (th : Nat) (rc : hS → Nat → Option Nat → Int32 → Option (hS)) (rec9 : hS → Int32 → Option Nat → Option (hS)) (rec21 : hS → Int32 → Option Nat → Int32 → Option (hS)) (n : Nat) (S : hS) (l2 : Int32) (p3 : Option Nat) (l4 : Int32) : Option (hS) := (if ztg S th = 4 then (zcV (yX_put S th 123 0) fun S1 => (zob p3 fun a2 => (if ztg S1 a2 = 2 then (zlb (zR S1 6 a2) fun o3 => (zob o3 fun a4 => (if zar S1 a4 then (if ib l4 (zLen S1 a4) then (zlb ((zAR S1 a4) (Int32.toNatClampNeg l4)) fun o5 => (if ztg S1 th = 4 then (zcV (rc S1 th o5 (l2 + 1)) fun S6 => (if ztg S6 th = 4 then (zcV (yX_put S6 th 125 0) fun S7 => (rec21 S7 l2 (some a2) (l4 + 1))) else none)) else none)) else none) else none))) else none))) else none)
theorem hyX_writeRow_56 {X : ie_X} {e th : Nat} {rc : hS → Nat → Option Nat → Int32 → Option (hS)} {rec9 : hS → Int32 → Option Nat → Option (hS)} {rec21 : hS → Int32 → Option Nat → Int32 → Option (hS)} (hrc : ∀ {S : hS} {th : Nat} {z1 : Option Nat} {z2 : Int32} {S' : hS}, rc S th z1 z2 = some S' → Go X (e + 3) 68 (0, ie_en 68 [.ref th, va_rf z1, .int z2], [], zhp S) (.inl none) (zhp S')) (hr9 : ∀ {J : hS} {m2 : Int32} {m3 : Option Nat} {w1 w4 : Option Value} {J' : hS}, rec9 J m2 m3 = some J' → Go X (e + 4) 68 (9, [some (.ref th), w1, some (.int m2), some (va_rf m3), w4], [], zhp J) (.inl none) (zhp J')) (hr21 : ∀ {J : hS} {m2 : Int32} {m3 : Option Nat} {m4 : Int32} {w1 : Option Value} {J' : hS}, rec21 J m2 m3 m4 = some J' → Go X (e + 4) 68 (21, [some (.ref th), w1, some (.int m2), some (va_rf m3), some (.int m4)], [], zhp J) (.inl none) (zhp J')) {n : Nat} {S : hS} {l2 : Int32} {p3 : Option Nat} {l4 : Int32} {u1 : Option Value} {S' : hS} (hm : yX_writeRow_56 th rc rec9 rec21 n S l2 p3 l4 = some S') : Go X (e + 4) 68 (56, [some (.ref th), u1, some (.int l2), some (va_rf p3), some (.int l4)], [], zhp S) (.inl none) (zhp S') := by
  unfold yX_writeRow_56 at hm
  refine go_run 0 (F' := (56, [some (.ref th), u1, some (.int l2), some (va_rf p3), some (.int l4)], [], zhp S)) rfl ?_
  refine go_run 3 (F' := (60, [some (.ref th), u1, some (.int l2), some (va_rf p3), some (.int l4)], [.int 0, .int 123, .ref th], zhp S)) rfl ?_
  replace hm := zgd hm
  obtain ⟨b1, hm⟩ := hm
  replace hm := zcV_inv hm
  obtain ⟨S1, e1, hm⟩ := hm
  have k1 := hyX_put (X := X) (d := e + 3) e1
  refine go_call (m' := 70) (as := [.ref th, .int 123, .int 0]) (rest := []) (v := none) (h1 := zhp S1) rfl (by simp only [ie_step, ie_iv, List.drop, zhp_obj (S := S) b1 (by decide)]; rfl) ⟨rfl, Nat.le_of_ble_eq_true rfl⟩ k1 ?_
  refine go_run 0 (F' := (63, [some (.ref th), u1, some (.int l2), some (va_rf p3), some (.int l4)], [], zhp S1)) rfl ?_
  refine go_run 1 (F' := (64, [some (.ref th), u1, some (.int l2), some (va_rf p3), some (.int l4)], [.ref th], zhp S1)) rfl ?_
  refine go_al rfl rfl ?_
  refine go_run 0 (F' := (65, [some (.ref th), u1, some (.int l2), some (va_rf p3), some (.int l4)], [va_rf p3, .ref th], zhp S1)) rfl ?_
  replace hm := zob_inv hm
  obtain ⟨a2, rfl, hm⟩ := hm
  replace hm := zgd hm
  obtain ⟨b2, hm⟩ := hm
  replace hm := zlb_inv hm
  obtain ⟨o3, eo3, hm⟩ := hm
  refine go_hg (v := va_rf o3) rfl b2 (by decide) (by rw [← eo3]; rfl) ?_
  refine go_run 1 (F' := (70, [some (.ref th), u1, some (.int l2), some (.ref a2), some (.int l4)], [.int l4, va_rf o3, .ref th], zhp S1)) rfl ?_
  replace hm := zob_inv hm
  obtain ⟨a4, rfl, hm⟩ := hm
  replace hm := zgd hm
  obtain ⟨b3, hm⟩ := hm
  replace hm := zgd hm
  obtain ⟨b4, hm⟩ := hm
  replace hm := zlb_inv hm
  obtain ⟨o5, eo5, hm⟩ := hm
  refine go_haald rfl b3 b4 rfl eo5 ?_
  refine go_run 3 (F' := (74, [some (.ref th), u1, some (.int l2), some (.ref a2), some (.int l4)], [.int (l2 + 1), va_rf o5, .ref th], zhp S1)) rfl ?_
  replace hm := zgd hm
  obtain ⟨b5, hm⟩ := hm
  replace hm := zcV_inv hm
  obtain ⟨S6, e6, hm⟩ := hm
  have k6 := hrc e6
  refine go_call (m' := 68) (as := [.ref th, va_rf o5, .int (l2 + 1)]) (rest := []) (v := none) (h1 := zhp S6) rfl (by simp only [ie_step, ie_iv, List.drop, zhp_obj (S := S1) b5 (by decide)]; rfl) ⟨by cases o5 <;> rfl, by cases o5 <;> exact Nat.le_of_ble_eq_true rfl⟩ k6 ?_
  refine go_run 0 (F' := (77, [some (.ref th), u1, some (.int l2), some (.ref a2), some (.int l4)], [], zhp S6)) rfl ?_
  refine go_run 3 (F' := (81, [some (.ref th), u1, some (.int l2), some (.ref a2), some (.int l4)], [.int 0, .int 125, .ref th], zhp S6)) rfl ?_
  replace hm := zgd hm
  obtain ⟨b6, hm⟩ := hm
  replace hm := zcV_inv hm
  obtain ⟨S7, e7, hm⟩ := hm
  have k7 := hyX_put (X := X) (d := e + 3) e7
  refine go_call (m' := 70) (as := [.ref th, .int 125, .int 0]) (rest := []) (v := none) (h1 := zhp S7) rfl (by simp only [ie_step, ie_iv, List.drop, zhp_obj (S := S6) b6 (by decide)]; rfl) ⟨rfl, Nat.le_of_ble_eq_true rfl⟩ k7 ?_
  refine go_run 0 (F' := (84, [some (.ref th), u1, some (.int l2), some (.ref a2), some (.int l4)], [], zhp S7)) rfl ?_
  refine go_run 2 (F' := (21, [some (.ref th), u1, some (.int l2), some (va_rf (some a2)), some (.int (l4 + 1))], [], zhp S7)) rfl ?_
  exact hr21 hm
theorem ehyX_writeRow_56 {th : Nat} {rc : hS → Nat → Option Nat → Int32 → Option (hS)} {rec9 : hS → Int32 → Option Nat → Option (hS)} {rec21 : hS → Int32 → Option Nat → Int32 → Option (hS)} (hrc : ∀ {S : hS} {th : Nat} {z1 : Option Nat} {z2 : Int32} {S' : hS}, rc S th z1 z2 = some S' → Ex S S') (hr9 : ∀ {J : hS} {m2 : Int32} {m3 : Option Nat} {J' : hS}, rec9 J m2 m3 = some J' → Ex J J') (hr21 : ∀ {J : hS} {m2 : Int32} {m3 : Option Nat} {m4 : Int32} {J' : hS}, rec21 J m2 m3 m4 = some J' → Ex J J') {n : Nat} {S : hS} {l2 : Int32} {p3 : Option Nat} {l4 : Int32} {S' : hS} (hm : yX_writeRow_56 th rc rec9 rec21 n S l2 p3 l4 = some S') : Ex S S' := by
  unfold yX_writeRow_56 at hm
  have hx : Ex S S := Ex_r
  replace hm := zgd hm
  obtain ⟨b1, hm⟩ := hm
  replace hm := zcV_inv hm
  obtain ⟨S1, e1, hm⟩ := hm
  have hx := Ex_t (T := S) hx (ehyX_put e1)
  replace hm := zob_inv hm
  obtain ⟨a2, rfl, hm⟩ := hm
  replace hm := zgd hm
  obtain ⟨b2, hm⟩ := hm
  replace hm := zlb_inv hm
  obtain ⟨o3, eo3, hm⟩ := hm
  replace hm := zob_inv hm
  obtain ⟨a4, rfl, hm⟩ := hm
  replace hm := zgd hm
  obtain ⟨b3, hm⟩ := hm
  replace hm := zgd hm
  obtain ⟨b4, hm⟩ := hm
  replace hm := zlb_inv hm
  obtain ⟨o5, eo5, hm⟩ := hm
  replace hm := zgd hm
  obtain ⟨b5, hm⟩ := hm
  replace hm := zcV_inv hm
  obtain ⟨S6, e6, hm⟩ := hm
  have hx := Ex_t (T := S1) hx (hrc e6)
  replace hm := zgd hm
  obtain ⟨b6, hm⟩ := hm
  replace hm := zcV_inv hm
  obtain ⟨S7, e7, hm⟩ := hm
  have hx := Ex_t (T := S6) hx (ehyX_put e7)
  refine Ex_t ?_ (hr21 hm)
  exact hx
def yX_writeRow_21 (th : Nat) (rc : hS → Nat → Option Nat → Int32 → Option (hS)) (rec9 : hS → Int32 → Option Nat → Option (hS)) : Nat → hS → Int32 → Option Nat → Int32 → Option (hS)
  | 0, _, _, _, _ => none
  | n + 1, S, l2, p3, l4 => (zob p3 fun a1 => (if ztg S a1 = 2 then (zlb (zR S 6 a1) fun o2 => (zob o2 fun a3 => (if zal S a3 then (if Int32.ofNat (zLen S a3) ≤ l4 then (zlb (zR S 8 a1) fun o4 => (rec9 S l2 o4)) else (zcP (yA_hasPart S a1 l4) fun S5 v5 => (if v5 = 0 then (yX_writeRow_21 th rc rec9 n S5 l2 (some a1) (l4 + 1)) else (if ztg S5 a1 = 2 then (if zI S5 0 a1 = 5 then (if ztg S5 th = 4 then (zcV (yX_put S5 th 48 l4) fun S6 => (yX_writeRow_56 th rc rec9 (yX_writeRow_21 th rc rec9 n) n S6 l2 (some a1) l4)) else none) else (yX_writeRow_56 th rc rec9 (yX_writeRow_21 th rc rec9 n) n S5 l2 (some a1) l4)) else none)))) else none))) else none))
theorem hyX_writeRow_21 {X : ie_X} {e th : Nat} {rc : hS → Nat → Option Nat → Int32 → Option (hS)} {rec9 : hS → Int32 → Option Nat → Option (hS)} (hrc : ∀ {S : hS} {th : Nat} {z1 : Option Nat} {z2 : Int32} {S' : hS}, rc S th z1 z2 = some S' → Go X (e + 3) 68 (0, ie_en 68 [.ref th, va_rf z1, .int z2], [], zhp S) (.inl none) (zhp S')) (hr9 : ∀ {J : hS} {m2 : Int32} {m3 : Option Nat} {w1 w4 : Option Value} {J' : hS}, rec9 J m2 m3 = some J' → Go X (e + 4) 68 (9, [some (.ref th), w1, some (.int m2), some (va_rf m3), w4], [], zhp J) (.inl none) (zhp J')) : ∀ (n : Nat) {S : hS} {l2 : Int32} {p3 : Option Nat} {l4 : Int32} {u1 : Option Value} {S' : hS}, yX_writeRow_21 th rc rec9 n S l2 p3 l4 = some S' → Go X (e + 4) 68 (21, [some (.ref th), u1, some (.int l2), some (va_rf p3), some (.int l4)], [], zhp S) (.inl none) (zhp S') := by
  intro n
  induction n with
  | zero => intro S l2 p3 l4 u1 S'  hm; cases hm
  | succ n ih =>
    intro S l2 p3 l4 u1 S'  hm
    unfold yX_writeRow_21 at hm
    refine go_run 0 (F' := (21, [some (.ref th), u1, some (.int l2), some (va_rf p3), some (.int l4)], [], zhp S)) rfl ?_
    refine go_run 1 (F' := (23, [some (.ref th), u1, some (.int l2), some (va_rf p3), some (.int l4)], [.int l4], zhp S)) rfl ?_
    refine go_al rfl rfl ?_
    refine go_run 0 (F' := (24, [some (.ref th), u1, some (.int l2), some (va_rf p3), some (.int l4)], [va_rf p3, .int l4], zhp S)) rfl ?_
    replace hm := zob_inv hm
    obtain ⟨a1, rfl, hm⟩ := hm
    replace hm := zgd hm
    obtain ⟨b1, hm⟩ := hm
    replace hm := zlb_inv hm
    obtain ⟨o2, eo2, hm⟩ := hm
    refine go_hg (v := va_rf o2) rfl b1 (by decide) (by rw [← eo2]; rfl) ?_
    refine go_run 0 (F' := (27, [some (.ref th), u1, some (.int l2), some (.ref a1), some (.int l4)], [va_rf o2, .int l4], zhp S)) rfl ?_
    replace hm := zob_inv hm
    obtain ⟨a3, rfl, hm⟩ := hm
    replace hm := zgd hm
    obtain ⟨b2, hm⟩ := hm
    refine go_hlen rfl b2 ?_
    refine go_run 0 (F' := (28, [some (.ref th), u1, some (.int l2), some (.ref a1), some (.int l4)], [.int (Int32.ofNat (zLen S a3)), .int l4], zhp S)) rfl ?_
    refine go_step rfl rfl ?_
    by_cases q3 : Int32.ofNat (zLen S a3) ≤ l4
    · rw [if_pos q3] at hm ⊢
      refine go_run 0 (F' := (90, [some (.ref th), u1, some (.int l2), some (.ref a1), some (.int l4)], [], zhp S)) rfl ?_
      refine go_run 1 (F' := (91, [some (.ref th), u1, some (.int l2), some (.ref a1), some (.int l4)], [.ref a1], zhp S)) rfl ?_
      replace hm := zlb_inv hm
      obtain ⟨o4, eo4, hm⟩ := hm
      refine go_hg (v := va_rf o4) rfl b1 (by decide) (by rw [← eo4]; rfl) ?_
      refine go_run 0 (F' := (94, [some (.ref th), u1, some (.int l2), some (.ref a1), some (.int l4)], [va_rf o4], zhp S)) rfl ?_
      refine go_as rfl ?_
      refine go_run 1 (F' := (9, [some (.ref th), u1, some (.int l2), some (va_rf o4), some (.int l4)], [], zhp S)) rfl ?_
      exact hr9 hm
    · rw [if_neg q3] at hm ⊢
      refine go_run 0 (F' := (31, [some (.ref th), u1, some (.int l2), some (.ref a1), some (.int l4)], [], zhp S)) rfl ?_
      refine go_run 2 (F' := (34, [some (.ref th), u1, some (.int l2), some (.ref a1), some (.int l4)], [.int l4, .ref a1], zhp S)) rfl ?_
      replace hm := zcP_inv hm
      obtain ⟨S5, v5, e5, hm⟩ := hm
      have k5 := hyA_hasPart (X := X) (d := e + 3) e5
      refine go_call (m' := 55) (as := [.ref a1, .int l4]) (rest := []) (v := some (.int v5)) (h1 := zhp S5) rfl (by simp only [ie_step, ie_iv, List.drop, zhp_obj (S := S) b1 (by decide)]; rfl) ⟨rfl, Nat.le_of_ble_eq_true rfl⟩ k5 ?_
      refine go_run 0 (F' := (37, [some (.ref th), u1, some (.int l2), some (.ref a1), some (.int l4)], [.int v5], zhp S5)) rfl ?_
      refine go_run 0 (F' := (37, [some (.ref th), u1, some (.int l2), some (.ref a1), some (.int l4)], [.int v5], zhp S5)) rfl ?_
      refine go_step rfl rfl ?_
      by_cases q4 : v5 = 0
      · rw [if_pos q4] at hm ⊢
        refine go_run 0 (F' := (84, [some (.ref th), u1, some (.int l2), some (.ref a1), some (.int l4)], [], zhp S5)) rfl ?_
        refine go_run 2 (F' := (21, [some (.ref th), u1, some (.int l2), some (va_rf (some a1)), some (.int (l4 + 1))], [], zhp S5)) rfl ?_
        exact ih hm
      · rw [if_neg q4] at hm ⊢
        refine go_run 0 (F' := (40, [some (.ref th), u1, some (.int l2), some (.ref a1), some (.int l4)], [], zhp S5)) rfl ?_
        refine go_run 1 (F' := (41, [some (.ref th), u1, some (.int l2), some (.ref a1), some (.int l4)], [.ref a1], zhp S5)) rfl ?_
        replace hm := zgd hm
        obtain ⟨b5, hm⟩ := hm
        refine go_hg (v := .int (zI S5 0 a1)) rfl b5 (by decide) rfl ?_
        refine go_run 1 (F' := (45, [some (.ref th), u1, some (.int l2), some (.ref a1), some (.int l4)], [.int 5, .int (zI S5 0 a1)], zhp S5)) rfl ?_
        refine go_step rfl rfl ?_
        by_cases q6 : zI S5 0 a1 = 5
        · rw [if_pos q6] at hm ⊢
          refine go_run 0 (F' := (48, [some (.ref th), u1, some (.int l2), some (.ref a1), some (.int l4)], [], zhp S5)) rfl ?_
          refine go_run 3 (F' := (53, [some (.ref th), u1, some (.int l2), some (.ref a1), some (.int l4)], [.int l4, .int 48, .ref th], zhp S5)) rfl ?_
          replace hm := zgd hm
          obtain ⟨b7, hm⟩ := hm
          replace hm := zcV_inv hm
          obtain ⟨S6, e6, hm⟩ := hm
          have k6 := hyX_put (X := X) (d := e + 3) e6
          refine go_call (m' := 70) (as := [.ref th, .int 48, .int l4]) (rest := []) (v := none) (h1 := zhp S6) rfl (by simp only [ie_step, ie_iv, List.drop, zhp_obj (S := S5) b7 (by decide)]; rfl) ⟨rfl, Nat.le_of_ble_eq_true rfl⟩ k6 ?_
          refine go_run 0 (F' := (56, [some (.ref th), u1, some (.int l2), some (.ref a1), some (.int l4)], [], zhp S6)) rfl ?_
          refine go_run 0 (F' := (56, [some (.ref th), u1, some (.int l2), some (va_rf (some a1)), some (.int l4)], [], zhp S6)) rfl ?_
          exact hyX_writeRow_56 hrc hr9 (fun z => ih z) hm
        · rw [if_neg q6] at hm ⊢
          refine go_run 0 (F' := (56, [some (.ref th), u1, some (.int l2), some (.ref a1), some (.int l4)], [], zhp S5)) rfl ?_
          refine go_run 0 (F' := (56, [some (.ref th), u1, some (.int l2), some (va_rf (some a1)), some (.int l4)], [], zhp S5)) rfl ?_
          exact hyX_writeRow_56 hrc hr9 (fun z => ih z) hm
theorem ehyX_writeRow_21 {th : Nat} {rc : hS → Nat → Option Nat → Int32 → Option (hS)} {rec9 : hS → Int32 → Option Nat → Option (hS)} (hrc : ∀ {S : hS} {th : Nat} {z1 : Option Nat} {z2 : Int32} {S' : hS}, rc S th z1 z2 = some S' → Ex S S') (hr9 : ∀ {J : hS} {m2 : Int32} {m3 : Option Nat} {J' : hS}, rec9 J m2 m3 = some J' → Ex J J') : ∀ (n : Nat) {S : hS} {l2 : Int32} {p3 : Option Nat} {l4 : Int32} {S' : hS}, yX_writeRow_21 th rc rec9 n S l2 p3 l4 = some S' → Ex S S' := by
  intro n
  induction n with
  | zero => intro S l2 p3 l4 S'  hm; cases hm
  | succ n ih =>
    intro S l2 p3 l4 S'  hm
    unfold yX_writeRow_21 at hm
    have hx : Ex S S := Ex_r
    replace hm := zob_inv hm
    obtain ⟨a1, rfl, hm⟩ := hm
    replace hm := zgd hm
    obtain ⟨b1, hm⟩ := hm
    replace hm := zlb_inv hm
    obtain ⟨o2, eo2, hm⟩ := hm
    replace hm := zob_inv hm
    obtain ⟨a3, rfl, hm⟩ := hm
    replace hm := zgd hm
    obtain ⟨b2, hm⟩ := hm
    by_cases q3 : Int32.ofNat (zLen S a3) ≤ l4
    · rw [if_pos q3] at hm
      replace hm := zlb_inv hm
      obtain ⟨o4, eo4, hm⟩ := hm
      refine Ex_t ?_ (hr9 hm)
      exact hx
    · rw [if_neg q3] at hm
      replace hm := zcP_inv hm
      obtain ⟨S5, v5, e5, hm⟩ := hm
      have hx := Ex_t (T := S) hx (ehyA_hasPart e5)
      by_cases q4 : v5 = 0
      · rw [if_pos q4] at hm
        refine Ex_t ?_ (ih hm)
        exact hx
      · rw [if_neg q4] at hm
        replace hm := zgd hm
        obtain ⟨b5, hm⟩ := hm
        by_cases q6 : zI S5 0 a1 = 5
        · rw [if_pos q6] at hm
          replace hm := zgd hm
          obtain ⟨b7, hm⟩ := hm
          replace hm := zcV_inv hm
          obtain ⟨S6, e6, hm⟩ := hm
          have hx := Ex_t (T := S5) hx (ehyX_put e6)
          refine Ex_t ?_ (ehyX_writeRow_56 hrc hr9 (fun z => ih z) hm)
          exact hx
        · rw [if_neg q6] at hm
          refine Ex_t ?_ (ehyX_writeRow_56 hrc hr9 (fun z => ih z) hm)
          exact hx
def yX_writeRow_9 (th : Nat) (rc : hS → Nat → Option Nat → Int32 → Option (hS)) : Nat → hS → Int32 → Option Nat → Option (hS)
  | 0, _, _, _ => none
  | n + 1, S, l2, p3 => (zoc p3 (some S) fun a1 => (if ztg S th = 4 then (zcV (yX_writeHead n S th (some a1)) fun S2 => (yX_writeRow_21 th rc (yX_writeRow_9 th rc n) n S2 l2 (some a1) 0)) else none))
theorem hyX_writeRow_9 {X : ie_X} {e th : Nat} {rc : hS → Nat → Option Nat → Int32 → Option (hS)} (hrc : ∀ {S : hS} {th : Nat} {z1 : Option Nat} {z2 : Int32} {S' : hS}, rc S th z1 z2 = some S' → Go X (e + 3) 68 (0, ie_en 68 [.ref th, va_rf z1, .int z2], [], zhp S) (.inl none) (zhp S')) : ∀ (n : Nat) {S : hS} {l2 : Int32} {p3 : Option Nat} {u1 u4 : Option Value} {S' : hS}, yX_writeRow_9 th rc n S l2 p3 = some S' → Go X (e + 4) 68 (9, [some (.ref th), u1, some (.int l2), some (va_rf p3), u4], [], zhp S) (.inl none) (zhp S') := by
  intro n
  induction n with
  | zero => intro S l2 p3 u1 u4 S'  hm; cases hm
  | succ n ih =>
    intro S l2 p3 u1 u4 S'  hm
    unfold yX_writeRow_9 at hm
    refine go_run 0 (F' := (9, [some (.ref th), u1, some (.int l2), some (va_rf p3), u4], [], zhp S)) rfl ?_
    refine go_run 0 (F' := (9, [some (.ref th), u1, some (.int l2), some (va_rf p3), u4], [], zhp S)) rfl ?_
    refine go_al rfl rfl ?_
    refine go_run 0 (F' := (10, [some (.ref th), u1, some (.int l2), some (va_rf p3), u4], [va_rf p3], zhp S)) rfl ?_
    cases p3 with
    | none =>
      replace hm := zoc_n hm
      refine go_step rfl rfl ?_
      refine go_run 0 (F' := (98, [some (.ref th), u1, some (.int l2), some (.null), u4], [], zhp S)) rfl ?_
      refine go_run 0 (F' := (98, [some (.ref th), u1, some (.int l2), some (.null), u4], [], zhp S)) rfl ?_
      cases hm
      exact go_end rfl rfl
    | some a1 =>
      replace hm := zoc_s hm
      refine go_step rfl rfl ?_
      refine go_run 0 (F' := (13, [some (.ref th), u1, some (.int l2), some (.ref a1), u4], [], zhp S)) rfl ?_
      refine go_run 2 (F' := (15, [some (.ref th), u1, some (.int l2), some (.ref a1), u4], [.ref a1, .ref th], zhp S)) rfl ?_
      replace hm := zgd hm
      obtain ⟨b1, hm⟩ := hm
      replace hm := zcV_inv hm
      obtain ⟨S2, e2, hm⟩ := hm
      have k2 := hyX_writeHead (X := X) (d := e) e2
      refine go_call (m' := 69) (as := [.ref th, .ref a1]) (rest := []) (v := none) (h1 := zhp S2) rfl (by simp only [ie_step, ie_iv, List.drop, zhp_obj (S := S) b1 (by decide)]; rfl) ⟨rfl, Nat.le_of_ble_eq_true rfl⟩ k2 ?_
      refine go_run 0 (F' := (18, [some (.ref th), u1, some (.int l2), some (.ref a1), u4], [], zhp S2)) rfl ?_
      refine go_run 2 (F' := (21, [some (.ref th), u1, some (.int l2), some (va_rf (some a1)), some (.int 0)], [], zhp S2)) rfl ?_
      exact hyX_writeRow_21 hrc (fun z => ih z) n hm
theorem ehyX_writeRow_9 {th : Nat} {rc : hS → Nat → Option Nat → Int32 → Option (hS)} (hrc : ∀ {S : hS} {th : Nat} {z1 : Option Nat} {z2 : Int32} {S' : hS}, rc S th z1 z2 = some S' → Ex S S') : ∀ (n : Nat) {S : hS} {l2 : Int32} {p3 : Option Nat} {S' : hS}, yX_writeRow_9 th rc n S l2 p3 = some S' → Ex S S' := by
  intro n
  induction n with
  | zero => intro S l2 p3 S'  hm; cases hm
  | succ n ih =>
    intro S l2 p3 S'  hm
    unfold yX_writeRow_9 at hm
    have hx : Ex S S := Ex_r
    cases p3 with
    | none =>
      replace hm := zoc_n hm
      cases hm
      exact hx
    | some a1 =>
      replace hm := zoc_s hm
      replace hm := zgd hm
      obtain ⟨b1, hm⟩ := hm
      replace hm := zcV_inv hm
      obtain ⟨S2, e2, hm⟩ := hm
      have hx := Ex_t (T := S) hx (ehyX_writeHead e2)
      refine Ex_t ?_ (ehyX_writeRow_21 hrc (fun z => ih z) n hm)
      exact hx
def yX_writeRow (n : Nat) : Nat → hS → Nat → Option Nat → Int32 → Option (hS)
  | 0, _, _, _, _ => none
  | r + 1, S, th, p1, x2 => (if x2 ≤ 64 then (yX_writeRow_9 th (yX_writeRow n r) n S x2 p1) else (some S))
theorem hyX_writeRow {X : ie_X} {d : Nat} {n : Nat} : ∀ (r : Nat) {S : hS} {th : Nat} {p1 : Option Nat} {x2 : Int32} {S' : hS}, yX_writeRow n r S th p1 x2 = some S' → Go X (d + 1 * r + 3) 68 (0, ie_en 68 [.ref th, va_rf p1, .int x2], [], zhp S) (.inl none) (zhp S') := by
  intro r
  induction r with
  | zero => intro S th p1 x2 S'  hm; cases hm
  | succ r ih =>
    intro S th p1 x2 S'  hm
    rw [show d + 1 * (r + 1) + 3 = (d + 1 * r) + 4 by omega]
    unfold yX_writeRow at hm
    refine go_run 0 (F' := (0, [some (.ref th), some (va_rf p1), some (.int x2), none, none], [], zhp S)) (by cases p1 <;> rfl) ?_
    refine go_run 2 (F' := (3, [some (.ref th), some (va_rf p1), some (.int x2), none, none], [.int 64, .int x2], zhp S)) rfl ?_
    refine go_step rfl rfl ?_
    by_cases q1 : x2 ≤ 64
    · rw [if_pos q1] at hm ⊢
      refine go_run 0 (F' := (7, [some (.ref th), some (va_rf p1), some (.int x2), none, none], [], zhp S)) rfl ?_
      refine go_run 0 (F' := (7, [some (.ref th), some (va_rf p1), some (.int x2), none, none], [], zhp S)) rfl ?_
      refine go_al rfl rfl ?_
      refine go_run 0 (F' := (8, [some (.ref th), some (va_rf p1), some (.int x2), none, none], [va_rf p1], zhp S)) rfl ?_
      refine go_as rfl ?_
      refine go_run 0 (F' := (9, [some (.ref th), some (va_rf p1), some (.int x2), some (va_rf p1), none], [], zhp S)) rfl ?_
      exact hyX_writeRow_9 ih n hm
    · rw [if_neg q1] at hm ⊢
      refine go_run 0 (F' := (6, [some (.ref th), some (va_rf p1), some (.int x2), none, none], [], zhp S)) rfl ?_
      refine go_run 0 (F' := (6, [some (.ref th), some (va_rf p1), some (.int x2), none, none], [], zhp S)) rfl ?_
      cases hm
      exact go_end rfl rfl
theorem ehyX_writeRow {n : Nat} : ∀ (r : Nat) {S : hS} {th : Nat} {p1 : Option Nat} {x2 : Int32} {S' : hS}, yX_writeRow n r S th p1 x2 = some S' → Ex S S' := by
  intro r
  induction r with
  | zero => intro S th p1 x2 S'  hm; cases hm
  | succ r ih =>
    intro S th p1 x2 S'  hm
    unfold yX_writeRow at hm
    have hx : Ex S S := Ex_r
    by_cases q1 : x2 ≤ 64
    · rw [if_pos q1] at hm
      refine Ex_t ?_ (ehyX_writeRow_9 ih n hm)
      exact hx
    · rw [if_neg q1] at hm
      cases hm
      exact hx
theorem hyX_writeRow_o {X : ie_X} {d n : Nat} {S : hS} {th : Nat} {p1 : Option Nat} {x2 : Int32} {S' : hS} (hm : yX_writeRow n 67 S th p1 x2 = some S') : Go X (d + 70) 68 (0, ie_en 68 [.ref th, va_rf p1, .int x2], [], zhp S) (.inl none) (zhp S') := hyX_writeRow (X := X) (d := d) 67 hm
theorem ehyX_writeRow_o {n : Nat} {S : hS} {th : Nat} {p1 : Option Nat} {x2 : Int32} {S' : hS} (hm : yX_writeRow n 67 S th p1 x2 = some S') : Ex S S' := ehyX_writeRow 67 hm
def yX_write (n : Nat) (S : hS) (th : Nat) (p1 : Option Nat) : Option (hS) := (if ztg S th = 4 then (zcV (yX_writeRow n 67 (szI S 1 th 0) th p1 0) fun S1 => (some S1)) else none)
theorem hyX_write {X : ie_X} {d th : Nat} {n : Nat} {S : hS} {p1 : Option Nat} {S' : hS} (hm : yX_write n S th p1 = some S') : Go X (d + 71) 67 (0, ie_en 67 [.ref th, va_rf p1], [], zhp S) (.inl none) (zhp S') := by
  unfold yX_write at hm
  refine go_run 0 (F' := (0, [some (.ref th), some (va_rf p1)], [], zhp S)) (by cases p1 <;> rfl) ?_
  refine go_run 2 (F' := (2, [some (.ref th), some (va_rf p1)], [.int 0, .ref th], zhp S)) rfl ?_
  replace hm := zgd hm
  obtain ⟨b1, hm⟩ := hm
  refine go_hpI rfl b1 (by decide) rfl (Nat.le_of_ble_eq_true rfl) fs_3_1 ?_
  refine go_run 1 (F' := (6, [some (.ref th), some (va_rf p1)], [.ref th], zhp (szI S 1 th 0))) rfl ?_
  refine go_al rfl rfl ?_
  refine go_run 1 (F' := (8, [some (.ref th), some (va_rf p1)], [.int 0, va_rf p1, .ref th], zhp (szI S 1 th 0))) rfl ?_
  replace hm := zcV_inv hm
  obtain ⟨S1, e1, hm⟩ := hm
  have k1 := hyX_writeRow_o (X := X) (d := d) e1
  refine go_call (m' := 68) (as := [.ref th, va_rf p1, .int 0]) (rest := []) (v := none) (h1 := zhp S1) rfl (by simp only [ie_step, ie_iv, List.drop, zhp_obj (S := szI S 1 th 0) b1 (by decide)]; rfl) ⟨by cases p1 <;> rfl, by cases p1 <;> exact Nat.le_of_ble_eq_true rfl⟩ k1 ?_
  refine go_run 0 (F' := (11, [some (.ref th), some (va_rf p1)], [], zhp S1)) rfl ?_
  refine go_run 0 (F' := (11, [some (.ref th), some (va_rf p1)], [], zhp S1)) rfl ?_
  cases hm
  exact go_end rfl rfl
theorem ehyX_write {th : Nat} {n : Nat} {S : hS} {p1 : Option Nat} {S' : hS} (hm : yX_write n S th p1 = some S') : Ex S S' := by
  unfold yX_write at hm
  have hx : Ex S S := Ex_r
  replace hm := zgd hm
  obtain ⟨b1, hm⟩ := hm
  replace hm := zcV_inv hm
  obtain ⟨S1, e1, hm⟩ := hm
  have hx := Ex_t (T := szI S 1 th 0) hx (ehyX_writeRow_o e1)
  cases hm
  exact hx
def y_clear_2 : Nat → hS → Option Nat → Int32 → Option (hS)
  | 0, _, _, _ => none
  | n + 1, S, p0, l1 => (zob p0 fun a1 => (if zal S a1 then (if Int32.ofNat (zLen S a1) ≤ l1 then (some S) else (if ztg S a1 = 20 then (if ib l1 (zLen S a1) then (y_clear_2 n (szAI S a1 (upd (zAI S a1) (Int32.toNatClampNeg l1) 0)) (some a1) (l1 + 1)) else none) else none)) else none))
theorem hy_clear_2 {X : ie_X} {d : Nat} : ∀ (n : Nat) {S : hS} {p0 : Option Nat} {l1 : Int32} {S' : hS}, y_clear_2 n S p0 l1 = some S' → Go X (d + 0) 75 (2, [some (va_rf p0), some (.int l1)], [], zhp S) (.inl none) (zhp S') := by
  intro n
  induction n with
  | zero => intro S p0 l1 S'  hm; cases hm
  | succ n ih =>
    intro S p0 l1 S'  hm
    unfold y_clear_2 at hm
    refine go_run 0 (F' := (2, [some (va_rf p0), some (.int l1)], [], zhp S)) rfl ?_
    refine go_run 1 (F' := (3, [some (va_rf p0), some (.int l1)], [.int l1], zhp S)) rfl ?_
    refine go_al rfl rfl ?_
    refine go_run 0 (F' := (4, [some (va_rf p0), some (.int l1)], [va_rf p0, .int l1], zhp S)) rfl ?_
    replace hm := zob_inv hm
    obtain ⟨a1, rfl, hm⟩ := hm
    replace hm := zgd hm
    obtain ⟨b1, hm⟩ := hm
    refine go_hlen rfl b1 ?_
    refine go_run 0 (F' := (5, [some (.ref a1), some (.int l1)], [.int (Int32.ofNat (zLen S a1)), .int l1], zhp S)) rfl ?_
    refine go_step rfl rfl ?_
    by_cases q2 : Int32.ofNat (zLen S a1) ≤ l1
    · rw [if_pos q2] at hm ⊢
      refine go_run 0 (F' := (18, [some (.ref a1), some (.int l1)], [], zhp S)) rfl ?_
      refine go_run 0 (F' := (18, [some (.ref a1), some (.int l1)], [], zhp S)) rfl ?_
      cases hm
      exact go_end rfl rfl
    · rw [if_neg q2] at hm ⊢
      refine go_run 0 (F' := (8, [some (.ref a1), some (.int l1)], [], zhp S)) rfl ?_
      refine go_run 3 (F' := (11, [some (.ref a1), some (.int l1)], [.int 0, .int l1, .ref a1], zhp S)) rfl ?_
      replace hm := zgd hm
      obtain ⟨b3, hm⟩ := hm
      replace hm := zgd hm
      obtain ⟨b4, hm⟩ := hm
      refine go_hast0 rfl b3 b4 rfl rfl ?_
      refine go_run 2 (F' := (2, [some (va_rf (some a1)), some (.int (l1 + 1))], [], zhp (szAI S a1 (upd (zAI S a1) (Int32.toNatClampNeg l1) 0)))) rfl ?_
      exact ih hm
theorem ehy_clear_2 : ∀ (n : Nat) {S : hS} {p0 : Option Nat} {l1 : Int32} {S' : hS}, y_clear_2 n S p0 l1 = some S' → Ex S S' := by
  intro n
  induction n with
  | zero => intro S p0 l1 S'  hm; cases hm
  | succ n ih =>
    intro S p0 l1 S'  hm
    unfold y_clear_2 at hm
    have hx : Ex S S := Ex_r
    replace hm := zob_inv hm
    obtain ⟨a1, rfl, hm⟩ := hm
    replace hm := zgd hm
    obtain ⟨b1, hm⟩ := hm
    by_cases q2 : Int32.ofNat (zLen S a1) ≤ l1
    · rw [if_pos q2] at hm
      cases hm
      exact hx
    · rw [if_neg q2] at hm
      replace hm := zgd hm
      obtain ⟨b3, hm⟩ := hm
      replace hm := zgd hm
      obtain ⟨b4, hm⟩ := hm
      refine Ex_t ?_ (ih hm)
      exact hx
def y_clear (n : Nat) (S : hS) (p1 : Option Nat) : Option (hS) := (y_clear_2  n S p1 0)
theorem hy_clear {X : ie_X} {d : Nat} {n : Nat} {S : hS} {p1 : Option Nat} {S' : hS} (hm : y_clear n S p1 = some S') : Go X (d + 0) 75 (0, ie_en 75 [va_rf p1], [], zhp S) (.inl none) (zhp S') := by
  unfold y_clear at hm
  refine go_run 0 (F' := (0, [some (va_rf p1), none], [], zhp S)) (by cases p1 <;> rfl) ?_
  refine go_run 2 (F' := (2, [some (va_rf p1), some (.int 0)], [], zhp S)) rfl ?_
  exact hy_clear_2  n hm
theorem ehy_clear {n : Nat} {S : hS} {p1 : Option Nat} {S' : hS} (hm : y_clear n S p1 = some S') : Ex S S' := by
  unfold y_clear at hm
  have hx : Ex S S := Ex_r
  refine Ex_t ?_ (ehy_clear_2  n hm)
  exact hx
def yP_begin (S : hS) (th : Nat) : Option (hS) := (if ztg S th = 5 then (zlb (zR S 1 th) fun o1 => (some (szI (szR S 2 th o1) 3 th 0))) else none)
theorem hyP_begin {X : ie_X} {d th : Nat} {S : hS} {S' : hS} (hm : yP_begin S th = some S') : Go X (d + 0) 77 (0, ie_en 77 [.ref th], [], zhp S) (.inl none) (zhp S') := by
  unfold yP_begin at hm
  refine go_run 0 (F' := (0, [some (.ref th)], [], zhp S)) rfl ?_
  refine go_run 2 (F' := (2, [some (.ref th)], [.ref th, .ref th], zhp S)) rfl ?_
  replace hm := zgd hm
  obtain ⟨b1, hm⟩ := hm
  replace hm := zlb_inv hm
  obtain ⟨o1, eo1, hm⟩ := hm
  refine go_hg (v := va_rf o1) rfl b1 (by decide) (by rw [← eo1]; rfl) ?_
  refine go_run 0 (F' := (5, [some (.ref th)], [va_rf o1, .ref th], zhp S)) rfl ?_
  refine go_hpR (v := o1) rfl b1 (by decide) (by cases o1 <;> rfl) (Nat.le_of_ble_eq_true rfl) fs_4_2 ?_
  refine go_run 2 (F' := (10, [some (.ref th)], [.int 0, .ref th], zhp (szR S 2 th o1))) rfl ?_
  refine go_hpI rfl b1 (by decide) rfl (Nat.le_of_ble_eq_true rfl) fs_4_3 ?_
  refine go_run 0 (F' := (13, [some (.ref th)], [], zhp (szI (szR S 2 th o1) 3 th 0))) rfl ?_
  cases hm
  exact go_end rfl rfl
theorem ehyP_begin {th : Nat} {S : hS} {S' : hS} (hm : yP_begin S th = some S') : Ex S S' := by
  unfold yP_begin at hm
  have hx : Ex S S := Ex_r
  replace hm := zgd hm
  obtain ⟨b1, hm⟩ := hm
  replace hm := zlb_inv hm
  obtain ⟨o1, eo1, hm⟩ := hm
  cases hm
  exact hx
def yT_beginAgain_60 (th : Nat) : Nat → hS → Option Nat → Int32 → Int32 → Option (hS)
  | 0, _, _, _, _ => none
  | n + 1, S, p1, l2, l3 => (if l2 ≤ l3 then (if ztg S th = 9 then (some (szI S 5 th 0)) else none) else (zob p1 fun a1 => (if zar S a1 then (if ib l3 (zLen S a1) then (zlb ((zAR S a1) (Int32.toNatClampNeg l3)) fun o2 => (zob o2 fun a3 => (if ztg S a3 = 5 then (zcV (yP_begin S a3) fun S4 => (yT_beginAgain_60 th n S4 (some a1) l2 (l3 + 1))) else none))) else none) else none)))
theorem hyT_beginAgain_60 {X : ie_X} {d th : Nat} : ∀ (n : Nat) {S : hS} {p1 : Option Nat} {l2 : Int32} {l3 : Int32} {u4 : Option Value} {S' : hS}, yT_beginAgain_60 th n S p1 l2 l3 = some S' → Go X (d + 1) 76 (60, [some (.ref th), some (va_rf p1), some (.int l2), some (.int l3), u4], [], zhp S) (.inl none) (zhp S') := by
  intro n
  induction n with
  | zero => intro S p1 l2 l3 u4 S'  hm; cases hm
  | succ n ih =>
    intro S p1 l2 l3 u4 S'  hm
    unfold yT_beginAgain_60 at hm
    refine go_run 0 (F' := (60, [some (.ref th), some (va_rf p1), some (.int l2), some (.int l3), u4], [], zhp S)) rfl ?_
    refine go_run 2 (F' := (62, [some (.ref th), some (va_rf p1), some (.int l2), some (.int l3), u4], [.int l2, .int l3], zhp S)) rfl ?_
    refine go_step rfl rfl ?_
    by_cases q1 : l2 ≤ l3
    · rw [if_pos q1] at hm ⊢
      refine go_run 0 (F' := (81, [some (.ref th), some (va_rf p1), some (.int l2), some (.int l3), u4], [], zhp S)) rfl ?_
      refine go_run 2 (F' := (83, [some (.ref th), some (va_rf p1), some (.int l2), some (.int l3), u4], [.int 0, .ref th], zhp S)) rfl ?_
      replace hm := zgd hm
      obtain ⟨b2, hm⟩ := hm
      refine go_hpI rfl b2 (by decide) rfl (Nat.le_of_ble_eq_true rfl) fs_8_5 ?_
      refine go_run 0 (F' := (86, [some (.ref th), some (va_rf p1), some (.int l2), some (.int l3), u4], [], zhp (szI S 5 th 0))) rfl ?_
      cases hm
      exact go_end rfl rfl
    · rw [if_neg q1] at hm ⊢
      refine go_run 0 (F' := (65, [some (.ref th), some (va_rf p1), some (.int l2), some (.int l3), u4], [], zhp S)) rfl ?_
      refine go_run 0 (F' := (65, [some (.ref th), some (va_rf p1), some (.int l2), some (.int l3), u4], [], zhp S)) rfl ?_
      refine go_al rfl rfl ?_
      refine go_run 1 (F' := (67, [some (.ref th), some (va_rf p1), some (.int l2), some (.int l3), u4], [.int l3, va_rf p1], zhp S)) rfl ?_
      replace hm := zob_inv hm
      obtain ⟨a1, rfl, hm⟩ := hm
      replace hm := zgd hm
      obtain ⟨b3, hm⟩ := hm
      replace hm := zgd hm
      obtain ⟨b4, hm⟩ := hm
      replace hm := zlb_inv hm
      obtain ⟨o2, eo2, hm⟩ := hm
      refine go_haald rfl b3 b4 rfl eo2 ?_
      refine go_run 0 (F' := (68, [some (.ref th), some (.ref a1), some (.int l2), some (.int l3), u4], [va_rf o2], zhp S)) rfl ?_
      refine go_as2 rfl ?_
      refine go_run 0 (F' := (70, [some (.ref th), some (.ref a1), some (.int l2), some (.int l3), some (va_rf o2)], [], zhp S)) rfl ?_
      refine go_al2 rfl rfl ?_
      refine go_run 0 (F' := (72, [some (.ref th), some (.ref a1), some (.int l2), some (.int l3), some (va_rf o2)], [va_rf o2], zhp S)) rfl ?_
      replace hm := zob_inv hm
      obtain ⟨a3, rfl, hm⟩ := hm
      refine go_run 0 (F' := (72, [some (.ref th), some (.ref a1), some (.int l2), some (.int l3), some (.ref a3)], [.ref a3], zhp S)) rfl ?_
      replace hm := zgd hm
      obtain ⟨b5, hm⟩ := hm
      replace hm := zcV_inv hm
      obtain ⟨S4, e4, hm⟩ := hm
      have k4 := hyP_begin (X := X) (d := d) e4
      refine go_call (m' := 77) (as := [.ref a3]) (rest := []) (v := none) (h1 := zhp S4) rfl (by simp only [ie_step, ie_iv, List.drop, zhp_obj (S := S) b5 (by decide)]; rfl) ⟨rfl, Nat.le_of_ble_eq_true rfl⟩ k4 ?_
      refine go_run 0 (F' := (75, [some (.ref th), some (.ref a1), some (.int l2), some (.int l3), some (.ref a3)], [], zhp S4)) rfl ?_
      refine go_run 2 (F' := (60, [some (.ref th), some (va_rf (some a1)), some (.int l2), some (.int (l3 + 1)), some (.ref a3)], [], zhp S4)) rfl ?_
      exact ih hm
theorem ehyT_beginAgain_60 {th : Nat} : ∀ (n : Nat) {S : hS} {p1 : Option Nat} {l2 : Int32} {l3 : Int32} {S' : hS}, yT_beginAgain_60 th n S p1 l2 l3 = some S' → Ex S S' := by
  intro n
  induction n with
  | zero => intro S p1 l2 l3 S'  hm; cases hm
  | succ n ih =>
    intro S p1 l2 l3 S'  hm
    unfold yT_beginAgain_60 at hm
    have hx : Ex S S := Ex_r
    by_cases q1 : l2 ≤ l3
    · rw [if_pos q1] at hm
      replace hm := zgd hm
      obtain ⟨b2, hm⟩ := hm
      cases hm
      exact hx
    · rw [if_neg q1] at hm
      replace hm := zob_inv hm
      obtain ⟨a1, rfl, hm⟩ := hm
      replace hm := zgd hm
      obtain ⟨b3, hm⟩ := hm
      replace hm := zgd hm
      obtain ⟨b4, hm⟩ := hm
      replace hm := zlb_inv hm
      obtain ⟨o2, eo2, hm⟩ := hm
      replace hm := zob_inv hm
      obtain ⟨a3, rfl, hm⟩ := hm
      replace hm := zgd hm
      obtain ⟨b5, hm⟩ := hm
      replace hm := zcV_inv hm
      obtain ⟨S4, e4, hm⟩ := hm
      have hx := Ex_t (T := S) hx (ehyP_begin e4)
      refine Ex_t ?_ (ih hm)
      exact hx
def yT_beginAgain_28 (th : Nat) : Nat → hS → Option Nat → Int32 → Int32 → Option (hS)
  | 0, _, _, _, _ => none
  | n + 1, S, p1, l2, l3 => (if l2 ≤ l3 then (if ztg S th = 9 then (zlb (zR S 0 th) fun o1 => (zob o1 fun a2 => (if zal S a2 then (yT_beginAgain_60 th  n S (some a2) (Int32.ofNat (zLen S a2)) 0) else none))) else none) else (zob p1 fun a3 => (if zar S a3 then (if ib l3 (zLen S a3) then (zlb ((zAR S a3) (Int32.toNatClampNeg l3)) fun o4 => (zob o4 fun a5 => (if ztg S a5 = 7 then (yT_beginAgain_28 th n (szI S 3 a5 0) (some a3) l2 (l3 + 1)) else none))) else none) else none)))
theorem hyT_beginAgain_28 {X : ie_X} {d th : Nat} : ∀ (n : Nat) {S : hS} {p1 : Option Nat} {l2 : Int32} {l3 : Int32} {u4 : Option Value} {S' : hS}, yT_beginAgain_28 th n S p1 l2 l3 = some S' → Go X (d + 1) 76 (28, [some (.ref th), some (va_rf p1), some (.int l2), some (.int l3), u4], [], zhp S) (.inl none) (zhp S') := by
  intro n
  induction n with
  | zero => intro S p1 l2 l3 u4 S'  hm; cases hm
  | succ n ih =>
    intro S p1 l2 l3 u4 S'  hm
    unfold yT_beginAgain_28 at hm
    refine go_run 0 (F' := (28, [some (.ref th), some (va_rf p1), some (.int l2), some (.int l3), u4], [], zhp S)) rfl ?_
    refine go_run 2 (F' := (30, [some (.ref th), some (va_rf p1), some (.int l2), some (.int l3), u4], [.int l2, .int l3], zhp S)) rfl ?_
    refine go_step rfl rfl ?_
    by_cases q1 : l2 ≤ l3
    · rw [if_pos q1] at hm ⊢
      refine go_run 0 (F' := (50, [some (.ref th), some (va_rf p1), some (.int l2), some (.int l3), u4], [], zhp S)) rfl ?_
      refine go_run 1 (F' := (51, [some (.ref th), some (va_rf p1), some (.int l2), some (.int l3), u4], [.ref th], zhp S)) rfl ?_
      replace hm := zgd hm
      obtain ⟨b2, hm⟩ := hm
      replace hm := zlb_inv hm
      obtain ⟨o1, eo1, hm⟩ := hm
      refine go_hg (v := va_rf o1) rfl b2 (by decide) (by rw [← eo1]; rfl) ?_
      refine go_run 0 (F' := (54, [some (.ref th), some (va_rf p1), some (.int l2), some (.int l3), u4], [va_rf o1], zhp S)) rfl ?_
      refine go_as rfl ?_
      refine go_run 0 (F' := (55, [some (.ref th), some (va_rf o1), some (.int l2), some (.int l3), u4], [], zhp S)) rfl ?_
      refine go_al rfl rfl ?_
      refine go_run 0 (F' := (56, [some (.ref th), some (va_rf o1), some (.int l2), some (.int l3), u4], [va_rf o1], zhp S)) rfl ?_
      replace hm := zob_inv hm
      obtain ⟨a2, rfl, hm⟩ := hm
      replace hm := zgd hm
      obtain ⟨b3, hm⟩ := hm
      refine go_hlen rfl b3 ?_
      refine go_run 3 (F' := (60, [some (.ref th), some (va_rf (some a2)), some (.int (Int32.ofNat (zLen S a2))), some (.int 0), u4], [], zhp S)) rfl ?_
      exact hyT_beginAgain_60  n hm
    · rw [if_neg q1] at hm ⊢
      refine go_run 0 (F' := (33, [some (.ref th), some (va_rf p1), some (.int l2), some (.int l3), u4], [], zhp S)) rfl ?_
      refine go_run 0 (F' := (33, [some (.ref th), some (va_rf p1), some (.int l2), some (.int l3), u4], [], zhp S)) rfl ?_
      refine go_al rfl rfl ?_
      refine go_run 1 (F' := (35, [some (.ref th), some (va_rf p1), some (.int l2), some (.int l3), u4], [.int l3, va_rf p1], zhp S)) rfl ?_
      replace hm := zob_inv hm
      obtain ⟨a3, rfl, hm⟩ := hm
      replace hm := zgd hm
      obtain ⟨b4, hm⟩ := hm
      replace hm := zgd hm
      obtain ⟨b5, hm⟩ := hm
      replace hm := zlb_inv hm
      obtain ⟨o4, eo4, hm⟩ := hm
      refine go_haald rfl b4 b5 rfl eo4 ?_
      refine go_run 0 (F' := (36, [some (.ref th), some (.ref a3), some (.int l2), some (.int l3), u4], [va_rf o4], zhp S)) rfl ?_
      refine go_as2 rfl ?_
      refine go_run 0 (F' := (38, [some (.ref th), some (.ref a3), some (.int l2), some (.int l3), some (va_rf o4)], [], zhp S)) rfl ?_
      refine go_al2 rfl rfl ?_
      refine go_run 1 (F' := (41, [some (.ref th), some (.ref a3), some (.int l2), some (.int l3), some (va_rf o4)], [.int 0, va_rf o4], zhp S)) rfl ?_
      replace hm := zob_inv hm
      obtain ⟨a5, rfl, hm⟩ := hm
      replace hm := zgd hm
      obtain ⟨b6, hm⟩ := hm
      refine go_hpI rfl b6 (by decide) rfl (Nat.le_of_ble_eq_true rfl) fs_6_3 ?_
      refine go_run 2 (F' := (28, [some (.ref th), some (va_rf (some a3)), some (.int l2), some (.int (l3 + 1)), some (.ref a5)], [], zhp (szI S 3 a5 0))) rfl ?_
      exact ih hm
theorem ehyT_beginAgain_28 {th : Nat} : ∀ (n : Nat) {S : hS} {p1 : Option Nat} {l2 : Int32} {l3 : Int32} {S' : hS}, yT_beginAgain_28 th n S p1 l2 l3 = some S' → Ex S S' := by
  intro n
  induction n with
  | zero => intro S p1 l2 l3 S'  hm; cases hm
  | succ n ih =>
    intro S p1 l2 l3 S'  hm
    unfold yT_beginAgain_28 at hm
    have hx : Ex S S := Ex_r
    by_cases q1 : l2 ≤ l3
    · rw [if_pos q1] at hm
      replace hm := zgd hm
      obtain ⟨b2, hm⟩ := hm
      replace hm := zlb_inv hm
      obtain ⟨o1, eo1, hm⟩ := hm
      replace hm := zob_inv hm
      obtain ⟨a2, rfl, hm⟩ := hm
      replace hm := zgd hm
      obtain ⟨b3, hm⟩ := hm
      refine Ex_t ?_ (ehyT_beginAgain_60  n hm)
      exact hx
    · rw [if_neg q1] at hm
      replace hm := zob_inv hm
      obtain ⟨a3, rfl, hm⟩ := hm
      replace hm := zgd hm
      obtain ⟨b4, hm⟩ := hm
      replace hm := zgd hm
      obtain ⟨b5, hm⟩ := hm
      replace hm := zlb_inv hm
      obtain ⟨o4, eo4, hm⟩ := hm
      replace hm := zob_inv hm
      obtain ⟨a5, rfl, hm⟩ := hm
      replace hm := zgd hm
      obtain ⟨b6, hm⟩ := hm
      refine Ex_t ?_ (ih hm)
      exact hx
def yT_beginAgain (n : Nat) (S : hS) (th : Nat) : Option (hS) := (if ztg S th = 9 then (zlb (zR S 2 th) fun o1 => (zlb (zR S 3 th) fun o2 => (zlb (zR S 3 th) fun o3 => (zob o3 fun a4 => (if zal S a4 then (zob o2 fun a5 => (zob o1 fun a6 => (if ztg S a6 = 20 then (if ztg S a5 = 20 then (if zcpk (Int32.ofNat (zLen S a4)) S a6 a5 then (zlb (zR S 1 th) fun o7 => (zob o7 fun a8 => (if zal S a8 then (yT_beginAgain_28 th  n (szAI S a5 (va_cpy (zAI S a6) (zAI S a5) 0 0 (Int32.toNatClampNeg (Int32.ofNat (zLen S a4))))) (some a8) (Int32.ofNat (zLen S a8)) 0) else none))) else none) else none) else none))) else none))))) else none)
theorem hyT_beginAgain {X : ie_X} {d th : Nat} {n : Nat} {S : hS} {S' : hS} (hm : yT_beginAgain n S th = some S') : Go X (d + 1) 76 (0, ie_en 76 [.ref th], [], zhp S) (.inl none) (zhp S') := by
  unfold yT_beginAgain at hm
  refine go_run 0 (F' := (0, [some (.ref th), none, none, none, none], [], zhp S)) rfl ?_
  refine go_run 1 (F' := (1, [some (.ref th), none, none, none, none], [.ref th], zhp S)) rfl ?_
  replace hm := zgd hm
  obtain ⟨b1, hm⟩ := hm
  replace hm := zlb_inv hm
  obtain ⟨o1, eo1, hm⟩ := hm
  refine go_hg (v := va_rf o1) rfl b1 (by decide) (by rw [← eo1]; rfl) ?_
  refine go_run 2 (F' := (6, [some (.ref th), none, none, none, none], [.ref th, .int 0, va_rf o1], zhp S)) rfl ?_
  replace hm := zlb_inv hm
  obtain ⟨o2, eo2, hm⟩ := hm
  refine go_hg (v := va_rf o2) rfl b1 (by decide) (by rw [← eo2]; rfl) ?_
  refine go_run 2 (F' := (11, [some (.ref th), none, none, none, none], [.ref th, .int 0, va_rf o2, .int 0, va_rf o1], zhp S)) rfl ?_
  replace hm := zlb_inv hm
  obtain ⟨o3, eo3, hm⟩ := hm
  refine go_hg (v := va_rf o3) rfl b1 (by decide) (by rw [← eo3]; rfl) ?_
  refine go_run 0 (F' := (14, [some (.ref th), none, none, none, none], [va_rf o3, .int 0, va_rf o2, .int 0, va_rf o1], zhp S)) rfl ?_
  replace hm := zob_inv hm
  obtain ⟨a4, rfl, hm⟩ := hm
  replace hm := zgd hm
  obtain ⟨b2, hm⟩ := hm
  refine go_hlen rfl b2 ?_
  refine go_run 0 (F' := (15, [some (.ref th), none, none, none, none], [.int (Int32.ofNat (zLen S a4)), .int 0, va_rf o2, .int 0, va_rf o1], zhp S)) rfl ?_
  replace hm := zob_inv hm
  obtain ⟨a5, rfl, hm⟩ := hm
  replace hm := zob_inv hm
  obtain ⟨a6, rfl, hm⟩ := hm
  replace hm := zgd hm
  obtain ⟨b3, hm⟩ := hm
  replace hm := zgd hm
  obtain ⟨b4, hm⟩ := hm
  replace hm := zgd hm
  obtain ⟨b5, hm⟩ := hm
  refine go_hcp rfl b3 b4 b5 (Nat.le_of_ble_eq_true rfl) ?_
  refine go_run 1 (F' := (19, [some (.ref th), none, none, none, none], [.ref th], zhp (szAI S a5 (va_cpy (zAI S a6) (zAI S a5) 0 0 (Int32.toNatClampNeg (Int32.ofNat (zLen S a4))))))) rfl ?_
  replace hm := zlb_inv hm
  obtain ⟨o7, eo7, hm⟩ := hm
  refine go_hg (v := va_rf o7) rfl b1 (by decide) (by rw [← eo7]; rfl) ?_
  refine go_run 0 (F' := (22, [some (.ref th), none, none, none, none], [va_rf o7], zhp (szAI S a5 (va_cpy (zAI S a6) (zAI S a5) 0 0 (Int32.toNatClampNeg (Int32.ofNat (zLen S a4))))))) rfl ?_
  refine go_as rfl ?_
  refine go_run 0 (F' := (23, [some (.ref th), some (va_rf o7), none, none, none], [], zhp (szAI S a5 (va_cpy (zAI S a6) (zAI S a5) 0 0 (Int32.toNatClampNeg (Int32.ofNat (zLen S a4))))))) rfl ?_
  refine go_al rfl rfl ?_
  refine go_run 0 (F' := (24, [some (.ref th), some (va_rf o7), none, none, none], [va_rf o7], zhp (szAI S a5 (va_cpy (zAI S a6) (zAI S a5) 0 0 (Int32.toNatClampNeg (Int32.ofNat (zLen S a4))))))) rfl ?_
  replace hm := zob_inv hm
  obtain ⟨a8, rfl, hm⟩ := hm
  replace hm := zgd hm
  obtain ⟨b6, hm⟩ := hm
  refine go_hlen rfl b6 ?_
  refine go_run 3 (F' := (28, [some (.ref th), some (va_rf (some a8)), some (.int (Int32.ofNat (zLen S a8))), some (.int 0), none], [], zhp (szAI S a5 (va_cpy (zAI S a6) (zAI S a5) 0 0 (Int32.toNatClampNeg (Int32.ofNat (zLen S a4))))))) rfl ?_
  exact hyT_beginAgain_28  n hm
theorem ehyT_beginAgain {th : Nat} {n : Nat} {S : hS} {S' : hS} (hm : yT_beginAgain n S th = some S') : Ex S S' := by
  unfold yT_beginAgain at hm
  have hx : Ex S S := Ex_r
  replace hm := zgd hm
  obtain ⟨b1, hm⟩ := hm
  replace hm := zlb_inv hm
  obtain ⟨o1, eo1, hm⟩ := hm
  replace hm := zlb_inv hm
  obtain ⟨o2, eo2, hm⟩ := hm
  replace hm := zlb_inv hm
  obtain ⟨o3, eo3, hm⟩ := hm
  replace hm := zob_inv hm
  obtain ⟨a4, rfl, hm⟩ := hm
  replace hm := zgd hm
  obtain ⟨b2, hm⟩ := hm
  replace hm := zob_inv hm
  obtain ⟨a5, rfl, hm⟩ := hm
  replace hm := zob_inv hm
  obtain ⟨a6, rfl, hm⟩ := hm
  replace hm := zgd hm
  obtain ⟨b3, hm⟩ := hm
  replace hm := zgd hm
  obtain ⟨b4, hm⟩ := hm
  replace hm := zgd hm
  obtain ⟨b5, hm⟩ := hm
  replace hm := zlb_inv hm
  obtain ⟨o7, eo7, hm⟩ := hm
  replace hm := zob_inv hm
  obtain ⟨a8, rfl, hm⟩ := hm
  replace hm := zgd hm
  obtain ⟨b6, hm⟩ := hm
  refine Ex_t ?_ (ehyT_beginAgain_28  n hm)
  exact hx
