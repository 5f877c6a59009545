def yA_setPart (S : hS) (th : Nat) (x1 : Int32) (p2 : Option Nat) : Option (hS) := (if x1 < 0 then (some S) else (if ztg S th = 2 then (zlb (zR S 6 th) fun o1 => (zob o1 fun a2 => (if zal S a2 then (if Int32.ofNat (zLen S a2) ≤ x1 then (some S) else (zlb (zR S 6 th) fun o3 => (zob o3 fun a4 => (if ztg S a4 = 27 then (if zok S a4 p2 = true then (if ib x1 (zLen S a4) then (some (szI (szAR S a4 (va_up (zAR S a4) (Int32.toNatClampNeg x1) p2)) 7 th ((zI S 7 th) ||| (1 <<< (x1 &&& 31))))) else none) else none) else none)))) else none))) else none))
theorem hyA_setPart {X : ie_X} {d th : Nat} {S : hS} {x1 : Int32} {p2 : Option Nat} {S' : hS} (hm : yA_setPart S th x1 p2 = some S') : Go X (d + 0) 43 (0, ie_en 43 [.ref th, .int x1, va_rf p2], [], zhp S) (.inl none) (zhp S') := by
  unfold yA_setPart at hm
  refine go_run 0 (F' := (0, [some (.ref th), some (.int x1), some (va_rf p2)], [], zhp S)) (by cases p2 <;> rfl) ?_
  refine go_run 1 (F' := (1, [some (.ref th), some (.int x1), some (va_rf p2)], [.int x1], zhp S)) rfl ?_
  refine go_step rfl rfl ?_
  by_cases q1 : x1 < 0
  · rw [if_pos q1] at hm ⊢
    refine go_run 0 (F' := (32, [some (.ref th), some (.int x1), some (va_rf p2)], [], zhp S)) rfl ?_
    refine go_run 0 (F' := (32, [some (.ref th), some (.int x1), some (va_rf p2)], [], zhp S)) rfl ?_
    cases hm
    exact go_end rfl rfl
  · rw [if_neg q1] at hm ⊢
    refine go_run 0 (F' := (4, [some (.ref th), some (.int x1), some (va_rf p2)], [], zhp S)) rfl ?_
    refine go_run 2 (F' := (6, [some (.ref th), some (.int x1), some (va_rf p2)], [.ref th, .int x1], zhp S)) rfl ?_
    replace hm := zgd hm
    obtain ⟨b2, hm⟩ := hm
    replace hm := zlb_inv hm
    obtain ⟨o1, eo1, hm⟩ := hm
    refine go_hg (v := va_rf o1) rfl b2 (by decide) (by rw [← eo1]; rfl) ?_
    refine go_run 0 (F' := (9, [some (.ref th), some (.int x1), some (va_rf p2)], [va_rf o1, .int x1], zhp S)) rfl ?_
    replace hm := zob_inv hm
    obtain ⟨a2, rfl, hm⟩ := hm
    replace hm := zgd hm
    obtain ⟨b3, hm⟩ := hm
    refine go_hlen rfl b3 ?_
    refine go_run 0 (F' := (10, [some (.ref th), some (.int x1), some (va_rf p2)], [.int (Int32.ofNat (zLen S a2)), .int x1], zhp S)) rfl ?_
    refine go_step rfl rfl ?_
    by_cases q4 : Int32.ofNat (zLen S a2) ≤ x1
    · rw [if_pos q4] at hm ⊢
      refine go_run 0 (F' := (32, [some (.ref th), some (.int x1), some (va_rf p2)], [], zhp S)) rfl ?_
      refine go_run 0 (F' := (32, [some (.ref th), some (.int x1), some (va_rf p2)], [], zhp S)) rfl ?_
      cases hm
      exact go_end rfl rfl
    · rw [if_neg q4] at hm ⊢
      refine go_run 0 (F' := (13, [some (.ref th), some (.int x1), some (va_rf p2)], [], zhp S)) rfl ?_
      refine go_run 1 (F' := (14, [some (.ref th), some (.int x1), some (va_rf p2)], [.ref th], zhp S)) rfl ?_
      replace hm := zlb_inv hm
      obtain ⟨o3, eo3, hm⟩ := hm
      refine go_hg (v := va_rf o3) rfl b2 (by decide) (by rw [← eo3]; rfl) ?_
      refine go_run 1 (F' := (18, [some (.ref th), some (.int x1), some (va_rf p2)], [.int x1, va_rf o3], zhp S)) rfl ?_
      refine go_al rfl rfl ?_
      refine go_run 0 (F' := (19, [some (.ref th), some (.int x1), some (va_rf p2)], [va_rf p2, .int x1, va_rf o3], zhp S)) rfl ?_
      replace hm := zob_inv hm
      obtain ⟨a4, rfl, hm⟩ := hm
      replace hm := zgd hm
      obtain ⟨b5, hm⟩ := hm
      replace hm := zgd hm
      obtain ⟨b6, hm⟩ := hm
      replace hm := zgd hm
      obtain ⟨b7, hm⟩ := hm
      refine go_haast (v := p2) rfl b6 b7 rfl rfl ?_
      refine go_run 2 (F' := (22, [some (.ref th), some (.int x1), some (va_rf p2)], [.ref th, .ref th], zhp (szAR S a4 (va_up (zAR S a4) (Int32.toNatClampNeg x1) p2)))) rfl ?_
      refine go_hg (v := .int (zI S 7 th)) rfl b2 (by decide) rfl ?_
      refine go_run 4 (F' := (29, [some (.ref th), some (.int x1), some (va_rf p2)], [.int ((zI S 7 th) ||| (1 <<< (x1 &&& 31))), .ref th], zhp (szAR S a4 (va_up (zAR S a4) (Int32.toNatClampNeg x1) p2)))) rfl ?_
      refine go_hpI rfl b2 (by decide) rfl (Nat.le_of_ble_eq_true rfl) fs_1_7 ?_
      refine go_run 0 (F' := (32, [some (.ref th), some (.int x1), some (va_rf p2)], [], zhp (szI (szAR S a4 (va_up (zAR S a4) (Int32.toNatClampNeg x1) p2)) 7 th ((zI S 7 th) ||| (1 <<< (x1 &&& 31)))))) rfl ?_
      cases hm
      exact go_end rfl rfl
theorem ehyA_setPart {th : Nat} {S : hS} {x1 : Int32} {p2 : Option Nat} {S' : hS} (hm : yA_setPart S th x1 p2 = some S') : Ex S S' := by
  unfold yA_setPart at hm
  have hx : Ex S S := Ex_r
  by_cases q1 : x1 < 0
  · rw [if_pos q1] at hm
    cases hm
    exact hx
  · rw [if_neg q1] at hm
    replace hm := zgd hm
    obtain ⟨b2, hm⟩ := hm
    replace hm := zlb_inv hm
    obtain ⟨o1, eo1, hm⟩ := hm
    replace hm := zob_inv hm
    obtain ⟨a2, rfl, hm⟩ := hm
    replace hm := zgd hm
    obtain ⟨b3, hm⟩ := hm
    by_cases q4 : Int32.ofNat (zLen S a2) ≤ x1
    · rw [if_pos q4] at hm
      cases hm
      exact hx
    · rw [if_neg q4] at hm
      replace hm := zlb_inv hm
      obtain ⟨o3, eo3, hm⟩ := hm
      replace hm := zob_inv hm
      obtain ⟨a4, rfl, hm⟩ := hm
      replace hm := zgd hm
      obtain ⟨b5, hm⟩ := hm
      replace hm := zgd hm
      obtain ⟨b6, hm⟩ := hm
      replace hm := zgd hm
      obtain ⟨b7, hm⟩ := hm
      cases hm
      exact hx
def yW_append_55 (th : Nat) : Nat → hS → Option (hS)
  | 0, _ => none
  | n + 1, S => (if ztg S th = 8 then (zlb (zR S 1 th) fun o1 => (zob o1 fun a2 => (if ztg S a2 = 2 then (zlb (zR S 8 a2) fun o3 => (zoc o3 (some S) fun a4 => (zlb (zR S 1 th) fun o5 => (zob o5 fun a6 => (if ztg S a6 = 2 then (zlb (zR S 8 a6) fun o7 => (yW_append_55 th n (szR S 1 th o7))) else none))))) else none))) else none)
theorem hyW_append_55 {X : ie_X} {d th : Nat} : ∀ (n : Nat) {S : hS} {u1 : Option Value} {S' : hS}, yW_append_55 th n S = some S' → Go X (d + 1) 42 (55, [some (.ref th), u1], [], zhp S) (.inl none) (zhp S') := by
  intro n
  induction n with
  | zero => intro S u1 S'  hm; cases hm
  | succ n ih =>
    intro S u1 S'  hm
    unfold yW_append_55 at hm
    refine go_run 0 (F' := (55, [some (.ref th), u1], [], zhp S)) rfl ?_
    refine go_run 1 (F' := (56, [some (.ref th), u1], [.ref th], zhp S)) rfl ?_
    replace hm := zgd hm
    obtain ⟨b1, hm⟩ := hm
    replace hm := zlb_inv hm
    obtain ⟨o1, eo1, hm⟩ := hm
    refine go_hg (v := va_rf o1) rfl b1 (by decide) (by rw [← eo1]; rfl) ?_
    refine go_run 0 (F' := (59, [some (.ref th), u1], [va_rf o1], zhp S)) rfl ?_
    replace hm := zob_inv hm
    obtain ⟨a2, rfl, hm⟩ := hm
    replace hm := zgd hm
    obtain ⟨b2, hm⟩ := hm
    replace hm := zlb_inv hm
    obtain ⟨o3, eo3, hm⟩ := hm
    refine go_hg (v := va_rf o3) rfl b2 (by decide) (by rw [← eo3]; rfl) ?_
    refine go_run 0 (F' := (62, [some (.ref th), u1], [va_rf o3], zhp S)) rfl ?_
    cases o3 with
    | none =>
      replace hm := zoc_n hm
      refine go_step rfl rfl ?_
      refine go_run 0 (F' := (79, [some (.ref th), u1], [], zhp S)) rfl ?_
      refine go_run 0 (F' := (79, [some (.ref th), u1], [], zhp S)) rfl ?_
      cases hm
      exact go_end rfl rfl
    | some a4 =>
      replace hm := zoc_s hm
      refine go_step rfl rfl ?_
      refine go_run 0 (F' := (65, [some (.ref th), u1], [], zhp S)) rfl ?_
      refine go_run 2 (F' := (67, [some (.ref th), u1], [.ref th, .ref th], zhp S)) rfl ?_
      replace hm := zlb_inv hm
      obtain ⟨o5, eo5, hm⟩ := hm
      refine go_hg (v := va_rf o5) rfl b1 (by decide) (by rw [← eo5]; rfl) ?_
      refine go_run 0 (F' := (70, [some (.ref th), u1], [va_rf o5, .ref th], zhp S)) rfl ?_
      replace hm := zob_inv hm
      obtain ⟨a6, rfl, hm⟩ := hm
      replace hm := zgd hm
      obtain ⟨b3, hm⟩ := hm
      replace hm := zlb_inv hm
      obtain ⟨o7, eo7, hm⟩ := hm
      refine go_hg (v := va_rf o7) rfl b3 (by decide) (by rw [← eo7]; rfl) ?_
      refine go_run 0 (F' := (73, [some (.ref th), u1], [va_rf o7, .ref th], zhp S)) rfl ?_
      refine go_hpR (v := o7) rfl b1 (by decide) (by cases o7 <;> rfl) (Nat.le_of_ble_eq_true rfl) fs_7_1 ?_
      refine go_run 1 (F' := (55, [some (.ref th), u1], [], zhp (szR S 1 th o7))) rfl ?_
      exact ih hm
theorem ehyW_append_55 {th : Nat} : ∀ (n : Nat) {S : hS} {S' : hS}, yW_append_55 th n S = some S' → Ex S S' := by
  intro n
  induction n with
  | zero => intro S  S'  hm; cases hm
  | succ n ih =>
    intro S  S'  hm
    unfold yW_append_55 at hm
    have hx : Ex S S := Ex_r
    replace hm := zgd hm
    obtain ⟨b1, hm⟩ := hm
    replace hm := zlb_inv hm
    obtain ⟨o1, eo1, hm⟩ := hm
    replace hm := zob_inv hm
    obtain ⟨a2, rfl, hm⟩ := hm
    replace hm := zgd hm
    obtain ⟨b2, hm⟩ := hm
    replace hm := zlb_inv hm
    obtain ⟨o3, eo3, hm⟩ := hm
    cases o3 with
    | none =>
      replace hm := zoc_n hm
      cases hm
      exact hx
    | some a4 =>
      replace hm := zoc_s hm
      replace hm := zlb_inv hm
      obtain ⟨o5, eo5, hm⟩ := hm
      replace hm := zob_inv hm
      obtain ⟨a6, rfl, hm⟩ := hm
      replace hm := zgd hm
      obtain ⟨b3, hm⟩ := hm
      replace hm := zlb_inv hm
      obtain ⟨o7, eo7, hm⟩ := hm
      refine Ex_t ?_ (ih hm)
      exact hx
def yW_append (n : Nat) (S : hS) (th : Nat) (p1 : Option Nat) : Option (hS) := (zoc p1 (some S) fun a1 => (if ztg S th = 8 then (zlb (zR S 1 th) fun o2 => (zoc o2 (zlb (zR S 2 th) fun o4 => (zoc o4 (yW_append_55 th  n (szR (szR S 0 th (some a1)) 1 th (some a1))) fun a5 => (zlb (zR S 2 th) fun o6 => (zob o6 fun a7 => (if ztg S a7 = 2 then (zcV (yA_setPart S a7 (zI S 3 th) (some a1)) fun S8 => (if ztg S8 th = 8 then (yW_append_55 th  n (szR S8 1 th (some a1))) else none)) else none))))) fun a3 => (zlb (zR S 1 th) fun o9 => (zob o9 fun a10 => (if ztg S a10 = 2 then (yW_append_55 th  n (szR (szR S 8 a10 (some a1)) 1 th (some a1))) else none))))) else none))
theorem hyW_append {X : ie_X} {d th : Nat} {n : Nat} {S : hS} {p1 : Option Nat} {S' : hS} (hm : yW_append n S th p1 = some S') : Go X (d + 1) 42 (0, ie_en 42 [.ref th, va_rf p1], [], zhp S) (.inl none) (zhp S') := by
  unfold yW_append at hm
  refine go_run 0 (F' := (0, [some (.ref th), some (va_rf p1)], [], zhp S)) (by cases p1 <;> rfl) ?_
  refine go_run 0 (F' := (0, [some (.ref th), some (va_rf p1)], [], zhp S)) rfl ?_
  refine go_al rfl rfl ?_
  refine go_run 0 (F' := (1, [some (.ref th), some (va_rf p1)], [va_rf p1], zhp S)) rfl ?_
  cases p1 with
  | none =>
    replace hm := zoc_n hm
    refine go_step rfl rfl ?_
    refine go_run 0 (F' := (4, [some (.ref th), some (.null)], [], zhp S)) rfl ?_
    refine go_run 0 (F' := (4, [some (.ref th), some (.null)], [], zhp S)) rfl ?_
    cases hm
    exact go_end rfl rfl
  | some a1 =>
    replace hm := zoc_s hm
    refine go_step rfl rfl ?_
    refine go_run 0 (F' := (5, [some (.ref th), some (.ref a1)], [], zhp S)) rfl ?_
    refine go_run 1 (F' := (6, [some (.ref th), some (.ref a1)], [.ref th], zhp S)) rfl ?_
    replace hm := zgd hm
    obtain ⟨b1, hm⟩ := hm
    replace hm := zlb_inv hm
    obtain ⟨o2, eo2, hm⟩ := hm
    refine go_hg (v := va_rf o2) rfl b1 (by decide) (by rw [← eo2]; rfl) ?_
    refine go_run 0 (F' := (9, [some (.ref th), some (.ref a1)], [va_rf o2], zhp S)) rfl ?_
    cases o2 with
    | none =>
      replace hm := zoc_n hm
      refine go_step rfl rfl ?_
      refine go_run 0 (F' := (23, [some (.ref th), some (.ref a1)], [], zhp S)) rfl ?_
      refine go_run 1 (F' := (24, [some (.ref th), some (.ref a1)], [.ref th], zhp S)) rfl ?_
      replace hm := zlb_inv hm
      obtain ⟨o4, eo4, hm⟩ := hm
      refine go_hg (v := va_rf o4) rfl b1 (by decide) (by rw [← eo4]; rfl) ?_
      refine go_run 0 (F' := (27, [some (.ref th), some (.ref a1)], [va_rf o4], zhp S)) rfl ?_
      cases o4 with
      | none =>
        replace hm := zoc_n hm
        refine go_step rfl rfl ?_
        refine go_run 0 (F' := (45, [some (.ref th), some (.ref a1)], [], zhp S)) rfl ?_
        refine go_run 2 (F' := (47, [some (.ref th), some (.ref a1)], [.ref a1, .ref th], zhp S)) rfl ?_
        refine go_hpR (v := (some a1)) rfl b1 (by decide) rfl (Nat.le_of_ble_eq_true rfl) fs_7_0 ?_
        refine go_run 2 (F' := (52, [some (.ref th), some (.ref a1)], [.ref a1, .ref th], zhp (szR S 0 th (some a1)))) rfl ?_
        refine go_hpR (v := (some a1)) rfl b1 (by decide) rfl (Nat.le_of_ble_eq_true rfl) fs_7_1 ?_
        refine go_run 0 (F' := (55, [some (.ref th), some (.ref a1)], [], zhp (szR (szR S 0 th (some a1)) 1 th (some a1)))) rfl ?_
        exact hyW_append_55  n hm
      | some a5 =>
        replace hm := zoc_s hm
        refine go_step rfl rfl ?_
        refine go_run 0 (F' := (30, [some (.ref th), some (.ref a1)], [], zhp S)) rfl ?_
        refine go_run 1 (F' := (31, [some (.ref th), some (.ref a1)], [.ref th], zhp S)) rfl ?_
        replace hm := zlb_inv hm
        obtain ⟨o6, eo6, hm⟩ := hm
        refine go_hg (v := va_rf o6) rfl b1 (by decide) (by rw [← eo6]; rfl) ?_
        refine go_run 1 (F' := (35, [some (.ref th), some (.ref a1)], [.ref th, va_rf o6], zhp S)) rfl ?_
        refine go_hg (v := .int (zI S 3 th)) rfl b1 (by decide) rfl ?_
        refine go_run 1 (F' := (39, [some (.ref th), some (.ref a1)], [.ref a1, .int (zI S 3 th), va_rf o6], zhp S)) rfl ?_
        replace hm := zob_inv hm
        obtain ⟨a7, rfl, hm⟩ := hm
        refine go_run 0 (F' := (39, [some (.ref th), some (.ref a1)], [.ref a1, .int (zI S 3 th), .ref a7], zhp S)) rfl ?_
        replace hm := zgd hm
        obtain ⟨b2, hm⟩ := hm
        replace hm := zcV_inv hm
        obtain ⟨S8, e8, hm⟩ := hm
        have k8 := hyA_setPart (X := X) (d := d) e8
        refine go_call (m' := 43) (as := [.ref a7, .int (zI S 3 th), .ref a1]) (rest := []) (v := none) (h1 := zhp S8) rfl (by simp only [ie_step, ie_iv, List.drop, zhp_obj (S := S) b2 (by decide)]; rfl) ⟨rfl, Nat.le_of_ble_eq_true rfl⟩ k8 ?_
        refine go_run 0 (F' := (42, [some (.ref th), some (.ref a1)], [], zhp S8)) rfl ?_
        refine go_run 3 (F' := (52, [some (.ref th), some (.ref a1)], [.ref a1, .ref th], zhp S8)) rfl ?_
        replace hm := zgd hm
        obtain ⟨b3, hm⟩ := hm
        refine go_hpR (v := (some a1)) rfl b3 (by decide) rfl (Nat.le_of_ble_eq_true rfl) fs_7_1 ?_
        refine go_run 0 (F' := (55, [some (.ref th), some (.ref a1)], [], zhp (szR S8 1 th (some a1)))) rfl ?_
        exact hyW_append_55  n hm
    | some a3 =>
      replace hm := zoc_s hm
      refine go_step rfl rfl ?_
      refine go_run 0 (F' := (12, [some (.ref th), some (.ref a1)], [], zhp S)) rfl ?_
      refine go_run 1 (F' := (13, [some (.ref th), some (.ref a1)], [.ref th], zhp S)) rfl ?_
      replace hm := zlb_inv hm
      obtain ⟨o9, eo9, hm⟩ := hm
      refine go_hg (v := va_rf o9) rfl b1 (by decide) (by rw [← eo9]; rfl) ?_
      refine go_run 1 (F' := (17, [some (.ref th), some (.ref a1)], [.ref a1, va_rf o9], zhp S)) rfl ?_
      replace hm := zob_inv hm
      obtain ⟨a10, rfl, hm⟩ := hm
      replace hm := zgd hm
      obtain ⟨b4, hm⟩ := hm
      refine go_hpR (v := (some a1)) rfl b4 (by decide) rfl (Nat.le_of_ble_eq_true rfl) fs_1_8 ?_
      refine go_run 3 (F' := (52, [some (.ref th), some (.ref a1)], [.ref a1, .ref th], zhp (szR S 8 a10 (some a1)))) rfl ?_
      refine go_hpR (v := (some a1)) rfl b1 (by decide) rfl (Nat.le_of_ble_eq_true rfl) fs_7_1 ?_
      refine go_run 0 (F' := (55, [some (.ref th), some (.ref a1)], [], zhp (szR (szR S 8 a10 (some a1)) 1 th (some a1)))) rfl ?_
      exact hyW_append_55  n hm
theorem ehyW_append {th : Nat} {n : Nat} {S : hS} {p1 : Option Nat} {S' : hS} (hm : yW_append n S th p1 = some S') : Ex S S' := by
  unfold yW_append at hm
  have hx : Ex S S := Ex_r
  cases p1 with
  | none =>
    replace hm := zoc_n hm
    cases hm
    exact hx
  | some a1 =>
    replace hm := zoc_s hm
    replace hm := zgd hm
    obtain ⟨b1, hm⟩ := hm
    replace hm := zlb_inv hm
    obtain ⟨o2, eo2, hm⟩ := hm
    cases o2 with
    | none =>
      replace hm := zoc_n hm
      replace hm := zlb_inv hm
      obtain ⟨o4, eo4, hm⟩ := hm
      cases o4 with
      | none =>
        replace hm := zoc_n hm
        refine Ex_t ?_ (ehyW_append_55  n hm)
        exact hx
      | some a5 =>
        replace hm := zoc_s hm
        replace hm := zlb_inv hm
        obtain ⟨o6, eo6, hm⟩ := hm
        replace hm := zob_inv hm
        obtain ⟨a7, rfl, hm⟩ := hm
        replace hm := zgd hm
        obtain ⟨b2, hm⟩ := hm
        replace hm := zcV_inv hm
        obtain ⟨S8, e8, hm⟩ := hm
        have hx := Ex_t (T := S) hx (ehyA_setPart e8)
        replace hm := zgd hm
        obtain ⟨b3, hm⟩ := hm
        refine Ex_t ?_ (ehyW_append_55  n hm)
        exact hx
    | some a3 =>
      replace hm := zoc_s hm
      replace hm := zlb_inv hm
      obtain ⟨o9, eo9, hm⟩ := hm
      replace hm := zob_inv hm
      obtain ⟨a10, rfl, hm⟩ := hm
      replace hm := zgd hm
      obtain ⟨b4, hm⟩ := hm
      refine Ex_t ?_ (ehyW_append_55  n hm)
      exact hx
def yC_cutSet (n : Nat) (S : hS) (p1 : Option Nat) (p2 : Option Nat) : Option (hS) := (znw S 1 fun S1 a1 => (zcV (yA_new S1 a1 1) fun S2 => (zob p1 fun a3 => (if ztg S2 a3 = 10 then (if ztg S2 a1 = 2 then (zob p2 fun a4 => (if zar S2 a4 then (if ib (zI S2 2 a3) (zLen S2 a4) then (zlb ((zAR S2 a4) (Int32.toNatClampNeg (zI S2 2 a3))) fun o5 => (zob o5 fun a6 => (if ztg S2 a6 = 8 then (zcV (yW_append n (szL (szI S2 1 a1 (zI S2 4 a3)) a1 (zL S2 a3)) a6 (some a1)) fun S7 => (some S7)) else none))) else none) else none)) else none) else none))))
theorem hyC_cutSet {X : ie_X} {d : Nat} {n : Nat} {S : hS} {p1 : Option Nat} {p2 : Option Nat} {S' : hS} (hm : yC_cutSet n S p1 p2 = some S') : Go X (d + 2) 39 (0, ie_en 39 [va_rf p1, va_rf p2], [], zhp S) (.inl none) (zhp S') := by
  unfold yC_cutSet at hm
  refine go_run 0 (F' := (0, [some (va_rf p1), some (va_rf p2), none], [], zhp S)) (by cases p1 <;> cases p2 <;> rfl) ?_
  refine go_run 0 (F' := (0, [some (va_rf p1), some (va_rf p2), none], [], zhp S)) rfl ?_
  replace hm := znw_inv hm
  obtain ⟨S1, a1, eS1, ea1, hm⟩ := hm
  refine go_hnew rfl (by decide) rfl eS1 ea1 ?_
  refine go_run 2 (F' := (5, [some (va_rf p1), some (va_rf p2), none], [.int 1, .ref a1, .ref a1], zhp S1)) rfl ?_
  replace hm := zcV_inv hm
  obtain ⟨S2, e2, hm⟩ := hm
  have k2 := hyA_new (X := X) (d := d) e2
  refine go_call (m' := 40) (as := [.ref a1, .int 1]) (rest := [.ref a1]) (v := none) (h1 := zhp S2) rfl rfl ⟨rfl, Nat.le_of_ble_eq_true rfl⟩ k2 ?_
  refine go_run 0 (F' := (8, [some (va_rf p1), some (va_rf p2), none], [.ref a1], zhp S2)) rfl ?_
  refine go_run 2 (F' := (10, [some (va_rf p1), some (va_rf p2), some (.ref a1)], [.ref a1], zhp S2)) rfl ?_
  refine go_al rfl rfl ?_
  refine go_run 0 (F' := (11, [some (va_rf p1), some (va_rf p2), some (.ref a1)], [va_rf p1, .ref a1], zhp S2)) rfl ?_
  replace hm := zob_inv hm
  obtain ⟨a3, rfl, hm⟩ := hm
  replace hm := zgd hm
  obtain ⟨b1, hm⟩ := hm
  refine go_hg (v := .int (zI S2 4 a3)) rfl b1 (by decide) rfl ?_
  refine go_run 0 (F' := (14, [some (.ref a3), some (va_rf p2), some (.ref a1)], [.int (zI S2 4 a3), .ref a1], zhp S2)) rfl ?_
  replace hm := zgd hm
  obtain ⟨b2, hm⟩ := hm
  refine go_hpI rfl b2 (by decide) rfl (Nat.le_of_ble_eq_true rfl) fs_1_1 ?_
  refine go_run 2 (F' := (19, [some (.ref a3), some (va_rf p2), some (.ref a1)], [.ref a3, .ref a1], zhp (szI S2 1 a1 (zI S2 4 a3)))) rfl ?_
  refine go_hg (v := .long (zL S2 a3)) rfl b1 (by decide) rfl ?_
  refine go_run 0 (F' := (22, [some (.ref a3), some (va_rf p2), some (.ref a1)], [.long (zL S2 a3), .ref a1], zhp (szI S2 1 a1 (zI S2 4 a3)))) rfl ?_
  refine go_hpL rfl b2 (by decide) rfl (Nat.le_of_ble_eq_true rfl) fs_1_5 ?_
  refine go_run 0 (F' := (25, [some (.ref a3), some (va_rf p2), some (.ref a1)], [], zhp (szL (szI S2 1 a1 (zI S2 4 a3)) a1 (zL S2 a3)))) rfl ?_
  refine go_al rfl rfl ?_
  refine go_run 1 (F' := (27, [some (.ref a3), some (va_rf p2), some (.ref a1)], [.ref a3, va_rf p2], zhp (szL (szI S2 1 a1 (zI S2 4 a3)) a1 (zL S2 a3)))) rfl ?_
  refine go_hg (v := .int (zI S2 2 a3)) rfl b1 (by decide) rfl ?_
  refine go_run 0 (F' := (30, [some (.ref a3), some (va_rf p2), some (.ref a1)], [.int (zI S2 2 a3), va_rf p2], zhp (szL (szI S2 1 a1 (zI S2 4 a3)) a1 (zL S2 a3)))) rfl ?_
  replace hm := zob_inv hm
  obtain ⟨a4, rfl, hm⟩ := hm
  replace hm := zgd hm
  obtain ⟨b3, hm⟩ := hm
  replace hm := zgd hm
  obtain ⟨b4, hm⟩ := hm
  replace hm := zlb_inv hm
  obtain ⟨o5, eo5, hm⟩ := hm
  refine go_haald rfl b3 b4 rfl eo5 ?_
  refine go_run 1 (F' := (32, [some (.ref a3), some (.ref a4), some (.ref a1)], [.ref a1, va_rf o5], zhp (szL (szI S2 1 a1 (zI S2 4 a3)) a1 (zL S2 a3)))) rfl ?_
  replace hm := zob_inv hm
  obtain ⟨a6, rfl, hm⟩ := hm
  refine go_run 0 (F' := (32, [some (.ref a3), some (.ref a4), some (.ref a1)], [.ref a1, .ref a6], zhp (szL (szI S2 1 a1 (zI S2 4 a3)) a1 (zL S2 a3)))) rfl ?_
  replace hm := zgd hm
  obtain ⟨b5, hm⟩ := hm
  replace hm := zcV_inv hm
  obtain ⟨S7, e7, hm⟩ := hm
  have k7 := hyW_append (X := X) (d := d) e7
  refine go_call (m' := 42) (as := [.ref a6, .ref a1]) (rest := []) (v := none) (h1 := zhp S7) rfl (by simp only [ie_step, ie_iv, List.drop, zhp_obj (S := szL (szI S2 1 a1 (zI S2 4 a3)) a1 (zL S2 a3)) b5 (by decide)]; rfl) ⟨rfl, Nat.le_of_ble_eq_true rfl⟩ k7 ?_
  refine go_run 0 (F' := (35, [some (.ref a3), some (.ref a4), some (.ref a1)], [], zhp S7)) rfl ?_
  refine go_run 0 (F' := (35, [some (.ref a3), some (.ref a4), some (.ref a1)], [], zhp S7)) rfl ?_
  cases hm
  exact go_end rfl rfl
theorem ehyC_cutSet {n : Nat} {S : hS} {p1 : Option Nat} {p2 : Option Nat} {S' : hS} (hm : yC_cutSet n S p1 p2 = some S') : Ex S S' := by
  unfold yC_cutSet at hm
  have hx : Ex S S := Ex_r
  replace hm := znw_inv hm
  obtain ⟨S1, a1, eS1, ea1, hm⟩ := hm
  have hx := Ex_t (T := S) hx (Ex_n (by decide) eS1)
  replace hm := zcV_inv hm
  obtain ⟨S2, e2, hm⟩ := hm
  have hx := Ex_t (T := S1) hx (ehyA_new e2)
  replace hm := zob_inv hm
  obtain ⟨a3, rfl, hm⟩ := hm
  replace hm := zgd hm
  obtain ⟨b1, hm⟩ := hm
  replace hm := zgd hm
  obtain ⟨b2, hm⟩ := hm
  replace hm := zob_inv hm
  obtain ⟨a4, rfl, hm⟩ := hm
  replace hm := zgd hm
  obtain ⟨b3, hm⟩ := hm
  replace hm := zgd hm
  obtain ⟨b4, hm⟩ := hm
  replace hm := zlb_inv hm
  obtain ⟨o5, eo5, hm⟩ := hm
  replace hm := zob_inv hm
  obtain ⟨a6, rfl, hm⟩ := hm
  replace hm := zgd hm
  obtain ⟨b5, hm⟩ := hm
  replace hm := zcV_inv hm
  obtain ⟨S7, e7, hm⟩ := hm
  have hx := Ex_t (T := szL (szI S2 1 a1 (zI S2 4 a3)) a1 (zL S2 a3)) hx (ehyW_append e7)
  cases hm
  exact hx
def yC_cutSend (n : Nat) (S : hS) (p1 : Option Nat) (p2 : Option Nat) : Option (hS) := (znw S 1 fun S1 a1 => (zcV (yA_new S1 a1 2) fun S2 => (zob p1 fun a3 => (if ztg S2 a3 = 10 then (if ztg S2 a1 = 2 then (zob p2 fun a4 => (if zar S2 a4 then (if ib (zI S2 2 a3) (zLen S2 a4) then (zlb ((zAR S2 a4) (Int32.toNatClampNeg (zI S2 2 a3))) fun o5 => (zob o5 fun a6 => (if ztg S2 a6 = 8 then (zcV (yW_append n (szI (szL S2 a1 (zL S2 a3)) 3 a1 (zI S2 3 a3)) a6 (some a1)) fun S7 => (znw S7 1 fun S8 a8 => (zcV (yA_new S8 a8 3) fun S9 => (if ztg S9 a3 = 10 then (if ztg S9 a8 = 2 then (if zar S9 a4 then (if ib (zI (szI (szI S9 1 a8 (zI S9 4 a3)) 3 a8 (zI S9 2 a3)) 3 a3) (zLen S9 a4) then (zlb ((zAR S9 a4) (Int32.toNatClampNeg (zI (szI (szI S9 1 a8 (zI S9 4 a3)) 3 a8 (zI S9 2 a3)) 3 a3))) fun o10 => (zob o10 fun a11 => (if ztg S9 a11 = 8 then (zcV (yW_append n (szI (szI S9 1 a8 (zI S9 4 a3)) 3 a8 (zI S9 2 a3)) a11 (some a8)) fun S12 => (some S12)) else none))) else none) else none) else none) else none)))) else none))) else none) else none)) else none) else none))))
theorem hyC_cutSend {X : ie_X} {d : Nat} {n : Nat} {S : hS} {p1 : Option Nat} {p2 : Option Nat} {S' : hS} (hm : yC_cutSend n S p1 p2 = some S') : Go X (d + 2) 44 (0, ie_en 44 [va_rf p1, va_rf p2], [], zhp S) (.inl none) (zhp S') := by
  unfold yC_cutSend at hm
  refine go_run 0 (F' := (0, [some (va_rf p1), some (va_rf p2), none, none], [], zhp S)) (by cases p1 <;> cases p2 <;> rfl) ?_
  refine go_run 0 (F' := (0, [some (va_rf p1), some (va_rf p2), none, none], [], zhp S)) rfl ?_
  replace hm := znw_inv hm
  obtain ⟨S1, a1, eS1, ea1, hm⟩ := hm
  refine go_hnew rfl (by decide) rfl eS1 ea1 ?_
  refine go_run 2 (F' := (5, [some (va_rf p1), some (va_rf p2), none, none], [.int 2, .ref a1, .ref a1], zhp S1)) rfl ?_
  replace hm := zcV_inv hm
  obtain ⟨S2, e2, hm⟩ := hm
  have k2 := hyA_new (X := X) (d := d) e2
  refine go_call (m' := 40) (as := [.ref a1, .int 2]) (rest := [.ref a1]) (v := none) (h1 := zhp S2) rfl rfl ⟨rfl, Nat.le_of_ble_eq_true rfl⟩ k2 ?_
  refine go_run 0 (F' := (8, [some (va_rf p1), some (va_rf p2), none, none], [.ref a1], zhp S2)) rfl ?_
  refine go_run 2 (F' := (10, [some (va_rf p1), some (va_rf p2), some (.ref a1), none], [.ref a1], zhp S2)) rfl ?_
  refine go_al rfl rfl ?_
  refine go_run 0 (F' := (11, [some (va_rf p1), some (va_rf p2), some (.ref a1), none], [va_rf p1, .ref a1], zhp S2)) rfl ?_
  replace hm := zob_inv hm
  obtain ⟨a3, rfl, hm⟩ := hm
  replace hm := zgd hm
  obtain ⟨b1, hm⟩ := hm
  refine go_hg (v := .long (zL S2 a3)) rfl b1 (by decide) rfl ?_
  refine go_run 0 (F' := (14, [some (.ref a3), some (va_rf p2), some (.ref a1), none], [.long (zL S2 a3), .ref a1], zhp S2)) rfl ?_
  replace hm := zgd hm
  obtain ⟨b2, hm⟩ := hm
  refine go_hpL rfl b2 (by decide) rfl (Nat.le_of_ble_eq_true rfl) fs_1_5 ?_
  refine go_run 2 (F' := (19, [some (.ref a3), some (va_rf p2), some (.ref a1), none], [.ref a3, .ref a1], zhp (szL S2 a1 (zL S2 a3)))) rfl ?_
  refine go_hg (v := .int (zI S2 3 a3)) rfl b1 (by decide) rfl ?_
  refine go_run 0 (F' := (22, [some (.ref a3), some (va_rf p2), some (.ref a1), none], [.int (zI S2 3 a3), .ref a1], zhp (szL S2 a1 (zL S2 a3)))) rfl ?_
  refine go_hpI rfl b2 (by decide) rfl (Nat.le_of_ble_eq_true rfl) fs_1_3 ?_
  refine go_run 0 (F' := (25, [some (.ref a3), some (va_rf p2), some (.ref a1), none], [], zhp (szI (szL S2 a1 (zL S2 a3)) 3 a1 (zI S2 3 a3)))) rfl ?_
  refine go_al rfl rfl ?_
  refine go_run 1 (F' := (27, [some (.ref a3), some (va_rf p2), some (.ref a1), none], [.ref a3, va_rf p2], zhp (szI (szL S2 a1 (zL S2 a3)) 3 a1 (zI S2 3 a3)))) rfl ?_
  refine go_hg (v := .int (zI S2 2 a3)) rfl b1 (by decide) rfl ?_
  refine go_run 0 (F' := (30, [some (.ref a3), some (va_rf p2), some (.ref a1), none], [.int (zI S2 2 a3), va_rf p2], zhp (szI (szL S2 a1 (zL S2 a3)) 3 a1 (zI S2 3 a3)))) rfl ?_
  replace hm := zob_inv hm
  obtain ⟨a4, rfl, hm⟩ := hm
  replace hm := zgd hm
  obtain ⟨b3, hm⟩ := hm
  replace hm := zgd hm
  obtain ⟨b4, hm⟩ := hm
  replace hm := zlb_inv hm
  obtain ⟨o5, eo5, hm⟩ := hm
  refine go_haald rfl b3 b4 rfl eo5 ?_
  refine go_run 1 (F' := (32, [some (.ref a3), some (.ref a4), some (.ref a1), none], [.ref a1, va_rf o5], zhp (szI (szL S2 a1 (zL S2 a3)) 3 a1 (zI S2 3 a3)))) rfl ?_
  replace hm := zob_inv hm
  obtain ⟨a6, rfl, hm⟩ := hm
  refine go_run 0 (F' := (32, [some (.ref a3), some (.ref a4), some (.ref a1), none], [.ref a1, .ref a6], zhp (szI (szL S2 a1 (zL S2 a3)) 3 a1 (zI S2 3 a3)))) rfl ?_
  replace hm := zgd hm
  obtain ⟨b5, hm⟩ := hm
  replace hm := zcV_inv hm
  obtain ⟨S7, e7, hm⟩ := hm
  have k7 := hyW_append (X := X) (d := d) e7
  refine go_call (m' := 42) (as := [.ref a6, .ref a1]) (rest := []) (v := none) (h1 := zhp S7) rfl (by simp only [ie_step, ie_iv, List.drop, zhp_obj (S := szI (szL S2 a1 (zL S2 a3)) 3 a1 (zI S2 3 a3)) b5 (by decide)]; rfl) ⟨rfl, Nat.le_of_ble_eq_true rfl⟩ k7 ?_
  refine go_run 0 (F' := (35, [some (.ref a3), some (.ref a4), some (.ref a1), none], [], zhp S7)) rfl ?_
  refine go_run 0 (F' := (35, [some (.ref a3), some (.ref a4), some (.ref a1), none], [], zhp S7)) rfl ?_
  replace hm := znw_inv hm
  obtain ⟨S8, a8, eS8, ea8, hm⟩ := hm
  refine go_hnew rfl (by decide) rfl eS8 ea8 ?_
  refine go_run 2 (F' := (40, [some (.ref a3), some (.ref a4), some (.ref a1), none], [.int 3, .ref a8, .ref a8], zhp S8)) rfl ?_
  replace hm := zcV_inv hm
  obtain ⟨S9, e9, hm⟩ := hm
  have k9 := hyA_new (X := X) (d := d) e9
  refine go_call (m' := 40) (as := [.ref a8, .int 3]) (rest := [.ref a8]) (v := none) (h1 := zhp S9) rfl rfl ⟨rfl, Nat.le_of_ble_eq_true rfl⟩ k9 ?_
  refine go_run 0 (F' := (43, [some (.ref a3), some (.ref a4), some (.ref a1), none], [.ref a8], zhp S9)) rfl ?_
  refine go_run 3 (F' := (46, [some (.ref a3), some (.ref a4), some (.ref a1), some (.ref a8)], [.ref a3, .ref a8], zhp S9)) rfl ?_
  replace hm := zgd hm
  obtain ⟨b6, hm⟩ := hm
  refine go_hg (v := .int (zI S9 4 a3)) rfl b6 (by decide) rfl ?_
  refine go_run 0 (F' := (49, [some (.ref a3), some (.ref a4), some (.ref a1), some (.ref a8)], [.int (zI S9 4 a3), .ref a8], zhp S9)) rfl ?_
  replace hm := zgd hm
  obtain ⟨b7, hm⟩ := hm
  refine go_hpI rfl b7 (by decide) rfl (Nat.le_of_ble_eq_true rfl) fs_1_1 ?_
  refine go_run 2 (F' := (54, [some (.ref a3), some (.ref a4), some (.ref a1), some (.ref a8)], [.ref a3, .ref a8], zhp (szI S9 1 a8 (zI S9 4 a3)))) rfl ?_
  refine go_hg (v := .int (zI S9 2 a3)) rfl b6 (by decide) rfl ?_
  refine go_run 0 (F' := (57, [some (.ref a3), some (.ref a4), some (.ref a1), some (.ref a8)], [.int (zI S9 2 a3), .ref a8], zhp (szI S9 1 a8 (zI S9 4 a3)))) rfl ?_
  refine go_hpI rfl b7 (by decide) rfl (Nat.le_of_ble_eq_true rfl) fs_1_3 ?_
  refine go_run 2 (F' := (62, [some (.ref a3), some (.ref a4), some (.ref a1), some (.ref a8)], [.ref a3, .ref a4], zhp (szI (szI S9 1 a8 (zI S9 4 a3)) 3 a8 (zI S9 2 a3)))) rfl ?_
  refine go_hg (v := .int (zI (szI (szI S9 1 a8 (zI S9 4 a3)) 3 a8 (zI S9 2 a3)) 3 a3)) rfl b6 (by decide) rfl ?_
  refine go_run 0 (F' := (65, [some (.ref a3), some (.ref a4), some (.ref a1), some (.ref a8)], [.int (zI (szI (szI S9 1 a8 (zI S9 4 a3)) 3 a8 (zI S9 2 a3)) 3 a3), .ref a4], zhp (szI (szI S9 1 a8 (zI S9 4 a3)) 3 a8 (zI S9 2 a3)))) rfl ?_
  replace hm := zgd hm
  obtain ⟨b8, hm⟩ := hm
  replace hm := zgd hm
  obtain ⟨b9, hm⟩ := hm
  replace hm := zlb_inv hm
  obtain ⟨o10, eo10, hm⟩ := hm
  refine go_haald rfl b8 b9 rfl eo10 ?_
  refine go_run 1 (F' := (67, [some (.ref a3), some (.ref a4), some (.ref a1), some (.ref a8)], [.ref a8, va_rf o10], zhp (szI (szI S9 1 a8 (zI S9 4 a3)) 3 a8 (zI S9 2 a3)))) rfl ?_
  replace hm := zob_inv hm
  obtain ⟨a11, rfl, hm⟩ := hm
  refine go_run 0 (F' := (67, [some (.ref a3), some (.ref a4), some (.ref a1), some (.ref a8)], [.ref a8, .ref a11], zhp (szI (szI S9 1 a8 (zI S9 4 a3)) 3 a8 (zI S9 2 a3)))) rfl ?_
  replace hm := zgd hm
  obtain ⟨b10, hm⟩ := hm
  replace hm := zcV_inv hm
  obtain ⟨S12, e12, hm⟩ := hm
  have k12 := hyW_append (X := X) (d := d) e12
  refine go_call (m' := 42) (as := [.ref a11, .ref a8]) (rest := []) (v := none) (h1 := zhp S12) rfl (by simp only [ie_step, ie_iv, List.drop, zhp_obj (S := szI (szI S9 1 a8 (zI S9 4 a3)) 3 a8 (zI S9 2 a3)) b10 (by decide)]; rfl) ⟨rfl, Nat.le_of_ble_eq_true rfl⟩ k12 ?_
  refine go_run 0 (F' := (70, [some (.ref a3), some (.ref a4), some (.ref a1), some (.ref a8)], [], zhp S12)) rfl ?_
  refine go_run 0 (F' := (70, [some (.ref a3), some (.ref a4), some (.ref a1), some (.ref a8)], [], zhp S12)) rfl ?_
  cases hm
  exact go_end rfl rfl
theorem ehyC_cutSend {n : Nat} {S : hS} {p1 : Option Nat} {p2 : Option Nat} {S' : hS} (hm : yC_cutSend n S p1 p2 = some S') : Ex S S' := by
  unfold yC_cutSend at hm
  have hx : Ex S S := Ex_r
  replace hm := znw_inv hm
  obtain ⟨S1, a1, eS1, ea1, hm⟩ := hm
  have hx := Ex_t (T := S) hx (Ex_n (by decide) eS1)
  replace hm := zcV_inv hm
  obtain ⟨S2, e2, hm⟩ := hm
  have hx := Ex_t (T := S1) hx (ehyA_new e2)
  replace hm := zob_inv hm
  obtain ⟨a3, rfl, hm⟩ := hm
  replace hm := zgd hm
  obtain ⟨b1, hm⟩ := hm
  replace hm := zgd hm
  obtain ⟨b2, hm⟩ := hm
  replace hm := zob_inv hm
  obtain ⟨a4, rfl, hm⟩ := hm
  replace hm := zgd hm
  obtain ⟨b3, hm⟩ := hm
  replace hm := zgd hm
  obtain ⟨b4, hm⟩ := hm
  replace hm := zlb_inv hm
  obtain ⟨o5, eo5, hm⟩ := hm
  replace hm := zob_inv hm
  obtain ⟨a6, rfl, hm⟩ := hm
  replace hm := zgd hm
  obtain ⟨b5, hm⟩ := hm
  replace hm := zcV_inv hm
  obtain ⟨S7, e7, hm⟩ := hm
  have hx := Ex_t (T := szI (szL S2 a1 (zL S2 a3)) 3 a1 (zI S2 3 a3)) hx (ehyW_append e7)
  replace hm := znw_inv hm
  obtain ⟨S8, a8, eS8, ea8, hm⟩ := hm
  have hx := Ex_t (T := S7) hx (Ex_n (by decide) eS8)
  replace hm := zcV_inv hm
  obtain ⟨S9, e9, hm⟩ := hm
  have hx := Ex_t (T := S8) hx (ehyA_new e9)
  replace hm := zgd hm
  obtain ⟨b6, hm⟩ := hm
  replace hm := zgd hm
  obtain ⟨b7, hm⟩ := hm
  replace hm := zgd hm
  obtain ⟨b8, hm⟩ := hm
  replace hm := zgd hm
  obtain ⟨b9, hm⟩ := hm
  replace hm := zlb_inv hm
  obtain ⟨o10, eo10, hm⟩ := hm
  replace hm := zob_inv hm
  obtain ⟨a11, rfl, hm⟩ := hm
  replace hm := zgd hm
  obtain ⟨b10, hm⟩ := hm
  replace hm := zcV_inv hm
  obtain ⟨S12, e12, hm⟩ := hm
  have hx := Ex_t (T := szI (szI S9 1 a8 (zI S9 4 a3)) 3 a8 (zI S9 2 a3)) hx (ehyW_append e12)
  cases hm
  exact hx
def yA_tell (S : hS) (x1 : Int32) (x2 : Int32) : Option (hS × Option Nat) := (znw S 1 fun S1 a1 => (zcV (yA_new S1 a1 4) fun S2 => (if ztg S2 a1 = 2 then (some (szI (szI S2 2 a1 x1) 3 a1 x2, some a1)) else none)))
theorem hyA_tell {X : ie_X} {d : Nat} {S : hS} {x1 : Int32} {x2 : Int32} {S' : hS} {r : Option Nat} (hm : yA_tell S x1 x2 = some (S', r)) : Go X (d + 2) 45 (0, ie_en 45 [.int x1, .int x2], [], zhp S) (.inl (some (va_rf r))) (zhp S') := by
  unfold yA_tell at hm
  refine go_run 0 (F' := (0, [some (.int x1), some (.int x2), none], [], zhp S)) rfl ?_
  refine go_run 0 (F' := (0, [some (.int x1), some (.int x2), none], [], zhp S)) rfl ?_
  replace hm := znw_inv hm
  obtain ⟨S1, a1, eS1, ea1, hm⟩ := hm
  refine go_hnew rfl (by decide) rfl eS1 ea1 ?_
  refine go_run 2 (F' := (5, [some (.int x1), some (.int x2), none], [.int 4, .ref a1, .ref a1], zhp S1)) rfl ?_
  replace hm := zcV_inv hm
  obtain ⟨S2, e2, hm⟩ := hm
  have k2 := hyA_new (X := X) (d := d) e2
  refine go_call (m' := 40) (as := [.ref a1, .int 4]) (rest := [.ref a1]) (v := none) (h1 := zhp S2) rfl rfl ⟨rfl, Nat.le_of_ble_eq_true rfl⟩ k2 ?_
  refine go_run 0 (F' := (8, [some (.int x1), some (.int x2), none], [.ref a1], zhp S2)) rfl ?_
  refine go_run 3 (F' := (11, [some (.int x1), some (.int x2), some (.ref a1)], [.int x1, .ref a1], zhp S2)) rfl ?_
  replace hm := zgd hm
  obtain ⟨b1, hm⟩ := hm
  refine go_hpI rfl b1 (by decide) rfl (Nat.le_of_ble_eq_true rfl) fs_1_2 ?_
  refine go_run 2 (F' := (16, [some (.int x1), some (.int x2), some (.ref a1)], [.int x2, .ref a1], zhp (szI S2 2 a1 x1))) rfl ?_
  refine go_hpI rfl b1 (by decide) rfl (Nat.le_of_ble_eq_true rfl) fs_1_3 ?_
  refine go_run 1 (F' := (20, [some (.int x1), some (.int x2), some (.ref a1)], [.ref a1], zhp (szI (szI S2 2 a1 x1) 3 a1 x2))) rfl ?_
  cases hm
  exact go_end rfl rfl
theorem ehyA_tell {S : hS} {x1 : Int32} {x2 : Int32} {S' : hS} {r : Option Nat} (hm : yA_tell S x1 x2 = some (S', r)) : Ex S S' := by
  unfold yA_tell at hm
  have hx : Ex S S := Ex_r
  replace hm := znw_inv hm
  obtain ⟨S1, a1, eS1, ea1, hm⟩ := hm
  have hx := Ex_t (T := S) hx (Ex_n (by decide) eS1)
  replace hm := zcV_inv hm
  obtain ⟨S2, e2, hm⟩ := hm
  have hx := Ex_t (T := S1) hx (ehyA_new e2)
  replace hm := zgd hm
  obtain ⟨b1, hm⟩ := hm
  cases hm
  exact hx
def yA_hear (S : hS) (x1 : Int32) : Option (hS × Option Nat) := (znw S 1 fun S1 a1 => (zcV (yA_new S1 a1 5) fun S2 => (if ztg S2 a1 = 2 then (some (szI S2 3 a1 x1, some a1)) else none)))
theorem hyA_hear {X : ie_X} {d : Nat} {S : hS} {x1 : Int32} {S' : hS} {r : Option Nat} (hm : yA_hear S x1 = some (S', r)) : Go X (d + 2) 47 (0, ie_en 47 [.int x1], [], zhp S) (.inl (some (va_rf r))) (zhp S') := by
  unfold yA_hear at hm
  refine go_run 0 (F' := (0, [some (.int x1), none], [], zhp S)) rfl ?_
  refine go_run 0 (F' := (0, [some (.int x1), none], [], zhp S)) rfl ?_
  replace hm := znw_inv hm
  obtain ⟨S1, a1, eS1, ea1, hm⟩ := hm
  refine go_hnew rfl (by decide) rfl eS1 ea1 ?_
  refine go_run 2 (F' := (5, [some (.int x1), none], [.int 5, .ref a1, .ref a1], zhp S1)) rfl ?_
  replace hm := zcV_inv hm
  obtain ⟨S2, e2, hm⟩ := hm
  have k2 := hyA_new (X := X) (d := d) e2
  refine go_call (m' := 40) (as := [.ref a1, .int 5]) (rest := [.ref a1]) (v := none) (h1 := zhp S2) rfl rfl ⟨rfl, Nat.le_of_ble_eq_true rfl⟩ k2 ?_
  refine go_run 0 (F' := (8, [some (.int x1), none], [.ref a1], zhp S2)) rfl ?_
  refine go_run 3 (F' := (11, [some (.int x1), some (.ref a1)], [.int x1, .ref a1], zhp S2)) rfl ?_
  replace hm := zgd hm
  obtain ⟨b1, hm⟩ := hm
  refine go_hpI rfl b1 (by decide) rfl (Nat.le_of_ble_eq_true rfl) fs_1_3 ?_
  refine go_run 1 (F' := (15, [some (.int x1), some (.ref a1)], [.ref a1], zhp (szI S2 3 a1 x1))) rfl ?_
  cases hm
  exact go_end rfl rfl
theorem ehyA_hear {S : hS} {x1 : Int32} {S' : hS} {r : Option Nat} (hm : yA_hear S x1 = some (S', r)) : Ex S S' := by
  unfold yA_hear at hm
  have hx : Ex S S := Ex_r
  replace hm := znw_inv hm
  obtain ⟨S1, a1, eS1, ea1, hm⟩ := hm
  have hx := Ex_t (T := S) hx (Ex_n (by decide) eS1)
  replace hm := zcV_inv hm
  obtain ⟨S2, e2, hm⟩ := hm
  have hx := Ex_t (T := S1) hx (ehyA_new e2)
  replace hm := zgd hm
  obtain ⟨b1, hm⟩ := hm
  cases hm
  exact hx
def yW_appendHear (n : Nat) (S : hS) (th : Nat) (x1 : Int32) (x2 : Int32) : Option (hS) := (zcP (yA_hear S x1) fun S1 o1 => (zob o1 fun a2 => (if ztg S1 a2 = 2 then (zcV (yA_setPart S1 a2 x2 none) fun S3 => (if ztg S3 th = 8 then (zcV (yW_append n S3 th (some a2)) fun S4 => (if ztg S4 th = 8 then (some (szR (szI (szR S4 2 th (some a2)) 3 th x2) 1 th none)) else none)) else none)) else none)))
theorem hyW_appendHear {X : ie_X} {d th : Nat} {n : Nat} {S : hS} {x1 : Int32} {x2 : Int32} {S' : hS} (hm : yW_appendHear n S th x1 x2 = some S') : Go X (d + 3) 46 (0, ie_en 46 [.ref th, .int x1, .int x2], [], zhp S) (.inl none) (zhp S') := by
  unfold yW_appendHear at hm
  refine go_run 0 (F' := (0, [some (.ref th), some (.int x1), some (.int x2), none], [], zhp S)) rfl ?_
  refine go_run 1 (F' := (1, [some (.ref th), some (.int x1), some (.int x2), none], [.int x1], zhp S)) rfl ?_
  replace hm := zcP_inv hm
  obtain ⟨S1, o1, e1, hm⟩ := hm
  have k1 := hyA_hear (X := X) (d := d) e1
  refine go_call (m' := 47) (as := [.int x1]) (rest := []) (v := some (va_rf o1)) (h1 := zhp S1) rfl rfl ⟨rfl, Nat.le_of_ble_eq_true rfl⟩ k1 ?_
  refine go_run 0 (F' := (4, [some (.ref th), some (.int x1), some (.int x2), none], [va_rf o1], zhp S1)) rfl ?_
  refine go_run 0 (F' := (4, [some (.ref th), some (.int x1), some (.int x2), none], [va_rf o1], zhp S1)) rfl ?_
  refine go_as rfl ?_
  refine go_run 0 (F' := (5, [some (.ref th), some (.int x1), some (.int x2), some (va_rf o1)], [], zhp S1)) rfl ?_
  refine go_al rfl rfl ?_
  refine go_run 2 (F' := (8, [some (.ref th), some (.int x1), some (.int x2), some (va_rf o1)], [.null, .int x2, va_rf o1], zhp S1)) rfl ?_
  replace hm := zob_inv hm
  obtain ⟨a2, rfl, hm⟩ := hm
  refine go_run 0 (F' := (8, [some (.ref th), some (.int x1), some (.int x2), some (.ref a2)], [.null, .int x2, .ref a2], zhp S1)) rfl ?_
  replace hm := zgd hm
  obtain ⟨b1, hm⟩ := hm
  replace hm := zcV_inv hm
  obtain ⟨S3, e3, hm⟩ := hm
  have k3 := hyA_setPart (X := X) (d := d + 2) e3
  refine go_call (m' := 43) (as := [.ref a2, .int x2, .null]) (rest := []) (v := none) (h1 := zhp S3) rfl (by simp only [ie_step, ie_iv, List.drop, zhp_obj (S := S1) b1 (by decide)]; rfl) ⟨rfl, Nat.le_of_ble_eq_true rfl⟩ k3 ?_
  refine go_run 0 (F' := (11, [some (.ref th), some (.int x1), some (.int x2), some (.ref a2)], [], zhp S3)) rfl ?_
  refine go_run 2 (F' := (13, [some (.ref th), some (.int x1), some (.int x2), some (.ref a2)], [.ref a2, .ref th], zhp S3)) rfl ?_
  replace hm := zgd hm
  obtain ⟨b2, hm⟩ := hm
  replace hm := zcV_inv hm
  obtain ⟨S4, e4, hm⟩ := hm
  have k4 := hyW_append (X := X) (d := d + 1) e4
  refine go_call (m' := 42) (as := [.ref th, .ref a2]) (rest := []) (v := none) (h1 := zhp S4) rfl (by simp only [ie_step, ie_iv, List.drop, zhp_obj (S := S3) b2 (by decide)]; rfl) ⟨rfl, Nat.le_of_ble_eq_true rfl⟩ k4 ?_
  refine go_run 0 (F' := (16, [some (.ref th), some (.int x1), some (.int x2), some (.ref a2)], [], zhp S4)) rfl ?_
  refine go_run 2 (F' := (18, [some (.ref th), some (.int x1), some (.int x2), some (.ref a2)], [.ref a2, .ref th], zhp S4)) rfl ?_
  replace hm := zgd hm
  obtain ⟨b3, hm⟩ := hm
  refine go_hpR (v := (some a2)) rfl b3 (by decide) rfl (Nat.le_of_ble_eq_true rfl) fs_7_2 ?_
  refine go_run 2 (F' := (23, [some (.ref th), some (.int x1), some (.int x2), some (.ref a2)], [.int x2, .ref th], zhp (szR S4 2 th (some a2)))) rfl ?_
  refine go_hpI rfl b3 (by decide) rfl (Nat.le_of_ble_eq_true rfl) fs_7_3 ?_
  refine go_run 2 (F' := (28, [some (.ref th), some (.int x1), some (.int x2), some (.ref a2)], [.null, .ref th], zhp (szI (szR S4 2 th (some a2)) 3 th x2))) rfl ?_
  refine go_hpR (v := none) rfl b3 (by decide) rfl (Nat.le_of_ble_eq_true rfl) fs_7_1 ?_
  refine go_run 0 (F' := (31, [some (.ref th), some (.int x1), some (.int x2), some (.ref a2)], [], zhp (szR (szI (szR S4 2 th (some a2)) 3 th x2) 1 th none))) rfl ?_
  cases hm
  exact go_end rfl rfl
theorem ehyW_appendHear {th : Nat} {n : Nat} {S : hS} {x1 : Int32} {x2 : Int32} {S' : hS} (hm : yW_appendHear n S th x1 x2 = some S') : Ex S S' := by
  unfold yW_appendHear at hm
  have hx : Ex S S := Ex_r
  replace hm := zcP_inv hm
  obtain ⟨S1, o1, e1, hm⟩ := hm
  have hx := Ex_t (T := S) hx (ehyA_hear e1)
  replace hm := zob_inv hm
  obtain ⟨a2, rfl, hm⟩ := hm
  replace hm := zgd hm
  obtain ⟨b1, hm⟩ := hm
  replace hm := zcV_inv hm
  obtain ⟨S3, e3, hm⟩ := hm
  have hx := Ex_t (T := S1) hx (ehyA_setPart e3)
  replace hm := zgd hm
  obtain ⟨b2, hm⟩ := hm
  replace hm := zcV_inv hm
  obtain ⟨S4, e4, hm⟩ := hm
  have hx := Ex_t (T := S3) hx (ehyW_append e4)
  replace hm := zgd hm
  obtain ⟨b3, hm⟩ := hm
  cases hm
  exact hx
def y_contains (a1 : Int32) (a2 : Int32) : Int32 := (if (a1 >>> (a2 &&& 31)) &&& 1 = 0 then 0 else 1)
theorem hy_contains {X : ie_X} {d : Nat} {h : ie_H} (a1 : Int32) (a2 : Int32) : Go X (d + 0) 49 (0, ie_en 49 [.int a1, .int a2], [], h) (.inl (some (.int (y_contains a1 a2)))) h := by
  generalize hm : y_contains a1 a2 = r
  unfold y_contains at hm
  refine go_run 0 (F' := (0, [some (.int a1), some (.int a2)], [], h)) rfl ?_
  refine go_run 5 (F' := (5, [some (.int a1), some (.int a2)], [.int ((a1 >>> (a2 &&& 31)) &&& 1)], h)) rfl ?_
  refine go_step rfl rfl ?_
  by_cases q1 : (a1 >>> (a2 &&& 31)) &&& 1 = 0
  · rw [if_pos q1] at hm ⊢
    refine go_run 0 (F' := (12, [some (.int a1), some (.int a2)], [], h)) rfl ?_
    refine go_run 1 (F' := (13, [some (.int a1), some (.int a2)], [.int 0], h)) rfl ?_
    (cases hm; exact go_end rfl rfl)
  · rw [if_neg q1] at hm ⊢
    refine go_run 0 (F' := (8, [some (.int a1), some (.int a2)], [], h)) rfl ?_
    refine go_run 2 (F' := (13, [some (.int a1), some (.int a2)], [.int 1], h)) rfl ?_
    (cases hm; exact go_end rfl rfl)
def yC_cutRound_62 : Nat → hS → Option Nat → Option Nat → Option Nat → Option Nat → Int32 → Option (hS)
  | 0, _, _, _, _, _, _ => none
  | n + 1, S, p0, p1, p2, p3, l4 => (if 6 ≤ l4 then (some S) else (zob p3 fun a1 => (if ztg S a1 = 2 then (if y_contains (zI S 4 a1) l4 = 0 then (yC_cutRound_62 n S p0 p1 p2 (some a1) (l4 + 1)) else (znw S 1 fun S2 a2 => (zcV (yA_new S2 a2 8) fun S3 => (zob p0 fun a4 => (if ztg S3 a4 = 10 then (if ztg S3 a2 = 2 then (zob p2 fun a5 => (if zar S3 a5 then (if ib l4 (zLen S3 a5) then (zlb ((zAR S3 a5) (Int32.toNatClampNeg l4)) fun o6 => (zob o6 fun a7 => (if ztg S3 a7 = 8 then (zlb (zR S3 0 a7) fun o8 => (zcV (yA_setPart (szI S3 3 a2 (zI S3 2 a4)) a2 0 o8) fun S9 => (zob p1 fun a10 => (if zar S9 a10 then (if ib l4 (zLen S9 a10) then (zlb ((zAR S9 a10) (Int32.toNatClampNeg l4)) fun o11 => (zob o11 fun a12 => (if ztg S9 a12 = 8 then (zcV (yW_append n S9 a12 (some a2)) fun S13 => (yC_cutRound_62 n S13 (some a4) (some a10) (some a5) (some a1) (l4 + 1))) else none))) else none) else none)))) else none))) else none) else none)) else none) else none))))) else none)))
theorem hyC_cutRound_62 {X : ie_X} {d : Nat} : ∀ (n : Nat) {S : hS} {p0 : Option Nat} {p1 : Option Nat} {p2 : Option Nat} {p3 : Option Nat} {l4 : Int32} {u5 : Option Value} {S' : hS}, yC_cutRound_62 n S p0 p1 p2 p3 l4 = some S' → Go X (d + 2) 48 (62, [some (va_rf p0), some (va_rf p1), some (va_rf p2), some (va_rf p3), some (.int l4), u5], [], zhp S) (.inl none) (zhp S') := by
  intro n
  induction n with
  | zero => intro S p0 p1 p2 p3 l4 u5 S'  hm; cases hm
  | succ n ih =>
    intro S p0 p1 p2 p3 l4 u5 S'  hm
    unfold yC_cutRound_62 at hm
    refine go_run 0 (F' := (62, [some (va_rf p0), some (va_rf p1), some (va_rf p2), some (va_rf p3), some (.int l4), u5], [], zhp S)) rfl ?_
    refine go_run 2 (F' := (66, [some (va_rf p0), some (va_rf p1), some (va_rf p2), some (va_rf p3), some (.int l4), u5], [.int 6, .int l4], zhp S)) rfl ?_
    refine go_step rfl rfl ?_
    by_cases q1 : 6 ≤ l4
    · rw [if_pos q1] at hm ⊢
      refine go_run 0 (F' := (129, [some (va_rf p0), some (va_rf p1), some (va_rf p2), some (va_rf p3), some (.int l4), u5], [], zhp S)) rfl ?_
      refine go_run 0 (F' := (129, [some (va_rf p0), some (va_rf p1), some (va_rf p2), some (va_rf p3), some (.int l4), u5], [], zhp S)) rfl ?_
      cases hm
      exact go_end rfl rfl
    · rw [if_neg q1] at hm ⊢
      refine go_run 0 (F' := (69, [some (va_rf p0), some (va_rf p1), some (va_rf p2), some (va_rf p3), some (.int l4), u5], [], zhp S)) rfl ?_
      refine go_run 0 (F' := (69, [some (va_rf p0), some (va_rf p1), some (va_rf p2), some (va_rf p3), some (.int l4), u5], [], zhp S)) rfl ?_
      refine go_al rfl rfl ?_
      refine go_run 0 (F' := (70, [some (va_rf p0), some (va_rf p1), some (va_rf p2), some (va_rf p3), some (.int l4), u5], [va_rf p3], zhp S)) rfl ?_
      replace hm := zob_inv hm
      obtain ⟨a1, rfl, hm⟩ := hm
      replace hm := zgd hm
      obtain ⟨b2, hm⟩ := hm
      refine go_hg (v := .int (zI S 4 a1)) rfl b2 (by decide) rfl ?_
      refine go_run 1 (F' := (75, [some (va_rf p0), some (va_rf p1), some (va_rf p2), some (.ref a1), some (.int l4), u5], [.int l4, .int (zI S 4 a1)], zhp S)) rfl ?_
      refine go_call (m' := 49) (as := [.int (zI S 4 a1), .int l4]) (rest := []) (v := some (.int (y_contains (zI S 4 a1) l4))) (h1 := zhp S) rfl rfl ⟨rfl, Nat.le_of_ble_eq_true rfl⟩ (hy_contains _ _) ?_
      refine go_run 0 (F' := (78, [some (va_rf p0), some (va_rf p1), some (va_rf p2), some (.ref a1), some (.int l4), u5], [.int (y_contains (zI S 4 a1) l4)], zhp S)) rfl ?_
      refine go_run 0 (F' := (78, [some (va_rf p0), some (va_rf p1), some (va_rf p2), some (.ref a1), some (.int l4), u5], [.int (y_contains (zI S 4 a1) l4)], zhp S)) rfl ?_
      refine go_step rfl rfl ?_
      by_cases q3 : y_contains (zI S 4 a1) l4 = 0
      · rw [if_pos q3] at hm ⊢
        refine go_run 0 (F' := (123, [some (va_rf p0), some (va_rf p1), some (va_rf p2), some (.ref a1), some (.int l4), u5], [], zhp S)) rfl ?_
        refine go_run 2 (F' := (62, [some (va_rf p0), some (va_rf p1), some (va_rf p2), some (va_rf (some a1)), some (.int (l4 + 1)), u5], [], zhp S)) rfl ?_
        exact ih hm
      · rw [if_neg q3] at hm ⊢
        refine go_run 0 (F' := (81, [some (va_rf p0), some (va_rf p1), some (va_rf p2), some (.ref a1), some (.int l4), u5], [], zhp S)) rfl ?_
        refine go_run 0 (F' := (81, [some (va_rf p0), some (va_rf p1), some (va_rf p2), some (.ref a1), some (.int l4), u5], [], zhp S)) rfl ?_
        replace hm := znw_inv hm
        obtain ⟨S2, a2, eS2, ea2, hm⟩ := hm
        refine go_hnew rfl (by decide) rfl eS2 ea2 ?_
        refine go_run 2 (F' := (87, [some (va_rf p0), some (va_rf p1), some (va_rf p2), some (.ref a1), some (.int l4), u5], [.int 8, .ref a2, .ref a2], zhp S2)) rfl ?_
        replace hm := zcV_inv hm
        obtain ⟨S3, e3, hm⟩ := hm
        have k3 := hyA_new (X := X) (d := d) e3
        refine go_call (m' := 40) (as := [.ref a2, .int 8]) (rest := [.ref a2]) (v := none) (h1 := zhp S3) rfl rfl ⟨rfl, Nat.le_of_ble_eq_true rfl⟩ k3 ?_
        refine go_run 0 (F' := (90, [some (va_rf p0), some (va_rf p1), some (va_rf p2), some (.ref a1), some (.int l4), u5], [.ref a2], zhp S3)) rfl ?_
        refine go_run 2 (F' := (94, [some (va_rf p0), some (va_rf p1), some (va_rf p2), some (.ref a1), some (.int l4), some (.ref a2)], [.ref a2], zhp S3)) rfl ?_
        refine go_al rfl rfl ?_
        refine go_run 0 (F' := (95, [some (va_rf p0), some (va_rf p1), some (va_rf p2), some (.ref a1), some (.int l4), some (.ref a2)], [va_rf p0, .ref a2], zhp S3)) rfl ?_
        replace hm := zob_inv hm
        obtain ⟨a4, rfl, hm⟩ := hm
        replace hm := zgd hm
        obtain ⟨b4, hm⟩ := hm
        refine go_hg (v := .int (zI S3 2 a4)) rfl b4 (by decide) rfl ?_
        refine go_run 0 (F' := (98, [some (.ref a4), some (va_rf p1), some (va_rf p2), some (.ref a1), some (.int l4), some (.ref a2)], [.int (zI S3 2 a4), .ref a2], zhp S3)) rfl ?_
        replace hm := zgd hm
        obtain ⟨b5, hm⟩ := hm
        refine go_hpI rfl b5 (by decide) rfl (Nat.le_of_ble_eq_true rfl) fs_1_3 ?_
        refine go_run 2 (F' := (104, [some (.ref a4), some (va_rf p1), some (va_rf p2), some (.ref a1), some (.int l4), some (.ref a2)], [.int 0, .ref a2], zhp (szI S3 3 a2 (zI S3 2 a4)))) rfl ?_
        refine go_al rfl rfl ?_
        refine go_run 1 (F' := (107, [some (.ref a4), some (va_rf p1), some (va_rf p2), some (.ref a1), some (.int l4), some (.ref a2)], [.int l4, va_rf p2, .int 0, .ref a2], zhp (szI S3 3 a2 (zI S3 2 a4)))) rfl ?_
        replace hm := zob_inv hm
        obtain ⟨a5, rfl, hm⟩ := hm
        replace hm := zgd hm
        obtain ⟨b6, hm⟩ := hm
        replace hm := zgd hm
        obtain ⟨b7, hm⟩ := hm
        replace hm := zlb_inv hm
        obtain ⟨o6, eo6, hm⟩ := hm
        refine go_haald rfl b6 b7 rfl eo6 ?_
        refine go_run 0 (F' := (108, [some (.ref a4), some (va_rf p1), some (.ref a5), some (.ref a1), some (.int l4), some (.ref a2)], [va_rf o6, .int 0, .ref a2], zhp (szI S3 3 a2 (zI S3 2 a4)))) rfl ?_
        replace hm := zob_inv hm
        obtain ⟨a7, rfl, hm⟩ := hm
        replace hm := zgd hm
        obtain ⟨b8, hm⟩ := hm
        replace hm := zlb_inv hm
        obtain ⟨o8, eo8, hm⟩ := hm
        refine go_hg (v := va_rf o8) rfl b8 (by decide) (by rw [← eo8]; rfl) ?_
        refine go_run 0 (F' := (111, [some (.ref a4), some (va_rf p1), some (.ref a5), some (.ref a1), some (.int l4), some (.ref a2)], [va_rf o8, .int 0, .ref a2], zhp (szI S3 3 a2 (zI S3 2 a4)))) rfl ?_
        replace hm := zcV_inv hm
        obtain ⟨S9, e9, hm⟩ := hm
        have k9 := hyA_setPart (X := X) (d := d + 1) e9
        refine go_call (m' := 43) (as := [.ref a2, .int 0, va_rf o8]) (rest := []) (v := none) (h1 := zhp S9) rfl (by simp only [ie_step, ie_iv, List.drop, zhp_obj (S := szI S3 3 a2 (zI S3 2 a4)) b5 (by decide)]; rfl) ⟨by cases o8 <;> rfl, by cases o8 <;> exact Nat.le_of_ble_eq_true rfl⟩ k9 ?_
        refine go_run 0 (F' := (114, [some (.ref a4), some (va_rf p1), some (.ref a5), some (.ref a1), some (.int l4), some (.ref a2)], [], zhp S9)) rfl ?_
        refine go_run 0 (F' := (114, [some (.ref a4), some (va_rf p1), some (.ref a5), some (.ref a1), some (.int l4), some (.ref a2)], [], zhp S9)) rfl ?_
        refine go_al rfl rfl ?_
        refine go_run 1 (F' := (117, [some (.ref a4), some (va_rf p1), some (.ref a5), some (.ref a1), some (.int l4), some (.ref a2)], [.int l4, va_rf p1], zhp S9)) rfl ?_
        replace hm := zob_inv hm
        obtain ⟨a10, rfl, hm⟩ := hm
        replace hm := zgd hm
        obtain ⟨b9, hm⟩ := hm
        replace hm := zgd hm
        obtain ⟨b10, hm⟩ := hm
        replace hm := zlb_inv hm
        obtain ⟨o11, eo11, hm⟩ := hm
        refine go_haald rfl b9 b10 rfl eo11 ?_
        refine go_run 1 (F' := (120, [some (.ref a4), some (.ref a10), some (.ref a5), some (.ref a1), some (.int l4), some (.ref a2)], [.ref a2, va_rf o11], zhp S9)) rfl ?_
        replace hm := zob_inv hm
        obtain ⟨a12, rfl, hm⟩ := hm
        refine go_run 0 (F' := (120, [some (.ref a4), some (.ref a10), some (.ref a5), some (.ref a1), some (.int l4), some (.ref a2)], [.ref a2, .ref a12], zhp S9)) rfl ?_
        replace hm := zgd hm
        obtain ⟨b11, hm⟩ := hm
        replace hm := zcV_inv hm
        obtain ⟨S13, e13, hm⟩ := hm
        have k13 := hyW_append (X := X) (d := d) e13
        refine go_call (m' := 42) (as := [.ref a12, .ref a2]) (rest := []) (v := none) (h1 := zhp S13) rfl (by simp only [ie_step, ie_iv, List.drop, zhp_obj (S := S9) b11 (by decide)]; rfl) ⟨rfl, Nat.le_of_ble_eq_true rfl⟩ k13 ?_
        refine go_run 0 (F' := (123, [some (.ref a4), some (.ref a10), some (.ref a5), some (.ref a1), some (.int l4), some (.ref a2)], [], zhp S13)) rfl ?_
        refine go_run 2 (F' := (62, [some (va_rf (some a4)), some (va_rf (some a10)), some (va_rf (some a5)), some (va_rf (some a1)), some (.int (l4 + 1)), some (.ref a2)], [], zhp S13)) rfl ?_
        exact ih hm
theorem ehyC_cutRound_62 : ∀ (n : Nat) {S : hS} {p0 : Option Nat} {p1 : Option Nat} {p2 : Option Nat} {p3 : Option Nat} {l4 : Int32} {S' : hS}, yC_cutRound_62 n S p0 p1 p2 p3 l4 = some S' → Ex S S' := by
  intro n
  induction n with
  | zero => intro S p0 p1 p2 p3 l4 S'  hm; cases hm
  | succ n ih =>
    intro S p0 p1 p2 p3 l4 S'  hm
    unfold yC_cutRound_62 at hm
    have hx : Ex S S := Ex_r
    by_cases q1 : 6 ≤ l4
    · rw [if_pos q1] at hm
      cases hm
      exact hx
    · rw [if_neg q1] at hm
      replace hm := zob_inv hm
      obtain ⟨a1, rfl, hm⟩ := hm
      replace hm := zgd hm
      obtain ⟨b2, hm⟩ := hm
      by_cases q3 : y_contains (zI S 4 a1) l4 = 0
      · rw [if_pos q3] at hm
        refine Ex_t ?_ (ih hm)
        exact hx
      · rw [if_neg q3] at hm
        replace hm := znw_inv hm
        obtain ⟨S2, a2, eS2, ea2, hm⟩ := hm
        have hx := Ex_t (T := S) hx (Ex_n (by decide) eS2)
        replace hm := zcV_inv hm
        obtain ⟨S3, e3, hm⟩ := hm
        have hx := Ex_t (T := S2) hx (ehyA_new e3)
        replace hm := zob_inv hm
        obtain ⟨a4, rfl, hm⟩ := hm
        replace hm := zgd hm
        obtain ⟨b4, hm⟩ := hm
        replace hm := zgd hm
        obtain ⟨b5, hm⟩ := hm
        replace hm := zob_inv hm
        obtain ⟨a5, rfl, hm⟩ := hm
        replace hm := zgd hm
        obtain ⟨b6, hm⟩ := hm
        replace hm := zgd hm
        obtain ⟨b7, hm⟩ := hm
        replace hm := zlb_inv hm
        obtain ⟨o6, eo6, hm⟩ := hm
        replace hm := zob_inv hm
        obtain ⟨a7, rfl, hm⟩ := hm
        replace hm := zgd hm
        obtain ⟨b8, hm⟩ := hm
        replace hm := zlb_inv hm
        obtain ⟨o8, eo8, hm⟩ := hm
        replace hm := zcV_inv hm
        obtain ⟨S9, e9, hm⟩ := hm
        have hx := Ex_t (T := szI S3 3 a2 (zI S3 2 a4)) hx (ehyA_setPart e9)
        replace hm := zob_inv hm
        obtain ⟨a10, rfl, hm⟩ := hm
        replace hm := zgd hm
        obtain ⟨b9, hm⟩ := hm
        replace hm := zgd hm
        obtain ⟨b10, hm⟩ := hm
        replace hm := zlb_inv hm
        obtain ⟨o11, eo11, hm⟩ := hm
        replace hm := zob_inv hm
        obtain ⟨a12, rfl, hm⟩ := hm
        replace hm := zgd hm
        obtain ⟨b11, hm⟩ := hm
        replace hm := zcV_inv hm
        obtain ⟨S13, e13, hm⟩ := hm
        have hx := Ex_t (T := S9) hx (ehyW_append e13)
        refine Ex_t ?_ (ih hm)
        exact hx
def yC_cutRound (n : Nat) (S : hS) (p1 : Option Nat) (p2 : Option Nat) (p3 : Option Nat) : Option (hS) := (znw S 1 fun S1 a1 => (zcV (yA_new S1 a1 7) fun S2 => (zob p1 fun a3 => (if ztg S2 a3 = 10 then (if ztg S2 a1 = 2 then (zob p3 fun a4 => (if zar S2 a4 then (if ib (zI S2 2 a3) (zLen S2 a4) then (zlb ((zAR S2 a4) (Int32.toNatClampNeg (zI S2 2 a3))) fun o5 => (zob o5 fun a6 => (if ztg S2 a6 = 8 then (zlb (zR S2 0 a6) fun o7 => (zcV (yA_setPart (szI (szL S2 a1 (zL S2 a3)) 4 a1 ((zI S2 11 a3) &&& ((1 <<< ((zI S2 2 a3) &&& 31)) ^^^ (-1)))) a1 0 o7) fun S8 => (if ztg S8 a3 = 10 then (zob p2 fun a9 => (if zar S8 a9 then (if ib (zI S8 2 a3) (zLen S8 a9) then (zlb ((zAR S8 a9) (Int32.toNatClampNeg (zI S8 2 a3))) fun o10 => (zob o10 fun a11 => (if ztg S8 a11 = 8 then (zcV (yW_append n S8 a11 (some a1)) fun S12 => (yC_cutRound_62  n S12 (some a3) (some a9) (some a4) (some a1) 0)) else none))) else none) else none)) else none))) else none))) else none) else none)) else none) else none))))
theorem hyC_cutRound {X : ie_X} {d : Nat} {n : Nat} {S : hS} {p1 : Option Nat} {p2 : Option Nat} {p3 : Option Nat} {S' : hS} (hm : yC_cutRound n S p1 p2 p3 = some S') : Go X (d + 2) 48 (0, ie_en 48 [va_rf p1, va_rf p2, va_rf p3], [], zhp S) (.inl none) (zhp S') := by
  unfold yC_cutRound at hm
  refine go_run 0 (F' := (0, [some (va_rf p1), some (va_rf p2), some (va_rf p3), none, none, none], [], zhp S)) (by cases p1 <;> cases p2 <;> cases p3 <;> rfl) ?_
  refine go_run 0 (F' := (0, [some (va_rf p1), some (va_rf p2), some (va_rf p3), none, none, none], [], zhp S)) rfl ?_
  replace hm := znw_inv hm
  obtain ⟨S1, a1, eS1, ea1, hm⟩ := hm
  refine go_hnew rfl (by decide) rfl eS1 ea1 ?_
  refine go_run 2 (F' := (6, [some (va_rf p1), some (va_rf p2), some (va_rf p3), none, none, none], [.int 7, .ref a1, .ref a1], zhp S1)) rfl ?_
  replace hm := zcV_inv hm
  obtain ⟨S2, e2, hm⟩ := hm
  have k2 := hyA_new (X := X) (d := d) e2
  refine go_call (m' := 40) (as := [.ref a1, .int 7]) (rest := [.ref a1]) (v := none) (h1 := zhp S2) rfl rfl ⟨rfl, Nat.le_of_ble_eq_true rfl⟩ k2 ?_
  refine go_run 0 (F' := (9, [some (va_rf p1), some (va_rf p2), some (va_rf p3), none, none, none], [.ref a1], zhp S2)) rfl ?_
  refine go_run 2 (F' := (11, [some (va_rf p1), some (va_rf p2), some (va_rf p3), some (.ref a1), none, none], [.ref a1], zhp S2)) rfl ?_
  refine go_al rfl rfl ?_
  refine go_run 0 (F' := (12, [some (va_rf p1), some (va_rf p2), some (va_rf p3), some (.ref a1), none, none], [va_rf p1, .ref a1], zhp S2)) rfl ?_
  replace hm := zob_inv hm
  obtain ⟨a3, rfl, hm⟩ := hm
  replace hm := zgd hm
  obtain ⟨b1, hm⟩ := hm
  refine go_hg (v := .long (zL S2 a3)) rfl b1 (by decide) rfl ?_
  refine go_run 0 (F' := (15, [some (.ref a3), some (va_rf p2), some (va_rf p3), some (.ref a1), none, none], [.long (zL S2 a3), .ref a1], zhp S2)) rfl ?_
  replace hm := zgd hm
  obtain ⟨b2, hm⟩ := hm
  refine go_hpL rfl b2 (by decide) rfl (Nat.le_of_ble_eq_true rfl) fs_1_5 ?_
  refine go_run 2 (F' := (20, [some (.ref a3), some (va_rf p2), some (va_rf p3), some (.ref a1), none, none], [.ref a3, .ref a1], zhp (szL S2 a1 (zL S2 a3)))) rfl ?_
  refine go_hg (v := .int (zI S2 11 a3)) rfl b1 (by decide) rfl ?_
  refine go_run 2 (F' := (25, [some (.ref a3), some (va_rf p2), some (va_rf p3), some (.ref a1), none, none], [.ref a3, .int 1, .int (zI S2 11 a3), .ref a1], zhp (szL S2 a1 (zL S2 a3)))) rfl ?_
  refine go_hg (v := .int (zI S2 2 a3)) rfl b1 (by decide) rfl ?_
  refine go_run 4 (F' := (32, [some (.ref a3), some (va_rf p2), some (va_rf p3), some (.ref a1), none, none], [.int ((zI S2 11 a3) &&& ((1 <<< ((zI S2 2 a3) &&& 31)) ^^^ (-1))), .ref a1], zhp (szL S2 a1 (zL S2 a3)))) rfl ?_
  refine go_hpI rfl b2 (by decide) rfl (Nat.le_of_ble_eq_true rfl) fs_1_4 ?_
  refine go_run 2 (F' := (37, [some (.ref a3), some (va_rf p2), some (va_rf p3), some (.ref a1), none, none], [.int 0, .ref a1], zhp (szI (szL S2 a1 (zL S2 a3)) 4 a1 ((zI S2 11 a3) &&& ((1 <<< ((zI S2 2 a3) &&& 31)) ^^^ (-1)))))) rfl ?_
  refine go_al rfl rfl ?_
  refine go_run 1 (F' := (39, [some (.ref a3), some (va_rf p2), some (va_rf p3), some (.ref a1), none, none], [.ref a3, va_rf p3, .int 0, .ref a1], zhp (szI (szL S2 a1 (zL S2 a3)) 4 a1 ((zI S2 11 a3) &&& ((1 <<< ((zI S2 2 a3) &&& 31)) ^^^ (-1)))))) rfl ?_
  refine go_hg (v := .int (zI S2 2 a3)) rfl b1 (by decide) rfl ?_
  refine go_run 0 (F' := (42, [some (.ref a3), some (va_rf p2), some (va_rf p3), some (.ref a1), none, none], [.int (zI S2 2 a3), va_rf p3, .int 0, .ref a1], zhp (szI (szL S2 a1 (zL S2 a3)) 4 a1 ((zI S2 11 a3) &&& ((1 <<< ((zI S2 2 a3) &&& 31)) ^^^ (-1)))))) rfl ?_
  replace hm := zob_inv hm
  obtain ⟨a4, rfl, hm⟩ := hm
  replace hm := zgd hm
  obtain ⟨b3, hm⟩ := hm
  replace hm := zgd hm
  obtain ⟨b4, hm⟩ := hm
  replace hm := zlb_inv hm
  obtain ⟨o5, eo5, hm⟩ := hm
  refine go_haald rfl b3 b4 rfl eo5 ?_
  refine go_run 0 (F' := (43, [some (.ref a3), some (va_rf p2), some (.ref a4), some (.ref a1), none, none], [va_rf o5, .int 0, .ref a1], zhp (szI (szL S2 a1 (zL S2 a3)) 4 a1 ((zI S2 11 a3) &&& ((1 <<< ((zI S2 2 a3) &&& 31)) ^^^ (-1)))))) rfl ?_
  replace hm := zob_inv hm
  obtain ⟨a6, rfl, hm⟩ := hm
  replace hm := zgd hm
  obtain ⟨b5, hm⟩ := hm
  replace hm := zlb_inv hm
  obtain ⟨o7, eo7, hm⟩ := hm
  refine go_hg (v := va_rf o7) rfl b5 (by decide) (by rw [← eo7]; rfl) ?_
  refine go_run 0 (F' := (46, [some (.ref a3), some (va_rf p2), some (.ref a4), some (.ref a1), none, none], [va_rf o7, .int 0, .ref a1], zhp (szI (szL S2 a1 (zL S2 a3)) 4 a1 ((zI S2 11 a3) &&& ((1 <<< ((zI S2 2 a3) &&& 31)) ^^^ (-1)))))) rfl ?_
  replace hm := zcV_inv hm
  obtain ⟨S8, e8, hm⟩ := hm
  have k8 := hyA_setPart (X := X) (d := d + 1) e8
  refine go_call (m' := 43) (as := [.ref a1, .int 0, va_rf o7]) (rest := []) (v := none) (h1 := zhp S8) rfl (by simp only [ie_step, ie_iv, List.drop, zhp_obj (S := szI (szL S2 a1 (zL S2 a3)) 4 a1 ((zI S2 11 a3) &&& ((1 <<< ((zI S2 2 a3) &&& 31)) ^^^ (-1)))) b2 (by decide)]; rfl) ⟨by cases o7 <;> rfl, by cases o7 <;> exact Nat.le_of_ble_eq_true rfl⟩ k8 ?_
  refine go_run 0 (F' := (49, [some (.ref a3), some (va_rf p2), some (.ref a4), some (.ref a1), none, none], [], zhp S8)) rfl ?_
  refine go_run 0 (F' := (49, [some (.ref a3), some (va_rf p2), some (.ref a4), some (.ref a1), none, none], [], zhp S8)) rfl ?_
  refine go_al rfl rfl ?_
  refine go_run 1 (F' := (51, [some (.ref a3), some (va_rf p2), some (.ref a4), some (.ref a1), none, none], [.ref a3, va_rf p2], zhp S8)) rfl ?_
  replace hm := zgd hm
  obtain ⟨b6, hm⟩ := hm
  refine go_hg (v := .int (zI S8 2 a3)) rfl b6 (by decide) rfl ?_
  refine go_run 0 (F' := (54, [some (.ref a3), some (va_rf p2), some (.ref a4), some (.ref a1), none, none], [.int (zI S8 2 a3), va_rf p2], zhp S8)) rfl ?_
  replace hm := zob_inv hm
  obtain ⟨a9, rfl, hm⟩ := hm
  replace hm := zgd hm
  obtain ⟨b7, hm⟩ := hm
  replace hm := zgd hm
  obtain ⟨b8, hm⟩ := hm
  replace hm := zlb_inv hm
  obtain ⟨o10, eo10, hm⟩ := hm
  refine go_haald rfl b7 b8 rfl eo10 ?_
  refine go_run 1 (F' := (56, [some (.ref a3), some (.ref a9), some (.ref a4), some (.ref a1), none, none], [.ref a1, va_rf o10], zhp S8)) rfl ?_
  replace hm := zob_inv hm
  obtain ⟨a11, rfl, hm⟩ := hm
  refine go_run 0 (F' := (56, [some (.ref a3), some (.ref a9), some (.ref a4), some (.ref a1), none, none], [.ref a1, .ref a11], zhp S8)) rfl ?_
  replace hm := zgd hm
  obtain ⟨b9, hm⟩ := hm
  replace hm := zcV_inv hm
  obtain ⟨S12, e12, hm⟩ := hm
  have k12 := hyW_append (X := X) (d := d) e12
  refine go_call (m' := 42) (as := [.ref a11, .ref a1]) (rest := []) (v := none) (h1 := zhp S12) rfl (by simp only [ie_step, ie_iv, List.drop, zhp_obj (S := S8) b9 (by decide)]; rfl) ⟨rfl, Nat.le_of_ble_eq_true rfl⟩ k12 ?_
  refine go_run 0 (F' := (59, [some (.ref a3), some (.ref a9), some (.ref a4), some (.ref a1), none, none], [], zhp S12)) rfl ?_
  refine go_run 2 (F' := (62, [some (va_rf (some a3)), some (va_rf (some a9)), some (va_rf (some a4)), some (va_rf (some a1)), some (.int 0), none], [], zhp S12)) rfl ?_
  exact hyC_cutRound_62  n hm
theorem ehyC_cutRound {n : Nat} {S : hS} {p1 : Option Nat} {p2 : Option Nat} {p3 : Option Nat} {S' : hS} (hm : yC_cutRound n S p1 p2 p3 = some S') : Ex S S' := by
  unfold yC_cutRound at hm
  have hx : Ex S S := Ex_r
  replace hm := znw_inv hm
  obtain ⟨S1, a1, eS1, ea1, hm⟩ := hm
  have hx := Ex_t (T := S) hx (Ex_n (by decide) eS1)
  replace hm := zcV_inv hm
  obtain ⟨S2, e2, hm⟩ := hm
  have hx := Ex_t (T := S1) hx (ehyA_new e2)
  replace hm := zob_inv hm
  obtain ⟨a3, rfl, hm⟩ := hm
  replace hm := zgd hm
  obtain ⟨b1, hm⟩ := hm
  replace hm := zgd hm
  obtain ⟨b2, hm⟩ := hm
  replace hm := zob_inv hm
  obtain ⟨a4, rfl, hm⟩ := hm
  replace hm := zgd hm
  obtain ⟨b3, hm⟩ := hm
  replace hm := zgd hm
  obtain ⟨b4, hm⟩ := hm
  replace hm := zlb_inv hm
  obtain ⟨o5, eo5, hm⟩ := hm
  replace hm := zob_inv hm
  obtain ⟨a6, rfl, hm⟩ := hm
  replace hm := zgd hm
  obtain ⟨b5, hm⟩ := hm
  replace hm := zlb_inv hm
  obtain ⟨o7, eo7, hm⟩ := hm
  replace hm := zcV_inv hm
  obtain ⟨S8, e8, hm⟩ := hm
  have hx := Ex_t (T := szI (szL S2 a1 (zL S2 a3)) 4 a1 ((zI S2 11 a3) &&& ((1 <<< ((zI S2 2 a3) &&& 31)) ^^^ (-1)))) hx (ehyA_setPart e8)
  replace hm := zgd hm
  obtain ⟨b6, hm⟩ := hm
  replace hm := zob_inv hm
  obtain ⟨a9, rfl, hm⟩ := hm
  replace hm := zgd hm
  obtain ⟨b7, hm⟩ := hm
  replace hm := zgd hm
  obtain ⟨b8, hm⟩ := hm
  replace hm := zlb_inv hm
  obtain ⟨o10, eo10, hm⟩ := hm
  replace hm := zob_inv hm
  obtain ⟨a11, rfl, hm⟩ := hm
  replace hm := zgd hm
  obtain ⟨b9, hm⟩ := hm
  replace hm := zcV_inv hm
  obtain ⟨S12, e12, hm⟩ := hm
  have hx := Ex_t (T := S8) hx (ehyW_append e12)
  refine Ex_t ?_ (ehyC_cutRound_62  n hm)
  exact hx
def yA_isLike (S : hS) (th : Nat) (p1 : Option Nat) : Option (hS × Int32) := (if ztg S th = 2 then (zob p1 fun a1 => (if ztg S a1 = 2 then (if zI S 0 th = zI S 0 a1 then (if zI S 1 th = zI S 1 a1 then (if lg_cmp (zL S th) (zL S a1) = 0 then (if zI S 2 th = zI S 2 a1 then (if zI S 3 th = zI S 3 a1 then (if zI S 4 th = zI S 4 a1 then (some (S, 1)) else (some (S, 0))) else (some (S, 0))) else (some (S, 0))) else (some (S, 0))) else (some (S, 0))) else (some (S, 0))) else none)) else none)
theorem hyA_isLike {X : ie_X} {d th : Nat} {S : hS} {p1 : Option Nat} {S' : hS} {r : Int32} (hm : yA_isLike S th p1 = some (S', r)) : Go X (d + 0) 53 (0, ie_en 53 [.ref th, va_rf p1], [], zhp S) (.inl (some (.int r))) (zhp S') := by
  unfold yA_isLike at hm
  refine go_run 0 (F' := (0, [some (.ref th), some (va_rf p1)], [], zhp S)) (by cases p1 <;> rfl) ?_
  refine go_run 1 (F' := (1, [some (.ref th), some (va_rf p1)], [.ref th], zhp S)) rfl ?_
  replace hm := zgd hm
  obtain ⟨b1, hm⟩ := hm
  refine go_hg (v := .int (zI S 0 th)) rfl b1 (by decide) rfl ?_
  refine go_run 0 (F' := (4, [some (.ref th), some (va_rf p1)], [.int (zI S 0 th)], zhp S)) rfl ?_
  refine go_al rfl rfl ?_
  refine go_run 0 (F' := (5, [some (.ref th), some (va_rf p1)], [va_rf p1, .int (zI S 0 th)], zhp S)) rfl ?_
  replace hm := zob_inv hm
  obtain ⟨a1, rfl, hm⟩ := hm
  replace hm := zgd hm
  obtain ⟨b2, hm⟩ := hm
  refine go_hg (v := .int (zI S 0 a1)) rfl b2 (by decide) rfl ?_
  refine go_run 0 (F' := (8, [some (.ref th), some (.ref a1)], [.int (zI S 0 a1), .int (zI S 0 th)], zhp S)) rfl ?_
  refine go_step rfl rfl ?_
  by_cases q3 : zI S 0 th = zI S 0 a1
  · rw [if_pos q3] at hm ⊢
    refine go_run 0 (F' := (11, [some (.ref th), some (.ref a1)], [], zhp S)) rfl ?_
    refine go_run 1 (F' := (12, [some (.ref th), some (.ref a1)], [.ref th], zhp S)) rfl ?_
    refine go_hg (v := .int (zI S 1 th)) rfl b1 (by decide) rfl ?_
    refine go_run 1 (F' := (16, [some (.ref th), some (.ref a1)], [.ref a1, .int (zI S 1 th)], zhp S)) rfl ?_
    refine go_hg (v := .int (zI S 1 a1)) rfl b2 (by decide) rfl ?_
    refine go_run 0 (F' := (19, [some (.ref th), some (.ref a1)], [.int (zI S 1 a1), .int (zI S 1 th)], zhp S)) rfl ?_
    refine go_step rfl rfl ?_
    by_cases q4 : zI S 1 th = zI S 1 a1
    · rw [if_pos q4] at hm ⊢
      refine go_run 0 (F' := (22, [some (.ref th), some (.ref a1)], [], zhp S)) rfl ?_
      refine go_run 1 (F' := (23, [some (.ref th), some (.ref a1)], [.ref th], zhp S)) rfl ?_
      refine go_hg (v := .long (zL S th)) rfl b1 (by decide) rfl ?_
      refine go_run 1 (F' := (27, [some (.ref th), some (.ref a1)], [.ref a1, .long (zL S th)], zhp S)) rfl ?_
      refine go_hg (v := .long (zL S a1)) rfl b2 (by decide) rfl ?_
      refine go_run 1 (F' := (31, [some (.ref th), some (.ref a1)], [.int (lg_cmp (zL S th) (zL S a1))], zhp S)) rfl ?_
      refine go_step rfl rfl ?_
      by_cases q5 : lg_cmp (zL S th) (zL S a1) = 0
      · rw [if_pos q5] at hm ⊢
        refine go_run 0 (F' := (34, [some (.ref th), some (.ref a1)], [], zhp S)) rfl ?_
        refine go_run 1 (F' := (35, [some (.ref th), some (.ref a1)], [.ref th], zhp S)) rfl ?_
        refine go_hg (v := .int (zI S 2 th)) rfl b1 (by decide) rfl ?_
        refine go_run 1 (F' := (39, [some (.ref th), some (.ref a1)], [.ref a1, .int (zI S 2 th)], zhp S)) rfl ?_
        refine go_hg (v := .int (zI S 2 a1)) rfl b2 (by decide) rfl ?_
        refine go_run 0 (F' := (42, [some (.ref th), some (.ref a1)], [.int (zI S 2 a1), .int (zI S 2 th)], zhp S)) rfl ?_
        refine go_step rfl rfl ?_
        by_cases q6 : zI S 2 th = zI S 2 a1
        · rw [if_pos q6] at hm ⊢
          refine go_run 0 (F' := (45, [some (.ref th), some (.ref a1)], [], zhp S)) rfl ?_
          refine go_run 1 (F' := (46, [some (.ref th), some (.ref a1)], [.ref th], zhp S)) rfl ?_
          refine go_hg (v := .int (zI S 3 th)) rfl b1 (by decide) rfl ?_
          refine go_run 1 (F' := (50, [some (.ref th), some (.ref a1)], [.ref a1, .int (zI S 3 th)], zhp S)) rfl ?_
          refine go_hg (v := .int (zI S 3 a1)) rfl b2 (by decide) rfl ?_
          refine go_run 0 (F' := (53, [some (.ref th), some (.ref a1)], [.int (zI S 3 a1), .int (zI S 3 th)], zhp S)) rfl ?_
          refine go_step rfl rfl ?_
          by_cases q7 : zI S 3 th = zI S 3 a1
          · rw [if_pos q7] at hm ⊢
            refine go_run 0 (F' := (56, [some (.ref th), some (.ref a1)], [], zhp S)) rfl ?_
            refine go_run 1 (F' := (57, [some (.ref th), some (.ref a1)], [.ref th], zhp S)) rfl ?_
            refine go_hg (v := .int (zI S 4 th)) rfl b1 (by decide) rfl ?_
            refine go_run 1 (F' := (61, [some (.ref th), some (.ref a1)], [.ref a1, .int (zI S 4 th)], zhp S)) rfl ?_
            refine go_hg (v := .int (zI S 4 a1)) rfl b2 (by decide) rfl ?_
            refine go_run 0 (F' := (64, [some (.ref th), some (.ref a1)], [.int (zI S 4 a1), .int (zI S 4 th)], zhp S)) rfl ?_
            refine go_step rfl rfl ?_
            by_cases q8 : zI S 4 th = zI S 4 a1
            · rw [if_pos q8] at hm ⊢
              refine go_run 0 (F' := (67, [some (.ref th), some (.ref a1)], [], zhp S)) rfl ?_
              refine go_run 2 (F' := (72, [some (.ref th), some (.ref a1)], [.int 1], zhp S)) rfl ?_
              cases hm
              exact go_end rfl rfl
            · rw [if_neg q8] at hm ⊢
              refine go_run 0 (F' := (71, [some (.ref th), some (.ref a1)], [], zhp S)) rfl ?_
              refine go_run 1 (F' := (72, [some (.ref th), some (.ref a1)], [.int 0], zhp S)) rfl ?_
              cases hm
              exact go_end rfl rfl
          · rw [if_neg q7] at hm ⊢
            refine go_run 0 (F' := (71, [some (.ref th), some (.ref a1)], [], zhp S)) rfl ?_
            refine go_run 1 (F' := (72, [some (.ref th), some (.ref a1)], [.int 0], zhp S)) rfl ?_
            cases hm
            exact go_end rfl rfl
        · rw [if_neg q6] at hm ⊢
          refine go_run 0 (F' := (71, [some (.ref th), some (.ref a1)], [], zhp S)) rfl ?_
          refine go_run 1 (F' := (72, [some (.ref th), some (.ref a1)], [.int 0], zhp S)) rfl ?_
          cases hm
          exact go_end rfl rfl
      · rw [if_neg q5] at hm ⊢
        refine go_run 0 (F' := (71, [some (.ref th), some (.ref a1)], [], zhp S)) rfl ?_
        refine go_run 1 (F' := (72, [some (.ref th), some (.ref a1)], [.int 0], zhp S)) rfl ?_
        cases hm
        exact go_end rfl rfl
    · rw [if_neg q4] at hm ⊢
      refine go_run 0 (F' := (71, [some (.ref th), some (.ref a1)], [], zhp S)) rfl ?_
      refine go_run 1 (F' := (72, [some (.ref th), some (.ref a1)], [.int 0], zhp S)) rfl ?_
      cases hm
      exact go_end rfl rfl
  · rw [if_neg q3] at hm ⊢
    refine go_run 0 (F' := (71, [some (.ref th), some (.ref a1)], [], zhp S)) rfl ?_
    refine go_run 1 (F' := (72, [some (.ref th), some (.ref a1)], [.int 0], zhp S)) rfl ?_
    cases hm
    exact go_end rfl rfl
theorem ehyA_isLike {th : Nat} {S : hS} {p1 : Option Nat} {S' : hS} {r : Int32} (hm : yA_isLike S th p1 = some (S', r)) : Ex S S' := by
  unfold yA_isLike at hm
  have hx : Ex S S := Ex_r
  replace hm := zgd hm
  obtain ⟨b1, hm⟩ := hm
  replace hm := zob_inv hm
  obtain ⟨a1, rfl, hm⟩ := hm
  replace hm := zgd hm
  obtain ⟨b2, hm⟩ := hm
  by_cases q3 : zI S 0 th = zI S 0 a1
  · rw [if_pos q3] at hm
    by_cases q4 : zI S 1 th = zI S 1 a1
    · rw [if_pos q4] at hm
      by_cases q5 : lg_cmp (zL S th) (zL S a1) = 0
      · rw [if_pos q5] at hm
        by_cases q6 : zI S 2 th = zI S 2 a1
        · rw [if_pos q6] at hm
          by_cases q7 : zI S 3 th = zI S 3 a1
          · rw [if_pos q7] at hm
            by_cases q8 : zI S 4 th = zI S 4 a1
            · rw [if_pos q8] at hm
              cases hm
              exact hx
            · rw [if_neg q8] at hm
              cases hm
              exact hx
          · rw [if_neg q7] at hm
            cases hm
            exact hx
        · rw [if_neg q6] at hm
          cases hm
          exact hx
      · rw [if_neg q5] at hm
        cases hm
        exact hx
    · rw [if_neg q4] at hm
      cases hm
      exact hx
  · rw [if_neg q3] at hm
    cases hm
    exact hx
def yA_hasPart (S : hS) (th : Nat) (x1 : Int32) : Option (hS × Int32) := (if x1 < 0 then (some (S, 0)) else (if ztg S th = 2 then (zlb (zR S 6 th) fun o1 => (zob o1 fun a2 => (if zal S a2 then (if Int32.ofNat (zLen S a2) ≤ x1 then (some (S, 0)) else (if ((zI S 7 th) >>> (x1 &&& 31)) &&& 1 = 0 then (some (S, 0)) else (some (S, 1)))) else none))) else none))
theorem hyA_hasPart {X : ie_X} {d th : Nat} {S : hS} {x1 : Int32} {S' : hS} {r : Int32} (hm : yA_hasPart S th x1 = some (S', r)) : Go X (d + 0) 55 (0, ie_en 55 [.ref th, .int x1], [], zhp S) (.inl (some (.int r))) (zhp S') := by
  unfold yA_hasPart at hm
  refine go_run 0 (F' := (0, [some (.ref th), some (.int x1)], [], zhp S)) rfl ?_
  refine go_run 1 (F' := (1, [some (.ref th), some (.int x1)], [.int x1], zhp S)) rfl ?_
  refine go_step rfl rfl ?_
  by_cases q1 : x1 < 0
  · rw [if_pos q1] at hm ⊢
    refine go_run 0 (F' := (28, [some (.ref th), some (.int x1)], [], zhp S)) rfl ?_
    refine go_run 1 (F' := (29, [some (.ref th), some (.int x1)], [.int 0], zhp S)) rfl ?_
    cases hm
    exact go_end rfl rfl
  · rw [if_neg q1] at hm ⊢
    refine go_run 0 (F' := (4, [some (.ref th), some (.int x1)], [], zhp S)) rfl ?_
    refine go_run 2 (F' := (6, [some (.ref th), some (.int x1)], [.ref th, .int x1], zhp S)) rfl ?_
    replace hm := zgd hm
    obtain ⟨b2, hm⟩ := hm
    replace hm := zlb_inv hm
    obtain ⟨o1, eo1, hm⟩ := hm
    refine go_hg (v := va_rf o1) rfl b2 (by decide) (by rw [← eo1]; rfl) ?_
    refine go_run 0 (F' := (9, [some (.ref th), some (.int x1)], [va_rf o1, .int x1], zhp S)) rfl ?_
    replace hm := zob_inv hm
    obtain ⟨a2, rfl, hm⟩ := hm
    replace hm := zgd hm
    obtain ⟨b3, hm⟩ := hm
    refine go_hlen rfl b3 ?_
    refine go_run 0 (F' := (10, [some (.ref th), some (.int x1)], [.int (Int32.ofNat (zLen S a2)), .int x1], zhp S)) rfl ?_
    refine go_step rfl rfl ?_
    by_cases q4 : Int32.ofNat (zLen S a2) ≤ x1
    · rw [if_pos q4] at hm ⊢
      refine go_run 0 (F' := (28, [some (.ref th), some (.int x1)], [], zhp S)) rfl ?_
      refine go_run 1 (F' := (29, [some (.ref th), some (.int x1)], [.int 0], zhp S)) rfl ?_
      cases hm
      exact go_end rfl rfl
    · rw [if_neg q4] at hm ⊢
      refine go_run 0 (F' := (13, [some (.ref th), some (.int x1)], [], zhp S)) rfl ?_
      refine go_run 1 (F' := (14, [some (.ref th), some (.int x1)], [.ref th], zhp S)) rfl ?_
      refine go_hg (v := .int (zI S 7 th)) rfl b2 (by decide) rfl ?_
      refine go_run 4 (F' := (21, [some (.ref th), some (.int x1)], [.int (((zI S 7 th) >>> (x1 &&& 31)) &&& 1)], zhp S)) rfl ?_
      refine go_step rfl rfl ?_
      by_cases q5 : ((zI S 7 th) >>> (x1 &&& 31)) &&& 1 = 0
      · rw [if_pos q5] at hm ⊢
        refine go_run 0 (F' := (28, [some (.ref th), some (.int x1)], [], zhp S)) rfl ?_
        refine go_run 1 (F' := (29, [some (.ref th), some (.int x1)], [.int 0], zhp S)) rfl ?_
        cases hm
        exact go_end rfl rfl
      · rw [if_neg q5] at hm ⊢
        refine go_run 0 (F' := (24, [some (.ref th), some (.int x1)], [], zhp S)) rfl ?_
        refine go_run 2 (F' := (29, [some (.ref th), some (.int x1)], [.int 1], zhp S)) rfl ?_
        cases hm
        exact go_end rfl rfl
theorem ehyA_hasPart {th : Nat} {S : hS} {x1 : Int32} {S' : hS} {r : Int32} (hm : yA_hasPart S th x1 = some (S', r)) : Ex S S' := by
  unfold yA_hasPart at hm
  have hx : Ex S S := Ex_r
  by_cases q1 : x1 < 0
  · rw [if_pos q1] at hm
    cases hm
    exact hx
  · rw [if_neg q1] at hm
    replace hm := zgd hm
    obtain ⟨b2, hm⟩ := hm
    replace hm := zlb_inv hm
    obtain ⟨o1, eo1, hm⟩ := hm
    replace hm := zob_inv hm
    obtain ⟨a2, rfl, hm⟩ := hm
    replace hm := zgd hm
    obtain ⟨b3, hm⟩ := hm
    by_cases q4 : Int32.ofNat (zLen S a2) ≤ x1
    · rw [if_pos q4] at hm
      cases hm
      exact hx
    · rw [if_neg q4] at hm
      by_cases q5 : ((zI S 7 th) >>> (x1 &&& 31)) &&& 1 = 0
      · rw [if_pos q5] at hm
        cases hm
        exact hx
      · rw [if_neg q5] at hm
        cases hm
        exact hx
def yA_partsCanJoin_2 (rc : hS → Option Nat → Option Nat → Int32 → Option (hS × Int32)) : Nat → hS → Option Nat → Option Nat → Int32 → Int32 → Option (hS × Int32)
  | 0, _, _, _, _, _ => none
  | n + 1, S, p0, p1, l2, l3 => (zob p0 fun a1 => (if ztg S a1 = 2 then (zlb (zR S 6 a1) fun o2 => (zob o2 fun a3 => (if zal S a3 then (if Int32.ofNat (zLen S a3) ≤ l3 then (some (S, 1)) else (zcP (yA_hasPart S a1 l3) fun S4 v4 => (if v4 = 0 then (yA_partsCanJoin_2 rc n S4 (some a1) p1 l2 (l3 + 1)) else (zob p1 fun a5 => (if ztg S4 a5 = 2 then (zcP (yA_hasPart S4 a5 l3) fun S6 v6 => (if v6 = 0 then (yA_partsCanJoin_2 rc n S6 (some a1) (some a5) l2 (l3 + 1)) else (if ztg S6 a1 = 2 then (zlb (zR S6 6 a1) fun o7 => (zob o7 fun a8 => (if zar S6 a8 then (if ib l3 (zLen S6 a8) then (zlb ((zAR S6 a8) (Int32.toNatClampNeg l3)) fun o9 => (if ztg S6 a5 = 2 then (zlb (zR S6 6 a5) fun o10 => (zob o10 fun a11 => (if zar S6 a11 then (if ib l3 (zLen S6 a11) then (zlb ((zAR S6 a11) (Int32.toNatClampNeg l3)) fun o12 => (zcP (rc S6 o9 o12 (l2 + 1)) fun S13 v13 => (if v13 = 0 then (some (S13, 0)) else (yA_partsCanJoin_2 rc n S13 (some a1) (some a5) l2 (l3 + 1))))) else none) else none))) else none)) else none) else none))) else none))) else none))))) else none))) else none))
theorem hyA_partsCanJoin_2 {X : ie_X} {e : Nat} {rc : hS → Option Nat → Option Nat → Int32 → Option (hS × Int32)} (hrc : ∀ {S : hS} {z1 : Option Nat} {z2 : Option Nat} {z3 : Int32} {S' : hS} {r : Int32}, rc S z1 z2 z3 = some (S', r) → Go X (e + 0) 52 (0, ie_en 52 [va_rf z1, va_rf z2, .int z3], [], zhp S) (.inl (some (.int r))) (zhp S')) : ∀ (n : Nat) {S : hS} {p0 : Option Nat} {p1 : Option Nat} {l2 : Int32} {l3 : Int32} {S' : hS} {r : Int32}, yA_partsCanJoin_2 rc n S p0 p1 l2 l3 = some (S', r) → Go X (e + 1) 54 (2, [some (va_rf p0), some (va_rf p1), some (.int l2), some (.int l3)], [], zhp S) (.inl (some (.int r))) (zhp S') := by
  intro n
  induction n with
  | zero => intro S p0 p1 l2 l3 S' r hm; cases hm
  | succ n ih =>
    intro S p0 p1 l2 l3 S' r hm
    unfold yA_partsCanJoin_2 at hm
    refine go_run 0 (F' := (2, [some (va_rf p0), some (va_rf p1), some (.int l2), some (.int l3)], [], zhp S)) rfl ?_
    refine go_run 1 (F' := (3, [some (va_rf p0), some (va_rf p1), some (.int l2), some (.int l3)], [.int l3], zhp S)) rfl ?_
    refine go_al rfl rfl ?_
    refine go_run 0 (F' := (4, [some (va_rf p0), some (va_rf p1), some (.int l2), some (.int l3)], [va_rf p0, .int l3], zhp S)) rfl ?_
    replace hm := zob_inv hm
    obtain ⟨a1, rfl, hm⟩ := hm
    replace hm := zgd hm
    obtain ⟨b1, hm⟩ := hm
    replace hm := zlb_inv hm
    obtain ⟨o2, eo2, hm⟩ := hm
    refine go_hg (v := va_rf o2) rfl b1 (by decide) (by rw [← eo2]; rfl) ?_
    refine go_run 0 (F' := (7, [some (.ref a1), some (va_rf p1), some (.int l2), some (.int l3)], [va_rf o2, .int l3], zhp S)) rfl ?_
    replace hm := zob_inv hm
    obtain ⟨a3, rfl, hm⟩ := hm
    replace hm := zgd hm
    obtain ⟨b2, hm⟩ := hm
    refine go_hlen rfl b2 ?_
    refine go_run 0 (F' := (8, [some (.ref a1), some (va_rf p1), some (.int l2), some (.int l3)], [.int (Int32.ofNat (zLen S a3)), .int l3], zhp S)) rfl ?_
    refine go_step rfl rfl ?_
    by_cases q3 : Int32.ofNat (zLen S a3) ≤ l3
    · rw [if_pos q3] at hm ⊢
      refine go_run 0 (F' := (56, [some (.ref a1), some (va_rf p1), some (.int l2), some (.int l3)], [], zhp S)) rfl ?_
      refine go_run 1 (F' := (57, [some (.ref a1), some (va_rf p1), some (.int l2), some (.int l3)], [.int 1], zhp S)) rfl ?_
      cases hm
      exact go_end rfl rfl
    · rw [if_neg q3] at hm ⊢
      refine go_run 0 (F' := (11, [some (.ref a1), some (va_rf p1), some (.int l2), some (.int l3)], [], zhp S)) rfl ?_
      refine go_run 2 (F' := (13, [some (.ref a1), some (va_rf p1), some (.int l2), some (.int l3)], [.int l3, .ref a1], zhp S)) rfl ?_
      replace hm := zcP_inv hm
      obtain ⟨S4, v4, e4, hm⟩ := hm
      have k4 := hyA_hasPart (X := X) (d := e) e4
      refine go_call (m' := 55) (as := [.ref a1, .int l3]) (rest := []) (v := some (.int v4)) (h1 := zhp S4) rfl (by simp only [ie_step, ie_iv, List.drop, zhp_obj (S := S) b1 (by decide)]; rfl) ⟨rfl, Nat.le_of_ble_eq_true rfl⟩ k4 ?_
      refine go_run 0 (F' := (16, [some (.ref a1), some (va_rf p1), some (.int l2), some (.int l3)], [.int v4], zhp S4)) rfl ?_
      refine go_run 0 (F' := (16, [some (.ref a1), some (va_rf p1), some (.int l2), some (.int l3)], [.int v4], zhp S4)) rfl ?_
      refine go_step rfl rfl ?_
      by_cases q4 : v4 = 0
      · rw [if_pos q4] at hm ⊢
        refine go_run 0 (F' := (50, [some (.ref a1), some (va_rf p1), some (.int l2), some (.int l3)], [], zhp S4)) rfl ?_
        refine go_run 2 (F' := (2, [some (va_rf (some a1)), some (va_rf p1), some (.int l2), some (.int (l3 + 1))], [], zhp S4)) rfl ?_
        exact ih hm
      · rw [if_neg q4] at hm ⊢
        refine go_run 0 (F' := (19, [some (.ref a1), some (va_rf p1), some (.int l2), some (.int l3)], [], zhp S4)) rfl ?_
        refine go_run 0 (F' := (19, [some (.ref a1), some (va_rf p1), some (.int l2), some (.int l3)], [], zhp S4)) rfl ?_
        refine go_al rfl rfl ?_
        refine go_run 1 (F' := (21, [some (.ref a1), some (va_rf p1), some (.int l2), some (.int l3)], [.int l3, va_rf p1], zhp S4)) rfl ?_
        replace hm := zob_inv hm
        obtain ⟨a5, rfl, hm⟩ := hm
        refine go_run 0 (F' := (21, [some (.ref a1), some (.ref a5), some (.int l2), some (.int l3)], [.int l3, .ref a5], zhp S4)) rfl ?_
        replace hm := zgd hm
        obtain ⟨b5, hm⟩ := hm
        replace hm := zcP_inv hm
        obtain ⟨S6, v6, e6, hm⟩ := hm
        have k6 := hyA_hasPart (X := X) (d := e) e6
        refine go_call (m' := 55) (as := [.ref a5, .int l3]) (rest := []) (v := some (.int v6)) (h1 := zhp S6) rfl (by simp only [ie_step, ie_iv, List.drop, zhp_obj (S := S4) b5 (by decide)]; rfl) ⟨rfl, Nat.le_of_ble_eq_true rfl⟩ k6 ?_
        refine go_run 0 (F' := (24, [some (.ref a1), some (.ref a5), some (.int l2), some (.int l3)], [.int v6], zhp S6)) rfl ?_
        refine go_run 0 (F' := (24, [some (.ref a1), some (.ref a5), some (.int l2), some (.int l3)], [.int v6], zhp S6)) rfl ?_
        refine go_step rfl rfl ?_
        by_cases q6 : v6 = 0
        · rw [if_pos q6] at hm ⊢
          refine go_run 0 (F' := (50, [some (.ref a1), some (.ref a5), some (.int l2), some (.int l3)], [], zhp S6)) rfl ?_
          refine go_run 2 (F' := (2, [some (va_rf (some a1)), some (va_rf (some a5)), some (.int l2), some (.int (l3 + 1))], [], zhp S6)) rfl ?_
          exact ih hm
        · rw [if_neg q6] at hm ⊢
          refine go_run 0 (F' := (27, [some (.ref a1), some (.ref a5), some (.int l2), some (.int l3)], [], zhp S6)) rfl ?_
          refine go_run 1 (F' := (28, [some (.ref a1), some (.ref a5), some (.int l2), some (.int l3)], [.ref a1], zhp S6)) rfl ?_
          replace hm := zgd hm
          obtain ⟨b7, hm⟩ := hm
          replace hm := zlb_inv hm
          obtain ⟨o7, eo7, hm⟩ := hm
          refine go_hg (v := va_rf o7) rfl b7 (by decide) (by rw [← eo7]; rfl) ?_
          refine go_run 1 (F' := (32, [some (.ref a1), some (.ref a5), some (.int l2), some (.int l3)], [.int l3, va_rf o7], zhp S6)) rfl ?_
          replace hm := zob_inv hm
          obtain ⟨a8, rfl, hm⟩ := hm
          replace hm := zgd hm
          obtain ⟨b8, hm⟩ := hm
          replace hm := zgd hm
          obtain ⟨b9, hm⟩ := hm
          replace hm := zlb_inv hm
          obtain ⟨o9, eo9, hm⟩ := hm
          refine go_haald rfl b8 b9 rfl eo9 ?_
          refine go_run 1 (F' := (34, [some (.ref a1), some (.ref a5), some (.int l2), some (.int l3)], [.ref a5, va_rf o9], zhp S6)) rfl ?_
          replace hm := zgd hm
          obtain ⟨b10, hm⟩ := hm
          replace hm := zlb_inv hm
          obtain ⟨o10, eo10, hm⟩ := hm
          refine go_hg (v := va_rf o10) rfl b10 (by decide) (by rw [← eo10]; rfl) ?_
          refine go_run 1 (F' := (38, [some (.ref a1), some (.ref a5), some (.int l2), some (.int l3)], [.int l3, va_rf o10, va_rf o9], zhp S6)) rfl ?_
          replace hm := zob_inv hm
          obtain ⟨a11, rfl, hm⟩ := hm
          replace hm := zgd hm
          obtain ⟨b11, hm⟩ := hm
          replace hm := zgd hm
          obtain ⟨b12, hm⟩ := hm
          replace hm := zlb_inv hm
          obtain ⟨o12, eo12, hm⟩ := hm
          refine go_haald rfl b11 b12 rfl eo12 ?_
          refine go_run 3 (F' := (42, [some (.ref a1), some (.ref a5), some (.int l2), some (.int l3)], [.int (l2 + 1), va_rf o12, va_rf o9], zhp S6)) rfl ?_
          replace hm := zcP_inv hm
          obtain ⟨S13, v13, e13, hm⟩ := hm
          have k13 := hrc e13
          refine go_call (m' := 52) (as := [va_rf o9, va_rf o12, .int (l2 + 1)]) (rest := []) (v := some (.int v13)) (h1 := zhp S13) rfl rfl ⟨by cases o12 <;> cases o9 <;> rfl, by cases o12 <;> cases o9 <;> exact Nat.le_of_ble_eq_true rfl⟩ k13 ?_
          refine go_run 0 (F' := (45, [some (.ref a1), some (.ref a5), some (.int l2), some (.int l3)], [.int v13], zhp S13)) rfl ?_
          refine go_run 0 (F' := (45, [some (.ref a1), some (.ref a5), some (.int l2), some (.int l3)], [.int v13], zhp S13)) rfl ?_
          refine go_step rfl rfl ?_
          by_cases q13 : v13 = 0
          · rw [if_pos q13] at hm ⊢
            refine go_run 0 (F' := (48, [some (.ref a1), some (.ref a5), some (.int l2), some (.int l3)], [], zhp S13)) rfl ?_
            refine go_run 1 (F' := (49, [some (.ref a1), some (.ref a5), some (.int l2), some (.int l3)], [.int 0], zhp S13)) rfl ?_
            cases hm
            exact go_end rfl rfl
          · rw [if_neg q13] at hm ⊢
            refine go_run 0 (F' := (50, [some (.ref a1), some (.ref a5), some (.int l2), some (.int l3)], [], zhp S13)) rfl ?_
            refine go_run 2 (F' := (2, [some (va_rf (some a1)), some (va_rf (some a5)), some (.int l2), some (.int (l3 + 1))], [], zhp S13)) rfl ?_
            exact ih hm
theorem ehyA_partsCanJoin_2 {rc : hS → Option Nat → Option Nat → Int32 → Option (hS × Int32)} (hrc : ∀ {S : hS} {z1 : Option Nat} {z2 : Option Nat} {z3 : Int32} {S' : hS} {r : Int32}, rc S z1 z2 z3 = some (S', r) → Ex S S') : ∀ (n : Nat) {S : hS} {p0 : Option Nat} {p1 : Option Nat} {l2 : Int32} {l3 : Int32} {S' : hS} {r : Int32}, yA_partsCanJoin_2 rc n S p0 p1 l2 l3 = some (S', r) → Ex S S' := by
  intro n
  induction n with
  | zero => intro S p0 p1 l2 l3 S' r hm; cases hm
  | succ n ih =>
    intro S p0 p1 l2 l3 S' r hm
    unfold yA_partsCanJoin_2 at hm
    have hx : Ex S S := Ex_r
    replace hm := zob_inv hm
    obtain ⟨a1, rfl, hm⟩ := hm
    replace hm := zgd hm
    obtain ⟨b1, hm⟩ := hm
    replace hm := zlb_inv hm
    obtain ⟨o2, eo2, hm⟩ := hm
    replace hm := zob_inv hm
    obtain ⟨a3, rfl, hm⟩ := hm
    replace hm := zgd hm
    obtain ⟨b2, hm⟩ := hm
    by_cases q3 : Int32.ofNat (zLen S a3) ≤ l3
    · rw [if_pos q3] at hm
      cases hm
      exact hx
    · rw [if_neg q3] at hm
      replace hm := zcP_inv hm
      obtain ⟨S4, v4, e4, hm⟩ := hm
      have hx := Ex_t (T := S) hx (ehyA_hasPart e4)
      by_cases q4 : v4 = 0
      · rw [if_pos q4] at hm
        refine Ex_t ?_ (ih hm)
        exact hx
      · rw [if_neg q4] at hm
        replace hm := zob_inv hm
        obtain ⟨a5, rfl, hm⟩ := hm
        replace hm := zgd hm
        obtain ⟨b5, hm⟩ := hm
        replace hm := zcP_inv hm
        obtain ⟨S6, v6, e6, hm⟩ := hm
        have hx := Ex_t (T := S4) hx (ehyA_hasPart e6)
        by_cases q6 : v6 = 0
        · rw [if_pos q6] at hm
          refine Ex_t ?_ (ih hm)
          exact hx
        · rw [if_neg q6] at hm
          replace hm := zgd hm
          obtain ⟨b7, hm⟩ := hm
          replace hm := zlb_inv hm
          obtain ⟨o7, eo7, hm⟩ := hm
          replace hm := zob_inv hm
          obtain ⟨a8, rfl, hm⟩ := hm
          replace hm := zgd hm
          obtain ⟨b8, hm⟩ := hm
          replace hm := zgd hm
          obtain ⟨b9, hm⟩ := hm
          replace hm := zlb_inv hm
          obtain ⟨o9, eo9, hm⟩ := hm
          replace hm := zgd hm
          obtain ⟨b10, hm⟩ := hm
          replace hm := zlb_inv hm
          obtain ⟨o10, eo10, hm⟩ := hm
          replace hm := zob_inv hm
          obtain ⟨a11, rfl, hm⟩ := hm
          replace hm := zgd hm
          obtain ⟨b11, hm⟩ := hm
          replace hm := zgd hm
          obtain ⟨b12, hm⟩ := hm
          replace hm := zlb_inv hm
          obtain ⟨o12, eo12, hm⟩ := hm
          replace hm := zcP_inv hm
          obtain ⟨S13, v13, e13, hm⟩ := hm
          have hx := Ex_t (T := S6) hx (hrc e13)
          by_cases q13 : v13 = 0
          · rw [if_pos q13] at hm
            cases hm
            exact hx
          · rw [if_neg q13] at hm
            refine Ex_t ?_ (ih hm)
            exact hx
def yA_partsCanJoin (rc : hS → Option Nat → Option Nat → Int32 → Option (hS × Int32)) (n : Nat) (S : hS) (p1 : Option Nat) (p2 : Option Nat) (x3 : Int32) : Option (hS × Int32) := (yA_partsCanJoin_2 rc n S p1 p2 x3 0)
theorem hyA_partsCanJoin {X : ie_X} {e : Nat} {rc : hS → Option Nat → Option Nat → Int32 → Option (hS × Int32)} (hrc : ∀ {S : hS} {z1 : Option Nat} {z2 : Option Nat} {z3 : Int32} {S' : hS} {r : Int32}, rc S z1 z2 z3 = some (S', r) → Go X (e + 0) 52 (0, ie_en 52 [va_rf z1, va_rf z2, .int z3], [], zhp S) (.inl (some (.int r))) (zhp S')) {n : Nat} {S : hS} {p1 : Option Nat} {p2 : Option Nat} {x3 : Int32} {S' : hS} {r : Int32} (hm : yA_partsCanJoin rc n S p1 p2 x3 = some (S', r)) : Go X (e + 1) 54 (0, ie_en 54 [va_rf p1, va_rf p2, .int x3], [], zhp S) (.inl (some (.int r))) (zhp S') := by
  unfold yA_partsCanJoin at hm
  refine go_run 0 (F' := (0, [some (va_rf p1), some (va_rf p2), some (.int x3), none], [], zhp S)) (by cases p1 <;> cases p2 <;> rfl) ?_
  refine go_run 2 (F' := (2, [some (va_rf p1), some (va_rf p2), some (.int x3), some (.int 0)], [], zhp S)) rfl ?_
  exact hyA_partsCanJoin_2 hrc n hm
theorem ehyA_partsCanJoin {rc : hS → Option Nat → Option Nat → Int32 → Option (hS × Int32)} (hrc : ∀ {S : hS} {z1 : Option Nat} {z2 : Option Nat} {z3 : Int32} {S' : hS} {r : Int32}, rc S z1 z2 z3 = some (S', r) → Ex S S') {n : Nat} {S : hS} {p1 : Option Nat} {p2 : Option Nat} {x3 : Int32} {S' : hS} {r : Int32} (hm : yA_partsCanJoin rc n S p1 p2 x3 = some (S', r)) : Ex S S' := by
  unfold yA_partsCanJoin at hm
  have hx : Ex S S := Ex_r
  refine Ex_t ?_ (ehyA_partsCanJoin_2 hrc n hm)
  exact hx
def yA_canJoin_13 (rc : hS → Option Nat → Option Nat → Int32 → Option (hS × Int32)) : Nat → hS → Int32 → Option Nat → Option Nat → Option (hS × Int32)
  | 0, _, _, _, _ => none
  | n + 1, S, l2, p3, p4 => (zoc p3 (zoc p4 (some (S, 1)) fun a2 => (some (S, 0))) fun a1 => (zoc p4 (some (S, 0)) fun a3 => (if ztg S a1 = 2 then (zcP (yA_isLike S a1 (some a3)) fun S4 v4 => (if v4 = 0 then (some (S4, 0)) else (zcP (yA_partsCanJoin rc n S4 (some a1) (some a3) l2) fun S5 v5 => (if v5 = 0 then (some (S5, 0)) else (if ztg S5 a1 = 2 then (zlb (zR S5 8 a1) fun o6 => (if ztg S5 a3 = 2 then (zlb (zR S5 8 a3) fun o7 => (yA_canJoin_13 rc n S5 l2 o6 o7)) else none)) else none))))) else none)))
theorem hyA_canJoin_13 {X : ie_X} {e : Nat} {rc : hS → Option Nat → Option Nat → Int32 → Option (hS × Int32)} (hrc : ∀ {S : hS} {z1 : Option Nat} {z2 : Option Nat} {z3 : Int32} {S' : hS} {r : Int32}, rc S z1 z2 z3 = some (S', r) → Go X (e + 0) 52 (0, ie_en 52 [va_rf z1, va_rf z2, .int z3], [], zhp S) (.inl (some (.int r))) (zhp S')) : ∀ (n : Nat) {S : hS} {l2 : Int32} {p3 : Option Nat} {p4 : Option Nat} {u0 u1 : Option Value} {S' : hS} {r : Int32}, yA_canJoin_13 rc n S l2 p3 p4 = some (S', r) → Go X (e + 2) 52 (13, [u0, u1, some (.int l2), some (va_rf p3), some (va_rf p4)], [], zhp S) (.inl (some (.int r))) (zhp S') := by
  intro n
  induction n with
  | zero => intro S l2 p3 p4 u0 u1 S' r hm; cases hm
  | succ n ih =>
    intro S l2 p3 p4 u0 u1 S' r hm
    unfold yA_canJoin_13 at hm
    refine go_run 0 (F' := (13, [u0, u1, some (.int l2), some (va_rf p3), some (va_rf p4)], [], zhp S)) rfl ?_
    refine go_run 0 (F' := (13, [u0, u1, some (.int l2), some (va_rf p3), some (va_rf p4)], [], zhp S)) rfl ?_
    refine go_al rfl rfl ?_
    refine go_run 0 (F' := (14, [u0, u1, some (.int l2), some (va_rf p3), some (va_rf p4)], [va_rf p3], zhp S)) rfl ?_
    cases p3 with
    | none =>
      replace hm := zoc_n hm
      refine go_step rfl rfl ?_
      refine go_run 0 (F' := (58, [u0, u1, some (.int l2), some (.null), some (va_rf p4)], [], zhp S)) rfl ?_
      refine go_run 2 (F' := (62, [u0, u1, some (.int l2), some (.null), some (va_rf p4)], [], zhp S)) rfl ?_
      refine go_al2 rfl rfl ?_
      refine go_run 0 (F' := (64, [u0, u1, some (.int l2), some (.null), some (va_rf p4)], [va_rf p4], zhp S)) rfl ?_
      cases p4 with
      | none =>
        replace hm := zoc_n hm
        refine go_step rfl rfl ?_
        refine go_run 0 (F' := (67, [u0, u1, some (.int l2), some (.null), some (.null)], [], zhp S)) rfl ?_
        refine go_run 2 (F' := (72, [u0, u1, some (.int l2), some (.null), some (.null)], [.int 1], zhp S)) rfl ?_
        cases hm
        exact go_end rfl rfl
      | some a2 =>
        replace hm := zoc_s hm
        refine go_step rfl rfl ?_
        refine go_run 0 (F' := (71, [u0, u1, some (.int l2), some (.null), some (.ref a2)], [], zhp S)) rfl ?_
        refine go_run 1 (F' := (72, [u0, u1, some (.int l2), some (.null), some (.ref a2)], [.int 0], zhp S)) rfl ?_
        cases hm
        exact go_end rfl rfl
    | some a1 =>
      replace hm := zoc_s hm
      refine go_step rfl rfl ?_
      refine go_run 0 (F' := (17, [u0, u1, some (.int l2), some (.ref a1), some (va_rf p4)], [], zhp S)) rfl ?_
      refine go_run 0 (F' := (17, [u0, u1, some (.int l2), some (.ref a1), some (va_rf p4)], [], zhp S)) rfl ?_
      refine go_al2 rfl rfl ?_
      refine go_run 0 (F' := (19, [u0, u1, some (.int l2), some (.ref a1), some (va_rf p4)], [va_rf p4], zhp S)) rfl ?_
      cases p4 with
      | none =>
        replace hm := zoc_n hm
        refine go_step rfl rfl ?_
        refine go_run 0 (F' := (58, [u0, u1, some (.int l2), some (.ref a1), some (.null)], [], zhp S)) rfl ?_
        refine go_run 3 (F' := (72, [u0, u1, some (.int l2), some (.ref a1), some (.null)], [.int 0], zhp S)) rfl ?_
        cases hm
        exact go_end rfl rfl
      | some a3 =>
        replace hm := zoc_s hm
        refine go_step rfl rfl ?_
        refine go_run 0 (F' := (22, [u0, u1, some (.int l2), some (.ref a1), some (.ref a3)], [], zhp S)) rfl ?_
        refine go_run 2 (F' := (25, [u0, u1, some (.int l2), some (.ref a1), some (.ref a3)], [.ref a3, .ref a1], zhp S)) rfl ?_
        replace hm := zgd hm
        obtain ⟨b1, hm⟩ := hm
        replace hm := zcP_inv hm
        obtain ⟨S4, v4, e4, hm⟩ := hm
        have k4 := hyA_isLike (X := X) (d := e + 1) e4
        refine go_call (m' := 53) (as := [.ref a1, .ref a3]) (rest := []) (v := some (.int v4)) (h1 := zhp S4) rfl (by simp only [ie_step, ie_iv, List.drop, zhp_obj (S := S) b1 (by decide)]; rfl) ⟨rfl, Nat.le_of_ble_eq_true rfl⟩ k4 ?_
        refine go_run 0 (F' := (28, [u0, u1, some (.int l2), some (.ref a1), some (.ref a3)], [.int v4], zhp S4)) rfl ?_
        refine go_run 0 (F' := (28, [u0, u1, some (.int l2), some (.ref a1), some (.ref a3)], [.int v4], zhp S4)) rfl ?_
        refine go_step rfl rfl ?_
        by_cases q2 : v4 = 0
        · rw [if_pos q2] at hm ⊢
          refine go_run 0 (F' := (41, [u0, u1, some (.int l2), some (.ref a1), some (.ref a3)], [], zhp S4)) rfl ?_
          refine go_run 1 (F' := (42, [u0, u1, some (.int l2), some (.ref a1), some (.ref a3)], [.int 0], zhp S4)) rfl ?_
          cases hm
          exact go_end rfl rfl
        · rw [if_neg q2] at hm ⊢
          refine go_run 0 (F' := (31, [u0, u1, some (.int l2), some (.ref a1), some (.ref a3)], [], zhp S4)) rfl ?_
          refine go_run 3 (F' := (35, [u0, u1, some (.int l2), some (.ref a1), some (.ref a3)], [.int l2, .ref a3, .ref a1], zhp S4)) rfl ?_
          replace hm := zcP_inv hm
          obtain ⟨S5, v5, e5, hm⟩ := hm
          have k5 := hyA_partsCanJoin (X := X) hrc e5
          refine go_call (m' := 54) (as := [.ref a1, .ref a3, .int l2]) (rest := []) (v := some (.int v5)) (h1 := zhp S5) rfl rfl ⟨rfl, Nat.le_of_ble_eq_true rfl⟩ k5 ?_
          refine go_run 0 (F' := (38, [u0, u1, some (.int l2), some (.ref a1), some (.ref a3)], [.int v5], zhp S5)) rfl ?_
          refine go_run 0 (F' := (38, [u0, u1, some (.int l2), some (.ref a1), some (.ref a3)], [.int v5], zhp S5)) rfl ?_
          refine go_step rfl rfl ?_
          by_cases q3 : v5 = 0
          · rw [if_pos q3] at hm ⊢
            refine go_run 0 (F' := (41, [u0, u1, some (.int l2), some (.ref a1), some (.ref a3)], [], zhp S5)) rfl ?_
            refine go_run 1 (F' := (42, [u0, u1, some (.int l2), some (.ref a1), some (.ref a3)], [.int 0], zhp S5)) rfl ?_
            cases hm
            exact go_end rfl rfl
          · rw [if_neg q3] at hm ⊢
            refine go_run 0 (F' := (43, [u0, u1, some (.int l2), some (.ref a1), some (.ref a3)], [], zhp S5)) rfl ?_
            refine go_run 1 (F' := (44, [u0, u1, some (.int l2), some (.ref a1), some (.ref a3)], [.ref a1], zhp S5)) rfl ?_
            replace hm := zgd hm
            obtain ⟨b4, hm⟩ := hm
            replace hm := zlb_inv hm
            obtain ⟨o6, eo6, hm⟩ := hm
            refine go_hg (v := va_rf o6) rfl b4 (by decide) (by rw [← eo6]; rfl) ?_
            refine go_run 0 (F' := (47, [u0, u1, some (.int l2), some (.ref a1), some (.ref a3)], [va_rf o6], zhp S5)) rfl ?_
            refine go_as rfl ?_
            refine go_run 1 (F' := (50, [u0, u1, some (.int l2), some (va_rf o6), some (.ref a3)], [.ref a3], zhp S5)) rfl ?_
            replace hm := zgd hm
            obtain ⟨b5, hm⟩ := hm
            replace hm := zlb_inv hm
            obtain ⟨o7, eo7, hm⟩ := hm
            refine go_hg (v := va_rf o7) rfl b5 (by decide) (by rw [← eo7]; rfl) ?_
            refine go_run 0 (F' := (53, [u0, u1, some (.int l2), some (va_rf o6), some (.ref a3)], [va_rf o7], zhp S5)) rfl ?_
            refine go_as2 rfl ?_
            refine go_run 1 (F' := (13, [u0, u1, some (.int l2), some (va_rf o6), some (va_rf o7)], [], zhp S5)) rfl ?_
            exact ih hm
theorem ehyA_canJoin_13 {rc : hS → Option Nat → Option Nat → Int32 → Option (hS × Int32)} (hrc : ∀ {S : hS} {z1 : Option Nat} {z2 : Option Nat} {z3 : Int32} {S' : hS} {r : Int32}, rc S z1 z2 z3 = some (S', r) → Ex S S') : ∀ (n : Nat) {S : hS} {l2 : Int32} {p3 : Option Nat} {p4 : Option Nat} {S' : hS} {r : Int32}, yA_canJoin_13 rc n S l2 p3 p4 = some (S', r) → Ex S S' := by
  intro n
  induction n with
  | zero => intro S l2 p3 p4 S' r hm; cases hm
  | succ n ih =>
    intro S l2 p3 p4 S' r hm
    unfold yA_canJoin_13 at hm
    have hx : Ex S S := Ex_r
    cases p3 with
    | none =>
      replace hm := zoc_n hm
      cases p4 with
      | none =>
        replace hm := zoc_n hm
        cases hm
        exact hx
      | some a2 =>
        replace hm := zoc_s hm
        cases hm
        exact hx
    | some a1 =>
      replace hm := zoc_s hm
      cases p4 with
      | none =>
        replace hm := zoc_n hm
        cases hm
        exact hx
      | some a3 =>
        replace hm := zoc_s hm
        replace hm := zgd hm
        obtain ⟨b1, hm⟩ := hm
        replace hm := zcP_inv hm
        obtain ⟨S4, v4, e4, hm⟩ := hm
        have hx := Ex_t (T := S) hx (ehyA_isLike e4)
        by_cases q2 : v4 = 0
        · rw [if_pos q2] at hm
          cases hm
          exact hx
        · rw [if_neg q2] at hm
          replace hm := zcP_inv hm
          obtain ⟨S5, v5, e5, hm⟩ := hm
          have hx := Ex_t (T := S4) hx (ehyA_partsCanJoin hrc e5)
          by_cases q3 : v5 = 0
          · rw [if_pos q3] at hm
            cases hm
            exact hx
          · rw [if_neg q3] at hm
            replace hm := zgd hm
            obtain ⟨b4, hm⟩ := hm
            replace hm := zlb_inv hm
            obtain ⟨o6, eo6, hm⟩ := hm
            replace hm := zgd hm
            obtain ⟨b5, hm⟩ := hm
            replace hm := zlb_inv hm
            obtain ⟨o7, eo7, hm⟩ := hm
            refine Ex_t ?_ (ih hm)
            exact hx
def yA_canJoin (n : Nat) : Nat → hS → Option Nat → Option Nat → Int32 → Option (hS × Int32)
  | 0, _, _, _, _ => none
  | r + 1, S, p1, p2, x3 => (if x3 ≤ 64 then (yA_canJoin_13 (yA_canJoin n r) n S x3 p1 p2) else (some (S, 0)))
theorem hyA_canJoin {X : ie_X} {d : Nat} {n : Nat} : ∀ (r : Nat) {S : hS} {p1 : Option Nat} {p2 : Option Nat} {x3 : Int32} {S' : hS} {r_ : Int32}, yA_canJoin n r S p1 p2 x3 = some (S', r_) → Go X (d + 2 * r + 0) 52 (0, ie_en 52 [va_rf p1, va_rf p2, .int x3], [], zhp S) (.inl (some (.int r_))) (zhp S') := by
  intro r
  induction r with
  | zero => intro S p1 p2 x3 S' r_ hm; cases hm
  | succ r ih =>
    intro S p1 p2 x3 S' r_ hm
    rw [show d + 2 * (r + 1) + 0 = (d + 2 * r) + 2 by omega]
    unfold yA_canJoin at hm
    refine go_run 0 (F' := (0, [some (va_rf p1), some (va_rf p2), some (.int x3), none, none], [], zhp S)) (by cases p1 <;> cases p2 <;> rfl) ?_
    refine go_run 2 (F' := (3, [some (va_rf p1), some (va_rf p2), some (.int x3), none, none], [.int 64, .int x3], zhp S)) rfl ?_
    refine go_step rfl rfl ?_
    by_cases q1 : x3 ≤ 64
    · rw [if_pos q1] at hm ⊢
      refine go_run 0 (F' := (8, [some (va_rf p1), some (va_rf p2), some (.int x3), none, none], [], zhp S)) rfl ?_
      refine go_run 0 (F' := (8, [some (va_rf p1), some (va_rf p2), some (.int x3), none, none], [], zhp S)) rfl ?_
      refine go_al rfl rfl ?_
      refine go_run 0 (F' := (9, [some (va_rf p1), some (va_rf p2), some (.int x3), none, none], [va_rf p1], zhp S)) rfl ?_
      refine go_as rfl ?_
      refine go_run 0 (F' := (10, [some (va_rf p1), some (va_rf p2), some (.int x3), some (va_rf p1), none], [], zhp S)) rfl ?_
      refine go_al rfl rfl ?_
      refine go_run 0 (F' := (11, [some (va_rf p1), some (va_rf p2), some (.int x3), some (va_rf p1), none], [va_rf p2], zhp S)) rfl ?_
      refine go_as2 rfl ?_
      refine go_run 0 (F' := (13, [some (va_rf p1), some (va_rf p2), some (.int x3), some (va_rf p1), some (va_rf p2)], [], zhp S)) rfl ?_
      exact hyA_canJoin_13 ih n hm
    · rw [if_neg q1] at hm ⊢
      refine go_run 0 (F' := (6, [some (va_rf p1), some (va_rf p2), some (.int x3), none, none], [], zhp S)) rfl ?_
      refine go_run 1 (F' := (7, [some (va_rf p1), some (va_rf p2), some (.int x3), none, none], [.int 0], zhp S)) rfl ?_
      cases hm
      exact go_end rfl rfl
theorem ehyA_canJoin {n : Nat} : ∀ (r : Nat) {S : hS} {p1 : Option Nat} {p2 : Option Nat} {x3 : Int32} {S' : hS} {r_ : Int32}, yA_canJoin n r S p1 p2 x3 = some (S', r_) → Ex S S' := by
  intro r
  induction r with
  | zero => intro S p1 p2 x3 S' r_ hm; cases hm
  | succ r ih =>
    intro S p1 p2 x3 S' r_ hm
    unfold yA_canJoin at hm
    have hx : Ex S S := Ex_r
    by_cases q1 : x3 ≤ 64
    · rw [if_pos q1] at hm
      refine Ex_t ?_ (ehyA_canJoin_13 ih n hm)
      exact hx
    · rw [if_neg q1] at hm
      cases hm
      exact hx
theorem hyA_canJoin_o {X : ie_X} {d n : Nat} {S : hS} {p1 : Option Nat} {p2 : Option Nat} {x3 : Int32} {S' : hS} {r_ : Int32} (hm : yA_canJoin n 67 S p1 p2 x3 = some (S', r_)) : Go X (d + 134) 52 (0, ie_en 52 [va_rf p1, va_rf p2, .int x3], [], zhp S) (.inl (some (.int r_))) (zhp S') := hyA_canJoin (X := X) (d := d) 67 hm
theorem ehyA_canJoin_o {n : Nat} {S : hS} {p1 : Option Nat} {p2 : Option Nat} {x3 : Int32} {S' : hS} {r_ : Int32} (hm : yA_canJoin n 67 S p1 p2 x3 = some (S', r_)) : Ex S S' := ehyA_canJoin 67 hm
def yC_unawareAt_5 : Nat → hS → Option Nat → Option Nat → Option Nat → Int32 → Int32 → Option (hS × Int32)
  | 0, _, _, _, _, _, _ => none
  | n + 1, S, p0, p1, p2, l3, l4 => (if 6 ≤ l4 then (some (S, l3)) else (zob p0 fun a1 => (if ztg S a1 = 10 then (if l4 = zI S 2 a1 then (yC_unawareAt_5 n S (some a1) p1 p2 l3 (l4 + 1)) else (zob p1 fun a2 => (if zar S a2 then (if ib l4 (zLen S a2) then (zlb ((zAR S a2) (Int32.toNatClampNeg l4)) fun o3 => (zob o3 fun a4 => (if ztg S a4 = 8 then (zlb (zR S 0 a4) fun o5 => (zob p2 fun a6 => (if zar S a6 then (if ib l4 (zLen S a6) then (zlb ((zAR S a6) (Int32.toNatClampNeg l4)) fun o7 => (zob o7 fun a8 => (if ztg S a8 = 8 then (zlb (zR S 0 a8) fun o9 => (zcP (yA_canJoin n 67 S o5 o9 0) fun S10 v10 => (if v10 = 0 then (yC_unawareAt_5 n S10 (some a1) (some a2) (some a6) (l3 ||| (1 <<< (l4 &&& 31))) (l4 + 1)) else (yC_unawareAt_5 n S10 (some a1) (some a2) (some a6) l3 (l4 + 1))))) else none))) else none) else none))) else none))) else none) else none))) else none)))
theorem hyC_unawareAt_5 {X : ie_X} {d : Nat} : ∀ (n : Nat) {S : hS} {p0 : Option Nat} {p1 : Option Nat} {p2 : Option Nat} {l3 : Int32} {l4 : Int32} {S' : hS} {r : Int32}, yC_unawareAt_5 n S p0 p1 p2 l3 l4 = some (S', r) → Go X (d + 135) 51 (5, [some (va_rf p0), some (va_rf p1), some (va_rf p2), some (.int l3), some (.int l4)], [], zhp S) (.inl (some (.int r))) (zhp S') := by
  intro n
  induction n with
  | zero => intro S p0 p1 p2 l3 l4 S' r hm; cases hm
  | succ n ih =>
    intro S p0 p1 p2 l3 l4 S' r hm
    unfold yC_unawareAt_5 at hm
    refine go_run 0 (F' := (5, [some (va_rf p0), some (va_rf p1), some (va_rf p2), some (.int l3), some (.int l4)], [], zhp S)) rfl ?_
    refine go_run 2 (F' := (9, [some (va_rf p0), some (va_rf p1), some (va_rf p2), some (.int l3), some (.int l4)], [.int 6, .int l4], zhp S)) rfl ?_
    refine go_step rfl rfl ?_
    by_cases q1 : 6 ≤ l4
    · rw [if_pos q1] at hm ⊢
      refine go_run 0 (F' := (55, [some (va_rf p0), some (va_rf p1), some (va_rf p2), some (.int l3), some (.int l4)], [], zhp S)) rfl ?_
      refine go_run 1 (F' := (56, [some (va_rf p0), some (va_rf p1), some (va_rf p2), some (.int l3), some (.int l4)], [.int l3], zhp S)) rfl ?_
      cases hm
      exact go_end rfl rfl
    · rw [if_neg q1] at hm ⊢
      refine go_run 0 (F' := (12, [some (va_rf p0), some (va_rf p1), some (va_rf p2), some (.int l3), some (.int l4)], [], zhp S)) rfl ?_
      refine go_run 1 (F' := (14, [some (va_rf p0), some (va_rf p1), some (va_rf p2), some (.int l3), some (.int l4)], [.int l4], zhp S)) rfl ?_
      refine go_al rfl rfl ?_
      refine go_run 0 (F' := (15, [some (va_rf p0), some (va_rf p1), some (va_rf p2), some (.int l3), some (.int l4)], [va_rf p0, .int l4], zhp S)) rfl ?_
      replace hm := zob_inv hm
      obtain ⟨a1, rfl, hm⟩ := hm
      replace hm := zgd hm
      obtain ⟨b2, hm⟩ := hm
      refine go_hg (v := .int (zI S 2 a1)) rfl b2 (by decide) rfl ?_
      refine go_run 0 (F' := (18, [some (.ref a1), some (va_rf p1), some (va_rf p2), some (.int l3), some (.int l4)], [.int (zI S 2 a1), .int l4], zhp S)) rfl ?_
      refine go_step rfl rfl ?_
      by_cases q3 : l4 = zI S 2 a1
      · rw [if_pos q3] at hm ⊢
        refine go_run 0 (F' := (49, [some (.ref a1), some (va_rf p1), some (va_rf p2), some (.int l3), some (.int l4)], [], zhp S)) rfl ?_
        refine go_run 2 (F' := (5, [some (va_rf (some a1)), some (va_rf p1), some (va_rf p2), some (.int l3), some (.int (l4 + 1))], [], zhp S)) rfl ?_
        exact ih hm
      · rw [if_neg q3] at hm ⊢
        refine go_run 0 (F' := (21, [some (.ref a1), some (va_rf p1), some (va_rf p2), some (.int l3), some (.int l4)], [], zhp S)) rfl ?_
        refine go_run 0 (F' := (21, [some (.ref a1), some (va_rf p1), some (va_rf p2), some (.int l3), some (.int l4)], [], zhp S)) rfl ?_
        refine go_al rfl rfl ?_
        refine go_run 1 (F' := (24, [some (.ref a1), some (va_rf p1), some (va_rf p2), some (.int l3), some (.int l4)], [.int l4, va_rf p1], zhp S)) rfl ?_
        replace hm := zob_inv hm
        obtain ⟨a2, rfl, hm⟩ := hm
        replace hm := zgd hm
        obtain ⟨b4, hm⟩ := hm
        replace hm := zgd hm
        obtain ⟨b5, hm⟩ := hm
        replace hm := zlb_inv hm
        obtain ⟨o3, eo3, hm⟩ := hm
        refine go_haald rfl b4 b5 rfl eo3 ?_
        refine go_run 0 (F' := (25, [some (.ref a1), some (.ref a2), some (va_rf p2), some (.int l3), some (.int l4)], [va_rf o3], zhp S)) rfl ?_
        replace hm := zob_inv hm
        obtain ⟨a4, rfl, hm⟩ := hm
        replace hm := zgd hm
        obtain ⟨b6, hm⟩ := hm
        replace hm := zlb_inv hm
        obtain ⟨o5, eo5, hm⟩ := hm
        refine go_hg (v := va_rf o5) rfl b6 (by decide) (by rw [← eo5]; rfl) ?_
        refine go_run 0 (F' := (28, [some (.ref a1), some (.ref a2), some (va_rf p2), some (.int l3), some (.int l4)], [va_rf o5], zhp S)) rfl ?_
        refine go_al rfl rfl ?_
        refine go_run 1 (F' := (31, [some (.ref a1), some (.ref a2), some (va_rf p2), some (.int l3), some (.int l4)], [.int l4, va_rf p2, va_rf o5], zhp S)) rfl ?_
        replace hm := zob_inv hm
        obtain ⟨a6, rfl, hm⟩ := hm
        replace hm := zgd hm
        obtain ⟨b7, hm⟩ := hm
        replace hm := zgd hm
        obtain ⟨b8, hm⟩ := hm
        replace hm := zlb_inv hm
        obtain ⟨o7, eo7, hm⟩ := hm
        refine go_haald rfl b7 b8 rfl eo7 ?_
        refine go_run 0 (F' := (32, [some (.ref a1), some (.ref a2), some (.ref a6), some (.int l3), some (.int l4)], [va_rf o7, va_rf o5], zhp S)) rfl ?_
        replace hm := zob_inv hm
        obtain ⟨a8, rfl, hm⟩ := hm
        replace hm := zgd hm
        obtain ⟨b9, hm⟩ := hm
        replace hm := zlb_inv hm
        obtain ⟨o9, eo9, hm⟩ := hm
        refine go_hg (v := va_rf o9) rfl b9 (by decide) (by rw [← eo9]; rfl) ?_
        refine go_run 1 (F' := (36, [some (.ref a1), some (.ref a2), some (.ref a6), some (.int l3), some (.int l4)], [.int 0, va_rf o9, va_rf o5], zhp S)) rfl ?_
        replace hm := zcP_inv hm
        obtain ⟨S10, v10, e10, hm⟩ := hm
        have k10 := hyA_canJoin_o (X := X) (d := d) e10
        refine go_call (m' := 52) (as := [va_rf o5, va_rf o9, .int 0]) (rest := []) (v := some (.int v10)) (h1 := zhp S10) rfl rfl ⟨by cases o5 <;> cases o9 <;> rfl, by cases o5 <;> cases o9 <;> exact Nat.le_of_ble_eq_true rfl⟩ k10 ?_
        refine go_run 0 (F' := (39, [some (.ref a1), some (.ref a2), some (.ref a6), some (.int l3), some (.int l4)], [.int v10], zhp S10)) rfl ?_
        refine go_run 0 (F' := (39, [some (.ref a1), some (.ref a2), some (.ref a6), some (.int l3), some (.int l4)], [.int v10], zhp S10)) rfl ?_
        refine go_step rfl rfl ?_
        by_cases q10 : v10 = 0
        · rw [if_pos q10] at hm ⊢
          refine go_run 0 (F' := (42, [some (.ref a1), some (.ref a2), some (.ref a6), some (.int l3), some (.int l4)], [], zhp S10)) rfl ?_
          refine go_run 8 (F' := (5, [some (va_rf (some a1)), some (va_rf (some a2)), some (va_rf (some a6)), some (.int (l3 ||| (1 <<< (l4 &&& 31)))), some (.int (l4 + 1))], [], zhp S10)) rfl ?_
          exact ih hm
        · rw [if_neg q10] at hm ⊢
          refine go_run 0 (F' := (49, [some (.ref a1), some (.ref a2), some (.ref a6), some (.int l3), some (.int l4)], [], zhp S10)) rfl ?_
          refine go_run 2 (F' := (5, [some (va_rf (some a1)), some (va_rf (some a2)), some (va_rf (some a6)), some (.int l3), some (.int (l4 + 1))], [], zhp S10)) rfl ?_
          exact ih hm
theorem ehyC_unawareAt_5 : ∀ (n : Nat) {S : hS} {p0 : Option Nat} {p1 : Option Nat} {p2 : Option Nat} {l3 : Int32} {l4 : Int32} {S' : hS} {r : Int32}, yC_unawareAt_5 n S p0 p1 p2 l3 l4 = some (S', r) → Ex S S' := by
  intro n
  induction n with
  | zero => intro S p0 p1 p2 l3 l4 S' r hm; cases hm
  | succ n ih =>
    intro S p0 p1 p2 l3 l4 S' r hm
    unfold yC_unawareAt_5 at hm
    have hx : Ex S S := Ex_r
    by_cases q1 : 6 ≤ l4
    · rw [if_pos q1] at hm
      cases hm
      exact hx
    · rw [if_neg q1] at hm
      replace hm := zob_inv hm
      obtain ⟨a1, rfl, hm⟩ := hm
      replace hm := zgd hm
      obtain ⟨b2, hm⟩ := hm
      by_cases q3 : l4 = zI S 2 a1
      · rw [if_pos q3] at hm
        refine Ex_t ?_ (ih hm)
        exact hx
      · rw [if_neg q3] at hm
        replace hm := zob_inv hm
        obtain ⟨a2, rfl, hm⟩ := hm
        replace hm := zgd hm
        obtain ⟨b4, hm⟩ := hm
        replace hm := zgd hm
        obtain ⟨b5, hm⟩ := hm
        replace hm := zlb_inv hm
        obtain ⟨o3, eo3, hm⟩ := hm
        replace hm := zob_inv hm
        obtain ⟨a4, rfl, hm⟩ := hm
        replace hm := zgd hm
        obtain ⟨b6, hm⟩ := hm
        replace hm := zlb_inv hm
        obtain ⟨o5, eo5, hm⟩ := hm
        replace hm := zob_inv hm
        obtain ⟨a6, rfl, hm⟩ := hm
        replace hm := zgd hm
        obtain ⟨b7, hm⟩ := hm
        replace hm := zgd hm
        obtain ⟨b8, hm⟩ := hm
        replace hm := zlb_inv hm
        obtain ⟨o7, eo7, hm⟩ := hm
        replace hm := zob_inv hm
        obtain ⟨a8, rfl, hm⟩ := hm
        replace hm := zgd hm
        obtain ⟨b9, hm⟩ := hm
        replace hm := zlb_inv hm
        obtain ⟨o9, eo9, hm⟩ := hm
        replace hm := zcP_inv hm
        obtain ⟨S10, v10, e10, hm⟩ := hm
        have hx := Ex_t (T := S) hx (ehyA_canJoin_o e10)
        by_cases q10 : v10 = 0
        · rw [if_pos q10] at hm
          refine Ex_t ?_ (ih hm)
          exact hx
        · rw [if_neg q10] at hm
          refine Ex_t ?_ (ih hm)
          exact hx
def yC_unawareAt (n : Nat) (S : hS) (p1 : Option Nat) (p2 : Option Nat) (p3 : Option Nat) : Option (hS × Int32) := (yC_unawareAt_5  n S p1 p2 p3 0 0)
theorem hyC_unawareAt {X : ie_X} {d : Nat} {n : Nat} {S : hS} {p1 : Option Nat} {p2 : Option Nat} {p3 : Option Nat} {S' : hS} {r : Int32} (hm : yC_unawareAt n S p1 p2 p3 = some (S', r)) : Go X (d + 135) 51 (0, ie_en 51 [va_rf p1, va_rf p2, va_rf p3], [], zhp S) (.inl (some (.int r))) (zhp S') := by
  unfold yC_unawareAt at hm
  refine go_run 0 (F' := (0, [some (va_rf p1), some (va_rf p2), some (va_rf p3), none, none], [], zhp S)) (by cases p1 <;> cases p2 <;> cases p3 <;> rfl) ?_
  refine go_run 4 (F' := (5, [some (va_rf p1), some (va_rf p2), some (va_rf p3), some (.int 0), some (.int 0)], [], zhp S)) rfl ?_
  exact hyC_unawareAt_5  n hm
theorem ehyC_unawareAt {n : Nat} {S : hS} {p1 : Option Nat} {p2 : Option Nat} {p3 : Option Nat} {S' : hS} {r : Int32} (hm : yC_unawareAt n S p1 p2 p3 = some (S', r)) : Ex S S' := by
  unfold yC_unawareAt at hm
  have hx : Ex S S := Ex_r
  refine Ex_t ?_ (ehyC_unawareAt_5  n hm)
  exact hx
def yC_leastOf_2 : Nat → hS → Int32 → Int32 → Option (hS × Int32)
  | 0, _, _, _ => none
  | n + 1, S, l0, l1 => (if 6 ≤ l1 then (some (S, (-1))) else (if y_contains l0 l1 = 0 then (yC_leastOf_2 n S l0 (l1 + 1)) else (some (S, l1))))
theorem hyC_leastOf_2 {X : ie_X} {d : Nat} : ∀ (n : Nat) {S : hS} {l0 : Int32} {l1 : Int32} {S' : hS} {r : Int32}, yC_leastOf_2 n S l0 l1 = some (S', r) → Go X (d + 1) 57 (2, [some (.int l0), some (.int l1)], [], zhp S) (.inl (some (.int r))) (zhp S') := by
  intro n
  induction n with
  | zero => intro S l0 l1 S' r hm; cases hm
  | succ n ih =>
    intro S l0 l1 S' r hm
    unfold yC_leastOf_2 at hm
    refine go_run 0 (F' := (2, [some (.int l0), some (.int l1)], [], zhp S)) rfl ?_
    refine go_run 2 (F' := (5, [some (.int l0), some (.int l1)], [.int 6, .int l1], zhp S)) rfl ?_
    refine go_step rfl rfl ?_
    by_cases q1 : 6 ≤ l1
    · rw [if_pos q1] at hm ⊢
      refine go_run 0 (F' := (24, [some (.int l0), some (.int l1)], [], zhp S)) rfl ?_
      refine go_run 1 (F' := (25, [some (.int l0), some (.int l1)], [.int (-1)], zhp S)) rfl ?_
      cases hm
      exact go_end rfl rfl
    · rw [if_neg q1] at hm ⊢
      refine go_run 0 (F' := (8, [some (.int l0), some (.int l1)], [], zhp S)) rfl ?_
      refine go_run 2 (F' := (10, [some (.int l0), some (.int l1)], [.int l1, .int l0], zhp S)) rfl ?_
      refine go_call (m' := 49) (as := [.int l0, .int l1]) (rest := []) (v := some (.int (y_contains l0 l1))) (h1 := zhp S) rfl rfl ⟨rfl, Nat.le_of_ble_eq_true rfl⟩ (hy_contains _ _) ?_
      refine go_run 0 (F' := (13, [some (.int l0), some (.int l1)], [.int (y_contains l0 l1)], zhp S)) rfl ?_
      refine go_run 0 (F' := (13, [some (.int l0), some (.int l1)], [.int (y_contains l0 l1)], zhp S)) rfl ?_
      refine go_step rfl rfl ?_
      by_cases q2 : y_contains l0 l1 = 0
      · rw [if_pos q2] at hm ⊢
        refine go_run 0 (F' := (18, [some (.int l0), some (.int l1)], [], zhp S)) rfl ?_
        refine go_run 2 (F' := (2, [some (.int l0), some (.int (l1 + 1))], [], zhp S)) rfl ?_
        exact ih hm
      · rw [if_neg q2] at hm ⊢
        refine go_run 0 (F' := (16, [some (.int l0), some (.int l1)], [], zhp S)) rfl ?_
        refine go_run 1 (F' := (17, [some (.int l0), some (.int l1)], [.int l1], zhp S)) rfl ?_
        cases hm
        exact go_end rfl rfl
theorem ehyC_leastOf_2 : ∀ (n : Nat) {S : hS} {l0 : Int32} {l1 : Int32} {S' : hS} {r : Int32}, yC_leastOf_2 n S l0 l1 = some (S', r) → Ex S S' := by
  intro n
  induction n with
  | zero => intro S l0 l1 S' r hm; cases hm
  | succ n ih =>
    intro S l0 l1 S' r hm
    unfold yC_leastOf_2 at hm
    have hx : Ex S S := Ex_r
    by_cases q1 : 6 ≤ l1
    · rw [if_pos q1] at hm
      cases hm
      exact hx
    · rw [if_neg q1] at hm
      by_cases q2 : y_contains l0 l1 = 0
      · rw [if_pos q2] at hm
        refine Ex_t ?_ (ih hm)
        exact hx
      · rw [if_neg q2] at hm
        cases hm
        exact hx
def yC_leastOf (n : Nat) (S : hS) (x1 : Int32) : Option (hS × Int32) := (yC_leastOf_2  n S x1 0)
theorem hyC_leastOf {X : ie_X} {d : Nat} {n : Nat} {S : hS} {x1 : Int32} {S' : hS} {r : Int32} (hm : yC_leastOf n S x1 = some (S', r)) : Go X (d + 1) 57 (0, ie_en 57 [.int x1], [], zhp S) (.inl (some (.int r))) (zhp S') := by
  unfold yC_leastOf at hm
  refine go_run 0 (F' := (0, [some (.int x1), none], [], zhp S)) rfl ?_
  refine go_run 2 (F' := (2, [some (.int x1), some (.int 0)], [], zhp S)) rfl ?_
  exact hyC_leastOf_2  n hm
theorem ehyC_leastOf {n : Nat} {S : hS} {x1 : Int32} {S' : hS} {r : Int32} (hm : yC_leastOf n S x1 = some (S', r)) : Ex S S' := by
  unfold yC_leastOf at hm
  have hx : Ex S S := Ex_r
  refine Ex_t ?_ (ehyC_leastOf_2  n hm)
  exact hx
def yJ_bitCount (a1 : Int32) : Int32 := (((((((a1 - ((i_us a1 1) &&& 1431655765)) &&& 858993459) + ((i_us (a1 - ((i_us a1 1) &&& 1431655765)) 2) &&& 858993459)) + (i_us (((a1 - ((i_us a1 1) &&& 1431655765)) &&& 858993459) + ((i_us (a1 - ((i_us a1 1) &&& 1431655765)) 2) &&& 858993459)) 4)) &&& 252645135) + (i_us (((((a1 - ((i_us a1 1) &&& 1431655765)) &&& 858993459) + ((i_us (a1 - ((i_us a1 1) &&& 1431655765)) 2) &&& 858993459)) + (i_us (((a1 - ((i_us a1 1) &&& 1431655765)) &&& 858993459) + ((i_us (a1 - ((i_us a1 1) &&& 1431655765)) 2) &&& 858993459)) 4)) &&& 252645135) 8)) + (i_us ((((((a1 - ((i_us a1 1) &&& 1431655765)) &&& 858993459) + ((i_us (a1 - ((i_us a1 1) &&& 1431655765)) 2) &&& 858993459)) + (i_us (((a1 - ((i_us a1 1) &&& 1431655765)) &&& 858993459) + ((i_us (a1 - ((i_us a1 1) &&& 1431655765)) 2) &&& 858993459)) 4)) &&& 252645135) + (i_us (((((a1 - ((i_us a1 1) &&& 1431655765)) &&& 858993459) + ((i_us (a1 - ((i_us a1 1) &&& 1431655765)) 2) &&& 858993459)) + (i_us (((a1 - ((i_us a1 1) &&& 1431655765)) &&& 858993459) + ((i_us (a1 - ((i_us a1 1) &&& 1431655765)) 2) &&& 858993459)) 4)) &&& 252645135) 8)) 16)) &&& 63
theorem hyJ_bitCount {X : ie_X} {d : Nat} {h : ie_H} (a1 : Int32) : Go X (d + 0) 58 (0, ie_en 58 [.int a1], [], h) (.inl (some (.int (yJ_bitCount a1)))) h := by
  generalize hm : yJ_bitCount a1 = r
  unfold yJ_bitCount at hm
  refine go_run 0 (F' := (0, [some (.int a1)], [], h)) rfl ?_
  refine go_run 41 (F' := (52, [some (.int (((((((a1 - ((i_us a1 1) &&& 1431655765)) &&& 858993459) + ((i_us (a1 - ((i_us a1 1) &&& 1431655765)) 2) &&& 858993459)) + (i_us (((a1 - ((i_us a1 1) &&& 1431655765)) &&& 858993459) + ((i_us (a1 - ((i_us a1 1) &&& 1431655765)) 2) &&& 858993459)) 4)) &&& 252645135) + (i_us (((((a1 - ((i_us a1 1) &&& 1431655765)) &&& 858993459) + ((i_us (a1 - ((i_us a1 1) &&& 1431655765)) 2) &&& 858993459)) + (i_us (((a1 - ((i_us a1 1) &&& 1431655765)) &&& 858993459) + ((i_us (a1 - ((i_us a1 1) &&& 1431655765)) 2) &&& 858993459)) 4)) &&& 252645135) 8)) + (i_us ((((((a1 - ((i_us a1 1) &&& 1431655765)) &&& 858993459) + ((i_us (a1 - ((i_us a1 1) &&& 1431655765)) 2) &&& 858993459)) + (i_us (((a1 - ((i_us a1 1) &&& 1431655765)) &&& 858993459) + ((i_us (a1 - ((i_us a1 1) &&& 1431655765)) 2) &&& 858993459)) 4)) &&& 252645135) + (i_us (((((a1 - ((i_us a1 1) &&& 1431655765)) &&& 858993459) + ((i_us (a1 - ((i_us a1 1) &&& 1431655765)) 2) &&& 858993459)) + (i_us (((a1 - ((i_us a1 1) &&& 1431655765)) &&& 858993459) + ((i_us (a1 - ((i_us a1 1) &&& 1431655765)) 2) &&& 858993459)) 4)) &&& 252645135) 8)) 16)))], [.int ((((((((a1 - ((i_us a1 1) &&& 1431655765)) &&& 858993459) + ((i_us (a1 - ((i_us a1 1) &&& 1431655765)) 2) &&& 858993459)) + (i_us (((a1 - ((i_us a1 1) &&& 1431655765)) &&& 858993459) + ((i_us (a1 - ((i_us a1 1) &&& 1431655765)) 2) &&& 858993459)) 4)) &&& 252645135) + (i_us (((((a1 - ((i_us a1 1) &&& 1431655765)) &&& 858993459) + ((i_us (a1 - ((i_us a1 1) &&& 1431655765)) 2) &&& 858993459)) + (i_us (((a1 - ((i_us a1 1) &&& 1431655765)) &&& 858993459) + ((i_us (a1 - ((i_us a1 1) &&& 1431655765)) 2) &&& 858993459)) 4)) &&& 252645135) 8)) + (i_us ((((((a1 - ((i_us a1 1) &&& 1431655765)) &&& 858993459) + ((i_us (a1 - ((i_us a1 1) &&& 1431655765)) 2) &&& 858993459)) + (i_us (((a1 - ((i_us a1 1) &&& 1431655765)) &&& 858993459) + ((i_us (a1 - ((i_us a1 1) &&& 1431655765)) 2) &&& 858993459)) 4)) &&& 252645135) + (i_us (((((a1 - ((i_us a1 1) &&& 1431655765)) &&& 858993459) + ((i_us (a1 - ((i_us a1 1) &&& 1431655765)) 2) &&& 858993459)) + (i_us (((a1 - ((i_us a1 1) &&& 1431655765)) &&& 858993459) + ((i_us (a1 - ((i_us a1 1) &&& 1431655765)) 2) &&& 858993459)) 4)) &&& 252645135) 8)) 16)) &&& 63)], h)) rfl ?_
  (cases hm; exact go_end rfl rfl)
def yC_mayPutIn (n : Nat) (S : hS) (th : Nat) (p1 : Option Nat) (x2 : Int32) : Option (hS × Int32) := (if ztg S th = 3 then (if zI S 0 th = 0 then (zob p1 fun a1 => (if ztg S a1 = 10 then (zcP (yC_leastOf n (szI S 2 th (zI S 0 a1)) x2) fun S2 v2 => (if ztg S2 th = 3 then (some (szI S2 3 th v2, 0)) else none)) else none)) else (if (zI S 1 th) + (2 * (yJ_bitCount x2)) ≤ 80 then (some (szI S 1 th ((zI S 1 th) + (2 * (yJ_bitCount x2))), 1)) else (zob p1 fun a3 => (if ztg S a3 = 10 then (some (szI (szI S 1 th ((zI S 1 th) + (2 * (yJ_bitCount x2)))) 2 th (zI S 0 a3), 0)) else none)))) else none)
theorem hyC_mayPutIn {X : ie_X} {d th : Nat} {n : Nat} {S : hS} {p1 : Option Nat} {x2 : Int32} {S' : hS} {r : Int32} (hm : yC_mayPutIn n S th p1 x2 = some (S', r)) : Go X (d + 2) 56 (0, ie_en 56 [.ref th, va_rf p1, .int x2], [], zhp S) (.inl (some (.int r))) (zhp S') := by
  unfold yC_mayPutIn at hm
  refine go_run 0 (F' := (0, [some (.ref th), some (va_rf p1), some (.int x2)], [], zhp S)) (by cases p1 <;> rfl) ?_
  refine go_run 1 (F' := (1, [some (.ref th), some (va_rf p1), some (.int x2)], [.ref th], zhp S)) rfl ?_
  replace hm := zgd hm
  obtain ⟨b1, hm⟩ := hm
  refine go_hg (v := .int (zI S 0 th)) rfl b1 (by decide) rfl ?_
  refine go_run 0 (F' := (4, [some (.ref th), some (va_rf p1), some (.int x2)], [.int (zI S 0 th)], zhp S)) rfl ?_
  refine go_step rfl rfl ?_
  by_cases q2 : zI S 0 th = 0
  · rw [if_pos q2] at hm ⊢
    refine go_run 0 (F' := (7, [some (.ref th), some (va_rf p1), some (.int x2)], [], zhp S)) rfl ?_
    refine go_run 1 (F' := (8, [some (.ref th), some (va_rf p1), some (.int x2)], [.ref th], zhp S)) rfl ?_
    refine go_al rfl rfl ?_
    refine go_run 0 (F' := (9, [some (.ref th), some (va_rf p1), some (.int x2)], [va_rf p1, .ref th], zhp S)) rfl ?_
    replace hm := zob_inv hm
    obtain ⟨a1, rfl, hm⟩ := hm
    replace hm := zgd hm
    obtain ⟨b3, hm⟩ := hm
    refine go_hg (v := .int (zI S 0 a1)) rfl b3 (by decide) rfl ?_
    refine go_run 0 (F' := (12, [some (.ref th), some (.ref a1), some (.int x2)], [.int (zI S 0 a1), .ref th], zhp S)) rfl ?_
    refine go_hpI rfl b1 (by decide) rfl (Nat.le_of_ble_eq_true rfl) fs_2_2 ?_
    refine go_run 2 (F' := (17, [some (.ref th), some (.ref a1), some (.int x2)], [.int x2, .ref th], zhp (szI S 2 th (zI S 0 a1)))) rfl ?_
    replace hm := zcP_inv hm
    obtain ⟨S2, v2, e2, hm⟩ := hm
    have k2 := hyC_leastOf (X := X) (d := d) e2
    refine go_call (m' := 57) (as := [.int x2]) (rest := [.ref th]) (v := some (.int v2)) (h1 := zhp S2) rfl rfl ⟨rfl, Nat.le_of_ble_eq_true rfl⟩ k2 ?_
    refine go_run 0 (F' := (20, [some (.ref th), some (.ref a1), some (.int x2)], [.int v2, .ref th], zhp S2)) rfl ?_
    refine go_run 0 (F' := (20, [some (.ref th), some (.ref a1), some (.int x2)], [.int v2, .ref th], zhp S2)) rfl ?_
    replace hm := zgd hm
    obtain ⟨b4, hm⟩ := hm
    refine go_hpI rfl b4 (by decide) rfl (Nat.le_of_ble_eq_true rfl) fs_2_3 ?_
    refine go_run 1 (F' := (24, [some (.ref th), some (.ref a1), some (.int x2)], [.int 0], zhp (szI S2 3 th v2))) rfl ?_
    cases hm
    exact go_end rfl rfl
  · rw [if_neg q2] at hm ⊢
    refine go_run 0 (F' := (25, [some (.ref th), some (va_rf p1), some (.int x2)], [], zhp S)) rfl ?_
    refine go_run 2 (F' := (27, [some (.ref th), some (va_rf p1), some (.int x2)], [.ref th, .ref th], zhp S)) rfl ?_
    refine go_hg (v := .int (zI S 1 th)) rfl b1 (by decide) rfl ?_
    refine go_run 2 (F' := (32, [some (.ref th), some (va_rf p1), some (.int x2)], [.int x2, .int 2, .int (zI S 1 th), .ref th], zhp S)) rfl ?_
    refine go_call (m' := 58) (as := [.int x2]) (rest := [.int 2, .int (zI S 1 th), .ref th]) (v := some (.int (yJ_bitCount x2))) (h1 := zhp S) rfl rfl ⟨rfl, Nat.le_of_ble_eq_true rfl⟩ (hyJ_bitCount _) ?_
    refine go_run 0 (F' := (35, [some (.ref th), some (va_rf p1), some (.int x2)], [.int (yJ_bitCount x2), .int 2, .int (zI S 1 th), .ref th], zhp S)) rfl ?_
    refine go_run 2 (F' := (37, [some (.ref th), some (va_rf p1), some (.int x2)], [.int ((zI S 1 th) + (2 * (yJ_bitCount x2))), .ref th], zhp S)) rfl ?_
    refine go_hpI rfl b1 (by decide) rfl (Nat.le_of_ble_eq_true rfl) fs_2_1 ?_
    refine go_run 1 (F' := (41, [some (.ref th), some (va_rf p1), some (.int x2)], [.ref th], zhp (szI S 1 th ((zI S 1 th) + (2 * (yJ_bitCount x2)))))) rfl ?_
    refine go_hg (v := .int ((zI S 1 th) + (2 * (yJ_bitCount x2)))) rfl b1 (by decide) (congrArg (fun z => some (Value.int z)) (zI_self S 1 th ((zI S 1 th) + (2 * (yJ_bitCount x2))))) ?_
    refine go_run 1 (F' := (46, [some (.ref th), some (va_rf p1), some (.int x2)], [.int 80, .int ((zI S 1 th) + (2 * (yJ_bitCount x2)))], zhp (szI S 1 th ((zI S 1 th) + (2 * (yJ_bitCount x2)))))) rfl ?_
    refine go_step rfl rfl ?_
    by_cases q5 : (zI S 1 th) + (2 * (yJ_bitCount x2)) ≤ 80
    · rw [if_pos q5] at hm ⊢
      refine go_run 0 (F' := (59, [some (.ref th), some (va_rf p1), some (.int x2)], [], zhp (szI S 1 th ((zI S 1 th) + (2 * (yJ_bitCount x2)))))) rfl ?_
      refine go_run 1 (F' := (60, [some (.ref th), some (va_rf p1), some (.int x2)], [.int 1], zhp (szI S 1 th ((zI S 1 th) + (2 * (yJ_bitCount x2)))))) rfl ?_
      cases hm
      exact go_end rfl rfl
    · rw [if_neg q5] at hm ⊢
      refine go_run 0 (F' := (49, [some (.ref th), some (va_rf p1), some (.int x2)], [], zhp (szI S 1 th ((zI S 1 th) + (2 * (yJ_bitCount x2)))))) rfl ?_
      refine go_run 1 (F' := (50, [some (.ref th), some (va_rf p1), some (.int x2)], [.ref th], zhp (szI S 1 th ((zI S 1 th) + (2 * (yJ_bitCount x2)))))) rfl ?_
      refine go_al rfl rfl ?_
      refine go_run 0 (F' := (51, [some (.ref th), some (va_rf p1), some (.int x2)], [va_rf p1, .ref th], zhp (szI S 1 th ((zI S 1 th) + (2 * (yJ_bitCount x2)))))) rfl ?_
      replace hm := zob_inv hm
      obtain ⟨a3, rfl, hm⟩ := hm
      replace hm := zgd hm
      obtain ⟨b6, hm⟩ := hm
      refine go_hg (v := .int (zI S 0 a3)) rfl b6 (by decide) rfl ?_
      refine go_run 0 (F' := (54, [some (.ref th), some (.ref a3), some (.int x2)], [.int (zI S 0 a3), .ref th], zhp (szI S 1 th ((zI S 1 th) + (2 * (yJ_bitCount x2)))))) rfl ?_
      refine go_hpI rfl b1 (by decide) rfl (Nat.le_of_ble_eq_true rfl) fs_2_2 ?_
      refine go_run 1 (F' := (58, [some (.ref th), some (.ref a3), some (.int x2)], [.int 0], zhp (szI (szI S 1 th ((zI S 1 th) + (2 * (yJ_bitCount x2)))) 2 th (zI S 0 a3)))) rfl ?_
      cases hm
      exact go_end rfl rfl
theorem ehyC_mayPutIn {th : Nat} {n : Nat} {S : hS} {p1 : Option Nat} {x2 : Int32} {S' : hS} {r : Int32} (hm : yC_mayPutIn n S th p1 x2 = some (S', r)) : Ex S S' := by
  unfold yC_mayPutIn at hm
  have hx : Ex S S := Ex_r
  replace hm := zgd hm
  obtain ⟨b1, hm⟩ := hm
  by_cases q2 : zI S 0 th = 0
  · rw [if_pos q2] at hm
    replace hm := zob_inv hm
    obtain ⟨a1, rfl, hm⟩ := hm
    replace hm := zgd hm
    obtain ⟨b3, hm⟩ := hm
    replace hm := zcP_inv hm
    obtain ⟨S2, v2, e2, hm⟩ := hm
    have hx := Ex_t (T := szI S 2 th (zI S 0 a1)) hx (ehyC_leastOf e2)
    replace hm := zgd hm
    obtain ⟨b4, hm⟩ := hm
    cases hm
    exact hx
  · rw [if_neg q2] at hm
    by_cases q5 : (zI S 1 th) + (2 * (yJ_bitCount x2)) ≤ 80
    · rw [if_pos q5] at hm
      cases hm
      exact hx
    · rw [if_neg q5] at hm
      replace hm := zob_inv hm
      obtain ⟨a3, rfl, hm⟩ := hm
      replace hm := zgd hm
      obtain ⟨b6, hm⟩ := hm
      cases hm
      exact hx
def yC_withTells_5 : Nat → hS → Int32 → Int32 → Option Nat → Int32 → Option (hS × Option Nat)
  | 0, _, _, _, _, _ => none
  | n + 1, S, l0, l1, p3, l4 => (if l4 < 0 then (some (S, p3)) else (if y_contains l1 l4 = 0 then (yC_withTells_5 n S l0 l1 p3 (l4 + (-1))) else (zcP (yA_tell S l0 l4) fun S1 o1 => (zob o1 fun a2 => (if ztg S1 a2 = 2 then (yC_withTells_5 n (szR S1 8 a2 p3) l0 l1 (some a2) (l4 + (-1))) else none)))))
theorem hyC_withTells_5 {X : ie_X} {d : Nat} : ∀ (n : Nat) {S : hS} {l0 : Int32} {l1 : Int32} {p3 : Option Nat} {l4 : Int32} {u2 u5 : Option Value} {S' : hS} {r : Option Nat}, yC_withTells_5 n S l0 l1 p3 l4 = some (S', r) → Go X (d + 3) 59 (5, [some (.int l0), some (.int l1), u2, some (va_rf p3), some (.int l4), u5], [], zhp S) (.inl (some (va_rf r))) (zhp S') := by
  intro n
  induction n with
  | zero => intro S l0 l1 p3 l4 u2 u5 S' r hm; cases hm
  | succ n ih =>
    intro S l0 l1 p3 l4 u2 u5 S' r hm
    unfold yC_withTells_5 at hm
    refine go_run 0 (F' := (5, [some (.int l0), some (.int l1), u2, some (va_rf p3), some (.int l4), u5], [], zhp S)) rfl ?_
    refine go_run 1 (F' := (7, [some (.int l0), some (.int l1), u2, some (va_rf p3), some (.int l4), u5], [.int l4], zhp S)) rfl ?_
    refine go_step rfl rfl ?_
    by_cases q1 : l4 < 0
    · rw [if_pos q1] at hm ⊢
      refine go_run 0 (F' := (42, [some (.int l0), some (.int l1), u2, some (va_rf p3), some (.int l4), u5], [], zhp S)) rfl ?_
      refine go_run 0 (F' := (42, [some (.int l0), some (.int l1), u2, some (va_rf p3), some (.int l4), u5], [], zhp S)) rfl ?_
      refine go_al rfl rfl ?_
      refine go_run 0 (F' := (43, [some (.int l0), some (.int l1), u2, some (va_rf p3), some (.int l4), u5], [va_rf p3], zhp S)) rfl ?_
      cases hm
      exact go_reta rfl rfl rfl (fun _ => rfl)
    · rw [if_neg q1] at hm ⊢
      refine go_run 0 (F' := (10, [some (.int l0), some (.int l1), u2, some (va_rf p3), some (.int l4), u5], [], zhp S)) rfl ?_
      refine go_run 2 (F' := (13, [some (.int l0), some (.int l1), u2, some (va_rf p3), some (.int l4), u5], [.int l4, .int l1], zhp S)) rfl ?_
      refine go_call (m' := 49) (as := [.int l1, .int l4]) (rest := []) (v := some (.int (y_contains l1 l4))) (h1 := zhp S) rfl rfl ⟨rfl, Nat.le_of_ble_eq_true rfl⟩ (hy_contains _ _) ?_
      refine go_run 0 (F' := (16, [some (.int l0), some (.int l1), u2, some (va_rf p3), some (.int l4), u5], [.int (y_contains l1 l4)], zhp S)) rfl ?_
      refine go_run 0 (F' := (16, [some (.int l0), some (.int l1), u2, some (va_rf p3), some (.int l4), u5], [.int (y_contains l1 l4)], zhp S)) rfl ?_
      refine go_step rfl rfl ?_
      by_cases q2 : y_contains l1 l4 = 0
      · rw [if_pos q2] at hm ⊢
        refine go_run 0 (F' := (36, [some (.int l0), some (.int l1), u2, some (va_rf p3), some (.int l4), u5], [], zhp S)) rfl ?_
        refine go_run 2 (F' := (5, [some (.int l0), some (.int l1), u2, some (va_rf p3), some (.int (l4 + (-1))), u5], [], zhp S)) rfl ?_
        exact ih hm
      · rw [if_neg q2] at hm ⊢
        refine go_run 0 (F' := (19, [some (.int l0), some (.int l1), u2, some (va_rf p3), some (.int l4), u5], [], zhp S)) rfl ?_
        refine go_run 2 (F' := (22, [some (.int l0), some (.int l1), u2, some (va_rf p3), some (.int l4), u5], [.int l4, .int l0], zhp S)) rfl ?_
        replace hm := zcP_inv hm
        obtain ⟨S1, o1, e1, hm⟩ := hm
        have k1 := hyA_tell (X := X) (d := d) e1
        refine go_call (m' := 45) (as := [.int l0, .int l4]) (rest := []) (v := some (va_rf o1)) (h1 := zhp S1) rfl rfl ⟨rfl, Nat.le_of_ble_eq_true rfl⟩ k1 ?_
        refine go_run 0 (F' := (25, [some (.int l0), some (.int l1), u2, some (va_rf p3), some (.int l4), u5], [va_rf o1], zhp S1)) rfl ?_
        refine go_run 0 (F' := (25, [some (.int l0), some (.int l1), u2, some (va_rf p3), some (.int l4), u5], [va_rf o1], zhp S1)) rfl ?_
        refine go_as2 rfl ?_
        refine go_run 0 (F' := (27, [some (.int l0), some (.int l1), u2, some (va_rf p3), some (.int l4), some (va_rf o1)], [], zhp S1)) rfl ?_
        refine go_al2 rfl rfl ?_
        refine go_run 0 (F' := (29, [some (.int l0), some (.int l1), u2, some (va_rf p3), some (.int l4), some (va_rf o1)], [va_rf o1], zhp S1)) rfl ?_
        refine go_al rfl rfl ?_
        refine go_run 0 (F' := (30, [some (.int l0), some (.int l1), u2, some (va_rf p3), some (.int l4), some (va_rf o1)], [va_rf p3, va_rf o1], zhp S1)) rfl ?_
        replace hm := zob_inv hm
        obtain ⟨a2, rfl, hm⟩ := hm
        replace hm := zgd hm
        obtain ⟨b3, hm⟩ := hm
        refine go_hpR (v := p3) rfl b3 (by decide) (by cases p3 <;> rfl) (Nat.le_of_ble_eq_true rfl) fs_1_8 ?_
        refine go_run 4 (F' := (5, [some (.int l0), some (.int l1), u2, some (va_rf (some a2)), some (.int (l4 + (-1))), some (.ref a2)], [], zhp (szR S1 8 a2 p3))) rfl ?_
        exact ih hm
theorem ehyC_withTells_5 : ∀ (n : Nat) {S : hS} {l0 : Int32} {l1 : Int32} {p3 : Option Nat} {l4 : Int32} {S' : hS} {r : Option Nat}, yC_withTells_5 n S l0 l1 p3 l4 = some (S', r) → Ex S S' := by
  intro n
  induction n with
  | zero => intro S l0 l1 p3 l4 S' r hm; cases hm
  | succ n ih =>
    intro S l0 l1 p3 l4 S' r hm
    unfold yC_withTells_5 at hm
    have hx : Ex S S := Ex_r
    by_cases q1 : l4 < 0
    · rw [if_pos q1] at hm
      cases hm
      exact hx
    · rw [if_neg q1] at hm
      by_cases q2 : y_contains l1 l4 = 0
      · rw [if_pos q2] at hm
        refine Ex_t ?_ (ih hm)
        exact hx
      · rw [if_neg q2] at hm
        replace hm := zcP_inv hm
        obtain ⟨S1, o1, e1, hm⟩ := hm
        have hx := Ex_t (T := S) hx (ehyA_tell e1)
        replace hm := zob_inv hm
        obtain ⟨a2, rfl, hm⟩ := hm
        replace hm := zgd hm
        obtain ⟨b3, hm⟩ := hm
        refine Ex_t ?_ (ih hm)
        exact hx
def yC_withTells (n : Nat) (S : hS) (x1 : Int32) (x2 : Int32) (p3 : Option Nat) : Option (hS × Option Nat) := (yC_withTells_5  n S x1 x2 p3 5)
theorem hyC_withTells {X : ie_X} {d : Nat} {n : Nat} {S : hS} {x1 : Int32} {x2 : Int32} {p3 : Option Nat} {S' : hS} {r : Option Nat} (hm : yC_withTells n S x1 x2 p3 = some (S', r)) : Go X (d + 3) 59 (0, ie_en 59 [.int x1, .int x2, va_rf p3], [], zhp S) (.inl (some (va_rf r))) (zhp S') := by
  unfold yC_withTells at hm
  refine go_run 0 (F' := (0, [some (.int x1), some (.int x2), some (va_rf p3), none, none, none], [], zhp S)) (by cases p3 <;> rfl) ?_
  refine go_run 0 (F' := (0, [some (.int x1), some (.int x2), some (va_rf p3), none, none, none], [], zhp S)) rfl ?_
  refine go_al rfl rfl ?_
  refine go_run 0 (F' := (1, [some (.int x1), some (.int x2), some (va_rf p3), none, none, none], [va_rf p3], zhp S)) rfl ?_
  refine go_as rfl ?_
  refine go_run 2 (F' := (5, [some (.int x1), some (.int x2), some (va_rf p3), some (va_rf p3), some (.int 5), none], [], zhp S)) rfl ?_
  exact hyC_withTells_5  n hm
theorem ehyC_withTells {n : Nat} {S : hS} {x1 : Int32} {x2 : Int32} {p3 : Option Nat} {S' : hS} {r : Option Nat} (hm : yC_withTells n S x1 x2 p3 = some (S', r)) : Ex S S' := by
  unfold yC_withTells at hm
  have hx : Ex S S := Ex_r
  refine Ex_t ?_ (ehyC_withTells_5  n hm)
  exact hx
