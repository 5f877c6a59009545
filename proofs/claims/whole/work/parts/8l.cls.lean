def yT_takeParts_2 (th : Nat) : Nat → hS → Option Nat → Int32 → Option (hS)
  | 0, _, _, _ => none
  | n + 1, S, p1, l2 => (if 6 ≤ l2 then (if ztg S th = 9 then (zlb (zR S 2 th) fun o1 => (zcV (y_clear n S o1) fun S2 => (if ztg S2 th = 9 then (zcV (yT_beginAgain n S2 th) fun S3 => (some S3)) else none))) else none) else (zob p1 fun a4 => (if zar S a4 then (if ib l2 (zLen S a4) then (zlb ((zAR S a4) (Int32.toNatClampNeg l2)) fun o5 => (zob o5 fun a6 => (if ztg S a6 = 8 then (zlb (zR S 0 a6) fun o7 => (zcV (yA_settle n 67 S o7 none 0) fun S8 => (if ztg S8 th = 9 then (zlb (zR S8 0 th) fun o9 => (zob o9 fun a10 => (if zar S8 a10 then (if ib l2 (zLen S8 a10) then (zlb ((zAR S8 a10) (Int32.toNatClampNeg l2)) fun o11 => (zob o11 fun a12 => (if ztg S8 a12 = 5 then (zlb (zR S8 0 th) fun o13 => (zob o13 fun a14 => (if zar S8 a14 then (if ib l2 (zLen S8 a14) then (zlb ((zAR S8 a14) (Int32.toNatClampNeg l2)) fun o15 => (zob o15 fun a16 => (if ztg S8 a16 = 5 then (zlb (zR S8 0 a16) fun o17 => (zob o17 fun a18 => (if ztg S8 a18 = 4 then (zcV (yX_write n (szR S8 1 a12 o7) a18 o7) fun S19 => (yT_takeParts_2 th n S19 (some a4) (l2 + 1))) else none))) else none))) else none) else none))) else none))) else none) else none))) else none))) else none))) else none) else none)))
theorem hyT_takeParts_2 {X : ie_X} {d th : Nat} : ∀ (n : Nat) {S : hS} {p1 : Option Nat} {l2 : Int32} {u3 : Option Value} {S' : hS}, yT_takeParts_2 th n S p1 l2 = some S' → Go X (d + 72) 64 (2, [some (.ref th), some (va_rf p1), some (.int l2), u3], [], zhp S) (.inl none) (zhp S') := by
  intro n
  induction n with
  | zero => intro S p1 l2 u3 S'  hm; cases hm
  | succ n ih =>
    intro S p1 l2 u3 S'  hm
    unfold yT_takeParts_2 at hm
    refine go_run 0 (F' := (2, [some (.ref th), some (va_rf p1), some (.int l2), u3], [], zhp S)) rfl ?_
    refine go_run 2 (F' := (5, [some (.ref th), some (va_rf p1), some (.int l2), u3], [.int 6, .int l2], zhp S)) rfl ?_
    refine go_step rfl rfl ?_
    by_cases q1 : 6 ≤ l2
    · rw [if_pos q1] at hm ⊢
      refine go_run 0 (F' := (50, [some (.ref th), some (va_rf p1), some (.int l2), u3], [], zhp S)) rfl ?_
      refine go_run 1 (F' := (51, [some (.ref th), some (va_rf p1), some (.int l2), u3], [.ref th], zhp S)) rfl ?_
      replace hm := zgd hm
      obtain ⟨b2, hm⟩ := hm
      replace hm := zlb_inv hm
      obtain ⟨o1, eo1, hm⟩ := hm
      refine go_hg (v := va_rf o1) rfl b2 (by decide) (by rw [← eo1]; rfl) ?_
      refine go_run 0 (F' := (54, [some (.ref th), some (va_rf p1), some (.int l2), u3], [va_rf o1], zhp S)) rfl ?_
      replace hm := zcV_inv hm
      obtain ⟨S2, e2, hm⟩ := hm
      have k2 := hy_clear (X := X) (d := d + 71) e2
      refine go_call (m' := 75) (as := [va_rf o1]) (rest := []) (v := none) (h1 := zhp S2) rfl rfl ⟨by cases o1 <;> rfl, by cases o1 <;> exact Nat.le_of_ble_eq_true rfl⟩ k2 ?_
      refine go_run 0 (F' := (57, [some (.ref th), some (va_rf p1), some (.int l2), u3], [], zhp S2)) rfl ?_
      refine go_run 1 (F' := (58, [some (.ref th), some (va_rf p1), some (.int l2), u3], [.ref th], zhp S2)) rfl ?_
      replace hm := zgd hm
      obtain ⟨b3, hm⟩ := hm
      replace hm := zcV_inv hm
      obtain ⟨S3, e3, hm⟩ := hm
      have k3 := hyT_beginAgain (X := X) (d := d + 70) e3
      refine go_call (m' := 76) (as := [.ref th]) (rest := []) (v := none) (h1 := zhp S3) rfl (by simp only [ie_step, ie_iv, List.drop, zhp_obj (S := S2) b3 (by decide)]; rfl) ⟨rfl, Nat.le_of_ble_eq_true rfl⟩ k3 ?_
      refine go_run 0 (F' := (61, [some (.ref th), some (va_rf p1), some (.int l2), u3], [], zhp S3)) rfl ?_
      refine go_run 0 (F' := (61, [some (.ref th), some (va_rf p1), some (.int l2), u3], [], zhp S3)) rfl ?_
      cases hm
      exact go_end rfl rfl
    · rw [if_neg q1] at hm ⊢
      refine go_run 0 (F' := (8, [some (.ref th), some (va_rf p1), some (.int l2), u3], [], zhp S)) rfl ?_
      refine go_run 0 (F' := (8, [some (.ref th), some (va_rf p1), some (.int l2), u3], [], zhp S)) rfl ?_
      refine go_al rfl rfl ?_
      refine go_run 1 (F' := (10, [some (.ref th), some (va_rf p1), some (.int l2), u3], [.int l2, va_rf p1], zhp S)) rfl ?_
      replace hm := zob_inv hm
      obtain ⟨a4, rfl, hm⟩ := hm
      replace hm := zgd hm
      obtain ⟨b4, hm⟩ := hm
      replace hm := zgd hm
      obtain ⟨b5, hm⟩ := hm
      replace hm := zlb_inv hm
      obtain ⟨o5, eo5, hm⟩ := hm
      refine go_haald rfl b4 b5 rfl eo5 ?_
      refine go_run 0 (F' := (11, [some (.ref th), some (.ref a4), some (.int l2), u3], [va_rf o5], zhp S)) rfl ?_
      replace hm := zob_inv hm
      obtain ⟨a6, rfl, hm⟩ := hm
      replace hm := zgd hm
      obtain ⟨b6, hm⟩ := hm
      replace hm := zlb_inv hm
      obtain ⟨o7, eo7, hm⟩ := hm
      refine go_hg (v := va_rf o7) rfl b6 (by decide) (by rw [← eo7]; rfl) ?_
      refine go_run 0 (F' := (14, [some (.ref th), some (.ref a4), some (.int l2), u3], [va_rf o7], zhp S)) rfl ?_
      refine go_as rfl ?_
      refine go_run 0 (F' := (15, [some (.ref th), some (.ref a4), some (.int l2), some (va_rf o7)], [], zhp S)) rfl ?_
      refine go_al rfl rfl ?_
      refine go_run 2 (F' := (18, [some (.ref th), some (.ref a4), some (.int l2), some (va_rf o7)], [.int 0, .null, va_rf o7], zhp S)) rfl ?_
      replace hm := zcV_inv hm
      obtain ⟨S8, e8, hm⟩ := hm
      have k8 := hyA_settle_o (X := X) (d := d + 4) e8
      refine go_call (m' := 65) (as := [va_rf o7, .null, .int 0]) (rest := []) (v := none) (h1 := zhp S8) rfl rfl ⟨by cases o7 <;> rfl, by cases o7 <;> exact Nat.le_of_ble_eq_true rfl⟩ k8 ?_
      refine go_run 0 (F' := (21, [some (.ref th), some (.ref a4), some (.int l2), some (va_rf o7)], [], zhp S8)) rfl ?_
      refine go_run 1 (F' := (22, [some (.ref th), some (.ref a4), some (.int l2), some (va_rf o7)], [.ref th], zhp S8)) rfl ?_
      replace hm := zgd hm
      obtain ⟨b7, hm⟩ := hm
      replace hm := zlb_inv hm
      obtain ⟨o9, eo9, hm⟩ := hm
      refine go_hg (v := va_rf o9) rfl b7 (by decide) (by rw [← eo9]; rfl) ?_
      refine go_run 1 (F' := (26, [some (.ref th), some (.ref a4), some (.int l2), some (va_rf o7)], [.int l2, va_rf o9], zhp S8)) rfl ?_
      replace hm := zob_inv hm
      obtain ⟨a10, rfl, hm⟩ := hm
      replace hm := zgd hm
      obtain ⟨b8, hm⟩ := hm
      replace hm := zgd hm
      obtain ⟨b9, hm⟩ := hm
      replace hm := zlb_inv hm
      obtain ⟨o11, eo11, hm⟩ := hm
      refine go_haald rfl b8 b9 rfl eo11 ?_
      refine go_run 0 (F' := (27, [some (.ref th), some (.ref a4), some (.int l2), some (va_rf o7)], [va_rf o11], zhp S8)) rfl ?_
      refine go_al rfl rfl ?_
      refine go_run 0 (F' := (28, [some (.ref th), some (.ref a4), some (.int l2), some (va_rf o7)], [va_rf o7, va_rf o11], zhp S8)) rfl ?_
      replace hm := zob_inv hm
      obtain ⟨a12, rfl, hm⟩ := hm
      replace hm := zgd hm
      obtain ⟨b10, hm⟩ := hm
      refine go_hpR (v := o7) rfl b10 (by decide) (by cases o7 <;> rfl) (Nat.le_of_ble_eq_true rfl) fs_4_1 ?_
      refine go_run 1 (F' := (32, [some (.ref th), some (.ref a4), some (.int l2), some (va_rf o7)], [.ref th], zhp (szR S8 1 a12 o7))) rfl ?_
      replace hm := zlb_inv hm
      obtain ⟨o13, eo13, hm⟩ := hm
      refine go_hg (v := va_rf o13) rfl b7 (by decide) (by rw [← eo13]; rfl) ?_
      refine go_run 1 (F' := (36, [some (.ref th), some (.ref a4), some (.int l2), some (va_rf o7)], [.int l2, va_rf o13], zhp (szR S8 1 a12 o7))) rfl ?_
      replace hm := zob_inv hm
      obtain ⟨a14, rfl, hm⟩ := hm
      replace hm := zgd hm
      obtain ⟨b11, hm⟩ := hm
      replace hm := zgd hm
      obtain ⟨b12, hm⟩ := hm
      replace hm := zlb_inv hm
      obtain ⟨o15, eo15, hm⟩ := hm
      refine go_haald rfl b11 b12 rfl eo15 ?_
      refine go_run 0 (F' := (37, [some (.ref th), some (.ref a4), some (.int l2), some (va_rf o7)], [va_rf o15], zhp (szR S8 1 a12 o7))) rfl ?_
      replace hm := zob_inv hm
      obtain ⟨a16, rfl, hm⟩ := hm
      replace hm := zgd hm
      obtain ⟨b13, hm⟩ := hm
      replace hm := zlb_inv hm
      obtain ⟨o17, eo17, hm⟩ := hm
      refine go_hg (v := va_rf o17) rfl b13 (by decide) (by rw [← eo17]; rfl) ?_
      refine go_run 0 (F' := (40, [some (.ref th), some (.ref a4), some (.int l2), some (va_rf o7)], [va_rf o17], zhp (szR S8 1 a12 o7))) rfl ?_
      refine go_al rfl rfl ?_
      refine go_run 0 (F' := (41, [some (.ref th), some (.ref a4), some (.int l2), some (va_rf o7)], [va_rf o7, va_rf o17], zhp (szR S8 1 a12 o7))) rfl ?_
      replace hm := zob_inv hm
      obtain ⟨a18, rfl, hm⟩ := hm
      refine go_run 0 (F' := (41, [some (.ref th), some (.ref a4), some (.int l2), some (va_rf o7)], [va_rf o7, .ref a18], zhp (szR S8 1 a12 o7))) rfl ?_
      replace hm := zgd hm
      obtain ⟨b14, hm⟩ := hm
      replace hm := zcV_inv hm
      obtain ⟨S19, e19, hm⟩ := hm
      have k19 := hyX_write (X := X) (d := d) e19
      refine go_call (m' := 67) (as := [.ref a18, va_rf o7]) (rest := []) (v := none) (h1 := zhp S19) rfl (by simp only [ie_step, ie_iv, List.drop, zhp_obj (S := szR S8 1 a12 o7) b14 (by decide)]; rfl) ⟨by cases o7 <;> rfl, by cases o7 <;> exact Nat.le_of_ble_eq_true rfl⟩ k19 ?_
      refine go_run 0 (F' := (44, [some (.ref th), some (.ref a4), some (.int l2), some (va_rf o7)], [], zhp S19)) rfl ?_
      refine go_run 2 (F' := (2, [some (.ref th), some (va_rf (some a4)), some (.int (l2 + 1)), some (va_rf o7)], [], zhp S19)) rfl ?_
      exact ih hm
theorem ehyT_takeParts_2 {th : Nat} : ∀ (n : Nat) {S : hS} {p1 : Option Nat} {l2 : Int32} {S' : hS}, yT_takeParts_2 th n S p1 l2 = some S' → Ex S S' := by
  intro n
  induction n with
  | zero => intro S p1 l2 S'  hm; cases hm
  | succ n ih =>
    intro S p1 l2 S'  hm
    unfold yT_takeParts_2 at hm
    have hx : Ex S S := Ex_r
    by_cases q1 : 6 ≤ l2
    · rw [if_pos q1] at hm
      replace hm := zgd hm
      obtain ⟨b2, hm⟩ := hm
      replace hm := zlb_inv hm
      obtain ⟨o1, eo1, hm⟩ := hm
      replace hm := zcV_inv hm
      obtain ⟨S2, e2, hm⟩ := hm
      have hx := Ex_t (T := S) hx (ehy_clear e2)
      replace hm := zgd hm
      obtain ⟨b3, hm⟩ := hm
      replace hm := zcV_inv hm
      obtain ⟨S3, e3, hm⟩ := hm
      have hx := Ex_t (T := S2) hx (ehyT_beginAgain e3)
      cases hm
      exact hx
    · rw [if_neg q1] at hm
      replace hm := zob_inv hm
      obtain ⟨a4, rfl, hm⟩ := hm
      replace hm := zgd hm
      obtain ⟨b4, hm⟩ := hm
      replace hm := zgd hm
      obtain ⟨b5, hm⟩ := hm
      replace hm := zlb_inv hm
      obtain ⟨o5, eo5, hm⟩ := hm
      replace hm := zob_inv hm
      obtain ⟨a6, rfl, hm⟩ := hm
      replace hm := zgd hm
      obtain ⟨b6, hm⟩ := hm
      replace hm := zlb_inv hm
      obtain ⟨o7, eo7, hm⟩ := hm
      replace hm := zcV_inv hm
      obtain ⟨S8, e8, hm⟩ := hm
      have hx := Ex_t (T := S) hx (ehyA_settle_o e8)
      replace hm := zgd hm
      obtain ⟨b7, hm⟩ := hm
      replace hm := zlb_inv hm
      obtain ⟨o9, eo9, hm⟩ := hm
      replace hm := zob_inv hm
      obtain ⟨a10, rfl, hm⟩ := hm
      replace hm := zgd hm
      obtain ⟨b8, hm⟩ := hm
      replace hm := zgd hm
      obtain ⟨b9, hm⟩ := hm
      replace hm := zlb_inv hm
      obtain ⟨o11, eo11, hm⟩ := hm
      replace hm := zob_inv hm
      obtain ⟨a12, rfl, hm⟩ := hm
      replace hm := zgd hm
      obtain ⟨b10, hm⟩ := hm
      replace hm := zlb_inv hm
      obtain ⟨o13, eo13, hm⟩ := hm
      replace hm := zob_inv hm
      obtain ⟨a14, rfl, hm⟩ := hm
      replace hm := zgd hm
      obtain ⟨b11, hm⟩ := hm
      replace hm := zgd hm
      obtain ⟨b12, hm⟩ := hm
      replace hm := zlb_inv hm
      obtain ⟨o15, eo15, hm⟩ := hm
      replace hm := zob_inv hm
      obtain ⟨a16, rfl, hm⟩ := hm
      replace hm := zgd hm
      obtain ⟨b13, hm⟩ := hm
      replace hm := zlb_inv hm
      obtain ⟨o17, eo17, hm⟩ := hm
      replace hm := zob_inv hm
      obtain ⟨a18, rfl, hm⟩ := hm
      replace hm := zgd hm
      obtain ⟨b14, hm⟩ := hm
      replace hm := zcV_inv hm
      obtain ⟨S19, e19, hm⟩ := hm
      have hx := Ex_t (T := szR S8 1 a12 o7) hx (ehyX_write e19)
      refine Ex_t ?_ (ih hm)
      exact hx
def yT_takeParts (n : Nat) (S : hS) (th : Nat) (p1 : Option Nat) : Option (hS) := (yT_takeParts_2 th  n S p1 0)
theorem hyT_takeParts {X : ie_X} {d th : Nat} {n : Nat} {S : hS} {p1 : Option Nat} {S' : hS} (hm : yT_takeParts n S th p1 = some S') : Go X (d + 72) 64 (0, ie_en 64 [.ref th, va_rf p1], [], zhp S) (.inl none) (zhp S') := by
  unfold yT_takeParts at hm
  refine go_run 0 (F' := (0, [some (.ref th), some (va_rf p1), none, none], [], zhp S)) (by cases p1 <;> rfl) ?_
  refine go_run 2 (F' := (2, [some (.ref th), some (va_rf p1), some (.int 0), none], [], zhp S)) rfl ?_
  exact hyT_takeParts_2  n hm
theorem ehyT_takeParts {th : Nat} {n : Nat} {S : hS} {p1 : Option Nat} {S' : hS} (hm : yT_takeParts n S th p1 = some S') : Ex S S' := by
  unfold yT_takeParts at hm
  have hx : Ex S S := Ex_r
  refine Ex_t ?_ (ehyT_takeParts_2  n hm)
  exact hx
def y_load (n : Nat) (S : hS) (th : Nat) (x1 : Int32) : Option (hS × (Nat ⊕ Int32)) := (znw S 5 fun S1 a1 => (if ztg S1 th = 1 then (zlb (zR S1 0 th) fun o2 => (zcV (yR_new S1 a1 o2 (zI S1 1 th)) fun S3 => (if ztg S3 a1 = 6 then (zcP (yR_readPlay n S3 a1) fun S4 o4 => (if ztg S4 th = 1 then (zoc o4 (if ztg S4 a1 = 6 then (some (szEx (szI (szI (szI S4 1 th 0) 2 th (zI S4 2 a1)) 3 th (-1)) 11, .inl 11)) else none) fun a5 => (znw (szI S4 1 th 0) 2 fun S6 a6 => (if ztg S6 a1 = 6 then (zcV (yC_new S6 a6 x1 (zI S6 3 a1)) fun S7 => (if ztg S7 a6 = 3 then (zcP (yC_cutRow n 9 S7 a6 (some a5) 0) fun S8 o8 => (if ztg S8 a6 = 3 then (if ztg S8 th = 1 then (if zI S8 3 a6 = (-1) then (if zI S8 2 a6 = (-1) then (zcV (yS_settle n 9 (szI (szI S8 2 th (zI S8 2 a6)) 3 th (zI S8 3 a6)) (some a5) none 0) fun S9 => (if ztg S9 th = 1 then (zlb (zR S9 5 th) fun o10 => (zob o10 fun a11 => (if ztg S9 a11 = 9 then (zcV (yT_takeParts n (szR S9 4 th (some a5)) a11 o8) fun S12 => (if ztg S12 th = 1 then (zlb (zR S12 6 th) fun o13 => (zcV (y_clear n S12 o13) fun S14 => (if ztg S14 a6 = 3 then (if ztg S14 a1 = 6 then (some (S14, .inr ((zI S14 1 a6) - (zI S14 3 a1)))) else none) else none))) else none)) else none))) else none)) else (some (szEx (szI (szI S8 2 th (zI S8 2 a6)) 3 th (zI S8 3 a6)) 13, .inl 13))) else (some (szEx (szI (szI S8 2 th (zI S8 2 a6)) 3 th (zI S8 3 a6)) 12, .inl 12))) else none) else none)) else none)) else none))) else none)) else none))) else none))
theorem hy_load {X : ie_X} {d th : Nat} {n : Nat} {S : hS} {x1 : Int32} {S' : hS} {r : Nat ⊕ Int32} (hm : y_load n S th x1 = some (S', r)) : Go X (d + 155) 10 (0, ie_en 10 [.ref th, .int x1], [], zhp S) (roI r) (zhp S') := by
  unfold y_load at hm
  refine go_run 0 (F' := (0, [some (.ref th), some (.int x1), none, none, none, none], [], zhp S)) rfl ?_
  refine go_run 0 (F' := (0, [some (.ref th), some (.int x1), none, none, none, none], [], zhp S)) rfl ?_
  replace hm := znw_inv hm
  obtain ⟨S1, a1, eS1, ea1, hm⟩ := hm
  refine go_hnew rfl (by decide) rfl eS1 ea1 ?_
  refine go_run 2 (F' := (5, [some (.ref th), some (.int x1), none, none, none, none], [.ref th, .ref a1, .ref a1], zhp S1)) rfl ?_
  replace hm := zgd hm
  obtain ⟨b1, hm⟩ := hm
  replace hm := zlb_inv hm
  obtain ⟨o2, eo2, hm⟩ := hm
  refine go_hg (v := va_rf o2) rfl b1 (by decide) (by rw [← eo2]; rfl) ?_
  refine go_run 1 (F' := (9, [some (.ref th), some (.int x1), none, none, none, none], [.ref th, va_rf o2, .ref a1, .ref a1], zhp S1)) rfl ?_
  refine go_hg (v := .int (zI S1 1 th)) rfl b1 (by decide) rfl ?_
  refine go_run 0 (F' := (12, [some (.ref th), some (.int x1), none, none, none, none], [.int (zI S1 1 th), va_rf o2, .ref a1, .ref a1], zhp S1)) rfl ?_
  replace hm := zcV_inv hm
  obtain ⟨S3, e3, hm⟩ := hm
  have k3 := hyR_new (X := X) (d := d + 154) e3
  refine go_call (m' := 11) (as := [.ref a1, va_rf o2, .int (zI S1 1 th)]) (rest := [.ref a1]) (v := none) (h1 := zhp S3) rfl rfl ⟨by cases o2 <;> rfl, by cases o2 <;> exact Nat.le_of_ble_eq_true rfl⟩ k3 ?_
  refine go_run 0 (F' := (15, [some (.ref th), some (.int x1), none, none, none, none], [.ref a1], zhp S3)) rfl ?_
  refine go_run 2 (F' := (17, [some (.ref th), some (.int x1), some (.ref a1), none, none, none], [.ref a1], zhp S3)) rfl ?_
  replace hm := zgd hm
  obtain ⟨b2, hm⟩ := hm
  replace hm := zcP_inv hm
  obtain ⟨S4, o4, e4, hm⟩ := hm
  have k4 := hyR_readPlay (X := X) (d := d + 114) e4
  refine go_call (m' := 12) (as := [.ref a1]) (rest := []) (v := some (va_rf o4)) (h1 := zhp S4) rfl (by simp only [ie_step, ie_iv, List.drop, zhp_obj (S := S3) b2 (by decide)]; rfl) ⟨rfl, Nat.le_of_ble_eq_true rfl⟩ k4 ?_
  refine go_run 0 (F' := (20, [some (.ref th), some (.int x1), some (.ref a1), none, none, none], [va_rf o4], zhp S4)) rfl ?_
  refine go_run 0 (F' := (20, [some (.ref th), some (.int x1), some (.ref a1), none, none, none], [va_rf o4], zhp S4)) rfl ?_
  refine go_as rfl ?_
  refine go_run 2 (F' := (23, [some (.ref th), some (.int x1), some (.ref a1), some (va_rf o4), none, none], [.int 0, .ref th], zhp S4)) rfl ?_
  replace hm := zgd hm
  obtain ⟨b3, hm⟩ := hm
  refine go_hpI rfl b3 (by decide) rfl (Nat.le_of_ble_eq_true rfl) fs_0_1 ?_
  refine go_run 0 (F' := (26, [some (.ref th), some (.int x1), some (.ref a1), some (va_rf o4), none, none], [], zhp (szI S4 1 th 0))) rfl ?_
  refine go_al rfl rfl ?_
  refine go_run 0 (F' := (27, [some (.ref th), some (.int x1), some (.ref a1), some (va_rf o4), none, none], [va_rf o4], zhp (szI S4 1 th 0))) rfl ?_
  cases o4 with
  | none =>
    replace hm := zoc_n hm
    refine go_step rfl rfl ?_
    refine go_run 0 (F' := (30, [some (.ref th), some (.int x1), some (.ref a1), some (.null), none, none], [], zhp (szI S4 1 th 0))) rfl ?_
    refine go_run 2 (F' := (32, [some (.ref th), some (.int x1), some (.ref a1), some (.null), none, none], [.ref a1, .ref th], zhp (szI S4 1 th 0))) rfl ?_
    replace hm := zgd hm
    obtain ⟨b4, hm⟩ := hm
    refine go_hg (v := .int (zI S4 2 a1)) rfl b4 (by decide) rfl ?_
    refine go_run 0 (F' := (35, [some (.ref th), some (.int x1), some (.ref a1), some (.null), none, none], [.int (zI S4 2 a1), .ref th], zhp (szI S4 1 th 0))) rfl ?_
    refine go_hpI rfl b3 (by decide) rfl (Nat.le_of_ble_eq_true rfl) fs_0_2 ?_
    refine go_run 2 (F' := (40, [some (.ref th), some (.int x1), some (.ref a1), some (.null), none, none], [.int (-1), .ref th], zhp (szI (szI S4 1 th 0) 2 th (zI S4 2 a1)))) rfl ?_
    refine go_hpI rfl b3 (by decide) rfl (Nat.le_of_ble_eq_true rfl) fs_0_3 ?_
    refine go_run 0 (F' := (43, [some (.ref th), some (.int x1), some (.ref a1), some (.null), none, none], [], zhp (szI (szI (szI S4 1 th 0) 2 th (zI S4 2 a1)) 3 th (-1)))) rfl ?_
    cases hm
    exact go_hexc rfl (by decide) (by decide)
  | some a5 =>
    replace hm := zoc_s hm
    refine go_step rfl rfl ?_
    refine go_run 0 (F' := (51, [some (.ref th), some (.int x1), some (.ref a1), some (.ref a5), none, none], [], zhp (szI S4 1 th 0))) rfl ?_
    refine go_run 0 (F' := (51, [some (.ref th), some (.int x1), some (.ref a1), some (.ref a5), none, none], [], zhp (szI S4 1 th 0))) rfl ?_
    replace hm := znw_inv hm
    obtain ⟨S6, a6, eS6, ea6, hm⟩ := hm
    refine go_hnew rfl (by decide) rfl eS6 ea6 ?_
    refine go_run 3 (F' := (57, [some (.ref th), some (.int x1), some (.ref a1), some (.ref a5), none, none], [.ref a1, .int x1, .ref a6, .ref a6], zhp S6)) rfl ?_
    replace hm := zgd hm
    obtain ⟨b5, hm⟩ := hm
    refine go_hg (v := .int (zI S6 3 a1)) rfl b5 (by decide) rfl ?_
    refine go_run 0 (F' := (60, [some (.ref th), some (.int x1), some (.ref a1), some (.ref a5), none, none], [.int (zI S6 3 a1), .int x1, .ref a6, .ref a6], zhp S6)) rfl ?_
    replace hm := zcV_inv hm
    obtain ⟨S7, e7, hm⟩ := hm
    have k7 := hyC_new (X := X) (d := d + 154) e7
    refine go_call (m' := 35) (as := [.ref a6, .int x1, .int (zI S6 3 a1)]) (rest := [.ref a6]) (v := none) (h1 := zhp S7) rfl rfl ⟨rfl, Nat.le_of_ble_eq_true rfl⟩ k7 ?_
    refine go_run 0 (F' := (63, [some (.ref th), some (.int x1), some (.ref a1), some (.ref a5), none, none], [.ref a6], zhp S7)) rfl ?_
    refine go_run 4 (F' := (69, [some (.ref th), some (.int x1), some (.ref a1), some (.ref a5), some (.ref a6), none], [.int 0, .ref a5, .ref a6], zhp S7)) rfl ?_
    replace hm := zgd hm
    obtain ⟨b6, hm⟩ := hm
    replace hm := zcP_inv hm
    obtain ⟨S8, o8, e8, hm⟩ := hm
    have k8 := hyC_cutRow_o (X := X) (d := d) e8
    refine go_call (m' := 36) (as := [.ref a6, .ref a5, .int 0]) (rest := []) (v := some (va_rf o8)) (h1 := zhp S8) rfl (by simp only [ie_step, ie_iv, List.drop, zhp_obj (S := S7) b6 (by decide)]; rfl) ⟨rfl, Nat.le_of_ble_eq_true rfl⟩ k8 ?_
    refine go_run 0 (F' := (72, [some (.ref th), some (.int x1), some (.ref a1), some (.ref a5), some (.ref a6), none], [va_rf o8], zhp S8)) rfl ?_
    refine go_run 0 (F' := (72, [some (.ref th), some (.int x1), some (.ref a1), some (.ref a5), some (.ref a6), none], [va_rf o8], zhp S8)) rfl ?_
    refine go_as2 rfl ?_
    refine go_run 2 (F' := (77, [some (.ref th), some (.int x1), some (.ref a1), some (.ref a5), some (.ref a6), some (va_rf o8)], [.ref a6, .ref th], zhp S8)) rfl ?_
    replace hm := zgd hm
    obtain ⟨b7, hm⟩ := hm
    refine go_hg (v := .int (zI S8 2 a6)) rfl b7 (by decide) rfl ?_
    refine go_run 0 (F' := (80, [some (.ref th), some (.int x1), some (.ref a1), some (.ref a5), some (.ref a6), some (va_rf o8)], [.int (zI S8 2 a6), .ref th], zhp S8)) rfl ?_
    replace hm := zgd hm
    obtain ⟨b8, hm⟩ := hm
    refine go_hpI rfl b8 (by decide) rfl (Nat.le_of_ble_eq_true rfl) fs_0_2 ?_
    refine go_run 2 (F' := (86, [some (.ref th), some (.int x1), some (.ref a1), some (.ref a5), some (.ref a6), some (va_rf o8)], [.ref a6, .ref th], zhp (szI S8 2 th (zI S8 2 a6)))) rfl ?_
    refine go_hg (v := .int (zI S8 3 a6)) rfl b7 (by decide) rfl ?_
    refine go_run 0 (F' := (89, [some (.ref th), some (.int x1), some (.ref a1), some (.ref a5), some (.ref a6), some (va_rf o8)], [.int (zI S8 3 a6), .ref th], zhp (szI S8 2 th (zI S8 2 a6)))) rfl ?_
    refine go_hpI rfl b8 (by decide) rfl (Nat.le_of_ble_eq_true rfl) fs_0_3 ?_
    refine go_run 1 (F' := (93, [some (.ref th), some (.int x1), some (.ref a1), some (.ref a5), some (.ref a6), some (va_rf o8)], [.ref th], zhp (szI (szI S8 2 th (zI S8 2 a6)) 3 th (zI S8 3 a6)))) rfl ?_
    refine go_hg (v := .int (zI S8 3 a6)) rfl b8 (by decide) (congrArg (fun z => some (Value.int z)) (zI_self (szI S8 2 th (zI S8 2 a6)) 3 th (zI S8 3 a6))) ?_
    refine go_run 1 (F' := (97, [some (.ref th), some (.int x1), some (.ref a1), some (.ref a5), some (.ref a6), some (va_rf o8)], [.int (-1), .int (zI S8 3 a6)], zhp (szI (szI S8 2 th (zI S8 2 a6)) 3 th (zI S8 3 a6)))) rfl ?_
    refine go_step rfl rfl ?_
    by_cases q9 : zI S8 3 a6 = (-1)
    · rw [if_pos q9] at hm ⊢
      refine go_run 0 (F' := (108, [some (.ref th), some (.int x1), some (.ref a1), some (.ref a5), some (.ref a6), some (va_rf o8)], [], zhp (szI (szI S8 2 th (zI S8 2 a6)) 3 th (zI S8 3 a6)))) rfl ?_
      refine go_run 1 (F' := (109, [some (.ref th), some (.int x1), some (.ref a1), some (.ref a5), some (.ref a6), some (va_rf o8)], [.ref th], zhp (szI (szI S8 2 th (zI S8 2 a6)) 3 th (zI S8 3 a6)))) rfl ?_
      refine go_hg (v := .int (zI S8 2 a6)) rfl b8 (by decide) (congrArg (fun z => some (Value.int z)) (zI_self S8 2 th (zI S8 2 a6))) ?_
      refine go_run 1 (F' := (113, [some (.ref th), some (.int x1), some (.ref a1), some (.ref a5), some (.ref a6), some (va_rf o8)], [.int (-1), .int (zI S8 2 a6)], zhp (szI (szI S8 2 th (zI S8 2 a6)) 3 th (zI S8 3 a6)))) rfl ?_
      refine go_step rfl rfl ?_
      by_cases q10 : zI S8 2 a6 = (-1)
      · rw [if_pos q10] at hm ⊢
        refine go_run 0 (F' := (124, [some (.ref th), some (.int x1), some (.ref a1), some (.ref a5), some (.ref a6), some (va_rf o8)], [], zhp (szI (szI S8 2 th (zI S8 2 a6)) 3 th (zI S8 3 a6)))) rfl ?_
        refine go_run 3 (F' := (127, [some (.ref th), some (.int x1), some (.ref a1), some (.ref a5), some (.ref a6), some (va_rf o8)], [.int 0, .null, .ref a5], zhp (szI (szI S8 2 th (zI S8 2 a6)) 3 th (zI S8 3 a6)))) rfl ?_
        replace hm := zcV_inv hm
        obtain ⟨S9, e9, hm⟩ := hm
        have k9 := hyS_settle_o (X := X) (d := d + 145) e9
        refine go_call (m' := 63) (as := [.ref a5, .null, .int 0]) (rest := []) (v := none) (h1 := zhp S9) rfl rfl ⟨rfl, Nat.le_of_ble_eq_true rfl⟩ k9 ?_
        refine go_run 0 (F' := (130, [some (.ref th), some (.int x1), some (.ref a1), some (.ref a5), some (.ref a6), some (va_rf o8)], [], zhp S9)) rfl ?_
        refine go_run 2 (F' := (132, [some (.ref th), some (.int x1), some (.ref a1), some (.ref a5), some (.ref a6), some (va_rf o8)], [.ref a5, .ref th], zhp S9)) rfl ?_
        replace hm := zgd hm
        obtain ⟨b11, hm⟩ := hm
        refine go_hpR (v := (some a5)) rfl b11 (by decide) rfl (Nat.le_of_ble_eq_true rfl) fs_0_4 ?_
        refine go_run 1 (F' := (136, [some (.ref th), some (.int x1), some (.ref a1), some (.ref a5), some (.ref a6), some (va_rf o8)], [.ref th], zhp (szR S9 4 th (some a5)))) rfl ?_
        replace hm := zlb_inv hm
        obtain ⟨o10, eo10, hm⟩ := hm
        refine go_hg (v := va_rf o10) rfl b11 (by decide) (by rw [← eo10]; rfl) ?_
        refine go_run 0 (F' := (139, [some (.ref th), some (.int x1), some (.ref a1), some (.ref a5), some (.ref a6), some (va_rf o8)], [va_rf o10], zhp (szR S9 4 th (some a5)))) rfl ?_
        refine go_al2 rfl rfl ?_
        refine go_run 0 (F' := (141, [some (.ref th), some (.int x1), some (.ref a1), some (.ref a5), some (.ref a6), some (va_rf o8)], [va_rf o8, va_rf o10], zhp (szR S9 4 th (some a5)))) rfl ?_
        replace hm := zob_inv hm
        obtain ⟨a11, rfl, hm⟩ := hm
        refine go_run 0 (F' := (141, [some (.ref th), some (.int x1), some (.ref a1), some (.ref a5), some (.ref a6), some (va_rf o8)], [va_rf o8, .ref a11], zhp (szR S9 4 th (some a5)))) rfl ?_
        replace hm := zgd hm
        obtain ⟨b12, hm⟩ := hm
        replace hm := zcV_inv hm
        obtain ⟨S12, e12, hm⟩ := hm
        have k12 := hyT_takeParts (X := X) (d := d + 82) e12
        refine go_call (m' := 64) (as := [.ref a11, va_rf o8]) (rest := []) (v := none) (h1 := zhp S12) rfl (by simp only [ie_step, ie_iv, List.drop, zhp_obj (S := szR S9 4 th (some a5)) b12 (by decide)]; rfl) ⟨by cases o8 <;> rfl, by cases o8 <;> exact Nat.le_of_ble_eq_true rfl⟩ k12 ?_
        refine go_run 0 (F' := (144, [some (.ref th), some (.int x1), some (.ref a1), some (.ref a5), some (.ref a6), some (va_rf o8)], [], zhp S12)) rfl ?_
        refine go_run 1 (F' := (145, [some (.ref th), some (.int x1), some (.ref a1), some (.ref a5), some (.ref a6), some (va_rf o8)], [.ref th], zhp S12)) rfl ?_
        replace hm := zgd hm
        obtain ⟨b13, hm⟩ := hm
        replace hm := zlb_inv hm
        obtain ⟨o13, eo13, hm⟩ := hm
        refine go_hg (v := va_rf o13) rfl b13 (by decide) (by rw [← eo13]; rfl) ?_
        refine go_run 0 (F' := (148, [some (.ref th), some (.int x1), some (.ref a1), some (.ref a5), some (.ref a6), some (va_rf o8)], [va_rf o13], zhp S12)) rfl ?_
        replace hm := zcV_inv hm
        obtain ⟨S14, e14, hm⟩ := hm
        have k14 := hy_clear (X := X) (d := d + 154) e14
        refine go_call (m' := 75) (as := [va_rf o13]) (rest := []) (v := none) (h1 := zhp S14) rfl rfl ⟨by cases o13 <;> rfl, by cases o13 <;> exact Nat.le_of_ble_eq_true rfl⟩ k14 ?_
        refine go_run 0 (F' := (151, [some (.ref th), some (.int x1), some (.ref a1), some (.ref a5), some (.ref a6), some (va_rf o8)], [], zhp S14)) rfl ?_
        refine go_run 1 (F' := (153, [some (.ref th), some (.int x1), some (.ref a1), some (.ref a5), some (.ref a6), some (va_rf o8)], [.ref a6], zhp S14)) rfl ?_
        replace hm := zgd hm
        obtain ⟨b14, hm⟩ := hm
        refine go_hg (v := .int (zI S14 1 a6)) rfl b14 (by decide) rfl ?_
        refine go_run 1 (F' := (157, [some (.ref th), some (.int x1), some (.ref a1), some (.ref a5), some (.ref a6), some (va_rf o8)], [.ref a1, .int (zI S14 1 a6)], zhp S14)) rfl ?_
        replace hm := zgd hm
        obtain ⟨b15, hm⟩ := hm
        refine go_hg (v := .int (zI S14 3 a1)) rfl b15 (by decide) rfl ?_
        refine go_run 1 (F' := (161, [some (.ref th), some (.int x1), some (.ref a1), some (.ref a5), some (.ref a6), some (va_rf o8)], [.int ((zI S14 1 a6) - (zI S14 3 a1))], zhp S14)) rfl ?_
        cases hm
        exact go_end rfl rfl
      · rw [if_neg q10] at hm ⊢
        refine go_run 0 (F' := (116, [some (.ref th), some (.int x1), some (.ref a1), some (.ref a5), some (.ref a6), some (va_rf o8)], [], zhp (szI (szI S8 2 th (zI S8 2 a6)) 3 th (zI S8 3 a6)))) rfl ?_
        refine go_run 0 (F' := (116, [some (.ref th), some (.int x1), some (.ref a1), some (.ref a5), some (.ref a6), some (va_rf o8)], [], zhp (szI (szI S8 2 th (zI S8 2 a6)) 3 th (zI S8 3 a6)))) rfl ?_
        cases hm
        exact go_hexc rfl (by decide) (by decide)
    · rw [if_neg q9] at hm ⊢
      refine go_run 0 (F' := (100, [some (.ref th), some (.int x1), some (.ref a1), some (.ref a5), some (.ref a6), some (va_rf o8)], [], zhp (szI (szI S8 2 th (zI S8 2 a6)) 3 th (zI S8 3 a6)))) rfl ?_
      refine go_run 0 (F' := (100, [some (.ref th), some (.int x1), some (.ref a1), some (.ref a5), some (.ref a6), some (va_rf o8)], [], zhp (szI (szI S8 2 th (zI S8 2 a6)) 3 th (zI S8 3 a6)))) rfl ?_
      cases hm
      exact go_hexc rfl (by decide) (by decide)
theorem ehy_load {th : Nat} {n : Nat} {S : hS} {x1 : Int32} {S' : hS} {r : Nat ⊕ Int32} (hm : y_load n S th x1 = some (S', r)) : Ex S S' := by
  unfold y_load at hm
  have hx : Ex S S := Ex_r
  replace hm := znw_inv hm
  obtain ⟨S1, a1, eS1, ea1, hm⟩ := hm
  have hx := Ex_t (T := S) hx (Ex_n (by decide) eS1)
  replace hm := zgd hm
  obtain ⟨b1, hm⟩ := hm
  replace hm := zlb_inv hm
  obtain ⟨o2, eo2, hm⟩ := hm
  replace hm := zcV_inv hm
  obtain ⟨S3, e3, hm⟩ := hm
  have hx := Ex_t (T := S1) hx (ehyR_new e3)
  replace hm := zgd hm
  obtain ⟨b2, hm⟩ := hm
  replace hm := zcP_inv hm
  obtain ⟨S4, o4, e4, hm⟩ := hm
  have hx := Ex_t (T := S3) hx (ehyR_readPlay e4)
  replace hm := zgd hm
  obtain ⟨b3, hm⟩ := hm
  cases o4 with
  | none =>
    replace hm := zoc_n hm
    replace hm := zgd hm
    obtain ⟨b4, hm⟩ := hm
    cases hm
    exact Ex_t hx Ex_ex
  | some a5 =>
    replace hm := zoc_s hm
    replace hm := znw_inv hm
    obtain ⟨S6, a6, eS6, ea6, hm⟩ := hm
    have hx := Ex_t (T := szI S4 1 th 0) hx (Ex_n (by decide) eS6)
    replace hm := zgd hm
    obtain ⟨b5, hm⟩ := hm
    replace hm := zcV_inv hm
    obtain ⟨S7, e7, hm⟩ := hm
    have hx := Ex_t (T := S6) hx (ehyC_new e7)
    replace hm := zgd hm
    obtain ⟨b6, hm⟩ := hm
    replace hm := zcP_inv hm
    obtain ⟨S8, o8, e8, hm⟩ := hm
    have hx := Ex_t (T := S7) hx (ehyC_cutRow_o e8)
    replace hm := zgd hm
    obtain ⟨b7, hm⟩ := hm
    replace hm := zgd hm
    obtain ⟨b8, hm⟩ := hm
    by_cases q9 : zI S8 3 a6 = (-1)
    · rw [if_pos q9] at hm
      by_cases q10 : zI S8 2 a6 = (-1)
      · rw [if_pos q10] at hm
        replace hm := zcV_inv hm
        obtain ⟨S9, e9, hm⟩ := hm
        have hx := Ex_t (T := szI (szI S8 2 th (zI S8 2 a6)) 3 th (zI S8 3 a6)) hx (ehyS_settle_o e9)
        replace hm := zgd hm
        obtain ⟨b11, hm⟩ := hm
        replace hm := zlb_inv hm
        obtain ⟨o10, eo10, hm⟩ := hm
        replace hm := zob_inv hm
        obtain ⟨a11, rfl, hm⟩ := hm
        replace hm := zgd hm
        obtain ⟨b12, hm⟩ := hm
        replace hm := zcV_inv hm
        obtain ⟨S12, e12, hm⟩ := hm
        have hx := Ex_t (T := szR S9 4 th (some a5)) hx (ehyT_takeParts e12)
        replace hm := zgd hm
        obtain ⟨b13, hm⟩ := hm
        replace hm := zlb_inv hm
        obtain ⟨o13, eo13, hm⟩ := hm
        replace hm := zcV_inv hm
        obtain ⟨S14, e14, hm⟩ := hm
        have hx := Ex_t (T := S12) hx (ehy_clear e14)
        replace hm := zgd hm
        obtain ⟨b14, hm⟩ := hm
        replace hm := zgd hm
        obtain ⟨b15, hm⟩ := hm
        cases hm
        exact hx
      · rw [if_neg q10] at hm
        cases hm
        exact Ex_t hx Ex_ex
    · rw [if_neg q9] at hm
      cases hm
      exact Ex_t hx Ex_ex
def y_needParty (S : hS) (x1 : Int32) : Option (hS × (Nat ⊕ Int32)) := (if ty_b (rd_rp x1) = 0 then (some (szEx S 14, .inl 14)) else (some (S, .inr 0)))
theorem hy_needParty {X : ie_X} {d : Nat} {S : hS} {x1 : Int32} {S' : hS} {r : Nat ⊕ Int32} (hm : y_needParty S x1 = some (S', r)) : Go X (d + 1) 80 (0, ie_en 80 [.int x1], [], zhp S) (roV r) (zhp S') := by
  unfold y_needParty at hm
  refine go_run 0 (F' := (0, [some (.int x1)], [], zhp S)) rfl ?_
  refine go_run 1 (F' := (1, [some (.int x1)], [.int x1], zhp S)) rfl ?_
  refine go_call (m' := 33) (as := [.int x1]) (rest := []) (v := some (.int (ty_b (rd_rp x1)))) (h1 := zhp S) rfl rfl ⟨rfl, Nat.le_of_ble_eq_true rfl⟩ (rd_isParty _) ?_
  refine go_run 0 (F' := (4, [some (.int x1)], [.int (ty_b (rd_rp x1))], zhp S)) rfl ?_
  refine go_run 0 (F' := (4, [some (.int x1)], [.int (ty_b (rd_rp x1))], zhp S)) rfl ?_
  refine go_step rfl rfl ?_
  by_cases q1 : ty_b (rd_rp x1) = 0
  · rw [if_pos q1] at hm ⊢
    refine go_run 0 (F' := (7, [some (.int x1)], [], zhp S)) rfl ?_
    refine go_run 0 (F' := (7, [some (.int x1)], [], zhp S)) rfl ?_
    cases hm
    exact go_hexc rfl (by decide) (by decide)
  · rw [if_neg q1] at hm ⊢
    refine go_run 0 (F' := (15, [some (.int x1)], [], zhp S)) rfl ?_
    refine go_run 0 (F' := (15, [some (.int x1)], [], zhp S)) rfl ?_
    cases hm
    exact go_end rfl rfl
theorem ehy_needParty {S : hS} {x1 : Int32} {S' : hS} {r : Nat ⊕ Int32} (hm : y_needParty S x1 = some (S', r)) : Ex S S' := by
  unfold y_needParty at hm
  have hx : Ex S S := Ex_r
  by_cases q1 : ty_b (rd_rp x1) = 0
  · rw [if_pos q1] at hm
    cases hm
    exact Ex_t hx Ex_ex
  · rw [if_neg q1] at hm
    cases hm
    exact hx
def y_needPlay (S : hS) (th : Nat) : Option (hS × (Nat ⊕ Int32)) := (if ztg S th = 1 then (zlb (zR S 4 th) fun o1 => (zoc o1 (some (szEx S 12, .inl 12)) fun a2 => (some (S, .inr 0)))) else none)
theorem hy_needPlay {X : ie_X} {d th : Nat} {S : hS} {S' : hS} {r : Nat ⊕ Int32} (hm : y_needPlay S th = some (S', r)) : Go X (d + 0) 81 (0, ie_en 81 [.ref th], [], zhp S) (roV r) (zhp S') := by
  unfold y_needPlay at hm
  refine go_run 0 (F' := (0, [some (.ref th)], [], zhp S)) rfl ?_
  refine go_run 1 (F' := (1, [some (.ref th)], [.ref th], zhp S)) rfl ?_
  replace hm := zgd hm
  obtain ⟨b1, hm⟩ := hm
  replace hm := zlb_inv hm
  obtain ⟨o1, eo1, hm⟩ := hm
  refine go_hg (v := va_rf o1) rfl b1 (by decide) (by rw [← eo1]; rfl) ?_
  refine go_run 0 (F' := (4, [some (.ref th)], [va_rf o1], zhp S)) rfl ?_
  cases o1 with
  | none =>
    replace hm := zoc_n hm
    refine go_step rfl rfl ?_
    refine go_run 0 (F' := (7, [some (.ref th)], [], zhp S)) rfl ?_
    refine go_run 0 (F' := (7, [some (.ref th)], [], zhp S)) rfl ?_
    cases hm
    exact go_hexc rfl (by decide) (by decide)
  | some a2 =>
    replace hm := zoc_s hm
    refine go_step rfl rfl ?_
    refine go_run 0 (F' := (15, [some (.ref th)], [], zhp S)) rfl ?_
    refine go_run 0 (F' := (15, [some (.ref th)], [], zhp S)) rfl ?_
    cases hm
    exact go_end rfl rfl
theorem ehy_needPlay {th : Nat} {S : hS} {S' : hS} {r : Nat ⊕ Int32} (hm : y_needPlay S th = some (S', r)) : Ex S S' := by
  unfold y_needPlay at hm
  have hx : Ex S S := Ex_r
  replace hm := zgd hm
  obtain ⟨b1, hm⟩ := hm
  replace hm := zlb_inv hm
  obtain ⟨o1, eo1, hm⟩ := hm
  cases o1 with
  | none =>
    replace hm := zoc_n hm
    cases hm
    exact Ex_t hx Ex_ex
  | some a2 =>
    replace hm := zoc_s hm
    cases hm
    exact hx
def y_length (S : hS) (th : Nat) (x1 : Int32) : Option (hS × (Nat ⊕ Int32)) := (zcT (y_needParty S x1) fun S1 v1 => (if ztg S1 th = 1 then (zcT (y_needPlay S1 th) fun S2 v2 => (if ztg S2 th = 1 then (zlb (zR S2 5 th) fun o3 => (zob o3 fun a4 => (if ztg S2 a4 = 9 then (zlb (zR S2 0 a4) fun o5 => (zob o5 fun a6 => (if zar S2 a6 then (if ib x1 (zLen S2 a6) then (zlb ((zAR S2 a6) (Int32.toNatClampNeg x1)) fun o7 => (zob o7 fun a8 => (if ztg S2 a8 = 5 then (zlb (zR S2 0 a8) fun o9 => (zob o9 fun a10 => (if ztg S2 a10 = 4 then (some (S2, .inr (zI S2 1 a10))) else none))) else none))) else none) else none))) else none))) else none)) else none))
theorem hy_length {X : ie_X} {d th : Nat} {S : hS} {x1 : Int32} {S' : hS} {r : Nat ⊕ Int32} (hm : y_length S th x1 = some (S', r)) : Go X (d + 2) 79 (0, ie_en 79 [.ref th, .int x1], [], zhp S) (roI r) (zhp S') := by
  unfold y_length at hm
  refine go_run 0 (F' := (0, [some (.ref th), some (.int x1)], [], zhp S)) rfl ?_
  refine go_run 1 (F' := (1, [some (.ref th), some (.int x1)], [.int x1], zhp S)) rfl ?_
  replace hm := zcT_inv hm
  obtain ⟨S1, w1, e1, hm⟩ := hm
  have k1 := hy_needParty (X := X) (d := d) e1
  rcases w1 with c1 | v1
  · cases hm
    exact go_out (m' := 80) (as := [.int x1]) (rest := []) rfl rfl ⟨rfl, Nat.le_of_ble_eq_true rfl⟩ rfl rfl k1
  replace hm := zcT_v hm
  refine go_call (m' := 80) (as := [.int x1]) (rest := []) (v := none) (h1 := zhp S1) rfl rfl ⟨rfl, Nat.le_of_ble_eq_true rfl⟩ k1 ?_
  refine go_run 0 (F' := (4, [some (.ref th), some (.int x1)], [], zhp S1)) rfl ?_
  refine go_run 1 (F' := (5, [some (.ref th), some (.int x1)], [.ref th], zhp S1)) rfl ?_
  replace hm := zgd hm
  obtain ⟨b1, hm⟩ := hm
  replace hm := zcT_inv hm
  obtain ⟨S2, w2, e2, hm⟩ := hm
  have k2 := hy_needPlay (X := X) (d := d + 1) e2
  rcases w2 with c2 | v2
  · cases hm
    exact go_out (m' := 81) (as := [.ref th]) (rest := []) rfl (by simp only [ie_step, ie_iv, List.drop, zhp_obj (S := S1) b1 (by decide)]; rfl) ⟨rfl, Nat.le_of_ble_eq_true rfl⟩ rfl rfl k2
  replace hm := zcT_v hm
  refine go_call (m' := 81) (as := [.ref th]) (rest := []) (v := none) (h1 := zhp S2) rfl (by simp only [ie_step, ie_iv, List.drop, zhp_obj (S := S1) b1 (by decide)]; rfl) ⟨rfl, Nat.le_of_ble_eq_true rfl⟩ k2 ?_
  refine go_run 0 (F' := (8, [some (.ref th), some (.int x1)], [], zhp S2)) rfl ?_
  refine go_run 1 (F' := (9, [some (.ref th), some (.int x1)], [.ref th], zhp S2)) rfl ?_
  replace hm := zgd hm
  obtain ⟨b2, hm⟩ := hm
  replace hm := zlb_inv hm
  obtain ⟨o3, eo3, hm⟩ := hm
  refine go_hg (v := va_rf o3) rfl b2 (by decide) (by rw [← eo3]; rfl) ?_
  refine go_run 0 (F' := (12, [some (.ref th), some (.int x1)], [va_rf o3], zhp S2)) rfl ?_
  replace hm := zob_inv hm
  obtain ⟨a4, rfl, hm⟩ := hm
  replace hm := zgd hm
  obtain ⟨b3, hm⟩ := hm
  replace hm := zlb_inv hm
  obtain ⟨o5, eo5, hm⟩ := hm
  refine go_hg (v := va_rf o5) rfl b3 (by decide) (by rw [← eo5]; rfl) ?_
  refine go_run 1 (F' := (16, [some (.ref th), some (.int x1)], [.int x1, va_rf o5], zhp S2)) rfl ?_
  replace hm := zob_inv hm
  obtain ⟨a6, rfl, hm⟩ := hm
  replace hm := zgd hm
  obtain ⟨b4, hm⟩ := hm
  replace hm := zgd hm
  obtain ⟨b5, hm⟩ := hm
  replace hm := zlb_inv hm
  obtain ⟨o7, eo7, hm⟩ := hm
  refine go_haald rfl b4 b5 rfl eo7 ?_
  refine go_run 0 (F' := (17, [some (.ref th), some (.int x1)], [va_rf o7], zhp S2)) rfl ?_
  replace hm := zob_inv hm
  obtain ⟨a8, rfl, hm⟩ := hm
  replace hm := zgd hm
  obtain ⟨b6, hm⟩ := hm
  replace hm := zlb_inv hm
  obtain ⟨o9, eo9, hm⟩ := hm
  refine go_hg (v := va_rf o9) rfl b6 (by decide) (by rw [← eo9]; rfl) ?_
  refine go_run 0 (F' := (20, [some (.ref th), some (.int x1)], [va_rf o9], zhp S2)) rfl ?_
  replace hm := zob_inv hm
  obtain ⟨a10, rfl, hm⟩ := hm
  replace hm := zgd hm
  obtain ⟨b7, hm⟩ := hm
  refine go_hg (v := .int (zI S2 1 a10)) rfl b7 (by decide) rfl ?_
  refine go_run 0 (F' := (23, [some (.ref th), some (.int x1)], [.int (zI S2 1 a10)], zhp S2)) rfl ?_
  cases hm
  exact go_end rfl rfl
theorem ehy_length {th : Nat} {S : hS} {x1 : Int32} {S' : hS} {r : Nat ⊕ Int32} (hm : y_length S th x1 = some (S', r)) : Ex S S' := by
  unfold y_length at hm
  have hx : Ex S S := Ex_r
  replace hm := zcT_inv hm
  obtain ⟨S1, w1, e1, hm⟩ := hm
  have hx := Ex_t (T := S) hx (ehy_needParty e1)
  rcases w1 with c1 | v1
  · cases hm
    exact hx
  replace hm := zcT_v hm
  replace hm := zgd hm
  obtain ⟨b1, hm⟩ := hm
  replace hm := zcT_inv hm
  obtain ⟨S2, w2, e2, hm⟩ := hm
  have hx := Ex_t (T := S1) hx (ehy_needPlay e2)
  rcases w2 with c2 | v2
  · cases hm
    exact hx
  replace hm := zcT_v hm
  replace hm := zgd hm
  obtain ⟨b2, hm⟩ := hm
  replace hm := zlb_inv hm
  obtain ⟨o3, eo3, hm⟩ := hm
  replace hm := zob_inv hm
  obtain ⟨a4, rfl, hm⟩ := hm
  replace hm := zgd hm
  obtain ⟨b3, hm⟩ := hm
  replace hm := zlb_inv hm
  obtain ⟨o5, eo5, hm⟩ := hm
  replace hm := zob_inv hm
  obtain ⟨a6, rfl, hm⟩ := hm
  replace hm := zgd hm
  obtain ⟨b4, hm⟩ := hm
  replace hm := zgd hm
  obtain ⟨b5, hm⟩ := hm
  replace hm := zlb_inv hm
  obtain ⟨o7, eo7, hm⟩ := hm
  replace hm := zob_inv hm
  obtain ⟨a8, rfl, hm⟩ := hm
  replace hm := zgd hm
  obtain ⟨b6, hm⟩ := hm
  replace hm := zlb_inv hm
  obtain ⟨o9, eo9, hm⟩ := hm
  replace hm := zob_inv hm
  obtain ⟨a10, rfl, hm⟩ := hm
  replace hm := zgd hm
  obtain ⟨b7, hm⟩ := hm
  cases hm
  exact hx
def y_letter (S : hS) (th : Nat) (x1 : Int32) (x2 : Int32) : Option (hS × (Nat ⊕ Int32)) := (zcT (y_needParty S x1) fun S1 v1 => (if ztg S1 th = 1 then (zcT (y_needPlay S1 th) fun S2 v2 => (if ztg S2 th = 1 then (zlb (zR S2 5 th) fun o3 => (zob o3 fun a4 => (if ztg S2 a4 = 9 then (zlb (zR S2 0 a4) fun o5 => (zob o5 fun a6 => (if zar S2 a6 then (if ib x1 (zLen S2 a6) then (zlb ((zAR S2 a6) (Int32.toNatClampNeg x1)) fun o7 => (zob o7 fun a8 => (if ztg S2 a8 = 5 then (zlb (zR S2 0 a8) fun o9 => (if x2 < 0 then (some (szEx S2 15, .inl 15)) else (zob o9 fun a10 => (if ztg S2 a10 = 4 then (if x2 < zI S2 1 a10 then (zlb (zR S2 0 a10) fun o11 => (zob o11 fun a12 => (if ztg S2 a12 = 21 then (if ib x2 (zLen S2 a12) then (some (S2, .inr ((zAI S2 a12) (Int32.toNatClampNeg x2)))) else none) else none))) else (some (szEx S2 15, .inl 15))) else none)))) else none))) else none) else none))) else none))) else none)) else none))
theorem hy_letter {X : ie_X} {d th : Nat} {S : hS} {x1 : Int32} {x2 : Int32} {S' : hS} {r : Nat ⊕ Int32} (hm : y_letter S th x1 x2 = some (S', r)) : Go X (d + 2) 83 (0, ie_en 83 [.ref th, .int x1, .int x2], [], zhp S) (roI r) (zhp S') := by
  unfold y_letter at hm
  refine go_run 0 (F' := (0, [some (.ref th), some (.int x1), some (.int x2), none], [], zhp S)) rfl ?_
  refine go_run 1 (F' := (1, [some (.ref th), some (.int x1), some (.int x2), none], [.int x1], zhp S)) rfl ?_
  replace hm := zcT_inv hm
  obtain ⟨S1, w1, e1, hm⟩ := hm
  have k1 := hy_needParty (X := X) (d := d) e1
  rcases w1 with c1 | v1
  · cases hm
    exact go_out (m' := 80) (as := [.int x1]) (rest := []) rfl rfl ⟨rfl, Nat.le_of_ble_eq_true rfl⟩ rfl rfl k1
  replace hm := zcT_v hm
  refine go_call (m' := 80) (as := [.int x1]) (rest := []) (v := none) (h1 := zhp S1) rfl rfl ⟨rfl, Nat.le_of_ble_eq_true rfl⟩ k1 ?_
  refine go_run 0 (F' := (4, [some (.ref th), some (.int x1), some (.int x2), none], [], zhp S1)) rfl ?_
  refine go_run 1 (F' := (5, [some (.ref th), some (.int x1), some (.int x2), none], [.ref th], zhp S1)) rfl ?_
  replace hm := zgd hm
  obtain ⟨b1, hm⟩ := hm
  replace hm := zcT_inv hm
  obtain ⟨S2, w2, e2, hm⟩ := hm
  have k2 := hy_needPlay (X := X) (d := d + 1) e2
  rcases w2 with c2 | v2
  · cases hm
    exact go_out (m' := 81) (as := [.ref th]) (rest := []) rfl (by simp only [ie_step, ie_iv, List.drop, zhp_obj (S := S1) b1 (by decide)]; rfl) ⟨rfl, Nat.le_of_ble_eq_true rfl⟩ rfl rfl k2
  replace hm := zcT_v hm
  refine go_call (m' := 81) (as := [.ref th]) (rest := []) (v := none) (h1 := zhp S2) rfl (by simp only [ie_step, ie_iv, List.drop, zhp_obj (S := S1) b1 (by decide)]; rfl) ⟨rfl, Nat.le_of_ble_eq_true rfl⟩ k2 ?_
  refine go_run 0 (F' := (8, [some (.ref th), some (.int x1), some (.int x2), none], [], zhp S2)) rfl ?_
  refine go_run 1 (F' := (9, [some (.ref th), some (.int x1), some (.int x2), none], [.ref th], zhp S2)) rfl ?_
  replace hm := zgd hm
  obtain ⟨b2, hm⟩ := hm
  replace hm := zlb_inv hm
  obtain ⟨o3, eo3, hm⟩ := hm
  refine go_hg (v := va_rf o3) rfl b2 (by decide) (by rw [← eo3]; rfl) ?_
  refine go_run 0 (F' := (12, [some (.ref th), some (.int x1), some (.int x2), none], [va_rf o3], zhp S2)) rfl ?_
  replace hm := zob_inv hm
  obtain ⟨a4, rfl, hm⟩ := hm
  replace hm := zgd hm
  obtain ⟨b3, hm⟩ := hm
  replace hm := zlb_inv hm
  obtain ⟨o5, eo5, hm⟩ := hm
  refine go_hg (v := va_rf o5) rfl b3 (by decide) (by rw [← eo5]; rfl) ?_
  refine go_run 1 (F' := (16, [some (.ref th), some (.int x1), some (.int x2), none], [.int x1, va_rf o5], zhp S2)) rfl ?_
  replace hm := zob_inv hm
  obtain ⟨a6, rfl, hm⟩ := hm
  replace hm := zgd hm
  obtain ⟨b4, hm⟩ := hm
  replace hm := zgd hm
  obtain ⟨b5, hm⟩ := hm
  replace hm := zlb_inv hm
  obtain ⟨o7, eo7, hm⟩ := hm
  refine go_haald rfl b4 b5 rfl eo7 ?_
  refine go_run 0 (F' := (17, [some (.ref th), some (.int x1), some (.int x2), none], [va_rf o7], zhp S2)) rfl ?_
  replace hm := zob_inv hm
  obtain ⟨a8, rfl, hm⟩ := hm
  replace hm := zgd hm
  obtain ⟨b6, hm⟩ := hm
  replace hm := zlb_inv hm
  obtain ⟨o9, eo9, hm⟩ := hm
  refine go_hg (v := va_rf o9) rfl b6 (by decide) (by rw [← eo9]; rfl) ?_
  refine go_run 0 (F' := (20, [some (.ref th), some (.int x1), some (.int x2), none], [va_rf o9], zhp S2)) rfl ?_
  refine go_as rfl ?_
  refine go_run 1 (F' := (22, [some (.ref th), some (.int x1), some (.int x2), some (va_rf o9)], [.int x2], zhp S2)) rfl ?_
  refine go_step rfl rfl ?_
  by_cases q7 : x2 < 0
  · rw [if_pos q7] at hm ⊢
    refine go_run 0 (F' := (33, [some (.ref th), some (.int x1), some (.int x2), some (va_rf o9)], [], zhp S2)) rfl ?_
    refine go_run 0 (F' := (33, [some (.ref th), some (.int x1), some (.int x2), some (va_rf o9)], [], zhp S2)) rfl ?_
    cases hm
    exact go_hexc rfl (by decide) (by decide)
  · rw [if_neg q7] at hm ⊢
    refine go_run 0 (F' := (25, [some (.ref th), some (.int x1), some (.int x2), some (va_rf o9)], [], zhp S2)) rfl ?_
    refine go_run 1 (F' := (26, [some (.ref th), some (.int x1), some (.int x2), some (va_rf o9)], [.int x2], zhp S2)) rfl ?_
    refine go_al rfl rfl ?_
    refine go_run 0 (F' := (27, [some (.ref th), some (.int x1), some (.int x2), some (va_rf o9)], [va_rf o9, .int x2], zhp S2)) rfl ?_
    replace hm := zob_inv hm
    obtain ⟨a10, rfl, hm⟩ := hm
    replace hm := zgd hm
    obtain ⟨b8, hm⟩ := hm
    refine go_hg (v := .int (zI S2 1 a10)) rfl b8 (by decide) rfl ?_
    refine go_run 0 (F' := (30, [some (.ref th), some (.int x1), some (.int x2), some (.ref a10)], [.int (zI S2 1 a10), .int x2], zhp S2)) rfl ?_
    refine go_step rfl rfl ?_
    by_cases q9 : x2 < zI S2 1 a10
    · rw [if_pos q9] at hm ⊢
      refine go_run 0 (F' := (41, [some (.ref th), some (.int x1), some (.int x2), some (.ref a10)], [], zhp S2)) rfl ?_
      refine go_run 1 (F' := (42, [some (.ref th), some (.int x1), some (.int x2), some (.ref a10)], [.ref a10], zhp S2)) rfl ?_
      replace hm := zlb_inv hm
      obtain ⟨o11, eo11, hm⟩ := hm
      refine go_hg (v := va_rf o11) rfl b8 (by decide) (by rw [← eo11]; rfl) ?_
      refine go_run 1 (F' := (46, [some (.ref th), some (.int x1), some (.int x2), some (.ref a10)], [.int x2, va_rf o11], zhp S2)) rfl ?_
      replace hm := zob_inv hm
      obtain ⟨a12, rfl, hm⟩ := hm
      replace hm := zgd hm
      obtain ⟨b10, hm⟩ := hm
      replace hm := zgd hm
      obtain ⟨b11, hm⟩ := hm
      refine go_hald1 rfl b10 b11 rfl rfl ?_
      refine go_run 0 (F' := (47, [some (.ref th), some (.int x1), some (.int x2), some (.ref a10)], [.int ((zAI S2 a12) (Int32.toNatClampNeg x2))], zhp S2)) rfl ?_
      cases hm
      exact go_end rfl rfl
    · rw [if_neg q9] at hm ⊢
      refine go_run 0 (F' := (33, [some (.ref th), some (.int x1), some (.int x2), some (.ref a10)], [], zhp S2)) rfl ?_
      refine go_run 0 (F' := (33, [some (.ref th), some (.int x1), some (.int x2), some (.ref a10)], [], zhp S2)) rfl ?_
      cases hm
      exact go_hexc rfl (by decide) (by decide)
theorem ehy_letter {th : Nat} {S : hS} {x1 : Int32} {x2 : Int32} {S' : hS} {r : Nat ⊕ Int32} (hm : y_letter S th x1 x2 = some (S', r)) : Ex S S' := by
  unfold y_letter at hm
  have hx : Ex S S := Ex_r
  replace hm := zcT_inv hm
  obtain ⟨S1, w1, e1, hm⟩ := hm
  have hx := Ex_t (T := S) hx (ehy_needParty e1)
  rcases w1 with c1 | v1
  · cases hm
    exact hx
  replace hm := zcT_v hm
  replace hm := zgd hm
  obtain ⟨b1, hm⟩ := hm
  replace hm := zcT_inv hm
  obtain ⟨S2, w2, e2, hm⟩ := hm
  have hx := Ex_t (T := S1) hx (ehy_needPlay e2)
  rcases w2 with c2 | v2
  · cases hm
    exact hx
  replace hm := zcT_v hm
  replace hm := zgd hm
  obtain ⟨b2, hm⟩ := hm
  replace hm := zlb_inv hm
  obtain ⟨o3, eo3, hm⟩ := hm
  replace hm := zob_inv hm
  obtain ⟨a4, rfl, hm⟩ := hm
  replace hm := zgd hm
  obtain ⟨b3, hm⟩ := hm
  replace hm := zlb_inv hm
  obtain ⟨o5, eo5, hm⟩ := hm
  replace hm := zob_inv hm
  obtain ⟨a6, rfl, hm⟩ := hm
  replace hm := zgd hm
  obtain ⟨b4, hm⟩ := hm
  replace hm := zgd hm
  obtain ⟨b5, hm⟩ := hm
  replace hm := zlb_inv hm
  obtain ⟨o7, eo7, hm⟩ := hm
  replace hm := zob_inv hm
  obtain ⟨a8, rfl, hm⟩ := hm
  replace hm := zgd hm
  obtain ⟨b6, hm⟩ := hm
  replace hm := zlb_inv hm
  obtain ⟨o9, eo9, hm⟩ := hm
  by_cases q7 : x2 < 0
  · rw [if_pos q7] at hm
    cases hm
    exact Ex_t hx Ex_ex
  · rw [if_neg q7] at hm
    replace hm := zob_inv hm
    obtain ⟨a10, rfl, hm⟩ := hm
    replace hm := zgd hm
    obtain ⟨b8, hm⟩ := hm
    by_cases q9 : x2 < zI S2 1 a10
    · rw [if_pos q9] at hm
      replace hm := zlb_inv hm
      obtain ⟨o11, eo11, hm⟩ := hm
      replace hm := zob_inv hm
      obtain ⟨a12, rfl, hm⟩ := hm
      replace hm := zgd hm
      obtain ⟨b10, hm⟩ := hm
      replace hm := zgd hm
      obtain ⟨b11, hm⟩ := hm
      cases hm
      exact hx
    · rw [if_neg q9] at hm
      cases hm
      exact Ex_t hx Ex_ex
def y_needVariable (S : hS) (x1 : Int32) (x2 : Int32) : Option (hS × (Nat ⊕ Int32)) := (if ty_b (rd_rp x1) = 0 then (some (szEx S 14, .inl 14)) else (if x2 < 0 then (some (szEx S 14, .inl 14)) else (if x2 < 4 then (some (S, .inr 0)) else (some (szEx S 14, .inl 14)))))
theorem hy_needVariable {X : ie_X} {d : Nat} {S : hS} {x1 : Int32} {x2 : Int32} {S' : hS} {r : Nat ⊕ Int32} (hm : y_needVariable S x1 x2 = some (S', r)) : Go X (d + 1) 86 (0, ie_en 86 [.int x1, .int x2], [], zhp S) (roV r) (zhp S') := by
  unfold y_needVariable at hm
  refine go_run 0 (F' := (0, [some (.int x1), some (.int x2)], [], zhp S)) rfl ?_
  refine go_run 1 (F' := (1, [some (.int x1), some (.int x2)], [.int x1], zhp S)) rfl ?_
  refine go_call (m' := 33) (as := [.int x1]) (rest := []) (v := some (.int (ty_b (rd_rp x1)))) (h1 := zhp S) rfl rfl ⟨rfl, Nat.le_of_ble_eq_true rfl⟩ (rd_isParty _) ?_
  refine go_run 0 (F' := (4, [some (.int x1), some (.int x2)], [.int (ty_b (rd_rp x1))], zhp S)) rfl ?_
  refine go_run 0 (F' := (4, [some (.int x1), some (.int x2)], [.int (ty_b (rd_rp x1))], zhp S)) rfl ?_
  refine go_step rfl rfl ?_
  by_cases q1 : ty_b (rd_rp x1) = 0
  · rw [if_pos q1] at hm ⊢
    refine go_run 0 (F' := (16, [some (.int x1), some (.int x2)], [], zhp S)) rfl ?_
    refine go_run 0 (F' := (16, [some (.int x1), some (.int x2)], [], zhp S)) rfl ?_
    cases hm
    exact go_hexc rfl (by decide) (by decide)
  · rw [if_neg q1] at hm ⊢
    refine go_run 0 (F' := (7, [some (.int x1), some (.int x2)], [], zhp S)) rfl ?_
    refine go_run 1 (F' := (8, [some (.int x1), some (.int x2)], [.int x2], zhp S)) rfl ?_
    refine go_step rfl rfl ?_
    by_cases q2 : x2 < 0
    · rw [if_pos q2] at hm ⊢
      refine go_run 0 (F' := (16, [some (.int x1), some (.int x2)], [], zhp S)) rfl ?_
      refine go_run 0 (F' := (16, [some (.int x1), some (.int x2)], [], zhp S)) rfl ?_
      cases hm
      exact go_hexc rfl (by decide) (by decide)
    · rw [if_neg q2] at hm ⊢
      refine go_run 0 (F' := (11, [some (.int x1), some (.int x2)], [], zhp S)) rfl ?_
      refine go_run 2 (F' := (13, [some (.int x1), some (.int x2)], [.int 4, .int x2], zhp S)) rfl ?_
      refine go_step rfl rfl ?_
      by_cases q3 : x2 < 4
      · rw [if_pos q3] at hm ⊢
        refine go_run 0 (F' := (24, [some (.int x1), some (.int x2)], [], zhp S)) rfl ?_
        refine go_run 0 (F' := (24, [some (.int x1), some (.int x2)], [], zhp S)) rfl ?_
        cases hm
        exact go_end rfl rfl
      · rw [if_neg q3] at hm ⊢
        refine go_run 0 (F' := (16, [some (.int x1), some (.int x2)], [], zhp S)) rfl ?_
        refine go_run 0 (F' := (16, [some (.int x1), some (.int x2)], [], zhp S)) rfl ?_
        cases hm
        exact go_hexc rfl (by decide) (by decide)
theorem ehy_needVariable {S : hS} {x1 : Int32} {x2 : Int32} {S' : hS} {r : Nat ⊕ Int32} (hm : y_needVariable S x1 x2 = some (S', r)) : Ex S S' := by
  unfold y_needVariable at hm
  have hx : Ex S S := Ex_r
  by_cases q1 : ty_b (rd_rp x1) = 0
  · rw [if_pos q1] at hm
    cases hm
    exact Ex_t hx Ex_ex
  · rw [if_neg q1] at hm
    by_cases q2 : x2 < 0
    · rw [if_pos q2] at hm
      cases hm
      exact Ex_t hx Ex_ex
    · rw [if_neg q2] at hm
      by_cases q3 : x2 < 4
      · rw [if_pos q3] at hm
        cases hm
        exact hx
      · rw [if_neg q3] at hm
        cases hm
        exact Ex_t hx Ex_ex
def y_needNoStep (S : hS) (th : Nat) : Option (hS × (Nat ⊕ Int32)) := (if ztg S th = 1 then (zlb (zR S 4 th) fun o1 => (zoc o1 (some (szEx S 12, .inl 12)) fun a2 => (zlb (zR S 5 th) fun o3 => (zob o3 fun a4 => (if ztg S a4 = 9 then (if zI S 5 a4 = 0 then (some (S, .inr 0)) else (some (szEx S 12, .inl 12))) else none))))) else none)
theorem hy_needNoStep {X : ie_X} {d th : Nat} {S : hS} {S' : hS} {r : Nat ⊕ Int32} (hm : y_needNoStep S th = some (S', r)) : Go X (d + 0) 87 (0, ie_en 87 [.ref th], [], zhp S) (roV r) (zhp S') := by
  unfold y_needNoStep at hm
  refine go_run 0 (F' := (0, [some (.ref th)], [], zhp S)) rfl ?_
  refine go_run 1 (F' := (1, [some (.ref th)], [.ref th], zhp S)) rfl ?_
  replace hm := zgd hm
  obtain ⟨b1, hm⟩ := hm
  replace hm := zlb_inv hm
  obtain ⟨o1, eo1, hm⟩ := hm
  refine go_hg (v := va_rf o1) rfl b1 (by decide) (by rw [← eo1]; rfl) ?_
  refine go_run 0 (F' := (4, [some (.ref th)], [va_rf o1], zhp S)) rfl ?_
  cases o1 with
  | none =>
    replace hm := zoc_n hm
    refine go_step rfl rfl ?_
    refine go_run 0 (F' := (17, [some (.ref th)], [], zhp S)) rfl ?_
    refine go_run 0 (F' := (17, [some (.ref th)], [], zhp S)) rfl ?_
    cases hm
    exact go_hexc rfl (by decide) (by decide)
  | some a2 =>
    replace hm := zoc_s hm
    refine go_step rfl rfl ?_
    refine go_run 0 (F' := (7, [some (.ref th)], [], zhp S)) rfl ?_
    refine go_run 1 (F' := (8, [some (.ref th)], [.ref th], zhp S)) rfl ?_
    replace hm := zlb_inv hm
    obtain ⟨o3, eo3, hm⟩ := hm
    refine go_hg (v := va_rf o3) rfl b1 (by decide) (by rw [← eo3]; rfl) ?_
    refine go_run 0 (F' := (11, [some (.ref th)], [va_rf o3], zhp S)) rfl ?_
    replace hm := zob_inv hm
    obtain ⟨a4, rfl, hm⟩ := hm
    replace hm := zgd hm
    obtain ⟨b2, hm⟩ := hm
    refine go_hg (v := .int (zI S 5 a4)) rfl b2 (by decide) rfl ?_
    refine go_run 0 (F' := (14, [some (.ref th)], [.int (zI S 5 a4)], zhp S)) rfl ?_
    refine go_step rfl rfl ?_
    by_cases q3 : zI S 5 a4 = 0
    · rw [if_pos q3] at hm ⊢
      refine go_run 0 (F' := (25, [some (.ref th)], [], zhp S)) rfl ?_
      refine go_run 0 (F' := (25, [some (.ref th)], [], zhp S)) rfl ?_
      cases hm
      exact go_end rfl rfl
    · rw [if_neg q3] at hm ⊢
      refine go_run 0 (F' := (17, [some (.ref th)], [], zhp S)) rfl ?_
      refine go_run 0 (F' := (17, [some (.ref th)], [], zhp S)) rfl ?_
      cases hm
      exact go_hexc rfl (by decide) (by decide)
theorem ehy_needNoStep {th : Nat} {S : hS} {S' : hS} {r : Nat ⊕ Int32} (hm : y_needNoStep S th = some (S', r)) : Ex S S' := by
  unfold y_needNoStep at hm
  have hx : Ex S S := Ex_r
  replace hm := zgd hm
  obtain ⟨b1, hm⟩ := hm
  replace hm := zlb_inv hm
  obtain ⟨o1, eo1, hm⟩ := hm
  cases o1 with
  | none =>
    replace hm := zoc_n hm
    cases hm
    exact Ex_t hx Ex_ex
  | some a2 =>
    replace hm := zoc_s hm
    replace hm := zlb_inv hm
    obtain ⟨o3, eo3, hm⟩ := hm
    replace hm := zob_inv hm
    obtain ⟨a4, rfl, hm⟩ := hm
    replace hm := zgd hm
    obtain ⟨b2, hm⟩ := hm
    by_cases q3 : zI S 5 a4 = 0
    · rw [if_pos q3] at hm
      cases hm
      exact hx
    · rw [if_neg q3] at hm
      cases hm
      exact Ex_t hx Ex_ex
def y_indexOf (a1 : Int32) (a2 : Int32) : Int32 := (a1 * 4) + a2
theorem hy_indexOf {X : ie_X} {d : Nat} {h : ie_H} (a1 : Int32) (a2 : Int32) : Go X (d + 0) 88 (0, ie_en 88 [.int a1, .int a2], [], h) (.inl (some (.int (y_indexOf a1 a2)))) h := by
  generalize hm : y_indexOf a1 a2 = r
  unfold y_indexOf at hm
  refine go_run 0 (F' := (0, [some (.int a1), some (.int a2)], [], h)) rfl ?_
  refine go_run 5 (F' := (5, [some (.int a1), some (.int a2)], [.int ((a1 * 4) + a2)], h)) rfl ?_
  (cases hm; exact go_end rfl rfl)
def y_input (S : hS) (th : Nat) (x1 : Int32) (x2 : Int32) (x3 : Int32) : Option (hS × (Nat ⊕ Int32)) := (zcT (y_needVariable S x1 x2) fun S1 v1 => (if ztg S1 th = 1 then (zcT (y_needNoStep S1 th) fun S2 v2 => (if ztg S2 th = 1 then (zlb (zR S2 5 th) fun o3 => (zob o3 fun a4 => (if ztg S2 a4 = 9 then (zlb (zR S2 2 a4) fun o5 => (zob o5 fun a6 => (if ztg S2 a6 = 20 then (if ib (y_indexOf x1 x2) (zLen S2 a6) then (zlb (zR S2 5 th) fun o7 => (zob o7 fun a8 => (if ztg S2 a8 = 9 then (zlb (zR S2 2 a8) fun o9 => (zob o9 fun a10 => (if ztg S2 a10 = 20 then (if ib (y_indexOf x1 x2) (zLen S2 a10) then (zlb (zR S2 5 th) fun o11 => (zob o11 fun a12 => (if ztg S2 a12 = 9 then (zlb (zR S2 3 a12) fun o13 => (zob o13 fun a14 => (if ztg S2 a14 = 20 then (if ib (y_indexOf x1 x2) (zLen S2 a14) then (some (szAI (szAI S2 a10 (upd (zAI S2 a10) (Int32.toNatClampNeg (y_indexOf x1 x2)) x3)) a14 (upd (zAI (szAI S2 a10 (upd (zAI S2 a10) (Int32.toNatClampNeg (y_indexOf x1 x2)) x3)) a14) (Int32.toNatClampNeg (y_indexOf x1 x2)) x3), .inr ((zAI S2 a6) (Int32.toNatClampNeg (y_indexOf x1 x2))))) else none) else none))) else none))) else none) else none))) else none))) else none) else none))) else none))) else none)) else none))
theorem hy_input {X : ie_X} {d th : Nat} {S : hS} {x1 : Int32} {x2 : Int32} {x3 : Int32} {S' : hS} {r : Nat ⊕ Int32} (hm : y_input S th x1 x2 x3 = some (S', r)) : Go X (d + 2) 85 (0, ie_en 85 [.ref th, .int x1, .int x2, .int x3], [], zhp S) (roI r) (zhp S') := by
  unfold y_input at hm
  refine go_run 0 (F' := (0, [some (.ref th), some (.int x1), some (.int x2), some (.int x3), none, none], [], zhp S)) rfl ?_
  refine go_run 2 (F' := (2, [some (.ref th), some (.int x1), some (.int x2), some (.int x3), none, none], [.int x2, .int x1], zhp S)) rfl ?_
  replace hm := zcT_inv hm
  obtain ⟨S1, w1, e1, hm⟩ := hm
  have k1 := hy_needVariable (X := X) (d := d) e1
  rcases w1 with c1 | v1
  · cases hm
    exact go_out (m' := 86) (as := [.int x1, .int x2]) (rest := []) rfl rfl ⟨rfl, Nat.le_of_ble_eq_true rfl⟩ rfl rfl k1
  replace hm := zcT_v hm
  refine go_call (m' := 86) (as := [.int x1, .int x2]) (rest := []) (v := none) (h1 := zhp S1) rfl rfl ⟨rfl, Nat.le_of_ble_eq_true rfl⟩ k1 ?_
  refine go_run 0 (F' := (5, [some (.ref th), some (.int x1), some (.int x2), some (.int x3), none, none], [], zhp S1)) rfl ?_
  refine go_run 1 (F' := (6, [some (.ref th), some (.int x1), some (.int x2), some (.int x3), none, none], [.ref th], zhp S1)) rfl ?_
  replace hm := zgd hm
  obtain ⟨b1, hm⟩ := hm
  replace hm := zcT_inv hm
  obtain ⟨S2, w2, e2, hm⟩ := hm
  have k2 := hy_needNoStep (X := X) (d := d + 1) e2
  rcases w2 with c2 | v2
  · cases hm
    exact go_out (m' := 87) (as := [.ref th]) (rest := []) rfl (by simp only [ie_step, ie_iv, List.drop, zhp_obj (S := S1) b1 (by decide)]; rfl) ⟨rfl, Nat.le_of_ble_eq_true rfl⟩ rfl rfl k2
  replace hm := zcT_v hm
  refine go_call (m' := 87) (as := [.ref th]) (rest := []) (v := none) (h1 := zhp S2) rfl (by simp only [ie_step, ie_iv, List.drop, zhp_obj (S := S1) b1 (by decide)]; rfl) ⟨rfl, Nat.le_of_ble_eq_true rfl⟩ k2 ?_
  refine go_run 0 (F' := (9, [some (.ref th), some (.int x1), some (.int x2), some (.int x3), none, none], [], zhp S2)) rfl ?_
  refine go_run 2 (F' := (11, [some (.ref th), some (.int x1), some (.int x2), some (.int x3), none, none], [.int x2, .int x1], zhp S2)) rfl ?_
  refine go_call (m' := 88) (as := [.int x1, .int x2]) (rest := []) (v := some (.int (y_indexOf x1 x2))) (h1 := zhp S2) rfl rfl ⟨rfl, Nat.le_of_ble_eq_true rfl⟩ (hy_indexOf _ _) ?_
  refine go_run 0 (F' := (14, [some (.ref th), some (.int x1), some (.int x2), some (.int x3), none, none], [.int (y_indexOf x1 x2)], zhp S2)) rfl ?_
  refine go_run 2 (F' := (17, [some (.ref th), some (.int x1), some (.int x2), some (.int x3), some (.int (y_indexOf x1 x2)), none], [.ref th], zhp S2)) rfl ?_
  replace hm := zgd hm
  obtain ⟨b2, hm⟩ := hm
  replace hm := zlb_inv hm
  obtain ⟨o3, eo3, hm⟩ := hm
  refine go_hg (v := va_rf o3) rfl b2 (by decide) (by rw [← eo3]; rfl) ?_
  refine go_run 0 (F' := (20, [some (.ref th), some (.int x1), some (.int x2), some (.int x3), some (.int (y_indexOf x1 x2)), none], [va_rf o3], zhp S2)) rfl ?_
  replace hm := zob_inv hm
  obtain ⟨a4, rfl, hm⟩ := hm
  replace hm := zgd hm
  obtain ⟨b3, hm⟩ := hm
  replace hm := zlb_inv hm
  obtain ⟨o5, eo5, hm⟩ := hm
  refine go_hg (v := va_rf o5) rfl b3 (by decide) (by rw [← eo5]; rfl) ?_
  refine go_run 1 (F' := (25, [some (.ref th), some (.int x1), some (.int x2), some (.int x3), some (.int (y_indexOf x1 x2)), none], [.int (y_indexOf x1 x2), va_rf o5], zhp S2)) rfl ?_
  replace hm := zob_inv hm
  obtain ⟨a6, rfl, hm⟩ := hm
  replace hm := zgd hm
  obtain ⟨b4, hm⟩ := hm
  replace hm := zgd hm
  obtain ⟨b5, hm⟩ := hm
  refine go_hald0 rfl b4 b5 rfl rfl ?_
  refine go_run 2 (F' := (29, [some (.ref th), some (.int x1), some (.int x2), some (.int x3), some (.int (y_indexOf x1 x2)), some (.int ((zAI S2 a6) (Int32.toNatClampNeg (y_indexOf x1 x2))))], [.ref th], zhp S2)) rfl ?_
  replace hm := zlb_inv hm
  obtain ⟨o7, eo7, hm⟩ := hm
  refine go_hg (v := va_rf o7) rfl b2 (by decide) (by rw [← eo7]; rfl) ?_
  refine go_run 0 (F' := (32, [some (.ref th), some (.int x1), some (.int x2), some (.int x3), some (.int (y_indexOf x1 x2)), some (.int ((zAI S2 a6) (Int32.toNatClampNeg (y_indexOf x1 x2))))], [va_rf o7], zhp S2)) rfl ?_
  replace hm := zob_inv hm
  obtain ⟨a8, rfl, hm⟩ := hm
  replace hm := zgd hm
  obtain ⟨b6, hm⟩ := hm
  replace hm := zlb_inv hm
  obtain ⟨o9, eo9, hm⟩ := hm
  refine go_hg (v := va_rf o9) rfl b6 (by decide) (by rw [← eo9]; rfl) ?_
  refine go_run 2 (F' := (38, [some (.ref th), some (.int x1), some (.int x2), some (.int x3), some (.int (y_indexOf x1 x2)), some (.int ((zAI S2 a6) (Int32.toNatClampNeg (y_indexOf x1 x2))))], [.int x3, .int (y_indexOf x1 x2), va_rf o9], zhp S2)) rfl ?_
  replace hm := zob_inv hm
  obtain ⟨a10, rfl, hm⟩ := hm
  replace hm := zgd hm
  obtain ⟨b7, hm⟩ := hm
  replace hm := zgd hm
  obtain ⟨b8, hm⟩ := hm
  refine go_hast0 rfl b7 b8 rfl rfl ?_
  refine go_run 1 (F' := (40, [some (.ref th), some (.int x1), some (.int x2), some (.int x3), some (.int (y_indexOf x1 x2)), some (.int ((zAI S2 a6) (Int32.toNatClampNeg (y_indexOf x1 x2))))], [.ref th], zhp (szAI S2 a10 (upd (zAI S2 a10) (Int32.toNatClampNeg (y_indexOf x1 x2)) x3)))) rfl ?_
  replace hm := zlb_inv hm
  obtain ⟨o11, eo11, hm⟩ := hm
  refine go_hg (v := va_rf o11) rfl b2 (by decide) (by rw [← eo11]; rfl) ?_
  refine go_run 0 (F' := (43, [some (.ref th), some (.int x1), some (.int x2), some (.int x3), some (.int (y_indexOf x1 x2)), some (.int ((zAI S2 a6) (Int32.toNatClampNeg (y_indexOf x1 x2))))], [va_rf o11], zhp (szAI S2 a10 (upd (zAI S2 a10) (Int32.toNatClampNeg (y_indexOf x1 x2)) x3)))) rfl ?_
  replace hm := zob_inv hm
  obtain ⟨a12, rfl, hm⟩ := hm
  replace hm := zgd hm
  obtain ⟨b9, hm⟩ := hm
  replace hm := zlb_inv hm
  obtain ⟨o13, eo13, hm⟩ := hm
  refine go_hg (v := va_rf o13) rfl b9 (by decide) (by rw [← eo13]; rfl) ?_
  refine go_run 2 (F' := (49, [some (.ref th), some (.int x1), some (.int x2), some (.int x3), some (.int (y_indexOf x1 x2)), some (.int ((zAI S2 a6) (Int32.toNatClampNeg (y_indexOf x1 x2))))], [.int x3, .int (y_indexOf x1 x2), va_rf o13], zhp (szAI S2 a10 (upd (zAI S2 a10) (Int32.toNatClampNeg (y_indexOf x1 x2)) x3)))) rfl ?_
  replace hm := zob_inv hm
  obtain ⟨a14, rfl, hm⟩ := hm
  replace hm := zgd hm
  obtain ⟨b10, hm⟩ := hm
  replace hm := zgd hm
  obtain ⟨b11, hm⟩ := hm
  refine go_hast0 rfl b10 b11 rfl rfl ?_
  refine go_run 1 (F' := (52, [some (.ref th), some (.int x1), some (.int x2), some (.int x3), some (.int (y_indexOf x1 x2)), some (.int ((zAI S2 a6) (Int32.toNatClampNeg (y_indexOf x1 x2))))], [.int ((zAI S2 a6) (Int32.toNatClampNeg (y_indexOf x1 x2)))], zhp (szAI (szAI S2 a10 (upd (zAI S2 a10) (Int32.toNatClampNeg (y_indexOf x1 x2)) x3)) a14 (upd (zAI (szAI S2 a10 (upd (zAI S2 a10) (Int32.toNatClampNeg (y_indexOf x1 x2)) x3)) a14) (Int32.toNatClampNeg (y_indexOf x1 x2)) x3)))) rfl ?_
  cases hm
  exact go_end rfl rfl
theorem ehy_input {th : Nat} {S : hS} {x1 : Int32} {x2 : Int32} {x3 : Int32} {S' : hS} {r : Nat ⊕ Int32} (hm : y_input S th x1 x2 x3 = some (S', r)) : Ex S S' := by
  unfold y_input at hm
  have hx : Ex S S := Ex_r
  replace hm := zcT_inv hm
  obtain ⟨S1, w1, e1, hm⟩ := hm
  have hx := Ex_t (T := S) hx (ehy_needVariable e1)
  rcases w1 with c1 | v1
  · cases hm
    exact hx
  replace hm := zcT_v hm
  replace hm := zgd hm
  obtain ⟨b1, hm⟩ := hm
  replace hm := zcT_inv hm
  obtain ⟨S2, w2, e2, hm⟩ := hm
  have hx := Ex_t (T := S1) hx (ehy_needNoStep e2)
  rcases w2 with c2 | v2
  · cases hm
    exact hx
  replace hm := zcT_v hm
  replace hm := zgd hm
  obtain ⟨b2, hm⟩ := hm
  replace hm := zlb_inv hm
  obtain ⟨o3, eo3, hm⟩ := hm
  replace hm := zob_inv hm
  obtain ⟨a4, rfl, hm⟩ := hm
  replace hm := zgd hm
  obtain ⟨b3, hm⟩ := hm
  replace hm := zlb_inv hm
  obtain ⟨o5, eo5, hm⟩ := hm
  replace hm := zob_inv hm
  obtain ⟨a6, rfl, hm⟩ := hm
  replace hm := zgd hm
  obtain ⟨b4, hm⟩ := hm
  replace hm := zgd hm
  obtain ⟨b5, hm⟩ := hm
  replace hm := zlb_inv hm
  obtain ⟨o7, eo7, hm⟩ := hm
  replace hm := zob_inv hm
  obtain ⟨a8, rfl, hm⟩ := hm
  replace hm := zgd hm
  obtain ⟨b6, hm⟩ := hm
  replace hm := zlb_inv hm
  obtain ⟨o9, eo9, hm⟩ := hm
  replace hm := zob_inv hm
  obtain ⟨a10, rfl, hm⟩ := hm
  replace hm := zgd hm
  obtain ⟨b7, hm⟩ := hm
  replace hm := zgd hm
  obtain ⟨b8, hm⟩ := hm
  replace hm := zlb_inv hm
  obtain ⟨o11, eo11, hm⟩ := hm
  replace hm := zob_inv hm
  obtain ⟨a12, rfl, hm⟩ := hm
  replace hm := zgd hm
  obtain ⟨b9, hm⟩ := hm
  replace hm := zlb_inv hm
  obtain ⟨o13, eo13, hm⟩ := hm
  replace hm := zob_inv hm
  obtain ⟨a14, rfl, hm⟩ := hm
  replace hm := zgd hm
  obtain ⟨b10, hm⟩ := hm
  replace hm := zgd hm
  obtain ⟨b11, hm⟩ := hm
  cases hm
  exact hx
def y_room (S : hS) (th : Nat) (x1 : Int32) : Option (hS × (Nat ⊕ Int32)) := (if x1 < 1 then (some (szEx S 11, .inl 11)) else (if x1 ≤ 8 then (if ztg S th = 1 then (zcT (y_needNoStep S th) fun S1 v1 => (if ztg S1 th = 1 then (zlb (zR S1 5 th) fun o2 => (zob o2 fun a3 => (if ztg S1 a3 = 9 then (some (szI S1 4 a3 x1, .inr 0)) else none))) else none)) else none) else (some (szEx S 11, .inl 11))))
theorem hy_room {X : ie_X} {d th : Nat} {S : hS} {x1 : Int32} {S' : hS} {r : Nat ⊕ Int32} (hm : y_room S th x1 = some (S', r)) : Go X (d + 1) 90 (0, ie_en 90 [.ref th, .int x1], [], zhp S) (roV r) (zhp S') := by
  unfold y_room at hm
  refine go_run 0 (F' := (0, [some (.ref th), some (.int x1)], [], zhp S)) rfl ?_
  refine go_run 2 (F' := (2, [some (.ref th), some (.int x1)], [.int 1, .int x1], zhp S)) rfl ?_
  refine go_step rfl rfl ?_
  by_cases q1 : x1 < 1
  · rw [if_pos q1] at hm ⊢
    refine go_run 0 (F' := (11, [some (.ref th), some (.int x1)], [], zhp S)) rfl ?_
    refine go_run 0 (F' := (11, [some (.ref th), some (.int x1)], [], zhp S)) rfl ?_
    cases hm
    exact go_hexc rfl (by decide) (by decide)
  · rw [if_neg q1] at hm ⊢
    refine go_run 0 (F' := (5, [some (.ref th), some (.int x1)], [], zhp S)) rfl ?_
    refine go_run 2 (F' := (8, [some (.ref th), some (.int x1)], [.int 8, .int x1], zhp S)) rfl ?_
    refine go_step rfl rfl ?_
    by_cases q2 : x1 ≤ 8
    · rw [if_pos q2] at hm ⊢
      refine go_run 0 (F' := (19, [some (.ref th), some (.int x1)], [], zhp S)) rfl ?_
      refine go_run 1 (F' := (20, [some (.ref th), some (.int x1)], [.ref th], zhp S)) rfl ?_
      replace hm := zgd hm
      obtain ⟨b3, hm⟩ := hm
      replace hm := zcT_inv hm
      obtain ⟨S1, w1, e1, hm⟩ := hm
      have k1 := hy_needNoStep (X := X) (d := d) e1
      rcases w1 with c1 | v1
      · cases hm
        exact go_out (m' := 87) (as := [.ref th]) (rest := []) rfl (by simp only [ie_step, ie_iv, List.drop, zhp_obj (S := S) b3 (by decide)]; rfl) ⟨rfl, Nat.le_of_ble_eq_true rfl⟩ rfl rfl k1
      replace hm := zcT_v hm
      refine go_call (m' := 87) (as := [.ref th]) (rest := []) (v := none) (h1 := zhp S1) rfl (by simp only [ie_step, ie_iv, List.drop, zhp_obj (S := S) b3 (by decide)]; rfl) ⟨rfl, Nat.le_of_ble_eq_true rfl⟩ k1 ?_
      refine go_run 0 (F' := (23, [some (.ref th), some (.int x1)], [], zhp S1)) rfl ?_
      refine go_run 1 (F' := (24, [some (.ref th), some (.int x1)], [.ref th], zhp S1)) rfl ?_
      replace hm := zgd hm
      obtain ⟨b4, hm⟩ := hm
      replace hm := zlb_inv hm
      obtain ⟨o2, eo2, hm⟩ := hm
      refine go_hg (v := va_rf o2) rfl b4 (by decide) (by rw [← eo2]; rfl) ?_
      refine go_run 1 (F' := (28, [some (.ref th), some (.int x1)], [.int x1, va_rf o2], zhp S1)) rfl ?_
      replace hm := zob_inv hm
      obtain ⟨a3, rfl, hm⟩ := hm
      replace hm := zgd hm
      obtain ⟨b5, hm⟩ := hm
      refine go_hpI rfl b5 (by decide) rfl (Nat.le_of_ble_eq_true rfl) fs_8_4 ?_
      refine go_run 0 (F' := (31, [some (.ref th), some (.int x1)], [], zhp (szI S1 4 a3 x1))) rfl ?_
      cases hm
      exact go_end rfl rfl
    · rw [if_neg q2] at hm ⊢
      refine go_run 0 (F' := (11, [some (.ref th), some (.int x1)], [], zhp S)) rfl ?_
      refine go_run 0 (F' := (11, [some (.ref th), some (.int x1)], [], zhp S)) rfl ?_
      cases hm
      exact go_hexc rfl (by decide) (by decide)
theorem ehy_room {th : Nat} {S : hS} {x1 : Int32} {S' : hS} {r : Nat ⊕ Int32} (hm : y_room S th x1 = some (S', r)) : Ex S S' := by
  unfold y_room at hm
  have hx : Ex S S := Ex_r
  by_cases q1 : x1 < 1
  · rw [if_pos q1] at hm
    cases hm
    exact Ex_t hx Ex_ex
  · rw [if_neg q1] at hm
    by_cases q2 : x1 ≤ 8
    · rw [if_pos q2] at hm
      replace hm := zgd hm
      obtain ⟨b3, hm⟩ := hm
      replace hm := zcT_inv hm
      obtain ⟨S1, w1, e1, hm⟩ := hm
      have hx := Ex_t (T := S) hx (ehy_needNoStep e1)
      rcases w1 with c1 | v1
      · cases hm
        exact hx
      replace hm := zcT_v hm
      replace hm := zgd hm
      obtain ⟨b4, hm⟩ := hm
      replace hm := zlb_inv hm
      obtain ⟨o2, eo2, hm⟩ := hm
      replace hm := zob_inv hm
      obtain ⟨a3, rfl, hm⟩ := hm
      replace hm := zgd hm
      obtain ⟨b5, hm⟩ := hm
      cases hm
      exact hx
    · rw [if_neg q2] at hm
      cases hm
      exact Ex_t hx Ex_ex
def y_reset (n : Nat) (S : hS) (th : Nat) : Option (hS × (Nat ⊕ Int32)) := (if ztg S th = 1 then (zcT (y_needPlay S th) fun S1 v1 => (if ztg S1 th = 1 then (zlb (zR S1 5 th) fun o2 => (zob o2 fun a3 => (if ztg S1 a3 = 9 then (zcV (yT_beginAgain n S1 a3) fun S4 => (some (S4, .inr 0))) else none))) else none)) else none)
theorem hy_reset {X : ie_X} {d th : Nat} {n : Nat} {S : hS} {S' : hS} {r : Nat ⊕ Int32} (hm : y_reset n S th = some (S', r)) : Go X (d + 2) 92 (0, ie_en 92 [.ref th], [], zhp S) (roV r) (zhp S') := by
  unfold y_reset at hm
  refine go_run 0 (F' := (0, [some (.ref th)], [], zhp S)) rfl ?_
  refine go_run 1 (F' := (1, [some (.ref th)], [.ref th], zhp S)) rfl ?_
  replace hm := zgd hm
  obtain ⟨b1, hm⟩ := hm
  replace hm := zcT_inv hm
  obtain ⟨S1, w1, e1, hm⟩ := hm
  have k1 := hy_needPlay (X := X) (d := d + 1) e1
  rcases w1 with c1 | v1
  · cases hm
    exact go_out (m' := 81) (as := [.ref th]) (rest := []) rfl (by simp only [ie_step, ie_iv, List.drop, zhp_obj (S := S) b1 (by decide)]; rfl) ⟨rfl, Nat.le_of_ble_eq_true rfl⟩ rfl rfl k1
  replace hm := zcT_v hm
  refine go_call (m' := 81) (as := [.ref th]) (rest := []) (v := none) (h1 := zhp S1) rfl (by simp only [ie_step, ie_iv, List.drop, zhp_obj (S := S) b1 (by decide)]; rfl) ⟨rfl, Nat.le_of_ble_eq_true rfl⟩ k1 ?_
  refine go_run 0 (F' := (4, [some (.ref th)], [], zhp S1)) rfl ?_
  refine go_run 1 (F' := (5, [some (.ref th)], [.ref th], zhp S1)) rfl ?_
  replace hm := zgd hm
  obtain ⟨b2, hm⟩ := hm
  replace hm := zlb_inv hm
  obtain ⟨o2, eo2, hm⟩ := hm
  refine go_hg (v := va_rf o2) rfl b2 (by decide) (by rw [← eo2]; rfl) ?_
  refine go_run 0 (F' := (8, [some (.ref th)], [va_rf o2], zhp S1)) rfl ?_
  replace hm := zob_inv hm
  obtain ⟨a3, rfl, hm⟩ := hm
  refine go_run 0 (F' := (8, [some (.ref th)], [.ref a3], zhp S1)) rfl ?_
  replace hm := zgd hm
  obtain ⟨b3, hm⟩ := hm
  replace hm := zcV_inv hm
  obtain ⟨S4, e4, hm⟩ := hm
  have k4 := hyT_beginAgain (X := X) (d := d) e4
  refine go_call (m' := 76) (as := [.ref a3]) (rest := []) (v := none) (h1 := zhp S4) rfl (by simp only [ie_step, ie_iv, List.drop, zhp_obj (S := S1) b3 (by decide)]; rfl) ⟨rfl, Nat.le_of_ble_eq_true rfl⟩ k4 ?_
  refine go_run 0 (F' := (11, [some (.ref th)], [], zhp S4)) rfl ?_
  refine go_run 0 (F' := (11, [some (.ref th)], [], zhp S4)) rfl ?_
  cases hm
  exact go_end rfl rfl
theorem ehy_reset {th : Nat} {n : Nat} {S : hS} {S' : hS} {r : Nat ⊕ Int32} (hm : y_reset n S th = some (S', r)) : Ex S S' := by
  unfold y_reset at hm
  have hx : Ex S S := Ex_r
  replace hm := zgd hm
  obtain ⟨b1, hm⟩ := hm
  replace hm := zcT_inv hm
  obtain ⟨S1, w1, e1, hm⟩ := hm
  have hx := Ex_t (T := S) hx (ehy_needPlay e1)
  rcases w1 with c1 | v1
  · cases hm
    exact hx
  replace hm := zcT_v hm
  replace hm := zgd hm
  obtain ⟨b2, hm⟩ := hm
  replace hm := zlb_inv hm
  obtain ⟨o2, eo2, hm⟩ := hm
  replace hm := zob_inv hm
  obtain ⟨a3, rfl, hm⟩ := hm
  replace hm := zgd hm
  obtain ⟨b3, hm⟩ := hm
  replace hm := zcV_inv hm
  obtain ⟨S4, e4, hm⟩ := hm
  have hx := Ex_t (T := S1) hx (ehyT_beginAgain e4)
  cases hm
  exact hx
def yE_endsTerm (a1 : Int32) : Int32 := (if a1 = 0 then 1 else (if ty_b (rd_op a1) = 0 then 0 else 1))
theorem hyE_endsTerm {X : ie_X} {d : Nat} {h : ie_H} (a1 : Int32) : Go X (d + 1) 99 (0, ie_en 99 [.int a1], [], h) (.inl (some (.int (yE_endsTerm a1)))) h := by
  generalize hm : yE_endsTerm a1 = r
  unfold yE_endsTerm at hm
  refine go_run 0 (F' := (0, [some (.int a1)], [], h)) rfl ?_
  refine go_run 1 (F' := (1, [some (.int a1)], [.int a1], h)) rfl ?_
  refine go_step rfl rfl ?_
  by_cases q1 : a1 = 0
  · rw [if_pos q1] at hm ⊢
    refine go_run 0 (F' := (11, [some (.int a1)], [], h)) rfl ?_
    refine go_run 2 (F' := (16, [some (.int a1)], [.int 1], h)) rfl ?_
    (cases hm; exact go_end rfl rfl)
  · rw [if_neg q1] at hm ⊢
    refine go_run 0 (F' := (4, [some (.int a1)], [], h)) rfl ?_
    refine go_run 1 (F' := (5, [some (.int a1)], [.int a1], h)) rfl ?_
    refine go_call (m' := 28) (as := [.int a1]) (rest := []) (v := some (.int (ty_b (rd_op a1)))) (h1 := h) rfl rfl ⟨rfl, Nat.le_of_ble_eq_true rfl⟩ (rd_isOp _) ?_
    refine go_run 0 (F' := (8, [some (.int a1)], [.int (ty_b (rd_op a1))], h)) rfl ?_
    refine go_run 0 (F' := (8, [some (.int a1)], [.int (ty_b (rd_op a1))], h)) rfl ?_
    refine go_step rfl rfl ?_
    by_cases q2 : ty_b (rd_op a1) = 0
    · rw [if_pos q2] at hm ⊢
      refine go_run 0 (F' := (15, [some (.int a1)], [], h)) rfl ?_
      refine go_run 1 (F' := (16, [some (.int a1)], [.int 0], h)) rfl ?_
      (cases hm; exact go_end rfl rfl)
    · rw [if_neg q2] at hm ⊢
      refine go_run 0 (F' := (11, [some (.int a1)], [], h)) rfl ?_
      refine go_run 2 (F' := (16, [some (.int a1)], [.int 1], h)) rfl ?_
      (cases hm; exact go_end rfl rfl)
def yE_termValue_34 : Nat → hS → Int64 → Int32 → Int32 → Option (hS × Int32)
  | 0, _, _, _, _ => none
  | n + 1, S, l0, l6, l7 => (if 8 ≤ l7 then (some (S, l6)) else (if ty_b (rd_fig (by_c l0 l7)) = 0 then (some (S, l6)) else (yE_termValue_34 n S l0 (((10 * l6) + (by_c l0 l7)) - 48) (l7 + 1))))
theorem hyE_termValue_34 {X : ie_X} {d : Nat} : ∀ (n : Nat) {S : hS} {l0 : Int64} {l6 : Int32} {l7 : Int32} {u1 u2 u3 u4 u5 : Option Value} {S' : hS} {r : Int32}, yE_termValue_34 n S l0 l6 l7 = some (S', r) → Go X (d + 1) 100 (34, [some (.long l0), u1, u2, u3, u4, u5, some (.int l6), some (.int l7)], [], zhp S) (.inl (some (.int r))) (zhp S') := by
  intro n
  induction n with
  | zero => intro S l0 l6 l7 u1 u2 u3 u4 u5 S' r hm; cases hm
  | succ n ih =>
    intro S l0 l6 l7 u1 u2 u3 u4 u5 S' r hm
    unfold yE_termValue_34 at hm
    refine go_run 0 (F' := (34, [some (.long l0), u1, u2, u3, u4, u5, some (.int l6), some (.int l7)], [], zhp S)) rfl ?_
    refine go_run 2 (F' := (38, [some (.long l0), u1, u2, u3, u4, u5, some (.int l6), some (.int l7)], [.int 8, .int l7], zhp S)) rfl ?_
    refine go_step rfl rfl ?_
    by_cases q1 : 8 ≤ l7
    · rw [if_pos q1] at hm ⊢
      refine go_run 0 (F' := (76, [some (.long l0), u1, u2, u3, u4, u5, some (.int l6), some (.int l7)], [], zhp S)) rfl ?_
      refine go_run 1 (F' := (78, [some (.long l0), u1, u2, u3, u4, u5, some (.int l6), some (.int l7)], [.int l6], zhp S)) rfl ?_
      cases hm
      exact go_end rfl rfl
    · rw [if_neg q1] at hm ⊢
      refine go_run 0 (F' := (41, [some (.long l0), u1, u2, u3, u4, u5, some (.int l6), some (.int l7)], [], zhp S)) rfl ?_
      refine go_run 2 (F' := (44, [some (.long l0), u1, u2, u3, u4, u5, some (.int l6), some (.int l7)], [.int l7, .long l0], zhp S)) rfl ?_
      refine go_call (m' := 6) (as := [.long l0, .int l7]) (rest := []) (v := some (.int (by_c l0 l7))) (h1 := zhp S) rfl rfl ⟨rfl, Nat.le_of_ble_eq_true rfl⟩ (y_pk _ _) ?_
      refine go_run 0 (F' := (47, [some (.long l0), u1, u2, u3, u4, u5, some (.int l6), some (.int l7)], [.int (by_c l0 l7)], zhp S)) rfl ?_
      refine go_run 0 (F' := (47, [some (.long l0), u1, u2, u3, u4, u5, some (.int l6), some (.int l7)], [.int (by_c l0 l7)], zhp S)) rfl ?_
      refine go_call (m' := 27) (as := [.int (by_c l0 l7)]) (rest := []) (v := some (.int (ty_b (rd_fig (by_c l0 l7))))) (h1 := zhp S) rfl rfl ⟨rfl, Nat.le_of_ble_eq_true rfl⟩ (rd_isFig _) ?_
      refine go_run 0 (F' := (50, [some (.long l0), u1, u2, u3, u4, u5, some (.int l6), some (.int l7)], [.int (ty_b (rd_fig (by_c l0 l7)))], zhp S)) rfl ?_
      refine go_run 0 (F' := (50, [some (.long l0), u1, u2, u3, u4, u5, some (.int l6), some (.int l7)], [.int (ty_b (rd_fig (by_c l0 l7)))], zhp S)) rfl ?_
      refine go_step rfl rfl ?_
      by_cases q2 : ty_b (rd_fig (by_c l0 l7)) = 0
      · rw [if_pos q2] at hm ⊢
        refine go_run 0 (F' := (76, [some (.long l0), u1, u2, u3, u4, u5, some (.int l6), some (.int l7)], [], zhp S)) rfl ?_
        refine go_run 1 (F' := (78, [some (.long l0), u1, u2, u3, u4, u5, some (.int l6), some (.int l7)], [.int l6], zhp S)) rfl ?_
        cases hm
        exact go_end rfl rfl
      · rw [if_neg q2] at hm ⊢
        refine go_run 0 (F' := (53, [some (.long l0), u1, u2, u3, u4, u5, some (.int l6), some (.int l7)], [], zhp S)) rfl ?_
        refine go_run 5 (F' := (61, [some (.long l0), u1, u2, u3, u4, u5, some (.int l6), some (.int l7)], [.int l7, .long l0, .int (10 * l6)], zhp S)) rfl ?_
        refine go_call (m' := 6) (as := [.long l0, .int l7]) (rest := [.int (10 * l6)]) (v := some (.int (by_c l0 l7))) (h1 := zhp S) rfl rfl ⟨rfl, Nat.le_of_ble_eq_true rfl⟩ (y_pk _ _) ?_
        refine go_run 0 (F' := (64, [some (.long l0), u1, u2, u3, u4, u5, some (.int l6), some (.int l7)], [.int (by_c l0 l7), .int (10 * l6)], zhp S)) rfl ?_
        refine go_run 6 (F' := (34, [some (.long l0), u1, u2, u3, u4, u5, some (.int (((10 * l6) + (by_c l0 l7)) - 48)), some (.int (l7 + 1))], [], zhp S)) rfl ?_
        exact ih hm
theorem ehyE_termValue_34 : ∀ (n : Nat) {S : hS} {l0 : Int64} {l6 : Int32} {l7 : Int32} {S' : hS} {r : Int32}, yE_termValue_34 n S l0 l6 l7 = some (S', r) → Ex S S' := by
  intro n
  induction n with
  | zero => intro S l0 l6 l7 S' r hm; cases hm
  | succ n ih =>
    intro S l0 l6 l7 S' r hm
    unfold yE_termValue_34 at hm
    have hx : Ex S S := Ex_r
    by_cases q1 : 8 ≤ l7
    · rw [if_pos q1] at hm
      cases hm
      exact hx
    · rw [if_neg q1] at hm
      by_cases q2 : ty_b (rd_fig (by_c l0 l7)) = 0
      · rw [if_pos q2] at hm
        cases hm
        exact hx
      · rw [if_neg q2] at hm
        refine Ex_t ?_ (ih hm)
        exact hx
def yE_termValue (n : Nat) (S : hS) (x1 : Int64) (x2 : Int32) (p3 : Option Nat) (x4 : Int32) : Option (hS × Int32) := (if ty_b (rd_var (by_c x1 x2)) = 0 then (yE_termValue_34  n S x1 0 x2) else (zob p3 fun a1 => (if ztg S a1 = 20 then (if ib (y_indexOf x4 ((by_c x1 x2) - 119)) (zLen S a1) then (some (S, (zAI S a1) (Int32.toNatClampNeg (y_indexOf x4 ((by_c x1 x2) - 119))))) else none) else none)))
theorem hyE_termValue {X : ie_X} {d : Nat} {n : Nat} {S : hS} {x1 : Int64} {x2 : Int32} {p3 : Option Nat} {x4 : Int32} {S' : hS} {r : Int32} (hm : yE_termValue n S x1 x2 p3 x4 = some (S', r)) : Go X (d + 1) 100 (0, ie_en 100 [.long x1, .int x2, va_rf p3, .int x4], [], zhp S) (.inl (some (.int r))) (zhp S') := by
  unfold yE_termValue at hm
  refine go_run 0 (F' := (0, [some (.long x1), none, some (.int x2), some (va_rf p3), some (.int x4), none, none, none], [], zhp S)) (by cases p3 <;> rfl) ?_
  refine go_run 2 (F' := (2, [some (.long x1), none, some (.int x2), some (va_rf p3), some (.int x4), none, none, none], [.int x2, .long x1], zhp S)) rfl ?_
  refine go_call (m' := 6) (as := [.long x1, .int x2]) (rest := []) (v := some (.int (by_c x1 x2))) (h1 := zhp S) rfl rfl ⟨rfl, Nat.le_of_ble_eq_true rfl⟩ (y_pk _ _) ?_
  refine go_run 0 (F' := (5, [some (.long x1), none, some (.int x2), some (va_rf p3), some (.int x4), none, none, none], [.int (by_c x1 x2)], zhp S)) rfl ?_
  refine go_run 2 (F' := (9, [some (.long x1), none, some (.int x2), some (va_rf p3), some (.int x4), some (.int (by_c x1 x2)), none, none], [.int (by_c x1 x2)], zhp S)) rfl ?_
  refine go_call (m' := 25) (as := [.int (by_c x1 x2)]) (rest := []) (v := some (.int (ty_b (rd_var (by_c x1 x2))))) (h1 := zhp S) rfl rfl ⟨rfl, Nat.le_of_ble_eq_true rfl⟩ (rd_isVar _) ?_
  refine go_run 0 (F' := (12, [some (.long x1), none, some (.int x2), some (va_rf p3), some (.int x4), some (.int (by_c x1 x2)), none, none], [.int (ty_b (rd_var (by_c x1 x2)))], zhp S)) rfl ?_
  refine go_run 0 (F' := (12, [some (.long x1), none, some (.int x2), some (va_rf p3), some (.int x4), some (.int (by_c x1 x2)), none, none], [.int (ty_b (rd_var (by_c x1 x2)))], zhp S)) rfl ?_
  refine go_step rfl rfl ?_
  by_cases q1 : ty_b (rd_var (by_c x1 x2)) = 0
  · rw [if_pos q1] at hm ⊢
    refine go_run 0 (F' := (28, [some (.long x1), none, some (.int x2), some (va_rf p3), some (.int x4), some (.int (by_c x1 x2)), none, none], [], zhp S)) rfl ?_
    refine go_run 4 (F' := (34, [some (.long x1), none, some (.int x2), some (va_rf p3), some (.int x4), some (.int (by_c x1 x2)), some (.int 0), some (.int x2)], [], zhp S)) rfl ?_
    exact hyE_termValue_34  n hm
  · rw [if_neg q1] at hm ⊢
    refine go_run 0 (F' := (15, [some (.long x1), none, some (.int x2), some (va_rf p3), some (.int x4), some (.int (by_c x1 x2)), none, none], [], zhp S)) rfl ?_
    refine go_run 0 (F' := (15, [some (.long x1), none, some (.int x2), some (va_rf p3), some (.int x4), some (.int (by_c x1 x2)), none, none], [], zhp S)) rfl ?_
    refine go_al rfl rfl ?_
    refine go_run 4 (F' := (23, [some (.long x1), none, some (.int x2), some (va_rf p3), some (.int x4), some (.int (by_c x1 x2)), none, none], [.int ((by_c x1 x2) - 119), .int x4, va_rf p3], zhp S)) rfl ?_
    refine go_call (m' := 88) (as := [.int x4, .int ((by_c x1 x2) - 119)]) (rest := [va_rf p3]) (v := some (.int (y_indexOf x4 ((by_c x1 x2) - 119)))) (h1 := zhp S) rfl (by cases p3 <;> rfl) ⟨rfl, Nat.le_of_ble_eq_true rfl⟩ (hy_indexOf _ _) ?_
    refine go_run 0 (F' := (26, [some (.long x1), none, some (.int x2), some (va_rf p3), some (.int x4), some (.int (by_c x1 x2)), none, none], [.int (y_indexOf x4 ((by_c x1 x2) - 119)), va_rf p3], zhp S)) rfl ?_
    refine go_run 0 (F' := (26, [some (.long x1), none, some (.int x2), some (va_rf p3), some (.int x4), some (.int (by_c x1 x2)), none, none], [.int (y_indexOf x4 ((by_c x1 x2) - 119)), va_rf p3], zhp S)) rfl ?_
    replace hm := zob_inv hm
    obtain ⟨a1, rfl, hm⟩ := hm
    replace hm := zgd hm
    obtain ⟨b2, hm⟩ := hm
    replace hm := zgd hm
    obtain ⟨b3, hm⟩ := hm
    refine go_hald0 rfl b2 b3 rfl rfl ?_
    refine go_run 0 (F' := (27, [some (.long x1), none, some (.int x2), some (.ref a1), some (.int x4), some (.int (by_c x1 x2)), none, none], [.int ((zAI S a1) (Int32.toNatClampNeg (y_indexOf x4 ((by_c x1 x2) - 119))))], zhp S)) rfl ?_
    cases hm
    exact go_end rfl rfl
theorem ehyE_termValue {n : Nat} {S : hS} {x1 : Int64} {x2 : Int32} {p3 : Option Nat} {x4 : Int32} {S' : hS} {r : Int32} (hm : yE_termValue n S x1 x2 p3 x4 = some (S', r)) : Ex S S' := by
  unfold yE_termValue at hm
  have hx : Ex S S := Ex_r
  by_cases q1 : ty_b (rd_var (by_c x1 x2)) = 0
  · rw [if_pos q1] at hm
    refine Ex_t ?_ (ehyE_termValue_34  n hm)
    exact hx
  · rw [if_neg q1] at hm
    replace hm := zob_inv hm
    obtain ⟨a1, rfl, hm⟩ := hm
    replace hm := zgd hm
    obtain ⟨b2, hm⟩ := hm
    replace hm := zgd hm
    obtain ⟨b3, hm⟩ := hm
    cases hm
    exact hx
theorem sw_101_1 {X : ie_X} {r : Nat × Nat × Nat} {ls : ie_L} {st : List Value} {h : ie_H} {x : Int32} (q0 : ¬ x = 37) (q1 : ¬ x = 42) (q2 : ¬ x = 43) (q3 : ¬ x = 45) (q4 : ¬ x = 47) (q5 : ¬ x = 60) : ie_step X 101 (.lookupswitch 106 #[(37, 83), (42, 67), (43, 59), (45, 63), (47, 71), (60, 95)]) r 1 ls (.int x :: st) h = some (.inl (107, ls, st, h)) := by
  have n0 : x.toInt ≠ 37 := fun z => q0 (Int32.toInt_inj.mp z)
  have n1 : x.toInt ≠ 42 := fun z => q1 (Int32.toInt_inj.mp z)
  have n2 : x.toInt ≠ 43 := fun z => q2 (Int32.toInt_inj.mp z)
  have n3 : x.toInt ≠ 45 := fun z => q3 (Int32.toInt_inj.mp z)
  have n4 : x.toInt ≠ 47 := fun z => q4 (Int32.toInt_inj.mp z)
  have n5 : x.toInt ≠ 60 := fun z => q5 (Int32.toInt_inj.mp z)
  clear q0 q1 q2 q3 q4 q5
  show (some (.inl (ie_lk 1 106 [(37, 83), (42, 67), (43, 59), (45, 63), (47, 71), (60, 95)] x.toInt, ls, st, h)) : ie_R) = _
  unfold ie_lk
  rw [Op.lookupswitch.offset_cons, if_neg (Ne.symm n0), Op.lookupswitch.offset_cons, if_neg (Ne.symm n1), Op.lookupswitch.offset_cons, if_neg (Ne.symm n2), Op.lookupswitch.offset_cons, if_neg (Ne.symm n3), Op.lookupswitch.offset_cons, if_neg (Ne.symm n4), Op.lookupswitch.offset_cons, if_neg (Ne.symm n5), Op.lookupswitch.offset_nil]
  rfl
def yE_combined (a1 : Int32) (a2 : Int32) (a3 : Int32) : Int32 := (if a1 = 37 then (if a3 = 0 then 0 else a2 - a2 / a3 * a3) else (if a1 = 42 then a2 * a3 else (if a1 = 43 then a2 + a3 else (if a1 = 45 then a2 - a3 else (if a1 = 47 then (if a3 = 0 then 0 else a2 / a3) else (if a1 = 60 then (if a3 ≤ a2 then 0 else 1) else (if a2 = a3 then 1 else 0)))))))
theorem hyE_combined {X : ie_X} {d : Nat} {h : ie_H} (a1 : Int32) (a2 : Int32) (a3 : Int32) : Go X (d + 0) 101 (0, ie_en 101 [.int a1, .int a2, .int a3], [], h) (.inl (some (.int (yE_combined a1 a2 a3)))) h := by
  generalize hm : yE_combined a1 a2 a3 = r
  unfold yE_combined at hm
  refine go_run 0 (F' := (0, [some (.int a1), some (.int a2), some (.int a3)], [], h)) rfl ?_
  refine go_run 1 (F' := (1, [some (.int a1), some (.int a2), some (.int a3)], [.int a1], h)) rfl ?_
  by_cases q1 : a1 = 37
  · rw [if_pos q1] at hm
    refine go_step rfl (F := (84, [some (.int a1), some (.int a2), some (.int a3)], [], h)) (by simp only [ie_step, q1]; rfl) ?_
    refine go_run 0 (F' := (84, [some (.int a1), some (.int a2), some (.int a3)], [], h)) rfl ?_
    refine go_run 1 (F' := (85, [some (.int a1), some (.int a2), some (.int a3)], [.int a3], h)) rfl ?_
    refine go_step rfl rfl ?_
    by_cases q2 : a3 = 0
    · rw [if_pos q2] at hm ⊢
      refine go_run 0 (F' := (88, [some (.int a1), some (.int a2), some (.int a3)], [], h)) rfl ?_
      refine go_run 2 (F' := (95, [some (.int a1), some (.int a2), some (.int a3)], [.int 0], h)) rfl ?_
      (cases hm; exact go_end rfl rfl)
    · rw [if_neg q2] at hm ⊢
      refine go_run 0 (F' := (92, [some (.int a1), some (.int a2), some (.int a3)], [], h)) rfl ?_
      refine go_run 2 (F' := (94, [some (.int a1), some (.int a2), some (.int a3)], [.int a3, .int a2], h)) rfl ?_
      refine go_step rfl (F := (95, [some (.int a1), some (.int a2), some (.int a3)], [.int (a2 - a2 / a3 * a3)], h)) (by simp only [ie_step, ie_d, if_neg q2]; rfl) ?_
      refine go_run 0 (F' := (95, [some (.int a1), some (.int a2), some (.int a3)], [.int (a2 - a2 / a3 * a3)], h)) rfl ?_
      (cases hm; exact go_end rfl rfl)
  · rw [if_neg q1] at hm
    by_cases q3 : a1 = 42
    · rw [if_pos q3] at hm
      refine go_step rfl (F := (68, [some (.int a1), some (.int a2), some (.int a3)], [], h)) (by simp only [ie_step, q3]; rfl) ?_
      refine go_run 0 (F' := (68, [some (.int a1), some (.int a2), some (.int a3)], [], h)) rfl ?_
      refine go_run 3 (F' := (71, [some (.int a1), some (.int a2), some (.int a3)], [.int (a2 * a3)], h)) rfl ?_
      (cases hm; exact go_end rfl rfl)
    · rw [if_neg q3] at hm
      by_cases q4 : a1 = 43
      · rw [if_pos q4] at hm
        refine go_step rfl (F := (60, [some (.int a1), some (.int a2), some (.int a3)], [], h)) (by simp only [ie_step, q4]; rfl) ?_
        refine go_run 0 (F' := (60, [some (.int a1), some (.int a2), some (.int a3)], [], h)) rfl ?_
        refine go_run 3 (F' := (63, [some (.int a1), some (.int a2), some (.int a3)], [.int (a2 + a3)], h)) rfl ?_
        (cases hm; exact go_end rfl rfl)
      · rw [if_neg q4] at hm
        by_cases q5 : a1 = 45
        · rw [if_pos q5] at hm
          refine go_step rfl (F := (64, [some (.int a1), some (.int a2), some (.int a3)], [], h)) (by simp only [ie_step, q5]; rfl) ?_
          refine go_run 0 (F' := (64, [some (.int a1), some (.int a2), some (.int a3)], [], h)) rfl ?_
          refine go_run 3 (F' := (67, [some (.int a1), some (.int a2), some (.int a3)], [.int (a2 - a3)], h)) rfl ?_
          (cases hm; exact go_end rfl rfl)
        · rw [if_neg q5] at hm
          by_cases q6 : a1 = 47
          · rw [if_pos q6] at hm
            refine go_step rfl (F := (72, [some (.int a1), some (.int a2), some (.int a3)], [], h)) (by simp only [ie_step, q6]; rfl) ?_
            refine go_run 0 (F' := (72, [some (.int a1), some (.int a2), some (.int a3)], [], h)) rfl ?_
            refine go_run 1 (F' := (73, [some (.int a1), some (.int a2), some (.int a3)], [.int a3], h)) rfl ?_
            refine go_step rfl rfl ?_
            by_cases q7 : a3 = 0
            · rw [if_pos q7] at hm ⊢
              refine go_run 0 (F' := (76, [some (.int a1), some (.int a2), some (.int a3)], [], h)) rfl ?_
              refine go_run 2 (F' := (83, [some (.int a1), some (.int a2), some (.int a3)], [.int 0], h)) rfl ?_
              (cases hm; exact go_end rfl rfl)
            · rw [if_neg q7] at hm ⊢
              refine go_run 0 (F' := (80, [some (.int a1), some (.int a2), some (.int a3)], [], h)) rfl ?_
              refine go_run 2 (F' := (82, [some (.int a1), some (.int a2), some (.int a3)], [.int a3, .int a2], h)) rfl ?_
              refine go_step rfl (F := (83, [some (.int a1), some (.int a2), some (.int a3)], [.int (a2 / a3)], h)) (by simp only [ie_step, ie_d, if_neg q7]; rfl) ?_
              refine go_run 0 (F' := (83, [some (.int a1), some (.int a2), some (.int a3)], [.int (a2 / a3)], h)) rfl ?_
              (cases hm; exact go_end rfl rfl)
          · rw [if_neg q6] at hm
            by_cases q8 : a1 = 60
            · rw [if_pos q8] at hm
              refine go_step rfl (F := (96, [some (.int a1), some (.int a2), some (.int a3)], [], h)) (by simp only [ie_step, q8]; rfl) ?_
              refine go_run 0 (F' := (96, [some (.int a1), some (.int a2), some (.int a3)], [], h)) rfl ?_
              refine go_run 2 (F' := (98, [some (.int a1), some (.int a2), some (.int a3)], [.int a3, .int a2], h)) rfl ?_
              refine go_step rfl rfl ?_
              by_cases q9 : a3 ≤ a2
              · rw [if_pos q9] at hm ⊢
                refine go_run 0 (F' := (105, [some (.int a1), some (.int a2), some (.int a3)], [], h)) rfl ?_
                refine go_run 1 (F' := (106, [some (.int a1), some (.int a2), some (.int a3)], [.int 0], h)) rfl ?_
                (cases hm; exact go_end rfl rfl)
              · rw [if_neg q9] at hm ⊢
                refine go_run 0 (F' := (101, [some (.int a1), some (.int a2), some (.int a3)], [], h)) rfl ?_
                refine go_run 2 (F' := (106, [some (.int a1), some (.int a2), some (.int a3)], [.int 1], h)) rfl ?_
                (cases hm; exact go_end rfl rfl)
            · rw [if_neg q8] at hm
              refine go_step rfl (F := (107, [some (.int a1), some (.int a2), some (.int a3)], [], h)) (sw_101_1 q1 q3 q4 q5 q6 q8) ?_
              refine go_run 0 (F' := (107, [some (.int a1), some (.int a2), some (.int a3)], [], h)) rfl ?_
              refine go_run 2 (F' := (109, [some (.int a1), some (.int a2), some (.int a3)], [.int a3, .int a2], h)) rfl ?_
              refine go_step rfl rfl ?_
              by_cases q10 : a2 = a3
              · rw [if_pos q10] at hm ⊢
                refine go_run 0 (F' := (112, [some (.int a1), some (.int a2), some (.int a3)], [], h)) rfl ?_
                refine go_run 2 (F' := (117, [some (.int a1), some (.int a2), some (.int a3)], [.int 1], h)) rfl ?_
                (cases hm; exact go_end rfl rfl)
              · rw [if_neg q10] at hm ⊢
                refine go_run 0 (F' := (116, [some (.int a1), some (.int a2), some (.int a3)], [], h)) rfl ?_
                refine go_run 1 (F' := (117, [some (.int a1), some (.int a2), some (.int a3)], [.int 0], h)) rfl ?_
                (cases hm; exact go_end rfl rfl)
def yE_value_28 (n : Nat) (S : hS) (l0 : Int64) (p2 : Option Nat) (l3 : Int32) (l4 : Int32) : Option (hS × Int32) := (zcP (yE_termValue n S l0 0 p2 l3) fun S1 v1 => (if 8 ≤ l4 then (some (S1, v1)) else (if by_c l0 l4 = 0 then (some (S1, v1)) else (zcP (yE_termValue n S1 l0 (l4 + 1) p2 l3) fun S2 v2 => (some (S2, yE_combined (by_c l0 l4) v1 v2))))))
theorem hyE_value_28 {X : ie_X} {d : Nat} {n : Nat} {S : hS} {l0 : Int64} {p2 : Option Nat} {l3 : Int32} {l4 : Int32} {u1 u5 u6 : Option Value} {S' : hS} {r : Int32} (hm : yE_value_28 n S l0 p2 l3 l4 = some (S', r)) : Go X (d + 2) 98 (28, [some (.long l0), u1, some (va_rf p2), some (.int l3), some (.int l4), u5, u6], [], zhp S) (.inl (some (.int r))) (zhp S') := by
  unfold yE_value_28 at hm
  refine go_run 0 (F' := (28, [some (.long l0), u1, some (va_rf p2), some (.int l3), some (.int l4), u5, u6], [], zhp S)) rfl ?_
  refine go_run 2 (F' := (30, [some (.long l0), u1, some (va_rf p2), some (.int l3), some (.int l4), u5, u6], [.int 0, .long l0], zhp S)) rfl ?_
  refine go_al rfl rfl ?_
  refine go_run 1 (F' := (32, [some (.long l0), u1, some (va_rf p2), some (.int l3), some (.int l4), u5, u6], [.int l3, va_rf p2, .int 0, .long l0], zhp S)) rfl ?_
  replace hm := zcP_inv hm
  obtain ⟨S1, v1, e1, hm⟩ := hm
  have k1 := hyE_termValue (X := X) (d := d) e1
  refine go_call (m' := 100) (as := [.long l0, .int 0, va_rf p2, .int l3]) (rest := []) (v := some (.int v1)) (h1 := zhp S1) rfl rfl ⟨by cases p2 <;> rfl, by cases p2 <;> exact Nat.le_of_ble_eq_true rfl⟩ k1 ?_
  refine go_run 0 (F' := (35, [some (.long l0), u1, some (va_rf p2), some (.int l3), some (.int l4), u5, u6], [.int v1], zhp S1)) rfl ?_
  refine go_run 3 (F' := (41, [some (.long l0), u1, some (va_rf p2), some (.int l3), some (.int l4), some (.int v1), u6], [.int 8, .int l4], zhp S1)) rfl ?_
  refine go_step rfl rfl ?_
  by_cases q1 : 8 ≤ l4
  · rw [if_pos q1] at hm ⊢
    refine go_run 0 (F' := (53, [some (.long l0), u1, some (va_rf p2), some (.int l3), some (.int l4), some (.int v1), u6], [], zhp S1)) rfl ?_
    refine go_run 5 (F' := (63, [some (.long l0), u1, some (va_rf p2), some (.int l3), some (.int l4), some (.int v1), some (.int 0)], [.int v1], zhp S1)) rfl ?_
    cases hm
    exact go_end rfl rfl
  · rw [if_neg q1] at hm ⊢
    refine go_run 0 (F' := (44, [some (.long l0), u1, some (va_rf p2), some (.int l3), some (.int l4), some (.int v1), u6], [], zhp S1)) rfl ?_
    refine go_run 2 (F' := (47, [some (.long l0), u1, some (va_rf p2), some (.int l3), some (.int l4), some (.int v1), u6], [.int l4, .long l0], zhp S1)) rfl ?_
    refine go_call (m' := 6) (as := [.long l0, .int l4]) (rest := []) (v := some (.int (by_c l0 l4))) (h1 := zhp S1) rfl rfl ⟨rfl, Nat.le_of_ble_eq_true rfl⟩ (y_pk _ _) ?_
    refine go_run 0 (F' := (50, [some (.long l0), u1, some (va_rf p2), some (.int l3), some (.int l4), some (.int v1), u6], [.int (by_c l0 l4)], zhp S1)) rfl ?_
    refine go_run 3 (F' := (58, [some (.long l0), u1, some (va_rf p2), some (.int l3), some (.int l4), some (.int v1), some (.int (by_c l0 l4))], [.int (by_c l0 l4)], zhp S1)) rfl ?_
    refine go_step rfl rfl ?_
    by_cases q2 : by_c l0 l4 = 0
    · rw [if_pos q2] at hm ⊢
      refine go_run 0 (F' := (61, [some (.long l0), u1, some (va_rf p2), some (.int l3), some (.int l4), some (.int v1), some (.int (by_c l0 l4))], [], zhp S1)) rfl ?_
      refine go_run 1 (F' := (63, [some (.long l0), u1, some (va_rf p2), some (.int l3), some (.int l4), some (.int v1), some (.int (by_c l0 l4))], [.int v1], zhp S1)) rfl ?_
      cases hm
      exact go_end rfl rfl
    · rw [if_neg q2] at hm ⊢
      refine go_run 0 (F' := (64, [some (.long l0), u1, some (va_rf p2), some (.int l3), some (.int l4), some (.int v1), some (.int (by_c l0 l4))], [], zhp S1)) rfl ?_
      refine go_run 6 (F' := (73, [some (.long l0), u1, some (va_rf p2), some (.int l3), some (.int l4), some (.int v1), some (.int (by_c l0 l4))], [.int (l4 + 1), .long l0, .int v1, .int (by_c l0 l4)], zhp S1)) rfl ?_
      refine go_al rfl rfl ?_
      refine go_run 1 (F' := (75, [some (.long l0), u1, some (va_rf p2), some (.int l3), some (.int l4), some (.int v1), some (.int (by_c l0 l4))], [.int l3, va_rf p2, .int (l4 + 1), .long l0, .int v1, .int (by_c l0 l4)], zhp S1)) rfl ?_
      replace hm := zcP_inv hm
      obtain ⟨S2, v2, e2, hm⟩ := hm
      have k2 := hyE_termValue (X := X) (d := d) e2
      refine go_call (m' := 100) (as := [.long l0, .int (l4 + 1), va_rf p2, .int l3]) (rest := [.int v1, .int (by_c l0 l4)]) (v := some (.int v2)) (h1 := zhp S2) rfl rfl ⟨by cases p2 <;> rfl, by cases p2 <;> exact Nat.le_of_ble_eq_true rfl⟩ k2 ?_
      refine go_run 0 (F' := (78, [some (.long l0), u1, some (va_rf p2), some (.int l3), some (.int l4), some (.int v1), some (.int (by_c l0 l4))], [.int v2, .int v1, .int (by_c l0 l4)], zhp S2)) rfl ?_
      refine go_run 0 (F' := (78, [some (.long l0), u1, some (va_rf p2), some (.int l3), some (.int l4), some (.int v1), some (.int (by_c l0 l4))], [.int v2, .int v1, .int (by_c l0 l4)], zhp S2)) rfl ?_
      refine go_call (m' := 101) (as := [.int (by_c l0 l4), .int v1, .int v2]) (rest := []) (v := some (.int (yE_combined (by_c l0 l4) v1 v2))) (h1 := zhp S2) rfl rfl ⟨rfl, Nat.le_of_ble_eq_true rfl⟩ (hyE_combined _ _ _) ?_
      refine go_run 0 (F' := (81, [some (.long l0), u1, some (va_rf p2), some (.int l3), some (.int l4), some (.int v1), some (.int (by_c l0 l4))], [.int (yE_combined (by_c l0 l4) v1 v2)], zhp S2)) rfl ?_
      refine go_run 0 (F' := (81, [some (.long l0), u1, some (va_rf p2), some (.int l3), some (.int l4), some (.int v1), some (.int (by_c l0 l4))], [.int (yE_combined (by_c l0 l4) v1 v2)], zhp S2)) rfl ?_
      cases hm
      exact go_end rfl rfl
theorem ehyE_value_28 {n : Nat} {S : hS} {l0 : Int64} {p2 : Option Nat} {l3 : Int32} {l4 : Int32} {S' : hS} {r : Int32} (hm : yE_value_28 n S l0 p2 l3 l4 = some (S', r)) : Ex S S' := by
  unfold yE_value_28 at hm
  have hx : Ex S S := Ex_r
  replace hm := zcP_inv hm
  obtain ⟨S1, v1, e1, hm⟩ := hm
  have hx := Ex_t (T := S) hx (ehyE_termValue e1)
  by_cases q1 : 8 ≤ l4
  · rw [if_pos q1] at hm
    cases hm
    exact hx
  · rw [if_neg q1] at hm
    by_cases q2 : by_c l0 l4 = 0
    · rw [if_pos q2] at hm
      cases hm
      exact hx
    · rw [if_neg q2] at hm
      replace hm := zcP_inv hm
      obtain ⟨S2, v2, e2, hm⟩ := hm
      have hx := Ex_t (T := S1) hx (ehyE_termValue e2)
      cases hm
      exact hx
def yE_value_3 : Nat → hS → Int64 → Option Nat → Int32 → Int32 → Option (hS × Int32)
  | 0, _, _, _, _, _ => none
  | n + 1, S, l0, p2, l3, l4 => (if 8 ≤ l4 then (yE_value_28  n S l0 p2 l3 l4) else (if yE_endsTerm (by_c l0 l4) = 0 then (yE_value_3 n S l0 p2 l3 (l4 + 1)) else (yE_value_28  n S l0 p2 l3 l4)))
theorem hyE_value_3 {X : ie_X} {d : Nat} : ∀ (n : Nat) {S : hS} {l0 : Int64} {p2 : Option Nat} {l3 : Int32} {l4 : Int32} {u1 u5 u6 : Option Value} {S' : hS} {r : Int32}, yE_value_3 n S l0 p2 l3 l4 = some (S', r) → Go X (d + 2) 98 (3, [some (.long l0), u1, some (va_rf p2), some (.int l3), some (.int l4), u5, u6], [], zhp S) (.inl (some (.int r))) (zhp S') := by
  intro n
  induction n with
  | zero => intro S l0 p2 l3 l4 u1 u5 u6 S' r hm; cases hm
  | succ n ih =>
    intro S l0 p2 l3 l4 u1 u5 u6 S' r hm
    unfold yE_value_3 at hm
    refine go_run 0 (F' := (3, [some (.long l0), u1, some (va_rf p2), some (.int l3), some (.int l4), u5, u6], [], zhp S)) rfl ?_
    refine go_run 2 (F' := (7, [some (.long l0), u1, some (va_rf p2), some (.int l3), some (.int l4), u5, u6], [.int 8, .int l4], zhp S)) rfl ?_
    refine go_step rfl rfl ?_
    by_cases q1 : 8 ≤ l4
    · rw [if_pos q1] at hm ⊢
      refine go_run 0 (F' := (28, [some (.long l0), u1, some (va_rf p2), some (.int l3), some (.int l4), u5, u6], [], zhp S)) rfl ?_
      refine go_run 0 (F' := (28, [some (.long l0), u1, some (va_rf p2), some (.int l3), some (.int l4), u5, u6], [], zhp S)) rfl ?_
      exact hyE_value_28  hm
    · rw [if_neg q1] at hm ⊢
      refine go_run 0 (F' := (10, [some (.long l0), u1, some (va_rf p2), some (.int l3), some (.int l4), u5, u6], [], zhp S)) rfl ?_
      refine go_run 2 (F' := (13, [some (.long l0), u1, some (va_rf p2), some (.int l3), some (.int l4), u5, u6], [.int l4, .long l0], zhp S)) rfl ?_
      refine go_call (m' := 6) (as := [.long l0, .int l4]) (rest := []) (v := some (.int (by_c l0 l4))) (h1 := zhp S) rfl rfl ⟨rfl, Nat.le_of_ble_eq_true rfl⟩ (y_pk _ _) ?_
      refine go_run 0 (F' := (16, [some (.long l0), u1, some (va_rf p2), some (.int l3), some (.int l4), u5, u6], [.int (by_c l0 l4)], zhp S)) rfl ?_
      refine go_run 0 (F' := (16, [some (.long l0), u1, some (va_rf p2), some (.int l3), some (.int l4), u5, u6], [.int (by_c l0 l4)], zhp S)) rfl ?_
      refine go_call (m' := 99) (as := [.int (by_c l0 l4)]) (rest := []) (v := some (.int (yE_endsTerm (by_c l0 l4)))) (h1 := zhp S) rfl rfl ⟨rfl, Nat.le_of_ble_eq_true rfl⟩ (hyE_endsTerm _) ?_
      refine go_run 0 (F' := (19, [some (.long l0), u1, some (va_rf p2), some (.int l3), some (.int l4), u5, u6], [.int (yE_endsTerm (by_c l0 l4))], zhp S)) rfl ?_
      refine go_run 0 (F' := (19, [some (.long l0), u1, some (va_rf p2), some (.int l3), some (.int l4), u5, u6], [.int (yE_endsTerm (by_c l0 l4))], zhp S)) rfl ?_
      refine go_step rfl rfl ?_
      by_cases q2 : yE_endsTerm (by_c l0 l4) = 0
      · rw [if_pos q2] at hm ⊢
        refine go_run 0 (F' := (22, [some (.long l0), u1, some (va_rf p2), some (.int l3), some (.int l4), u5, u6], [], zhp S)) rfl ?_
        refine go_run 2 (F' := (3, [some (.long l0), u1, some (va_rf p2), some (.int l3), some (.int (l4 + 1)), u5, u6], [], zhp S)) rfl ?_
        exact ih hm
      · rw [if_neg q2] at hm ⊢
        refine go_run 0 (F' := (28, [some (.long l0), u1, some (va_rf p2), some (.int l3), some (.int l4), u5, u6], [], zhp S)) rfl ?_
        refine go_run 0 (F' := (28, [some (.long l0), u1, some (va_rf p2), some (.int l3), some (.int l4), u5, u6], [], zhp S)) rfl ?_
        exact hyE_value_28  hm
theorem ehyE_value_3 : ∀ (n : Nat) {S : hS} {l0 : Int64} {p2 : Option Nat} {l3 : Int32} {l4 : Int32} {S' : hS} {r : Int32}, yE_value_3 n S l0 p2 l3 l4 = some (S', r) → Ex S S' := by
  intro n
  induction n with
  | zero => intro S l0 p2 l3 l4 S' r hm; cases hm
  | succ n ih =>
    intro S l0 p2 l3 l4 S' r hm
    unfold yE_value_3 at hm
    have hx : Ex S S := Ex_r
    by_cases q1 : 8 ≤ l4
    · rw [if_pos q1] at hm
      refine Ex_t ?_ (ehyE_value_28  hm)
      exact hx
    · rw [if_neg q1] at hm
      by_cases q2 : yE_endsTerm (by_c l0 l4) = 0
      · rw [if_pos q2] at hm
        refine Ex_t ?_ (ih hm)
        exact hx
      · rw [if_neg q2] at hm
        refine Ex_t ?_ (ehyE_value_28  hm)
        exact hx
def yE_value (n : Nat) (S : hS) (x1 : Int64) (p2 : Option Nat) (x3 : Int32) : Option (hS × Int32) := (yE_value_3  n S x1 p2 x3 1)
theorem hyE_value {X : ie_X} {d : Nat} {n : Nat} {S : hS} {x1 : Int64} {p2 : Option Nat} {x3 : Int32} {S' : hS} {r : Int32} (hm : yE_value n S x1 p2 x3 = some (S', r)) : Go X (d + 2) 98 (0, ie_en 98 [.long x1, va_rf p2, .int x3], [], zhp S) (.inl (some (.int r))) (zhp S') := by
  unfold yE_value at hm
  refine go_run 0 (F' := (0, [some (.long x1), none, some (va_rf p2), some (.int x3), none, none, none], [], zhp S)) (by cases p2 <;> rfl) ?_
  refine go_run 2 (F' := (3, [some (.long x1), none, some (va_rf p2), some (.int x3), some (.int 1), none, none], [], zhp S)) rfl ?_
  exact hyE_value_3  n hm
theorem ehyE_value {n : Nat} {S : hS} {x1 : Int64} {p2 : Option Nat} {x3 : Int32} {S' : hS} {r : Int32} (hm : yE_value n S x1 p2 x3 = some (S', r)) : Ex S S' := by
  unfold yE_value at hm
  have hx : Ex S S := Ex_r
  refine Ex_t ?_ (ehyE_value_3  n hm)
  exact hx
def yT_valueFor (n : Nat) (S : hS) (th : Nat) (x1 : Int32) (p2 : Option Nat) : Option (hS × Int32) := (zob p2 fun a1 => (if ztg S a1 = 2 then (if ztg S th = 9 then (zlb (zR S 3 th) fun o2 => (zcP (yE_value n S (zL S a1) o2 x1) fun S3 v3 => (some (S3, v3)))) else none) else none))
theorem hyT_valueFor {X : ie_X} {d th : Nat} {n : Nat} {S : hS} {x1 : Int32} {p2 : Option Nat} {S' : hS} {r : Int32} (hm : yT_valueFor n S th x1 p2 = some (S', r)) : Go X (d + 3) 97 (0, ie_en 97 [.ref th, .int x1, va_rf p2], [], zhp S) (.inl (some (.int r))) (zhp S') := by
  unfold yT_valueFor at hm
  refine go_run 0 (F' := (0, [some (.ref th), some (.int x1), some (va_rf p2)], [], zhp S)) (by cases p2 <;> rfl) ?_
  refine go_run 0 (F' := (0, [some (.ref th), some (.int x1), some (va_rf p2)], [], zhp S)) rfl ?_
  refine go_al rfl rfl ?_
  refine go_run 0 (F' := (1, [some (.ref th), some (.int x1), some (va_rf p2)], [va_rf p2], zhp S)) rfl ?_
  replace hm := zob_inv hm
  obtain ⟨a1, rfl, hm⟩ := hm
  replace hm := zgd hm
  obtain ⟨b1, hm⟩ := hm
  refine go_hg (v := .long (zL S a1)) rfl b1 (by decide) rfl ?_
  refine go_run 1 (F' := (5, [some (.ref th), some (.int x1), some (.ref a1)], [.ref th, .long (zL S a1)], zhp S)) rfl ?_
  replace hm := zgd hm
  obtain ⟨b2, hm⟩ := hm
  replace hm := zlb_inv hm
  obtain ⟨o2, eo2, hm⟩ := hm
  refine go_hg (v := va_rf o2) rfl b2 (by decide) (by rw [← eo2]; rfl) ?_
  refine go_run 1 (F' := (9, [some (.ref th), some (.int x1), some (.ref a1)], [.int x1, va_rf o2, .long (zL S a1)], zhp S)) rfl ?_
  replace hm := zcP_inv hm
  obtain ⟨S3, v3, e3, hm⟩ := hm
  have k3 := hyE_value (X := X) (d := d) e3
  refine go_call (m' := 98) (as := [.long (zL S a1), va_rf o2, .int x1]) (rest := []) (v := some (.int v3)) (h1 := zhp S3) rfl rfl ⟨by cases o2 <;> rfl, by cases o2 <;> exact Nat.le_of_ble_eq_true rfl⟩ k3 ?_
  refine go_run 0 (F' := (12, [some (.ref th), some (.int x1), some (.ref a1)], [.int v3], zhp S3)) rfl ?_
  refine go_run 0 (F' := (12, [some (.ref th), some (.int x1), some (.ref a1)], [.int v3], zhp S3)) rfl ?_
  cases hm
  exact go_end rfl rfl
theorem ehyT_valueFor {th : Nat} {n : Nat} {S : hS} {x1 : Int32} {p2 : Option Nat} {S' : hS} {r : Int32} (hm : yT_valueFor n S th x1 p2 = some (S', r)) : Ex S S' := by
  unfold yT_valueFor at hm
  have hx : Ex S S := Ex_r
  replace hm := zob_inv hm
  obtain ⟨a1, rfl, hm⟩ := hm
  replace hm := zgd hm
  obtain ⟨b1, hm⟩ := hm
  replace hm := zgd hm
  obtain ⟨b2, hm⟩ := hm
  replace hm := zlb_inv hm
  obtain ⟨o2, eo2, hm⟩ := hm
  replace hm := zcP_inv hm
  obtain ⟨S3, v3, e3, hm⟩ := hm
  have hx := Ex_t (T := S) hx (ehyE_value e3)
  cases hm
  exact hx
def yT_queueOf (S : hS) (th : Nat) (x1 : Int32) (x2 : Int32) : Option (hS × Option Nat) := (if ztg S th = 9 then (zlb (zR S 1 th) fun o1 => (zob o1 fun a2 => (if zar S a2 then (if ib ((x1 * 6) + x2) (zLen S a2) then (zlb ((zAR S a2) (Int32.toNatClampNeg ((x1 * 6) + x2))) fun o3 => (some (S, o3))) else none) else none))) else none)
theorem hyT_queueOf {X : ie_X} {d th : Nat} {S : hS} {x1 : Int32} {x2 : Int32} {S' : hS} {r : Option Nat} (hm : yT_queueOf S th x1 x2 = some (S', r)) : Go X (d + 0) 104 (0, ie_en 104 [.ref th, .int x1, .int x2], [], zhp S) (.inl (some (va_rf r))) (zhp S') := by
  unfold yT_queueOf at hm
  refine go_run 0 (F' := (0, [some (.ref th), some (.int x1), some (.int x2)], [], zhp S)) rfl ?_
  refine go_run 1 (F' := (1, [some (.ref th), some (.int x1), some (.int x2)], [.ref th], zhp S)) rfl ?_
  replace hm := zgd hm
  obtain ⟨b1, hm⟩ := hm
  replace hm := zlb_inv hm
  obtain ⟨o1, eo1, hm⟩ := hm
  refine go_hg (v := va_rf o1) rfl b1 (by decide) (by rw [← eo1]; rfl) ?_
  refine go_run 5 (F' := (10, [some (.ref th), some (.int x1), some (.int x2)], [.int ((x1 * 6) + x2), va_rf o1], zhp S)) rfl ?_
  replace hm := zob_inv hm
  obtain ⟨a2, rfl, hm⟩ := hm
  replace hm := zgd hm
  obtain ⟨b2, hm⟩ := hm
  replace hm := zgd hm
  obtain ⟨b3, hm⟩ := hm
  replace hm := zlb_inv hm
  obtain ⟨o3, eo3, hm⟩ := hm
  refine go_haald rfl b2 b3 rfl eo3 ?_
  refine go_run 0 (F' := (11, [some (.ref th), some (.int x1), some (.int x2)], [va_rf o3], zhp S)) rfl ?_
  cases hm
  exact go_reta rfl rfl rfl (fun _ => rfl)
theorem ehyT_queueOf {th : Nat} {S : hS} {x1 : Int32} {x2 : Int32} {S' : hS} {r : Option Nat} (hm : yT_queueOf S th x1 x2 = some (S', r)) : Ex S S' := by
  unfold yT_queueOf at hm
  have hx : Ex S S := Ex_r
  replace hm := zgd hm
  obtain ⟨b1, hm⟩ := hm
  replace hm := zlb_inv hm
  obtain ⟨o1, eo1, hm⟩ := hm
  replace hm := zob_inv hm
  obtain ⟨a2, rfl, hm⟩ := hm
  replace hm := zgd hm
  obtain ⟨b2, hm⟩ := hm
  replace hm := zgd hm
  obtain ⟨b3, hm⟩ := hm
  replace hm := zlb_inv hm
  obtain ⟨o3, eo3, hm⟩ := hm
  cases hm
  exact hx
def yQ_add (S : hS) (th : Nat) (x1 : Int32) (x2 : Int32) : Option (hS) := (if ztg S th = 7 then (if 8 ≤ zI S 3 th then (some S) else (zlb (zR S 0 th) fun o1 => (zob o1 fun a2 => (if ztg S a2 = 20 then (if ib (((zI S 2 th) + (zI S 3 th)) - ((zI S 2 th) + (zI S 3 th)) / 8 * 8) (zLen S a2) then (zlb (zR S 1 th) fun o3 => (zob o3 fun a4 => (if ztg S a4 = 22 then (if ib (((zI S 2 th) + (zI S 3 th)) - ((zI S 2 th) + (zI S 3 th)) / 8 * 8) (zLen S a4) then (some (szI (szAI (szAI S a2 (upd (zAI S a2) (Int32.toNatClampNeg (((zI S 2 th) + (zI S 3 th)) - ((zI S 2 th) + (zI S 3 th)) / 8 * 8)) x1)) a4 (upd (zAI (szAI S a2 (upd (zAI S a2) (Int32.toNatClampNeg (((zI S 2 th) + (zI S 3 th)) - ((zI S 2 th) + (zI S 3 th)) / 8 * 8)) x1)) a4) (Int32.toNatClampNeg (((zI S 2 th) + (zI S 3 th)) - ((zI S 2 th) + (zI S 3 th)) / 8 * 8)) (vp_nar .boolean x2))) 3 th ((zI S 3 th) + 1))) else none) else none))) else none) else none)))) else none)
theorem hyQ_add {X : ie_X} {d th : Nat} {S : hS} {x1 : Int32} {x2 : Int32} {S' : hS} (hm : yQ_add S th x1 x2 = some S') : Go X (d + 0) 105 (0, ie_en 105 [.ref th, .int x1, .int x2], [], zhp S) (.inl none) (zhp S') := by
  unfold yQ_add at hm
  refine go_run 0 (F' := (0, [some (.ref th), some (.int x1), some (.int x2), none], [], zhp S)) rfl ?_
  refine go_run 1 (F' := (1, [some (.ref th), some (.int x1), some (.int x2), none], [.ref th], zhp S)) rfl ?_
  replace hm := zgd hm
  obtain ⟨b1, hm⟩ := hm
  refine go_hg (v := .int (zI S 3 th)) rfl b1 (by decide) rfl ?_
  refine go_run 1 (F' := (6, [some (.ref th), some (.int x1), some (.int x2), none], [.int 8, .int (zI S 3 th)], zhp S)) rfl ?_
  refine go_step rfl rfl ?_
  by_cases q2 : 8 ≤ zI S 3 th
  · rw [if_pos q2] at hm ⊢
    refine go_run 0 (F' := (46, [some (.ref th), some (.int x1), some (.int x2), none], [], zhp S)) rfl ?_
    refine go_run 0 (F' := (46, [some (.ref th), some (.int x1), some (.int x2), none], [], zhp S)) rfl ?_
    cases hm
    exact go_end rfl rfl
  · rw [if_neg q2] at hm ⊢
    refine go_run 0 (F' := (9, [some (.ref th), some (.int x1), some (.int x2), none], [], zhp S)) rfl ?_
    refine go_run 1 (F' := (10, [some (.ref th), some (.int x1), some (.int x2), none], [.ref th], zhp S)) rfl ?_
    refine go_hg (v := .int (zI S 2 th)) rfl b1 (by decide) rfl ?_
    refine go_run 1 (F' := (14, [some (.ref th), some (.int x1), some (.int x2), none], [.ref th, .int (zI S 2 th)], zhp S)) rfl ?_
    refine go_hg (v := .int (zI S 3 th)) rfl b1 (by decide) rfl ?_
    refine go_run 2 (F' := (20, [some (.ref th), some (.int x1), some (.int x2), none], [.int 8, .int ((zI S 2 th) + (zI S 3 th))], zhp S)) rfl ?_
    refine go_run 3 (F' := (23, [some (.ref th), some (.int x1), some (.int x2), some (.int (((zI S 2 th) + (zI S 3 th)) - ((zI S 2 th) + (zI S 3 th)) / 8 * 8))], [.ref th], zhp S)) rfl ?_
    replace hm := zlb_inv hm
    obtain ⟨o1, eo1, hm⟩ := hm
    refine go_hg (v := va_rf o1) rfl b1 (by decide) (by rw [← eo1]; rfl) ?_
    refine go_run 2 (F' := (28, [some (.ref th), some (.int x1), some (.int x2), some (.int (((zI S 2 th) + (zI S 3 th)) - ((zI S 2 th) + (zI S 3 th)) / 8 * 8))], [.int x1, .int (((zI S 2 th) + (zI S 3 th)) - ((zI S 2 th) + (zI S 3 th)) / 8 * 8), va_rf o1], zhp S)) rfl ?_
    replace hm := zob_inv hm
    obtain ⟨a2, rfl, hm⟩ := hm
    replace hm := zgd hm
    obtain ⟨b3, hm⟩ := hm
    replace hm := zgd hm
    obtain ⟨b4, hm⟩ := hm
    refine go_hast0 rfl b3 b4 rfl rfl ?_
    refine go_run 1 (F' := (30, [some (.ref th), some (.int x1), some (.int x2), some (.int (((zI S 2 th) + (zI S 3 th)) - ((zI S 2 th) + (zI S 3 th)) / 8 * 8))], [.ref th], zhp (szAI S a2 (upd (zAI S a2) (Int32.toNatClampNeg (((zI S 2 th) + (zI S 3 th)) - ((zI S 2 th) + (zI S 3 th)) / 8 * 8)) x1)))) rfl ?_
    replace hm := zlb_inv hm
    obtain ⟨o3, eo3, hm⟩ := hm
    refine go_hg (v := va_rf o3) rfl b1 (by decide) (by rw [← eo3]; rfl) ?_
    refine go_run 2 (F' := (35, [some (.ref th), some (.int x1), some (.int x2), some (.int (((zI S 2 th) + (zI S 3 th)) - ((zI S 2 th) + (zI S 3 th)) / 8 * 8))], [.int x2, .int (((zI S 2 th) + (zI S 3 th)) - ((zI S 2 th) + (zI S 3 th)) / 8 * 8), va_rf o3], zhp (szAI S a2 (upd (zAI S a2) (Int32.toNatClampNeg (((zI S 2 th) + (zI S 3 th)) - ((zI S 2 th) + (zI S 3 th)) / 8 * 8)) x1)))) rfl ?_
    replace hm := zob_inv hm
    obtain ⟨a4, rfl, hm⟩ := hm
    replace hm := zgd hm
    obtain ⟨b5, hm⟩ := hm
    replace hm := zgd hm
    obtain ⟨b6, hm⟩ := hm
    refine go_hast2 rfl b5 b6 rfl rfl ?_
    refine go_run 2 (F' := (38, [some (.ref th), some (.int x1), some (.int x2), some (.int (((zI S 2 th) + (zI S 3 th)) - ((zI S 2 th) + (zI S 3 th)) / 8 * 8))], [.ref th, .ref th], zhp (szAI (szAI S a2 (upd (zAI S a2) (Int32.toNatClampNeg (((zI S 2 th) + (zI S 3 th)) - ((zI S 2 th) + (zI S 3 th)) / 8 * 8)) x1)) a4 (upd (zAI (szAI S a2 (upd (zAI S a2) (Int32.toNatClampNeg (((zI S 2 th) + (zI S 3 th)) - ((zI S 2 th) + (zI S 3 th)) / 8 * 8)) x1)) a4) (Int32.toNatClampNeg (((zI S 2 th) + (zI S 3 th)) - ((zI S 2 th) + (zI S 3 th)) / 8 * 8)) (vp_nar .boolean x2))))) rfl ?_
    refine go_hg (v := .int (zI S 3 th)) rfl b1 (by decide) rfl ?_
    refine go_run 2 (F' := (43, [some (.ref th), some (.int x1), some (.int x2), some (.int (((zI S 2 th) + (zI S 3 th)) - ((zI S 2 th) + (zI S 3 th)) / 8 * 8))], [.int ((zI S 3 th) + 1), .ref th], zhp (szAI (szAI S a2 (upd (zAI S a2) (Int32.toNatClampNeg (((zI S 2 th) + (zI S 3 th)) - ((zI S 2 th) + (zI S 3 th)) / 8 * 8)) x1)) a4 (upd (zAI (szAI S a2 (upd (zAI S a2) (Int32.toNatClampNeg (((zI S 2 th) + (zI S 3 th)) - ((zI S 2 th) + (zI S 3 th)) / 8 * 8)) x1)) a4) (Int32.toNatClampNeg (((zI S 2 th) + (zI S 3 th)) - ((zI S 2 th) + (zI S 3 th)) / 8 * 8)) (vp_nar .boolean x2))))) rfl ?_
    refine go_hpI rfl b1 (by decide) rfl (Nat.le_of_ble_eq_true rfl) fs_6_3 ?_
    refine go_run 0 (F' := (46, [some (.ref th), some (.int x1), some (.int x2), some (.int (((zI S 2 th) + (zI S 3 th)) - ((zI S 2 th) + (zI S 3 th)) / 8 * 8))], [], zhp (szI (szAI (szAI S a2 (upd (zAI S a2) (Int32.toNatClampNeg (((zI S 2 th) + (zI S 3 th)) - ((zI S 2 th) + (zI S 3 th)) / 8 * 8)) x1)) a4 (upd (zAI (szAI S a2 (upd (zAI S a2) (Int32.toNatClampNeg (((zI S 2 th) + (zI S 3 th)) - ((zI S 2 th) + (zI S 3 th)) / 8 * 8)) x1)) a4) (Int32.toNatClampNeg (((zI S 2 th) + (zI S 3 th)) - ((zI S 2 th) + (zI S 3 th)) / 8 * 8)) (vp_nar .boolean x2))) 3 th ((zI S 3 th) + 1)))) rfl ?_
    cases hm
    exact go_end rfl rfl
theorem ehyQ_add {th : Nat} {S : hS} {x1 : Int32} {x2 : Int32} {S' : hS} (hm : yQ_add S th x1 x2 = some S') : Ex S S' := by
  unfold yQ_add at hm
  have hx : Ex S S := Ex_r
  replace hm := zgd hm
  obtain ⟨b1, hm⟩ := hm
  by_cases q2 : 8 ≤ zI S 3 th
  · rw [if_pos q2] at hm
    cases hm
    exact hx
  · rw [if_neg q2] at hm
    replace hm := zlb_inv hm
    obtain ⟨o1, eo1, hm⟩ := hm
    replace hm := zob_inv hm
    obtain ⟨a2, rfl, hm⟩ := hm
    replace hm := zgd hm
    obtain ⟨b3, hm⟩ := hm
    replace hm := zgd hm
    obtain ⟨b4, hm⟩ := hm
    replace hm := zlb_inv hm
    obtain ⟨o3, eo3, hm⟩ := hm
    replace hm := zob_inv hm
    obtain ⟨a4, rfl, hm⟩ := hm
    replace hm := zgd hm
    obtain ⟨b5, hm⟩ := hm
    replace hm := zgd hm
    obtain ⟨b6, hm⟩ := hm
    cases hm
    exact hx
def yT_enqueue (S : hS) (th : Nat) (x1 : Int32) (x2 : Int32) (x3 : Int32) (x4 : Int32) : Option (hS × Int32) := (if ztg S th = 9 then (zcP (yT_queueOf S th x1 x2) fun S1 o1 => (zob o1 fun a2 => (if ztg S1 a2 = 7 then (if ztg S1 th = 9 then (if zI S1 3 a2 < zI S1 4 th then (zcV (yQ_add S1 a2 x3 x4) fun S3 => (some (S3, 1))) else (some (S1, 0))) else none) else none))) else none)
theorem hyT_enqueue {X : ie_X} {d th : Nat} {S : hS} {x1 : Int32} {x2 : Int32} {x3 : Int32} {x4 : Int32} {S' : hS} {r : Int32} (hm : yT_enqueue S th x1 x2 x3 x4 = some (S', r)) : Go X (d + 1) 103 (0, ie_en 103 [.ref th, .int x1, .int x2, .int x3, .int x4], [], zhp S) (.inl (some (.int r))) (zhp S') := by
  unfold yT_enqueue at hm
  refine go_run 0 (F' := (0, [some (.ref th), some (.int x1), some (.int x2), some (.int x3), some (.int x4), none], [], zhp S)) rfl ?_
  refine go_run 3 (F' := (3, [some (.ref th), some (.int x1), some (.int x2), some (.int x3), some (.int x4), none], [.int x2, .int x1, .ref th], zhp S)) rfl ?_
  replace hm := zgd hm
  obtain ⟨b1, hm⟩ := hm
  replace hm := zcP_inv hm
  obtain ⟨S1, o1, e1, hm⟩ := hm
  have k1 := hyT_queueOf (X := X) (d := d) e1
  refine go_call (m' := 104) (as := [.ref th, .int x1, .int x2]) (rest := []) (v := some (va_rf o1)) (h1 := zhp S1) rfl (by simp only [ie_step, ie_iv, List.drop, zhp_obj (S := S) b1 (by decide)]; rfl) ⟨rfl, Nat.le_of_ble_eq_true rfl⟩ k1 ?_
  refine go_run 0 (F' := (6, [some (.ref th), some (.int x1), some (.int x2), some (.int x3), some (.int x4), none], [va_rf o1], zhp S1)) rfl ?_
  refine go_run 0 (F' := (6, [some (.ref th), some (.int x1), some (.int x2), some (.int x3), some (.int x4), none], [va_rf o1], zhp S1)) rfl ?_
  refine go_as2 rfl ?_
  refine go_run 0 (F' := (8, [some (.ref th), some (.int x1), some (.int x2), some (.int x3), some (.int x4), some (va_rf o1)], [], zhp S1)) rfl ?_
  refine go_al2 rfl rfl ?_
  refine go_run 0 (F' := (10, [some (.ref th), some (.int x1), some (.int x2), some (.int x3), some (.int x4), some (va_rf o1)], [va_rf o1], zhp S1)) rfl ?_
  replace hm := zob_inv hm
  obtain ⟨a2, rfl, hm⟩ := hm
  replace hm := zgd hm
  obtain ⟨b2, hm⟩ := hm
  refine go_hg (v := .int (zI S1 3 a2)) rfl b2 (by decide) rfl ?_
  refine go_run 1 (F' := (14, [some (.ref th), some (.int x1), some (.int x2), some (.int x3), some (.int x4), some (.ref a2)], [.ref th, .int (zI S1 3 a2)], zhp S1)) rfl ?_
  replace hm := zgd hm
  obtain ⟨b3, hm⟩ := hm
  refine go_hg (v := .int (zI S1 4 th)) rfl b3 (by decide) rfl ?_
  refine go_run 0 (F' := (17, [some (.ref th), some (.int x1), some (.int x2), some (.int x3), some (.int x4), some (.ref a2)], [.int (zI S1 4 th), .int (zI S1 3 a2)], zhp S1)) rfl ?_
  refine go_step rfl rfl ?_
  by_cases q4 : zI S1 3 a2 < zI S1 4 th
  · rw [if_pos q4] at hm ⊢
    refine go_run 0 (F' := (22, [some (.ref th), some (.int x1), some (.int x2), some (.int x3), some (.int x4), some (.ref a2)], [], zhp S1)) rfl ?_
    refine go_run 3 (F' := (27, [some (.ref th), some (.int x1), some (.int x2), some (.int x3), some (.int x4), some (.ref a2)], [.int x4, .int x3, .ref a2], zhp S1)) rfl ?_
    replace hm := zcV_inv hm
    obtain ⟨S3, e3, hm⟩ := hm
    have k3 := hyQ_add (X := X) (d := d) e3
    refine go_call (m' := 105) (as := [.ref a2, .int x3, .int x4]) (rest := []) (v := none) (h1 := zhp S3) rfl (by simp only [ie_step, ie_iv, List.drop, zhp_obj (S := S1) b2 (by decide)]; rfl) ⟨rfl, Nat.le_of_ble_eq_true rfl⟩ k3 ?_
    refine go_run 0 (F' := (30, [some (.ref th), some (.int x1), some (.int x2), some (.int x3), some (.int x4), some (.ref a2)], [], zhp S3)) rfl ?_
    refine go_run 1 (F' := (31, [some (.ref th), some (.int x1), some (.int x2), some (.int x3), some (.int x4), some (.ref a2)], [.int 1], zhp S3)) rfl ?_
    cases hm
    exact go_end rfl rfl
  · rw [if_neg q4] at hm ⊢
    refine go_run 0 (F' := (20, [some (.ref th), some (.int x1), some (.int x2), some (.int x3), some (.int x4), some (.ref a2)], [], zhp S1)) rfl ?_
    refine go_run 1 (F' := (21, [some (.ref th), some (.int x1), some (.int x2), some (.int x3), some (.int x4), some (.ref a2)], [.int 0], zhp S1)) rfl ?_
    cases hm
    exact go_end rfl rfl
theorem ehyT_enqueue {th : Nat} {S : hS} {x1 : Int32} {x2 : Int32} {x3 : Int32} {x4 : Int32} {S' : hS} {r : Int32} (hm : yT_enqueue S th x1 x2 x3 x4 = some (S', r)) : Ex S S' := by
  unfold yT_enqueue at hm
  have hx : Ex S S := Ex_r
  replace hm := zgd hm
  obtain ⟨b1, hm⟩ := hm
  replace hm := zcP_inv hm
  obtain ⟨S1, o1, e1, hm⟩ := hm
  have hx := Ex_t (T := S) hx (ehyT_queueOf e1)
  replace hm := zob_inv hm
  obtain ⟨a2, rfl, hm⟩ := hm
  replace hm := zgd hm
  obtain ⟨b2, hm⟩ := hm
  replace hm := zgd hm
  obtain ⟨b3, hm⟩ := hm
  by_cases q4 : zI S1 3 a2 < zI S1 4 th
  · rw [if_pos q4] at hm
    replace hm := zcV_inv hm
    obtain ⟨S3, e3, hm⟩ := hm
    have hx := Ex_t (T := S1) hx (ehyQ_add e3)
    cases hm
    exact hx
  · rw [if_neg q4] at hm
    cases hm
    exact hx
def yT_send (S : hS) (th : Nat) (x1 : Int32) (p2 : Option Nat) (x3 : Int32) (x4 : Int32) : Option (hS × Int32) := (zob p2 fun a1 => (if ztg S a1 = 2 then (if ztg S th = 9 then (zcP (yT_enqueue S th x1 (zI S 3 a1) x3 x4) fun S2 v2 => (if v2 = 0 then (some (S2, 0)) else (if ztg S2 th = 9 then (zlb (zR S2 0 th) fun o3 => (zob o3 fun a4 => (if zar S2 a4 then (if ib x1 (zLen S2 a4) then (zlb ((zAR S2 a4) (Int32.toNatClampNeg x1)) fun o5 => (if ztg S2 a1 = 2 then (zlb (zR S2 9 a1) fun o6 => (zob o5 fun a7 => (if ztg S2 a7 = 5 then (some (szR S2 2 a7 o6, 1)) else none))) else none)) else none) else none))) else none))) else none) else none))
theorem hyT_send {X : ie_X} {d th : Nat} {S : hS} {x1 : Int32} {p2 : Option Nat} {x3 : Int32} {x4 : Int32} {S' : hS} {r : Int32} (hm : yT_send S th x1 p2 x3 x4 = some (S', r)) : Go X (d + 2) 102 (0, ie_en 102 [.ref th, .int x1, va_rf p2, .int x3, .int x4], [], zhp S) (.inl (some (.int r))) (zhp S') := by
  unfold yT_send at hm
  refine go_run 0 (F' := (0, [some (.ref th), some (.int x1), some (va_rf p2), some (.int x3), some (.int x4)], [], zhp S)) (by cases p2 <;> rfl) ?_
  refine go_run 2 (F' := (2, [some (.ref th), some (.int x1), some (va_rf p2), some (.int x3), some (.int x4)], [.int x1, .ref th], zhp S)) rfl ?_
  refine go_al rfl rfl ?_
  refine go_run 0 (F' := (3, [some (.ref th), some (.int x1), some (va_rf p2), some (.int x3), some (.int x4)], [va_rf p2, .int x1, .ref th], zhp S)) rfl ?_
  replace hm := zob_inv hm
  obtain ⟨a1, rfl, hm⟩ := hm
  replace hm := zgd hm
  obtain ⟨b1, hm⟩ := hm
  refine go_hg (v := .int (zI S 3 a1)) rfl b1 (by decide) rfl ?_
  refine go_run 2 (F' := (9, [some (.ref th), some (.int x1), some (.ref a1), some (.int x3), some (.int x4)], [.int x4, .int x3, .int (zI S 3 a1), .int x1, .ref th], zhp S)) rfl ?_
  replace hm := zgd hm
  obtain ⟨b2, hm⟩ := hm
  replace hm := zcP_inv hm
  obtain ⟨S2, v2, e2, hm⟩ := hm
  have k2 := hyT_enqueue (X := X) (d := d) e2
  refine go_call (m' := 103) (as := [.ref th, .int x1, .int (zI S 3 a1), .int x3, .int x4]) (rest := []) (v := some (.int v2)) (h1 := zhp S2) rfl (by simp only [ie_step, ie_iv, List.drop, zhp_obj (S := S) b2 (by decide)]; rfl) ⟨rfl, Nat.le_of_ble_eq_true rfl⟩ k2 ?_
  refine go_run 0 (F' := (12, [some (.ref th), some (.int x1), some (.ref a1), some (.int x3), some (.int x4)], [.int v2], zhp S2)) rfl ?_
  refine go_run 0 (F' := (12, [some (.ref th), some (.int x1), some (.ref a1), some (.int x3), some (.int x4)], [.int v2], zhp S2)) rfl ?_
  refine go_step rfl rfl ?_
  by_cases q3 : v2 = 0
  · rw [if_pos q3] at hm ⊢
    refine go_run 0 (F' := (15, [some (.ref th), some (.int x1), some (.ref a1), some (.int x3), some (.int x4)], [], zhp S2)) rfl ?_
    refine go_run 1 (F' := (16, [some (.ref th), some (.int x1), some (.ref a1), some (.int x3), some (.int x4)], [.int 0], zhp S2)) rfl ?_
    cases hm
    exact go_end rfl rfl
  · rw [if_neg q3] at hm ⊢
    refine go_run 0 (F' := (17, [some (.ref th), some (.int x1), some (.ref a1), some (.int x3), some (.int x4)], [], zhp S2)) rfl ?_
    refine go_run 1 (F' := (18, [some (.ref th), some (.int x1), some (.ref a1), some (.int x3), some (.int x4)], [.ref th], zhp S2)) rfl ?_
    replace hm := zgd hm
    obtain ⟨b4, hm⟩ := hm
    replace hm := zlb_inv hm
    obtain ⟨o3, eo3, hm⟩ := hm
    refine go_hg (v := va_rf o3) rfl b4 (by decide) (by rw [← eo3]; rfl) ?_
    refine go_run 1 (F' := (22, [some (.ref th), some (.int x1), some (.ref a1), some (.int x3), some (.int x4)], [.int x1, va_rf o3], zhp S2)) rfl ?_
    replace hm := zob_inv hm
    obtain ⟨a4, rfl, hm⟩ := hm
    replace hm := zgd hm
    obtain ⟨b5, hm⟩ := hm
    replace hm := zgd hm
    obtain ⟨b6, hm⟩ := hm
    replace hm := zlb_inv hm
    obtain ⟨o5, eo5, hm⟩ := hm
    refine go_haald rfl b5 b6 rfl eo5 ?_
    refine go_run 1 (F' := (24, [some (.ref th), some (.int x1), some (.ref a1), some (.int x3), some (.int x4)], [.ref a1, va_rf o5], zhp S2)) rfl ?_
    replace hm := zgd hm
    obtain ⟨b7, hm⟩ := hm
    replace hm := zlb_inv hm
    obtain ⟨o6, eo6, hm⟩ := hm
    refine go_hg (v := va_rf o6) rfl b7 (by decide) (by rw [← eo6]; rfl) ?_
    refine go_run 0 (F' := (27, [some (.ref th), some (.int x1), some (.ref a1), some (.int x3), some (.int x4)], [va_rf o6, va_rf o5], zhp S2)) rfl ?_
    replace hm := zob_inv hm
    obtain ⟨a7, rfl, hm⟩ := hm
    replace hm := zgd hm
    obtain ⟨b8, hm⟩ := hm
    refine go_hpR (v := o6) rfl b8 (by decide) (by cases o6 <;> rfl) (Nat.le_of_ble_eq_true rfl) fs_4_2 ?_
    refine go_run 1 (F' := (31, [some (.ref th), some (.int x1), some (.ref a1), some (.int x3), some (.int x4)], [.int 1], zhp (szR S2 2 a7 o6))) rfl ?_
    cases hm
    exact go_end rfl rfl
theorem ehyT_send {th : Nat} {S : hS} {x1 : Int32} {p2 : Option Nat} {x3 : Int32} {x4 : Int32} {S' : hS} {r : Int32} (hm : yT_send S th x1 p2 x3 x4 = some (S', r)) : Ex S S' := by
  unfold yT_send at hm
  have hx : Ex S S := Ex_r
  replace hm := zob_inv hm
  obtain ⟨a1, rfl, hm⟩ := hm
  replace hm := zgd hm
  obtain ⟨b1, hm⟩ := hm
  replace hm := zgd hm
  obtain ⟨b2, hm⟩ := hm
  replace hm := zcP_inv hm
  obtain ⟨S2, v2, e2, hm⟩ := hm
  have hx := Ex_t (T := S) hx (ehyT_enqueue e2)
  by_cases q3 : v2 = 0
  · rw [if_pos q3] at hm
    cases hm
    exact hx
  · rw [if_neg q3] at hm
    replace hm := zgd hm
    obtain ⟨b4, hm⟩ := hm
    replace hm := zlb_inv hm
    obtain ⟨o3, eo3, hm⟩ := hm
    replace hm := zob_inv hm
    obtain ⟨a4, rfl, hm⟩ := hm
    replace hm := zgd hm
    obtain ⟨b5, hm⟩ := hm
    replace hm := zgd hm
    obtain ⟨b6, hm⟩ := hm
    replace hm := zlb_inv hm
    obtain ⟨o5, eo5, hm⟩ := hm
    replace hm := zgd hm
    obtain ⟨b7, hm⟩ := hm
    replace hm := zlb_inv hm
    obtain ⟨o6, eo6, hm⟩ := hm
    replace hm := zob_inv hm
    obtain ⟨a7, rfl, hm⟩ := hm
    replace hm := zgd hm
    obtain ⟨b8, hm⟩ := hm
    cases hm
    exact hx
def yA_enter (S : hS) (th : Nat) (x1 : Int32) : Option (hS × Option Nat) := (if ztg S th = 2 then (zcP (yA_hasPart S th x1) fun S1 v1 => (if v1 = 0 then (if ztg S1 th = 2 then (zcP (yA_comesAgain S1 th) fun S2 v2 => (if v2 = 0 then (if ztg S2 th = 2 then (zlb (zR S2 9 th) fun o3 => (some (S2, o3))) else none) else (some (S2, some th)))) else none) else (if ztg S1 th = 2 then (zlb (zR S1 6 th) fun o4 => (zob o4 fun a5 => (if zar S1 a5 then (if ib x1 (zLen S1 a5) then (zlb ((zAR S1 a5) (Int32.toNatClampNeg x1)) fun o6 => (zoc o6 (zcP (yA_comesAgain S1 th) fun S8 v8 => (if v8 = 0 then (if ztg S8 th = 2 then (zlb (zR S8 9 th) fun o9 => (some (S8, o9))) else none) else (some (S8, some th)))) fun a7 => (zlb (zR S1 6 th) fun o10 => (zob o10 fun a11 => (if zar S1 a11 then (if ib x1 (zLen S1 a11) then (zlb ((zAR S1 a11) (Int32.toNatClampNeg x1)) fun o12 => (some (S1, o12))) else none) else none))))) else none) else none))) else none))) else none)
theorem hyA_enter {X : ie_X} {d th : Nat} {S : hS} {x1 : Int32} {S' : hS} {r : Option Nat} (hm : yA_enter S th x1 = some (S', r)) : Go X (d + 1) 106 (0, ie_en 106 [.ref th, .int x1], [], zhp S) (.inl (some (va_rf r))) (zhp S') := by
  unfold yA_enter at hm
  refine go_run 0 (F' := (0, [some (.ref th), some (.int x1)], [], zhp S)) rfl ?_
  refine go_run 2 (F' := (2, [some (.ref th), some (.int x1)], [.int x1, .ref th], zhp S)) rfl ?_
  replace hm := zgd hm
  obtain ⟨b1, hm⟩ := hm
  replace hm := zcP_inv hm
  obtain ⟨S1, v1, e1, hm⟩ := hm
  have k1 := hyA_hasPart (X := X) (d := d) e1
  refine go_call (m' := 55) (as := [.ref th, .int x1]) (rest := []) (v := some (.int v1)) (h1 := zhp S1) rfl (by simp only [ie_step, ie_iv, List.drop, zhp_obj (S := S) b1 (by decide)]; rfl) ⟨rfl, Nat.le_of_ble_eq_true rfl⟩ k1 ?_
  refine go_run 0 (F' := (5, [some (.ref th), some (.int x1)], [.int v1], zhp S1)) rfl ?_
  refine go_run 0 (F' := (5, [some (.ref th), some (.int x1)], [.int v1], zhp S1)) rfl ?_
  refine go_step rfl rfl ?_
  by_cases q2 : v1 = 0
  · rw [if_pos q2] at hm ⊢
    refine go_run 0 (F' := (24, [some (.ref th), some (.int x1)], [], zhp S1)) rfl ?_
    refine go_run 1 (F' := (25, [some (.ref th), some (.int x1)], [.ref th], zhp S1)) rfl ?_
    replace hm := zgd hm
    obtain ⟨b3, hm⟩ := hm
    replace hm := zcP_inv hm
    obtain ⟨S2, v2, e2, hm⟩ := hm
    have k2 := hyA_comesAgain (X := X) (d := d) e2
    refine go_call (m' := 66) (as := [.ref th]) (rest := []) (v := some (.int v2)) (h1 := zhp S2) rfl (by simp only [ie_step, ie_iv, List.drop, zhp_obj (S := S1) b3 (by decide)]; rfl) ⟨rfl, Nat.le_of_ble_eq_true rfl⟩ k2 ?_
    refine go_run 0 (F' := (28, [some (.ref th), some (.int x1)], [.int v2], zhp S2)) rfl ?_
    refine go_run 0 (F' := (28, [some (.ref th), some (.int x1)], [.int v2], zhp S2)) rfl ?_
    refine go_step rfl rfl ?_
    by_cases q4 : v2 = 0
    · rw [if_pos q4] at hm ⊢
      refine go_run 0 (F' := (35, [some (.ref th), some (.int x1)], [], zhp S2)) rfl ?_
      refine go_run 1 (F' := (36, [some (.ref th), some (.int x1)], [.ref th], zhp S2)) rfl ?_
      replace hm := zgd hm
      obtain ⟨b5, hm⟩ := hm
      replace hm := zlb_inv hm
      obtain ⟨o3, eo3, hm⟩ := hm
      refine go_hg (v := va_rf o3) rfl b5 (by decide) (by rw [← eo3]; rfl) ?_
      refine go_run 0 (F' := (39, [some (.ref th), some (.int x1)], [va_rf o3], zhp S2)) rfl ?_
      cases hm
      exact go_reta rfl rfl rfl (fun _ => rfl)
    · rw [if_neg q4] at hm ⊢
      refine go_run 0 (F' := (31, [some (.ref th), some (.int x1)], [], zhp S2)) rfl ?_
      refine go_run 2 (F' := (39, [some (.ref th), some (.int x1)], [.ref th], zhp S2)) rfl ?_
      cases hm
      exact go_end rfl rfl
  · rw [if_neg q2] at hm ⊢
    refine go_run 0 (F' := (8, [some (.ref th), some (.int x1)], [], zhp S1)) rfl ?_
    refine go_run 1 (F' := (9, [some (.ref th), some (.int x1)], [.ref th], zhp S1)) rfl ?_
    replace hm := zgd hm
    obtain ⟨b6, hm⟩ := hm
    replace hm := zlb_inv hm
    obtain ⟨o4, eo4, hm⟩ := hm
    refine go_hg (v := va_rf o4) rfl b6 (by decide) (by rw [← eo4]; rfl) ?_
    refine go_run 1 (F' := (13, [some (.ref th), some (.int x1)], [.int x1, va_rf o4], zhp S1)) rfl ?_
    replace hm := zob_inv hm
    obtain ⟨a5, rfl, hm⟩ := hm
    replace hm := zgd hm
    obtain ⟨b7, hm⟩ := hm
    replace hm := zgd hm
    obtain ⟨b8, hm⟩ := hm
    replace hm := zlb_inv hm
    obtain ⟨o6, eo6, hm⟩ := hm
    refine go_haald rfl b7 b8 rfl eo6 ?_
    refine go_run 0 (F' := (14, [some (.ref th), some (.int x1)], [va_rf o6], zhp S1)) rfl ?_
    cases o6 with
    | none =>
      replace hm := zoc_n hm
      refine go_step rfl rfl ?_
      refine go_run 0 (F' := (24, [some (.ref th), some (.int x1)], [], zhp S1)) rfl ?_
      refine go_run 1 (F' := (25, [some (.ref th), some (.int x1)], [.ref th], zhp S1)) rfl ?_
      replace hm := zcP_inv hm
      obtain ⟨S8, v8, e8, hm⟩ := hm
      have k8 := hyA_comesAgain (X := X) (d := d) e8
      refine go_call (m' := 66) (as := [.ref th]) (rest := []) (v := some (.int v8)) (h1 := zhp S8) rfl (by simp only [ie_step, ie_iv, List.drop, zhp_obj (S := S1) b6 (by decide)]; rfl) ⟨rfl, Nat.le_of_ble_eq_true rfl⟩ k8 ?_
      refine go_run 0 (F' := (28, [some (.ref th), some (.int x1)], [.int v8], zhp S8)) rfl ?_
      refine go_run 0 (F' := (28, [some (.ref th), some (.int x1)], [.int v8], zhp S8)) rfl ?_
      refine go_step rfl rfl ?_
      by_cases q9 : v8 = 0
      · rw [if_pos q9] at hm ⊢
        refine go_run 0 (F' := (35, [some (.ref th), some (.int x1)], [], zhp S8)) rfl ?_
        refine go_run 1 (F' := (36, [some (.ref th), some (.int x1)], [.ref th], zhp S8)) rfl ?_
        replace hm := zgd hm
        obtain ⟨b10, hm⟩ := hm
        replace hm := zlb_inv hm
        obtain ⟨o9, eo9, hm⟩ := hm
        refine go_hg (v := va_rf o9) rfl b10 (by decide) (by rw [← eo9]; rfl) ?_
        refine go_run 0 (F' := (39, [some (.ref th), some (.int x1)], [va_rf o9], zhp S8)) rfl ?_
        cases hm
        exact go_reta rfl rfl rfl (fun _ => rfl)
      · rw [if_neg q9] at hm ⊢
        refine go_run 0 (F' := (31, [some (.ref th), some (.int x1)], [], zhp S8)) rfl ?_
        refine go_run 2 (F' := (39, [some (.ref th), some (.int x1)], [.ref th], zhp S8)) rfl ?_
        cases hm
        exact go_end rfl rfl
    | some a7 =>
      replace hm := zoc_s hm
      refine go_step rfl rfl ?_
      refine go_run 0 (F' := (17, [some (.ref th), some (.int x1)], [], zhp S1)) rfl ?_
      refine go_run 1 (F' := (18, [some (.ref th), some (.int x1)], [.ref th], zhp S1)) rfl ?_
      replace hm := zlb_inv hm
      obtain ⟨o10, eo10, hm⟩ := hm
      refine go_hg (v := va_rf o10) rfl b6 (by decide) (by rw [← eo10]; rfl) ?_
      refine go_run 1 (F' := (22, [some (.ref th), some (.int x1)], [.int x1, va_rf o10], zhp S1)) rfl ?_
      replace hm := zob_inv hm
      obtain ⟨a11, rfl, hm⟩ := hm
      replace hm := zgd hm
      obtain ⟨b11, hm⟩ := hm
      replace hm := zgd hm
      obtain ⟨b12, hm⟩ := hm
      replace hm := zlb_inv hm
      obtain ⟨o12, eo12, hm⟩ := hm
      refine go_haald rfl b11 b12 rfl eo12 ?_
      refine go_run 0 (F' := (23, [some (.ref th), some (.int x1)], [va_rf o12], zhp S1)) rfl ?_
      cases hm
      exact go_reta rfl rfl rfl (fun _ => rfl)
theorem ehyA_enter {th : Nat} {S : hS} {x1 : Int32} {S' : hS} {r : Option Nat} (hm : yA_enter S th x1 = some (S', r)) : Ex S S' := by
  unfold yA_enter at hm
  have hx : Ex S S := Ex_r
  replace hm := zgd hm
  obtain ⟨b1, hm⟩ := hm
  replace hm := zcP_inv hm
  obtain ⟨S1, v1, e1, hm⟩ := hm
  have hx := Ex_t (T := S) hx (ehyA_hasPart e1)
  by_cases q2 : v1 = 0
  · rw [if_pos q2] at hm
    replace hm := zgd hm
    obtain ⟨b3, hm⟩ := hm
    replace hm := zcP_inv hm
    obtain ⟨S2, v2, e2, hm⟩ := hm
    have hx := Ex_t (T := S1) hx (ehyA_comesAgain e2)
    by_cases q4 : v2 = 0
    · rw [if_pos q4] at hm
      replace hm := zgd hm
      obtain ⟨b5, hm⟩ := hm
      replace hm := zlb_inv hm
      obtain ⟨o3, eo3, hm⟩ := hm
      cases hm
      exact hx
    · rw [if_neg q4] at hm
      cases hm
      exact hx
  · rw [if_neg q2] at hm
    replace hm := zgd hm
    obtain ⟨b6, hm⟩ := hm
    replace hm := zlb_inv hm
    obtain ⟨o4, eo4, hm⟩ := hm
    replace hm := zob_inv hm
    obtain ⟨a5, rfl, hm⟩ := hm
    replace hm := zgd hm
    obtain ⟨b7, hm⟩ := hm
    replace hm := zgd hm
    obtain ⟨b8, hm⟩ := hm
    replace hm := zlb_inv hm
    obtain ⟨o6, eo6, hm⟩ := hm
    cases o6 with
    | none =>
      replace hm := zoc_n hm
      replace hm := zcP_inv hm
      obtain ⟨S8, v8, e8, hm⟩ := hm
      have hx := Ex_t (T := S1) hx (ehyA_comesAgain e8)
      by_cases q9 : v8 = 0
      · rw [if_pos q9] at hm
        replace hm := zgd hm
        obtain ⟨b10, hm⟩ := hm
        replace hm := zlb_inv hm
        obtain ⟨o9, eo9, hm⟩ := hm
        cases hm
        exact hx
      · rw [if_neg q9] at hm
        cases hm
        exact hx
    | some a7 =>
      replace hm := zoc_s hm
      replace hm := zlb_inv hm
      obtain ⟨o10, eo10, hm⟩ := hm
      replace hm := zob_inv hm
      obtain ⟨a11, rfl, hm⟩ := hm
      replace hm := zgd hm
      obtain ⟨b11, hm⟩ := hm
      replace hm := zgd hm
      obtain ⟨b12, hm⟩ := hm
      replace hm := zlb_inv hm
      obtain ⟨o12, eo12, hm⟩ := hm
      cases hm
      exact hx
