def yC_toldPart (S : hS) (x1 : Int32) (p2 : Option Nat) (p3 : Option Nat) : Option (hS × Option Nat) := (zcP (yA_hear S x1) fun S1 o1 => (zob o1 fun a2 => (if ztg S1 a2 = 2 then (zcV (yA_setPart S1 a2 1 p2) fun S3 => (if ztg S3 a2 = 2 then (zcV (yA_setPart S3 a2 0 p3) fun S4 => (some (S4, some a2))) else none)) else none)))
theorem hyC_toldPart {X : ie_X} {d : Nat} {S : hS} {x1 : Int32} {p2 : Option Nat} {p3 : Option Nat} {S' : hS} {r : Option Nat} (hm : yC_toldPart S x1 p2 p3 = some (S', r)) : Go X (d + 3) 60 (0, ie_en 60 [.int x1, va_rf p2, va_rf p3], [], zhp S) (.inl (some (va_rf r))) (zhp S') := by
  unfold yC_toldPart at hm
  refine go_run 0 (F' := (0, [some (.int x1), some (va_rf p2), some (va_rf p3), none], [], zhp S)) (by cases p2 <;> cases p3 <;> rfl) ?_
  refine go_run 1 (F' := (1, [some (.int x1), some (va_rf p2), some (va_rf p3), none], [.int x1], zhp S)) rfl ?_
  replace hm := zcP_inv hm
  obtain ⟨S1, o1, e1, hm⟩ := hm
  have k1 := hyA_hear (X := X) (d := d) e1
  refine go_call (m' := 47) (as := [.int x1]) (rest := []) (v := some (va_rf o1)) (h1 := zhp S1) rfl rfl ⟨rfl, Nat.le_of_ble_eq_true rfl⟩ k1 ?_
  refine go_run 0 (F' := (4, [some (.int x1), some (va_rf p2), some (va_rf p3), none], [va_rf o1], zhp S1)) rfl ?_
  refine go_run 0 (F' := (4, [some (.int x1), some (va_rf p2), some (va_rf p3), none], [va_rf o1], zhp S1)) rfl ?_
  refine go_as rfl ?_
  refine go_run 0 (F' := (5, [some (.int x1), some (va_rf p2), some (va_rf p3), some (va_rf o1)], [], zhp S1)) rfl ?_
  refine go_al rfl rfl ?_
  refine go_run 1 (F' := (7, [some (.int x1), some (va_rf p2), some (va_rf p3), some (va_rf o1)], [.int 1, va_rf o1], zhp S1)) rfl ?_
  refine go_al rfl rfl ?_
  refine go_run 0 (F' := (8, [some (.int x1), some (va_rf p2), some (va_rf p3), some (va_rf o1)], [va_rf p2, .int 1, va_rf o1], zhp S1)) rfl ?_
  replace hm := zob_inv hm
  obtain ⟨a2, rfl, hm⟩ := hm
  refine go_run 0 (F' := (8, [some (.int x1), some (va_rf p2), some (va_rf p3), some (.ref a2)], [va_rf p2, .int 1, .ref a2], zhp S1)) rfl ?_
  replace hm := zgd hm
  obtain ⟨b1, hm⟩ := hm
  replace hm := zcV_inv hm
  obtain ⟨S3, e3, hm⟩ := hm
  have k3 := hyA_setPart (X := X) (d := d + 2) e3
  refine go_call (m' := 43) (as := [.ref a2, .int 1, va_rf p2]) (rest := []) (v := none) (h1 := zhp S3) rfl (by simp only [ie_step, ie_iv, List.drop, zhp_obj (S := S1) b1 (by decide)]; rfl) ⟨by cases p2 <;> rfl, by cases p2 <;> exact Nat.le_of_ble_eq_true rfl⟩ k3 ?_
  refine go_run 0 (F' := (11, [some (.int x1), some (va_rf p2), some (va_rf p3), some (.ref a2)], [], zhp S3)) rfl ?_
  refine go_run 2 (F' := (13, [some (.int x1), some (va_rf p2), some (va_rf p3), some (.ref a2)], [.int 0, .ref a2], zhp S3)) rfl ?_
  refine go_al rfl rfl ?_
  refine go_run 0 (F' := (14, [some (.int x1), some (va_rf p2), some (va_rf p3), some (.ref a2)], [va_rf p3, .int 0, .ref a2], zhp S3)) rfl ?_
  replace hm := zgd hm
  obtain ⟨b2, hm⟩ := hm
  replace hm := zcV_inv hm
  obtain ⟨S4, e4, hm⟩ := hm
  have k4 := hyA_setPart (X := X) (d := d + 2) e4
  refine go_call (m' := 43) (as := [.ref a2, .int 0, va_rf p3]) (rest := []) (v := none) (h1 := zhp S4) rfl (by simp only [ie_step, ie_iv, List.drop, zhp_obj (S := S3) b2 (by decide)]; rfl) ⟨by cases p3 <;> rfl, by cases p3 <;> exact Nat.le_of_ble_eq_true rfl⟩ k4 ?_
  refine go_run 0 (F' := (17, [some (.int x1), some (va_rf p2), some (va_rf p3), some (.ref a2)], [], zhp S4)) rfl ?_
  refine go_run 1 (F' := (18, [some (.int x1), some (va_rf p2), some (va_rf p3), some (.ref a2)], [.ref a2], zhp S4)) rfl ?_
  cases hm
  exact go_end rfl rfl
theorem ehyC_toldPart {S : hS} {x1 : Int32} {p2 : Option Nat} {p3 : Option Nat} {S' : hS} {r : Option Nat} (hm : yC_toldPart S x1 p2 p3 = some (S', r)) : Ex S S' := by
  unfold yC_toldPart at hm
  have hx : Ex S S := Ex_r
  replace hm := zcP_inv hm
  obtain ⟨S1, o1, e1, hm⟩ := hm
  have hx := Ex_t (T := S) hx (ehyA_hear e1)
  replace hm := zob_inv hm
  obtain ⟨a2, rfl, hm⟩ := hm
  replace hm := zgd hm
  obtain ⟨b1, hm⟩ := hm
  replace hm := zcV_inv hm
  obtain ⟨S3, e3, hm⟩ := hm
  have hx := Ex_t (T := S1) hx (ehyA_setPart e3)
  replace hm := zgd hm
  obtain ⟨b2, hm⟩ := hm
  replace hm := zcV_inv hm
  obtain ⟨S4, e4, hm⟩ := hm
  have hx := Ex_t (T := S3) hx (ehyA_setPart e4)
  cases hm
  exact hx
def yA_joinParts_2 (rc : hS → Option Nat → Option Nat → Int32 → Option (hS)) : Nat → hS → Option Nat → Option Nat → Int32 → Int32 → Option (hS)
  | 0, _, _, _, _, _ => none
  | n + 1, S, p0, p1, l2, l3 => (zob p1 fun a1 => (if ztg S a1 = 2 then (zlb (zR S 6 a1) fun o2 => (zob o2 fun a3 => (if zal S a3 then (if Int32.ofNat (zLen S a3) ≤ l3 then (some S) else (zob p0 fun a4 => (if ztg S a4 = 2 then (zcP (yA_hasPart S a4 l3) fun S5 v5 => (if v5 = 0 then (if ztg S5 a1 = 2 then (zcP (yA_hasPart S5 a1 l3) fun S6 v6 => (if v6 = 0 then (yA_joinParts_2 rc n S6 (some a4) (some a1) l2 (l3 + 1)) else (if ztg S6 a1 = 2 then (zlb (zR S6 6 a1) fun o7 => (zob o7 fun a8 => (if zar S6 a8 then (if ib l3 (zLen S6 a8) then (zlb ((zAR S6 a8) (Int32.toNatClampNeg l3)) fun o9 => (if ztg S6 a4 = 2 then (zcV (yA_setPart S6 a4 l3 o9) fun S10 => (yA_joinParts_2 rc n S10 (some a4) (some a1) l2 (l3 + 1))) else none)) else none) else none))) else none))) else none) else (if ztg S5 a1 = 2 then (zcP (yA_hasPart S5 a1 l3) fun S11 v11 => (if v11 = 0 then (if ztg S11 a1 = 2 then (zcP (yA_hasPart S11 a1 l3) fun S12 v12 => (if v12 = 0 then (yA_joinParts_2 rc n S12 (some a4) (some a1) l2 (l3 + 1)) else (if ztg S12 a1 = 2 then (zlb (zR S12 6 a1) fun o13 => (zob o13 fun a14 => (if zar S12 a14 then (if ib l3 (zLen S12 a14) then (zlb ((zAR S12 a14) (Int32.toNatClampNeg l3)) fun o15 => (if ztg S12 a4 = 2 then (zcV (yA_setPart S12 a4 l3 o15) fun S16 => (yA_joinParts_2 rc n S16 (some a4) (some a1) l2 (l3 + 1))) else none)) else none) else none))) else none))) else none) else (if ztg S11 a4 = 2 then (zlb (zR S11 6 a4) fun o17 => (zob o17 fun a18 => (if zar S11 a18 then (if ib l3 (zLen S11 a18) then (zlb ((zAR S11 a18) (Int32.toNatClampNeg l3)) fun o19 => (if ztg S11 a1 = 2 then (zlb (zR S11 6 a1) fun o20 => (zob o20 fun a21 => (if zar S11 a21 then (if ib l3 (zLen S11 a21) then (zlb ((zAR S11 a21) (Int32.toNatClampNeg l3)) fun o22 => (zcV (rc S11 o19 o22 (l2 + 1)) fun S23 => (yA_joinParts_2 rc n S23 (some a4) (some a1) l2 (l3 + 1)))) else none) else none))) else none)) else none) else none))) else none))) else none))) else none))) else none))) else none))
theorem hyA_joinParts_2 {X : ie_X} {e : Nat} {rc : hS → Option Nat → Option Nat → Int32 → Option (hS)} (hrc : ∀ {S : hS} {z1 : Option Nat} {z2 : Option Nat} {z3 : Int32} {S' : hS}, rc S z1 z2 z3 = some S' → Go X (e + 0) 61 (0, ie_en 61 [va_rf z1, va_rf z2, .int z3], [], zhp S) (.inl none) (zhp S')) : ∀ (n : Nat) {S : hS} {p0 : Option Nat} {p1 : Option Nat} {l2 : Int32} {l3 : Int32} {S' : hS}, yA_joinParts_2 rc n S p0 p1 l2 l3 = some S' → Go X (e + 1) 62 (2, [some (va_rf p0), some (va_rf p1), some (.int l2), some (.int l3)], [], zhp S) (.inl none) (zhp S') := by
  intro n
  induction n with
  | zero => intro S p0 p1 l2 l3 S'  hm; cases hm
  | succ n ih =>
    intro S p0 p1 l2 l3 S'  hm
    unfold yA_joinParts_2 at hm
    refine go_run 0 (F' := (2, [some (va_rf p0), some (va_rf p1), some (.int l2), some (.int l3)], [], zhp S)) rfl ?_
    refine go_run 1 (F' := (3, [some (va_rf p0), some (va_rf p1), some (.int l2), some (.int l3)], [.int l3], zhp S)) rfl ?_
    refine go_al rfl rfl ?_
    refine go_run 0 (F' := (4, [some (va_rf p0), some (va_rf p1), some (.int l2), some (.int l3)], [va_rf p1, .int l3], zhp S)) rfl ?_
    replace hm := zob_inv hm
    obtain ⟨a1, rfl, hm⟩ := hm
    replace hm := zgd hm
    obtain ⟨b1, hm⟩ := hm
    replace hm := zlb_inv hm
    obtain ⟨o2, eo2, hm⟩ := hm
    refine go_hg (v := va_rf o2) rfl b1 (by decide) (by rw [← eo2]; rfl) ?_
    refine go_run 0 (F' := (7, [some (va_rf p0), some (.ref a1), some (.int l2), some (.int l3)], [va_rf o2, .int l3], zhp S)) rfl ?_
    replace hm := zob_inv hm
    obtain ⟨a3, rfl, hm⟩ := hm
    replace hm := zgd hm
    obtain ⟨b2, hm⟩ := hm
    refine go_hlen rfl b2 ?_
    refine go_run 0 (F' := (8, [some (va_rf p0), some (.ref a1), some (.int l2), some (.int l3)], [.int (Int32.ofNat (zLen S a3)), .int l3], zhp S)) rfl ?_
    refine go_step rfl rfl ?_
    by_cases q3 : Int32.ofNat (zLen S a3) ≤ l3
    · rw [if_pos q3] at hm ⊢
      refine go_run 0 (F' := (73, [some (va_rf p0), some (.ref a1), some (.int l2), some (.int l3)], [], zhp S)) rfl ?_
      refine go_run 0 (F' := (73, [some (va_rf p0), some (.ref a1), some (.int l2), some (.int l3)], [], zhp S)) rfl ?_
      cases hm
      exact go_end rfl rfl
    · rw [if_neg q3] at hm ⊢
      refine go_run 0 (F' := (11, [some (va_rf p0), some (.ref a1), some (.int l2), some (.int l3)], [], zhp S)) rfl ?_
      refine go_run 0 (F' := (11, [some (va_rf p0), some (.ref a1), some (.int l2), some (.int l3)], [], zhp S)) rfl ?_
      refine go_al rfl rfl ?_
      refine go_run 1 (F' := (13, [some (va_rf p0), some (.ref a1), some (.int l2), some (.int l3)], [.int l3, va_rf p0], zhp S)) rfl ?_
      replace hm := zob_inv hm
      obtain ⟨a4, rfl, hm⟩ := hm
      refine go_run 0 (F' := (13, [some (.ref a4), some (.ref a1), some (.int l2), some (.int l3)], [.int l3, .ref a4], zhp S)) rfl ?_
      replace hm := zgd hm
      obtain ⟨b4, hm⟩ := hm
      replace hm := zcP_inv hm
      obtain ⟨S5, v5, e5, hm⟩ := hm
      have k5 := hyA_hasPart (X := X) (d := e) e5
      refine go_call (m' := 55) (as := [.ref a4, .int l3]) (rest := []) (v := some (.int v5)) (h1 := zhp S5) rfl (by simp only [ie_step, ie_iv, List.drop, zhp_obj (S := S) b4 (by decide)]; rfl) ⟨rfl, Nat.le_of_ble_eq_true rfl⟩ k5 ?_
      refine go_run 0 (F' := (16, [some (.ref a4), some (.ref a1), some (.int l2), some (.int l3)], [.int v5], zhp S5)) rfl ?_
      refine go_run 0 (F' := (16, [some (.ref a4), some (.ref a1), some (.int l2), some (.int l3)], [.int v5], zhp S5)) rfl ?_
      refine go_step rfl rfl ?_
      by_cases q5 : v5 = 0
      · rw [if_pos q5] at hm ⊢
        refine go_run 0 (F' := (48, [some (.ref a4), some (.ref a1), some (.int l2), some (.int l3)], [], zhp S5)) rfl ?_
        refine go_run 2 (F' := (50, [some (.ref a4), some (.ref a1), some (.int l2), some (.int l3)], [.int l3, .ref a1], zhp S5)) rfl ?_
        replace hm := zgd hm
        obtain ⟨b6, hm⟩ := hm
        replace hm := zcP_inv hm
        obtain ⟨S6, v6, e6, hm⟩ := hm
        have k6 := hyA_hasPart (X := X) (d := e) e6
        refine go_call (m' := 55) (as := [.ref a1, .int l3]) (rest := []) (v := some (.int v6)) (h1 := zhp S6) rfl (by simp only [ie_step, ie_iv, List.drop, zhp_obj (S := S5) b6 (by decide)]; rfl) ⟨rfl, Nat.le_of_ble_eq_true rfl⟩ k6 ?_
        refine go_run 0 (F' := (53, [some (.ref a4), some (.ref a1), some (.int l2), some (.int l3)], [.int v6], zhp S6)) rfl ?_
        refine go_run 0 (F' := (53, [some (.ref a4), some (.ref a1), some (.int l2), some (.int l3)], [.int v6], zhp S6)) rfl ?_
        refine go_step rfl rfl ?_
        by_cases q7 : v6 = 0
        · rw [if_pos q7] at hm ⊢
          refine go_run 0 (F' := (67, [some (.ref a4), some (.ref a1), some (.int l2), some (.int l3)], [], zhp S6)) rfl ?_
          refine go_run 2 (F' := (2, [some (va_rf (some a4)), some (va_rf (some a1)), some (.int l2), some (.int (l3 + 1))], [], zhp S6)) rfl ?_
          exact ih hm
        · rw [if_neg q7] at hm ⊢
          refine go_run 0 (F' := (56, [some (.ref a4), some (.ref a1), some (.int l2), some (.int l3)], [], zhp S6)) rfl ?_
          refine go_run 3 (F' := (59, [some (.ref a4), some (.ref a1), some (.int l2), some (.int l3)], [.ref a1, .int l3, .ref a4], zhp S6)) rfl ?_
          replace hm := zgd hm
          obtain ⟨b8, hm⟩ := hm
          replace hm := zlb_inv hm
          obtain ⟨o7, eo7, hm⟩ := hm
          refine go_hg (v := va_rf o7) rfl b8 (by decide) (by rw [← eo7]; rfl) ?_
          refine go_run 1 (F' := (63, [some (.ref a4), some (.ref a1), some (.int l2), some (.int l3)], [.int l3, va_rf o7, .int l3, .ref a4], zhp S6)) rfl ?_
          replace hm := zob_inv hm
          obtain ⟨a8, rfl, hm⟩ := hm
          replace hm := zgd hm
          obtain ⟨b9, hm⟩ := hm
          replace hm := zgd hm
          obtain ⟨b10, hm⟩ := hm
          replace hm := zlb_inv hm
          obtain ⟨o9, eo9, hm⟩ := hm
          refine go_haald rfl b9 b10 rfl eo9 ?_
          refine go_run 0 (F' := (64, [some (.ref a4), some (.ref a1), some (.int l2), some (.int l3)], [va_rf o9, .int l3, .ref a4], zhp S6)) rfl ?_
          replace hm := zgd hm
          obtain ⟨b11, hm⟩ := hm
          replace hm := zcV_inv hm
          obtain ⟨S10, e10, hm⟩ := hm
          have k10 := hyA_setPart (X := X) (d := e) e10
          refine go_call (m' := 43) (as := [.ref a4, .int l3, va_rf o9]) (rest := []) (v := none) (h1 := zhp S10) rfl (by simp only [ie_step, ie_iv, List.drop, zhp_obj (S := S6) b11 (by decide)]; rfl) ⟨by cases o9 <;> rfl, by cases o9 <;> exact Nat.le_of_ble_eq_true rfl⟩ k10 ?_
          refine go_run 0 (F' := (67, [some (.ref a4), some (.ref a1), some (.int l2), some (.int l3)], [], zhp S10)) rfl ?_
          refine go_run 2 (F' := (2, [some (va_rf (some a4)), some (va_rf (some a1)), some (.int l2), some (.int (l3 + 1))], [], zhp S10)) rfl ?_
          exact ih hm
      · rw [if_neg q5] at hm ⊢
        refine go_run 0 (F' := (19, [some (.ref a4), some (.ref a1), some (.int l2), some (.int l3)], [], zhp S5)) rfl ?_
        refine go_run 2 (F' := (21, [some (.ref a4), some (.ref a1), some (.int l2), some (.int l3)], [.int l3, .ref a1], zhp S5)) rfl ?_
        replace hm := zgd hm
        obtain ⟨b12, hm⟩ := hm
        replace hm := zcP_inv hm
        obtain ⟨S11, v11, e11, hm⟩ := hm
        have k11 := hyA_hasPart (X := X) (d := e) e11
        refine go_call (m' := 55) (as := [.ref a1, .int l3]) (rest := []) (v := some (.int v11)) (h1 := zhp S11) rfl (by simp only [ie_step, ie_iv, List.drop, zhp_obj (S := S5) b12 (by decide)]; rfl) ⟨rfl, Nat.le_of_ble_eq_true rfl⟩ k11 ?_
        refine go_run 0 (F' := (24, [some (.ref a4), some (.ref a1), some (.int l2), some (.int l3)], [.int v11], zhp S11)) rfl ?_
        refine go_run 0 (F' := (24, [some (.ref a4), some (.ref a1), some (.int l2), some (.int l3)], [.int v11], zhp S11)) rfl ?_
        refine go_step rfl rfl ?_
        by_cases q13 : v11 = 0
        · rw [if_pos q13] at hm ⊢
          refine go_run 0 (F' := (48, [some (.ref a4), some (.ref a1), some (.int l2), some (.int l3)], [], zhp S11)) rfl ?_
          refine go_run 2 (F' := (50, [some (.ref a4), some (.ref a1), some (.int l2), some (.int l3)], [.int l3, .ref a1], zhp S11)) rfl ?_
          replace hm := zgd hm
          obtain ⟨b14, hm⟩ := hm
          replace hm := zcP_inv hm
          obtain ⟨S12, v12, e12, hm⟩ := hm
          have k12 := hyA_hasPart (X := X) (d := e) e12
          refine go_call (m' := 55) (as := [.ref a1, .int l3]) (rest := []) (v := some (.int v12)) (h1 := zhp S12) rfl (by simp only [ie_step, ie_iv, List.drop, zhp_obj (S := S11) b14 (by decide)]; rfl) ⟨rfl, Nat.le_of_ble_eq_true rfl⟩ k12 ?_
          refine go_run 0 (F' := (53, [some (.ref a4), some (.ref a1), some (.int l2), some (.int l3)], [.int v12], zhp S12)) rfl ?_
          refine go_run 0 (F' := (53, [some (.ref a4), some (.ref a1), some (.int l2), some (.int l3)], [.int v12], zhp S12)) rfl ?_
          refine go_step rfl rfl ?_
          by_cases q15 : v12 = 0
          · rw [if_pos q15] at hm ⊢
            refine go_run 0 (F' := (67, [some (.ref a4), some (.ref a1), some (.int l2), some (.int l3)], [], zhp S12)) rfl ?_
            refine go_run 2 (F' := (2, [some (va_rf (some a4)), some (va_rf (some a1)), some (.int l2), some (.int (l3 + 1))], [], zhp S12)) rfl ?_
            exact ih hm
          · rw [if_neg q15] at hm ⊢
            refine go_run 0 (F' := (56, [some (.ref a4), some (.ref a1), some (.int l2), some (.int l3)], [], zhp S12)) rfl ?_
            refine go_run 3 (F' := (59, [some (.ref a4), some (.ref a1), some (.int l2), some (.int l3)], [.ref a1, .int l3, .ref a4], zhp S12)) rfl ?_
            replace hm := zgd hm
            obtain ⟨b16, hm⟩ := hm
            replace hm := zlb_inv hm
            obtain ⟨o13, eo13, hm⟩ := hm
            refine go_hg (v := va_rf o13) rfl b16 (by decide) (by rw [← eo13]; rfl) ?_
            refine go_run 1 (F' := (63, [some (.ref a4), some (.ref a1), some (.int l2), some (.int l3)], [.int l3, va_rf o13, .int l3, .ref a4], zhp S12)) rfl ?_
            replace hm := zob_inv hm
            obtain ⟨a14, rfl, hm⟩ := hm
            replace hm := zgd hm
            obtain ⟨b17, hm⟩ := hm
            replace hm := zgd hm
            obtain ⟨b18, hm⟩ := hm
            replace hm := zlb_inv hm
            obtain ⟨o15, eo15, hm⟩ := hm
            refine go_haald rfl b17 b18 rfl eo15 ?_
            refine go_run 0 (F' := (64, [some (.ref a4), some (.ref a1), some (.int l2), some (.int l3)], [va_rf o15, .int l3, .ref a4], zhp S12)) rfl ?_
            replace hm := zgd hm
            obtain ⟨b19, hm⟩ := hm
            replace hm := zcV_inv hm
            obtain ⟨S16, e16, hm⟩ := hm
            have k16 := hyA_setPart (X := X) (d := e) e16
            refine go_call (m' := 43) (as := [.ref a4, .int l3, va_rf o15]) (rest := []) (v := none) (h1 := zhp S16) rfl (by simp only [ie_step, ie_iv, List.drop, zhp_obj (S := S12) b19 (by decide)]; rfl) ⟨by cases o15 <;> rfl, by cases o15 <;> exact Nat.le_of_ble_eq_true rfl⟩ k16 ?_
            refine go_run 0 (F' := (67, [some (.ref a4), some (.ref a1), some (.int l2), some (.int l3)], [], zhp S16)) rfl ?_
            refine go_run 2 (F' := (2, [some (va_rf (some a4)), some (va_rf (some a1)), some (.int l2), some (.int (l3 + 1))], [], zhp S16)) rfl ?_
            exact ih hm
        · rw [if_neg q13] at hm ⊢
          refine go_run 0 (F' := (27, [some (.ref a4), some (.ref a1), some (.int l2), some (.int l3)], [], zhp S11)) rfl ?_
          refine go_run 1 (F' := (28, [some (.ref a4), some (.ref a1), some (.int l2), some (.int l3)], [.ref a4], zhp S11)) rfl ?_
          replace hm := zgd hm
          obtain ⟨b20, hm⟩ := hm
          replace hm := zlb_inv hm
          obtain ⟨o17, eo17, hm⟩ := hm
          refine go_hg (v := va_rf o17) rfl b20 (by decide) (by rw [← eo17]; rfl) ?_
          refine go_run 1 (F' := (32, [some (.ref a4), some (.ref a1), some (.int l2), some (.int l3)], [.int l3, va_rf o17], zhp S11)) rfl ?_
          replace hm := zob_inv hm
          obtain ⟨a18, rfl, hm⟩ := hm
          replace hm := zgd hm
          obtain ⟨b21, hm⟩ := hm
          replace hm := zgd hm
          obtain ⟨b22, hm⟩ := hm
          replace hm := zlb_inv hm
          obtain ⟨o19, eo19, hm⟩ := hm
          refine go_haald rfl b21 b22 rfl eo19 ?_
          refine go_run 1 (F' := (34, [some (.ref a4), some (.ref a1), some (.int l2), some (.int l3)], [.ref a1, va_rf o19], zhp S11)) rfl ?_
          replace hm := zgd hm
          obtain ⟨b23, hm⟩ := hm
          replace hm := zlb_inv hm
          obtain ⟨o20, eo20, hm⟩ := hm
          refine go_hg (v := va_rf o20) rfl b23 (by decide) (by rw [← eo20]; rfl) ?_
          refine go_run 1 (F' := (38, [some (.ref a4), some (.ref a1), some (.int l2), some (.int l3)], [.int l3, va_rf o20, va_rf o19], zhp S11)) rfl ?_
          replace hm := zob_inv hm
          obtain ⟨a21, rfl, hm⟩ := hm
          replace hm := zgd hm
          obtain ⟨b24, hm⟩ := hm
          replace hm := zgd hm
          obtain ⟨b25, hm⟩ := hm
          replace hm := zlb_inv hm
          obtain ⟨o22, eo22, hm⟩ := hm
          refine go_haald rfl b24 b25 rfl eo22 ?_
          refine go_run 3 (F' := (42, [some (.ref a4), some (.ref a1), some (.int l2), some (.int l3)], [.int (l2 + 1), va_rf o22, va_rf o19], zhp S11)) rfl ?_
          replace hm := zcV_inv hm
          obtain ⟨S23, e23, hm⟩ := hm
          have k23 := hrc e23
          refine go_call (m' := 61) (as := [va_rf o19, va_rf o22, .int (l2 + 1)]) (rest := []) (v := none) (h1 := zhp S23) rfl rfl ⟨by cases o19 <;> cases o22 <;> rfl, by cases o19 <;> cases o22 <;> exact Nat.le_of_ble_eq_true rfl⟩ k23 ?_
          refine go_run 0 (F' := (45, [some (.ref a4), some (.ref a1), some (.int l2), some (.int l3)], [], zhp S23)) rfl ?_
          refine go_run 3 (F' := (2, [some (va_rf (some a4)), some (va_rf (some a1)), some (.int l2), some (.int (l3 + 1))], [], zhp S23)) rfl ?_
          exact ih hm
theorem ehyA_joinParts_2 {rc : hS → Option Nat → Option Nat → Int32 → Option (hS)} (hrc : ∀ {S : hS} {z1 : Option Nat} {z2 : Option Nat} {z3 : Int32} {S' : hS}, rc S z1 z2 z3 = some S' → Ex S S') : ∀ (n : Nat) {S : hS} {p0 : Option Nat} {p1 : Option Nat} {l2 : Int32} {l3 : Int32} {S' : hS}, yA_joinParts_2 rc n S p0 p1 l2 l3 = some S' → Ex S S' := by
  intro n
  induction n with
  | zero => intro S p0 p1 l2 l3 S'  hm; cases hm
  | succ n ih =>
    intro S p0 p1 l2 l3 S'  hm
    unfold yA_joinParts_2 at hm
    have hx : Ex S S := Ex_r
    replace hm := zob_inv hm
    obtain ⟨a1, rfl, hm⟩ := hm
    replace hm := zgd hm
    obtain ⟨b1, hm⟩ := hm
    replace hm := zlb_inv hm
    obtain ⟨o2, eo2, hm⟩ := hm
    replace hm := zob_inv hm
    obtain ⟨a3, rfl, hm⟩ := hm
    replace hm := zgd hm
    obtain ⟨b2, hm⟩ := hm
    by_cases q3 : Int32.ofNat (zLen S a3) ≤ l3
    · rw [if_pos q3] at hm
      cases hm
      exact hx
    · rw [if_neg q3] at hm
      replace hm := zob_inv hm
      obtain ⟨a4, rfl, hm⟩ := hm
      replace hm := zgd hm
      obtain ⟨b4, hm⟩ := hm
      replace hm := zcP_inv hm
      obtain ⟨S5, v5, e5, hm⟩ := hm
      have hx := Ex_t (T := S) hx (ehyA_hasPart e5)
      by_cases q5 : v5 = 0
      · rw [if_pos q5] at hm
        replace hm := zgd hm
        obtain ⟨b6, hm⟩ := hm
        replace hm := zcP_inv hm
        obtain ⟨S6, v6, e6, hm⟩ := hm
        have hx := Ex_t (T := S5) hx (ehyA_hasPart e6)
        by_cases q7 : v6 = 0
        · rw [if_pos q7] at hm
          refine Ex_t ?_ (ih hm)
          exact hx
        · rw [if_neg q7] at hm
          replace hm := zgd hm
          obtain ⟨b8, hm⟩ := hm
          replace hm := zlb_inv hm
          obtain ⟨o7, eo7, hm⟩ := hm
          replace hm := zob_inv hm
          obtain ⟨a8, rfl, hm⟩ := hm
          replace hm := zgd hm
          obtain ⟨b9, hm⟩ := hm
          replace hm := zgd hm
          obtain ⟨b10, hm⟩ := hm
          replace hm := zlb_inv hm
          obtain ⟨o9, eo9, hm⟩ := hm
          replace hm := zgd hm
          obtain ⟨b11, hm⟩ := hm
          replace hm := zcV_inv hm
          obtain ⟨S10, e10, hm⟩ := hm
          have hx := Ex_t (T := S6) hx (ehyA_setPart e10)
          refine Ex_t ?_ (ih hm)
          exact hx
      · rw [if_neg q5] at hm
        replace hm := zgd hm
        obtain ⟨b12, hm⟩ := hm
        replace hm := zcP_inv hm
        obtain ⟨S11, v11, e11, hm⟩ := hm
        have hx := Ex_t (T := S5) hx (ehyA_hasPart e11)
        by_cases q13 : v11 = 0
        · rw [if_pos q13] at hm
          replace hm := zgd hm
          obtain ⟨b14, hm⟩ := hm
          replace hm := zcP_inv hm
          obtain ⟨S12, v12, e12, hm⟩ := hm
          have hx := Ex_t (T := S11) hx (ehyA_hasPart e12)
          by_cases q15 : v12 = 0
          · rw [if_pos q15] at hm
            refine Ex_t ?_ (ih hm)
            exact hx
          · rw [if_neg q15] at hm
            replace hm := zgd hm
            obtain ⟨b16, hm⟩ := hm
            replace hm := zlb_inv hm
            obtain ⟨o13, eo13, hm⟩ := hm
            replace hm := zob_inv hm
            obtain ⟨a14, rfl, hm⟩ := hm
            replace hm := zgd hm
            obtain ⟨b17, hm⟩ := hm
            replace hm := zgd hm
            obtain ⟨b18, hm⟩ := hm
            replace hm := zlb_inv hm
            obtain ⟨o15, eo15, hm⟩ := hm
            replace hm := zgd hm
            obtain ⟨b19, hm⟩ := hm
            replace hm := zcV_inv hm
            obtain ⟨S16, e16, hm⟩ := hm
            have hx := Ex_t (T := S12) hx (ehyA_setPart e16)
            refine Ex_t ?_ (ih hm)
            exact hx
        · rw [if_neg q13] at hm
          replace hm := zgd hm
          obtain ⟨b20, hm⟩ := hm
          replace hm := zlb_inv hm
          obtain ⟨o17, eo17, hm⟩ := hm
          replace hm := zob_inv hm
          obtain ⟨a18, rfl, hm⟩ := hm
          replace hm := zgd hm
          obtain ⟨b21, hm⟩ := hm
          replace hm := zgd hm
          obtain ⟨b22, hm⟩ := hm
          replace hm := zlb_inv hm
          obtain ⟨o19, eo19, hm⟩ := hm
          replace hm := zgd hm
          obtain ⟨b23, hm⟩ := hm
          replace hm := zlb_inv hm
          obtain ⟨o20, eo20, hm⟩ := hm
          replace hm := zob_inv hm
          obtain ⟨a21, rfl, hm⟩ := hm
          replace hm := zgd hm
          obtain ⟨b24, hm⟩ := hm
          replace hm := zgd hm
          obtain ⟨b25, hm⟩ := hm
          replace hm := zlb_inv hm
          obtain ⟨o22, eo22, hm⟩ := hm
          replace hm := zcV_inv hm
          obtain ⟨S23, e23, hm⟩ := hm
          have hx := Ex_t (T := S11) hx (hrc e23)
          refine Ex_t ?_ (ih hm)
          exact hx
def yA_joinParts (rc : hS → Option Nat → Option Nat → Int32 → Option (hS)) (n : Nat) (S : hS) (p1 : Option Nat) (p2 : Option Nat) (x3 : Int32) : Option (hS) := (yA_joinParts_2 rc n S p1 p2 x3 0)
theorem hyA_joinParts {X : ie_X} {e : Nat} {rc : hS → Option Nat → Option Nat → Int32 → Option (hS)} (hrc : ∀ {S : hS} {z1 : Option Nat} {z2 : Option Nat} {z3 : Int32} {S' : hS}, rc S z1 z2 z3 = some S' → Go X (e + 0) 61 (0, ie_en 61 [va_rf z1, va_rf z2, .int z3], [], zhp S) (.inl none) (zhp S')) {n : Nat} {S : hS} {p1 : Option Nat} {p2 : Option Nat} {x3 : Int32} {S' : hS} (hm : yA_joinParts rc n S p1 p2 x3 = some S') : Go X (e + 1) 62 (0, ie_en 62 [va_rf p1, va_rf p2, .int x3], [], zhp S) (.inl none) (zhp S') := by
  unfold yA_joinParts at hm
  refine go_run 0 (F' := (0, [some (va_rf p1), some (va_rf p2), some (.int x3), none], [], zhp S)) (by cases p1 <;> cases p2 <;> rfl) ?_
  refine go_run 2 (F' := (2, [some (va_rf p1), some (va_rf p2), some (.int x3), some (.int 0)], [], zhp S)) rfl ?_
  exact hyA_joinParts_2 hrc n hm
theorem ehyA_joinParts {rc : hS → Option Nat → Option Nat → Int32 → Option (hS)} (hrc : ∀ {S : hS} {z1 : Option Nat} {z2 : Option Nat} {z3 : Int32} {S' : hS}, rc S z1 z2 z3 = some S' → Ex S S') {n : Nat} {S : hS} {p1 : Option Nat} {p2 : Option Nat} {x3 : Int32} {S' : hS} (hm : yA_joinParts rc n S p1 p2 x3 = some S') : Ex S S' := by
  unfold yA_joinParts at hm
  have hx : Ex S S := Ex_r
  refine Ex_t ?_ (ehyA_joinParts_2 hrc n hm)
  exact hx
def yA_join_12 (rc : hS → Option Nat → Option Nat → Int32 → Option (hS)) : Nat → hS → Int32 → Option Nat → Option Nat → Option (hS)
  | 0, _, _, _, _ => none
  | n + 1, S, l2, p3, p4 => (zoc p3 (some S) fun a1 => (zoc p4 (some S) fun a2 => (zcV (yA_joinParts rc n S (some a1) (some a2) l2) fun S3 => (if ztg S3 a1 = 2 then (zlb (zR S3 8 a1) fun o4 => (if ztg S3 a2 = 2 then (zlb (zR S3 8 a2) fun o5 => (yA_join_12 rc n S3 l2 o4 o5)) else none)) else none))))
theorem hyA_join_12 {X : ie_X} {e : Nat} {rc : hS → Option Nat → Option Nat → Int32 → Option (hS)} (hrc : ∀ {S : hS} {z1 : Option Nat} {z2 : Option Nat} {z3 : Int32} {S' : hS}, rc S z1 z2 z3 = some S' → Go X (e + 0) 61 (0, ie_en 61 [va_rf z1, va_rf z2, .int z3], [], zhp S) (.inl none) (zhp S')) : ∀ (n : Nat) {S : hS} {l2 : Int32} {p3 : Option Nat} {p4 : Option Nat} {u0 u1 : Option Value} {S' : hS}, yA_join_12 rc n S l2 p3 p4 = some S' → Go X (e + 2) 61 (12, [u0, u1, some (.int l2), some (va_rf p3), some (va_rf p4)], [], zhp S) (.inl none) (zhp S') := by
  intro n
  induction n with
  | zero => intro S l2 p3 p4 u0 u1 S'  hm; cases hm
  | succ n ih =>
    intro S l2 p3 p4 u0 u1 S'  hm
    unfold yA_join_12 at hm
    refine go_run 0 (F' := (12, [u0, u1, some (.int l2), some (va_rf p3), some (va_rf p4)], [], zhp S)) rfl ?_
    refine go_run 0 (F' := (12, [u0, u1, some (.int l2), some (va_rf p3), some (va_rf p4)], [], zhp S)) rfl ?_
    refine go_al rfl rfl ?_
    refine go_run 0 (F' := (13, [u0, u1, some (.int l2), some (va_rf p3), some (va_rf p4)], [va_rf p3], zhp S)) rfl ?_
    cases p3 with
    | none =>
      replace hm := zoc_n hm
      refine go_step rfl rfl ?_
      refine go_run 0 (F' := (43, [u0, u1, some (.int l2), some (.null), some (va_rf p4)], [], zhp S)) rfl ?_
      refine go_run 0 (F' := (43, [u0, u1, some (.int l2), some (.null), some (va_rf p4)], [], zhp S)) rfl ?_
      cases hm
      exact go_end rfl rfl
    | some a1 =>
      replace hm := zoc_s hm
      refine go_step rfl rfl ?_
      refine go_run 0 (F' := (16, [u0, u1, some (.int l2), some (.ref a1), some (va_rf p4)], [], zhp S)) rfl ?_
      refine go_run 0 (F' := (16, [u0, u1, some (.int l2), some (.ref a1), some (va_rf p4)], [], zhp S)) rfl ?_
      refine go_al2 rfl rfl ?_
      refine go_run 0 (F' := (18, [u0, u1, some (.int l2), some (.ref a1), some (va_rf p4)], [va_rf p4], zhp S)) rfl ?_
      cases p4 with
      | none =>
        replace hm := zoc_n hm
        refine go_step rfl rfl ?_
        refine go_run 0 (F' := (43, [u0, u1, some (.int l2), some (.ref a1), some (.null)], [], zhp S)) rfl ?_
        refine go_run 0 (F' := (43, [u0, u1, some (.int l2), some (.ref a1), some (.null)], [], zhp S)) rfl ?_
        cases hm
        exact go_end rfl rfl
      | some a2 =>
        replace hm := zoc_s hm
        refine go_step rfl rfl ?_
        refine go_run 0 (F' := (21, [u0, u1, some (.int l2), some (.ref a1), some (.ref a2)], [], zhp S)) rfl ?_
        refine go_run 3 (F' := (25, [u0, u1, some (.int l2), some (.ref a1), some (.ref a2)], [.int l2, .ref a2, .ref a1], zhp S)) rfl ?_
        replace hm := zcV_inv hm
        obtain ⟨S3, e3, hm⟩ := hm
        have k3 := hyA_joinParts (X := X) hrc e3
        refine go_call (m' := 62) (as := [.ref a1, .ref a2, .int l2]) (rest := []) (v := none) (h1 := zhp S3) rfl rfl ⟨rfl, Nat.le_of_ble_eq_true rfl⟩ k3 ?_
        refine go_run 0 (F' := (28, [u0, u1, some (.int l2), some (.ref a1), some (.ref a2)], [], zhp S3)) rfl ?_
        refine go_run 1 (F' := (29, [u0, u1, some (.int l2), some (.ref a1), some (.ref a2)], [.ref a1], zhp S3)) rfl ?_
        replace hm := zgd hm
        obtain ⟨b1, hm⟩ := hm
        replace hm := zlb_inv hm
        obtain ⟨o4, eo4, hm⟩ := hm
        refine go_hg (v := va_rf o4) rfl b1 (by decide) (by rw [← eo4]; rfl) ?_
        refine go_run 0 (F' := (32, [u0, u1, some (.int l2), some (.ref a1), some (.ref a2)], [va_rf o4], zhp S3)) rfl ?_
        refine go_as rfl ?_
        refine go_run 1 (F' := (35, [u0, u1, some (.int l2), some (va_rf o4), some (.ref a2)], [.ref a2], zhp S3)) rfl ?_
        replace hm := zgd hm
        obtain ⟨b2, hm⟩ := hm
        replace hm := zlb_inv hm
        obtain ⟨o5, eo5, hm⟩ := hm
        refine go_hg (v := va_rf o5) rfl b2 (by decide) (by rw [← eo5]; rfl) ?_
        refine go_run 0 (F' := (38, [u0, u1, some (.int l2), some (va_rf o4), some (.ref a2)], [va_rf o5], zhp S3)) rfl ?_
        refine go_as2 rfl ?_
        refine go_run 1 (F' := (12, [u0, u1, some (.int l2), some (va_rf o4), some (va_rf o5)], [], zhp S3)) rfl ?_
        exact ih hm
theorem ehyA_join_12 {rc : hS → Option Nat → Option Nat → Int32 → Option (hS)} (hrc : ∀ {S : hS} {z1 : Option Nat} {z2 : Option Nat} {z3 : Int32} {S' : hS}, rc S z1 z2 z3 = some S' → Ex S S') : ∀ (n : Nat) {S : hS} {l2 : Int32} {p3 : Option Nat} {p4 : Option Nat} {S' : hS}, yA_join_12 rc n S l2 p3 p4 = some S' → Ex S S' := by
  intro n
  induction n with
  | zero => intro S l2 p3 p4 S'  hm; cases hm
  | succ n ih =>
    intro S l2 p3 p4 S'  hm
    unfold yA_join_12 at hm
    have hx : Ex S S := Ex_r
    cases p3 with
    | none =>
      replace hm := zoc_n hm
      cases hm
      exact hx
    | some a1 =>
      replace hm := zoc_s hm
      cases p4 with
      | none =>
        replace hm := zoc_n hm
        cases hm
        exact hx
      | some a2 =>
        replace hm := zoc_s hm
        replace hm := zcV_inv hm
        obtain ⟨S3, e3, hm⟩ := hm
        have hx := Ex_t (T := S) hx (ehyA_joinParts hrc e3)
        replace hm := zgd hm
        obtain ⟨b1, hm⟩ := hm
        replace hm := zlb_inv hm
        obtain ⟨o4, eo4, hm⟩ := hm
        replace hm := zgd hm
        obtain ⟨b2, hm⟩ := hm
        replace hm := zlb_inv hm
        obtain ⟨o5, eo5, hm⟩ := hm
        refine Ex_t ?_ (ih hm)
        exact hx
def yA_join (n : Nat) : Nat → hS → Option Nat → Option Nat → Int32 → Option (hS)
  | 0, _, _, _, _ => none
  | r + 1, S, p1, p2, x3 => (if x3 ≤ 64 then (yA_join_12 (yA_join n r) n S x3 p1 p2) else (some S))
theorem hyA_join {X : ie_X} {d : Nat} {n : Nat} : ∀ (r : Nat) {S : hS} {p1 : Option Nat} {p2 : Option Nat} {x3 : Int32} {S' : hS}, yA_join n r S p1 p2 x3 = some S' → Go X (d + 2 * r + 0) 61 (0, ie_en 61 [va_rf p1, va_rf p2, .int x3], [], zhp S) (.inl none) (zhp S') := by
  intro r
  induction r with
  | zero => intro S p1 p2 x3 S'  hm; cases hm
  | succ r ih =>
    intro S p1 p2 x3 S'  hm
    rw [show d + 2 * (r + 1) + 0 = (d + 2 * r) + 2 by omega]
    unfold yA_join at hm
    refine go_run 0 (F' := (0, [some (va_rf p1), some (va_rf p2), some (.int x3), none, none], [], zhp S)) (by cases p1 <;> cases p2 <;> rfl) ?_
    refine go_run 2 (F' := (3, [some (va_rf p1), some (va_rf p2), some (.int x3), none, none], [.int 64, .int x3], zhp S)) rfl ?_
    refine go_step rfl rfl ?_
    by_cases q1 : x3 ≤ 64
    · rw [if_pos q1] at hm ⊢
      refine go_run 0 (F' := (7, [some (va_rf p1), some (va_rf p2), some (.int x3), none, none], [], zhp S)) rfl ?_
      refine go_run 0 (F' := (7, [some (va_rf p1), some (va_rf p2), some (.int x3), none, none], [], zhp S)) rfl ?_
      refine go_al rfl rfl ?_
      refine go_run 0 (F' := (8, [some (va_rf p1), some (va_rf p2), some (.int x3), none, none], [va_rf p1], zhp S)) rfl ?_
      refine go_as rfl ?_
      refine go_run 0 (F' := (9, [some (va_rf p1), some (va_rf p2), some (.int x3), some (va_rf p1), none], [], zhp S)) rfl ?_
      refine go_al rfl rfl ?_
      refine go_run 0 (F' := (10, [some (va_rf p1), some (va_rf p2), some (.int x3), some (va_rf p1), none], [va_rf p2], zhp S)) rfl ?_
      refine go_as2 rfl ?_
      refine go_run 0 (F' := (12, [some (va_rf p1), some (va_rf p2), some (.int x3), some (va_rf p1), some (va_rf p2)], [], zhp S)) rfl ?_
      exact hyA_join_12 ih n hm
    · rw [if_neg q1] at hm ⊢
      refine go_run 0 (F' := (6, [some (va_rf p1), some (va_rf p2), some (.int x3), none, none], [], zhp S)) rfl ?_
      refine go_run 0 (F' := (6, [some (va_rf p1), some (va_rf p2), some (.int x3), none, none], [], zhp S)) rfl ?_
      cases hm
      exact go_end rfl rfl
theorem ehyA_join {n : Nat} : ∀ (r : Nat) {S : hS} {p1 : Option Nat} {p2 : Option Nat} {x3 : Int32} {S' : hS}, yA_join n r S p1 p2 x3 = some S' → Ex S S' := by
  intro r
  induction r with
  | zero => intro S p1 p2 x3 S'  hm; cases hm
  | succ r ih =>
    intro S p1 p2 x3 S'  hm
    unfold yA_join at hm
    have hx : Ex S S := Ex_r
    by_cases q1 : x3 ≤ 64
    · rw [if_pos q1] at hm
      refine Ex_t ?_ (ehyA_join_12 ih n hm)
      exact hx
    · rw [if_neg q1] at hm
      cases hm
      exact hx
theorem hyA_join_o {X : ie_X} {d n : Nat} {S : hS} {p1 : Option Nat} {p2 : Option Nat} {x3 : Int32} {S' : hS} (hm : yA_join n 67 S p1 p2 x3 = some S') : Go X (d + 134) 61 (0, ie_en 61 [va_rf p1, va_rf p2, .int x3], [], zhp S) (.inl none) (zhp S') := hyA_join (X := X) (d := d) 67 hm
theorem ehyA_join_o {n : Nat} {S : hS} {p1 : Option Nat} {p2 : Option Nat} {x3 : Int32} {S' : hS} (hm : yA_join n 67 S p1 p2 x3 = some S') : Ex S S' := ehyA_join 67 hm
def yC_cutChoice_102 (th : Nat) : Nat → hS → Option Nat → Option Nat → Option Nat → Option Nat → Int32 → Int32 → Option (hS)
  | 0, _, _, _, _, _, _, _ => none
  | n + 1, S, p1, p2, p3, p4, l5, l7 => (if 6 ≤ l7 then (some S) else (zob p1 fun a1 => (if ztg S a1 = 10 then (if l7 = zI S 2 a1 then (yC_cutChoice_102 th n S (some a1) p2 p3 p4 l5 (l7 + 1)) else (if y_contains l5 l7 = 0 then (zob p3 fun a2 => (if zar S a2 then (if ib l7 (zLen S a2) then (zlb ((zAR S a2) (Int32.toNatClampNeg l7)) fun o3 => (zob o3 fun a4 => (if ztg S a4 = 8 then (zlb (zR S 0 a4) fun o5 => (zob p4 fun a6 => (if zar S a6 then (if ib l7 (zLen S a6) then (zlb ((zAR S a6) (Int32.toNatClampNeg l7)) fun o7 => (zob o7 fun a8 => (if ztg S a8 = 8 then (zlb (zR S 0 a8) fun o9 => (zcV (yA_join n 67 S o5 o9 0) fun S10 => (zob p2 fun a11 => (if zar S10 a11 then (if ib l7 (zLen S10 a11) then (zlb ((zAR S10 a11) (Int32.toNatClampNeg l7)) fun o12 => (if zar S10 a2 then (if ib l7 (zLen S10 a2) then (zlb ((zAR S10 a2) (Int32.toNatClampNeg l7)) fun o13 => (zob o13 fun a14 => (if ztg S10 a14 = 8 then (zlb (zR S10 0 a14) fun o15 => (zob o12 fun a16 => (if ztg S10 a16 = 8 then (zcV (yW_append n S10 a16 o15) fun S17 => (yC_cutChoice_102 th n S17 (some a1) (some a11) (some a2) (some a6) l5 (l7 + 1))) else none))) else none))) else none) else none)) else none) else none)))) else none))) else none) else none))) else none))) else none) else none)) else (zob p2 fun a18 => (if zar S a18 then (if ib l7 (zLen S a18) then (zlb ((zAR S a18) (Int32.toNatClampNeg l7)) fun o19 => (zob p3 fun a20 => (if zar S a20 then (if ib l7 (zLen S a20) then (zlb ((zAR S a20) (Int32.toNatClampNeg l7)) fun o21 => (zob o21 fun a22 => (if ztg S a22 = 8 then (zlb (zR S 0 a22) fun o23 => (zob p4 fun a24 => (if zar S a24 then (if ib l7 (zLen S a24) then (zlb ((zAR S a24) (Int32.toNatClampNeg l7)) fun o25 => (zob o25 fun a26 => (if ztg S a26 = 8 then (zlb (zR S 0 a26) fun o27 => (zcP (yC_toldPart S (zI S 2 a1) o23 o27) fun S28 o28 => (zob o19 fun a29 => (if ztg S28 a29 = 8 then (zcV (yW_append n S28 a29 o28) fun S30 => (yC_cutChoice_102 th n S30 (some a1) (some a18) (some a20) (some a24) l5 (l7 + 1))) else none)))) else none))) else none) else none))) else none))) else none) else none))) else none) else none)))) else none)))
theorem hyC_cutChoice_102 {X : ie_X} {d th : Nat} : ∀ (n : Nat) {S : hS} {p1 : Option Nat} {p2 : Option Nat} {p3 : Option Nat} {p4 : Option Nat} {l5 : Int32} {l7 : Int32} {u6 : Option Value} {S' : hS}, yC_cutChoice_102 th n S p1 p2 p3 p4 l5 l7 = some S' → Go X (d + 136) 50 (102, [some (.ref th), some (va_rf p1), some (va_rf p2), some (va_rf p3), some (va_rf p4), some (.int l5), u6, some (.int l7)], [], zhp S) (.inl none) (zhp S') := by
  intro n
  induction n with
  | zero => intro S p1 p2 p3 p4 l5 l7 u6 S'  hm; cases hm
  | succ n ih =>
    intro S p1 p2 p3 p4 l5 l7 u6 S'  hm
    unfold yC_cutChoice_102 at hm
    refine go_run 0 (F' := (102, [some (.ref th), some (va_rf p1), some (va_rf p2), some (va_rf p3), some (va_rf p4), some (.int l5), u6, some (.int l7)], [], zhp S)) rfl ?_
    refine go_run 2 (F' := (106, [some (.ref th), some (va_rf p1), some (va_rf p2), some (va_rf p3), some (va_rf p4), some (.int l5), u6, some (.int l7)], [.int 6, .int l7], zhp S)) rfl ?_
    refine go_step rfl rfl ?_
    by_cases q1 : 6 ≤ l7
    · rw [if_pos q1] at hm ⊢
      refine go_run 0 (F' := (202, [some (.ref th), some (va_rf p1), some (va_rf p2), some (va_rf p3), some (va_rf p4), some (.int l5), u6, some (.int l7)], [], zhp S)) rfl ?_
      refine go_run 0 (F' := (202, [some (.ref th), some (va_rf p1), some (va_rf p2), some (va_rf p3), some (va_rf p4), some (.int l5), u6, some (.int l7)], [], zhp S)) rfl ?_
      cases hm
      exact go_end rfl rfl
    · rw [if_neg q1] at hm ⊢
      refine go_run 0 (F' := (109, [some (.ref th), some (va_rf p1), some (va_rf p2), some (va_rf p3), some (va_rf p4), some (.int l5), u6, some (.int l7)], [], zhp S)) rfl ?_
      refine go_run 1 (F' := (111, [some (.ref th), some (va_rf p1), some (va_rf p2), some (va_rf p3), some (va_rf p4), some (.int l5), u6, some (.int l7)], [.int l7], zhp S)) rfl ?_
      refine go_al rfl rfl ?_
      refine go_run 0 (F' := (112, [some (.ref th), some (va_rf p1), some (va_rf p2), some (va_rf p3), some (va_rf p4), some (.int l5), u6, some (.int l7)], [va_rf p1, .int l7], zhp S)) rfl ?_
      replace hm := zob_inv hm
      obtain ⟨a1, rfl, hm⟩ := hm
      replace hm := zgd hm
      obtain ⟨b2, hm⟩ := hm
      refine go_hg (v := .int (zI S 2 a1)) rfl b2 (by decide) rfl ?_
      refine go_run 0 (F' := (115, [some (.ref th), some (.ref a1), some (va_rf p2), some (va_rf p3), some (va_rf p4), some (.int l5), u6, some (.int l7)], [.int (zI S 2 a1), .int l7], zhp S)) rfl ?_
      refine go_step rfl rfl ?_
      by_cases q3 : l7 = zI S 2 a1
      · rw [if_pos q3] at hm ⊢
        refine go_run 0 (F' := (118, [some (.ref th), some (.ref a1), some (va_rf p2), some (va_rf p3), some (va_rf p4), some (.int l5), u6, some (.int l7)], [], zhp S)) rfl ?_
        refine go_run 3 (F' := (102, [some (.ref th), some (va_rf (some a1)), some (va_rf p2), some (va_rf p3), some (va_rf p4), some (.int l5), u6, some (.int (l7 + 1))], [], zhp S)) rfl ?_
        exact ih hm
      · rw [if_neg q3] at hm ⊢
        refine go_run 0 (F' := (121, [some (.ref th), some (.ref a1), some (va_rf p2), some (va_rf p3), some (va_rf p4), some (.int l5), u6, some (.int l7)], [], zhp S)) rfl ?_
        refine go_run 2 (F' := (125, [some (.ref th), some (.ref a1), some (va_rf p2), some (va_rf p3), some (va_rf p4), some (.int l5), u6, some (.int l7)], [.int l7, .int l5], zhp S)) rfl ?_
        refine go_call (m' := 49) (as := [.int l5, .int l7]) (rest := []) (v := some (.int (y_contains l5 l7))) (h1 := zhp S) rfl rfl ⟨rfl, Nat.le_of_ble_eq_true rfl⟩ (hy_contains _ _) ?_
        refine go_run 0 (F' := (128, [some (.ref th), some (.ref a1), some (va_rf p2), some (va_rf p3), some (va_rf p4), some (.int l5), u6, some (.int l7)], [.int (y_contains l5 l7)], zhp S)) rfl ?_
        refine go_run 0 (F' := (128, [some (.ref th), some (.ref a1), some (va_rf p2), some (va_rf p3), some (va_rf p4), some (.int l5), u6, some (.int l7)], [.int (y_contains l5 l7)], zhp S)) rfl ?_
        refine go_step rfl rfl ?_
        by_cases q4 : y_contains l5 l7 = 0
        · rw [if_pos q4] at hm ⊢
          refine go_run 0 (F' := (163, [some (.ref th), some (.ref a1), some (va_rf p2), some (va_rf p3), some (va_rf p4), some (.int l5), u6, some (.int l7)], [], zhp S)) rfl ?_
          refine go_run 0 (F' := (163, [some (.ref th), some (.ref a1), some (va_rf p2), some (va_rf p3), some (va_rf p4), some (.int l5), u6, some (.int l7)], [], zhp S)) rfl ?_
          refine go_al rfl rfl ?_
          refine go_run 1 (F' := (166, [some (.ref th), some (.ref a1), some (va_rf p2), some (va_rf p3), some (va_rf p4), some (.int l5), u6, some (.int l7)], [.int l7, va_rf p3], zhp S)) rfl ?_
          replace hm := zob_inv hm
          obtain ⟨a2, rfl, hm⟩ := hm
          replace hm := zgd hm
          obtain ⟨b5, hm⟩ := hm
          replace hm := zgd hm
          obtain ⟨b6, hm⟩ := hm
          replace hm := zlb_inv hm
          obtain ⟨o3, eo3, hm⟩ := hm
          refine go_haald rfl b5 b6 rfl eo3 ?_
          refine go_run 0 (F' := (167, [some (.ref th), some (.ref a1), some (va_rf p2), some (.ref a2), some (va_rf p4), some (.int l5), u6, some (.int l7)], [va_rf o3], zhp S)) rfl ?_
          replace hm := zob_inv hm
          obtain ⟨a4, rfl, hm⟩ := hm
          replace hm := zgd hm
          obtain ⟨b7, hm⟩ := hm
          replace hm := zlb_inv hm
          obtain ⟨o5, eo5, hm⟩ := hm
          refine go_hg (v := va_rf o5) rfl b7 (by decide) (by rw [← eo5]; rfl) ?_
          refine go_run 0 (F' := (170, [some (.ref th), some (.ref a1), some (va_rf p2), some (.ref a2), some (va_rf p4), some (.int l5), u6, some (.int l7)], [va_rf o5], zhp S)) rfl ?_
          refine go_al2 rfl rfl ?_
          refine go_run 1 (F' := (174, [some (.ref th), some (.ref a1), some (va_rf p2), some (.ref a2), some (va_rf p4), some (.int l5), u6, some (.int l7)], [.int l7, va_rf p4, va_rf o5], zhp S)) rfl ?_
          replace hm := zob_inv hm
          obtain ⟨a6, rfl, hm⟩ := hm
          replace hm := zgd hm
          obtain ⟨b8, hm⟩ := hm
          replace hm := zgd hm
          obtain ⟨b9, hm⟩ := hm
          replace hm := zlb_inv hm
          obtain ⟨o7, eo7, hm⟩ := hm
          refine go_haald rfl b8 b9 rfl eo7 ?_
          refine go_run 0 (F' := (175, [some (.ref th), some (.ref a1), some (va_rf p2), some (.ref a2), some (.ref a6), some (.int l5), u6, some (.int l7)], [va_rf o7, va_rf o5], zhp S)) rfl ?_
          replace hm := zob_inv hm
          obtain ⟨a8, rfl, hm⟩ := hm
          replace hm := zgd hm
          obtain ⟨b10, hm⟩ := hm
          replace hm := zlb_inv hm
          obtain ⟨o9, eo9, hm⟩ := hm
          refine go_hg (v := va_rf o9) rfl b10 (by decide) (by rw [← eo9]; rfl) ?_
          refine go_run 1 (F' := (179, [some (.ref th), some (.ref a1), some (va_rf p2), some (.ref a2), some (.ref a6), some (.int l5), u6, some (.int l7)], [.int 0, va_rf o9, va_rf o5], zhp S)) rfl ?_
          replace hm := zcV_inv hm
          obtain ⟨S10, e10, hm⟩ := hm
          have k10 := hyA_join_o (X := X) (d := d + 1) e10
          refine go_call (m' := 61) (as := [va_rf o5, va_rf o9, .int 0]) (rest := []) (v := none) (h1 := zhp S10) rfl rfl ⟨by cases o5 <;> cases o9 <;> rfl, by cases o5 <;> cases o9 <;> exact Nat.le_of_ble_eq_true rfl⟩ k10 ?_
          refine go_run 0 (F' := (182, [some (.ref th), some (.ref a1), some (va_rf p2), some (.ref a2), some (.ref a6), some (.int l5), u6, some (.int l7)], [], zhp S10)) rfl ?_
          refine go_run 0 (F' := (182, [some (.ref th), some (.ref a1), some (va_rf p2), some (.ref a2), some (.ref a6), some (.int l5), u6, some (.int l7)], [], zhp S10)) rfl ?_
          refine go_al rfl rfl ?_
          refine go_run 1 (F' := (185, [some (.ref th), some (.ref a1), some (va_rf p2), some (.ref a2), some (.ref a6), some (.int l5), u6, some (.int l7)], [.int l7, va_rf p2], zhp S10)) rfl ?_
          replace hm := zob_inv hm
          obtain ⟨a11, rfl, hm⟩ := hm
          replace hm := zgd hm
          obtain ⟨b11, hm⟩ := hm
          replace hm := zgd hm
          obtain ⟨b12, hm⟩ := hm
          replace hm := zlb_inv hm
          obtain ⟨o12, eo12, hm⟩ := hm
          refine go_haald rfl b11 b12 rfl eo12 ?_
          refine go_run 2 (F' := (189, [some (.ref th), some (.ref a1), some (.ref a11), some (.ref a2), some (.ref a6), some (.int l5), u6, some (.int l7)], [.int l7, .ref a2, va_rf o12], zhp S10)) rfl ?_
          replace hm := zgd hm
          obtain ⟨b13, hm⟩ := hm
          replace hm := zgd hm
          obtain ⟨b14, hm⟩ := hm
          replace hm := zlb_inv hm
          obtain ⟨o13, eo13, hm⟩ := hm
          refine go_haald rfl b13 b14 rfl eo13 ?_
          refine go_run 0 (F' := (190, [some (.ref th), some (.ref a1), some (.ref a11), some (.ref a2), some (.ref a6), some (.int l5), u6, some (.int l7)], [va_rf o13, va_rf o12], zhp S10)) rfl ?_
          replace hm := zob_inv hm
          obtain ⟨a14, rfl, hm⟩ := hm
          replace hm := zgd hm
          obtain ⟨b15, hm⟩ := hm
          replace hm := zlb_inv hm
          obtain ⟨o15, eo15, hm⟩ := hm
          refine go_hg (v := va_rf o15) rfl b15 (by decide) (by rw [← eo15]; rfl) ?_
          refine go_run 0 (F' := (193, [some (.ref th), some (.ref a1), some (.ref a11), some (.ref a2), some (.ref a6), some (.int l5), u6, some (.int l7)], [va_rf o15, va_rf o12], zhp S10)) rfl ?_
          replace hm := zob_inv hm
          obtain ⟨a16, rfl, hm⟩ := hm
          refine go_run 0 (F' := (193, [some (.ref th), some (.ref a1), some (.ref a11), some (.ref a2), some (.ref a6), some (.int l5), u6, some (.int l7)], [va_rf o15, .ref a16], zhp S10)) rfl ?_
          replace hm := zgd hm
          obtain ⟨b16, hm⟩ := hm
          replace hm := zcV_inv hm
          obtain ⟨S17, e17, hm⟩ := hm
          have k17 := hyW_append (X := X) (d := d + 134) e17
          refine go_call (m' := 42) (as := [.ref a16, va_rf o15]) (rest := []) (v := none) (h1 := zhp S17) rfl (by simp only [ie_step, ie_iv, List.drop, zhp_obj (S := S10) b16 (by decide)]; rfl) ⟨by cases o15 <;> rfl, by cases o15 <;> exact Nat.le_of_ble_eq_true rfl⟩ k17 ?_
          refine go_run 0 (F' := (196, [some (.ref th), some (.ref a1), some (.ref a11), some (.ref a2), some (.ref a6), some (.int l5), u6, some (.int l7)], [], zhp S17)) rfl ?_
          refine go_run 2 (F' := (102, [some (.ref th), some (va_rf (some a1)), some (va_rf (some a11)), some (va_rf (some a2)), some (va_rf (some a6)), some (.int l5), u6, some (.int (l7 + 1))], [], zhp S17)) rfl ?_
          exact ih hm
        · rw [if_neg q4] at hm ⊢
          refine go_run 0 (F' := (131, [some (.ref th), some (.ref a1), some (va_rf p2), some (va_rf p3), some (va_rf p4), some (.int l5), u6, some (.int l7)], [], zhp S)) rfl ?_
          refine go_run 0 (F' := (131, [some (.ref th), some (.ref a1), some (va_rf p2), some (va_rf p3), some (va_rf p4), some (.int l5), u6, some (.int l7)], [], zhp S)) rfl ?_
          refine go_al rfl rfl ?_
          refine go_run 1 (F' := (134, [some (.ref th), some (.ref a1), some (va_rf p2), some (va_rf p3), some (va_rf p4), some (.int l5), u6, some (.int l7)], [.int l7, va_rf p2], zhp S)) rfl ?_
          replace hm := zob_inv hm
          obtain ⟨a18, rfl, hm⟩ := hm
          replace hm := zgd hm
          obtain ⟨b17, hm⟩ := hm
          replace hm := zgd hm
          obtain ⟨b18, hm⟩ := hm
          replace hm := zlb_inv hm
          obtain ⟨o19, eo19, hm⟩ := hm
          refine go_haald rfl b17 b18 rfl eo19 ?_
          refine go_run 1 (F' := (136, [some (.ref th), some (.ref a1), some (.ref a18), some (va_rf p3), some (va_rf p4), some (.int l5), u6, some (.int l7)], [.ref a1, va_rf o19], zhp S)) rfl ?_
          refine go_hg (v := .int (zI S 2 a1)) rfl b2 (by decide) rfl ?_
          refine go_run 0 (F' := (139, [some (.ref th), some (.ref a1), some (.ref a18), some (va_rf p3), some (va_rf p4), some (.int l5), u6, some (.int l7)], [.int (zI S 2 a1), va_rf o19], zhp S)) rfl ?_
          refine go_al rfl rfl ?_
          refine go_run 1 (F' := (142, [some (.ref th), some (.ref a1), some (.ref a18), some (va_rf p3), some (va_rf p4), some (.int l5), u6, some (.int l7)], [.int l7, va_rf p3, .int (zI S 2 a1), va_rf o19], zhp S)) rfl ?_
          replace hm := zob_inv hm
          obtain ⟨a20, rfl, hm⟩ := hm
          replace hm := zgd hm
          obtain ⟨b19, hm⟩ := hm
          replace hm := zgd hm
          obtain ⟨b20, hm⟩ := hm
          replace hm := zlb_inv hm
          obtain ⟨o21, eo21, hm⟩ := hm
          refine go_haald rfl b19 b20 rfl eo21 ?_
          refine go_run 0 (F' := (143, [some (.ref th), some (.ref a1), some (.ref a18), some (.ref a20), some (va_rf p4), some (.int l5), u6, some (.int l7)], [va_rf o21, .int (zI S 2 a1), va_rf o19], zhp S)) rfl ?_
          replace hm := zob_inv hm
          obtain ⟨a22, rfl, hm⟩ := hm
          replace hm := zgd hm
          obtain ⟨b21, hm⟩ := hm
          replace hm := zlb_inv hm
          obtain ⟨o23, eo23, hm⟩ := hm
          refine go_hg (v := va_rf o23) rfl b21 (by decide) (by rw [← eo23]; rfl) ?_
          refine go_run 0 (F' := (146, [some (.ref th), some (.ref a1), some (.ref a18), some (.ref a20), some (va_rf p4), some (.int l5), u6, some (.int l7)], [va_rf o23, .int (zI S 2 a1), va_rf o19], zhp S)) rfl ?_
          refine go_al2 rfl rfl ?_
          refine go_run 1 (F' := (150, [some (.ref th), some (.ref a1), some (.ref a18), some (.ref a20), some (va_rf p4), some (.int l5), u6, some (.int l7)], [.int l7, va_rf p4, va_rf o23, .int (zI S 2 a1), va_rf o19], zhp S)) rfl ?_
          replace hm := zob_inv hm
          obtain ⟨a24, rfl, hm⟩ := hm
          replace hm := zgd hm
          obtain ⟨b22, hm⟩ := hm
          replace hm := zgd hm
          obtain ⟨b23, hm⟩ := hm
          replace hm := zlb_inv hm
          obtain ⟨o25, eo25, hm⟩ := hm
          refine go_haald rfl b22 b23 rfl eo25 ?_
          refine go_run 0 (F' := (151, [some (.ref th), some (.ref a1), some (.ref a18), some (.ref a20), some (.ref a24), some (.int l5), u6, some (.int l7)], [va_rf o25, va_rf o23, .int (zI S 2 a1), va_rf o19], zhp S)) rfl ?_
          replace hm := zob_inv hm
          obtain ⟨a26, rfl, hm⟩ := hm
          replace hm := zgd hm
          obtain ⟨b24, hm⟩ := hm
          replace hm := zlb_inv hm
          obtain ⟨o27, eo27, hm⟩ := hm
          refine go_hg (v := va_rf o27) rfl b24 (by decide) (by rw [← eo27]; rfl) ?_
          refine go_run 0 (F' := (154, [some (.ref th), some (.ref a1), some (.ref a18), some (.ref a20), some (.ref a24), some (.int l5), u6, some (.int l7)], [va_rf o27, va_rf o23, .int (zI S 2 a1), va_rf o19], zhp S)) rfl ?_
          replace hm := zcP_inv hm
          obtain ⟨S28, o28, e28, hm⟩ := hm
          have k28 := hyC_toldPart (X := X) (d := d + 132) e28
          refine go_call (m' := 60) (as := [.int (zI S 2 a1), va_rf o23, va_rf o27]) (rest := [va_rf o19]) (v := some (va_rf o28)) (h1 := zhp S28) rfl (by cases o19 <;> rfl) ⟨by cases o23 <;> cases o27 <;> rfl, by cases o23 <;> cases o27 <;> exact Nat.le_of_ble_eq_true rfl⟩ k28 ?_
          refine go_run 0 (F' := (157, [some (.ref th), some (.ref a1), some (.ref a18), some (.ref a20), some (.ref a24), some (.int l5), u6, some (.int l7)], [va_rf o28, va_rf o19], zhp S28)) rfl ?_
          refine go_run 0 (F' := (157, [some (.ref th), some (.ref a1), some (.ref a18), some (.ref a20), some (.ref a24), some (.int l5), u6, some (.int l7)], [va_rf o28, va_rf o19], zhp S28)) rfl ?_
          replace hm := zob_inv hm
          obtain ⟨a29, rfl, hm⟩ := hm
          refine go_run 0 (F' := (157, [some (.ref th), some (.ref a1), some (.ref a18), some (.ref a20), some (.ref a24), some (.int l5), u6, some (.int l7)], [va_rf o28, .ref a29], zhp S28)) rfl ?_
          replace hm := zgd hm
          obtain ⟨b25, hm⟩ := hm
          replace hm := zcV_inv hm
          obtain ⟨S30, e30, hm⟩ := hm
          have k30 := hyW_append (X := X) (d := d + 134) e30
          refine go_call (m' := 42) (as := [.ref a29, va_rf o28]) (rest := []) (v := none) (h1 := zhp S30) rfl (by simp only [ie_step, ie_iv, List.drop, zhp_obj (S := S28) b25 (by decide)]; rfl) ⟨by cases o28 <;> rfl, by cases o28 <;> exact Nat.le_of_ble_eq_true rfl⟩ k30 ?_
          refine go_run 0 (F' := (160, [some (.ref th), some (.ref a1), some (.ref a18), some (.ref a20), some (.ref a24), some (.int l5), u6, some (.int l7)], [], zhp S30)) rfl ?_
          refine go_run 3 (F' := (102, [some (.ref th), some (va_rf (some a1)), some (va_rf (some a18)), some (va_rf (some a20)), some (va_rf (some a24)), some (.int l5), u6, some (.int (l7 + 1))], [], zhp S30)) rfl ?_
          exact ih hm
theorem ehyC_cutChoice_102 {th : Nat} : ∀ (n : Nat) {S : hS} {p1 : Option Nat} {p2 : Option Nat} {p3 : Option Nat} {p4 : Option Nat} {l5 : Int32} {l7 : Int32} {S' : hS}, yC_cutChoice_102 th n S p1 p2 p3 p4 l5 l7 = some S' → Ex S S' := by
  intro n
  induction n with
  | zero => intro S p1 p2 p3 p4 l5 l7 S'  hm; cases hm
  | succ n ih =>
    intro S p1 p2 p3 p4 l5 l7 S'  hm
    unfold yC_cutChoice_102 at hm
    have hx : Ex S S := Ex_r
    by_cases q1 : 6 ≤ l7
    · rw [if_pos q1] at hm
      cases hm
      exact hx
    · rw [if_neg q1] at hm
      replace hm := zob_inv hm
      obtain ⟨a1, rfl, hm⟩ := hm
      replace hm := zgd hm
      obtain ⟨b2, hm⟩ := hm
      by_cases q3 : l7 = zI S 2 a1
      · rw [if_pos q3] at hm
        refine Ex_t ?_ (ih hm)
        exact hx
      · rw [if_neg q3] at hm
        by_cases q4 : y_contains l5 l7 = 0
        · rw [if_pos q4] at hm
          replace hm := zob_inv hm
          obtain ⟨a2, rfl, hm⟩ := hm
          replace hm := zgd hm
          obtain ⟨b5, hm⟩ := hm
          replace hm := zgd hm
          obtain ⟨b6, hm⟩ := hm
          replace hm := zlb_inv hm
          obtain ⟨o3, eo3, hm⟩ := hm
          replace hm := zob_inv hm
          obtain ⟨a4, rfl, hm⟩ := hm
          replace hm := zgd hm
          obtain ⟨b7, hm⟩ := hm
          replace hm := zlb_inv hm
          obtain ⟨o5, eo5, hm⟩ := hm
          replace hm := zob_inv hm
          obtain ⟨a6, rfl, hm⟩ := hm
          replace hm := zgd hm
          obtain ⟨b8, hm⟩ := hm
          replace hm := zgd hm
          obtain ⟨b9, hm⟩ := hm
          replace hm := zlb_inv hm
          obtain ⟨o7, eo7, hm⟩ := hm
          replace hm := zob_inv hm
          obtain ⟨a8, rfl, hm⟩ := hm
          replace hm := zgd hm
          obtain ⟨b10, hm⟩ := hm
          replace hm := zlb_inv hm
          obtain ⟨o9, eo9, hm⟩ := hm
          replace hm := zcV_inv hm
          obtain ⟨S10, e10, hm⟩ := hm
          have hx := Ex_t (T := S) hx (ehyA_join_o e10)
          replace hm := zob_inv hm
          obtain ⟨a11, rfl, hm⟩ := hm
          replace hm := zgd hm
          obtain ⟨b11, hm⟩ := hm
          replace hm := zgd hm
          obtain ⟨b12, hm⟩ := hm
          replace hm := zlb_inv hm
          obtain ⟨o12, eo12, hm⟩ := hm
          replace hm := zgd hm
          obtain ⟨b13, hm⟩ := hm
          replace hm := zgd hm
          obtain ⟨b14, hm⟩ := hm
          replace hm := zlb_inv hm
          obtain ⟨o13, eo13, hm⟩ := hm
          replace hm := zob_inv hm
          obtain ⟨a14, rfl, hm⟩ := hm
          replace hm := zgd hm
          obtain ⟨b15, hm⟩ := hm
          replace hm := zlb_inv hm
          obtain ⟨o15, eo15, hm⟩ := hm
          replace hm := zob_inv hm
          obtain ⟨a16, rfl, hm⟩ := hm
          replace hm := zgd hm
          obtain ⟨b16, hm⟩ := hm
          replace hm := zcV_inv hm
          obtain ⟨S17, e17, hm⟩ := hm
          have hx := Ex_t (T := S10) hx (ehyW_append e17)
          refine Ex_t ?_ (ih hm)
          exact hx
        · rw [if_neg q4] at hm
          replace hm := zob_inv hm
          obtain ⟨a18, rfl, hm⟩ := hm
          replace hm := zgd hm
          obtain ⟨b17, hm⟩ := hm
          replace hm := zgd hm
          obtain ⟨b18, hm⟩ := hm
          replace hm := zlb_inv hm
          obtain ⟨o19, eo19, hm⟩ := hm
          replace hm := zob_inv hm
          obtain ⟨a20, rfl, hm⟩ := hm
          replace hm := zgd hm
          obtain ⟨b19, hm⟩ := hm
          replace hm := zgd hm
          obtain ⟨b20, hm⟩ := hm
          replace hm := zlb_inv hm
          obtain ⟨o21, eo21, hm⟩ := hm
          replace hm := zob_inv hm
          obtain ⟨a22, rfl, hm⟩ := hm
          replace hm := zgd hm
          obtain ⟨b21, hm⟩ := hm
          replace hm := zlb_inv hm
          obtain ⟨o23, eo23, hm⟩ := hm
          replace hm := zob_inv hm
          obtain ⟨a24, rfl, hm⟩ := hm
          replace hm := zgd hm
          obtain ⟨b22, hm⟩ := hm
          replace hm := zgd hm
          obtain ⟨b23, hm⟩ := hm
          replace hm := zlb_inv hm
          obtain ⟨o25, eo25, hm⟩ := hm
          replace hm := zob_inv hm
          obtain ⟨a26, rfl, hm⟩ := hm
          replace hm := zgd hm
          obtain ⟨b24, hm⟩ := hm
          replace hm := zlb_inv hm
          obtain ⟨o27, eo27, hm⟩ := hm
          replace hm := zcP_inv hm
          obtain ⟨S28, o28, e28, hm⟩ := hm
          have hx := Ex_t (T := S) hx (ehyC_toldPart e28)
          replace hm := zob_inv hm
          obtain ⟨a29, rfl, hm⟩ := hm
          replace hm := zgd hm
          obtain ⟨b25, hm⟩ := hm
          replace hm := zcV_inv hm
          obtain ⟨S30, e30, hm⟩ := hm
          have hx := Ex_t (T := S28) hx (ehyW_append e30)
          refine Ex_t ?_ (ih hm)
          exact hx
def yC_cutChoice_25 (th : Nat) (n : Nat) (S : hS) (p1 : Option Nat) (p2 : Option Nat) (p3 : Option Nat) (p4 : Option Nat) (l5 : Int32) : Option (hS) := (znw S 1 fun S1 a1 => (zcV (yA_new S1 a1 6) fun S2 => (zob p1 fun a3 => (if ztg S2 a3 = 10 then (if ztg S2 a1 = 2 then (zob p3 fun a4 => (if zar S2 a4 then (if ib (zI S2 2 a3) (zLen S2 a4) then (zlb ((zAR S2 a4) (Int32.toNatClampNeg (zI S2 2 a3))) fun o5 => (zob o5 fun a6 => (if ztg S2 a6 = 8 then (zlb (zR S2 0 a6) fun o7 => (zcP (yC_withTells n (szL S2 a1 (zL S2 a3)) 1 l5 o7) fun S8 o8 => (if ztg S8 a1 = 2 then (zcV (yA_setPart S8 a1 0 o8) fun S9 => (if ztg S9 a3 = 10 then (zob p4 fun a10 => (if zar S9 a10 then (if ib (zI S9 2 a3) (zLen S9 a10) then (zlb ((zAR S9 a10) (Int32.toNatClampNeg (zI S9 2 a3))) fun o11 => (zob o11 fun a12 => (if ztg S9 a12 = 8 then (zlb (zR S9 0 a12) fun o13 => (zcP (yC_withTells n S9 0 l5 o13) fun S14 o14 => (if ztg S14 a1 = 2 then (zcV (yA_setPart S14 a1 1 o14) fun S15 => (if ztg S15 a3 = 10 then (zob p2 fun a16 => (if zar S15 a16 then (if ib (zI S15 2 a3) (zLen S15 a16) then (zlb ((zAR S15 a16) (Int32.toNatClampNeg (zI S15 2 a3))) fun o17 => (zob o17 fun a18 => (if ztg S15 a18 = 8 then (zcV (yW_append n S15 a18 (some a1)) fun S19 => (yC_cutChoice_102 th  n S19 (some a3) (some a16) (some a4) (some a10) l5 0)) else none))) else none) else none)) else none)) else none))) else none))) else none) else none)) else none)) else none))) else none))) else none) else none)) else none) else none))))
theorem hyC_cutChoice_25 {X : ie_X} {d th : Nat} {n : Nat} {S : hS} {p1 : Option Nat} {p2 : Option Nat} {p3 : Option Nat} {p4 : Option Nat} {l5 : Int32} {u6 u7 : Option Value} {S' : hS} (hm : yC_cutChoice_25 th n S p1 p2 p3 p4 l5 = some S') : Go X (d + 136) 50 (25, [some (.ref th), some (va_rf p1), some (va_rf p2), some (va_rf p3), some (va_rf p4), some (.int l5), u6, u7], [], zhp S) (.inl none) (zhp S') := by
  unfold yC_cutChoice_25 at hm
  refine go_run 0 (F' := (25, [some (.ref th), some (va_rf p1), some (va_rf p2), some (va_rf p3), some (va_rf p4), some (.int l5), u6, u7], [], zhp S)) rfl ?_
  refine go_run 0 (F' := (25, [some (.ref th), some (va_rf p1), some (va_rf p2), some (va_rf p3), some (va_rf p4), some (.int l5), u6, u7], [], zhp S)) rfl ?_
  replace hm := znw_inv hm
  obtain ⟨S1, a1, eS1, ea1, hm⟩ := hm
  refine go_hnew rfl (by decide) rfl eS1 ea1 ?_
  refine go_run 2 (F' := (31, [some (.ref th), some (va_rf p1), some (va_rf p2), some (va_rf p3), some (va_rf p4), some (.int l5), u6, u7], [.int 6, .ref a1, .ref a1], zhp S1)) rfl ?_
  replace hm := zcV_inv hm
  obtain ⟨S2, e2, hm⟩ := hm
  have k2 := hyA_new (X := X) (d := d + 134) e2
  refine go_call (m' := 40) (as := [.ref a1, .int 6]) (rest := [.ref a1]) (v := none) (h1 := zhp S2) rfl rfl ⟨rfl, Nat.le_of_ble_eq_true rfl⟩ k2 ?_
  refine go_run 0 (F' := (34, [some (.ref th), some (va_rf p1), some (va_rf p2), some (va_rf p3), some (va_rf p4), some (.int l5), u6, u7], [.ref a1], zhp S2)) rfl ?_
  refine go_run 2 (F' := (38, [some (.ref th), some (va_rf p1), some (va_rf p2), some (va_rf p3), some (va_rf p4), some (.int l5), some (.ref a1), u7], [.ref a1], zhp S2)) rfl ?_
  refine go_al rfl rfl ?_
  refine go_run 0 (F' := (39, [some (.ref th), some (va_rf p1), some (va_rf p2), some (va_rf p3), some (va_rf p4), some (.int l5), some (.ref a1), u7], [va_rf p1, .ref a1], zhp S2)) rfl ?_
  replace hm := zob_inv hm
  obtain ⟨a3, rfl, hm⟩ := hm
  replace hm := zgd hm
  obtain ⟨b1, hm⟩ := hm
  refine go_hg (v := .long (zL S2 a3)) rfl b1 (by decide) rfl ?_
  refine go_run 0 (F' := (42, [some (.ref th), some (.ref a3), some (va_rf p2), some (va_rf p3), some (va_rf p4), some (.int l5), some (.ref a1), u7], [.long (zL S2 a3), .ref a1], zhp S2)) rfl ?_
  replace hm := zgd hm
  obtain ⟨b2, hm⟩ := hm
  refine go_hpL rfl b2 (by decide) rfl (Nat.le_of_ble_eq_true rfl) fs_1_5 ?_
  refine go_run 4 (F' := (51, [some (.ref th), some (.ref a3), some (va_rf p2), some (va_rf p3), some (va_rf p4), some (.int l5), some (.ref a1), u7], [.int l5, .int 1, .int 0, .ref a1], zhp (szL S2 a1 (zL S2 a3)))) rfl ?_
  refine go_al rfl rfl ?_
  refine go_run 1 (F' := (53, [some (.ref th), some (.ref a3), some (va_rf p2), some (va_rf p3), some (va_rf p4), some (.int l5), some (.ref a1), u7], [.ref a3, va_rf p3, .int l5, .int 1, .int 0, .ref a1], zhp (szL S2 a1 (zL S2 a3)))) rfl ?_
  refine go_hg (v := .int (zI S2 2 a3)) rfl b1 (by decide) rfl ?_
  refine go_run 0 (F' := (56, [some (.ref th), some (.ref a3), some (va_rf p2), some (va_rf p3), some (va_rf p4), some (.int l5), some (.ref a1), u7], [.int (zI S2 2 a3), va_rf p3, .int l5, .int 1, .int 0, .ref a1], zhp (szL S2 a1 (zL S2 a3)))) rfl ?_
  replace hm := zob_inv hm
  obtain ⟨a4, rfl, hm⟩ := hm
  replace hm := zgd hm
  obtain ⟨b3, hm⟩ := hm
  replace hm := zgd hm
  obtain ⟨b4, hm⟩ := hm
  replace hm := zlb_inv hm
  obtain ⟨o5, eo5, hm⟩ := hm
  refine go_haald rfl b3 b4 rfl eo5 ?_
  refine go_run 0 (F' := (57, [some (.ref th), some (.ref a3), some (va_rf p2), some (.ref a4), some (va_rf p4), some (.int l5), some (.ref a1), u7], [va_rf o5, .int l5, .int 1, .int 0, .ref a1], zhp (szL S2 a1 (zL S2 a3)))) rfl ?_
  replace hm := zob_inv hm
  obtain ⟨a6, rfl, hm⟩ := hm
  replace hm := zgd hm
  obtain ⟨b5, hm⟩ := hm
  replace hm := zlb_inv hm
  obtain ⟨o7, eo7, hm⟩ := hm
  refine go_hg (v := va_rf o7) rfl b5 (by decide) (by rw [← eo7]; rfl) ?_
  refine go_run 0 (F' := (60, [some (.ref th), some (.ref a3), some (va_rf p2), some (.ref a4), some (va_rf p4), some (.int l5), some (.ref a1), u7], [va_rf o7, .int l5, .int 1, .int 0, .ref a1], zhp (szL S2 a1 (zL S2 a3)))) rfl ?_
  replace hm := zcP_inv hm
  obtain ⟨S8, o8, e8, hm⟩ := hm
  have k8 := hyC_withTells (X := X) (d := d + 132) e8
  refine go_call (m' := 59) (as := [.int 1, .int l5, va_rf o7]) (rest := [.int 0, .ref a1]) (v := some (va_rf o8)) (h1 := zhp S8) rfl rfl ⟨by cases o7 <;> rfl, by cases o7 <;> exact Nat.le_of_ble_eq_true rfl⟩ k8 ?_
  refine go_run 0 (F' := (63, [some (.ref th), some (.ref a3), some (va_rf p2), some (.ref a4), some (va_rf p4), some (.int l5), some (.ref a1), u7], [va_rf o8, .int 0, .ref a1], zhp S8)) rfl ?_
  refine go_run 0 (F' := (63, [some (.ref th), some (.ref a3), some (va_rf p2), some (.ref a4), some (va_rf p4), some (.int l5), some (.ref a1), u7], [va_rf o8, .int 0, .ref a1], zhp S8)) rfl ?_
  replace hm := zgd hm
  obtain ⟨b6, hm⟩ := hm
  replace hm := zcV_inv hm
  obtain ⟨S9, e9, hm⟩ := hm
  have k9 := hyA_setPart (X := X) (d := d + 135) e9
  refine go_call (m' := 43) (as := [.ref a1, .int 0, va_rf o8]) (rest := []) (v := none) (h1 := zhp S9) rfl (by simp only [ie_step, ie_iv, List.drop, zhp_obj (S := S8) b6 (by decide)]; rfl) ⟨by cases o8 <;> rfl, by cases o8 <;> exact Nat.le_of_ble_eq_true rfl⟩ k9 ?_
  refine go_run 0 (F' := (66, [some (.ref th), some (.ref a3), some (va_rf p2), some (.ref a4), some (va_rf p4), some (.int l5), some (.ref a1), u7], [], zhp S9)) rfl ?_
  refine go_run 4 (F' := (72, [some (.ref th), some (.ref a3), some (va_rf p2), some (.ref a4), some (va_rf p4), some (.int l5), some (.ref a1), u7], [.int l5, .int 0, .int 1, .ref a1], zhp S9)) rfl ?_
  refine go_al2 rfl rfl ?_
  refine go_run 1 (F' := (75, [some (.ref th), some (.ref a3), some (va_rf p2), some (.ref a4), some (va_rf p4), some (.int l5), some (.ref a1), u7], [.ref a3, va_rf p4, .int l5, .int 0, .int 1, .ref a1], zhp S9)) rfl ?_
  replace hm := zgd hm
  obtain ⟨b7, hm⟩ := hm
  refine go_hg (v := .int (zI S9 2 a3)) rfl b7 (by decide) rfl ?_
  refine go_run 0 (F' := (78, [some (.ref th), some (.ref a3), some (va_rf p2), some (.ref a4), some (va_rf p4), some (.int l5), some (.ref a1), u7], [.int (zI S9 2 a3), va_rf p4, .int l5, .int 0, .int 1, .ref a1], zhp S9)) rfl ?_
  replace hm := zob_inv hm
  obtain ⟨a10, rfl, hm⟩ := hm
  replace hm := zgd hm
  obtain ⟨b8, hm⟩ := hm
  replace hm := zgd hm
  obtain ⟨b9, hm⟩ := hm
  replace hm := zlb_inv hm
  obtain ⟨o11, eo11, hm⟩ := hm
  refine go_haald rfl b8 b9 rfl eo11 ?_
  refine go_run 0 (F' := (79, [some (.ref th), some (.ref a3), some (va_rf p2), some (.ref a4), some (.ref a10), some (.int l5), some (.ref a1), u7], [va_rf o11, .int l5, .int 0, .int 1, .ref a1], zhp S9)) rfl ?_
  replace hm := zob_inv hm
  obtain ⟨a12, rfl, hm⟩ := hm
  replace hm := zgd hm
  obtain ⟨b10, hm⟩ := hm
  replace hm := zlb_inv hm
  obtain ⟨o13, eo13, hm⟩ := hm
  refine go_hg (v := va_rf o13) rfl b10 (by decide) (by rw [← eo13]; rfl) ?_
  refine go_run 0 (F' := (82, [some (.ref th), some (.ref a3), some (va_rf p2), some (.ref a4), some (.ref a10), some (.int l5), some (.ref a1), u7], [va_rf o13, .int l5, .int 0, .int 1, .ref a1], zhp S9)) rfl ?_
  replace hm := zcP_inv hm
  obtain ⟨S14, o14, e14, hm⟩ := hm
  have k14 := hyC_withTells (X := X) (d := d + 132) e14
  refine go_call (m' := 59) (as := [.int 0, .int l5, va_rf o13]) (rest := [.int 1, .ref a1]) (v := some (va_rf o14)) (h1 := zhp S14) rfl rfl ⟨by cases o13 <;> rfl, by cases o13 <;> exact Nat.le_of_ble_eq_true rfl⟩ k14 ?_
  refine go_run 0 (F' := (85, [some (.ref th), some (.ref a3), some (va_rf p2), some (.ref a4), some (.ref a10), some (.int l5), some (.ref a1), u7], [va_rf o14, .int 1, .ref a1], zhp S14)) rfl ?_
  refine go_run 0 (F' := (85, [some (.ref th), some (.ref a3), some (va_rf p2), some (.ref a4), some (.ref a10), some (.int l5), some (.ref a1), u7], [va_rf o14, .int 1, .ref a1], zhp S14)) rfl ?_
  replace hm := zgd hm
  obtain ⟨b11, hm⟩ := hm
  replace hm := zcV_inv hm
  obtain ⟨S15, e15, hm⟩ := hm
  have k15 := hyA_setPart (X := X) (d := d + 135) e15
  refine go_call (m' := 43) (as := [.ref a1, .int 1, va_rf o14]) (rest := []) (v := none) (h1 := zhp S15) rfl (by simp only [ie_step, ie_iv, List.drop, zhp_obj (S := S14) b11 (by decide)]; rfl) ⟨by cases o14 <;> rfl, by cases o14 <;> exact Nat.le_of_ble_eq_true rfl⟩ k15 ?_
  refine go_run 0 (F' := (88, [some (.ref th), some (.ref a3), some (va_rf p2), some (.ref a4), some (.ref a10), some (.int l5), some (.ref a1), u7], [], zhp S15)) rfl ?_
  refine go_run 0 (F' := (88, [some (.ref th), some (.ref a3), some (va_rf p2), some (.ref a4), some (.ref a10), some (.int l5), some (.ref a1), u7], [], zhp S15)) rfl ?_
  refine go_al rfl rfl ?_
  refine go_run 1 (F' := (90, [some (.ref th), some (.ref a3), some (va_rf p2), some (.ref a4), some (.ref a10), some (.int l5), some (.ref a1), u7], [.ref a3, va_rf p2], zhp S15)) rfl ?_
  replace hm := zgd hm
  obtain ⟨b12, hm⟩ := hm
  refine go_hg (v := .int (zI S15 2 a3)) rfl b12 (by decide) rfl ?_
  refine go_run 0 (F' := (93, [some (.ref th), some (.ref a3), some (va_rf p2), some (.ref a4), some (.ref a10), some (.int l5), some (.ref a1), u7], [.int (zI S15 2 a3), va_rf p2], zhp S15)) rfl ?_
  replace hm := zob_inv hm
  obtain ⟨a16, rfl, hm⟩ := hm
  replace hm := zgd hm
  obtain ⟨b13, hm⟩ := hm
  replace hm := zgd hm
  obtain ⟨b14, hm⟩ := hm
  replace hm := zlb_inv hm
  obtain ⟨o17, eo17, hm⟩ := hm
  refine go_haald rfl b13 b14 rfl eo17 ?_
  refine go_run 1 (F' := (96, [some (.ref th), some (.ref a3), some (.ref a16), some (.ref a4), some (.ref a10), some (.int l5), some (.ref a1), u7], [.ref a1, va_rf o17], zhp S15)) rfl ?_
  replace hm := zob_inv hm
  obtain ⟨a18, rfl, hm⟩ := hm
  refine go_run 0 (F' := (96, [some (.ref th), some (.ref a3), some (.ref a16), some (.ref a4), some (.ref a10), some (.int l5), some (.ref a1), u7], [.ref a1, .ref a18], zhp S15)) rfl ?_
  replace hm := zgd hm
  obtain ⟨b15, hm⟩ := hm
  replace hm := zcV_inv hm
  obtain ⟨S19, e19, hm⟩ := hm
  have k19 := hyW_append (X := X) (d := d + 134) e19
  refine go_call (m' := 42) (as := [.ref a18, .ref a1]) (rest := []) (v := none) (h1 := zhp S19) rfl (by simp only [ie_step, ie_iv, List.drop, zhp_obj (S := S15) b15 (by decide)]; rfl) ⟨rfl, Nat.le_of_ble_eq_true rfl⟩ k19 ?_
  refine go_run 0 (F' := (99, [some (.ref th), some (.ref a3), some (.ref a16), some (.ref a4), some (.ref a10), some (.int l5), some (.ref a1), u7], [], zhp S19)) rfl ?_
  refine go_run 2 (F' := (102, [some (.ref th), some (va_rf (some a3)), some (va_rf (some a16)), some (va_rf (some a4)), some (va_rf (some a10)), some (.int l5), some (.ref a1), some (.int 0)], [], zhp S19)) rfl ?_
  exact hyC_cutChoice_102  n hm
theorem ehyC_cutChoice_25 {th : Nat} {n : Nat} {S : hS} {p1 : Option Nat} {p2 : Option Nat} {p3 : Option Nat} {p4 : Option Nat} {l5 : Int32} {S' : hS} (hm : yC_cutChoice_25 th n S p1 p2 p3 p4 l5 = some S') : Ex S S' := by
  unfold yC_cutChoice_25 at hm
  have hx : Ex S S := Ex_r
  replace hm := znw_inv hm
  obtain ⟨S1, a1, eS1, ea1, hm⟩ := hm
  have hx := Ex_t (T := S) hx (Ex_n (by decide) eS1)
  replace hm := zcV_inv hm
  obtain ⟨S2, e2, hm⟩ := hm
  have hx := Ex_t (T := S1) hx (ehyA_new e2)
  replace hm := zob_inv hm
  obtain ⟨a3, rfl, hm⟩ := hm
  replace hm := zgd hm
  obtain ⟨b1, hm⟩ := hm
  replace hm := zgd hm
  obtain ⟨b2, hm⟩ := hm
  replace hm := zob_inv hm
  obtain ⟨a4, rfl, hm⟩ := hm
  replace hm := zgd hm
  obtain ⟨b3, hm⟩ := hm
  replace hm := zgd hm
  obtain ⟨b4, hm⟩ := hm
  replace hm := zlb_inv hm
  obtain ⟨o5, eo5, hm⟩ := hm
  replace hm := zob_inv hm
  obtain ⟨a6, rfl, hm⟩ := hm
  replace hm := zgd hm
  obtain ⟨b5, hm⟩ := hm
  replace hm := zlb_inv hm
  obtain ⟨o7, eo7, hm⟩ := hm
  replace hm := zcP_inv hm
  obtain ⟨S8, o8, e8, hm⟩ := hm
  have hx := Ex_t (T := szL S2 a1 (zL S2 a3)) hx (ehyC_withTells e8)
  replace hm := zgd hm
  obtain ⟨b6, hm⟩ := hm
  replace hm := zcV_inv hm
  obtain ⟨S9, e9, hm⟩ := hm
  have hx := Ex_t (T := S8) hx (ehyA_setPart e9)
  replace hm := zgd hm
  obtain ⟨b7, hm⟩ := hm
  replace hm := zob_inv hm
  obtain ⟨a10, rfl, hm⟩ := hm
  replace hm := zgd hm
  obtain ⟨b8, hm⟩ := hm
  replace hm := zgd hm
  obtain ⟨b9, hm⟩ := hm
  replace hm := zlb_inv hm
  obtain ⟨o11, eo11, hm⟩ := hm
  replace hm := zob_inv hm
  obtain ⟨a12, rfl, hm⟩ := hm
  replace hm := zgd hm
  obtain ⟨b10, hm⟩ := hm
  replace hm := zlb_inv hm
  obtain ⟨o13, eo13, hm⟩ := hm
  replace hm := zcP_inv hm
  obtain ⟨S14, o14, e14, hm⟩ := hm
  have hx := Ex_t (T := S9) hx (ehyC_withTells e14)
  replace hm := zgd hm
  obtain ⟨b11, hm⟩ := hm
  replace hm := zcV_inv hm
  obtain ⟨S15, e15, hm⟩ := hm
  have hx := Ex_t (T := S14) hx (ehyA_setPart e15)
  replace hm := zgd hm
  obtain ⟨b12, hm⟩ := hm
  replace hm := zob_inv hm
  obtain ⟨a16, rfl, hm⟩ := hm
  replace hm := zgd hm
  obtain ⟨b13, hm⟩ := hm
  replace hm := zgd hm
  obtain ⟨b14, hm⟩ := hm
  replace hm := zlb_inv hm
  obtain ⟨o17, eo17, hm⟩ := hm
  replace hm := zob_inv hm
  obtain ⟨a18, rfl, hm⟩ := hm
  replace hm := zgd hm
  obtain ⟨b15, hm⟩ := hm
  replace hm := zcV_inv hm
  obtain ⟨S19, e19, hm⟩ := hm
  have hx := Ex_t (T := S15) hx (ehyW_append e19)
  refine Ex_t ?_ (ehyC_cutChoice_102  n hm)
  exact hx
def yC_cutChoice (n : Nat) (S : hS) (th : Nat) (p1 : Option Nat) (p2 : Option Nat) (p3 : Option Nat) (p4 : Option Nat) : Option (hS) := (zcP (yC_unawareAt n S p1 p3 p4) fun S1 v1 => (if v1 = 0 then (yC_cutChoice_25 th  n S1 p1 p2 p3 p4 v1) else (if ztg S1 th = 3 then (zcP (yC_mayPutIn n S1 th p1 v1) fun S2 v2 => (if v2 = 0 then (some S2) else (yC_cutChoice_25 th  n S2 p1 p2 p3 p4 v1))) else none)))
theorem hyC_cutChoice {X : ie_X} {d th : Nat} {n : Nat} {S : hS} {p1 : Option Nat} {p2 : Option Nat} {p3 : Option Nat} {p4 : Option Nat} {S' : hS} (hm : yC_cutChoice n S th p1 p2 p3 p4 = some S') : Go X (d + 136) 50 (0, ie_en 50 [.ref th, va_rf p1, va_rf p2, va_rf p3, va_rf p4], [], zhp S) (.inl none) (zhp S') := by
  unfold yC_cutChoice at hm
  refine go_run 0 (F' := (0, [some (.ref th), some (va_rf p1), some (va_rf p2), some (va_rf p3), some (va_rf p4), none, none, none], [], zhp S)) (by cases p1 <;> cases p2 <;> cases p3 <;> cases p4 <;> rfl) ?_
  refine go_run 0 (F' := (0, [some (.ref th), some (va_rf p1), some (va_rf p2), some (va_rf p3), some (va_rf p4), none, none, none], [], zhp S)) rfl ?_
  refine go_al rfl rfl ?_
  refine go_run 0 (F' := (1, [some (.ref th), some (va_rf p1), some (va_rf p2), some (va_rf p3), some (va_rf p4), none, none, none], [va_rf p1], zhp S)) rfl ?_
  refine go_al rfl rfl ?_
  refine go_run 0 (F' := (2, [some (.ref th), some (va_rf p1), some (va_rf p2), some (va_rf p3), some (va_rf p4), none, none, none], [va_rf p3, va_rf p1], zhp S)) rfl ?_
  refine go_al2 rfl rfl ?_
  refine go_run 0 (F' := (4, [some (.ref th), some (va_rf p1), some (va_rf p2), some (va_rf p3), some (va_rf p4), none, none, none], [va_rf p4, va_rf p3, va_rf p1], zhp S)) rfl ?_
  replace hm := zcP_inv hm
  obtain ⟨S1, v1, e1, hm⟩ := hm
  have k1 := hyC_unawareAt (X := X) (d := d) e1
  refine go_call (m' := 51) (as := [va_rf p1, va_rf p3, va_rf p4]) (rest := []) (v := some (.int v1)) (h1 := zhp S1) rfl rfl ⟨by cases p1 <;> cases p3 <;> cases p4 <;> rfl, by cases p1 <;> cases p3 <;> cases p4 <;> exact Nat.le_of_ble_eq_true rfl⟩ k1 ?_
  refine go_run 0 (F' := (7, [some (.ref th), some (va_rf p1), some (va_rf p2), some (va_rf p3), some (va_rf p4), none, none, none], [.int v1], zhp S1)) rfl ?_
  refine go_run 2 (F' := (11, [some (.ref th), some (va_rf p1), some (va_rf p2), some (va_rf p3), some (va_rf p4), some (.int v1), none, none], [.int v1], zhp S1)) rfl ?_
  refine go_step rfl rfl ?_
  by_cases q1 : v1 = 0
  · rw [if_pos q1] at hm ⊢
    refine go_run 0 (F' := (25, [some (.ref th), some (va_rf p1), some (va_rf p2), some (va_rf p3), some (va_rf p4), some (.int v1), none, none], [], zhp S1)) rfl ?_
    refine go_run 0 (F' := (25, [some (.ref th), some (va_rf p1), some (va_rf p2), some (va_rf p3), some (va_rf p4), some (.int v1), none, none], [], zhp S1)) rfl ?_
    exact hyC_cutChoice_25  hm
  · rw [if_neg q1] at hm ⊢
    refine go_run 0 (F' := (14, [some (.ref th), some (va_rf p1), some (va_rf p2), some (va_rf p3), some (va_rf p4), some (.int v1), none, none], [], zhp S1)) rfl ?_
    refine go_run 1 (F' := (15, [some (.ref th), some (va_rf p1), some (va_rf p2), some (va_rf p3), some (va_rf p4), some (.int v1), none, none], [.ref th], zhp S1)) rfl ?_
    refine go_al rfl rfl ?_
    refine go_run 1 (F' := (18, [some (.ref th), some (va_rf p1), some (va_rf p2), some (va_rf p3), some (va_rf p4), some (.int v1), none, none], [.int v1, va_rf p1, .ref th], zhp S1)) rfl ?_
    replace hm := zgd hm
    obtain ⟨b2, hm⟩ := hm
    replace hm := zcP_inv hm
    obtain ⟨S2, v2, e2, hm⟩ := hm
    have k2 := hyC_mayPutIn (X := X) (d := d + 133) e2
    refine go_call (m' := 56) (as := [.ref th, va_rf p1, .int v1]) (rest := []) (v := some (.int v2)) (h1 := zhp S2) rfl (by simp only [ie_step, ie_iv, List.drop, zhp_obj (S := S1) b2 (by decide)]; rfl) ⟨by cases p1 <;> rfl, by cases p1 <;> exact Nat.le_of_ble_eq_true rfl⟩ k2 ?_
    refine go_run 0 (F' := (21, [some (.ref th), some (va_rf p1), some (va_rf p2), some (va_rf p3), some (va_rf p4), some (.int v1), none, none], [.int v2], zhp S2)) rfl ?_
    refine go_run 0 (F' := (21, [some (.ref th), some (va_rf p1), some (va_rf p2), some (va_rf p3), some (va_rf p4), some (.int v1), none, none], [.int v2], zhp S2)) rfl ?_
    refine go_step rfl rfl ?_
    by_cases q3 : v2 = 0
    · rw [if_pos q3] at hm ⊢
      refine go_run 0 (F' := (24, [some (.ref th), some (va_rf p1), some (va_rf p2), some (va_rf p3), some (va_rf p4), some (.int v1), none, none], [], zhp S2)) rfl ?_
      refine go_run 0 (F' := (24, [some (.ref th), some (va_rf p1), some (va_rf p2), some (va_rf p3), some (va_rf p4), some (.int v1), none, none], [], zhp S2)) rfl ?_
      cases hm
      exact go_end rfl rfl
    · rw [if_neg q3] at hm ⊢
      refine go_run 0 (F' := (25, [some (.ref th), some (va_rf p1), some (va_rf p2), some (va_rf p3), some (va_rf p4), some (.int v1), none, none], [], zhp S2)) rfl ?_
      refine go_run 0 (F' := (25, [some (.ref th), some (va_rf p1), some (va_rf p2), some (va_rf p3), some (va_rf p4), some (.int v1), none, none], [], zhp S2)) rfl ?_
      exact hyC_cutChoice_25  hm
theorem ehyC_cutChoice {th : Nat} {n : Nat} {S : hS} {p1 : Option Nat} {p2 : Option Nat} {p3 : Option Nat} {p4 : Option Nat} {S' : hS} (hm : yC_cutChoice n S th p1 p2 p3 p4 = some S') : Ex S S' := by
  unfold yC_cutChoice at hm
  have hx : Ex S S := Ex_r
  replace hm := zcP_inv hm
  obtain ⟨S1, v1, e1, hm⟩ := hm
  have hx := Ex_t (T := S) hx (ehyC_unawareAt e1)
  by_cases q1 : v1 = 0
  · rw [if_pos q1] at hm
    refine Ex_t ?_ (ehyC_cutChoice_25  hm)
    exact hx
  · rw [if_neg q1] at hm
    replace hm := zgd hm
    obtain ⟨b2, hm⟩ := hm
    replace hm := zcP_inv hm
    obtain ⟨S2, v2, e2, hm⟩ := hm
    have hx := Ex_t (T := S1) hx (ehyC_mayPutIn e2)
    by_cases q3 : v2 = 0
    · rw [if_pos q3] at hm
      cases hm
      exact hx
    · rw [if_neg q3] at hm
      refine Ex_t ?_ (ehyC_cutChoice_25  hm)
      exact hx
theorem sw_38_4 {X : ie_X} {r : Nat × Nat × Nat} {ls : ie_L} {st : List Value} {h : ie_H} {x : Int32} (q0 : ¬ x = 1) (q1 : ¬ x = 2) (q2 : ¬ x = 4) (q3 : ¬ x = 7) : ie_step X 38 (.tableswitch 119 1 7 #[44, 52, 119, 60, 119, 119, 100]) r 4 ls (.int x :: st) h = some (.inl (123, ls, st, h)) := by
  have n0 : x.toInt ≠ 1 := fun z => q0 (Int32.toInt_inj.mp z)
  have n1 : x.toInt ≠ 2 := fun z => q1 (Int32.toInt_inj.mp z)
  have n2 : x.toInt ≠ 4 := fun z => q2 (Int32.toInt_inj.mp z)
  have n3 : x.toInt ≠ 7 := fun z => q3 (Int32.toInt_inj.mp z)
  clear q0 q1 q2 q3
  show (some (.inl (ie_ts 4 119 1 7 #[44, 52, 119, 60, 119, 119, 100] x.toInt, ls, st, h)) : ie_R) = _
  unfold ie_ts
  by_cases c : x.toInt < 1 ∨ 7 < x.toInt
  · rw [if_pos c]; rfl
  · rw [if_neg c]
    rcases (show x.toInt = 3 ∨ x.toInt = 5 ∨ x.toInt = 6 by omega) with e | e | e
    · rw [e]; rfl
    · rw [e]; rfl
    · rw [e]; rfl
def yC_cutStatement (rc : hS → Nat → Option Nat → Int32 → Option (hS × Option Nat)) (n : Nat) (S : hS) (th : Nat) (p1 : Option Nat) (p2 : Option Nat) (x3 : Int32) : Option (hS) := (zob p1 fun a1 => (if ztg S a1 = 10 then (if zI S 1 a1 = 1 then (zcV (yC_cutSet n S (some a1) p2) fun S2 => (some S2)) else (if zI S 1 a1 = 2 then (zcV (yC_cutSend n S (some a1) p2) fun S3 => (some S3)) else (if zI S 1 a1 = 4 then (zob p2 fun a4 => (if zar S a4 then (if ib (zI S 2 a1) (zLen S a4) then (zlb ((zAR S a4) (Int32.toNatClampNeg (zI S 2 a1))) fun o5 => (zcP (yA_tell S (zI S 5 a1) (zI S 3 a1)) fun S6 o6 => (zob o5 fun a7 => (if ztg S6 a7 = 8 then (zcV (yW_append n S6 a7 o6) fun S8 => (if ztg S8 a1 = 10 then (if zar S8 a4 then (if ib (zI S8 3 a1) (zLen S8 a4) then (zlb ((zAR S8 a4) (Int32.toNatClampNeg (zI S8 3 a1))) fun o9 => (zob o9 fun a10 => (if ztg S8 a10 = 8 then (zcV (yW_appendHear n S8 a10 (zI S8 2 a1) (zI S8 5 a1)) fun S11 => (some S11)) else none))) else none) else none) else none)) else none)))) else none) else none)) else (if zI S 1 a1 = 7 then (zlb (zR S 7 a1) fun o12 => (if ztg S th = 3 then (zcP (rc S th o12 (x3 + 1)) fun S13 o13 => (zcV (yC_cutRound n S13 (some a1) p2 o13) fun S14 => (some S14))) else none)) else (zlb (zR S 7 a1) fun o15 => (if ztg S th = 3 then (zcP (rc S th o15 (x3 + 1)) fun S16 o16 => (if ztg S16 a1 = 10 then (zlb (zR S16 8 a1) fun o17 => (if ztg S16 th = 3 then (zcP (rc S16 th o17 (x3 + 1)) fun S18 o18 => (if ztg S18 th = 3 then (if zI S18 2 th = (-1) then (zcV (yC_cutChoice n S18 th (some a1) p2 o16 o18) fun S19 => (some S19)) else (some S18)) else none)) else none)) else none)) else none)))))) else none))
theorem hyC_cutStatement {X : ie_X} {e th : Nat} {rc : hS → Nat → Option Nat → Int32 → Option (hS × Option Nat)} (hrc : ∀ {S : hS} {th : Nat} {z1 : Option Nat} {z2 : Int32} {S' : hS} {r : Option Nat}, rc S th z1 z2 = some (S', r) → Go X (e + 136) 36 (0, ie_en 36 [.ref th, va_rf z1, .int z2], [], zhp S) (.inl (some (va_rf r))) (zhp S')) {n : Nat} {S : hS} {p1 : Option Nat} {p2 : Option Nat} {x3 : Int32} {S' : hS} (hm : yC_cutStatement rc n S th p1 p2 x3 = some S') : Go X (e + 137) 38 (0, ie_en 38 [.ref th, va_rf p1, va_rf p2, .int x3], [], zhp S) (.inl none) (zhp S') := by
  unfold yC_cutStatement at hm
  refine go_run 0 (F' := (0, [some (.ref th), some (va_rf p1), some (va_rf p2), some (.int x3), none, none], [], zhp S)) (by cases p1 <;> cases p2 <;> rfl) ?_
  refine go_run 0 (F' := (0, [some (.ref th), some (va_rf p1), some (va_rf p2), some (.int x3), none, none], [], zhp S)) rfl ?_
  refine go_al rfl rfl ?_
  refine go_run 0 (F' := (1, [some (.ref th), some (va_rf p1), some (va_rf p2), some (.int x3), none, none], [va_rf p1], zhp S)) rfl ?_
  replace hm := zob_inv hm
  obtain ⟨a1, rfl, hm⟩ := hm
  replace hm := zgd hm
  obtain ⟨b1, hm⟩ := hm
  refine go_hg (v := .int (zI S 1 a1)) rfl b1 (by decide) rfl ?_
  refine go_run 0 (F' := (4, [some (.ref th), some (.ref a1), some (va_rf p2), some (.int x3), none, none], [.int (zI S 1 a1)], zhp S)) rfl ?_
  by_cases q2 : zI S 1 a1 = 1
  · rw [if_pos q2] at hm
    refine go_step rfl (F := (48, [some (.ref th), some (.ref a1), some (va_rf p2), some (.int x3), none, none], [], zhp S)) (by simp only [ie_step, q2]; rfl) ?_
    refine go_run 0 (F' := (48, [some (.ref th), some (.ref a1), some (va_rf p2), some (.int x3), none, none], [], zhp S)) rfl ?_
    refine go_run 1 (F' := (49, [some (.ref th), some (.ref a1), some (va_rf p2), some (.int x3), none, none], [.ref a1], zhp S)) rfl ?_
    refine go_al rfl rfl ?_
    refine go_run 0 (F' := (50, [some (.ref th), some (.ref a1), some (va_rf p2), some (.int x3), none, none], [va_rf p2, .ref a1], zhp S)) rfl ?_
    replace hm := zcV_inv hm
    obtain ⟨S2, e2, hm⟩ := hm
    have k2 := hyC_cutSet (X := X) (d := e + 134) e2
    refine go_call (m' := 39) (as := [.ref a1, va_rf p2]) (rest := []) (v := none) (h1 := zhp S2) rfl rfl ⟨by cases p2 <;> rfl, by cases p2 <;> exact Nat.le_of_ble_eq_true rfl⟩ k2 ?_
    refine go_run 0 (F' := (53, [some (.ref th), some (.ref a1), some (va_rf p2), some (.int x3), none, none], [], zhp S2)) rfl ?_
    refine go_run 1 (F' := (167, [some (.ref th), some (.ref a1), some (va_rf p2), some (.int x3), none, none], [], zhp S2)) rfl ?_
    cases hm
    exact go_end rfl rfl
  · rw [if_neg q2] at hm
    by_cases q3 : zI S 1 a1 = 2
    · rw [if_pos q3] at hm
      refine go_step rfl (F := (56, [some (.ref th), some (.ref a1), some (va_rf p2), some (.int x3), none, none], [], zhp S)) (by simp only [ie_step, q3]; rfl) ?_
      refine go_run 0 (F' := (56, [some (.ref th), some (.ref a1), some (va_rf p2), some (.int x3), none, none], [], zhp S)) rfl ?_
      refine go_run 1 (F' := (57, [some (.ref th), some (.ref a1), some (va_rf p2), some (.int x3), none, none], [.ref a1], zhp S)) rfl ?_
      refine go_al rfl rfl ?_
      refine go_run 0 (F' := (58, [some (.ref th), some (.ref a1), some (va_rf p2), some (.int x3), none, none], [va_rf p2, .ref a1], zhp S)) rfl ?_
      replace hm := zcV_inv hm
      obtain ⟨S3, e3, hm⟩ := hm
      have k3 := hyC_cutSend (X := X) (d := e + 134) e3
      refine go_call (m' := 44) (as := [.ref a1, va_rf p2]) (rest := []) (v := none) (h1 := zhp S3) rfl rfl ⟨by cases p2 <;> rfl, by cases p2 <;> exact Nat.le_of_ble_eq_true rfl⟩ k3 ?_
      refine go_run 0 (F' := (61, [some (.ref th), some (.ref a1), some (va_rf p2), some (.int x3), none, none], [], zhp S3)) rfl ?_
      refine go_run 1 (F' := (167, [some (.ref th), some (.ref a1), some (va_rf p2), some (.int x3), none, none], [], zhp S3)) rfl ?_
      cases hm
      exact go_end rfl rfl
    · rw [if_neg q3] at hm
      by_cases q4 : zI S 1 a1 = 4
      · rw [if_pos q4] at hm
        refine go_step rfl (F := (64, [some (.ref th), some (.ref a1), some (va_rf p2), some (.int x3), none, none], [], zhp S)) (by simp only [ie_step, q4]; rfl) ?_
        refine go_run 0 (F' := (64, [some (.ref th), some (.ref a1), some (va_rf p2), some (.int x3), none, none], [], zhp S)) rfl ?_
        refine go_run 0 (F' := (64, [some (.ref th), some (.ref a1), some (va_rf p2), some (.int x3), none, none], [], zhp S)) rfl ?_
        refine go_al rfl rfl ?_
        refine go_run 1 (F' := (66, [some (.ref th), some (.ref a1), some (va_rf p2), some (.int x3), none, none], [.ref a1, va_rf p2], zhp S)) rfl ?_
        refine go_hg (v := .int (zI S 2 a1)) rfl b1 (by decide) rfl ?_
        refine go_run 0 (F' := (69, [some (.ref th), some (.ref a1), some (va_rf p2), some (.int x3), none, none], [.int (zI S 2 a1), va_rf p2], zhp S)) rfl ?_
        replace hm := zob_inv hm
        obtain ⟨a4, rfl, hm⟩ := hm
        replace hm := zgd hm
        obtain ⟨b5, hm⟩ := hm
        replace hm := zgd hm
        obtain ⟨b6, hm⟩ := hm
        replace hm := zlb_inv hm
        obtain ⟨o5, eo5, hm⟩ := hm
        refine go_haald rfl b5 b6 rfl eo5 ?_
        refine go_run 1 (F' := (71, [some (.ref th), some (.ref a1), some (.ref a4), some (.int x3), none, none], [.ref a1, va_rf o5], zhp S)) rfl ?_
        refine go_hg (v := .int (zI S 5 a1)) rfl b1 (by decide) rfl ?_
        refine go_run 1 (F' := (75, [some (.ref th), some (.ref a1), some (.ref a4), some (.int x3), none, none], [.ref a1, .int (zI S 5 a1), va_rf o5], zhp S)) rfl ?_
        refine go_hg (v := .int (zI S 3 a1)) rfl b1 (by decide) rfl ?_
        refine go_run 0 (F' := (78, [some (.ref th), some (.ref a1), some (.ref a4), some (.int x3), none, none], [.int (zI S 3 a1), .int (zI S 5 a1), va_rf o5], zhp S)) rfl ?_
        replace hm := zcP_inv hm
        obtain ⟨S6, o6, e6, hm⟩ := hm
        have k6 := hyA_tell (X := X) (d := e + 134) e6
        refine go_call (m' := 45) (as := [.int (zI S 5 a1), .int (zI S 3 a1)]) (rest := [va_rf o5]) (v := some (va_rf o6)) (h1 := zhp S6) rfl (by cases o5 <;> rfl) ⟨rfl, Nat.le_of_ble_eq_true rfl⟩ k6 ?_
        refine go_run 0 (F' := (81, [some (.ref th), some (.ref a1), some (.ref a4), some (.int x3), none, none], [va_rf o6, va_rf o5], zhp S6)) rfl ?_
        refine go_run 0 (F' := (81, [some (.ref th), some (.ref a1), some (.ref a4), some (.int x3), none, none], [va_rf o6, va_rf o5], zhp S6)) rfl ?_
        replace hm := zob_inv hm
        obtain ⟨a7, rfl, hm⟩ := hm
        refine go_run 0 (F' := (81, [some (.ref th), some (.ref a1), some (.ref a4), some (.int x3), none, none], [va_rf o6, .ref a7], zhp S6)) rfl ?_
        replace hm := zgd hm
        obtain ⟨b7, hm⟩ := hm
        replace hm := zcV_inv hm
        obtain ⟨S8, e8, hm⟩ := hm
        have k8 := hyW_append (X := X) (d := e + 135) e8
        refine go_call (m' := 42) (as := [.ref a7, va_rf o6]) (rest := []) (v := none) (h1 := zhp S8) rfl (by simp only [ie_step, ie_iv, List.drop, zhp_obj (S := S6) b7 (by decide)]; rfl) ⟨by cases o6 <;> rfl, by cases o6 <;> exact Nat.le_of_ble_eq_true rfl⟩ k8 ?_
        refine go_run 0 (F' := (84, [some (.ref th), some (.ref a1), some (.ref a4), some (.int x3), none, none], [], zhp S8)) rfl ?_
        refine go_run 2 (F' := (86, [some (.ref th), some (.ref a1), some (.ref a4), some (.int x3), none, none], [.ref a1, .ref a4], zhp S8)) rfl ?_
        replace hm := zgd hm
        obtain ⟨b8, hm⟩ := hm
        refine go_hg (v := .int (zI S8 3 a1)) rfl b8 (by decide) rfl ?_
        refine go_run 0 (F' := (89, [some (.ref th), some (.ref a1), some (.ref a4), some (.int x3), none, none], [.int (zI S8 3 a1), .ref a4], zhp S8)) rfl ?_
        replace hm := zgd hm
        obtain ⟨b9, hm⟩ := hm
        replace hm := zgd hm
        obtain ⟨b10, hm⟩ := hm
        replace hm := zlb_inv hm
        obtain ⟨o9, eo9, hm⟩ := hm
        refine go_haald rfl b9 b10 rfl eo9 ?_
        refine go_run 1 (F' := (91, [some (.ref th), some (.ref a1), some (.ref a4), some (.int x3), none, none], [.ref a1, va_rf o9], zhp S8)) rfl ?_
        refine go_hg (v := .int (zI S8 2 a1)) rfl b8 (by decide) rfl ?_
        refine go_run 1 (F' := (95, [some (.ref th), some (.ref a1), some (.ref a4), some (.int x3), none, none], [.ref a1, .int (zI S8 2 a1), va_rf o9], zhp S8)) rfl ?_
        refine go_hg (v := .int (zI S8 5 a1)) rfl b8 (by decide) rfl ?_
        refine go_run 0 (F' := (98, [some (.ref th), some (.ref a1), some (.ref a4), some (.int x3), none, none], [.int (zI S8 5 a1), .int (zI S8 2 a1), va_rf o9], zhp S8)) rfl ?_
        replace hm := zob_inv hm
        obtain ⟨a10, rfl, hm⟩ := hm
        refine go_run 0 (F' := (98, [some (.ref th), some (.ref a1), some (.ref a4), some (.int x3), none, none], [.int (zI S8 5 a1), .int (zI S8 2 a1), .ref a10], zhp S8)) rfl ?_
        replace hm := zgd hm
        obtain ⟨b11, hm⟩ := hm
        replace hm := zcV_inv hm
        obtain ⟨S11, e11, hm⟩ := hm
        have k11 := hyW_appendHear (X := X) (d := e + 133) e11
        refine go_call (m' := 46) (as := [.ref a10, .int (zI S8 2 a1), .int (zI S8 5 a1)]) (rest := []) (v := none) (h1 := zhp S11) rfl (by simp only [ie_step, ie_iv, List.drop, zhp_obj (S := S8) b11 (by decide)]; rfl) ⟨rfl, Nat.le_of_ble_eq_true rfl⟩ k11 ?_
        refine go_run 0 (F' := (101, [some (.ref th), some (.ref a1), some (.ref a4), some (.int x3), none, none], [], zhp S11)) rfl ?_
        refine go_run 1 (F' := (167, [some (.ref th), some (.ref a1), some (.ref a4), some (.int x3), none, none], [], zhp S11)) rfl ?_
        cases hm
        exact go_end rfl rfl
      · rw [if_neg q4] at hm
        by_cases q12 : zI S 1 a1 = 7
        · rw [if_pos q12] at hm
          refine go_step rfl (F := (104, [some (.ref th), some (.ref a1), some (va_rf p2), some (.int x3), none, none], [], zhp S)) (by simp only [ie_step, q12]; rfl) ?_
          refine go_run 0 (F' := (104, [some (.ref th), some (.ref a1), some (va_rf p2), some (.int x3), none, none], [], zhp S)) rfl ?_
          refine go_run 1 (F' := (105, [some (.ref th), some (.ref a1), some (va_rf p2), some (.int x3), none, none], [.ref a1], zhp S)) rfl ?_
          refine go_al rfl rfl ?_
          refine go_run 2 (F' := (108, [some (.ref th), some (.ref a1), some (va_rf p2), some (.int x3), none, none], [.ref a1, .ref th, va_rf p2, .ref a1], zhp S)) rfl ?_
          replace hm := zlb_inv hm
          obtain ⟨o12, eo12, hm⟩ := hm
          refine go_hg (v := va_rf o12) rfl b1 (by decide) (by rw [← eo12]; rfl) ?_
          refine go_run 3 (F' := (114, [some (.ref th), some (.ref a1), some (va_rf p2), some (.int x3), none, none], [.int (x3 + 1), va_rf o12, .ref th, va_rf p2, .ref a1], zhp S)) rfl ?_
          replace hm := zgd hm
          obtain ⟨b13, hm⟩ := hm
          replace hm := zcP_inv hm
          obtain ⟨S13, o13, e13, hm⟩ := hm
          have k13 := hrc e13
          refine go_call (m' := 36) (as := [.ref th, va_rf o12, .int (x3 + 1)]) (rest := [va_rf p2, .ref a1]) (v := some (va_rf o13)) (h1 := zhp S13) rfl (by simp only [ie_step, ie_iv, List.drop, zhp_obj (S := S) b13 (by decide)]; cases p2 <;> rfl) ⟨by cases o12 <;> rfl, by cases o12 <;> exact Nat.le_of_ble_eq_true rfl⟩ k13 ?_
          refine go_run 0 (F' := (117, [some (.ref th), some (.ref a1), some (va_rf p2), some (.int x3), none, none], [va_rf o13, va_rf p2, .ref a1], zhp S13)) rfl ?_
          refine go_run 0 (F' := (117, [some (.ref th), some (.ref a1), some (va_rf p2), some (.int x3), none, none], [va_rf o13, va_rf p2, .ref a1], zhp S13)) rfl ?_
          replace hm := zcV_inv hm
          obtain ⟨S14, e14, hm⟩ := hm
          have k14 := hyC_cutRound (X := X) (d := e + 134) e14
          refine go_call (m' := 48) (as := [.ref a1, va_rf p2, va_rf o13]) (rest := []) (v := none) (h1 := zhp S14) rfl rfl ⟨by cases o13 <;> cases p2 <;> rfl, by cases o13 <;> cases p2 <;> exact Nat.le_of_ble_eq_true rfl⟩ k14 ?_
          refine go_run 0 (F' := (120, [some (.ref th), some (.ref a1), some (va_rf p2), some (.int x3), none, none], [], zhp S14)) rfl ?_
          refine go_run 1 (F' := (167, [some (.ref th), some (.ref a1), some (va_rf p2), some (.int x3), none, none], [], zhp S14)) rfl ?_
          cases hm
          exact go_end rfl rfl
        · rw [if_neg q12] at hm
          refine go_step rfl (F := (123, [some (.ref th), some (.ref a1), some (va_rf p2), some (.int x3), none, none], [], zhp S)) (sw_38_4 q2 q3 q4 q12) ?_
          refine go_run 0 (F' := (123, [some (.ref th), some (.ref a1), some (va_rf p2), some (.int x3), none, none], [], zhp S)) rfl ?_
          refine go_run 2 (F' := (125, [some (.ref th), some (.ref a1), some (va_rf p2), some (.int x3), none, none], [.ref a1, .ref th], zhp S)) rfl ?_
          replace hm := zlb_inv hm
          obtain ⟨o15, eo15, hm⟩ := hm
          refine go_hg (v := va_rf o15) rfl b1 (by decide) (by rw [← eo15]; rfl) ?_
          refine go_run 3 (F' := (131, [some (.ref th), some (.ref a1), some (va_rf p2), some (.int x3), none, none], [.int (x3 + 1), va_rf o15, .ref th], zhp S)) rfl ?_
          replace hm := zgd hm
          obtain ⟨b14, hm⟩ := hm
          replace hm := zcP_inv hm
          obtain ⟨S16, o16, e16, hm⟩ := hm
          have k16 := hrc e16
          refine go_call (m' := 36) (as := [.ref th, va_rf o15, .int (x3 + 1)]) (rest := []) (v := some (va_rf o16)) (h1 := zhp S16) rfl (by simp only [ie_step, ie_iv, List.drop, zhp_obj (S := S) b14 (by decide)]; rfl) ⟨by cases o15 <;> rfl, by cases o15 <;> exact Nat.le_of_ble_eq_true rfl⟩ k16 ?_
          refine go_run 0 (F' := (134, [some (.ref th), some (.ref a1), some (va_rf p2), some (.int x3), none, none], [va_rf o16], zhp S16)) rfl ?_
          refine go_run 0 (F' := (134, [some (.ref th), some (.ref a1), some (va_rf p2), some (.int x3), none, none], [va_rf o16], zhp S16)) rfl ?_
          refine go_as2 rfl ?_
          refine go_run 2 (F' := (138, [some (.ref th), some (.ref a1), some (va_rf p2), some (.int x3), some (va_rf o16), none], [.ref a1, .ref th], zhp S16)) rfl ?_
          replace hm := zgd hm
          obtain ⟨b15, hm⟩ := hm
          replace hm := zlb_inv hm
          obtain ⟨o17, eo17, hm⟩ := hm
          refine go_hg (v := va_rf o17) rfl b15 (by decide) (by rw [← eo17]; rfl) ?_
          refine go_run 3 (F' := (144, [some (.ref th), some (.ref a1), some (va_rf p2), some (.int x3), some (va_rf o16), none], [.int (x3 + 1), va_rf o17, .ref th], zhp S16)) rfl ?_
          replace hm := zgd hm
          obtain ⟨b16, hm⟩ := hm
          replace hm := zcP_inv hm
          obtain ⟨S18, o18, e18, hm⟩ := hm
          have k18 := hrc e18
          refine go_call (m' := 36) (as := [.ref th, va_rf o17, .int (x3 + 1)]) (rest := []) (v := some (va_rf o18)) (h1 := zhp S18) rfl (by simp only [ie_step, ie_iv, List.drop, zhp_obj (S := S16) b16 (by decide)]; rfl) ⟨by cases o17 <;> rfl, by cases o17 <;> exact Nat.le_of_ble_eq_true rfl⟩ k18 ?_
          refine go_run 0 (F' := (147, [some (.ref th), some (.ref a1), some (va_rf p2), some (.int x3), some (va_rf o16), none], [va_rf o18], zhp S18)) rfl ?_
          refine go_run 0 (F' := (147, [some (.ref th), some (.ref a1), some (va_rf p2), some (.int x3), some (va_rf o16), none], [va_rf o18], zhp S18)) rfl ?_
          refine go_as2 rfl ?_
          refine go_run 1 (F' := (150, [some (.ref th), some (.ref a1), some (va_rf p2), some (.int x3), some (va_rf o16), some (va_rf o18)], [.ref th], zhp S18)) rfl ?_
          replace hm := zgd hm
          obtain ⟨b17, hm⟩ := hm
          refine go_hg (v := .int (zI S18 2 th)) rfl b17 (by decide) rfl ?_
          refine go_run 1 (F' := (154, [some (.ref th), some (.ref a1), some (va_rf p2), some (.int x3), some (va_rf o16), some (va_rf o18)], [.int (-1), .int (zI S18 2 th)], zhp S18)) rfl ?_
          refine go_step rfl rfl ?_
          by_cases q18 : zI S18 2 th = (-1)
          · rw [if_pos q18] at hm ⊢
            refine go_run 0 (F' := (157, [some (.ref th), some (.ref a1), some (va_rf p2), some (.int x3), some (va_rf o16), some (va_rf o18)], [], zhp S18)) rfl ?_
            refine go_run 2 (F' := (159, [some (.ref th), some (.ref a1), some (va_rf p2), some (.int x3), some (va_rf o16), some (va_rf o18)], [.ref a1, .ref th], zhp S18)) rfl ?_
            refine go_al rfl rfl ?_
            refine go_run 0 (F' := (160, [some (.ref th), some (.ref a1), some (va_rf p2), some (.int x3), some (va_rf o16), some (va_rf o18)], [va_rf p2, .ref a1, .ref th], zhp S18)) rfl ?_
            refine go_al2 rfl rfl ?_
            refine go_run 0 (F' := (162, [some (.ref th), some (.ref a1), some (va_rf p2), some (.int x3), some (va_rf o16), some (va_rf o18)], [va_rf o16, va_rf p2, .ref a1, .ref th], zhp S18)) rfl ?_
            refine go_al2 rfl rfl ?_
            refine go_run 0 (F' := (164, [some (.ref th), some (.ref a1), some (va_rf p2), some (.int x3), some (va_rf o16), some (va_rf o18)], [va_rf o18, va_rf o16, va_rf p2, .ref a1, .ref th], zhp S18)) rfl ?_
            replace hm := zcV_inv hm
            obtain ⟨S19, e19, hm⟩ := hm
            have k19 := hyC_cutChoice (X := X) (d := e) e19
            refine go_call (m' := 50) (as := [.ref th, .ref a1, va_rf p2, va_rf o16, va_rf o18]) (rest := []) (v := none) (h1 := zhp S19) rfl (by simp only [ie_step, ie_iv, List.drop, zhp_obj (S := S18) b17 (by decide)]; rfl) ⟨by cases o16 <;> cases o18 <;> cases p2 <;> rfl, by cases o16 <;> cases o18 <;> cases p2 <;> exact Nat.le_of_ble_eq_true rfl⟩ k19 ?_
            refine go_run 0 (F' := (167, [some (.ref th), some (.ref a1), some (va_rf p2), some (.int x3), some (va_rf o16), some (va_rf o18)], [], zhp S19)) rfl ?_
            refine go_run 0 (F' := (167, [some (.ref th), some (.ref a1), some (va_rf p2), some (.int x3), some (va_rf o16), some (va_rf o18)], [], zhp S19)) rfl ?_
            cases hm
            exact go_end rfl rfl
          · rw [if_neg q18] at hm ⊢
            refine go_run 0 (F' := (167, [some (.ref th), some (.ref a1), some (va_rf p2), some (.int x3), some (va_rf o16), some (va_rf o18)], [], zhp S18)) rfl ?_
            refine go_run 0 (F' := (167, [some (.ref th), some (.ref a1), some (va_rf p2), some (.int x3), some (va_rf o16), some (va_rf o18)], [], zhp S18)) rfl ?_
            cases hm
            exact go_end rfl rfl
theorem ehyC_cutStatement {th : Nat} {rc : hS → Nat → Option Nat → Int32 → Option (hS × Option Nat)} (hrc : ∀ {S : hS} {th : Nat} {z1 : Option Nat} {z2 : Int32} {S' : hS} {r : Option Nat}, rc S th z1 z2 = some (S', r) → Ex S S') {n : Nat} {S : hS} {p1 : Option Nat} {p2 : Option Nat} {x3 : Int32} {S' : hS} (hm : yC_cutStatement rc n S th p1 p2 x3 = some S') : Ex S S' := by
  unfold yC_cutStatement at hm
  have hx : Ex S S := Ex_r
  replace hm := zob_inv hm
  obtain ⟨a1, rfl, hm⟩ := hm
  replace hm := zgd hm
  obtain ⟨b1, hm⟩ := hm
  by_cases q2 : zI S 1 a1 = 1
  · rw [if_pos q2] at hm
    replace hm := zcV_inv hm
    obtain ⟨S2, e2, hm⟩ := hm
    have hx := Ex_t (T := S) hx (ehyC_cutSet e2)
    cases hm
    exact hx
  · rw [if_neg q2] at hm
    by_cases q3 : zI S 1 a1 = 2
    · rw [if_pos q3] at hm
      replace hm := zcV_inv hm
      obtain ⟨S3, e3, hm⟩ := hm
      have hx := Ex_t (T := S) hx (ehyC_cutSend e3)
      cases hm
      exact hx
    · rw [if_neg q3] at hm
      by_cases q4 : zI S 1 a1 = 4
      · rw [if_pos q4] at hm
        replace hm := zob_inv hm
        obtain ⟨a4, rfl, hm⟩ := hm
        replace hm := zgd hm
        obtain ⟨b5, hm⟩ := hm
        replace hm := zgd hm
        obtain ⟨b6, hm⟩ := hm
        replace hm := zlb_inv hm
        obtain ⟨o5, eo5, hm⟩ := hm
        replace hm := zcP_inv hm
        obtain ⟨S6, o6, e6, hm⟩ := hm
        have hx := Ex_t (T := S) hx (ehyA_tell e6)
        replace hm := zob_inv hm
        obtain ⟨a7, rfl, hm⟩ := hm
        replace hm := zgd hm
        obtain ⟨b7, hm⟩ := hm
        replace hm := zcV_inv hm
        obtain ⟨S8, e8, hm⟩ := hm
        have hx := Ex_t (T := S6) hx (ehyW_append e8)
        replace hm := zgd hm
        obtain ⟨b8, hm⟩ := hm
        replace hm := zgd hm
        obtain ⟨b9, hm⟩ := hm
        replace hm := zgd hm
        obtain ⟨b10, hm⟩ := hm
        replace hm := zlb_inv hm
        obtain ⟨o9, eo9, hm⟩ := hm
        replace hm := zob_inv hm
        obtain ⟨a10, rfl, hm⟩ := hm
        replace hm := zgd hm
        obtain ⟨b11, hm⟩ := hm
        replace hm := zcV_inv hm
        obtain ⟨S11, e11, hm⟩ := hm
        have hx := Ex_t (T := S8) hx (ehyW_appendHear e11)
        cases hm
        exact hx
      · rw [if_neg q4] at hm
        by_cases q12 : zI S 1 a1 = 7
        · rw [if_pos q12] at hm
          replace hm := zlb_inv hm
          obtain ⟨o12, eo12, hm⟩ := hm
          replace hm := zgd hm
          obtain ⟨b13, hm⟩ := hm
          replace hm := zcP_inv hm
          obtain ⟨S13, o13, e13, hm⟩ := hm
          have hx := Ex_t (T := S) hx (hrc e13)
          replace hm := zcV_inv hm
          obtain ⟨S14, e14, hm⟩ := hm
          have hx := Ex_t (T := S13) hx (ehyC_cutRound e14)
          cases hm
          exact hx
        · rw [if_neg q12] at hm
          replace hm := zlb_inv hm
          obtain ⟨o15, eo15, hm⟩ := hm
          replace hm := zgd hm
          obtain ⟨b14, hm⟩ := hm
          replace hm := zcP_inv hm
          obtain ⟨S16, o16, e16, hm⟩ := hm
          have hx := Ex_t (T := S) hx (hrc e16)
          replace hm := zgd hm
          obtain ⟨b15, hm⟩ := hm
          replace hm := zlb_inv hm
          obtain ⟨o17, eo17, hm⟩ := hm
          replace hm := zgd hm
          obtain ⟨b16, hm⟩ := hm
          replace hm := zcP_inv hm
          obtain ⟨S18, o18, e18, hm⟩ := hm
          have hx := Ex_t (T := S16) hx (hrc e18)
          replace hm := zgd hm
          obtain ⟨b17, hm⟩ := hm
          by_cases q18 : zI S18 2 th = (-1)
          · rw [if_pos q18] at hm
            replace hm := zcV_inv hm
            obtain ⟨S19, e19, hm⟩ := hm
            have hx := Ex_t (T := S18) hx (ehyC_cutChoice e19)
            cases hm
            exact hx
          · rw [if_neg q18] at hm
            cases hm
            exact hx
def yC_cutRow_44 (th : Nat) (rc : hS → Nat → Option Nat → Int32 → Option (hS × Option Nat)) : Nat → hS → Int32 → Option Nat → Option Nat → Option (hS × Option Nat)
  | 0, _, _, _, _ => none
  | n + 1, S, l2, p3, p4 => (zoc p4 (some (S, p3)) fun a1 => (if ztg S th = 3 then (if zI S 2 th = (-1) then (zcV (yC_cutStatement rc n S th (some a1) p3 l2) fun S2 => (if ztg S2 a1 = 10 then (zlb (zR S2 9 a1) fun o3 => (yC_cutRow_44 th rc n S2 l2 p3 o3)) else none)) else (some (S, p3))) else none))
theorem hyC_cutRow_44 {X : ie_X} {e th : Nat} {rc : hS → Nat → Option Nat → Int32 → Option (hS × Option Nat)} (hrc : ∀ {S : hS} {th : Nat} {z1 : Option Nat} {z2 : Int32} {S' : hS} {r : Option Nat}, rc S th z1 z2 = some (S', r) → Go X (e + 136) 36 (0, ie_en 36 [.ref th, va_rf z1, .int z2], [], zhp S) (.inl (some (va_rf r))) (zhp S')) : ∀ (n : Nat) {S : hS} {l2 : Int32} {p3 : Option Nat} {p4 : Option Nat} {u1 : Option Value} {S' : hS} {r : Option Nat}, yC_cutRow_44 th rc n S l2 p3 p4 = some (S', r) → Go X (e + 138) 36 (44, [some (.ref th), u1, some (.int l2), some (va_rf p3), some (va_rf p4)], [], zhp S) (.inl (some (va_rf r))) (zhp S') := by
  intro n
  induction n with
  | zero => intro S l2 p3 p4 u1 S' r hm; cases hm
  | succ n ih =>
    intro S l2 p3 p4 u1 S' r hm
    unfold yC_cutRow_44 at hm
    refine go_run 0 (F' := (44, [some (.ref th), u1, some (.int l2), some (va_rf p3), some (va_rf p4)], [], zhp S)) rfl ?_
    refine go_run 0 (F' := (44, [some (.ref th), u1, some (.int l2), some (va_rf p3), some (va_rf p4)], [], zhp S)) rfl ?_
    refine go_al2 rfl rfl ?_
    refine go_run 0 (F' := (46, [some (.ref th), u1, some (.int l2), some (va_rf p3), some (va_rf p4)], [va_rf p4], zhp S)) rfl ?_
    cases p4 with
    | none =>
      replace hm := zoc_n hm
      refine go_step rfl rfl ?_
      refine go_run 0 (F' := (75, [some (.ref th), u1, some (.int l2), some (va_rf p3), some (.null)], [], zhp S)) rfl ?_
      refine go_run 0 (F' := (75, [some (.ref th), u1, some (.int l2), some (va_rf p3), some (.null)], [], zhp S)) rfl ?_
      refine go_al rfl rfl ?_
      refine go_run 0 (F' := (76, [some (.ref th), u1, some (.int l2), some (va_rf p3), some (.null)], [va_rf p3], zhp S)) rfl ?_
      cases hm
      exact go_reta rfl rfl rfl (fun _ => rfl)
    | some a1 =>
      replace hm := zoc_s hm
      refine go_step rfl rfl ?_
      refine go_run 0 (F' := (49, [some (.ref th), u1, some (.int l2), some (va_rf p3), some (.ref a1)], [], zhp S)) rfl ?_
      refine go_run 1 (F' := (50, [some (.ref th), u1, some (.int l2), some (va_rf p3), some (.ref a1)], [.ref th], zhp S)) rfl ?_
      replace hm := zgd hm
      obtain ⟨b1, hm⟩ := hm
      refine go_hg (v := .int (zI S 2 th)) rfl b1 (by decide) rfl ?_
      refine go_run 1 (F' := (54, [some (.ref th), u1, some (.int l2), some (va_rf p3), some (.ref a1)], [.int (-1), .int (zI S 2 th)], zhp S)) rfl ?_
      refine go_step rfl rfl ?_
      by_cases q2 : zI S 2 th = (-1)
      · rw [if_pos q2] at hm ⊢
        refine go_run 0 (F' := (57, [some (.ref th), u1, some (.int l2), some (va_rf p3), some (.ref a1)], [], zhp S)) rfl ?_
        refine go_run 2 (F' := (60, [some (.ref th), u1, some (.int l2), some (va_rf p3), some (.ref a1)], [.ref a1, .ref th], zhp S)) rfl ?_
        refine go_al rfl rfl ?_
        refine go_run 1 (F' := (62, [some (.ref th), u1, some (.int l2), some (va_rf p3), some (.ref a1)], [.int l2, va_rf p3, .ref a1, .ref th], zhp S)) rfl ?_
        replace hm := zcV_inv hm
        obtain ⟨S2, e2, hm⟩ := hm
        have k2 := hyC_cutStatement (X := X) hrc e2
        refine go_call (m' := 38) (as := [.ref th, .ref a1, va_rf p3, .int l2]) (rest := []) (v := none) (h1 := zhp S2) rfl (by simp only [ie_step, ie_iv, List.drop, zhp_obj (S := S) b1 (by decide)]; rfl) ⟨by cases p3 <;> rfl, by cases p3 <;> exact Nat.le_of_ble_eq_true rfl⟩ k2 ?_
        refine go_run 0 (F' := (65, [some (.ref th), u1, some (.int l2), some (va_rf p3), some (.ref a1)], [], zhp S2)) rfl ?_
        refine go_run 1 (F' := (67, [some (.ref th), u1, some (.int l2), some (va_rf p3), some (.ref a1)], [.ref a1], zhp S2)) rfl ?_
        replace hm := zgd hm
        obtain ⟨b3, hm⟩ := hm
        replace hm := zlb_inv hm
        obtain ⟨o3, eo3, hm⟩ := hm
        refine go_hg (v := va_rf o3) rfl b3 (by decide) (by rw [← eo3]; rfl) ?_
        refine go_run 0 (F' := (70, [some (.ref th), u1, some (.int l2), some (va_rf p3), some (.ref a1)], [va_rf o3], zhp S2)) rfl ?_
        refine go_as2 rfl ?_
        refine go_run 1 (F' := (44, [some (.ref th), u1, some (.int l2), some (va_rf p3), some (va_rf o3)], [], zhp S2)) rfl ?_
        exact ih hm
      · rw [if_neg q2] at hm ⊢
        refine go_run 0 (F' := (75, [some (.ref th), u1, some (.int l2), some (va_rf p3), some (.ref a1)], [], zhp S)) rfl ?_
        refine go_run 0 (F' := (75, [some (.ref th), u1, some (.int l2), some (va_rf p3), some (.ref a1)], [], zhp S)) rfl ?_
        refine go_al rfl rfl ?_
        refine go_run 0 (F' := (76, [some (.ref th), u1, some (.int l2), some (va_rf p3), some (.ref a1)], [va_rf p3], zhp S)) rfl ?_
        cases hm
        exact go_reta rfl rfl rfl (fun _ => rfl)
theorem ehyC_cutRow_44 {th : Nat} {rc : hS → Nat → Option Nat → Int32 → Option (hS × Option Nat)} (hrc : ∀ {S : hS} {th : Nat} {z1 : Option Nat} {z2 : Int32} {S' : hS} {r : Option Nat}, rc S th z1 z2 = some (S', r) → Ex S S') : ∀ (n : Nat) {S : hS} {l2 : Int32} {p3 : Option Nat} {p4 : Option Nat} {S' : hS} {r : Option Nat}, yC_cutRow_44 th rc n S l2 p3 p4 = some (S', r) → Ex S S' := by
  intro n
  induction n with
  | zero => intro S l2 p3 p4 S' r hm; cases hm
  | succ n ih =>
    intro S l2 p3 p4 S' r hm
    unfold yC_cutRow_44 at hm
    have hx : Ex S S := Ex_r
    cases p4 with
    | none =>
      replace hm := zoc_n hm
      cases hm
      exact hx
    | some a1 =>
      replace hm := zoc_s hm
      replace hm := zgd hm
      obtain ⟨b1, hm⟩ := hm
      by_cases q2 : zI S 2 th = (-1)
      · rw [if_pos q2] at hm
        replace hm := zcV_inv hm
        obtain ⟨S2, e2, hm⟩ := hm
        have hx := Ex_t (T := S) hx (ehyC_cutStatement hrc e2)
        replace hm := zgd hm
        obtain ⟨b3, hm⟩ := hm
        replace hm := zlb_inv hm
        obtain ⟨o3, eo3, hm⟩ := hm
        refine Ex_t ?_ (ih hm)
        exact hx
      · rw [if_neg q2] at hm
        cases hm
        exact hx
def yC_cutRow_9 (th : Nat) (rc : hS → Nat → Option Nat → Int32 → Option (hS × Option Nat)) : Nat → hS → Option Nat → Int32 → Option Nat → Int32 → Option (hS × Option Nat)
  | 0, _, _, _, _, _ => none
  | n + 1, S, p1, l2, p3, l4 => (if 6 ≤ l4 then (if l2 ≤ 6 then (yC_cutRow_44 th rc n S l2 p3 p1) else (some (S, p3))) else (znw S 7 fun S1 a1 => (zcV (yW_new S1 a1) fun S2 => (zob p3 fun a3 => (if ztg S2 a3 = 26 then (if zok S2 a3 (some a1) = true then (if ib l4 (zLen S2 a3) then (yC_cutRow_9 th rc n (szAR S2 a3 (va_up (zAR S2 a3) (Int32.toNatClampNeg l4) (some a1))) p1 l2 (some a3) (l4 + 1)) else none) else none) else none)))))
theorem hyC_cutRow_9 {X : ie_X} {e th : Nat} {rc : hS → Nat → Option Nat → Int32 → Option (hS × Option Nat)} (hrc : ∀ {S : hS} {th : Nat} {z1 : Option Nat} {z2 : Int32} {S' : hS} {r : Option Nat}, rc S th z1 z2 = some (S', r) → Go X (e + 136) 36 (0, ie_en 36 [.ref th, va_rf z1, .int z2], [], zhp S) (.inl (some (va_rf r))) (zhp S')) : ∀ (n : Nat) {S : hS} {p1 : Option Nat} {l2 : Int32} {p3 : Option Nat} {l4 : Int32} {S' : hS} {r : Option Nat}, yC_cutRow_9 th rc n S p1 l2 p3 l4 = some (S', r) → Go X (e + 138) 36 (9, [some (.ref th), some (va_rf p1), some (.int l2), some (va_rf p3), some (.int l4)], [], zhp S) (.inl (some (va_rf r))) (zhp S') := by
  intro n
  induction n with
  | zero => intro S p1 l2 p3 l4 S' r hm; cases hm
  | succ n ih =>
    intro S p1 l2 p3 l4 S' r hm
    unfold yC_cutRow_9 at hm
    refine go_run 0 (F' := (9, [some (.ref th), some (va_rf p1), some (.int l2), some (va_rf p3), some (.int l4)], [], zhp S)) rfl ?_
    refine go_run 2 (F' := (13, [some (.ref th), some (va_rf p1), some (.int l2), some (va_rf p3), some (.int l4)], [.int 6, .int l4], zhp S)) rfl ?_
    refine go_step rfl rfl ?_
    by_cases q1 : 6 ≤ l4
    · rw [if_pos q1] at hm ⊢
      refine go_run 0 (F' := (33, [some (.ref th), some (va_rf p1), some (.int l2), some (va_rf p3), some (.int l4)], [], zhp S)) rfl ?_
      refine go_run 2 (F' := (36, [some (.ref th), some (va_rf p1), some (.int l2), some (va_rf p3), some (.int l4)], [.int 6, .int l2], zhp S)) rfl ?_
      refine go_step rfl rfl ?_
      by_cases q2 : l2 ≤ 6
      · rw [if_pos q2] at hm ⊢
        refine go_run 0 (F' := (41, [some (.ref th), some (va_rf p1), some (.int l2), some (va_rf p3), some (.int l4)], [], zhp S)) rfl ?_
        refine go_run 0 (F' := (41, [some (.ref th), some (va_rf p1), some (.int l2), some (va_rf p3), some (.int l4)], [], zhp S)) rfl ?_
        refine go_al rfl rfl ?_
        refine go_run 0 (F' := (42, [some (.ref th), some (va_rf p1), some (.int l2), some (va_rf p3), some (.int l4)], [va_rf p1], zhp S)) rfl ?_
        refine go_as2 rfl ?_
        refine go_run 0 (F' := (44, [some (.ref th), some (va_rf p1), some (.int l2), some (va_rf p3), some (va_rf p1)], [], zhp S)) rfl ?_
        exact hyC_cutRow_44 hrc n hm
      · rw [if_neg q2] at hm ⊢
        refine go_run 0 (F' := (39, [some (.ref th), some (va_rf p1), some (.int l2), some (va_rf p3), some (.int l4)], [], zhp S)) rfl ?_
        refine go_run 0 (F' := (39, [some (.ref th), some (va_rf p1), some (.int l2), some (va_rf p3), some (.int l4)], [], zhp S)) rfl ?_
        refine go_al rfl rfl ?_
        refine go_run 0 (F' := (40, [some (.ref th), some (va_rf p1), some (.int l2), some (va_rf p3), some (.int l4)], [va_rf p3], zhp S)) rfl ?_
        cases hm
        exact go_reta rfl rfl rfl (fun _ => rfl)
    · rw [if_neg q1] at hm ⊢
      refine go_run 0 (F' := (16, [some (.ref th), some (va_rf p1), some (.int l2), some (va_rf p3), some (.int l4)], [], zhp S)) rfl ?_
      refine go_run 0 (F' := (16, [some (.ref th), some (va_rf p1), some (.int l2), some (va_rf p3), some (.int l4)], [], zhp S)) rfl ?_
      refine go_al rfl rfl ?_
      refine go_run 1 (F' := (19, [some (.ref th), some (va_rf p1), some (.int l2), some (va_rf p3), some (.int l4)], [.int l4, va_rf p3], zhp S)) rfl ?_
      replace hm := znw_inv hm
      obtain ⟨S1, a1, eS1, ea1, hm⟩ := hm
      refine go_hnew rfl (by decide) rfl eS1 ea1 ?_
      refine go_run 1 (F' := (23, [some (.ref th), some (va_rf p1), some (.int l2), some (va_rf p3), some (.int l4)], [.ref a1, .ref a1, .int l4, va_rf p3], zhp S1)) rfl ?_
      replace hm := zcV_inv hm
      obtain ⟨S2, e2, hm⟩ := hm
      have k2 := hyW_new (X := X) (d := e + 137) e2
      refine go_call (m' := 37) (as := [.ref a1]) (rest := [.ref a1, .int l4, va_rf p3]) (v := none) (h1 := zhp S2) rfl (by cases p3 <;> rfl) ⟨rfl, Nat.le_of_ble_eq_true rfl⟩ k2 ?_
      refine go_run 0 (F' := (26, [some (.ref th), some (va_rf p1), some (.int l2), some (va_rf p3), some (.int l4)], [.ref a1, .int l4, va_rf p3], zhp S2)) rfl ?_
      refine go_run 0 (F' := (26, [some (.ref th), some (va_rf p1), some (.int l2), some (va_rf p3), some (.int l4)], [.ref a1, .int l4, va_rf p3], zhp S2)) rfl ?_
      replace hm := zob_inv hm
      obtain ⟨a3, rfl, hm⟩ := hm
      replace hm := zgd hm
      obtain ⟨b3, hm⟩ := hm
      replace hm := zgd hm
      obtain ⟨b4, hm⟩ := hm
      replace hm := zgd hm
      obtain ⟨b5, hm⟩ := hm
      refine go_haast (v := (some a1)) rfl b4 b5 rfl rfl ?_
      refine go_run 2 (F' := (9, [some (.ref th), some (va_rf p1), some (.int l2), some (va_rf (some a3)), some (.int (l4 + 1))], [], zhp (szAR S2 a3 (va_up (zAR S2 a3) (Int32.toNatClampNeg l4) (some a1))))) rfl ?_
      exact ih hm
theorem ehyC_cutRow_9 {th : Nat} {rc : hS → Nat → Option Nat → Int32 → Option (hS × Option Nat)} (hrc : ∀ {S : hS} {th : Nat} {z1 : Option Nat} {z2 : Int32} {S' : hS} {r : Option Nat}, rc S th z1 z2 = some (S', r) → Ex S S') : ∀ (n : Nat) {S : hS} {p1 : Option Nat} {l2 : Int32} {p3 : Option Nat} {l4 : Int32} {S' : hS} {r : Option Nat}, yC_cutRow_9 th rc n S p1 l2 p3 l4 = some (S', r) → Ex S S' := by
  intro n
  induction n with
  | zero => intro S p1 l2 p3 l4 S' r hm; cases hm
  | succ n ih =>
    intro S p1 l2 p3 l4 S' r hm
    unfold yC_cutRow_9 at hm
    have hx : Ex S S := Ex_r
    by_cases q1 : 6 ≤ l4
    · rw [if_pos q1] at hm
      by_cases q2 : l2 ≤ 6
      · rw [if_pos q2] at hm
        refine Ex_t ?_ (ehyC_cutRow_44 hrc n hm)
        exact hx
      · rw [if_neg q2] at hm
        cases hm
        exact hx
    · rw [if_neg q1] at hm
      replace hm := znw_inv hm
      obtain ⟨S1, a1, eS1, ea1, hm⟩ := hm
      have hx := Ex_t (T := S) hx (Ex_n (by decide) eS1)
      replace hm := zcV_inv hm
      obtain ⟨S2, e2, hm⟩ := hm
      have hx := Ex_t (T := S1) hx (ehyW_new e2)
      replace hm := zob_inv hm
      obtain ⟨a3, rfl, hm⟩ := hm
      replace hm := zgd hm
      obtain ⟨b3, hm⟩ := hm
      replace hm := zgd hm
      obtain ⟨b4, hm⟩ := hm
      replace hm := zgd hm
      obtain ⟨b5, hm⟩ := hm
      refine Ex_t ?_ (ih hm)
      exact hx
def yC_cutRow (n : Nat) : Nat → hS → Nat → Option Nat → Int32 → Option (hS × Option Nat)
  | 0, _, _, _, _ => none
  | r + 1, S, th, p1, x2 => (zna S 6 6 fun S1 a1 => (yC_cutRow_9 th (yC_cutRow n r) n S1 p1 x2 (some a1) 0))
theorem hyC_cutRow {X : ie_X} {d : Nat} {n : Nat} : ∀ (r : Nat) {S : hS} {th : Nat} {p1 : Option Nat} {x2 : Int32} {S' : hS} {r_ : Option Nat}, yC_cutRow n r S th p1 x2 = some (S', r_) → Go X (d + 2 * r + 136) 36 (0, ie_en 36 [.ref th, va_rf p1, .int x2], [], zhp S) (.inl (some (va_rf r_))) (zhp S') := by
  intro r
  induction r with
  | zero => intro S th p1 x2 S' r_ hm; cases hm
  | succ r ih =>
    intro S th p1 x2 S' r_ hm
    rw [show d + 2 * (r + 1) + 136 = (d + 2 * r) + 138 by omega]
    unfold yC_cutRow at hm
    refine go_run 0 (F' := (0, [some (.ref th), some (va_rf p1), some (.int x2), none, none], [], zhp S)) (by cases p1 <;> rfl) ?_
    refine go_run 1 (F' := (2, [some (.ref th), some (va_rf p1), some (.int x2), none, none], [.int 6], zhp S)) rfl ?_
    replace hm := zna_inv hm
    obtain ⟨S1, a1, eS1, ea1, hm⟩ := hm
    refine go_hnr rfl (by decide) (by decide) rfl eS1 ea1 ?_
    refine go_run 3 (F' := (9, [some (.ref th), some (va_rf p1), some (.int x2), some (va_rf (some a1)), some (.int 0)], [], zhp S1)) rfl ?_
    exact hyC_cutRow_9 ih n hm
theorem ehyC_cutRow {n : Nat} : ∀ (r : Nat) {S : hS} {th : Nat} {p1 : Option Nat} {x2 : Int32} {S' : hS} {r_ : Option Nat}, yC_cutRow n r S th p1 x2 = some (S', r_) → Ex S S' := by
  intro r
  induction r with
  | zero => intro S th p1 x2 S' r_ hm; cases hm
  | succ r ih =>
    intro S th p1 x2 S' r_ hm
    unfold yC_cutRow at hm
    have hx : Ex S S := Ex_r
    replace hm := zna_inv hm
    obtain ⟨S1, a1, eS1, ea1, hm⟩ := hm
    have hx := Ex_t (T := S) hx (Ex_a (by decide) eS1)
    refine Ex_t ?_ (ehyC_cutRow_9 ih n hm)
    exact hx
theorem hyC_cutRow_o {X : ie_X} {d n : Nat} {S : hS} {th : Nat} {p1 : Option Nat} {x2 : Int32} {S' : hS} {r_ : Option Nat} (hm : yC_cutRow n 9 S th p1 x2 = some (S', r_)) : Go X (d + 154) 36 (0, ie_en 36 [.ref th, va_rf p1, .int x2], [], zhp S) (.inl (some (va_rf r_))) (zhp S') := hyC_cutRow (X := X) (d := d) 9 hm
theorem ehyC_cutRow_o {n : Nat} {S : hS} {th : Nat} {p1 : Option Nat} {x2 : Int32} {S' : hS} {r_ : Option Nat} (hm : yC_cutRow n 9 S th p1 x2 = some (S', r_)) : Ex S S' := ehyC_cutRow 9 hm
