def yR_new (S : hS) (th : Nat) (p1 : Option Nat) (x2 : Int32) : Option (hS) := (if ztg S th = 6 then (some (szI (szR S 0 th p1) 1 th x2)) else none)
theorem hyR_new {X : ie_X} {d th : Nat} {S : hS} {p1 : Option Nat} {x2 : Int32} {S' : hS} (hm : yR_new S th p1 x2 = some S') : Go X (d + 0) 11 (0, ie_en 11 [.ref th, va_rf p1, .int x2], [], zhp S) (.inl none) (zhp S') := by
  unfold yR_new at hm
  refine go_run 0 (F' := (0, [some (.ref th), some (va_rf p1), some (.int x2)], [], zhp S)) (by cases p1 <;> rfl) ?_
  refine go_run 3 (F' := (5, [some (.ref th), some (va_rf p1), some (.int x2)], [.ref th], zhp S)) rfl ?_
  refine go_al rfl rfl ?_
  refine go_run 0 (F' := (6, [some (.ref th), some (va_rf p1), some (.int x2)], [va_rf p1, .ref th], zhp S)) rfl ?_
  replace hm := zgd hm
  obtain ⟨b1, hm⟩ := hm
  refine go_hpR (v := p1) rfl b1 (by decide) (by cases p1 <;> rfl) (Nat.le_of_ble_eq_true rfl) fs_5_0 ?_
  refine go_run 2 (F' := (11, [some (.ref th), some (va_rf p1), some (.int x2)], [.int x2, .ref th], zhp (szR S 0 th p1))) rfl ?_
  refine go_hpI rfl b1 (by decide) rfl (Nat.le_of_ble_eq_true rfl) fs_5_1 ?_
  refine go_run 0 (F' := (14, [some (.ref th), some (va_rf p1), some (.int x2)], [], zhp (szI (szR S 0 th p1) 1 th x2))) rfl ?_
  cases hm
  exact go_end rfl rfl
theorem ehyR_new {th : Nat} {S : hS} {p1 : Option Nat} {x2 : Int32} {S' : hS} (hm : yR_new S th p1 x2 = some S') : Ex S S' := by
  unfold yR_new at hm
  have hx : Ex S S := Ex_r
  replace hm := zgd hm
  obtain ⟨b1, hm⟩ := hm
  cases hm
  exact hx
def yR_ahead (S : hS) (th : Nat) (x1 : Int32) : Option (hS × Int32) := (if ztg S th = 6 then (if zI S 4 th = 0 then (if zI S 1 th ≤ (zI S 2 th) + x1 then (some (S, 0)) else (zlb (zR S 0 th) fun o1 => (zob o1 fun a2 => (if ztg S a2 = 21 then (if ib ((zI S 2 th) + x1) (zLen S a2) then (if 0 ≤ ((zAI S a2) (Int32.toNatClampNeg ((zI S 2 th) + x1))).toInt ∧ ((zAI S a2) (Int32.toNatClampNeg ((zI S 2 th) + x1))).toInt < 65536 then (some (S, (zAI S a2) (Int32.toNatClampNeg ((zI S 2 th) + x1)))) else none) else none) else none)))) else (some (S, 0))) else none)
theorem hyR_ahead {X : ie_X} {d th : Nat} {S : hS} {x1 : Int32} {S' : hS} {r : Int32} (hm : yR_ahead S th x1 = some (S', r)) : Go X (d + 0) 15 (0, ie_en 15 [.ref th, .int x1], [], zhp S) (.inl (some (.int r))) (zhp S') := by
  unfold yR_ahead at hm
  refine go_run 0 (F' := (0, [some (.ref th), some (.int x1)], [], zhp S)) rfl ?_
  refine go_run 1 (F' := (1, [some (.ref th), some (.int x1)], [.ref th], zhp S)) rfl ?_
  replace hm := zgd hm
  obtain ⟨b1, hm⟩ := hm
  refine go_hg (v := .int (zI S 4 th)) rfl b1 (by decide) rfl ?_
  refine go_run 0 (F' := (4, [some (.ref th), some (.int x1)], [.int (zI S 4 th)], zhp S)) rfl ?_
  refine go_step rfl rfl ?_
  by_cases q2 : zI S 4 th = 0
  · rw [if_pos q2] at hm ⊢
    refine go_run 0 (F' := (7, [some (.ref th), some (.int x1)], [], zhp S)) rfl ?_
    refine go_run 1 (F' := (8, [some (.ref th), some (.int x1)], [.ref th], zhp S)) rfl ?_
    refine go_hg (v := .int (zI S 2 th)) rfl b1 (by decide) rfl ?_
    refine go_run 3 (F' := (14, [some (.ref th), some (.int x1)], [.ref th, .int ((zI S 2 th) + x1)], zhp S)) rfl ?_
    refine go_hg (v := .int (zI S 1 th)) rfl b1 (by decide) rfl ?_
    refine go_run 0 (F' := (17, [some (.ref th), some (.int x1)], [.int (zI S 1 th), .int ((zI S 2 th) + x1)], zhp S)) rfl ?_
    refine go_step rfl rfl ?_
    by_cases q3 : zI S 1 th ≤ (zI S 2 th) + x1
    · rw [if_pos q3] at hm ⊢
      refine go_run 0 (F' := (34, [some (.ref th), some (.int x1)], [], zhp S)) rfl ?_
      refine go_run 1 (F' := (35, [some (.ref th), some (.int x1)], [.int 0], zhp S)) rfl ?_
      cases hm
      exact go_end rfl rfl
    · rw [if_neg q3] at hm ⊢
      refine go_run 0 (F' := (20, [some (.ref th), some (.int x1)], [], zhp S)) rfl ?_
      refine go_run 1 (F' := (21, [some (.ref th), some (.int x1)], [.ref th], zhp S)) rfl ?_
      replace hm := zlb_inv hm
      obtain ⟨o1, eo1, hm⟩ := hm
      refine go_hg (v := va_rf o1) rfl b1 (by decide) (by rw [← eo1]; rfl) ?_
      refine go_run 1 (F' := (25, [some (.ref th), some (.int x1)], [.ref th, va_rf o1], zhp S)) rfl ?_
      refine go_hg (v := .int (zI S 2 th)) rfl b1 (by decide) rfl ?_
      refine go_run 2 (F' := (30, [some (.ref th), some (.int x1)], [.int ((zI S 2 th) + x1), va_rf o1], zhp S)) rfl ?_
      replace hm := zob_inv hm
      obtain ⟨a2, rfl, hm⟩ := hm
      replace hm := zgd hm
      obtain ⟨b4, hm⟩ := hm
      replace hm := zgd hm
      obtain ⟨b5, hm⟩ := hm
      refine go_hald1 rfl b4 b5 rfl rfl ?_
      refine go_run 1 (F' := (35, [some (.ref th), some (.int x1)], [.int ((zAI S a2) (Int32.toNatClampNeg ((zI S 2 th) + x1)))], zhp S)) rfl ?_
      replace hm := zgd hm
      obtain ⟨b6, hm⟩ := hm
      cases hm
      exact go_ret rfl rfl rfl (decide_eq_true b6)
  · rw [if_neg q2] at hm ⊢
    refine go_run 0 (F' := (34, [some (.ref th), some (.int x1)], [], zhp S)) rfl ?_
    refine go_run 1 (F' := (35, [some (.ref th), some (.int x1)], [.int 0], zhp S)) rfl ?_
    cases hm
    exact go_end rfl rfl
theorem ehyR_ahead {th : Nat} {S : hS} {x1 : Int32} {S' : hS} {r : Int32} (hm : yR_ahead S th x1 = some (S', r)) : Ex S S' := by
  unfold yR_ahead at hm
  have hx : Ex S S := Ex_r
  replace hm := zgd hm
  obtain ⟨b1, hm⟩ := hm
  by_cases q2 : zI S 4 th = 0
  · rw [if_pos q2] at hm
    by_cases q3 : zI S 1 th ≤ (zI S 2 th) + x1
    · rw [if_pos q3] at hm
      cases hm
      exact hx
    · rw [if_neg q3] at hm
      replace hm := zlb_inv hm
      obtain ⟨o1, eo1, hm⟩ := hm
      replace hm := zob_inv hm
      obtain ⟨a2, rfl, hm⟩ := hm
      replace hm := zgd hm
      obtain ⟨b4, hm⟩ := hm
      replace hm := zgd hm
      obtain ⟨b5, hm⟩ := hm
      replace hm := zgd hm
      obtain ⟨b6, hm⟩ := hm
      cases hm
      exact hx
  · rw [if_neg q2] at hm
    cases hm
    exact hx
def yR_rowEnds (S : hS) (th : Nat) (x1 : Int32) : Option (hS × Int32) := (if x1 = 0 then (if ztg S th = 6 then (if zI S 2 th = zI S 1 th then (some (S, 1)) else (some (S, 0))) else none) else (if ztg S th = 6 then (zcP (yR_ahead S th 0) fun S1 v1 => (if v1 = 125 then (some (S1, 1)) else (some (S1, 0)))) else none))
theorem hyR_rowEnds {X : ie_X} {d th : Nat} {S : hS} {x1 : Int32} {S' : hS} {r : Int32} (hm : yR_rowEnds S th x1 = some (S', r)) : Go X (d + 1) 14 (0, ie_en 14 [.ref th, .int x1], [], zhp S) (.inl (some (.int r))) (zhp S') := by
  unfold yR_rowEnds at hm
  refine go_run 0 (F' := (0, [some (.ref th), some (.int x1)], [], zhp S)) rfl ?_
  refine go_run 1 (F' := (1, [some (.ref th), some (.int x1)], [.int x1], zhp S)) rfl ?_
  refine go_step rfl rfl ?_
  by_cases q1 : x1 = 0
  · rw [if_pos q1] at hm ⊢
    refine go_run 0 (F' := (4, [some (.ref th), some (.int x1)], [], zhp S)) rfl ?_
    refine go_run 1 (F' := (5, [some (.ref th), some (.int x1)], [.ref th], zhp S)) rfl ?_
    replace hm := zgd hm
    obtain ⟨b2, hm⟩ := hm
    refine go_hg (v := .int (zI S 2 th)) rfl b2 (by decide) rfl ?_
    refine go_run 1 (F' := (9, [some (.ref th), some (.int x1)], [.ref th, .int (zI S 2 th)], zhp S)) rfl ?_
    refine go_hg (v := .int (zI S 1 th)) rfl b2 (by decide) rfl ?_
    refine go_run 0 (F' := (12, [some (.ref th), some (.int x1)], [.int (zI S 1 th), .int (zI S 2 th)], zhp S)) rfl ?_
    refine go_step rfl rfl ?_
    by_cases q3 : zI S 2 th = zI S 1 th
    · rw [if_pos q3] at hm ⊢
      refine go_run 0 (F' := (15, [some (.ref th), some (.int x1)], [], zhp S)) rfl ?_
      refine go_run 2 (F' := (38, [some (.ref th), some (.int x1)], [.int 1], zhp S)) rfl ?_
      cases hm
      exact go_end rfl rfl
    · rw [if_neg q3] at hm ⊢
      refine go_run 0 (F' := (19, [some (.ref th), some (.int x1)], [], zhp S)) rfl ?_
      refine go_run 2 (F' := (38, [some (.ref th), some (.int x1)], [.int 0], zhp S)) rfl ?_
      cases hm
      exact go_end rfl rfl
  · rw [if_neg q1] at hm ⊢
    refine go_run 0 (F' := (23, [some (.ref th), some (.int x1)], [], zhp S)) rfl ?_
    refine go_run 2 (F' := (25, [some (.ref th), some (.int x1)], [.int 0, .ref th], zhp S)) rfl ?_
    replace hm := zgd hm
    obtain ⟨b4, hm⟩ := hm
    replace hm := zcP_inv hm
    obtain ⟨S1, v1, e1, hm⟩ := hm
    have k1 := hyR_ahead (X := X) (d := d) e1
    refine go_call (m' := 15) (as := [.ref th, .int 0]) (rest := []) (v := some (.int v1)) (h1 := zhp S1) rfl (by simp only [ie_step, ie_iv, List.drop, zhp_obj (S := S) b4 (by decide)]; rfl) ⟨rfl, Nat.le_of_ble_eq_true rfl⟩ k1 ?_
    refine go_run 0 (F' := (28, [some (.ref th), some (.int x1)], [.int v1], zhp S1)) rfl ?_
    refine go_run 1 (F' := (30, [some (.ref th), some (.int x1)], [.int 125, .int v1], zhp S1)) rfl ?_
    refine go_step rfl rfl ?_
    by_cases q5 : v1 = 125
    · rw [if_pos q5] at hm ⊢
      refine go_run 0 (F' := (33, [some (.ref th), some (.int x1)], [], zhp S1)) rfl ?_
      refine go_run 2 (F' := (38, [some (.ref th), some (.int x1)], [.int 1], zhp S1)) rfl ?_
      cases hm
      exact go_end rfl rfl
    · rw [if_neg q5] at hm ⊢
      refine go_run 0 (F' := (37, [some (.ref th), some (.int x1)], [], zhp S1)) rfl ?_
      refine go_run 1 (F' := (38, [some (.ref th), some (.int x1)], [.int 0], zhp S1)) rfl ?_
      cases hm
      exact go_end rfl rfl
theorem ehyR_rowEnds {th : Nat} {S : hS} {x1 : Int32} {S' : hS} {r : Int32} (hm : yR_rowEnds S th x1 = some (S', r)) : Ex S S' := by
  unfold yR_rowEnds at hm
  have hx : Ex S S := Ex_r
  by_cases q1 : x1 = 0
  · rw [if_pos q1] at hm
    replace hm := zgd hm
    obtain ⟨b2, hm⟩ := hm
    by_cases q3 : zI S 2 th = zI S 1 th
    · rw [if_pos q3] at hm
      cases hm
      exact hx
    · rw [if_neg q3] at hm
      cases hm
      exact hx
  · rw [if_neg q1] at hm
    replace hm := zgd hm
    obtain ⟨b4, hm⟩ := hm
    replace hm := zcP_inv hm
    obtain ⟨S1, v1, e1, hm⟩ := hm
    have hx := Ex_t (T := S) hx (ehyR_ahead e1)
    by_cases q5 : v1 = 125
    · rw [if_pos q5] at hm
      cases hm
      exact hx
    · rw [if_neg q5] at hm
      cases hm
      exact hx
def yS_new (S : hS) (th : Nat) (x1 : Int32) : Option (hS) := (if ztg S th = 10 then (some (szI (szI S 3 th (-1)) 0 th x1)) else none)
theorem hyS_new {X : ie_X} {d th : Nat} {S : hS} {x1 : Int32} {S' : hS} (hm : yS_new S th x1 = some S') : Go X (d + 0) 17 (0, ie_en 17 [.ref th, .int x1], [], zhp S) (.inl none) (zhp S') := by
  unfold yS_new at hm
  refine go_run 0 (F' := (0, [some (.ref th), some (.int x1)], [], zhp S)) rfl ?_
  refine go_run 4 (F' := (6, [some (.ref th), some (.int x1)], [.int (-1), .ref th], zhp S)) rfl ?_
  replace hm := zgd hm
  obtain ⟨b1, hm⟩ := hm
  refine go_hpI rfl b1 (by decide) rfl (Nat.le_of_ble_eq_true rfl) fs_9_3 ?_
  refine go_run 2 (F' := (11, [some (.ref th), some (.int x1)], [.int x1, .ref th], zhp (szI S 3 th (-1)))) rfl ?_
  refine go_hpI rfl b1 (by decide) rfl (Nat.le_of_ble_eq_true rfl) fs_9_0 ?_
  refine go_run 0 (F' := (14, [some (.ref th), some (.int x1)], [], zhp (szI (szI S 3 th (-1)) 0 th x1))) rfl ?_
  cases hm
  exact go_end rfl rfl
theorem ehyS_new {th : Nat} {S : hS} {x1 : Int32} {S' : hS} (hm : yS_new S th x1 = some S') : Ex S S' := by
  unfold yS_new at hm
  have hx : Ex S S := Ex_r
  replace hm := zgd hm
  obtain ⟨b1, hm⟩ := hm
  cases hm
  exact hx
def yR_readOneOf (S : hS) (th : Nat) (x1 : Int32) (x2 : Int32) : Option (hS × Int32) := (if ztg S th = 6 then (zcP (yR_ahead S th 0) fun S1 v1 => (if v1 - x1 < 0 then (if ztg S1 th = 6 then (some (szI S1 4 th 1, 0)) else none) else (if v1 - x1 < x2 then (if ztg S1 th = 6 then (some (szI S1 2 th ((zI S1 2 th) + 1), v1 - x1)) else none) else (if ztg S1 th = 6 then (some (szI S1 4 th 1, 0)) else none)))) else none)
theorem hyR_readOneOf {X : ie_X} {d th : Nat} {S : hS} {x1 : Int32} {x2 : Int32} {S' : hS} {r : Int32} (hm : yR_readOneOf S th x1 x2 = some (S', r)) : Go X (d + 1) 18 (0, ie_en 18 [.ref th, .int x1, .int x2], [], zhp S) (.inl (some (.int r))) (zhp S') := by
  unfold yR_readOneOf at hm
  refine go_run 0 (F' := (0, [some (.ref th), some (.int x1), some (.int x2), none], [], zhp S)) rfl ?_
  refine go_run 2 (F' := (2, [some (.ref th), some (.int x1), some (.int x2), none], [.int 0, .ref th], zhp S)) rfl ?_
  replace hm := zgd hm
  obtain ⟨b1, hm⟩ := hm
  replace hm := zcP_inv hm
  obtain ⟨S1, v1, e1, hm⟩ := hm
  have k1 := hyR_ahead (X := X) (d := d) e1
  refine go_call (m' := 15) (as := [.ref th, .int 0]) (rest := []) (v := some (.int v1)) (h1 := zhp S1) rfl (by simp only [ie_step, ie_iv, List.drop, zhp_obj (S := S) b1 (by decide)]; rfl) ⟨rfl, Nat.le_of_ble_eq_true rfl⟩ k1 ?_
  refine go_run 0 (F' := (5, [some (.ref th), some (.int x1), some (.int x2), none], [.int v1], zhp S1)) rfl ?_
  refine go_run 4 (F' := (9, [some (.ref th), some (.int x1), some (.int x2), some (.int (v1 - x1))], [.int (v1 - x1)], zhp S1)) rfl ?_
  refine go_step rfl rfl ?_
  by_cases q2 : v1 - x1 < 0
  · rw [if_pos q2] at hm ⊢
    refine go_run 0 (F' := (17, [some (.ref th), some (.int x1), some (.int x2), some (.int (v1 - x1))], [], zhp S1)) rfl ?_
    refine go_run 2 (F' := (19, [some (.ref th), some (.int x1), some (.int x2), some (.int (v1 - x1))], [.int 1, .ref th], zhp S1)) rfl ?_
    replace hm := zgd hm
    obtain ⟨b3, hm⟩ := hm
    refine go_hpI rfl b3 (by decide) rfl (Nat.le_of_ble_eq_true rfl) fs_5_4 ?_
    refine go_run 1 (F' := (23, [some (.ref th), some (.int x1), some (.int x2), some (.int (v1 - x1))], [.int 0], zhp (szI S1 4 th 1))) rfl ?_
    cases hm
    exact go_end rfl rfl
  · rw [if_neg q2] at hm ⊢
    refine go_run 0 (F' := (12, [some (.ref th), some (.int x1), some (.int x2), some (.int (v1 - x1))], [], zhp S1)) rfl ?_
    refine go_run 2 (F' := (14, [some (.ref th), some (.int x1), some (.int x2), some (.int (v1 - x1))], [.int x2, .int (v1 - x1)], zhp S1)) rfl ?_
    refine go_step rfl rfl ?_
    by_cases q4 : v1 - x1 < x2
    · rw [if_pos q4] at hm ⊢
      refine go_run 0 (F' := (24, [some (.ref th), some (.int x1), some (.int x2), some (.int (v1 - x1))], [], zhp S1)) rfl ?_
      refine go_run 2 (F' := (26, [some (.ref th), some (.int x1), some (.int x2), some (.int (v1 - x1))], [.ref th, .ref th], zhp S1)) rfl ?_
      replace hm := zgd hm
      obtain ⟨b5, hm⟩ := hm
      refine go_hg (v := .int (zI S1 2 th)) rfl b5 (by decide) rfl ?_
      refine go_run 2 (F' := (31, [some (.ref th), some (.int x1), some (.int x2), some (.int (v1 - x1))], [.int ((zI S1 2 th) + 1), .ref th], zhp S1)) rfl ?_
      refine go_hpI rfl b5 (by decide) rfl (Nat.le_of_ble_eq_true rfl) fs_5_2 ?_
      refine go_run 1 (F' := (35, [some (.ref th), some (.int x1), some (.int x2), some (.int (v1 - x1))], [.int (v1 - x1)], zhp (szI S1 2 th ((zI S1 2 th) + 1)))) rfl ?_
      cases hm
      exact go_end rfl rfl
    · rw [if_neg q4] at hm ⊢
      refine go_run 0 (F' := (17, [some (.ref th), some (.int x1), some (.int x2), some (.int (v1 - x1))], [], zhp S1)) rfl ?_
      refine go_run 2 (F' := (19, [some (.ref th), some (.int x1), some (.int x2), some (.int (v1 - x1))], [.int 1, .ref th], zhp S1)) rfl ?_
      replace hm := zgd hm
      obtain ⟨b6, hm⟩ := hm
      refine go_hpI rfl b6 (by decide) rfl (Nat.le_of_ble_eq_true rfl) fs_5_4 ?_
      refine go_run 1 (F' := (23, [some (.ref th), some (.int x1), some (.int x2), some (.int (v1 - x1))], [.int 0], zhp (szI S1 4 th 1))) rfl ?_
      cases hm
      exact go_end rfl rfl
theorem ehyR_readOneOf {th : Nat} {S : hS} {x1 : Int32} {x2 : Int32} {S' : hS} {r : Int32} (hm : yR_readOneOf S th x1 x2 = some (S', r)) : Ex S S' := by
  unfold yR_readOneOf at hm
  have hx : Ex S S := Ex_r
  replace hm := zgd hm
  obtain ⟨b1, hm⟩ := hm
  replace hm := zcP_inv hm
  obtain ⟨S1, v1, e1, hm⟩ := hm
  have hx := Ex_t (T := S) hx (ehyR_ahead e1)
  by_cases q2 : v1 - x1 < 0
  · rw [if_pos q2] at hm
    replace hm := zgd hm
    obtain ⟨b3, hm⟩ := hm
    cases hm
    exact hx
  · rw [if_neg q2] at hm
    by_cases q4 : v1 - x1 < x2
    · rw [if_pos q4] at hm
      replace hm := zgd hm
      obtain ⟨b5, hm⟩ := hm
      cases hm
      exact hx
    · rw [if_neg q4] at hm
      replace hm := zgd hm
      obtain ⟨b6, hm⟩ := hm
      cases hm
      exact hx
def yR_expect (S : hS) (th : Nat) (x1 : Int32) : Option (hS) := (if ztg S th = 6 then (zcP (yR_ahead S th 0) fun S1 v1 => (if v1 = x1 then (if ztg S1 th = 6 then (some (szI S1 2 th ((zI S1 2 th) + 1))) else none) else (if ztg S1 th = 6 then (some (szI S1 4 th 1)) else none))) else none)
theorem hyR_expect {X : ie_X} {d th : Nat} {S : hS} {x1 : Int32} {S' : hS} (hm : yR_expect S th x1 = some S') : Go X (d + 1) 20 (0, ie_en 20 [.ref th, .int x1], [], zhp S) (.inl none) (zhp S') := by
  unfold yR_expect at hm
  refine go_run 0 (F' := (0, [some (.ref th), some (.int x1)], [], zhp S)) rfl ?_
  refine go_run 2 (F' := (2, [some (.ref th), some (.int x1)], [.int 0, .ref th], zhp S)) rfl ?_
  replace hm := zgd hm
  obtain ⟨b1, hm⟩ := hm
  replace hm := zcP_inv hm
  obtain ⟨S1, v1, e1, hm⟩ := hm
  have k1 := hyR_ahead (X := X) (d := d) e1
  refine go_call (m' := 15) (as := [.ref th, .int 0]) (rest := []) (v := some (.int v1)) (h1 := zhp S1) rfl (by simp only [ie_step, ie_iv, List.drop, zhp_obj (S := S) b1 (by decide)]; rfl) ⟨rfl, Nat.le_of_ble_eq_true rfl⟩ k1 ?_
  refine go_run 0 (F' := (5, [some (.ref th), some (.int x1)], [.int v1], zhp S1)) rfl ?_
  refine go_run 1 (F' := (6, [some (.ref th), some (.int x1)], [.int x1, .int v1], zhp S1)) rfl ?_
  refine go_step rfl rfl ?_
  by_cases q2 : v1 = x1
  · rw [if_pos q2] at hm ⊢
    refine go_run 0 (F' := (9, [some (.ref th), some (.int x1)], [], zhp S1)) rfl ?_
    refine go_run 2 (F' := (11, [some (.ref th), some (.int x1)], [.ref th, .ref th], zhp S1)) rfl ?_
    replace hm := zgd hm
    obtain ⟨b3, hm⟩ := hm
    refine go_hg (v := .int (zI S1 2 th)) rfl b3 (by decide) rfl ?_
    refine go_run 2 (F' := (16, [some (.ref th), some (.int x1)], [.int ((zI S1 2 th) + 1), .ref th], zhp S1)) rfl ?_
    refine go_hpI rfl b3 (by decide) rfl (Nat.le_of_ble_eq_true rfl) fs_5_2 ?_
    refine go_run 1 (F' := (27, [some (.ref th), some (.int x1)], [], zhp (szI S1 2 th ((zI S1 2 th) + 1)))) rfl ?_
    cases hm
    exact go_end rfl rfl
  · rw [if_neg q2] at hm ⊢
    refine go_run 0 (F' := (22, [some (.ref th), some (.int x1)], [], zhp S1)) rfl ?_
    refine go_run 2 (F' := (24, [some (.ref th), some (.int x1)], [.int 1, .ref th], zhp S1)) rfl ?_
    replace hm := zgd hm
    obtain ⟨b4, hm⟩ := hm
    refine go_hpI rfl b4 (by decide) rfl (Nat.le_of_ble_eq_true rfl) fs_5_4 ?_
    refine go_run 0 (F' := (27, [some (.ref th), some (.int x1)], [], zhp (szI S1 4 th 1))) rfl ?_
    cases hm
    exact go_end rfl rfl
theorem ehyR_expect {th : Nat} {S : hS} {x1 : Int32} {S' : hS} (hm : yR_expect S th x1 = some S') : Ex S S' := by
  unfold yR_expect at hm
  have hx : Ex S S := Ex_r
  replace hm := zgd hm
  obtain ⟨b1, hm⟩ := hm
  replace hm := zcP_inv hm
  obtain ⟨S1, v1, e1, hm⟩ := hm
  have hx := Ex_t (T := S) hx (ehyR_ahead e1)
  by_cases q2 : v1 = x1
  · rw [if_pos q2] at hm
    replace hm := zgd hm
    obtain ⟨b3, hm⟩ := hm
    cases hm
    exact hx
  · rw [if_neg q2] at hm
    replace hm := zgd hm
    obtain ⟨b4, hm⟩ := hm
    cases hm
    exact hx
def yR_readOther (S : hS) (th : Nat) (x1 : Int32) : Option (hS × Int32) := (if ztg S th = 6 then (zcP (yR_ahead S th 0) fun S1 v1 => (if v1 = 65 + x1 then (if ztg S1 th = 6 then (zcP (yR_readOneOf (szI S1 4 th 1) th 65 6) fun S2 v2 => (some (S2, v2))) else none) else (if ztg S1 th = 6 then (zcP (yR_readOneOf S1 th 65 6) fun S3 v3 => (some (S3, v3))) else none))) else none)
theorem hyR_readOther {X : ie_X} {d th : Nat} {S : hS} {x1 : Int32} {S' : hS} {r : Int32} (hm : yR_readOther S th x1 = some (S', r)) : Go X (d + 2) 21 (0, ie_en 21 [.ref th, .int x1], [], zhp S) (.inl (some (.int r))) (zhp S') := by
  unfold yR_readOther at hm
  refine go_run 0 (F' := (0, [some (.ref th), some (.int x1)], [], zhp S)) rfl ?_
  refine go_run 2 (F' := (2, [some (.ref th), some (.int x1)], [.int 0, .ref th], zhp S)) rfl ?_
  replace hm := zgd hm
  obtain ⟨b1, hm⟩ := hm
  replace hm := zcP_inv hm
  obtain ⟨S1, v1, e1, hm⟩ := hm
  have k1 := hyR_ahead (X := X) (d := d + 1) e1
  refine go_call (m' := 15) (as := [.ref th, .int 0]) (rest := []) (v := some (.int v1)) (h1 := zhp S1) rfl (by simp only [ie_step, ie_iv, List.drop, zhp_obj (S := S) b1 (by decide)]; rfl) ⟨rfl, Nat.le_of_ble_eq_true rfl⟩ k1 ?_
  refine go_run 0 (F' := (5, [some (.ref th), some (.int x1)], [.int v1], zhp S1)) rfl ?_
  refine go_run 3 (F' := (9, [some (.ref th), some (.int x1)], [.int (65 + x1), .int v1], zhp S1)) rfl ?_
  refine go_step rfl rfl ?_
  by_cases q2 : v1 = 65 + x1
  · rw [if_pos q2] at hm ⊢
    refine go_run 0 (F' := (12, [some (.ref th), some (.int x1)], [], zhp S1)) rfl ?_
    refine go_run 2 (F' := (14, [some (.ref th), some (.int x1)], [.int 1, .ref th], zhp S1)) rfl ?_
    replace hm := zgd hm
    obtain ⟨b3, hm⟩ := hm
    refine go_hpI rfl b3 (by decide) rfl (Nat.le_of_ble_eq_true rfl) fs_5_4 ?_
    refine go_run 3 (F' := (22, [some (.ref th), some (.int x1)], [.int 6, .int 65, .ref th], zhp (szI S1 4 th 1))) rfl ?_
    replace hm := zcP_inv hm
    obtain ⟨S2, v2, e2, hm⟩ := hm
    have k2 := hyR_readOneOf (X := X) (d := d) e2
    refine go_call (m' := 18) (as := [.ref th, .int 65, .int 6]) (rest := []) (v := some (.int v2)) (h1 := zhp S2) rfl (by simp only [ie_step, ie_iv, List.drop, zhp_obj (S := szI S1 4 th 1) b3 (by decide)]; rfl) ⟨rfl, Nat.le_of_ble_eq_true rfl⟩ k2 ?_
    refine go_run 0 (F' := (25, [some (.ref th), some (.int x1)], [.int v2], zhp S2)) rfl ?_
    refine go_run 0 (F' := (25, [some (.ref th), some (.int x1)], [.int v2], zhp S2)) rfl ?_
    cases hm
    exact go_end rfl rfl
  · rw [if_neg q2] at hm ⊢
    refine go_run 0 (F' := (17, [some (.ref th), some (.int x1)], [], zhp S1)) rfl ?_
    refine go_run 3 (F' := (22, [some (.ref th), some (.int x1)], [.int 6, .int 65, .ref th], zhp S1)) rfl ?_
    replace hm := zgd hm
    obtain ⟨b4, hm⟩ := hm
    replace hm := zcP_inv hm
    obtain ⟨S3, v3, e3, hm⟩ := hm
    have k3 := hyR_readOneOf (X := X) (d := d) e3
    refine go_call (m' := 18) (as := [.ref th, .int 65, .int 6]) (rest := []) (v := some (.int v3)) (h1 := zhp S3) rfl (by simp only [ie_step, ie_iv, List.drop, zhp_obj (S := S1) b4 (by decide)]; rfl) ⟨rfl, Nat.le_of_ble_eq_true rfl⟩ k3 ?_
    refine go_run 0 (F' := (25, [some (.ref th), some (.int x1)], [.int v3], zhp S3)) rfl ?_
    refine go_run 0 (F' := (25, [some (.ref th), some (.int x1)], [.int v3], zhp S3)) rfl ?_
    cases hm
    exact go_end rfl rfl
theorem ehyR_readOther {th : Nat} {S : hS} {x1 : Int32} {S' : hS} {r : Int32} (hm : yR_readOther S th x1 = some (S', r)) : Ex S S' := by
  unfold yR_readOther at hm
  have hx : Ex S S := Ex_r
  replace hm := zgd hm
  obtain ⟨b1, hm⟩ := hm
  replace hm := zcP_inv hm
  obtain ⟨S1, v1, e1, hm⟩ := hm
  have hx := Ex_t (T := S) hx (ehyR_ahead e1)
  by_cases q2 : v1 = 65 + x1
  · rw [if_pos q2] at hm
    replace hm := zgd hm
    obtain ⟨b3, hm⟩ := hm
    replace hm := zcP_inv hm
    obtain ⟨S2, v2, e2, hm⟩ := hm
    have hx := Ex_t (T := szI S1 4 th 1) hx (ehyR_readOneOf e2)
    cases hm
    exact hx
  · rw [if_neg q2] at hm
    replace hm := zgd hm
    obtain ⟨b4, hm⟩ := hm
    replace hm := zcP_inv hm
    obtain ⟨S3, v3, e3, hm⟩ := hm
    have hx := Ex_t (T := S1) hx (ehyR_readOneOf e3)
    cases hm
    exact hx
def yR_readTell (S : hS) (th : Nat) (p1 : Option Nat) : Option (hS) := (zob p1 fun a1 => (if ztg S a1 = 10 then (if ztg S th = 6 then (zcV (yR_expect (szI S 1 a1 4) th 33) fun S2 => (if ztg S2 th = 6 then (zcP (yR_readOneOf S2 th 48 10) fun S3 v3 => (if ztg S3 a1 = 10 then (if ztg S3 th = 6 then (zcV (yR_expect (szI S3 5 a1 v3) th 62) fun S4 => (if ztg S4 a1 = 10 then (if ztg S4 th = 6 then (zcP (yR_readOther S4 th (zI S4 2 a1)) fun S5 v5 => (if ztg S5 a1 = 10 then (if ztg S5 th = 6 then (zcV (yR_expect (szI S5 3 a1 v5) th 59) fun S6 => (some S6)) else none) else none)) else none) else none)) else none) else none)) else none)) else none) else none))
theorem hyR_readTell {X : ie_X} {d th : Nat} {S : hS} {p1 : Option Nat} {S' : hS} (hm : yR_readTell S th p1 = some S') : Go X (d + 3) 19 (0, ie_en 19 [.ref th, va_rf p1], [], zhp S) (.inl none) (zhp S') := by
  unfold yR_readTell at hm
  refine go_run 0 (F' := (0, [some (.ref th), some (va_rf p1)], [], zhp S)) (by cases p1 <;> rfl) ?_
  refine go_run 0 (F' := (0, [some (.ref th), some (va_rf p1)], [], zhp S)) rfl ?_
  refine go_al rfl rfl ?_
  refine go_run 1 (F' := (2, [some (.ref th), some (va_rf p1)], [.int 4, va_rf p1], zhp S)) rfl ?_
  replace hm := zob_inv hm
  obtain ⟨a1, rfl, hm⟩ := hm
  replace hm := zgd hm
  obtain ⟨b1, hm⟩ := hm
  refine go_hpI rfl b1 (by decide) rfl (Nat.le_of_ble_eq_true rfl) fs_9_1 ?_
  refine go_run 2 (F' := (8, [some (.ref th), some (.ref a1)], [.int 33, .ref th], zhp (szI S 1 a1 4))) rfl ?_
  replace hm := zgd hm
  obtain ⟨b2, hm⟩ := hm
  replace hm := zcV_inv hm
  obtain ⟨S2, e2, hm⟩ := hm
  have k2 := hyR_expect (X := X) (d := d + 1) e2
  refine go_call (m' := 20) (as := [.ref th, .int 33]) (rest := []) (v := none) (h1 := zhp S2) rfl (by simp only [ie_step, ie_iv, List.drop, zhp_obj (S := szI S 1 a1 4) b2 (by decide)]; rfl) ⟨rfl, Nat.le_of_ble_eq_true rfl⟩ k2 ?_
  refine go_run 0 (F' := (11, [some (.ref th), some (.ref a1)], [], zhp S2)) rfl ?_
  refine go_run 4 (F' := (17, [some (.ref th), some (.ref a1)], [.int 10, .int 48, .ref th, .ref a1], zhp S2)) rfl ?_
  replace hm := zgd hm
  obtain ⟨b3, hm⟩ := hm
  replace hm := zcP_inv hm
  obtain ⟨S3, v3, e3, hm⟩ := hm
  have k3 := hyR_readOneOf (X := X) (d := d + 1) e3
  refine go_call (m' := 18) (as := [.ref th, .int 48, .int 10]) (rest := [.ref a1]) (v := some (.int v3)) (h1 := zhp S3) rfl (by simp only [ie_step, ie_iv, List.drop, zhp_obj (S := S2) b3 (by decide)]; rfl) ⟨rfl, Nat.le_of_ble_eq_true rfl⟩ k3 ?_
  refine go_run 0 (F' := (20, [some (.ref th), some (.ref a1)], [.int v3, .ref a1], zhp S3)) rfl ?_
  refine go_run 0 (F' := (20, [some (.ref th), some (.ref a1)], [.int v3, .ref a1], zhp S3)) rfl ?_
  replace hm := zgd hm
  obtain ⟨b4, hm⟩ := hm
  refine go_hpI rfl b4 (by decide) rfl (Nat.le_of_ble_eq_true rfl) fs_9_5 ?_
  refine go_run 2 (F' := (26, [some (.ref th), some (.ref a1)], [.int 62, .ref th], zhp (szI S3 5 a1 v3))) rfl ?_
  replace hm := zgd hm
  obtain ⟨b5, hm⟩ := hm
  replace hm := zcV_inv hm
  obtain ⟨S4, e4, hm⟩ := hm
  have k4 := hyR_expect (X := X) (d := d + 1) e4
  refine go_call (m' := 20) (as := [.ref th, .int 62]) (rest := []) (v := none) (h1 := zhp S4) rfl (by simp only [ie_step, ie_iv, List.drop, zhp_obj (S := szI S3 5 a1 v3) b5 (by decide)]; rfl) ⟨rfl, Nat.le_of_ble_eq_true rfl⟩ k4 ?_
  refine go_run 0 (F' := (29, [some (.ref th), some (.ref a1)], [], zhp S4)) rfl ?_
  refine go_run 3 (F' := (32, [some (.ref th), some (.ref a1)], [.ref a1, .ref th, .ref a1], zhp S4)) rfl ?_
  replace hm := zgd hm
  obtain ⟨b6, hm⟩ := hm
  refine go_hg (v := .int (zI S4 2 a1)) rfl b6 (by decide) rfl ?_
  refine go_run 0 (F' := (35, [some (.ref th), some (.ref a1)], [.int (zI S4 2 a1), .ref th, .ref a1], zhp S4)) rfl ?_
  replace hm := zgd hm
  obtain ⟨b7, hm⟩ := hm
  replace hm := zcP_inv hm
  obtain ⟨S5, v5, e5, hm⟩ := hm
  have k5 := hyR_readOther (X := X) (d := d) e5
  refine go_call (m' := 21) (as := [.ref th, .int (zI S4 2 a1)]) (rest := [.ref a1]) (v := some (.int v5)) (h1 := zhp S5) rfl (by simp only [ie_step, ie_iv, List.drop, zhp_obj (S := S4) b7 (by decide)]; rfl) ⟨rfl, Nat.le_of_ble_eq_true rfl⟩ k5 ?_
  refine go_run 0 (F' := (38, [some (.ref th), some (.ref a1)], [.int v5, .ref a1], zhp S5)) rfl ?_
  refine go_run 0 (F' := (38, [some (.ref th), some (.ref a1)], [.int v5, .ref a1], zhp S5)) rfl ?_
  replace hm := zgd hm
  obtain ⟨b8, hm⟩ := hm
  refine go_hpI rfl b8 (by decide) rfl (Nat.le_of_ble_eq_true rfl) fs_9_3 ?_
  refine go_run 2 (F' := (44, [some (.ref th), some (.ref a1)], [.int 59, .ref th], zhp (szI S5 3 a1 v5))) rfl ?_
  replace hm := zgd hm
  obtain ⟨b9, hm⟩ := hm
  replace hm := zcV_inv hm
  obtain ⟨S6, e6, hm⟩ := hm
  have k6 := hyR_expect (X := X) (d := d + 1) e6
  refine go_call (m' := 20) (as := [.ref th, .int 59]) (rest := []) (v := none) (h1 := zhp S6) rfl (by simp only [ie_step, ie_iv, List.drop, zhp_obj (S := szI S5 3 a1 v5) b9 (by decide)]; rfl) ⟨rfl, Nat.le_of_ble_eq_true rfl⟩ k6 ?_
  refine go_run 0 (F' := (47, [some (.ref th), some (.ref a1)], [], zhp S6)) rfl ?_
  refine go_run 0 (F' := (47, [some (.ref th), some (.ref a1)], [], zhp S6)) rfl ?_
  cases hm
  exact go_end rfl rfl
theorem ehyR_readTell {th : Nat} {S : hS} {p1 : Option Nat} {S' : hS} (hm : yR_readTell S th p1 = some S') : Ex S S' := by
  unfold yR_readTell at hm
  have hx : Ex S S := Ex_r
  replace hm := zob_inv hm
  obtain ⟨a1, rfl, hm⟩ := hm
  replace hm := zgd hm
  obtain ⟨b1, hm⟩ := hm
  replace hm := zgd hm
  obtain ⟨b2, hm⟩ := hm
  replace hm := zcV_inv hm
  obtain ⟨S2, e2, hm⟩ := hm
  have hx := Ex_t (T := szI S 1 a1 4) hx (ehyR_expect e2)
  replace hm := zgd hm
  obtain ⟨b3, hm⟩ := hm
  replace hm := zcP_inv hm
  obtain ⟨S3, v3, e3, hm⟩ := hm
  have hx := Ex_t (T := S2) hx (ehyR_readOneOf e3)
  replace hm := zgd hm
  obtain ⟨b4, hm⟩ := hm
  replace hm := zgd hm
  obtain ⟨b5, hm⟩ := hm
  replace hm := zcV_inv hm
  obtain ⟨S4, e4, hm⟩ := hm
  have hx := Ex_t (T := szI S3 5 a1 v3) hx (ehyR_expect e4)
  replace hm := zgd hm
  obtain ⟨b6, hm⟩ := hm
  replace hm := zgd hm
  obtain ⟨b7, hm⟩ := hm
  replace hm := zcP_inv hm
  obtain ⟨S5, v5, e5, hm⟩ := hm
  have hx := Ex_t (T := S4) hx (ehyR_readOther e5)
  replace hm := zgd hm
  obtain ⟨b8, hm⟩ := hm
  replace hm := zgd hm
  obtain ⟨b9, hm⟩ := hm
  replace hm := zcV_inv hm
  obtain ⟨S6, e6, hm⟩ := hm
  have hx := Ex_t (T := szI S5 3 a1 v5) hx (ehyR_expect e6)
  cases hm
  exact hx
def yR_keep (S : hS) (th : Nat) : Option (hS) := (if ztg S th = 6 then (if zI S 1 th ≤ zI S 2 th then (some S) else (zlb (zR S 0 th) fun o1 => (zob o1 fun a2 => (if ztg S a2 = 21 then (if ib (zI S 2 th) (zLen S a2) then (some (szI (szI (szL S th ((zL S th) ||| ((Int32.toInt64 ((zAI S a2) (Int32.toNatClampNeg (zI S 2 th)))) <<< (Int32.toInt64 (8 * (zI S 6 th)) &&& 63)))) 6 th ((zI S 6 th) + 1)) 2 th ((zI S 2 th) + 1))) else none) else none)))) else none)
theorem hyR_keep {X : ie_X} {d th : Nat} {S : hS} {S' : hS} (hm : yR_keep S th = some S') : Go X (d + 0) 26 (0, ie_en 26 [.ref th], [], zhp S) (.inl none) (zhp S') := by
  unfold yR_keep at hm
  refine go_run 0 (F' := (0, [some (.ref th)], [], zhp S)) rfl ?_
  refine go_run 1 (F' := (1, [some (.ref th)], [.ref th], zhp S)) rfl ?_
  replace hm := zgd hm
  obtain ⟨b1, hm⟩ := hm
  refine go_hg (v := .int (zI S 2 th)) rfl b1 (by decide) rfl ?_
  refine go_run 1 (F' := (5, [some (.ref th)], [.ref th, .int (zI S 2 th)], zhp S)) rfl ?_
  refine go_hg (v := .int (zI S 1 th)) rfl b1 (by decide) rfl ?_
  refine go_run 0 (F' := (8, [some (.ref th)], [.int (zI S 1 th), .int (zI S 2 th)], zhp S)) rfl ?_
  refine go_step rfl rfl ?_
  by_cases q2 : zI S 1 th ≤ zI S 2 th
  · rw [if_pos q2] at hm ⊢
    refine go_run 0 (F' := (58, [some (.ref th)], [], zhp S)) rfl ?_
    refine go_run 0 (F' := (58, [some (.ref th)], [], zhp S)) rfl ?_
    cases hm
    exact go_end rfl rfl
  · rw [if_neg q2] at hm ⊢
    refine go_run 0 (F' := (11, [some (.ref th)], [], zhp S)) rfl ?_
    refine go_run 2 (F' := (13, [some (.ref th)], [.ref th, .ref th], zhp S)) rfl ?_
    refine go_hg (v := .long (zL S th)) rfl b1 (by decide) rfl ?_
    refine go_run 1 (F' := (17, [some (.ref th)], [.ref th, .long (zL S th), .ref th], zhp S)) rfl ?_
    replace hm := zlb_inv hm
    obtain ⟨o1, eo1, hm⟩ := hm
    refine go_hg (v := va_rf o1) rfl b1 (by decide) (by rw [← eo1]; rfl) ?_
    refine go_run 1 (F' := (21, [some (.ref th)], [.ref th, va_rf o1, .long (zL S th), .ref th], zhp S)) rfl ?_
    refine go_hg (v := .int (zI S 2 th)) rfl b1 (by decide) rfl ?_
    refine go_run 0 (F' := (24, [some (.ref th)], [.int (zI S 2 th), va_rf o1, .long (zL S th), .ref th], zhp S)) rfl ?_
    replace hm := zob_inv hm
    obtain ⟨a2, rfl, hm⟩ := hm
    replace hm := zgd hm
    obtain ⟨b3, hm⟩ := hm
    replace hm := zgd hm
    obtain ⟨b4, hm⟩ := hm
    refine go_hald1 rfl b3 b4 rfl rfl ?_
    refine go_run 3 (F' := (29, [some (.ref th)], [.ref th, .int 8, .long (Int32.toInt64 ((zAI S a2) (Int32.toNatClampNeg (zI S 2 th)))), .long (zL S th), .ref th], zhp S)) rfl ?_
    refine go_hg (v := .int (zI S 6 th)) rfl b1 (by decide) rfl ?_
    refine go_run 3 (F' := (35, [some (.ref th)], [.long ((zL S th) ||| ((Int32.toInt64 ((zAI S a2) (Int32.toNatClampNeg (zI S 2 th)))) <<< (Int32.toInt64 (8 * (zI S 6 th)) &&& 63))), .ref th], zhp S)) rfl ?_
    refine go_hpL rfl b1 (by decide) rfl (Nat.le_of_ble_eq_true rfl) fs_5_5 ?_
    refine go_run 2 (F' := (40, [some (.ref th)], [.ref th, .ref th], zhp (szL S th ((zL S th) ||| ((Int32.toInt64 ((zAI S a2) (Int32.toNatClampNeg (zI S 2 th)))) <<< (Int32.toInt64 (8 * (zI S 6 th)) &&& 63)))))) rfl ?_
    refine go_hg (v := .int (zI S 6 th)) rfl b1 (by decide) rfl ?_
    refine go_run 2 (F' := (45, [some (.ref th)], [.int ((zI S 6 th) + 1), .ref th], zhp (szL S th ((zL S th) ||| ((Int32.toInt64 ((zAI S a2) (Int32.toNatClampNeg (zI S 2 th)))) <<< (Int32.toInt64 (8 * (zI S 6 th)) &&& 63)))))) rfl ?_
    refine go_hpI rfl b1 (by decide) rfl (Nat.le_of_ble_eq_true rfl) fs_5_6 ?_
    refine go_run 2 (F' := (50, [some (.ref th)], [.ref th, .ref th], zhp (szI (szL S th ((zL S th) ||| ((Int32.toInt64 ((zAI S a2) (Int32.toNatClampNeg (zI S 2 th)))) <<< (Int32.toInt64 (8 * (zI S 6 th)) &&& 63)))) 6 th ((zI S 6 th) + 1)))) rfl ?_
    refine go_hg (v := .int (zI S 2 th)) rfl b1 (by decide) rfl ?_
    refine go_run 2 (F' := (55, [some (.ref th)], [.int ((zI S 2 th) + 1), .ref th], zhp (szI (szL S th ((zL S th) ||| ((Int32.toInt64 ((zAI S a2) (Int32.toNatClampNeg (zI S 2 th)))) <<< (Int32.toInt64 (8 * (zI S 6 th)) &&& 63)))) 6 th ((zI S 6 th) + 1)))) rfl ?_
    refine go_hpI rfl b1 (by decide) rfl (Nat.le_of_ble_eq_true rfl) fs_5_2 ?_
    refine go_run 0 (F' := (58, [some (.ref th)], [], zhp (szI (szI (szL S th ((zL S th) ||| ((Int32.toInt64 ((zAI S a2) (Int32.toNatClampNeg (zI S 2 th)))) <<< (Int32.toInt64 (8 * (zI S 6 th)) &&& 63)))) 6 th ((zI S 6 th) + 1)) 2 th ((zI S 2 th) + 1)))) rfl ?_
    cases hm
    exact go_end rfl rfl
theorem ehyR_keep {th : Nat} {S : hS} {S' : hS} (hm : yR_keep S th = some S') : Ex S S' := by
  unfold yR_keep at hm
  have hx : Ex S S := Ex_r
  replace hm := zgd hm
  obtain ⟨b1, hm⟩ := hm
  by_cases q2 : zI S 1 th ≤ zI S 2 th
  · rw [if_pos q2] at hm
    cases hm
    exact hx
  · rw [if_neg q2] at hm
    replace hm := zlb_inv hm
    obtain ⟨o1, eo1, hm⟩ := hm
    replace hm := zob_inv hm
    obtain ⟨a2, rfl, hm⟩ := hm
    replace hm := zgd hm
    obtain ⟨b3, hm⟩ := hm
    replace hm := zgd hm
    obtain ⟨b4, hm⟩ := hm
    cases hm
    exact hx
def yR_readTerm_34 (th : Nat) : Nat → hS → Int32 → Option (hS)
  | 0, _, _ => none
  | n + 1, S, l1 => (if 3 ≤ l1 then (some S) else (if ztg S th = 6 then (zcP (yR_ahead S th 0) fun S1 v1 => (if ty_b (rd_fig v1) = 0 then (some S1) else (if ztg S1 th = 6 then (zcV (yR_keep S1 th) fun S2 => (yR_readTerm_34 th n S2 (l1 + 1))) else none))) else none))
theorem hyR_readTerm_34 {X : ie_X} {d th : Nat} : ∀ (n : Nat) {S : hS} {l1 : Int32} {S' : hS}, yR_readTerm_34 th n S l1 = some S' → Go X (d + 1) 24 (34, [some (.ref th), some (.int l1)], [], zhp S) (.inl none) (zhp S') := by
  intro n
  induction n with
  | zero => intro S l1 S'  hm; cases hm
  | succ n ih =>
    intro S l1 S'  hm
    unfold yR_readTerm_34 at hm
    refine go_run 0 (F' := (34, [some (.ref th), some (.int l1)], [], zhp S)) rfl ?_
    refine go_run 2 (F' := (36, [some (.ref th), some (.int l1)], [.int 3, .int l1], zhp S)) rfl ?_
    refine go_step rfl rfl ?_
    by_cases q1 : 3 ≤ l1
    · rw [if_pos q1] at hm ⊢
      refine go_run 0 (F' := (60, [some (.ref th), some (.int l1)], [], zhp S)) rfl ?_
      refine go_run 0 (F' := (60, [some (.ref th), some (.int l1)], [], zhp S)) rfl ?_
      cases hm
      exact go_end rfl rfl
    · rw [if_neg q1] at hm ⊢
      refine go_run 0 (F' := (39, [some (.ref th), some (.int l1)], [], zhp S)) rfl ?_
      refine go_run 2 (F' := (41, [some (.ref th), some (.int l1)], [.int 0, .ref th], zhp S)) rfl ?_
      replace hm := zgd hm
      obtain ⟨b2, hm⟩ := hm
      replace hm := zcP_inv hm
      obtain ⟨S1, v1, e1, hm⟩ := hm
      have k1 := hyR_ahead (X := X) (d := d) e1
      refine go_call (m' := 15) (as := [.ref th, .int 0]) (rest := []) (v := some (.int v1)) (h1 := zhp S1) rfl (by simp only [ie_step, ie_iv, List.drop, zhp_obj (S := S) b2 (by decide)]; rfl) ⟨rfl, Nat.le_of_ble_eq_true rfl⟩ k1 ?_
      refine go_run 0 (F' := (44, [some (.ref th), some (.int l1)], [.int v1], zhp S1)) rfl ?_
      refine go_run 0 (F' := (44, [some (.ref th), some (.int l1)], [.int v1], zhp S1)) rfl ?_
      refine go_call (m' := 27) (as := [.int v1]) (rest := []) (v := some (.int (ty_b (rd_fig v1)))) (h1 := zhp S1) rfl rfl ⟨rfl, Nat.le_of_ble_eq_true rfl⟩ (rd_isFig _) ?_
      refine go_run 0 (F' := (47, [some (.ref th), some (.int l1)], [.int (ty_b (rd_fig v1))], zhp S1)) rfl ?_
      refine go_run 0 (F' := (47, [some (.ref th), some (.int l1)], [.int (ty_b (rd_fig v1))], zhp S1)) rfl ?_
      refine go_step rfl rfl ?_
      by_cases q3 : ty_b (rd_fig v1) = 0
      · rw [if_pos q3] at hm ⊢
        refine go_run 0 (F' := (60, [some (.ref th), some (.int l1)], [], zhp S1)) rfl ?_
        refine go_run 0 (F' := (60, [some (.ref th), some (.int l1)], [], zhp S1)) rfl ?_
        cases hm
        exact go_end rfl rfl
      · rw [if_neg q3] at hm ⊢
        refine go_run 0 (F' := (50, [some (.ref th), some (.int l1)], [], zhp S1)) rfl ?_
        refine go_run 1 (F' := (51, [some (.ref th), some (.int l1)], [.ref th], zhp S1)) rfl ?_
        replace hm := zgd hm
        obtain ⟨b4, hm⟩ := hm
        replace hm := zcV_inv hm
        obtain ⟨S2, e2, hm⟩ := hm
        have k2 := hyR_keep (X := X) (d := d) e2
        refine go_call (m' := 26) (as := [.ref th]) (rest := []) (v := none) (h1 := zhp S2) rfl (by simp only [ie_step, ie_iv, List.drop, zhp_obj (S := S1) b4 (by decide)]; rfl) ⟨rfl, Nat.le_of_ble_eq_true rfl⟩ k2 ?_
        refine go_run 0 (F' := (54, [some (.ref th), some (.int l1)], [], zhp S2)) rfl ?_
        refine go_run 2 (F' := (34, [some (.ref th), some (.int (l1 + 1))], [], zhp S2)) rfl ?_
        exact ih hm
theorem ehyR_readTerm_34 {th : Nat} : ∀ (n : Nat) {S : hS} {l1 : Int32} {S' : hS}, yR_readTerm_34 th n S l1 = some S' → Ex S S' := by
  intro n
  induction n with
  | zero => intro S l1 S'  hm; cases hm
  | succ n ih =>
    intro S l1 S'  hm
    unfold yR_readTerm_34 at hm
    have hx : Ex S S := Ex_r
    by_cases q1 : 3 ≤ l1
    · rw [if_pos q1] at hm
      cases hm
      exact hx
    · rw [if_neg q1] at hm
      replace hm := zgd hm
      obtain ⟨b2, hm⟩ := hm
      replace hm := zcP_inv hm
      obtain ⟨S1, v1, e1, hm⟩ := hm
      have hx := Ex_t (T := S) hx (ehyR_ahead e1)
      by_cases q3 : ty_b (rd_fig v1) = 0
      · rw [if_pos q3] at hm
        cases hm
        exact hx
      · rw [if_neg q3] at hm
        replace hm := zgd hm
        obtain ⟨b4, hm⟩ := hm
        replace hm := zcV_inv hm
        obtain ⟨S2, e2, hm⟩ := hm
        have hx := Ex_t (T := S1) hx (ehyR_keep e2)
        refine Ex_t ?_ (ih hm)
        exact hx
def yR_readTerm (n : Nat) (S : hS) (th : Nat) : Option (hS) := (if ztg S th = 6 then (zcP (yR_ahead S th 0) fun S1 v1 => (if ty_b (rd_var v1) = 0 then (if ztg S1 th = 6 then (zcP (yR_ahead S1 th 0) fun S2 v2 => (if ty_b (rd_fig v2) = 0 then (if ztg S2 th = 6 then (yR_readTerm_34 th  n (szI S2 4 th 1) 0) else none) else (yR_readTerm_34 th  n S2 0))) else none) else (if ztg S1 th = 6 then (zcV (yR_keep S1 th) fun S3 => (some S3)) else none))) else none)
theorem hyR_readTerm {X : ie_X} {d th : Nat} {n : Nat} {S : hS} {S' : hS} (hm : yR_readTerm n S th = some S') : Go X (d + 1) 24 (0, ie_en 24 [.ref th], [], zhp S) (.inl none) (zhp S') := by
  unfold yR_readTerm at hm
  refine go_run 0 (F' := (0, [some (.ref th), none], [], zhp S)) rfl ?_
  refine go_run 2 (F' := (2, [some (.ref th), none], [.int 0, .ref th], zhp S)) rfl ?_
  replace hm := zgd hm
  obtain ⟨b1, hm⟩ := hm
  replace hm := zcP_inv hm
  obtain ⟨S1, v1, e1, hm⟩ := hm
  have k1 := hyR_ahead (X := X) (d := d) e1
  refine go_call (m' := 15) (as := [.ref th, .int 0]) (rest := []) (v := some (.int v1)) (h1 := zhp S1) rfl (by simp only [ie_step, ie_iv, List.drop, zhp_obj (S := S) b1 (by decide)]; rfl) ⟨rfl, Nat.le_of_ble_eq_true rfl⟩ k1 ?_
  refine go_run 0 (F' := (5, [some (.ref th), none], [.int v1], zhp S1)) rfl ?_
  refine go_run 0 (F' := (5, [some (.ref th), none], [.int v1], zhp S1)) rfl ?_
  refine go_call (m' := 25) (as := [.int v1]) (rest := []) (v := some (.int (ty_b (rd_var v1)))) (h1 := zhp S1) rfl rfl ⟨rfl, Nat.le_of_ble_eq_true rfl⟩ (rd_isVar _) ?_
  refine go_run 0 (F' := (8, [some (.ref th), none], [.int (ty_b (rd_var v1))], zhp S1)) rfl ?_
  refine go_run 0 (F' := (8, [some (.ref th), none], [.int (ty_b (rd_var v1))], zhp S1)) rfl ?_
  refine go_step rfl rfl ?_
  by_cases q2 : ty_b (rd_var v1) = 0
  · rw [if_pos q2] at hm ⊢
    refine go_run 0 (F' := (16, [some (.ref th), none], [], zhp S1)) rfl ?_
    refine go_run 2 (F' := (18, [some (.ref th), none], [.int 0, .ref th], zhp S1)) rfl ?_
    replace hm := zgd hm
    obtain ⟨b3, hm⟩ := hm
    replace hm := zcP_inv hm
    obtain ⟨S2, v2, e2, hm⟩ := hm
    have k2 := hyR_ahead (X := X) (d := d) e2
    refine go_call (m' := 15) (as := [.ref th, .int 0]) (rest := []) (v := some (.int v2)) (h1 := zhp S2) rfl (by simp only [ie_step, ie_iv, List.drop, zhp_obj (S := S1) b3 (by decide)]; rfl) ⟨rfl, Nat.le_of_ble_eq_true rfl⟩ k2 ?_
    refine go_run 0 (F' := (21, [some (.ref th), none], [.int v2], zhp S2)) rfl ?_
    refine go_run 0 (F' := (21, [some (.ref th), none], [.int v2], zhp S2)) rfl ?_
    refine go_call (m' := 27) (as := [.int v2]) (rest := []) (v := some (.int (ty_b (rd_fig v2)))) (h1 := zhp S2) rfl rfl ⟨rfl, Nat.le_of_ble_eq_true rfl⟩ (rd_isFig _) ?_
    refine go_run 0 (F' := (24, [some (.ref th), none], [.int (ty_b (rd_fig v2))], zhp S2)) rfl ?_
    refine go_run 0 (F' := (24, [some (.ref th), none], [.int (ty_b (rd_fig v2))], zhp S2)) rfl ?_
    refine go_step rfl rfl ?_
    by_cases q4 : ty_b (rd_fig v2) = 0
    · rw [if_pos q4] at hm ⊢
      refine go_run 0 (F' := (27, [some (.ref th), none], [], zhp S2)) rfl ?_
      refine go_run 2 (F' := (29, [some (.ref th), none], [.int 1, .ref th], zhp S2)) rfl ?_
      replace hm := zgd hm
      obtain ⟨b5, hm⟩ := hm
      refine go_hpI rfl b5 (by decide) rfl (Nat.le_of_ble_eq_true rfl) fs_5_4 ?_
      refine go_run 2 (F' := (34, [some (.ref th), some (.int 0)], [], zhp (szI S2 4 th 1))) rfl ?_
      exact hyR_readTerm_34  n hm
    · rw [if_neg q4] at hm ⊢
      refine go_run 0 (F' := (32, [some (.ref th), none], [], zhp S2)) rfl ?_
      refine go_run 2 (F' := (34, [some (.ref th), some (.int 0)], [], zhp S2)) rfl ?_
      exact hyR_readTerm_34  n hm
  · rw [if_neg q2] at hm ⊢
    refine go_run 0 (F' := (11, [some (.ref th), none], [], zhp S1)) rfl ?_
    refine go_run 1 (F' := (12, [some (.ref th), none], [.ref th], zhp S1)) rfl ?_
    replace hm := zgd hm
    obtain ⟨b6, hm⟩ := hm
    replace hm := zcV_inv hm
    obtain ⟨S3, e3, hm⟩ := hm
    have k3 := hyR_keep (X := X) (d := d) e3
    refine go_call (m' := 26) (as := [.ref th]) (rest := []) (v := none) (h1 := zhp S3) rfl (by simp only [ie_step, ie_iv, List.drop, zhp_obj (S := S1) b6 (by decide)]; rfl) ⟨rfl, Nat.le_of_ble_eq_true rfl⟩ k3 ?_
    refine go_run 0 (F' := (15, [some (.ref th), none], [], zhp S3)) rfl ?_
    refine go_run 0 (F' := (15, [some (.ref th), none], [], zhp S3)) rfl ?_
    cases hm
    exact go_end rfl rfl
theorem ehyR_readTerm {th : Nat} {n : Nat} {S : hS} {S' : hS} (hm : yR_readTerm n S th = some S') : Ex S S' := by
  unfold yR_readTerm at hm
  have hx : Ex S S := Ex_r
  replace hm := zgd hm
  obtain ⟨b1, hm⟩ := hm
  replace hm := zcP_inv hm
  obtain ⟨S1, v1, e1, hm⟩ := hm
  have hx := Ex_t (T := S) hx (ehyR_ahead e1)
  by_cases q2 : ty_b (rd_var v1) = 0
  · rw [if_pos q2] at hm
    replace hm := zgd hm
    obtain ⟨b3, hm⟩ := hm
    replace hm := zcP_inv hm
    obtain ⟨S2, v2, e2, hm⟩ := hm
    have hx := Ex_t (T := S1) hx (ehyR_ahead e2)
    by_cases q4 : ty_b (rd_fig v2) = 0
    · rw [if_pos q4] at hm
      replace hm := zgd hm
      obtain ⟨b5, hm⟩ := hm
      refine Ex_t ?_ (ehyR_readTerm_34  n hm)
      exact hx
    · rw [if_neg q4] at hm
      refine Ex_t ?_ (ehyR_readTerm_34  n hm)
      exact hx
  · rw [if_neg q2] at hm
    replace hm := zgd hm
    obtain ⟨b6, hm⟩ := hm
    replace hm := zcV_inv hm
    obtain ⟨S3, e3, hm⟩ := hm
    have hx := Ex_t (T := S1) hx (ehyR_keep e3)
    cases hm
    exact hx
def yR_readExpression (n : Nat) (S : hS) (th : Nat) : Option (hS × Int64) := (if ztg S th = 6 then (zcV (yR_readTerm n (szI (szL S th 0) 6 th 0) th) fun S1 => (if ztg S1 th = 6 then (zcP (yR_ahead S1 th 0) fun S2 v2 => (if ty_b (rd_op v2) = 0 then (if ztg S2 th = 6 then (some (S2, zL S2 th)) else none) else (if ztg S2 th = 6 then (zcV (yR_keep S2 th) fun S3 => (if ztg S3 th = 6 then (zcV (yR_readTerm n S3 th) fun S4 => (if ztg S4 th = 6 then (some (S4, zL S4 th)) else none)) else none)) else none))) else none)) else none)
theorem hyR_readExpression {X : ie_X} {d th : Nat} {n : Nat} {S : hS} {S' : hS} {r : Int64} (hm : yR_readExpression n S th = some (S', r)) : Go X (d + 2) 23 (0, ie_en 23 [.ref th], [], zhp S) (.inl (some (.long r))) (zhp S') := by
  unfold yR_readExpression at hm
  refine go_run 0 (F' := (0, [some (.ref th)], [], zhp S)) rfl ?_
  refine go_run 2 (F' := (2, [some (.ref th)], [.long 0, .ref th], zhp S)) rfl ?_
  replace hm := zgd hm
  obtain ⟨b1, hm⟩ := hm
  refine go_hpL rfl b1 (by decide) rfl (Nat.le_of_ble_eq_true rfl) fs_5_5 ?_
  refine go_run 2 (F' := (7, [some (.ref th)], [.int 0, .ref th], zhp (szL S th 0))) rfl ?_
  refine go_hpI rfl b1 (by decide) rfl (Nat.le_of_ble_eq_true rfl) fs_5_6 ?_
  refine go_run 1 (F' := (11, [some (.ref th)], [.ref th], zhp (szI (szL S th 0) 6 th 0))) rfl ?_
  replace hm := zcV_inv hm
  obtain ⟨S1, e1, hm⟩ := hm
  have k1 := hyR_readTerm (X := X) (d := d) e1
  refine go_call (m' := 24) (as := [.ref th]) (rest := []) (v := none) (h1 := zhp S1) rfl (by simp only [ie_step, ie_iv, List.drop, zhp_obj (S := szI (szL S th 0) 6 th 0) b1 (by decide)]; rfl) ⟨rfl, Nat.le_of_ble_eq_true rfl⟩ k1 ?_
  refine go_run 0 (F' := (14, [some (.ref th)], [], zhp S1)) rfl ?_
  refine go_run 2 (F' := (16, [some (.ref th)], [.int 0, .ref th], zhp S1)) rfl ?_
  replace hm := zgd hm
  obtain ⟨b2, hm⟩ := hm
  replace hm := zcP_inv hm
  obtain ⟨S2, v2, e2, hm⟩ := hm
  have k2 := hyR_ahead (X := X) (d := d + 1) e2
  refine go_call (m' := 15) (as := [.ref th, .int 0]) (rest := []) (v := some (.int v2)) (h1 := zhp S2) rfl (by simp only [ie_step, ie_iv, List.drop, zhp_obj (S := S1) b2 (by decide)]; rfl) ⟨rfl, Nat.le_of_ble_eq_true rfl⟩ k2 ?_
  refine go_run 0 (F' := (19, [some (.ref th)], [.int v2], zhp S2)) rfl ?_
  refine go_run 0 (F' := (19, [some (.ref th)], [.int v2], zhp S2)) rfl ?_
  refine go_call (m' := 28) (as := [.int v2]) (rest := []) (v := some (.int (ty_b (rd_op v2)))) (h1 := zhp S2) rfl rfl ⟨rfl, Nat.le_of_ble_eq_true rfl⟩ (rd_isOp _) ?_
  refine go_run 0 (F' := (22, [some (.ref th)], [.int (ty_b (rd_op v2))], zhp S2)) rfl ?_
  refine go_run 0 (F' := (22, [some (.ref th)], [.int (ty_b (rd_op v2))], zhp S2)) rfl ?_
  refine go_step rfl rfl ?_
  by_cases q3 : ty_b (rd_op v2) = 0
  · rw [if_pos q3] at hm ⊢
    refine go_run 0 (F' := (33, [some (.ref th)], [], zhp S2)) rfl ?_
    refine go_run 1 (F' := (34, [some (.ref th)], [.ref th], zhp S2)) rfl ?_
    replace hm := zgd hm
    obtain ⟨b4, hm⟩ := hm
    refine go_hg (v := .long (zL S2 th)) rfl b4 (by decide) rfl ?_
    refine go_run 0 (F' := (37, [some (.ref th)], [.long (zL S2 th)], zhp S2)) rfl ?_
    cases hm
    exact go_end rfl rfl
  · rw [if_neg q3] at hm ⊢
    refine go_run 0 (F' := (25, [some (.ref th)], [], zhp S2)) rfl ?_
    refine go_run 1 (F' := (26, [some (.ref th)], [.ref th], zhp S2)) rfl ?_
    replace hm := zgd hm
    obtain ⟨b5, hm⟩ := hm
    replace hm := zcV_inv hm
    obtain ⟨S3, e3, hm⟩ := hm
    have k3 := hyR_keep (X := X) (d := d + 1) e3
    refine go_call (m' := 26) (as := [.ref th]) (rest := []) (v := none) (h1 := zhp S3) rfl (by simp only [ie_step, ie_iv, List.drop, zhp_obj (S := S2) b5 (by decide)]; rfl) ⟨rfl, Nat.le_of_ble_eq_true rfl⟩ k3 ?_
    refine go_run 0 (F' := (29, [some (.ref th)], [], zhp S3)) rfl ?_
    refine go_run 1 (F' := (30, [some (.ref th)], [.ref th], zhp S3)) rfl ?_
    replace hm := zgd hm
    obtain ⟨b6, hm⟩ := hm
    replace hm := zcV_inv hm
    obtain ⟨S4, e4, hm⟩ := hm
    have k4 := hyR_readTerm (X := X) (d := d) e4
    refine go_call (m' := 24) (as := [.ref th]) (rest := []) (v := none) (h1 := zhp S4) rfl (by simp only [ie_step, ie_iv, List.drop, zhp_obj (S := S3) b6 (by decide)]; rfl) ⟨rfl, Nat.le_of_ble_eq_true rfl⟩ k4 ?_
    refine go_run 0 (F' := (33, [some (.ref th)], [], zhp S4)) rfl ?_
    refine go_run 1 (F' := (34, [some (.ref th)], [.ref th], zhp S4)) rfl ?_
    replace hm := zgd hm
    obtain ⟨b7, hm⟩ := hm
    refine go_hg (v := .long (zL S4 th)) rfl b7 (by decide) rfl ?_
    refine go_run 0 (F' := (37, [some (.ref th)], [.long (zL S4 th)], zhp S4)) rfl ?_
    cases hm
    exact go_end rfl rfl
theorem ehyR_readExpression {th : Nat} {n : Nat} {S : hS} {S' : hS} {r : Int64} (hm : yR_readExpression n S th = some (S', r)) : Ex S S' := by
  unfold yR_readExpression at hm
  have hx : Ex S S := Ex_r
  replace hm := zgd hm
  obtain ⟨b1, hm⟩ := hm
  replace hm := zcV_inv hm
  obtain ⟨S1, e1, hm⟩ := hm
  have hx := Ex_t (T := szI (szL S th 0) 6 th 0) hx (ehyR_readTerm e1)
  replace hm := zgd hm
  obtain ⟨b2, hm⟩ := hm
  replace hm := zcP_inv hm
  obtain ⟨S2, v2, e2, hm⟩ := hm
  have hx := Ex_t (T := S1) hx (ehyR_ahead e2)
  by_cases q3 : ty_b (rd_op v2) = 0
  · rw [if_pos q3] at hm
    replace hm := zgd hm
    obtain ⟨b4, hm⟩ := hm
    cases hm
    exact hx
  · rw [if_neg q3] at hm
    replace hm := zgd hm
    obtain ⟨b5, hm⟩ := hm
    replace hm := zcV_inv hm
    obtain ⟨S3, e3, hm⟩ := hm
    have hx := Ex_t (T := S2) hx (ehyR_keep e3)
    replace hm := zgd hm
    obtain ⟨b6, hm⟩ := hm
    replace hm := zcV_inv hm
    obtain ⟨S4, e4, hm⟩ := hm
    have hx := Ex_t (T := S3) hx (ehyR_readTerm e4)
    replace hm := zgd hm
    obtain ⟨b7, hm⟩ := hm
    cases hm
    exact hx
def yR_readSet (n : Nat) (S : hS) (th : Nat) (p1 : Option Nat) : Option (hS) := (zob p1 fun a1 => (if ztg S a1 = 10 then (if ztg S th = 6 then (zcP (yR_readOneOf (szI S 1 a1 1) th 119 4) fun S2 v2 => (if ztg S2 a1 = 10 then (if ztg S2 th = 6 then (zcV (yR_expect (szI S2 4 a1 v2) th 58) fun S3 => (if ztg S3 th = 6 then (zcP (yR_readExpression n S3 th) fun S4 v4 => (if ztg S4 a1 = 10 then (if ztg S4 th = 6 then (zcV (yR_expect (szL S4 a1 v4) th 59) fun S5 => (some S5)) else none) else none)) else none)) else none) else none)) else none) else none))
theorem hyR_readSet {X : ie_X} {d th : Nat} {n : Nat} {S : hS} {p1 : Option Nat} {S' : hS} (hm : yR_readSet n S th p1 = some S') : Go X (d + 3) 30 (0, ie_en 30 [.ref th, va_rf p1], [], zhp S) (.inl none) (zhp S') := by
  unfold yR_readSet at hm
  refine go_run 0 (F' := (0, [some (.ref th), some (va_rf p1)], [], zhp S)) (by cases p1 <;> rfl) ?_
  refine go_run 0 (F' := (0, [some (.ref th), some (va_rf p1)], [], zhp S)) rfl ?_
  refine go_al rfl rfl ?_
  refine go_run 1 (F' := (2, [some (.ref th), some (va_rf p1)], [.int 1, va_rf p1], zhp S)) rfl ?_
  replace hm := zob_inv hm
  obtain ⟨a1, rfl, hm⟩ := hm
  replace hm := zgd hm
  obtain ⟨b1, hm⟩ := hm
  refine go_hpI rfl b1 (by decide) rfl (Nat.le_of_ble_eq_true rfl) fs_9_1 ?_
  refine go_run 4 (F' := (10, [some (.ref th), some (.ref a1)], [.int 4, .int 119, .ref th, .ref a1], zhp (szI S 1 a1 1))) rfl ?_
  replace hm := zgd hm
  obtain ⟨b2, hm⟩ := hm
  replace hm := zcP_inv hm
  obtain ⟨S2, v2, e2, hm⟩ := hm
  have k2 := hyR_readOneOf (X := X) (d := d + 1) e2
  refine go_call (m' := 18) (as := [.ref th, .int 119, .int 4]) (rest := [.ref a1]) (v := some (.int v2)) (h1 := zhp S2) rfl (by simp only [ie_step, ie_iv, List.drop, zhp_obj (S := szI S 1 a1 1) b2 (by decide)]; rfl) ⟨rfl, Nat.le_of_ble_eq_true rfl⟩ k2 ?_
  refine go_run 0 (F' := (13, [some (.ref th), some (.ref a1)], [.int v2, .ref a1], zhp S2)) rfl ?_
  refine go_run 0 (F' := (13, [some (.ref th), some (.ref a1)], [.int v2, .ref a1], zhp S2)) rfl ?_
  replace hm := zgd hm
  obtain ⟨b3, hm⟩ := hm
  refine go_hpI rfl b3 (by decide) rfl (Nat.le_of_ble_eq_true rfl) fs_9_4 ?_
  refine go_run 2 (F' := (19, [some (.ref th), some (.ref a1)], [.int 58, .ref th], zhp (szI S2 4 a1 v2))) rfl ?_
  replace hm := zgd hm
  obtain ⟨b4, hm⟩ := hm
  replace hm := zcV_inv hm
  obtain ⟨S3, e3, hm⟩ := hm
  have k3 := hyR_expect (X := X) (d := d + 1) e3
  refine go_call (m' := 20) (as := [.ref th, .int 58]) (rest := []) (v := none) (h1 := zhp S3) rfl (by simp only [ie_step, ie_iv, List.drop, zhp_obj (S := szI S2 4 a1 v2) b4 (by decide)]; rfl) ⟨rfl, Nat.le_of_ble_eq_true rfl⟩ k3 ?_
  refine go_run 0 (F' := (22, [some (.ref th), some (.ref a1)], [], zhp S3)) rfl ?_
  refine go_run 2 (F' := (24, [some (.ref th), some (.ref a1)], [.ref th, .ref a1], zhp S3)) rfl ?_
  replace hm := zgd hm
  obtain ⟨b5, hm⟩ := hm
  replace hm := zcP_inv hm
  obtain ⟨S4, v4, e4, hm⟩ := hm
  have k4 := hyR_readExpression (X := X) (d := d) e4
  refine go_call (m' := 23) (as := [.ref th]) (rest := [.ref a1]) (v := some (.long v4)) (h1 := zhp S4) rfl (by simp only [ie_step, ie_iv, List.drop, zhp_obj (S := S3) b5 (by decide)]; rfl) ⟨rfl, Nat.le_of_ble_eq_true rfl⟩ k4 ?_
  refine go_run 0 (F' := (27, [some (.ref th), some (.ref a1)], [.long v4, .ref a1], zhp S4)) rfl ?_
  refine go_run 0 (F' := (27, [some (.ref th), some (.ref a1)], [.long v4, .ref a1], zhp S4)) rfl ?_
  replace hm := zgd hm
  obtain ⟨b6, hm⟩ := hm
  refine go_hpL rfl b6 (by decide) rfl (Nat.le_of_ble_eq_true rfl) fs_9_6 ?_
  refine go_run 2 (F' := (33, [some (.ref th), some (.ref a1)], [.int 59, .ref th], zhp (szL S4 a1 v4))) rfl ?_
  replace hm := zgd hm
  obtain ⟨b7, hm⟩ := hm
  replace hm := zcV_inv hm
  obtain ⟨S5, e5, hm⟩ := hm
  have k5 := hyR_expect (X := X) (d := d + 1) e5
  refine go_call (m' := 20) (as := [.ref th, .int 59]) (rest := []) (v := none) (h1 := zhp S5) rfl (by simp only [ie_step, ie_iv, List.drop, zhp_obj (S := szL S4 a1 v4) b7 (by decide)]; rfl) ⟨rfl, Nat.le_of_ble_eq_true rfl⟩ k5 ?_
  refine go_run 0 (F' := (36, [some (.ref th), some (.ref a1)], [], zhp S5)) rfl ?_
  refine go_run 0 (F' := (36, [some (.ref th), some (.ref a1)], [], zhp S5)) rfl ?_
  cases hm
  exact go_end rfl rfl
theorem ehyR_readSet {th : Nat} {n : Nat} {S : hS} {p1 : Option Nat} {S' : hS} (hm : yR_readSet n S th p1 = some S') : Ex S S' := by
  unfold yR_readSet at hm
  have hx : Ex S S := Ex_r
  replace hm := zob_inv hm
  obtain ⟨a1, rfl, hm⟩ := hm
  replace hm := zgd hm
  obtain ⟨b1, hm⟩ := hm
  replace hm := zgd hm
  obtain ⟨b2, hm⟩ := hm
  replace hm := zcP_inv hm
  obtain ⟨S2, v2, e2, hm⟩ := hm
  have hx := Ex_t (T := szI S 1 a1 1) hx (ehyR_readOneOf e2)
  replace hm := zgd hm
  obtain ⟨b3, hm⟩ := hm
  replace hm := zgd hm
  obtain ⟨b4, hm⟩ := hm
  replace hm := zcV_inv hm
  obtain ⟨S3, e3, hm⟩ := hm
  have hx := Ex_t (T := szI S2 4 a1 v2) hx (ehyR_expect e3)
  replace hm := zgd hm
  obtain ⟨b5, hm⟩ := hm
  replace hm := zcP_inv hm
  obtain ⟨S4, v4, e4, hm⟩ := hm
  have hx := Ex_t (T := S3) hx (ehyR_readExpression e4)
  replace hm := zgd hm
  obtain ⟨b6, hm⟩ := hm
  replace hm := zgd hm
  obtain ⟨b7, hm⟩ := hm
  replace hm := zcV_inv hm
  obtain ⟨S5, e5, hm⟩ := hm
  have hx := Ex_t (T := szL S4 a1 v4) hx (ehyR_expect e5)
  cases hm
  exact hx
def yR_readSend (n : Nat) (S : hS) (th : Nat) (p1 : Option Nat) : Option (hS) := (zob p1 fun a1 => (if ztg S a1 = 10 then (if ztg S th = 6 then (zcP (yR_readExpression n (szI S 1 a1 2) th) fun S2 v2 => (if ztg S2 a1 = 10 then (if ztg S2 th = 6 then (zcV (yR_expect (szL S2 a1 v2) th 62) fun S3 => (if ztg S3 a1 = 10 then (if ztg S3 th = 6 then (zcP (yR_readOther S3 th (zI S3 2 a1)) fun S4 v4 => (if ztg S4 a1 = 10 then (if ztg S4 th = 6 then (zcP (yR_readOneOf (szI S4 3 a1 v4) th 119 4) fun S5 v5 => (if ztg S5 a1 = 10 then (if ztg S5 th = 6 then (zcV (yR_expect (szI S5 4 a1 v5) th 59) fun S6 => (some S6)) else none) else none)) else none) else none)) else none) else none)) else none) else none)) else none) else none))
theorem hyR_readSend {X : ie_X} {d th : Nat} {n : Nat} {S : hS} {p1 : Option Nat} {S' : hS} (hm : yR_readSend n S th p1 = some S') : Go X (d + 3) 31 (0, ie_en 31 [.ref th, va_rf p1], [], zhp S) (.inl none) (zhp S') := by
  unfold yR_readSend at hm
  refine go_run 0 (F' := (0, [some (.ref th), some (va_rf p1)], [], zhp S)) (by cases p1 <;> rfl) ?_
  refine go_run 0 (F' := (0, [some (.ref th), some (va_rf p1)], [], zhp S)) rfl ?_
  refine go_al rfl rfl ?_
  refine go_run 1 (F' := (2, [some (.ref th), some (va_rf p1)], [.int 2, va_rf p1], zhp S)) rfl ?_
  replace hm := zob_inv hm
  obtain ⟨a1, rfl, hm⟩ := hm
  replace hm := zgd hm
  obtain ⟨b1, hm⟩ := hm
  refine go_hpI rfl b1 (by decide) rfl (Nat.le_of_ble_eq_true rfl) fs_9_1 ?_
  refine go_run 2 (F' := (7, [some (.ref th), some (.ref a1)], [.ref th, .ref a1], zhp (szI S 1 a1 2))) rfl ?_
  replace hm := zgd hm
  obtain ⟨b2, hm⟩ := hm
  replace hm := zcP_inv hm
  obtain ⟨S2, v2, e2, hm⟩ := hm
  have k2 := hyR_readExpression (X := X) (d := d) e2
  refine go_call (m' := 23) (as := [.ref th]) (rest := [.ref a1]) (v := some (.long v2)) (h1 := zhp S2) rfl (by simp only [ie_step, ie_iv, List.drop, zhp_obj (S := szI S 1 a1 2) b2 (by decide)]; rfl) ⟨rfl, Nat.le_of_ble_eq_true rfl⟩ k2 ?_
  refine go_run 0 (F' := (10, [some (.ref th), some (.ref a1)], [.long v2, .ref a1], zhp S2)) rfl ?_
  refine go_run 0 (F' := (10, [some (.ref th), some (.ref a1)], [.long v2, .ref a1], zhp S2)) rfl ?_
  replace hm := zgd hm
  obtain ⟨b3, hm⟩ := hm
  refine go_hpL rfl b3 (by decide) rfl (Nat.le_of_ble_eq_true rfl) fs_9_6 ?_
  refine go_run 2 (F' := (16, [some (.ref th), some (.ref a1)], [.int 62, .ref th], zhp (szL S2 a1 v2))) rfl ?_
  replace hm := zgd hm
  obtain ⟨b4, hm⟩ := hm
  replace hm := zcV_inv hm
  obtain ⟨S3, e3, hm⟩ := hm
  have k3 := hyR_expect (X := X) (d := d + 1) e3
  refine go_call (m' := 20) (as := [.ref th, .int 62]) (rest := []) (v := none) (h1 := zhp S3) rfl (by simp only [ie_step, ie_iv, List.drop, zhp_obj (S := szL S2 a1 v2) b4 (by decide)]; rfl) ⟨rfl, Nat.le_of_ble_eq_true rfl⟩ k3 ?_
  refine go_run 0 (F' := (19, [some (.ref th), some (.ref a1)], [], zhp S3)) rfl ?_
  refine go_run 3 (F' := (22, [some (.ref th), some (.ref a1)], [.ref a1, .ref th, .ref a1], zhp S3)) rfl ?_
  replace hm := zgd hm
  obtain ⟨b5, hm⟩ := hm
  refine go_hg (v := .int (zI S3 2 a1)) rfl b5 (by decide) rfl ?_
  refine go_run 0 (F' := (25, [some (.ref th), some (.ref a1)], [.int (zI S3 2 a1), .ref th, .ref a1], zhp S3)) rfl ?_
  replace hm := zgd hm
  obtain ⟨b6, hm⟩ := hm
  replace hm := zcP_inv hm
  obtain ⟨S4, v4, e4, hm⟩ := hm
  have k4 := hyR_readOther (X := X) (d := d) e4
  refine go_call (m' := 21) (as := [.ref th, .int (zI S3 2 a1)]) (rest := [.ref a1]) (v := some (.int v4)) (h1 := zhp S4) rfl (by simp only [ie_step, ie_iv, List.drop, zhp_obj (S := S3) b6 (by decide)]; rfl) ⟨rfl, Nat.le_of_ble_eq_true rfl⟩ k4 ?_
  refine go_run 0 (F' := (28, [some (.ref th), some (.ref a1)], [.int v4, .ref a1], zhp S4)) rfl ?_
  refine go_run 0 (F' := (28, [some (.ref th), some (.ref a1)], [.int v4, .ref a1], zhp S4)) rfl ?_
  replace hm := zgd hm
  obtain ⟨b7, hm⟩ := hm
  refine go_hpI rfl b7 (by decide) rfl (Nat.le_of_ble_eq_true rfl) fs_9_3 ?_
  refine go_run 4 (F' := (36, [some (.ref th), some (.ref a1)], [.int 4, .int 119, .ref th, .ref a1], zhp (szI S4 3 a1 v4))) rfl ?_
  replace hm := zgd hm
  obtain ⟨b8, hm⟩ := hm
  replace hm := zcP_inv hm
  obtain ⟨S5, v5, e5, hm⟩ := hm
  have k5 := hyR_readOneOf (X := X) (d := d + 1) e5
  refine go_call (m' := 18) (as := [.ref th, .int 119, .int 4]) (rest := [.ref a1]) (v := some (.int v5)) (h1 := zhp S5) rfl (by simp only [ie_step, ie_iv, List.drop, zhp_obj (S := szI S4 3 a1 v4) b8 (by decide)]; rfl) ⟨rfl, Nat.le_of_ble_eq_true rfl⟩ k5 ?_
  refine go_run 0 (F' := (39, [some (.ref th), some (.ref a1)], [.int v5, .ref a1], zhp S5)) rfl ?_
  refine go_run 0 (F' := (39, [some (.ref th), some (.ref a1)], [.int v5, .ref a1], zhp S5)) rfl ?_
  replace hm := zgd hm
  obtain ⟨b9, hm⟩ := hm
  refine go_hpI rfl b9 (by decide) rfl (Nat.le_of_ble_eq_true rfl) fs_9_4 ?_
  refine go_run 2 (F' := (45, [some (.ref th), some (.ref a1)], [.int 59, .ref th], zhp (szI S5 4 a1 v5))) rfl ?_
  replace hm := zgd hm
  obtain ⟨b10, hm⟩ := hm
  replace hm := zcV_inv hm
  obtain ⟨S6, e6, hm⟩ := hm
  have k6 := hyR_expect (X := X) (d := d + 1) e6
  refine go_call (m' := 20) (as := [.ref th, .int 59]) (rest := []) (v := none) (h1 := zhp S6) rfl (by simp only [ie_step, ie_iv, List.drop, zhp_obj (S := szI S5 4 a1 v5) b10 (by decide)]; rfl) ⟨rfl, Nat.le_of_ble_eq_true rfl⟩ k6 ?_
  refine go_run 0 (F' := (48, [some (.ref th), some (.ref a1)], [], zhp S6)) rfl ?_
  refine go_run 0 (F' := (48, [some (.ref th), some (.ref a1)], [], zhp S6)) rfl ?_
  cases hm
  exact go_end rfl rfl
theorem ehyR_readSend {th : Nat} {n : Nat} {S : hS} {p1 : Option Nat} {S' : hS} (hm : yR_readSend n S th p1 = some S') : Ex S S' := by
  unfold yR_readSend at hm
  have hx : Ex S S := Ex_r
  replace hm := zob_inv hm
  obtain ⟨a1, rfl, hm⟩ := hm
  replace hm := zgd hm
  obtain ⟨b1, hm⟩ := hm
  replace hm := zgd hm
  obtain ⟨b2, hm⟩ := hm
  replace hm := zcP_inv hm
  obtain ⟨S2, v2, e2, hm⟩ := hm
  have hx := Ex_t (T := szI S 1 a1 2) hx (ehyR_readExpression e2)
  replace hm := zgd hm
  obtain ⟨b3, hm⟩ := hm
  replace hm := zgd hm
  obtain ⟨b4, hm⟩ := hm
  replace hm := zcV_inv hm
  obtain ⟨S3, e3, hm⟩ := hm
  have hx := Ex_t (T := szL S2 a1 v2) hx (ehyR_expect e3)
  replace hm := zgd hm
  obtain ⟨b5, hm⟩ := hm
  replace hm := zgd hm
  obtain ⟨b6, hm⟩ := hm
  replace hm := zcP_inv hm
  obtain ⟨S4, v4, e4, hm⟩ := hm
  have hx := Ex_t (T := S3) hx (ehyR_readOther e4)
  replace hm := zgd hm
  obtain ⟨b7, hm⟩ := hm
  replace hm := zgd hm
  obtain ⟨b8, hm⟩ := hm
  replace hm := zcP_inv hm
  obtain ⟨S5, v5, e5, hm⟩ := hm
  have hx := Ex_t (T := szI S4 3 a1 v4) hx (ehyR_readOneOf e5)
  replace hm := zgd hm
  obtain ⟨b9, hm⟩ := hm
  replace hm := zgd hm
  obtain ⟨b10, hm⟩ := hm
  replace hm := zcV_inv hm
  obtain ⟨S6, e6, hm⟩ := hm
  have hx := Ex_t (T := szI S5 4 a1 v5) hx (ehyR_expect e6)
  cases hm
  exact hx
def yR_occurringIn_4 : Nat → hS → Int32 → Option Nat → Option (hS × Int32)
  | 0, _, _, _ => none
  | n + 1, S, l1, p2 => (zoc p2 (some (S, l1)) fun a1 => (if ztg S a1 = 10 then (zlb (zR S 9 a1) fun o2 => (yR_occurringIn_4 n S (l1 ||| (zI S 11 a1)) o2)) else none))
theorem hyR_occurringIn_4 {X : ie_X} {d : Nat} : ∀ (n : Nat) {S : hS} {l1 : Int32} {p2 : Option Nat} {u0 : Option Value} {S' : hS} {r : Int32}, yR_occurringIn_4 n S l1 p2 = some (S', r) → Go X (d + 0) 34 (4, [u0, some (.int l1), some (va_rf p2)], [], zhp S) (.inl (some (.int r))) (zhp S') := by
  intro n
  induction n with
  | zero => intro S l1 p2 u0 S' r hm; cases hm
  | succ n ih =>
    intro S l1 p2 u0 S' r hm
    unfold yR_occurringIn_4 at hm
    refine go_run 0 (F' := (4, [u0, some (.int l1), some (va_rf p2)], [], zhp S)) rfl ?_
    refine go_run 0 (F' := (4, [u0, some (.int l1), some (va_rf p2)], [], zhp S)) rfl ?_
    refine go_al rfl rfl ?_
    refine go_run 0 (F' := (5, [u0, some (.int l1), some (va_rf p2)], [va_rf p2], zhp S)) rfl ?_
    cases p2 with
    | none =>
      replace hm := zoc_n hm
      refine go_step rfl rfl ?_
      refine go_run 0 (F' := (23, [u0, some (.int l1), some (.null)], [], zhp S)) rfl ?_
      refine go_run 1 (F' := (24, [u0, some (.int l1), some (.null)], [.int l1], zhp S)) rfl ?_
      cases hm
      exact go_end rfl rfl
    | some a1 =>
      replace hm := zoc_s hm
      refine go_step rfl rfl ?_
      refine go_run 0 (F' := (8, [u0, some (.int l1), some (.ref a1)], [], zhp S)) rfl ?_
      refine go_run 2 (F' := (10, [u0, some (.int l1), some (.ref a1)], [.ref a1, .int l1], zhp S)) rfl ?_
      replace hm := zgd hm
      obtain ⟨b1, hm⟩ := hm
      refine go_hg (v := .int (zI S 11 a1)) rfl b1 (by decide) rfl ?_
      refine go_run 3 (F' := (16, [u0, some (.int (l1 ||| (zI S 11 a1))), some (.ref a1)], [.ref a1], zhp S)) rfl ?_
      replace hm := zlb_inv hm
      obtain ⟨o2, eo2, hm⟩ := hm
      refine go_hg (v := va_rf o2) rfl b1 (by decide) (by rw [← eo2]; rfl) ?_
      refine go_run 0 (F' := (19, [u0, some (.int (l1 ||| (zI S 11 a1))), some (.ref a1)], [va_rf o2], zhp S)) rfl ?_
      refine go_as rfl ?_
      refine go_run 1 (F' := (4, [u0, some (.int (l1 ||| (zI S 11 a1))), some (va_rf o2)], [], zhp S)) rfl ?_
      exact ih hm
theorem ehyR_occurringIn_4 : ∀ (n : Nat) {S : hS} {l1 : Int32} {p2 : Option Nat} {S' : hS} {r : Int32}, yR_occurringIn_4 n S l1 p2 = some (S', r) → Ex S S' := by
  intro n
  induction n with
  | zero => intro S l1 p2 S' r hm; cases hm
  | succ n ih =>
    intro S l1 p2 S' r hm
    unfold yR_occurringIn_4 at hm
    have hx : Ex S S := Ex_r
    cases p2 with
    | none =>
      replace hm := zoc_n hm
      cases hm
      exact hx
    | some a1 =>
      replace hm := zoc_s hm
      replace hm := zgd hm
      obtain ⟨b1, hm⟩ := hm
      replace hm := zlb_inv hm
      obtain ⟨o2, eo2, hm⟩ := hm
      refine Ex_t ?_ (ih hm)
      exact hx
def yR_occurringIn (n : Nat) (S : hS) (p1 : Option Nat) : Option (hS × Int32) := (yR_occurringIn_4  n S 0 p1)
theorem hyR_occurringIn {X : ie_X} {d : Nat} {n : Nat} {S : hS} {p1 : Option Nat} {S' : hS} {r : Int32} (hm : yR_occurringIn n S p1 = some (S', r)) : Go X (d + 0) 34 (0, ie_en 34 [va_rf p1], [], zhp S) (.inl (some (.int r))) (zhp S') := by
  unfold yR_occurringIn at hm
  refine go_run 0 (F' := (0, [some (va_rf p1), none, none], [], zhp S)) (by cases p1 <;> rfl) ?_
  refine go_run 2 (F' := (2, [some (va_rf p1), some (.int 0), none], [], zhp S)) rfl ?_
  refine go_al rfl rfl ?_
  refine go_run 0 (F' := (3, [some (va_rf p1), some (.int 0), none], [va_rf p1], zhp S)) rfl ?_
  refine go_as rfl ?_
  refine go_run 0 (F' := (4, [some (va_rf p1), some (.int 0), some (va_rf p1)], [], zhp S)) rfl ?_
  exact hyR_occurringIn_4  n hm
theorem ehyR_occurringIn {n : Nat} {S : hS} {p1 : Option Nat} {S' : hS} {r : Int32} (hm : yR_occurringIn n S p1 = some (S', r)) : Ex S S' := by
  unfold yR_occurringIn at hm
  have hx : Ex S S := Ex_r
  refine Ex_t ?_ (ehyR_occurringIn_4  n hm)
  exact hx
def yR_readBlock (rc : hS → Nat → Int32 → Option (hS × Option Nat)) (n : Nat) (S : hS) (th : Nat) (x1 : Int32) : Option (hS × Option Nat) := (if ztg S th = 6 then (zcV (yR_expect S th 123) fun S1 => (if ztg S1 th = 6 then (zcP (rc S1 th x1) fun S2 o2 => (if ztg S2 th = 6 then (zcV (yR_expect S2 th 125) fun S3 => (some (S3, o2))) else none)) else none)) else none)
theorem hyR_readBlock {X : ie_X} {e th : Nat} {rc : hS → Nat → Int32 → Option (hS × Option Nat)} (hrc : ∀ {S : hS} {th : Nat} {z1 : Int32} {S' : hS} {r : Option Nat}, rc S th z1 = some (S', r) → Go X (e + 3) 13 (0, ie_en 13 [.ref th, .int z1], [], zhp S) (.inl (some (va_rf r))) (zhp S')) {n : Nat} {S : hS} {x1 : Int32} {S' : hS} {r : Option Nat} (hm : yR_readBlock rc n S th x1 = some (S', r)) : Go X (e + 4) 29 (0, ie_en 29 [.ref th, .int x1], [], zhp S) (.inl (some (va_rf r))) (zhp S') := by
  unfold yR_readBlock at hm
  refine go_run 0 (F' := (0, [some (.ref th), some (.int x1), none], [], zhp S)) rfl ?_
  refine go_run 2 (F' := (3, [some (.ref th), some (.int x1), none], [.int 123, .ref th], zhp S)) rfl ?_
  replace hm := zgd hm
  obtain ⟨b1, hm⟩ := hm
  replace hm := zcV_inv hm
  obtain ⟨S1, e1, hm⟩ := hm
  have k1 := hyR_expect (X := X) (d := e + 2) e1
  refine go_call (m' := 20) (as := [.ref th, .int 123]) (rest := []) (v := none) (h1 := zhp S1) rfl (by simp only [ie_step, ie_iv, List.drop, zhp_obj (S := S) b1 (by decide)]; rfl) ⟨rfl, Nat.le_of_ble_eq_true rfl⟩ k1 ?_
  refine go_run 0 (F' := (6, [some (.ref th), some (.int x1), none], [], zhp S1)) rfl ?_
  refine go_run 2 (F' := (8, [some (.ref th), some (.int x1), none], [.int x1, .ref th], zhp S1)) rfl ?_
  replace hm := zgd hm
  obtain ⟨b2, hm⟩ := hm
  replace hm := zcP_inv hm
  obtain ⟨S2, o2, e2, hm⟩ := hm
  have k2 := hrc e2
  refine go_call (m' := 13) (as := [.ref th, .int x1]) (rest := []) (v := some (va_rf o2)) (h1 := zhp S2) rfl (by simp only [ie_step, ie_iv, List.drop, zhp_obj (S := S1) b2 (by decide)]; rfl) ⟨rfl, Nat.le_of_ble_eq_true rfl⟩ k2 ?_
  refine go_run 0 (F' := (11, [some (.ref th), some (.int x1), none], [va_rf o2], zhp S2)) rfl ?_
  refine go_run 0 (F' := (11, [some (.ref th), some (.int x1), none], [va_rf o2], zhp S2)) rfl ?_
  refine go_as rfl ?_
  refine go_run 2 (F' := (15, [some (.ref th), some (.int x1), some (va_rf o2)], [.int 125, .ref th], zhp S2)) rfl ?_
  replace hm := zgd hm
  obtain ⟨b3, hm⟩ := hm
  replace hm := zcV_inv hm
  obtain ⟨S3, e3, hm⟩ := hm
  have k3 := hyR_expect (X := X) (d := e + 2) e3
  refine go_call (m' := 20) (as := [.ref th, .int 125]) (rest := []) (v := none) (h1 := zhp S3) rfl (by simp only [ie_step, ie_iv, List.drop, zhp_obj (S := S2) b3 (by decide)]; rfl) ⟨rfl, Nat.le_of_ble_eq_true rfl⟩ k3 ?_
  refine go_run 0 (F' := (18, [some (.ref th), some (.int x1), some (va_rf o2)], [], zhp S3)) rfl ?_
  refine go_run 0 (F' := (18, [some (.ref th), some (.int x1), some (va_rf o2)], [], zhp S3)) rfl ?_
  refine go_al rfl rfl ?_
  refine go_run 0 (F' := (19, [some (.ref th), some (.int x1), some (va_rf o2)], [va_rf o2], zhp S3)) rfl ?_
  cases hm
  exact go_reta rfl rfl rfl (fun _ => rfl)
theorem ehyR_readBlock {th : Nat} {rc : hS → Nat → Int32 → Option (hS × Option Nat)} (hrc : ∀ {S : hS} {th : Nat} {z1 : Int32} {S' : hS} {r : Option Nat}, rc S th z1 = some (S', r) → Ex S S') {n : Nat} {S : hS} {x1 : Int32} {S' : hS} {r : Option Nat} (hm : yR_readBlock rc n S th x1 = some (S', r)) : Ex S S' := by
  unfold yR_readBlock at hm
  have hx : Ex S S := Ex_r
  replace hm := zgd hm
  obtain ⟨b1, hm⟩ := hm
  replace hm := zcV_inv hm
  obtain ⟨S1, e1, hm⟩ := hm
  have hx := Ex_t (T := S) hx (ehyR_expect e1)
  replace hm := zgd hm
  obtain ⟨b2, hm⟩ := hm
  replace hm := zcP_inv hm
  obtain ⟨S2, o2, e2, hm⟩ := hm
  have hx := Ex_t (T := S1) hx (hrc e2)
  replace hm := zgd hm
  obtain ⟨b3, hm⟩ := hm
  replace hm := zcV_inv hm
  obtain ⟨S3, e3, hm⟩ := hm
  have hx := Ex_t (T := S2) hx (ehyR_expect e3)
  cases hm
  exact hx
def yR_readBranches (rc : hS → Nat → Int32 → Option (hS × Option Nat)) (n : Nat) (S : hS) (th : Nat) (p1 : Option Nat) (x2 : Int32) : Option (hS) := (if x2 < 6 then (if ztg S th = 6 then (zcP (yR_ahead S th 0) fun S1 v1 => (if v1 = 63 then (zob p1 fun a2 => (if ztg S1 a2 = 10 then (if ztg S1 th = 6 then (zcP (yR_readExpression n (szI (szI S1 1 a2 6) 2 th ((zI S1 2 th) + 1)) th) fun S3 v3 => (if ztg S3 a2 = 10 then (if ztg S3 th = 6 then (zcP (yR_readBlock rc n (szL S3 a2 v3) th (x2 + 1)) fun S4 o4 => (if ztg S4 a2 = 10 then (if zI S4 1 a2 = 6 then (if ztg S4 th = 6 then (zcP (yR_readBlock rc n (szR S4 7 a2 o4) th (x2 + 1)) fun S5 o5 => (if ztg S5 a2 = 10 then (some (szR S5 8 a2 o5)) else none)) else none) else (some (szR S4 7 a2 o4))) else none)) else none) else none)) else none) else none)) else (zob p1 fun a6 => (if ztg S1 a6 = 10 then (if ztg S1 th = 6 then (zcP (yR_readExpression n (szI (szI S1 1 a6 7) 2 th ((zI S1 2 th) + 1)) th) fun S7 v7 => (if ztg S7 a6 = 10 then (if ztg S7 th = 6 then (zcP (yR_readBlock rc n (szL S7 a6 v7) th (x2 + 1)) fun S8 o8 => (if ztg S8 a6 = 10 then (if zI S8 1 a6 = 6 then (if ztg S8 th = 6 then (zcP (yR_readBlock rc n (szR S8 7 a6 o8) th (x2 + 1)) fun S9 o9 => (if ztg S9 a6 = 10 then (some (szR S9 8 a6 o9)) else none)) else none) else (some (szR S8 7 a6 o8))) else none)) else none) else none)) else none) else none)))) else none) else (if ztg S th = 6 then (some (szI S 4 th 1)) else none))
theorem hyR_readBranches {X : ie_X} {e th : Nat} {rc : hS → Nat → Int32 → Option (hS × Option Nat)} (hrc : ∀ {S : hS} {th : Nat} {z1 : Int32} {S' : hS} {r : Option Nat}, rc S th z1 = some (S', r) → Go X (e + 3) 13 (0, ie_en 13 [.ref th, .int z1], [], zhp S) (.inl (some (va_rf r))) (zhp S')) {n : Nat} {S : hS} {p1 : Option Nat} {x2 : Int32} {S' : hS} (hm : yR_readBranches rc n S th p1 x2 = some S') : Go X (e + 5) 22 (0, ie_en 22 [.ref th, va_rf p1, .int x2], [], zhp S) (.inl none) (zhp S') := by
  unfold yR_readBranches at hm
  refine go_run 0 (F' := (0, [some (.ref th), some (va_rf p1), some (.int x2)], [], zhp S)) (by cases p1 <;> rfl) ?_
  refine go_run 2 (F' := (3, [some (.ref th), some (va_rf p1), some (.int x2)], [.int 6, .int x2], zhp S)) rfl ?_
  refine go_step rfl rfl ?_
  by_cases q1 : x2 < 6
  · rw [if_pos q1] at hm ⊢
    refine go_run 0 (F' := (12, [some (.ref th), some (va_rf p1), some (.int x2)], [], zhp S)) rfl ?_
    refine go_run 0 (F' := (12, [some (.ref th), some (va_rf p1), some (.int x2)], [], zhp S)) rfl ?_
    refine go_al rfl rfl ?_
    refine go_run 2 (F' := (15, [some (.ref th), some (va_rf p1), some (.int x2)], [.int 0, .ref th, va_rf p1], zhp S)) rfl ?_
    replace hm := zgd hm
    obtain ⟨b2, hm⟩ := hm
    replace hm := zcP_inv hm
    obtain ⟨S1, v1, e1, hm⟩ := hm
    have k1 := hyR_ahead (X := X) (d := e + 4) e1
    refine go_call (m' := 15) (as := [.ref th, .int 0]) (rest := [va_rf p1]) (v := some (.int v1)) (h1 := zhp S1) rfl (by simp only [ie_step, ie_iv, List.drop, zhp_obj (S := S) b2 (by decide)]; cases p1 <;> rfl) ⟨rfl, Nat.le_of_ble_eq_true rfl⟩ k1 ?_
    refine go_run 0 (F' := (18, [some (.ref th), some (va_rf p1), some (.int x2)], [.int v1, va_rf p1], zhp S1)) rfl ?_
    refine go_run 1 (F' := (20, [some (.ref th), some (va_rf p1), some (.int x2)], [.int 63, .int v1, va_rf p1], zhp S1)) rfl ?_
    refine go_step rfl rfl ?_
    by_cases q3 : v1 = 63
    · rw [if_pos q3] at hm ⊢
      refine go_run 0 (F' := (23, [some (.ref th), some (va_rf p1), some (.int x2)], [va_rf p1], zhp S1)) rfl ?_
      refine go_run 2 (F' := (30, [some (.ref th), some (va_rf p1), some (.int x2)], [.int 6, va_rf p1], zhp S1)) rfl ?_
      replace hm := zob_inv hm
      obtain ⟨a2, rfl, hm⟩ := hm
      replace hm := zgd hm
      obtain ⟨b4, hm⟩ := hm
      refine go_hpI rfl b4 (by decide) rfl (Nat.le_of_ble_eq_true rfl) fs_9_1 ?_
      refine go_run 2 (F' := (35, [some (.ref th), some (.ref a2), some (.int x2)], [.ref th, .ref th], zhp (szI S1 1 a2 6))) rfl ?_
      replace hm := zgd hm
      obtain ⟨b5, hm⟩ := hm
      refine go_hg (v := .int (zI S1 2 th)) rfl b5 (by decide) rfl ?_
      refine go_run 2 (F' := (40, [some (.ref th), some (.ref a2), some (.int x2)], [.int ((zI S1 2 th) + 1), .ref th], zhp (szI S1 1 a2 6))) rfl ?_
      refine go_hpI rfl b5 (by decide) rfl (Nat.le_of_ble_eq_true rfl) fs_5_2 ?_
      refine go_run 2 (F' := (45, [some (.ref th), some (.ref a2), some (.int x2)], [.ref th, .ref a2], zhp (szI (szI S1 1 a2 6) 2 th ((zI S1 2 th) + 1)))) rfl ?_
      replace hm := zcP_inv hm
      obtain ⟨S3, v3, e3, hm⟩ := hm
      have k3 := hyR_readExpression (X := X) (d := e + 2) e3
      refine go_call (m' := 23) (as := [.ref th]) (rest := [.ref a2]) (v := some (.long v3)) (h1 := zhp S3) rfl (by simp only [ie_step, ie_iv, List.drop, zhp_obj (S := szI (szI S1 1 a2 6) 2 th ((zI S1 2 th) + 1)) b5 (by decide)]; rfl) ⟨rfl, Nat.le_of_ble_eq_true rfl⟩ k3 ?_
      refine go_run 0 (F' := (48, [some (.ref th), some (.ref a2), some (.int x2)], [.long v3, .ref a2], zhp S3)) rfl ?_
      refine go_run 0 (F' := (48, [some (.ref th), some (.ref a2), some (.int x2)], [.long v3, .ref a2], zhp S3)) rfl ?_
      replace hm := zgd hm
      obtain ⟨b6, hm⟩ := hm
      refine go_hpL rfl b6 (by decide) rfl (Nat.le_of_ble_eq_true rfl) fs_9_6 ?_
      refine go_run 5 (F' := (56, [some (.ref th), some (.ref a2), some (.int x2)], [.int (x2 + 1), .ref th, .ref a2], zhp (szL S3 a2 v3))) rfl ?_
      replace hm := zgd hm
      obtain ⟨b7, hm⟩ := hm
      replace hm := zcP_inv hm
      obtain ⟨S4, o4, e4, hm⟩ := hm
      have k4 := hyR_readBlock (X := X) hrc e4
      refine go_call (m' := 29) (as := [.ref th, .int (x2 + 1)]) (rest := [.ref a2]) (v := some (va_rf o4)) (h1 := zhp S4) rfl (by simp only [ie_step, ie_iv, List.drop, zhp_obj (S := szL S3 a2 v3) b7 (by decide)]; rfl) ⟨rfl, Nat.le_of_ble_eq_true rfl⟩ k4 ?_
      refine go_run 0 (F' := (59, [some (.ref th), some (.ref a2), some (.int x2)], [va_rf o4, .ref a2], zhp S4)) rfl ?_
      refine go_run 0 (F' := (59, [some (.ref th), some (.ref a2), some (.int x2)], [va_rf o4, .ref a2], zhp S4)) rfl ?_
      replace hm := zgd hm
      obtain ⟨b8, hm⟩ := hm
      refine go_hpR (v := o4) rfl b8 (by decide) (by cases o4 <;> rfl) (Nat.le_of_ble_eq_true rfl) fs_9_7 ?_
      refine go_run 1 (F' := (63, [some (.ref th), some (.ref a2), some (.int x2)], [.ref a2], zhp (szR S4 7 a2 o4))) rfl ?_
      refine go_hg (v := .int (zI S4 1 a2)) rfl b8 (by decide) rfl ?_
      refine go_run 1 (F' := (68, [some (.ref th), some (.ref a2), some (.int x2)], [.int 6, .int (zI S4 1 a2)], zhp (szR S4 7 a2 o4))) rfl ?_
      refine go_step rfl rfl ?_
      by_cases q9 : zI S4 1 a2 = 6
      · rw [if_pos q9] at hm ⊢
        refine go_run 0 (F' := (71, [some (.ref th), some (.ref a2), some (.int x2)], [], zhp (szR S4 7 a2 o4))) rfl ?_
        refine go_run 5 (F' := (76, [some (.ref th), some (.ref a2), some (.int x2)], [.int (x2 + 1), .ref th, .ref a2], zhp (szR S4 7 a2 o4))) rfl ?_
        replace hm := zgd hm
        obtain ⟨b10, hm⟩ := hm
        replace hm := zcP_inv hm
        obtain ⟨S5, o5, e5, hm⟩ := hm
        have k5 := hyR_readBlock (X := X) hrc e5
        refine go_call (m' := 29) (as := [.ref th, .int (x2 + 1)]) (rest := [.ref a2]) (v := some (va_rf o5)) (h1 := zhp S5) rfl (by simp only [ie_step, ie_iv, List.drop, zhp_obj (S := szR S4 7 a2 o4) b10 (by decide)]; rfl) ⟨rfl, Nat.le_of_ble_eq_true rfl⟩ k5 ?_
        refine go_run 0 (F' := (79, [some (.ref th), some (.ref a2), some (.int x2)], [va_rf o5, .ref a2], zhp S5)) rfl ?_
        refine go_run 0 (F' := (79, [some (.ref th), some (.ref a2), some (.int x2)], [va_rf o5, .ref a2], zhp S5)) rfl ?_
        replace hm := zgd hm
        obtain ⟨b11, hm⟩ := hm
        refine go_hpR (v := o5) rfl b11 (by decide) (by cases o5 <;> rfl) (Nat.le_of_ble_eq_true rfl) fs_9_8 ?_
        refine go_run 0 (F' := (82, [some (.ref th), some (.ref a2), some (.int x2)], [], zhp (szR S5 8 a2 o5))) rfl ?_
        cases hm
        exact go_end rfl rfl
      · rw [if_neg q9] at hm ⊢
        refine go_run 0 (F' := (82, [some (.ref th), some (.ref a2), some (.int x2)], [], zhp (szR S4 7 a2 o4))) rfl ?_
        refine go_run 0 (F' := (82, [some (.ref th), some (.ref a2), some (.int x2)], [], zhp (szR S4 7 a2 o4))) rfl ?_
        cases hm
        exact go_end rfl rfl
    · rw [if_neg q3] at hm ⊢
      refine go_run 0 (F' := (28, [some (.ref th), some (va_rf p1), some (.int x2)], [va_rf p1], zhp S1)) rfl ?_
      refine go_run 1 (F' := (30, [some (.ref th), some (va_rf p1), some (.int x2)], [.int 7, va_rf p1], zhp S1)) rfl ?_
      replace hm := zob_inv hm
      obtain ⟨a6, rfl, hm⟩ := hm
      replace hm := zgd hm
      obtain ⟨b12, hm⟩ := hm
      refine go_hpI rfl b12 (by decide) rfl (Nat.le_of_ble_eq_true rfl) fs_9_1 ?_
      refine go_run 2 (F' := (35, [some (.ref th), some (.ref a6), some (.int x2)], [.ref th, .ref th], zhp (szI S1 1 a6 7))) rfl ?_
      replace hm := zgd hm
      obtain ⟨b13, hm⟩ := hm
      refine go_hg (v := .int (zI S1 2 th)) rfl b13 (by decide) rfl ?_
      refine go_run 2 (F' := (40, [some (.ref th), some (.ref a6), some (.int x2)], [.int ((zI S1 2 th) + 1), .ref th], zhp (szI S1 1 a6 7))) rfl ?_
      refine go_hpI rfl b13 (by decide) rfl (Nat.le_of_ble_eq_true rfl) fs_5_2 ?_
      refine go_run 2 (F' := (45, [some (.ref th), some (.ref a6), some (.int x2)], [.ref th, .ref a6], zhp (szI (szI S1 1 a6 7) 2 th ((zI S1 2 th) + 1)))) rfl ?_
      replace hm := zcP_inv hm
      obtain ⟨S7, v7, e7, hm⟩ := hm
      have k7 := hyR_readExpression (X := X) (d := e + 2) e7
      refine go_call (m' := 23) (as := [.ref th]) (rest := [.ref a6]) (v := some (.long v7)) (h1 := zhp S7) rfl (by simp only [ie_step, ie_iv, List.drop, zhp_obj (S := szI (szI S1 1 a6 7) 2 th ((zI S1 2 th) + 1)) b13 (by decide)]; rfl) ⟨rfl, Nat.le_of_ble_eq_true rfl⟩ k7 ?_
      refine go_run 0 (F' := (48, [some (.ref th), some (.ref a6), some (.int x2)], [.long v7, .ref a6], zhp S7)) rfl ?_
      refine go_run 0 (F' := (48, [some (.ref th), some (.ref a6), some (.int x2)], [.long v7, .ref a6], zhp S7)) rfl ?_
      replace hm := zgd hm
      obtain ⟨b14, hm⟩ := hm
      refine go_hpL rfl b14 (by decide) rfl (Nat.le_of_ble_eq_true rfl) fs_9_6 ?_
      refine go_run 5 (F' := (56, [some (.ref th), some (.ref a6), some (.int x2)], [.int (x2 + 1), .ref th, .ref a6], zhp (szL S7 a6 v7))) rfl ?_
      replace hm := zgd hm
      obtain ⟨b15, hm⟩ := hm
      replace hm := zcP_inv hm
      obtain ⟨S8, o8, e8, hm⟩ := hm
      have k8 := hyR_readBlock (X := X) hrc e8
      refine go_call (m' := 29) (as := [.ref th, .int (x2 + 1)]) (rest := [.ref a6]) (v := some (va_rf o8)) (h1 := zhp S8) rfl (by simp only [ie_step, ie_iv, List.drop, zhp_obj (S := szL S7 a6 v7) b15 (by decide)]; rfl) ⟨rfl, Nat.le_of_ble_eq_true rfl⟩ k8 ?_
      refine go_run 0 (F' := (59, [some (.ref th), some (.ref a6), some (.int x2)], [va_rf o8, .ref a6], zhp S8)) rfl ?_
      refine go_run 0 (F' := (59, [some (.ref th), some (.ref a6), some (.int x2)], [va_rf o8, .ref a6], zhp S8)) rfl ?_
      replace hm := zgd hm
      obtain ⟨b16, hm⟩ := hm
      refine go_hpR (v := o8) rfl b16 (by decide) (by cases o8 <;> rfl) (Nat.le_of_ble_eq_true rfl) fs_9_7 ?_
      refine go_run 1 (F' := (63, [some (.ref th), some (.ref a6), some (.int x2)], [.ref a6], zhp (szR S8 7 a6 o8))) rfl ?_
      refine go_hg (v := .int (zI S8 1 a6)) rfl b16 (by decide) rfl ?_
      refine go_run 1 (F' := (68, [some (.ref th), some (.ref a6), some (.int x2)], [.int 6, .int (zI S8 1 a6)], zhp (szR S8 7 a6 o8))) rfl ?_
      refine go_step rfl rfl ?_
      by_cases q17 : zI S8 1 a6 = 6
      · rw [if_pos q17] at hm ⊢
        refine go_run 0 (F' := (71, [some (.ref th), some (.ref a6), some (.int x2)], [], zhp (szR S8 7 a6 o8))) rfl ?_
        refine go_run 5 (F' := (76, [some (.ref th), some (.ref a6), some (.int x2)], [.int (x2 + 1), .ref th, .ref a6], zhp (szR S8 7 a6 o8))) rfl ?_
        replace hm := zgd hm
        obtain ⟨b18, hm⟩ := hm
        replace hm := zcP_inv hm
        obtain ⟨S9, o9, e9, hm⟩ := hm
        have k9 := hyR_readBlock (X := X) hrc e9
        refine go_call (m' := 29) (as := [.ref th, .int (x2 + 1)]) (rest := [.ref a6]) (v := some (va_rf o9)) (h1 := zhp S9) rfl (by simp only [ie_step, ie_iv, List.drop, zhp_obj (S := szR S8 7 a6 o8) b18 (by decide)]; rfl) ⟨rfl, Nat.le_of_ble_eq_true rfl⟩ k9 ?_
        refine go_run 0 (F' := (79, [some (.ref th), some (.ref a6), some (.int x2)], [va_rf o9, .ref a6], zhp S9)) rfl ?_
        refine go_run 0 (F' := (79, [some (.ref th), some (.ref a6), some (.int x2)], [va_rf o9, .ref a6], zhp S9)) rfl ?_
        replace hm := zgd hm
        obtain ⟨b19, hm⟩ := hm
        refine go_hpR (v := o9) rfl b19 (by decide) (by cases o9 <;> rfl) (Nat.le_of_ble_eq_true rfl) fs_9_8 ?_
        refine go_run 0 (F' := (82, [some (.ref th), some (.ref a6), some (.int x2)], [], zhp (szR S9 8 a6 o9))) rfl ?_
        cases hm
        exact go_end rfl rfl
      · rw [if_neg q17] at hm ⊢
        refine go_run 0 (F' := (82, [some (.ref th), some (.ref a6), some (.int x2)], [], zhp (szR S8 7 a6 o8))) rfl ?_
        refine go_run 0 (F' := (82, [some (.ref th), some (.ref a6), some (.int x2)], [], zhp (szR S8 7 a6 o8))) rfl ?_
        cases hm
        exact go_end rfl rfl
  · rw [if_neg q1] at hm ⊢
    refine go_run 0 (F' := (6, [some (.ref th), some (va_rf p1), some (.int x2)], [], zhp S)) rfl ?_
    refine go_run 2 (F' := (8, [some (.ref th), some (va_rf p1), some (.int x2)], [.int 1, .ref th], zhp S)) rfl ?_
    replace hm := zgd hm
    obtain ⟨b20, hm⟩ := hm
    refine go_hpI rfl b20 (by decide) rfl (Nat.le_of_ble_eq_true rfl) fs_5_4 ?_
    refine go_run 0 (F' := (11, [some (.ref th), some (va_rf p1), some (.int x2)], [], zhp (szI S 4 th 1))) rfl ?_
    cases hm
    exact go_end rfl rfl
theorem ehyR_readBranches {th : Nat} {rc : hS → Nat → Int32 → Option (hS × Option Nat)} (hrc : ∀ {S : hS} {th : Nat} {z1 : Int32} {S' : hS} {r : Option Nat}, rc S th z1 = some (S', r) → Ex S S') {n : Nat} {S : hS} {p1 : Option Nat} {x2 : Int32} {S' : hS} (hm : yR_readBranches rc n S th p1 x2 = some S') : Ex S S' := by
  unfold yR_readBranches at hm
  have hx : Ex S S := Ex_r
  by_cases q1 : x2 < 6
  · rw [if_pos q1] at hm
    replace hm := zgd hm
    obtain ⟨b2, hm⟩ := hm
    replace hm := zcP_inv hm
    obtain ⟨S1, v1, e1, hm⟩ := hm
    have hx := Ex_t (T := S) hx (ehyR_ahead e1)
    by_cases q3 : v1 = 63
    · rw [if_pos q3] at hm
      replace hm := zob_inv hm
      obtain ⟨a2, rfl, hm⟩ := hm
      replace hm := zgd hm
      obtain ⟨b4, hm⟩ := hm
      replace hm := zgd hm
      obtain ⟨b5, hm⟩ := hm
      replace hm := zcP_inv hm
      obtain ⟨S3, v3, e3, hm⟩ := hm
      have hx := Ex_t (T := szI (szI S1 1 a2 6) 2 th ((zI S1 2 th) + 1)) hx (ehyR_readExpression e3)
      replace hm := zgd hm
      obtain ⟨b6, hm⟩ := hm
      replace hm := zgd hm
      obtain ⟨b7, hm⟩ := hm
      replace hm := zcP_inv hm
      obtain ⟨S4, o4, e4, hm⟩ := hm
      have hx := Ex_t (T := szL S3 a2 v3) hx (ehyR_readBlock hrc e4)
      replace hm := zgd hm
      obtain ⟨b8, hm⟩ := hm
      by_cases q9 : zI S4 1 a2 = 6
      · rw [if_pos q9] at hm
        replace hm := zgd hm
        obtain ⟨b10, hm⟩ := hm
        replace hm := zcP_inv hm
        obtain ⟨S5, o5, e5, hm⟩ := hm
        have hx := Ex_t (T := szR S4 7 a2 o4) hx (ehyR_readBlock hrc e5)
        replace hm := zgd hm
        obtain ⟨b11, hm⟩ := hm
        cases hm
        exact hx
      · rw [if_neg q9] at hm
        cases hm
        exact hx
    · rw [if_neg q3] at hm
      replace hm := zob_inv hm
      obtain ⟨a6, rfl, hm⟩ := hm
      replace hm := zgd hm
      obtain ⟨b12, hm⟩ := hm
      replace hm := zgd hm
      obtain ⟨b13, hm⟩ := hm
      replace hm := zcP_inv hm
      obtain ⟨S7, v7, e7, hm⟩ := hm
      have hx := Ex_t (T := szI (szI S1 1 a6 7) 2 th ((zI S1 2 th) + 1)) hx (ehyR_readExpression e7)
      replace hm := zgd hm
      obtain ⟨b14, hm⟩ := hm
      replace hm := zgd hm
      obtain ⟨b15, hm⟩ := hm
      replace hm := zcP_inv hm
      obtain ⟨S8, o8, e8, hm⟩ := hm
      have hx := Ex_t (T := szL S7 a6 v7) hx (ehyR_readBlock hrc e8)
      replace hm := zgd hm
      obtain ⟨b16, hm⟩ := hm
      by_cases q17 : zI S8 1 a6 = 6
      · rw [if_pos q17] at hm
        replace hm := zgd hm
        obtain ⟨b18, hm⟩ := hm
        replace hm := zcP_inv hm
        obtain ⟨S9, o9, e9, hm⟩ := hm
        have hx := Ex_t (T := szR S8 7 a6 o8) hx (ehyR_readBlock hrc e9)
        replace hm := zgd hm
        obtain ⟨b19, hm⟩ := hm
        cases hm
        exact hx
      · rw [if_neg q17] at hm
        cases hm
        exact hx
  · rw [if_neg q1] at hm
    replace hm := zgd hm
    obtain ⟨b20, hm⟩ := hm
    cases hm
    exact hx
def yR_readStatement_121 (th : Nat) (rc : hS → Nat → Int32 → Option (hS × Option Nat)) (n : Nat) (S : hS) (p2 : Option Nat) : Option (hS × Option Nat) := (zob p2 fun a1 => (if ztg S a1 = 10 then (zlb (zR S 7 a1) fun o2 => (zcP (yR_occurringIn n S o2) fun S3 v3 => (if ztg S3 a1 = 10 then (zlb (zR S3 8 a1) fun o4 => (zcP (yR_occurringIn n S3 o4) fun S5 v5 => (if ztg S5 a1 = 10 then (some (szI S5 11 a1 ((((rd_bo (zI S 2 a1)) ||| (rd_bo (zI S 3 a1))) ||| v3) ||| v5), some a1)) else none))) else none))) else none))
theorem hyR_readStatement_121 {X : ie_X} {e th : Nat} {rc : hS → Nat → Int32 → Option (hS × Option Nat)} (hrc : ∀ {S : hS} {th : Nat} {z1 : Int32} {S' : hS} {r : Option Nat}, rc S th z1 = some (S', r) → Go X (e + 3) 13 (0, ie_en 13 [.ref th, .int z1], [], zhp S) (.inl (some (va_rf r))) (zhp S')) {n : Nat} {S : hS} {p2 : Option Nat} {u1 u3 : Option Value} {S' : hS} {r : Option Nat} (hm : yR_readStatement_121 th rc n S p2 = some (S', r)) : Go X (e + 6) 16 (121, [some (.ref th), u1, some (va_rf p2), u3], [], zhp S) (.inl (some (va_rf r))) (zhp S') := by
  unfold yR_readStatement_121 at hm
  refine go_run 0 (F' := (121, [some (.ref th), u1, some (va_rf p2), u3], [], zhp S)) rfl ?_
  refine go_run 0 (F' := (121, [some (.ref th), u1, some (va_rf p2), u3], [], zhp S)) rfl ?_
  refine go_al rfl rfl ?_
  refine go_run 0 (F' := (122, [some (.ref th), u1, some (va_rf p2), u3], [va_rf p2], zhp S)) rfl ?_
  refine go_al rfl rfl ?_
  refine go_run 0 (F' := (123, [some (.ref th), u1, some (va_rf p2), u3], [va_rf p2, va_rf p2], zhp S)) rfl ?_
  replace hm := zob_inv hm
  obtain ⟨a1, rfl, hm⟩ := hm
  replace hm := zgd hm
  obtain ⟨b1, hm⟩ := hm
  refine go_hg (v := .int (zI S 2 a1)) rfl b1 (by decide) rfl ?_
  refine go_run 0 (F' := (126, [some (.ref th), u1, some (.ref a1), u3], [.int (zI S 2 a1), .ref a1], zhp S)) rfl ?_
  refine go_call (m' := 32) (as := [.int (zI S 2 a1)]) (rest := [.ref a1]) (v := some (.int (rd_bo (zI S 2 a1)))) (h1 := zhp S) rfl rfl ⟨rfl, Nat.le_of_ble_eq_true rfl⟩ (rd_bitOf _) ?_
  refine go_run 0 (F' := (129, [some (.ref th), u1, some (.ref a1), u3], [.int (rd_bo (zI S 2 a1)), .ref a1], zhp S)) rfl ?_
  refine go_run 1 (F' := (130, [some (.ref th), u1, some (.ref a1), u3], [.ref a1, .int (rd_bo (zI S 2 a1)), .ref a1], zhp S)) rfl ?_
  refine go_hg (v := .int (zI S 3 a1)) rfl b1 (by decide) rfl ?_
  refine go_run 0 (F' := (133, [some (.ref th), u1, some (.ref a1), u3], [.int (zI S 3 a1), .int (rd_bo (zI S 2 a1)), .ref a1], zhp S)) rfl ?_
  refine go_call (m' := 32) (as := [.int (zI S 3 a1)]) (rest := [.int (rd_bo (zI S 2 a1)), .ref a1]) (v := some (.int (rd_bo (zI S 3 a1)))) (h1 := zhp S) rfl rfl ⟨rfl, Nat.le_of_ble_eq_true rfl⟩ (rd_bitOf _) ?_
  refine go_run 0 (F' := (136, [some (.ref th), u1, some (.ref a1), u3], [.int (rd_bo (zI S 3 a1)), .int (rd_bo (zI S 2 a1)), .ref a1], zhp S)) rfl ?_
  refine go_run 2 (F' := (138, [some (.ref th), u1, some (.ref a1), u3], [.ref a1, .int ((rd_bo (zI S 2 a1)) ||| (rd_bo (zI S 3 a1))), .ref a1], zhp S)) rfl ?_
  replace hm := zlb_inv hm
  obtain ⟨o2, eo2, hm⟩ := hm
  refine go_hg (v := va_rf o2) rfl b1 (by decide) (by rw [← eo2]; rfl) ?_
  refine go_run 0 (F' := (141, [some (.ref th), u1, some (.ref a1), u3], [va_rf o2, .int ((rd_bo (zI S 2 a1)) ||| (rd_bo (zI S 3 a1))), .ref a1], zhp S)) rfl ?_
  replace hm := zcP_inv hm
  obtain ⟨S3, v3, e3, hm⟩ := hm
  have k3 := hyR_occurringIn (X := X) (d := e + 5) e3
  refine go_call (m' := 34) (as := [va_rf o2]) (rest := [.int ((rd_bo (zI S 2 a1)) ||| (rd_bo (zI S 3 a1))), .ref a1]) (v := some (.int v3)) (h1 := zhp S3) rfl rfl ⟨by cases o2 <;> rfl, by cases o2 <;> exact Nat.le_of_ble_eq_true rfl⟩ k3 ?_
  refine go_run 0 (F' := (144, [some (.ref th), u1, some (.ref a1), u3], [.int v3, .int ((rd_bo (zI S 2 a1)) ||| (rd_bo (zI S 3 a1))), .ref a1], zhp S3)) rfl ?_
  refine go_run 2 (F' := (146, [some (.ref th), u1, some (.ref a1), u3], [.ref a1, .int (((rd_bo (zI S 2 a1)) ||| (rd_bo (zI S 3 a1))) ||| v3), .ref a1], zhp S3)) rfl ?_
  replace hm := zgd hm
  obtain ⟨b2, hm⟩ := hm
  replace hm := zlb_inv hm
  obtain ⟨o4, eo4, hm⟩ := hm
  refine go_hg (v := va_rf o4) rfl b2 (by decide) (by rw [← eo4]; rfl) ?_
  refine go_run 0 (F' := (149, [some (.ref th), u1, some (.ref a1), u3], [va_rf o4, .int (((rd_bo (zI S 2 a1)) ||| (rd_bo (zI S 3 a1))) ||| v3), .ref a1], zhp S3)) rfl ?_
  replace hm := zcP_inv hm
  obtain ⟨S5, v5, e5, hm⟩ := hm
  have k5 := hyR_occurringIn (X := X) (d := e + 5) e5
  refine go_call (m' := 34) (as := [va_rf o4]) (rest := [.int (((rd_bo (zI S 2 a1)) ||| (rd_bo (zI S 3 a1))) ||| v3), .ref a1]) (v := some (.int v5)) (h1 := zhp S5) rfl rfl ⟨by cases o4 <;> rfl, by cases o4 <;> exact Nat.le_of_ble_eq_true rfl⟩ k5 ?_
  refine go_run 0 (F' := (152, [some (.ref th), u1, some (.ref a1), u3], [.int v5, .int (((rd_bo (zI S 2 a1)) ||| (rd_bo (zI S 3 a1))) ||| v3), .ref a1], zhp S5)) rfl ?_
  refine go_run 1 (F' := (153, [some (.ref th), u1, some (.ref a1), u3], [.int ((((rd_bo (zI S 2 a1)) ||| (rd_bo (zI S 3 a1))) ||| v3) ||| v5), .ref a1], zhp S5)) rfl ?_
  replace hm := zgd hm
  obtain ⟨b3, hm⟩ := hm
  refine go_hpI rfl b3 (by decide) rfl (Nat.le_of_ble_eq_true rfl) fs_9_11 ?_
  refine go_run 1 (F' := (157, [some (.ref th), u1, some (.ref a1), u3], [.ref a1], zhp (szI S5 11 a1 ((((rd_bo (zI S 2 a1)) ||| (rd_bo (zI S 3 a1))) ||| v3) ||| v5)))) rfl ?_
  cases hm
  exact go_end rfl rfl
theorem ehyR_readStatement_121 {th : Nat} {rc : hS → Nat → Int32 → Option (hS × Option Nat)} (hrc : ∀ {S : hS} {th : Nat} {z1 : Int32} {S' : hS} {r : Option Nat}, rc S th z1 = some (S', r) → Ex S S') {n : Nat} {S : hS} {p2 : Option Nat} {S' : hS} {r : Option Nat} (hm : yR_readStatement_121 th rc n S p2 = some (S', r)) : Ex S S' := by
  unfold yR_readStatement_121 at hm
  have hx : Ex S S := Ex_r
  replace hm := zob_inv hm
  obtain ⟨a1, rfl, hm⟩ := hm
  replace hm := zgd hm
  obtain ⟨b1, hm⟩ := hm
  replace hm := zlb_inv hm
  obtain ⟨o2, eo2, hm⟩ := hm
  replace hm := zcP_inv hm
  obtain ⟨S3, v3, e3, hm⟩ := hm
  have hx := Ex_t (T := S) hx (ehyR_occurringIn e3)
  replace hm := zgd hm
  obtain ⟨b2, hm⟩ := hm
  replace hm := zlb_inv hm
  obtain ⟨o4, eo4, hm⟩ := hm
  replace hm := zcP_inv hm
  obtain ⟨S5, v5, e5, hm⟩ := hm
  have hx := Ex_t (T := S3) hx (ehyR_occurringIn e5)
  replace hm := zgd hm
  obtain ⟨b3, hm⟩ := hm
  cases hm
  exact hx
def yR_readStatement_116 (th : Nat) (rc : hS → Nat → Int32 → Option (hS × Option Nat)) (n : Nat) (S : hS) (p2 : Option Nat) : Option (hS × Option Nat) := (if ztg S th = 6 then (zcV (yR_readSend n S th p2) fun S1 => (yR_readStatement_121 th rc n S1 p2)) else none)
theorem hyR_readStatement_116 {X : ie_X} {e th : Nat} {rc : hS → Nat → Int32 → Option (hS × Option Nat)} (hrc : ∀ {S : hS} {th : Nat} {z1 : Int32} {S' : hS} {r : Option Nat}, rc S th z1 = some (S', r) → Go X (e + 3) 13 (0, ie_en 13 [.ref th, .int z1], [], zhp S) (.inl (some (va_rf r))) (zhp S')) {n : Nat} {S : hS} {p2 : Option Nat} {u1 u3 : Option Value} {S' : hS} {r : Option Nat} (hm : yR_readStatement_116 th rc n S p2 = some (S', r)) : Go X (e + 6) 16 (116, [some (.ref th), u1, some (va_rf p2), u3], [], zhp S) (.inl (some (va_rf r))) (zhp S') := by
  unfold yR_readStatement_116 at hm
  refine go_run 0 (F' := (116, [some (.ref th), u1, some (va_rf p2), u3], [], zhp S)) rfl ?_
  refine go_run 1 (F' := (117, [some (.ref th), u1, some (va_rf p2), u3], [.ref th], zhp S)) rfl ?_
  refine go_al rfl rfl ?_
  refine go_run 0 (F' := (118, [some (.ref th), u1, some (va_rf p2), u3], [va_rf p2, .ref th], zhp S)) rfl ?_
  replace hm := zgd hm
  obtain ⟨b1, hm⟩ := hm
  replace hm := zcV_inv hm
  obtain ⟨S1, e1, hm⟩ := hm
  have k1 := hyR_readSend (X := X) (d := e + 2) e1
  refine go_call (m' := 31) (as := [.ref th, va_rf p2]) (rest := []) (v := none) (h1 := zhp S1) rfl (by simp only [ie_step, ie_iv, List.drop, zhp_obj (S := S) b1 (by decide)]; rfl) ⟨by cases p2 <;> rfl, by cases p2 <;> exact Nat.le_of_ble_eq_true rfl⟩ k1 ?_
  refine go_run 0 (F' := (121, [some (.ref th), u1, some (va_rf p2), u3], [], zhp S1)) rfl ?_
  refine go_run 0 (F' := (121, [some (.ref th), u1, some (va_rf p2), u3], [], zhp S1)) rfl ?_
  exact hyR_readStatement_121 hrc hm
theorem ehyR_readStatement_116 {th : Nat} {rc : hS → Nat → Int32 → Option (hS × Option Nat)} (hrc : ∀ {S : hS} {th : Nat} {z1 : Int32} {S' : hS} {r : Option Nat}, rc S th z1 = some (S', r) → Ex S S') {n : Nat} {S : hS} {p2 : Option Nat} {S' : hS} {r : Option Nat} (hm : yR_readStatement_116 th rc n S p2 = some (S', r)) : Ex S S' := by
  unfold yR_readStatement_116 at hm
  have hx : Ex S S := Ex_r
  replace hm := zgd hm
  obtain ⟨b1, hm⟩ := hm
  replace hm := zcV_inv hm
  obtain ⟨S1, e1, hm⟩ := hm
  have hx := Ex_t (T := S) hx (ehyR_readSend e1)
  refine Ex_t ?_ (ehyR_readStatement_121 hrc hm)
  exact hx
def yR_readStatement_82 (th : Nat) (rc : hS → Nat → Int32 → Option (hS × Option Nat)) (n : Nat) (S : hS) (l1 : Int32) (p2 : Option Nat) : Option (hS × Option Nat) := (if ztg S th = 6 then (zcV (yR_readBranches rc n S th p2 l1) fun S1 => (yR_readStatement_121 th rc n S1 p2)) else none)
theorem hyR_readStatement_82 {X : ie_X} {e th : Nat} {rc : hS → Nat → Int32 → Option (hS × Option Nat)} (hrc : ∀ {S : hS} {th : Nat} {z1 : Int32} {S' : hS} {r : Option Nat}, rc S th z1 = some (S', r) → Go X (e + 3) 13 (0, ie_en 13 [.ref th, .int z1], [], zhp S) (.inl (some (va_rf r))) (zhp S')) {n : Nat} {S : hS} {l1 : Int32} {p2 : Option Nat} {u3 : Option Value} {S' : hS} {r : Option Nat} (hm : yR_readStatement_82 th rc n S l1 p2 = some (S', r)) : Go X (e + 6) 16 (82, [some (.ref th), some (.int l1), some (va_rf p2), u3], [], zhp S) (.inl (some (va_rf r))) (zhp S') := by
  unfold yR_readStatement_82 at hm
  refine go_run 0 (F' := (82, [some (.ref th), some (.int l1), some (va_rf p2), u3], [], zhp S)) rfl ?_
  refine go_run 1 (F' := (83, [some (.ref th), some (.int l1), some (va_rf p2), u3], [.ref th], zhp S)) rfl ?_
  refine go_al rfl rfl ?_
  refine go_run 1 (F' := (85, [some (.ref th), some (.int l1), some (va_rf p2), u3], [.int l1, va_rf p2, .ref th], zhp S)) rfl ?_
  replace hm := zgd hm
  obtain ⟨b1, hm⟩ := hm
  replace hm := zcV_inv hm
  obtain ⟨S1, e1, hm⟩ := hm
  have k1 := hyR_readBranches (X := X) hrc e1
  refine go_call (m' := 22) (as := [.ref th, va_rf p2, .int l1]) (rest := []) (v := none) (h1 := zhp S1) rfl (by simp only [ie_step, ie_iv, List.drop, zhp_obj (S := S) b1 (by decide)]; rfl) ⟨by cases p2 <;> rfl, by cases p2 <;> exact Nat.le_of_ble_eq_true rfl⟩ k1 ?_
  refine go_run 0 (F' := (88, [some (.ref th), some (.int l1), some (va_rf p2), u3], [], zhp S1)) rfl ?_
  refine go_run 1 (F' := (121, [some (.ref th), some (.int l1), some (va_rf p2), u3], [], zhp S1)) rfl ?_
  exact hyR_readStatement_121 hrc hm
theorem ehyR_readStatement_82 {th : Nat} {rc : hS → Nat → Int32 → Option (hS × Option Nat)} (hrc : ∀ {S : hS} {th : Nat} {z1 : Int32} {S' : hS} {r : Option Nat}, rc S th z1 = some (S', r) → Ex S S') {n : Nat} {S : hS} {l1 : Int32} {p2 : Option Nat} {S' : hS} {r : Option Nat} (hm : yR_readStatement_82 th rc n S l1 p2 = some (S', r)) : Ex S S' := by
  unfold yR_readStatement_82 at hm
  have hx : Ex S S := Ex_r
  replace hm := zgd hm
  obtain ⟨b1, hm⟩ := hm
  replace hm := zcV_inv hm
  obtain ⟨S1, e1, hm⟩ := hm
  have hx := Ex_t (T := S) hx (ehyR_readBranches hrc e1)
  refine Ex_t ?_ (ehyR_readStatement_121 hrc hm)
  exact hx
def yR_readStatement (rc : hS → Nat → Int32 → Option (hS × Option Nat)) (n : Nat) (S : hS) (th : Nat) (x1 : Int32) : Option (hS × Option Nat) := (znw S 9 fun S1 a1 => (if ztg S1 th = 6 then (zcV (yS_new S1 a1 (zI S1 2 th)) fun S2 => (if ztg S2 th = 6 then (if zI S2 3 th = 40 then (some (szI S2 4 th 1, some a1)) else (zcP (yR_readOneOf (szI S2 3 th ((zI S2 3 th) + 1)) th 65 6) fun S3 v3 => (if ztg S3 a1 = 10 then (if ztg S3 th = 6 then (zcP (yR_ahead (szI S3 2 a1 v3) th 0) fun S4 v4 => (if v4 = 33 then (if ztg S4 th = 6 then (zcV (yR_readTell S4 th (some a1)) fun S5 => (yR_readStatement_121 th rc n S5 (some a1))) else none) else (if v4 = 63 then (yR_readStatement_82 th rc n S4 x1 (some a1)) else (if v4 = 64 then (yR_readStatement_82 th rc n S4 x1 (some a1)) else (if ty_b (rd_var v4) = 0 then (yR_readStatement_116 th rc n S4 (some a1)) else (if ztg S4 th = 6 then (zcP (yR_ahead S4 th 1) fun S6 v6 => (if v6 = 58 then (if ztg S6 th = 6 then (zcV (yR_readSet n S6 th (some a1)) fun S7 => (yR_readStatement_121 th rc n S7 (some a1))) else none) else (yR_readStatement_116 th rc n S6 (some a1)))) else none)))))) else none) else none))) else none)) else none))
theorem hyR_readStatement {X : ie_X} {e th : Nat} {rc : hS → Nat → Int32 → Option (hS × Option Nat)} (hrc : ∀ {S : hS} {th : Nat} {z1 : Int32} {S' : hS} {r : Option Nat}, rc S th z1 = some (S', r) → Go X (e + 3) 13 (0, ie_en 13 [.ref th, .int z1], [], zhp S) (.inl (some (va_rf r))) (zhp S')) {n : Nat} {S : hS} {x1 : Int32} {S' : hS} {r : Option Nat} (hm : yR_readStatement rc n S th x1 = some (S', r)) : Go X (e + 6) 16 (0, ie_en 16 [.ref th, .int x1], [], zhp S) (.inl (some (va_rf r))) (zhp S') := by
  unfold yR_readStatement at hm
  refine go_run 0 (F' := (0, [some (.ref th), some (.int x1), none, none], [], zhp S)) rfl ?_
  refine go_run 0 (F' := (0, [some (.ref th), some (.int x1), none, none], [], zhp S)) rfl ?_
  replace hm := znw_inv hm
  obtain ⟨S1, a1, eS1, ea1, hm⟩ := hm
  refine go_hnew rfl (by decide) rfl eS1 ea1 ?_
  refine go_run 2 (F' := (5, [some (.ref th), some (.int x1), none, none], [.ref th, .ref a1, .ref a1], zhp S1)) rfl ?_
  replace hm := zgd hm
  obtain ⟨b1, hm⟩ := hm
  refine go_hg (v := .int (zI S1 2 th)) rfl b1 (by decide) rfl ?_
  refine go_run 0 (F' := (8, [some (.ref th), some (.int x1), none, none], [.int (zI S1 2 th), .ref a1, .ref a1], zhp S1)) rfl ?_
  replace hm := zcV_inv hm
  obtain ⟨S2, e2, hm⟩ := hm
  have k2 := hyS_new (X := X) (d := e + 5) e2
  refine go_call (m' := 17) (as := [.ref a1, .int (zI S1 2 th)]) (rest := [.ref a1]) (v := none) (h1 := zhp S2) rfl rfl ⟨rfl, Nat.le_of_ble_eq_true rfl⟩ k2 ?_
  refine go_run 0 (F' := (11, [some (.ref th), some (.int x1), none, none], [.ref a1], zhp S2)) rfl ?_
  refine go_run 2 (F' := (13, [some (.ref th), some (.int x1), some (.ref a1), none], [.ref th], zhp S2)) rfl ?_
  replace hm := zgd hm
  obtain ⟨b2, hm⟩ := hm
  refine go_hg (v := .int (zI S2 3 th)) rfl b2 (by decide) rfl ?_
  refine go_run 1 (F' := (18, [some (.ref th), some (.int x1), some (.ref a1), none], [.int 40, .int (zI S2 3 th)], zhp S2)) rfl ?_
  refine go_step rfl rfl ?_
  by_cases q3 : zI S2 3 th = 40
  · rw [if_pos q3] at hm ⊢
    refine go_run 0 (F' := (21, [some (.ref th), some (.int x1), some (.ref a1), none], [], zhp S2)) rfl ?_
    refine go_run 2 (F' := (23, [some (.ref th), some (.int x1), some (.ref a1), none], [.int 1, .ref th], zhp S2)) rfl ?_
    refine go_hpI rfl b2 (by decide) rfl (Nat.le_of_ble_eq_true rfl) fs_5_4 ?_
    refine go_run 1 (F' := (27, [some (.ref th), some (.int x1), some (.ref a1), none], [.ref a1], zhp (szI S2 4 th 1))) rfl ?_
    cases hm
    exact go_end rfl rfl
  · rw [if_neg q3] at hm ⊢
    refine go_run 0 (F' := (28, [some (.ref th), some (.int x1), some (.ref a1), none], [], zhp S2)) rfl ?_
    refine go_run 2 (F' := (30, [some (.ref th), some (.int x1), some (.ref a1), none], [.ref th, .ref th], zhp S2)) rfl ?_
    refine go_hg (v := .int (zI S2 3 th)) rfl b2 (by decide) rfl ?_
    refine go_run 2 (F' := (35, [some (.ref th), some (.int x1), some (.ref a1), none], [.int ((zI S2 3 th) + 1), .ref th], zhp S2)) rfl ?_
    refine go_hpI rfl b2 (by decide) rfl (Nat.le_of_ble_eq_true rfl) fs_5_3 ?_
    refine go_run 4 (F' := (44, [some (.ref th), some (.int x1), some (.ref a1), none], [.int 6, .int 65, .ref th, .ref a1], zhp (szI S2 3 th ((zI S2 3 th) + 1)))) rfl ?_
    replace hm := zcP_inv hm
    obtain ⟨S3, v3, e3, hm⟩ := hm
    have k3 := hyR_readOneOf (X := X) (d := e + 4) e3
    refine go_call (m' := 18) (as := [.ref th, .int 65, .int 6]) (rest := [.ref a1]) (v := some (.int v3)) (h1 := zhp S3) rfl (by simp only [ie_step, ie_iv, List.drop, zhp_obj (S := szI S2 3 th ((zI S2 3 th) + 1)) b2 (by decide)]; rfl) ⟨rfl, Nat.le_of_ble_eq_true rfl⟩ k3 ?_
    refine go_run 0 (F' := (47, [some (.ref th), some (.int x1), some (.ref a1), none], [.int v3, .ref a1], zhp S3)) rfl ?_
    refine go_run 0 (F' := (47, [some (.ref th), some (.int x1), some (.ref a1), none], [.int v3, .ref a1], zhp S3)) rfl ?_
    replace hm := zgd hm
    obtain ⟨b4, hm⟩ := hm
    refine go_hpI rfl b4 (by decide) rfl (Nat.le_of_ble_eq_true rfl) fs_9_2 ?_
    refine go_run 2 (F' := (52, [some (.ref th), some (.int x1), some (.ref a1), none], [.int 0, .ref th], zhp (szI S3 2 a1 v3))) rfl ?_
    replace hm := zgd hm
    obtain ⟨b5, hm⟩ := hm
    replace hm := zcP_inv hm
    obtain ⟨S4, v4, e4, hm⟩ := hm
    have k4 := hyR_ahead (X := X) (d := e + 5) e4
    refine go_call (m' := 15) (as := [.ref th, .int 0]) (rest := []) (v := some (.int v4)) (h1 := zhp S4) rfl (by simp only [ie_step, ie_iv, List.drop, zhp_obj (S := szI S3 2 a1 v3) b5 (by decide)]; rfl) ⟨rfl, Nat.le_of_ble_eq_true rfl⟩ k4 ?_
    refine go_run 0 (F' := (55, [some (.ref th), some (.int x1), some (.ref a1), none], [.int v4], zhp S4)) rfl ?_
    refine go_run 3 (F' := (59, [some (.ref th), some (.int x1), some (.ref a1), some (.int v4)], [.int 33, .int v4], zhp S4)) rfl ?_
    refine go_step rfl rfl ?_
    by_cases q6 : v4 = 33
    · rw [if_pos q6] at hm ⊢
      refine go_run 0 (F' := (62, [some (.ref th), some (.int x1), some (.ref a1), some (.int v4)], [], zhp S4)) rfl ?_
      refine go_run 2 (F' := (64, [some (.ref th), some (.int x1), some (.ref a1), some (.int v4)], [.ref a1, .ref th], zhp S4)) rfl ?_
      replace hm := zgd hm
      obtain ⟨b7, hm⟩ := hm
      replace hm := zcV_inv hm
      obtain ⟨S5, e5, hm⟩ := hm
      have k5 := hyR_readTell (X := X) (d := e + 2) e5
      refine go_call (m' := 19) (as := [.ref th, .ref a1]) (rest := []) (v := none) (h1 := zhp S5) rfl (by simp only [ie_step, ie_iv, List.drop, zhp_obj (S := S4) b7 (by decide)]; rfl) ⟨rfl, Nat.le_of_ble_eq_true rfl⟩ k5 ?_
      refine go_run 0 (F' := (67, [some (.ref th), some (.int x1), some (.ref a1), some (.int v4)], [], zhp S5)) rfl ?_
      refine go_run 1 (F' := (121, [some (.ref th), some (.int x1), some (va_rf (some a1)), some (.int v4)], [], zhp S5)) rfl ?_
      exact hyR_readStatement_121 hrc hm
    · rw [if_neg q6] at hm ⊢
      refine go_run 0 (F' := (70, [some (.ref th), some (.int x1), some (.ref a1), some (.int v4)], [], zhp S4)) rfl ?_
      refine go_run 2 (F' := (73, [some (.ref th), some (.int x1), some (.ref a1), some (.int v4)], [.int 63, .int v4], zhp S4)) rfl ?_
      refine go_step rfl rfl ?_
      by_cases q8 : v4 = 63
      · rw [if_pos q8] at hm ⊢
        refine go_run 0 (F' := (82, [some (.ref th), some (.int x1), some (.ref a1), some (.int v4)], [], zhp S4)) rfl ?_
        refine go_run 0 (F' := (82, [some (.ref th), some (.int x1), some (va_rf (some a1)), some (.int v4)], [], zhp S4)) rfl ?_
        exact hyR_readStatement_82 hrc hm
      · rw [if_neg q8] at hm ⊢
        refine go_run 0 (F' := (76, [some (.ref th), some (.int x1), some (.ref a1), some (.int v4)], [], zhp S4)) rfl ?_
        refine go_run 2 (F' := (79, [some (.ref th), some (.int x1), some (.ref a1), some (.int v4)], [.int 64, .int v4], zhp S4)) rfl ?_
        refine go_step rfl rfl ?_
        by_cases q9 : v4 = 64
        · rw [if_pos q9] at hm ⊢
          refine go_run 0 (F' := (82, [some (.ref th), some (.int x1), some (.ref a1), some (.int v4)], [], zhp S4)) rfl ?_
          refine go_run 0 (F' := (82, [some (.ref th), some (.int x1), some (va_rf (some a1)), some (.int v4)], [], zhp S4)) rfl ?_
          exact hyR_readStatement_82 hrc hm
        · rw [if_neg q9] at hm ⊢
          refine go_run 0 (F' := (91, [some (.ref th), some (.int x1), some (.ref a1), some (.int v4)], [], zhp S4)) rfl ?_
          refine go_run 1 (F' := (92, [some (.ref th), some (.int x1), some (.ref a1), some (.int v4)], [.int v4], zhp S4)) rfl ?_
          refine go_call (m' := 25) (as := [.int v4]) (rest := []) (v := some (.int (ty_b (rd_var v4)))) (h1 := zhp S4) rfl rfl ⟨rfl, Nat.le_of_ble_eq_true rfl⟩ (rd_isVar _) ?_
          refine go_run 0 (F' := (95, [some (.ref th), some (.int x1), some (.ref a1), some (.int v4)], [.int (ty_b (rd_var v4))], zhp S4)) rfl ?_
          refine go_run 0 (F' := (95, [some (.ref th), some (.int x1), some (.ref a1), some (.int v4)], [.int (ty_b (rd_var v4))], zhp S4)) rfl ?_
          refine go_step rfl rfl ?_
          by_cases q10 : ty_b (rd_var v4) = 0
          · rw [if_pos q10] at hm ⊢
            refine go_run 0 (F' := (116, [some (.ref th), some (.int x1), some (.ref a1), some (.int v4)], [], zhp S4)) rfl ?_
            refine go_run 0 (F' := (116, [some (.ref th), some (.int x1), some (va_rf (some a1)), some (.int v4)], [], zhp S4)) rfl ?_
            exact hyR_readStatement_116 hrc hm
          · rw [if_neg q10] at hm ⊢
            refine go_run 0 (F' := (98, [some (.ref th), some (.int x1), some (.ref a1), some (.int v4)], [], zhp S4)) rfl ?_
            refine go_run 2 (F' := (100, [some (.ref th), some (.int x1), some (.ref a1), some (.int v4)], [.int 1, .ref th], zhp S4)) rfl ?_
            replace hm := zgd hm
            obtain ⟨b11, hm⟩ := hm
            replace hm := zcP_inv hm
            obtain ⟨S6, v6, e6, hm⟩ := hm
            have k6 := hyR_ahead (X := X) (d := e + 5) e6
            refine go_call (m' := 15) (as := [.ref th, .int 1]) (rest := []) (v := some (.int v6)) (h1 := zhp S6) rfl (by simp only [ie_step, ie_iv, List.drop, zhp_obj (S := S4) b11 (by decide)]; rfl) ⟨rfl, Nat.le_of_ble_eq_true rfl⟩ k6 ?_
            refine go_run 0 (F' := (103, [some (.ref th), some (.int x1), some (.ref a1), some (.int v4)], [.int v6], zhp S6)) rfl ?_
            refine go_run 1 (F' := (105, [some (.ref th), some (.int x1), some (.ref a1), some (.int v4)], [.int 58, .int v6], zhp S6)) rfl ?_
            refine go_step rfl rfl ?_
            by_cases q12 : v6 = 58
            · rw [if_pos q12] at hm ⊢
              refine go_run 0 (F' := (108, [some (.ref th), some (.int x1), some (.ref a1), some (.int v4)], [], zhp S6)) rfl ?_
              refine go_run 2 (F' := (110, [some (.ref th), some (.int x1), some (.ref a1), some (.int v4)], [.ref a1, .ref th], zhp S6)) rfl ?_
              replace hm := zgd hm
              obtain ⟨b13, hm⟩ := hm
              replace hm := zcV_inv hm
              obtain ⟨S7, e7, hm⟩ := hm
              have k7 := hyR_readSet (X := X) (d := e + 2) e7
              refine go_call (m' := 30) (as := [.ref th, .ref a1]) (rest := []) (v := none) (h1 := zhp S7) rfl (by simp only [ie_step, ie_iv, List.drop, zhp_obj (S := S6) b13 (by decide)]; rfl) ⟨rfl, Nat.le_of_ble_eq_true rfl⟩ k7 ?_
              refine go_run 0 (F' := (113, [some (.ref th), some (.int x1), some (.ref a1), some (.int v4)], [], zhp S7)) rfl ?_
              refine go_run 1 (F' := (121, [some (.ref th), some (.int x1), some (va_rf (some a1)), some (.int v4)], [], zhp S7)) rfl ?_
              exact hyR_readStatement_121 hrc hm
            · rw [if_neg q12] at hm ⊢
              refine go_run 0 (F' := (116, [some (.ref th), some (.int x1), some (.ref a1), some (.int v4)], [], zhp S6)) rfl ?_
              refine go_run 0 (F' := (116, [some (.ref th), some (.int x1), some (va_rf (some a1)), some (.int v4)], [], zhp S6)) rfl ?_
              exact hyR_readStatement_116 hrc hm
theorem ehyR_readStatement {th : Nat} {rc : hS → Nat → Int32 → Option (hS × Option Nat)} (hrc : ∀ {S : hS} {th : Nat} {z1 : Int32} {S' : hS} {r : Option Nat}, rc S th z1 = some (S', r) → Ex S S') {n : Nat} {S : hS} {x1 : Int32} {S' : hS} {r : Option Nat} (hm : yR_readStatement rc n S th x1 = some (S', r)) : Ex S S' := by
  unfold yR_readStatement at hm
  have hx : Ex S S := Ex_r
  replace hm := znw_inv hm
  obtain ⟨S1, a1, eS1, ea1, hm⟩ := hm
  have hx := Ex_t (T := S) hx (Ex_n (by decide) eS1)
  replace hm := zgd hm
  obtain ⟨b1, hm⟩ := hm
  replace hm := zcV_inv hm
  obtain ⟨S2, e2, hm⟩ := hm
  have hx := Ex_t (T := S1) hx (ehyS_new e2)
  replace hm := zgd hm
  obtain ⟨b2, hm⟩ := hm
  by_cases q3 : zI S2 3 th = 40
  · rw [if_pos q3] at hm
    cases hm
    exact hx
  · rw [if_neg q3] at hm
    replace hm := zcP_inv hm
    obtain ⟨S3, v3, e3, hm⟩ := hm
    have hx := Ex_t (T := szI S2 3 th ((zI S2 3 th) + 1)) hx (ehyR_readOneOf e3)
    replace hm := zgd hm
    obtain ⟨b4, hm⟩ := hm
    replace hm := zgd hm
    obtain ⟨b5, hm⟩ := hm
    replace hm := zcP_inv hm
    obtain ⟨S4, v4, e4, hm⟩ := hm
    have hx := Ex_t (T := szI S3 2 a1 v3) hx (ehyR_ahead e4)
    by_cases q6 : v4 = 33
    · rw [if_pos q6] at hm
      replace hm := zgd hm
      obtain ⟨b7, hm⟩ := hm
      replace hm := zcV_inv hm
      obtain ⟨S5, e5, hm⟩ := hm
      have hx := Ex_t (T := S4) hx (ehyR_readTell e5)
      refine Ex_t ?_ (ehyR_readStatement_121 hrc hm)
      exact hx
    · rw [if_neg q6] at hm
      by_cases q8 : v4 = 63
      · rw [if_pos q8] at hm
        refine Ex_t ?_ (ehyR_readStatement_82 hrc hm)
        exact hx
      · rw [if_neg q8] at hm
        by_cases q9 : v4 = 64
        · rw [if_pos q9] at hm
          refine Ex_t ?_ (ehyR_readStatement_82 hrc hm)
          exact hx
        · rw [if_neg q9] at hm
          by_cases q10 : ty_b (rd_var v4) = 0
          · rw [if_pos q10] at hm
            refine Ex_t ?_ (ehyR_readStatement_116 hrc hm)
            exact hx
          · rw [if_neg q10] at hm
            replace hm := zgd hm
            obtain ⟨b11, hm⟩ := hm
            replace hm := zcP_inv hm
            obtain ⟨S6, v6, e6, hm⟩ := hm
            have hx := Ex_t (T := S4) hx (ehyR_ahead e6)
            by_cases q12 : v6 = 58
            · rw [if_pos q12] at hm
              replace hm := zgd hm
              obtain ⟨b13, hm⟩ := hm
              replace hm := zcV_inv hm
              obtain ⟨S7, e7, hm⟩ := hm
              have hx := Ex_t (T := S6) hx (ehyR_readSet e7)
              refine Ex_t ?_ (ehyR_readStatement_121 hrc hm)
              exact hx
            · rw [if_neg q12] at hm
              refine Ex_t ?_ (ehyR_readStatement_116 hrc hm)
              exact hx
def yR_readRow_7 (th : Nat) (rc : hS → Nat → Int32 → Option (hS × Option Nat)) : Nat → hS → Int32 → Option Nat → Option Nat → Int32 → Option (hS × Option Nat)
  | 0, _, _, _, _, _ => none
  | n + 1, S, l1, p2, p3, l4 => (if 40 < l4 then (some (S, p2)) else (if ztg S th = 6 then (if zI S 4 th = 0 then (zcP (yR_rowEnds S th l1) fun S1 v1 => (if v1 = 0 then (if ztg S1 th = 6 then (zcP (yR_readStatement rc n S1 th l1) fun S2 o2 => (zoc p3 (yR_readRow_7 th rc n S2 l1 o2 o2 (l4 + 1)) fun a3 => (if ztg S2 a3 = 10 then (yR_readRow_7 th rc n (szR S2 9 a3 o2) l1 p2 o2 (l4 + 1)) else none))) else none) else (some (S1, p2)))) else (some (S, p2))) else none))
theorem hyR_readRow_7 {X : ie_X} {e th : Nat} {rc : hS → Nat → Int32 → Option (hS × Option Nat)} (hrc : ∀ {S : hS} {th : Nat} {z1 : Int32} {S' : hS} {r : Option Nat}, rc S th z1 = some (S', r) → Go X (e + 3) 13 (0, ie_en 13 [.ref th, .int z1], [], zhp S) (.inl (some (va_rf r))) (zhp S')) : ∀ (n : Nat) {S : hS} {l1 : Int32} {p2 : Option Nat} {p3 : Option Nat} {l4 : Int32} {u5 : Option Value} {S' : hS} {r : Option Nat}, yR_readRow_7 th rc n S l1 p2 p3 l4 = some (S', r) → Go X (e + 7) 13 (7, [some (.ref th), some (.int l1), some (va_rf p2), some (va_rf p3), some (.int l4), u5], [], zhp S) (.inl (some (va_rf r))) (zhp S') := by
  intro n
  induction n with
  | zero => intro S l1 p2 p3 l4 u5 S' r hm; cases hm
  | succ n ih =>
    intro S l1 p2 p3 l4 u5 S' r hm
    unfold yR_readRow_7 at hm
    refine go_run 0 (F' := (7, [some (.ref th), some (.int l1), some (va_rf p2), some (va_rf p3), some (.int l4), u5], [], zhp S)) rfl ?_
    refine go_run 2 (F' := (11, [some (.ref th), some (.int l1), some (va_rf p2), some (va_rf p3), some (.int l4), u5], [.int 40, .int l4], zhp S)) rfl ?_
    refine go_step rfl rfl ?_
    by_cases q1 : 40 < l4
    · rw [if_pos q1] at hm ⊢
      refine go_run 0 (F' := (61, [some (.ref th), some (.int l1), some (va_rf p2), some (va_rf p3), some (.int l4), u5], [], zhp S)) rfl ?_
      refine go_run 0 (F' := (61, [some (.ref th), some (.int l1), some (va_rf p2), some (va_rf p3), some (.int l4), u5], [], zhp S)) rfl ?_
      refine go_al rfl rfl ?_
      refine go_run 0 (F' := (62, [some (.ref th), some (.int l1), some (va_rf p2), some (va_rf p3), some (.int l4), u5], [va_rf p2], zhp S)) rfl ?_
      cases hm
      exact go_reta rfl rfl rfl (fun _ => rfl)
    · rw [if_neg q1] at hm ⊢
      refine go_run 0 (F' := (14, [some (.ref th), some (.int l1), some (va_rf p2), some (va_rf p3), some (.int l4), u5], [], zhp S)) rfl ?_
      refine go_run 1 (F' := (15, [some (.ref th), some (.int l1), some (va_rf p2), some (va_rf p3), some (.int l4), u5], [.ref th], zhp S)) rfl ?_
      replace hm := zgd hm
      obtain ⟨b2, hm⟩ := hm
      refine go_hg (v := .int (zI S 4 th)) rfl b2 (by decide) rfl ?_
      refine go_run 0 (F' := (18, [some (.ref th), some (.int l1), some (va_rf p2), some (va_rf p3), some (.int l4), u5], [.int (zI S 4 th)], zhp S)) rfl ?_
      refine go_step rfl rfl ?_
      by_cases q3 : zI S 4 th = 0
      · rw [if_pos q3] at hm ⊢
        refine go_run 0 (F' := (21, [some (.ref th), some (.int l1), some (va_rf p2), some (va_rf p3), some (.int l4), u5], [], zhp S)) rfl ?_
        refine go_run 2 (F' := (23, [some (.ref th), some (.int l1), some (va_rf p2), some (va_rf p3), some (.int l4), u5], [.int l1, .ref th], zhp S)) rfl ?_
        replace hm := zcP_inv hm
        obtain ⟨S1, v1, e1, hm⟩ := hm
        have k1 := hyR_rowEnds (X := X) (d := e + 5) e1
        refine go_call (m' := 14) (as := [.ref th, .int l1]) (rest := []) (v := some (.int v1)) (h1 := zhp S1) rfl (by simp only [ie_step, ie_iv, List.drop, zhp_obj (S := S) b2 (by decide)]; rfl) ⟨rfl, Nat.le_of_ble_eq_true rfl⟩ k1 ?_
        refine go_run 0 (F' := (26, [some (.ref th), some (.int l1), some (va_rf p2), some (va_rf p3), some (.int l4), u5], [.int v1], zhp S1)) rfl ?_
        refine go_run 0 (F' := (26, [some (.ref th), some (.int l1), some (va_rf p2), some (va_rf p3), some (.int l4), u5], [.int v1], zhp S1)) rfl ?_
        refine go_step rfl rfl ?_
        by_cases q4 : v1 = 0
        · rw [if_pos q4] at hm ⊢
          refine go_run 0 (F' := (29, [some (.ref th), some (.int l1), some (va_rf p2), some (va_rf p3), some (.int l4), u5], [], zhp S1)) rfl ?_
          refine go_run 2 (F' := (31, [some (.ref th), some (.int l1), some (va_rf p2), some (va_rf p3), some (.int l4), u5], [.int l1, .ref th], zhp S1)) rfl ?_
          replace hm := zgd hm
          obtain ⟨b5, hm⟩ := hm
          replace hm := zcP_inv hm
          obtain ⟨S2, o2, e2, hm⟩ := hm
          have k2 := hyR_readStatement (X := X) hrc e2
          refine go_call (m' := 16) (as := [.ref th, .int l1]) (rest := []) (v := some (va_rf o2)) (h1 := zhp S2) rfl (by simp only [ie_step, ie_iv, List.drop, zhp_obj (S := S1) b5 (by decide)]; rfl) ⟨rfl, Nat.le_of_ble_eq_true rfl⟩ k2 ?_
          refine go_run 0 (F' := (34, [some (.ref th), some (.int l1), some (va_rf p2), some (va_rf p3), some (.int l4), u5], [va_rf o2], zhp S2)) rfl ?_
          refine go_run 0 (F' := (34, [some (.ref th), some (.int l1), some (va_rf p2), some (va_rf p3), some (.int l4), u5], [va_rf o2], zhp S2)) rfl ?_
          refine go_as2 rfl ?_
          refine go_run 0 (F' := (36, [some (.ref th), some (.int l1), some (va_rf p2), some (va_rf p3), some (.int l4), some (va_rf o2)], [], zhp S2)) rfl ?_
          refine go_al rfl rfl ?_
          refine go_run 0 (F' := (37, [some (.ref th), some (.int l1), some (va_rf p2), some (va_rf p3), some (.int l4), some (va_rf o2)], [va_rf p3], zhp S2)) rfl ?_
          cases p3 with
          | none =>
            replace hm := zoc_n hm
            refine go_step rfl rfl ?_
            refine go_run 0 (F' := (40, [some (.ref th), some (.int l1), some (va_rf p2), some (.null), some (.int l4), some (va_rf o2)], [], zhp S2)) rfl ?_
            refine go_run 0 (F' := (40, [some (.ref th), some (.int l1), some (va_rf p2), some (.null), some (.int l4), some (va_rf o2)], [], zhp S2)) rfl ?_
            refine go_al2 rfl rfl ?_
            refine go_run 0 (F' := (42, [some (.ref th), some (.int l1), some (va_rf p2), some (.null), some (.int l4), some (va_rf o2)], [va_rf o2], zhp S2)) rfl ?_
            refine go_as rfl ?_
            refine go_run 1 (F' := (52, [some (.ref th), some (.int l1), some (va_rf o2), some (.null), some (.int l4), some (va_rf o2)], [], zhp S2)) rfl ?_
            refine go_al2 rfl rfl ?_
            refine go_run 0 (F' := (54, [some (.ref th), some (.int l1), some (va_rf o2), some (.null), some (.int l4), some (va_rf o2)], [va_rf o2], zhp S2)) rfl ?_
            refine go_as rfl ?_
            refine go_run 2 (F' := (7, [some (.ref th), some (.int l1), some (va_rf o2), some (va_rf o2), some (.int (l4 + 1)), some (va_rf o2)], [], zhp S2)) rfl ?_
            exact ih hm
          | some a3 =>
            replace hm := zoc_s hm
            refine go_step rfl rfl ?_
            refine go_run 0 (F' := (46, [some (.ref th), some (.int l1), some (va_rf p2), some (.ref a3), some (.int l4), some (va_rf o2)], [], zhp S2)) rfl ?_
            refine go_run 1 (F' := (47, [some (.ref th), some (.int l1), some (va_rf p2), some (.ref a3), some (.int l4), some (va_rf o2)], [.ref a3], zhp S2)) rfl ?_
            refine go_al2 rfl rfl ?_
            refine go_run 0 (F' := (49, [some (.ref th), some (.int l1), some (va_rf p2), some (.ref a3), some (.int l4), some (va_rf o2)], [va_rf o2, .ref a3], zhp S2)) rfl ?_
            replace hm := zgd hm
            obtain ⟨b6, hm⟩ := hm
            refine go_hpR (v := o2) rfl b6 (by decide) (by cases o2 <;> rfl) (Nat.le_of_ble_eq_true rfl) fs_9_9 ?_
            refine go_run 0 (F' := (52, [some (.ref th), some (.int l1), some (va_rf p2), some (.ref a3), some (.int l4), some (va_rf o2)], [], zhp (szR S2 9 a3 o2))) rfl ?_
            refine go_al2 rfl rfl ?_
            refine go_run 0 (F' := (54, [some (.ref th), some (.int l1), some (va_rf p2), some (.ref a3), some (.int l4), some (va_rf o2)], [va_rf o2], zhp (szR S2 9 a3 o2))) rfl ?_
            refine go_as rfl ?_
            refine go_run 2 (F' := (7, [some (.ref th), some (.int l1), some (va_rf p2), some (va_rf o2), some (.int (l4 + 1)), some (va_rf o2)], [], zhp (szR S2 9 a3 o2))) rfl ?_
            exact ih hm
        · rw [if_neg q4] at hm ⊢
          refine go_run 0 (F' := (61, [some (.ref th), some (.int l1), some (va_rf p2), some (va_rf p3), some (.int l4), u5], [], zhp S1)) rfl ?_
          refine go_run 0 (F' := (61, [some (.ref th), some (.int l1), some (va_rf p2), some (va_rf p3), some (.int l4), u5], [], zhp S1)) rfl ?_
          refine go_al rfl rfl ?_
          refine go_run 0 (F' := (62, [some (.ref th), some (.int l1), some (va_rf p2), some (va_rf p3), some (.int l4), u5], [va_rf p2], zhp S1)) rfl ?_
          cases hm
          exact go_reta rfl rfl rfl (fun _ => rfl)
      · rw [if_neg q3] at hm ⊢
        refine go_run 0 (F' := (61, [some (.ref th), some (.int l1), some (va_rf p2), some (va_rf p3), some (.int l4), u5], [], zhp S)) rfl ?_
        refine go_run 0 (F' := (61, [some (.ref th), some (.int l1), some (va_rf p2), some (va_rf p3), some (.int l4), u5], [], zhp S)) rfl ?_
        refine go_al rfl rfl ?_
        refine go_run 0 (F' := (62, [some (.ref th), some (.int l1), some (va_rf p2), some (va_rf p3), some (.int l4), u5], [va_rf p2], zhp S)) rfl ?_
        cases hm
        exact go_reta rfl rfl rfl (fun _ => rfl)
theorem ehyR_readRow_7 {th : Nat} {rc : hS → Nat → Int32 → Option (hS × Option Nat)} (hrc : ∀ {S : hS} {th : Nat} {z1 : Int32} {S' : hS} {r : Option Nat}, rc S th z1 = some (S', r) → Ex S S') : ∀ (n : Nat) {S : hS} {l1 : Int32} {p2 : Option Nat} {p3 : Option Nat} {l4 : Int32} {S' : hS} {r : Option Nat}, yR_readRow_7 th rc n S l1 p2 p3 l4 = some (S', r) → Ex S S' := by
  intro n
  induction n with
  | zero => intro S l1 p2 p3 l4 S' r hm; cases hm
  | succ n ih =>
    intro S l1 p2 p3 l4 S' r hm
    unfold yR_readRow_7 at hm
    have hx : Ex S S := Ex_r
    by_cases q1 : 40 < l4
    · rw [if_pos q1] at hm
      cases hm
      exact hx
    · rw [if_neg q1] at hm
      replace hm := zgd hm
      obtain ⟨b2, hm⟩ := hm
      by_cases q3 : zI S 4 th = 0
      · rw [if_pos q3] at hm
        replace hm := zcP_inv hm
        obtain ⟨S1, v1, e1, hm⟩ := hm
        have hx := Ex_t (T := S) hx (ehyR_rowEnds e1)
        by_cases q4 : v1 = 0
        · rw [if_pos q4] at hm
          replace hm := zgd hm
          obtain ⟨b5, hm⟩ := hm
          replace hm := zcP_inv hm
          obtain ⟨S2, o2, e2, hm⟩ := hm
          have hx := Ex_t (T := S1) hx (ehyR_readStatement hrc e2)
          cases p3 with
          | none =>
            replace hm := zoc_n hm
            refine Ex_t ?_ (ih hm)
            exact hx
          | some a3 =>
            replace hm := zoc_s hm
            replace hm := zgd hm
            obtain ⟨b6, hm⟩ := hm
            refine Ex_t ?_ (ih hm)
            exact hx
        · rw [if_neg q4] at hm
          cases hm
          exact hx
      · rw [if_neg q3] at hm
        cases hm
        exact hx
def yR_readRow (n : Nat) : Nat → hS → Nat → Int32 → Option (hS × Option Nat)
  | 0, _, _, _ => none
  | r + 1, S, th, x1 => (yR_readRow_7 th (yR_readRow n r) n S x1 none none 0)
theorem hyR_readRow {X : ie_X} {d : Nat} {n : Nat} : ∀ (r : Nat) {S : hS} {th : Nat} {x1 : Int32} {S' : hS} {r_ : Option Nat}, yR_readRow n r S th x1 = some (S', r_) → Go X (d + 4 * r + 3) 13 (0, ie_en 13 [.ref th, .int x1], [], zhp S) (.inl (some (va_rf r_))) (zhp S') := by
  intro r
  induction r with
  | zero => intro S th x1 S' r_ hm; cases hm
  | succ r ih =>
    intro S th x1 S' r_ hm
    rw [show d + 4 * (r + 1) + 3 = (d + 4 * r) + 7 by omega]
    unfold yR_readRow at hm
    refine go_run 0 (F' := (0, [some (.ref th), some (.int x1), none, none, none, none], [], zhp S)) rfl ?_
    refine go_run 6 (F' := (7, [some (.ref th), some (.int x1), some (va_rf none), some (va_rf none), some (.int 0), none], [], zhp S)) rfl ?_
    exact hyR_readRow_7 ih n hm
theorem ehyR_readRow {n : Nat} : ∀ (r : Nat) {S : hS} {th : Nat} {x1 : Int32} {S' : hS} {r_ : Option Nat}, yR_readRow n r S th x1 = some (S', r_) → Ex S S' := by
  intro r
  induction r with
  | zero => intro S th x1 S' r_ hm; cases hm
  | succ r ih =>
    intro S th x1 S' r_ hm
    unfold yR_readRow at hm
    have hx : Ex S S := Ex_r
    refine Ex_t ?_ (ehyR_readRow_7 ih n hm)
    exact hx
theorem hyR_readRow_o {X : ie_X} {d n : Nat} {S : hS} {th : Nat} {x1 : Int32} {S' : hS} {r_ : Option Nat} (hm : yR_readRow n 9 S th x1 = some (S', r_)) : Go X (d + 39) 13 (0, ie_en 13 [.ref th, .int x1], [], zhp S) (.inl (some (va_rf r_))) (zhp S') := hyR_readRow (X := X) (d := d) 9 hm
theorem ehyR_readRow_o {n : Nat} {S : hS} {th : Nat} {x1 : Int32} {S' : hS} {r_ : Option Nat} (hm : yR_readRow n 9 S th x1 = some (S', r_)) : Ex S S' := ehyR_readRow 9 hm
def yR_readPlay (n : Nat) (S : hS) (th : Nat) : Option (hS × Option Nat) := (if ztg S th = 6 then (zcP (yR_readRow n 9 S th 0) fun S1 o1 => (if ztg S1 th = 6 then (if zI S1 4 th = 0 then (some (S1, o1)) else (some (S1, none))) else none)) else none)
theorem hyR_readPlay {X : ie_X} {d th : Nat} {n : Nat} {S : hS} {S' : hS} {r : Option Nat} (hm : yR_readPlay n S th = some (S', r)) : Go X (d + 40) 12 (0, ie_en 12 [.ref th], [], zhp S) (.inl (some (va_rf r))) (zhp S') := by
  unfold yR_readPlay at hm
  refine go_run 0 (F' := (0, [some (.ref th), none], [], zhp S)) rfl ?_
  refine go_run 2 (F' := (2, [some (.ref th), none], [.int 0, .ref th], zhp S)) rfl ?_
  replace hm := zgd hm
  obtain ⟨b1, hm⟩ := hm
  replace hm := zcP_inv hm
  obtain ⟨S1, o1, e1, hm⟩ := hm
  have k1 := hyR_readRow_o (X := X) (d := d) e1
  refine go_call (m' := 13) (as := [.ref th, .int 0]) (rest := []) (v := some (va_rf o1)) (h1 := zhp S1) rfl (by simp only [ie_step, ie_iv, List.drop, zhp_obj (S := S) b1 (by decide)]; rfl) ⟨rfl, Nat.le_of_ble_eq_true rfl⟩ k1 ?_
  refine go_run 0 (F' := (5, [some (.ref th), none], [va_rf o1], zhp S1)) rfl ?_
  refine go_run 0 (F' := (5, [some (.ref th), none], [va_rf o1], zhp S1)) rfl ?_
  refine go_as rfl ?_
  refine go_run 1 (F' := (7, [some (.ref th), some (va_rf o1)], [.ref th], zhp S1)) rfl ?_
  replace hm := zgd hm
  obtain ⟨b2, hm⟩ := hm
  refine go_hg (v := .int (zI S1 4 th)) rfl b2 (by decide) rfl ?_
  refine go_run 0 (F' := (10, [some (.ref th), some (va_rf o1)], [.int (zI S1 4 th)], zhp S1)) rfl ?_
  refine go_step rfl rfl ?_
  by_cases q3 : zI S1 4 th = 0
  · rw [if_pos q3] at hm ⊢
    refine go_run 0 (F' := (17, [some (.ref th), some (va_rf o1)], [], zhp S1)) rfl ?_
    refine go_run 0 (F' := (17, [some (.ref th), some (va_rf o1)], [], zhp S1)) rfl ?_
    refine go_al rfl rfl ?_
    refine go_run 0 (F' := (18, [some (.ref th), some (va_rf o1)], [va_rf o1], zhp S1)) rfl ?_
    cases hm
    exact go_reta rfl rfl rfl (fun _ => rfl)
  · rw [if_neg q3] at hm ⊢
    refine go_run 0 (F' := (13, [some (.ref th), some (va_rf o1)], [], zhp S1)) rfl ?_
    refine go_run 2 (F' := (18, [some (.ref th), some (va_rf o1)], [.null], zhp S1)) rfl ?_
    cases hm
    exact go_end rfl rfl
theorem ehyR_readPlay {th : Nat} {n : Nat} {S : hS} {S' : hS} {r : Option Nat} (hm : yR_readPlay n S th = some (S', r)) : Ex S S' := by
  unfold yR_readPlay at hm
  have hx : Ex S S := Ex_r
  replace hm := zgd hm
  obtain ⟨b1, hm⟩ := hm
  replace hm := zcP_inv hm
  obtain ⟨S1, o1, e1, hm⟩ := hm
  have hx := Ex_t (T := S) hx (ehyR_readRow_o e1)
  replace hm := zgd hm
  obtain ⟨b2, hm⟩ := hm
  by_cases q3 : zI S1 4 th = 0
  · rw [if_pos q3] at hm
    cases hm
    exact hx
  · rw [if_neg q3] at hm
    cases hm
    exact hx
def yC_new (S : hS) (th : Nat) (x1 : Int32) (x2 : Int32) : Option (hS) := (if ztg S th = 3 then (if x1 = 0 ∨ x1 = 1 then (some (szI (szI (szI (szI S 2 th (-1)) 3 th (-1)) 0 th x1) 1 th x2)) else none) else none)
theorem hyC_new {X : ie_X} {d th : Nat} {S : hS} {x1 : Int32} {x2 : Int32} {S' : hS} (hm : yC_new S th x1 x2 = some S') : Go X (d + 0) 35 (0, ie_en 35 [.ref th, .int x1, .int x2], [], zhp S) (.inl none) (zhp S') := by
  unfold yC_new at hm
  refine go_run 0 (F' := (0, [some (.ref th), some (.int x1), some (.int x2)], [], zhp S)) rfl ?_
  refine go_run 4 (F' := (6, [some (.ref th), some (.int x1), some (.int x2)], [.int (-1), .ref th], zhp S)) rfl ?_
  replace hm := zgd hm
  obtain ⟨b1, hm⟩ := hm
  refine go_hpI rfl b1 (by decide) rfl (Nat.le_of_ble_eq_true rfl) fs_2_2 ?_
  refine go_run 2 (F' := (11, [some (.ref th), some (.int x1), some (.int x2)], [.int (-1), .ref th], zhp (szI S 2 th (-1)))) rfl ?_
  refine go_hpI rfl b1 (by decide) rfl (Nat.le_of_ble_eq_true rfl) fs_2_3 ?_
  refine go_run 2 (F' := (16, [some (.ref th), some (.int x1), some (.int x2)], [.int x1, .ref th], zhp (szI (szI S 2 th (-1)) 3 th (-1)))) rfl ?_
  replace hm := zgd hm
  obtain ⟨b2, hm⟩ := hm
  refine go_hpI rfl b1 (by decide) (decide_eq_true b2) (Nat.le_of_ble_eq_true rfl) fs_2_0 ?_
  refine go_run 2 (F' := (21, [some (.ref th), some (.int x1), some (.int x2)], [.int x2, .ref th], zhp (szI (szI (szI S 2 th (-1)) 3 th (-1)) 0 th x1))) rfl ?_
  refine go_hpI rfl b1 (by decide) rfl (Nat.le_of_ble_eq_true rfl) fs_2_1 ?_
  refine go_run 0 (F' := (24, [some (.ref th), some (.int x1), some (.int x2)], [], zhp (szI (szI (szI (szI S 2 th (-1)) 3 th (-1)) 0 th x1) 1 th x2))) rfl ?_
  cases hm
  exact go_end rfl rfl
theorem ehyC_new {th : Nat} {S : hS} {x1 : Int32} {x2 : Int32} {S' : hS} (hm : yC_new S th x1 x2 = some S') : Ex S S' := by
  unfold yC_new at hm
  have hx : Ex S S := Ex_r
  replace hm := zgd hm
  obtain ⟨b1, hm⟩ := hm
  replace hm := zgd hm
  obtain ⟨b2, hm⟩ := hm
  cases hm
  exact hx
def yW_new (S : hS) (th : Nat) : Option (hS) := (some S)
theorem hyW_new {X : ie_X} {d th : Nat} {S : hS} {S' : hS} (hm : yW_new S th = some S') : Go X (d + 0) 37 (0, ie_en 37 [.ref th], [], zhp S) (.inl none) (zhp S') := by
  unfold yW_new at hm
  refine go_run 0 (F' := (0, [some (.ref th)], [], zhp S)) rfl ?_
  refine go_run 2 (F' := (4, [some (.ref th)], [], zhp S)) rfl ?_
  cases hm
  exact go_end rfl rfl
theorem ehyW_new {th : Nat} {S : hS} {S' : hS} (hm : yW_new S th = some S') : Ex S S' := by
  unfold yW_new at hm
  have hx : Ex S S := Ex_r
  cases hm
  exact hx
theorem sw_41_1 {X : ie_X} {r : Nat × Nat × Nat} {ls : ie_L} {st : List Value} {h : ie_H} {x : Int32} (q0 : ¬ x = 5) (q1 : ¬ x = 6) (q2 : ¬ x = 7) (q3 : ¬ x = 8) : ie_step X 41 (.tableswitch 38 5 8 #[31, 34, 36, 36]) r 1 ls (.int x :: st) h = some (.inl (39, ls, st, h)) := by
  have n0 : x.toInt ≠ 5 := fun z => q0 (Int32.toInt_inj.mp z)
  have n1 : x.toInt ≠ 6 := fun z => q1 (Int32.toInt_inj.mp z)
  have n2 : x.toInt ≠ 7 := fun z => q2 (Int32.toInt_inj.mp z)
  have n3 : x.toInt ≠ 8 := fun z => q3 (Int32.toInt_inj.mp z)
  clear q0 q1 q2 q3
  show (some (.inl (ie_ts 1 38 5 8 #[31, 34, 36, 36] x.toInt, ls, st, h)) : ie_R) = _
  unfold ie_ts
  by_cases c : x.toInt < 5 ∨ 8 < x.toInt
  · rw [if_pos c]; rfl
  · exact absurd c (by omega)
def yA_partsOf (a1 : Int32) : Int32 := (if a1 = 5 then 10 else (if a1 = 6 then 2 else (if a1 = 7 then 1 else (if a1 = 8 then 1 else 0))))
theorem hyA_partsOf {X : ie_X} {d : Nat} {h : ie_H} (a1 : Int32) : Go X (d + 0) 41 (0, ie_en 41 [.int a1], [], h) (.inl (some (.int (yA_partsOf a1)))) h := by
  generalize hm : yA_partsOf a1 = r
  unfold yA_partsOf at hm
  refine go_run 0 (F' := (0, [some (.int a1)], [], h)) rfl ?_
  refine go_run 1 (F' := (1, [some (.int a1)], [.int a1], h)) rfl ?_
  by_cases q1 : a1 = 5
  · rw [if_pos q1] at hm
    refine go_step rfl (F := (32, [some (.int a1)], [], h)) (by simp only [ie_step, q1]; rfl) ?_
    refine go_run 0 (F' := (32, [some (.int a1)], [], h)) rfl ?_
    refine go_run 1 (F' := (34, [some (.int a1)], [.int 10], h)) rfl ?_
    (cases hm; exact go_end rfl rfl)
  · rw [if_neg q1] at hm
    by_cases q2 : a1 = 6
    · rw [if_pos q2] at hm
      refine go_step rfl (F := (35, [some (.int a1)], [], h)) (by simp only [ie_step, q2]; rfl) ?_
      refine go_run 0 (F' := (35, [some (.int a1)], [], h)) rfl ?_
      refine go_run 1 (F' := (36, [some (.int a1)], [.int 2], h)) rfl ?_
      (cases hm; exact go_end rfl rfl)
    · rw [if_neg q2] at hm
      by_cases q3 : a1 = 7
      · rw [if_pos q3] at hm
        refine go_step rfl (F := (37, [some (.int a1)], [], h)) (by simp only [ie_step, q3]; rfl) ?_
        refine go_run 0 (F' := (37, [some (.int a1)], [], h)) rfl ?_
        refine go_run 1 (F' := (38, [some (.int a1)], [.int 1], h)) rfl ?_
        (cases hm; exact go_end rfl rfl)
      · rw [if_neg q3] at hm
        by_cases q4 : a1 = 8
        · rw [if_pos q4] at hm
          refine go_step rfl (F := (37, [some (.int a1)], [], h)) (by simp only [ie_step, q4]; rfl) ?_
          refine go_run 0 (F' := (37, [some (.int a1)], [], h)) rfl ?_
          refine go_run 1 (F' := (38, [some (.int a1)], [.int 1], h)) rfl ?_
          (cases hm; exact go_end rfl rfl)
        · rw [if_neg q4] at hm
          refine go_step rfl (F := (39, [some (.int a1)], [], h)) (sw_41_1 q1 q2 q3 q4) ?_
          refine go_run 0 (F' := (39, [some (.int a1)], [], h)) rfl ?_
          refine go_run 1 (F' := (40, [some (.int a1)], [.int 0], h)) rfl ?_
          (cases hm; exact go_end rfl rfl)
theorem ex_po {k : Int32} : (yA_partsOf k).toNatClampNeg ≤ 16 := by
  unfold yA_partsOf
  repeat' split
  all_goals decide
def yA_new (S : hS) (th : Nat) (x1 : Int32) : Option (hS) := (if ztg S th = 2 then (if zbe (yA_partsOf x1) then (zna (szI S 0 th x1) 7 (Int32.toNatClampNeg (yA_partsOf x1)) fun S1 a1 => (some (szR S1 6 th (some a1)))) else none) else none)
theorem hyA_new {X : ie_X} {d th : Nat} {S : hS} {x1 : Int32} {S' : hS} (hm : yA_new S th x1 = some S') : Go X (d + 1) 40 (0, ie_en 40 [.ref th, .int x1], [], zhp S) (.inl none) (zhp S') := by
  unfold yA_new at hm
  refine go_run 0 (F' := (0, [some (.ref th), some (.int x1)], [], zhp S)) rfl ?_
  refine go_run 4 (F' := (6, [some (.ref th), some (.int x1)], [.int x1, .ref th], zhp S)) rfl ?_
  replace hm := zgd hm
  obtain ⟨b1, hm⟩ := hm
  refine go_hpI rfl b1 (by decide) rfl (Nat.le_of_ble_eq_true rfl) fs_1_0 ?_
  refine go_run 2 (F' := (11, [some (.ref th), some (.int x1)], [.int x1, .ref th], zhp (szI S 0 th x1))) rfl ?_
  refine go_call (m' := 41) (as := [.int x1]) (rest := [.ref th]) (v := some (.int (yA_partsOf x1))) (h1 := zhp (szI S 0 th x1)) rfl rfl ⟨rfl, Nat.le_of_ble_eq_true rfl⟩ (hyA_partsOf _) ?_
  refine go_run 0 (F' := (14, [some (.ref th), some (.int x1)], [.int (yA_partsOf x1), .ref th], zhp (szI S 0 th x1))) rfl ?_
  refine go_run 0 (F' := (14, [some (.ref th), some (.int x1)], [.int (yA_partsOf x1), .ref th], zhp (szI S 0 th x1))) rfl ?_
  replace hm := zgd hm
  obtain ⟨b2, hm⟩ := hm
  replace hm := zna_inv hm
  obtain ⟨S1, a1, eS1, ea1, hm⟩ := hm
  refine go_hnr rfl (by decide) b2 rfl eS1 ea1 ?_
  refine go_run 0 (F' := (17, [some (.ref th), some (.int x1)], [.ref a1, .ref th], zhp S1)) rfl ?_
  refine go_hpR (v := (some a1)) rfl (ztg_oldA eS1 b1 rfl) (by decide) rfl (Nat.le_of_ble_eq_true rfl) fs_1_6 ?_
  refine go_run 0 (F' := (20, [some (.ref th), some (.int x1)], [], zhp (szR S1 6 th (some a1)))) rfl ?_
  cases hm
  exact go_end rfl rfl
theorem ehyA_new {th : Nat} {S : hS} {x1 : Int32} {S' : hS} (hm : yA_new S th x1 = some S') : Ex S S' := by
  unfold yA_new at hm
  have hx : Ex S S := Ex_r
  replace hm := zgd hm
  obtain ⟨b1, hm⟩ := hm
  replace hm := zgd hm
  obtain ⟨b2, hm⟩ := hm
  replace hm := zna_inv hm
  obtain ⟨S1, a1, eS1, ea1, hm⟩ := hm
  have hx := Ex_t (T := szI S 0 th x1) hx (Ex_a ex_po eS1)
  cases hm
  exact hx
