theorem gs_self {h : ie_H} {a : Nat} {c c2 : ie_C} (e : h[a]? = some c) : (List.set h a c2)[a]? = some c2 := by
  have hl : a < h.length := (List.getElem?_eq_some_iff.mp e).1
  rw [List.getElem?_set_self hl]
theorem gs_ne {h : ie_H} {a b : Nat} {c : ie_C} {x : Option ie_C} (n : a ≠ b) (e : h[b]? = x) : (List.set h a c)[b]? = x := by
  rw [List.getElem?_set_ne n]; exact e
theorem gp_old {h : ie_H} {b : Nat} {c d : ie_C} (e : h[b]? = some c) : (h ++ [d])[b]? = some c := by
  have hl : b < h.length := (List.getElem?_eq_some_iff.mp e).1
  rw [List.getElem?_append_left hl]; exact e
def mo (t_ ty fa wh ch it at_ bad co de lo st sz tp am bm mn rm sp be wo : Int32) : ie_C := .inr (10, [.int t_, .int ty, .ref 135, .int fa, .int wh, .int ch, .ref 136, .int it, .ref 137, .ref 138, .ref 139, .ref 140, .ref 141, .ref 142, .ref 143, .ref 144, .ref 145, .ref 146, .ref 147, .ref 148, .int at_, .int bad, .int co, .int de, .ref 149, .int lo, .int st, .ref 150, .ref 151, .ref 152, .ref 153, .ref 154, .ref 155, .ref 156, .ref 157, .ref 158, .ref 159, .ref 160, .ref 161, .int sz, .ref 162, .int tp, .ref 163, .int am, .ref 164, .int bm, .ref 165, .int mn, .ref 166, .int rm, .int sp, .ref 167, .ref 168, .ref 169, .ref 170, .ref 171, .ref 172, .ref 173, .ref 174, .ref 175, .int be, .int wo, .ref 176])
def rf_3 : Nat → Option Nat := (va_up (va_up (va_up (va_up (va_up (va_up (fun _ => none) 0 (some 7)) 1 (some 10)) 2 (some 13)) 3 (some 16)) 4 (some 19)) 5 (some 22))
def rf_4 : Nat → Option Nat := (va_up (va_up (va_up (va_up (va_up (va_up (va_up (va_up (va_up (va_up (va_up (va_up (va_up (va_up (va_up (va_up (va_up (va_up (va_up (va_up (va_up (va_up (va_up (va_up (va_up (va_up (va_up (va_up (va_up (va_up (va_up (va_up (va_up (va_up (va_up (va_up (fun _ => none) 0 (some 25)) 1 (some 28)) 2 (some 31)) 3 (some 34)) 4 (some 37)) 5 (some 40)) 6 (some 43)) 7 (some 46)) 8 (some 49)) 9 (some 52)) 10 (some 55)) 11 (some 58)) 12 (some 61)) 13 (some 64)) 14 (some 67)) 15 (some 70)) 16 (some 73)) 17 (some 76)) 18 (some 79)) 19 (some 82)) 20 (some 85)) 21 (some 88)) 22 (some 91)) 23 (some 94)) 24 (some 97)) 25 (some 100)) 26 (some 103)) 27 (some 106)) 28 (some 109)) 29 (some 112)) 30 (some 115)) 31 (some 118)) 32 (some 121)) 33 (some 124)) 34 (some 127)) 35 (some 130))
set_option maxRecDepth 100000 in
theorem uc_length_1 {X : ie_X} {d : Nat} {h : ie_H} {p1 nl cf cw : Int32} (c0 : h[0]? = some (.inr (0, [.ref 1, .int nl, .int cf, .int cw, .null, .ref 2, .ref 133]))) (q1 : p1 < 0) : Go X (d + 3) 78 (0, ie_en 78 [.ref 0, .int p1, .ref 177], [], h) (.inl (some (.int 1))) (h ++ [.inr (14, [])]) := by
  refine go_run 0 (F' := (0, [some (.ref 0), some (.int p1), some (.ref 177), none], [], h)) rfl ?_
  refine go_run 4 (F' := (4, [some (.ref 0), some (.int p1), some (.ref 177), none], [.int p1, .ref 0, .int 0, .ref 177], h)) rfl ?_
  refine go_catch (m' := 79) (ci := 14) (h1 := (h ++ [.inr (14, [])])) rfl (by simp only [ie_step, ie_iv, List.drop, c0, if_true]; rfl) ⟨rfl, Nat.le_of_ble_eq_true rfl⟩ rfl rfl rfl ?_ ?_
  · refine go_run 0 (F' := (0, [some (.ref 0), some (.int p1)], [], h)) rfl ?_
    refine go_run 1 (F' := (1, [some (.ref 0), some (.int p1)], [.int p1], h)) rfl ?_
    refine go_out (m' := 80) rfl rfl ⟨rfl, Nat.le_of_ble_eq_true rfl⟩ rfl rfl ?_
    · refine go_run 0 (F' := (0, [some (.int p1)], [], h)) rfl ?_
      refine go_run 1 (F' := (1, [some (.int p1)], [.int p1], h)) rfl ?_
      refine go_call (m' := 33) (v := some (.int 0)) (h1 := h) rfl rfl ⟨rfl, Nat.le_of_ble_eq_true rfl⟩ ?_ ?_
      · refine go_run 0 (F' := (0, [some (.int p1)], [], h)) rfl ?_
        refine go_run 1 (F' := (1, [some (.int p1)], [.int p1], h)) rfl ?_
        refine go_step rfl rfl ?_
        rw [if_pos q1]
        refine go_run 0 (F' := (14, [some (.int p1)], [], h)) rfl ?_
        refine go_run 1 (F' := (15, [some (.int p1)], [.int 0], h)) rfl ?_
        exact go_end rfl rfl
      refine go_run 0 (F' := (4, [some (.int p1)], [.int 0], h)) rfl ?_
      refine go_run 1 (F' := (7, [some (.int p1)], [], h)) rfl ?_
      exact go_end rfl rfl
  refine go_run 0 (F' := (13, [some (.ref 0), some (.int p1), some (.ref 177), none], [], (h ++ [.inr (14, [])]))) rfl ?_
  refine go_run 1 (F' := (14, [some (.ref 0), some (.int p1), some (.ref 177), none], [.int 1], (h ++ [.inr (14, [])]))) rfl ?_
  exact go_end rfl rfl
set_option maxRecDepth 100000 in
theorem uc_length_2 {X : ie_X} {d : Nat} {h : ie_H} {p1 nl cf cw : Int32} (c0 : h[0]? = some (.inr (0, [.ref 1, .int nl, .int cf, .int cw, .null, .ref 2, .ref 133]))) (q1 : ¬ (p1 < 0)) (q2 : 6 ≤ p1) : Go X (d + 3) 78 (0, ie_en 78 [.ref 0, .int p1, .ref 177], [], h) (.inl (some (.int 1))) (h ++ [.inr (14, [])]) := by
  refine go_run 0 (F' := (0, [some (.ref 0), some (.int p1), some (.ref 177), none], [], h)) rfl ?_
  refine go_run 4 (F' := (4, [some (.ref 0), some (.int p1), some (.ref 177), none], [.int p1, .ref 0, .int 0, .ref 177], h)) rfl ?_
  refine go_catch (m' := 79) (ci := 14) (h1 := (h ++ [.inr (14, [])])) rfl (by simp only [ie_step, ie_iv, List.drop, c0, if_true]; rfl) ⟨rfl, Nat.le_of_ble_eq_true rfl⟩ rfl rfl rfl ?_ ?_
  · refine go_run 0 (F' := (0, [some (.ref 0), some (.int p1)], [], h)) rfl ?_
    refine go_run 1 (F' := (1, [some (.ref 0), some (.int p1)], [.int p1], h)) rfl ?_
    refine go_out (m' := 80) rfl rfl ⟨rfl, Nat.le_of_ble_eq_true rfl⟩ rfl rfl ?_
    · refine go_run 0 (F' := (0, [some (.int p1)], [], h)) rfl ?_
      refine go_run 1 (F' := (1, [some (.int p1)], [.int p1], h)) rfl ?_
      refine go_call (m' := 33) (v := some (.int 0)) (h1 := h) rfl rfl ⟨rfl, Nat.le_of_ble_eq_true rfl⟩ ?_ ?_
      · refine go_run 0 (F' := (0, [some (.int p1)], [], h)) rfl ?_
        refine go_run 1 (F' := (1, [some (.int p1)], [.int p1], h)) rfl ?_
        refine go_step rfl rfl ?_
        rw [if_neg q1]
        refine go_run 0 (F' := (4, [some (.int p1)], [], h)) rfl ?_
        refine go_run 2 (F' := (7, [some (.int p1)], [.int 6, .int p1], h)) rfl ?_
        refine go_step rfl rfl ?_
        rw [if_pos q2]
        refine go_run 0 (F' := (14, [some (.int p1)], [], h)) rfl ?_
        refine go_run 1 (F' := (15, [some (.int p1)], [.int 0], h)) rfl ?_
        exact go_end rfl rfl
      refine go_run 0 (F' := (4, [some (.int p1)], [.int 0], h)) rfl ?_
      refine go_run 1 (F' := (7, [some (.int p1)], [], h)) rfl ?_
      exact go_end rfl rfl
  refine go_run 0 (F' := (13, [some (.ref 0), some (.int p1), some (.ref 177), none], [], (h ++ [.inr (14, [])]))) rfl ?_
  refine go_run 1 (F' := (14, [some (.ref 0), some (.int p1), some (.ref 177), none], [.int 1], (h ++ [.inr (14, [])]))) rfl ?_
  exact go_end rfl rfl
set_option maxRecDepth 100000 in
theorem uc_length_3 {X : ie_X} {d : Nat} {h : ie_H} {p1 nl cf cw : Int32} (c0 : h[0]? = some (.inr (0, [.ref 1, .int nl, .int cf, .int cw, .null, .ref 2, .ref 133]))) (q1 : ¬ (p1 < 0)) (q2 : ¬ (6 ≤ p1)) : Go X (d + 3) 78 (0, ie_en 78 [.ref 0, .int p1, .ref 177], [], h) (.inl (some (.int 2))) (h ++ [.inr (12, [])]) := by
  refine go_run 0 (F' := (0, [some (.ref 0), some (.int p1), some (.ref 177), none], [], h)) rfl ?_
  refine go_run 4 (F' := (4, [some (.ref 0), some (.int p1), some (.ref 177), none], [.int p1, .ref 0, .int 0, .ref 177], h)) rfl ?_
  refine go_catch (m' := 79) (ci := 12) (h1 := (h ++ [.inr (12, [])])) rfl (by simp only [ie_step, ie_iv, List.drop, c0, if_true]; rfl) ⟨rfl, Nat.le_of_ble_eq_true rfl⟩ rfl rfl rfl ?_ ?_
  · refine go_run 0 (F' := (0, [some (.ref 0), some (.int p1)], [], h)) rfl ?_
    refine go_run 1 (F' := (1, [some (.ref 0), some (.int p1)], [.int p1], h)) rfl ?_
    refine go_call (m' := 80) (v := none) (h1 := h) rfl rfl ⟨rfl, Nat.le_of_ble_eq_true rfl⟩ ?_ ?_
    · refine go_run 0 (F' := (0, [some (.int p1)], [], h)) rfl ?_
      refine go_run 1 (F' := (1, [some (.int p1)], [.int p1], h)) rfl ?_
      refine go_call (m' := 33) (v := some (.int 1)) (h1 := h) rfl rfl ⟨rfl, Nat.le_of_ble_eq_true rfl⟩ ?_ ?_
      · refine go_run 0 (F' := (0, [some (.int p1)], [], h)) rfl ?_
        refine go_run 1 (F' := (1, [some (.int p1)], [.int p1], h)) rfl ?_
        refine go_step rfl rfl ?_
        rw [if_neg q1]
        refine go_run 0 (F' := (4, [some (.int p1)], [], h)) rfl ?_
        refine go_run 2 (F' := (7, [some (.int p1)], [.int 6, .int p1], h)) rfl ?_
        refine go_step rfl rfl ?_
        rw [if_neg q2]
        refine go_run 0 (F' := (10, [some (.int p1)], [], h)) rfl ?_
        refine go_run 2 (F' := (15, [some (.int p1)], [.int 1], h)) rfl ?_
        exact go_end rfl rfl
      refine go_run 0 (F' := (4, [some (.int p1)], [.int 1], h)) rfl ?_
      refine go_run 1 (F' := (15, [some (.int p1)], [], h)) rfl ?_
      exact go_end rfl rfl
    refine go_run 0 (F' := (4, [some (.ref 0), some (.int p1)], [], h)) rfl ?_
    refine go_run 1 (F' := (5, [some (.ref 0), some (.int p1)], [.ref 0], h)) rfl ?_
    refine go_out (m' := 81) rfl (by simp only [ie_step, ie_iv, List.drop, c0, if_true]; rfl) ⟨rfl, Nat.le_of_ble_eq_true rfl⟩ rfl rfl ?_
    · refine go_run 0 (F' := (0, [some (.ref 0)], [], h)) rfl ?_
      refine go_run 1 (F' := (1, [some (.ref 0)], [.ref 0], h)) rfl ?_
      refine go_gf rfl c0 rfl ?_
      refine go_run 0 (F' := (4, [some (.ref 0)], [.null], h)) rfl ?_
      refine go_run 1 (F' := (7, [some (.ref 0)], [], h)) rfl ?_
      exact go_end rfl rfl
  refine go_run 0 (F' := (16, [some (.ref 0), some (.int p1), some (.ref 177), none], [], (h ++ [.inr (12, [])]))) rfl ?_
  refine go_run 1 (F' := (17, [some (.ref 0), some (.int p1), some (.ref 177), none], [.int 2], (h ++ [.inr (12, [])]))) rfl ?_
  exact go_end rfl rfl
set_option maxRecDepth 100000 in
theorem um_length_1 {X : ie_X} {d : Nat} {h : ie_H} {p1 t_ ty fa wh ch it at_ bad co de st sz tp am bm mn rm sp be wo : Int32} (c134 : h[134]? = some (mo t_ ty fa wh ch it at_ bad co de 0 st sz tp am bm mn rm sp be wo)) (q1 : p1 < 0) : Go X (d + 1) 182 (0, ie_en 182 [.ref 134, .int p1], [], h) (.inl (some (.int 0))) (List.set h 134 (mo 1 ty fa wh ch it at_ bad co de 0 st sz tp am bm mn rm sp be wo)) := by
  refine go_run 0 (F' := (0, [some (.ref 134), some (.int p1)], [], h)) rfl ?_
  refine go_run 2 (F' := (2, [some (.ref 134), some (.int p1)], [.int p1, .ref 134], h)) rfl ?_
  refine go_call (m' := 183) (v := some (.int 1)) (h1 := h) rfl rfl ⟨rfl, Nat.le_of_ble_eq_true rfl⟩ ?_ ?_
  · refine go_run 0 (F' := (0, [some (.int p1)], [], h)) rfl ?_
    refine go_run 1 (F' := (1, [some (.int p1)], [.int p1], h)) rfl ?_
    refine go_step rfl rfl ?_
    rw [if_pos q1]
    refine go_run 0 (F' := (9, [some (.int p1)], [], h)) rfl ?_
    refine go_run 2 (F' := (14, [some (.int p1)], [.int 1], h)) rfl ?_
    exact go_end rfl rfl
  refine go_run 0 (F' := (5, [some (.ref 134), some (.int p1)], [.int 1, .ref 134], h)) rfl ?_
  refine go_run 3 (F' := (24, [some (.ref 134), some (.int p1)], [.int 1, .ref 134], h)) rfl ?_
  refine go_pf rfl c134 (Nat.le_of_ble_eq_true rfl) rfl rfl ?_
  refine go_run 0 (F' := (27, [some (.ref 134), some (.int p1)], [], (List.set h 134 (mo 1 ty fa wh ch it at_ bad co de 0 st sz tp am bm mn rm sp be wo)))) rfl ?_
  refine go_run 1 (F' := (28, [some (.ref 134), some (.int p1)], [.ref 134], (List.set h 134 (mo 1 ty fa wh ch it at_ bad co de 0 st sz tp am bm mn rm sp be wo)))) rfl ?_
  refine go_gf rfl (gs_self c134) rfl ?_
  refine go_run 0 (F' := (31, [some (.ref 134), some (.int p1)], [.int 1], (List.set h 134 (mo 1 ty fa wh ch it at_ bad co de 0 st sz tp am bm mn rm sp be wo)))) rfl ?_
  refine go_run 2 (F' := (44, [some (.ref 134), some (.int p1)], [.int 0], (List.set h 134 (mo 1 ty fa wh ch it at_ bad co de 0 st sz tp am bm mn rm sp be wo)))) rfl ?_
  exact go_end rfl rfl
set_option maxRecDepth 100000 in
theorem um_length_2 {X : ie_X} {d : Nat} {h : ie_H} {p1 t_ ty fa wh ch it at_ bad co de st sz tp am bm mn rm sp be wo : Int32} (c134 : h[134]? = some (mo t_ ty fa wh ch it at_ bad co de 0 st sz tp am bm mn rm sp be wo)) (q1 : ¬ (p1 < 0)) (q2 : p1 ≤ 5) : Go X (d + 1) 182 (0, ie_en 182 [.ref 134, .int p1], [], h) (.inl (some (.int 0))) (List.set h 134 (mo 2 ty fa wh ch it at_ bad co de 0 st sz tp am bm mn rm sp be wo)) := by
  refine go_run 0 (F' := (0, [some (.ref 134), some (.int p1)], [], h)) rfl ?_
  refine go_run 2 (F' := (2, [some (.ref 134), some (.int p1)], [.int p1, .ref 134], h)) rfl ?_
  refine go_call (m' := 183) (v := some (.int 0)) (h1 := h) rfl rfl ⟨rfl, Nat.le_of_ble_eq_true rfl⟩ ?_ ?_
  · refine go_run 0 (F' := (0, [some (.int p1)], [], h)) rfl ?_
    refine go_run 1 (F' := (1, [some (.int p1)], [.int p1], h)) rfl ?_
    refine go_step rfl rfl ?_
    rw [if_neg q1]
    refine go_run 0 (F' := (4, [some (.int p1)], [], h)) rfl ?_
    refine go_run 2 (F' := (6, [some (.int p1)], [.int 5, .int p1], h)) rfl ?_
    refine go_step rfl rfl ?_
    rw [if_pos q2]
    refine go_run 0 (F' := (13, [some (.int p1)], [], h)) rfl ?_
    refine go_run 1 (F' := (14, [some (.int p1)], [.int 0], h)) rfl ?_
    exact go_end rfl rfl
  refine go_run 0 (F' := (5, [some (.ref 134), some (.int p1)], [.int 0, .ref 134], h)) rfl ?_
  refine go_run 2 (F' := (13, [some (.ref 134), some (.int p1)], [.ref 134, .ref 134], h)) rfl ?_
  refine go_gf rfl c134 rfl ?_
  refine go_run 0 (F' := (16, [some (.ref 134), some (.int p1)], [.int 0, .ref 134], h)) rfl ?_
  refine go_run 3 (F' := (24, [some (.ref 134), some (.int p1)], [.int 2, .ref 134], h)) rfl ?_
  refine go_pf rfl c134 (Nat.le_of_ble_eq_true rfl) rfl rfl ?_
  refine go_run 0 (F' := (27, [some (.ref 134), some (.int p1)], [], (List.set h 134 (mo 2 ty fa wh ch it at_ bad co de 0 st sz tp am bm mn rm sp be wo)))) rfl ?_
  refine go_run 1 (F' := (28, [some (.ref 134), some (.int p1)], [.ref 134], (List.set h 134 (mo 2 ty fa wh ch it at_ bad co de 0 st sz tp am bm mn rm sp be wo)))) rfl ?_
  refine go_gf rfl (gs_self c134) rfl ?_
  refine go_run 0 (F' := (31, [some (.ref 134), some (.int p1)], [.int 2], (List.set h 134 (mo 2 ty fa wh ch it at_ bad co de 0 st sz tp am bm mn rm sp be wo)))) rfl ?_
  refine go_run 2 (F' := (44, [some (.ref 134), some (.int p1)], [.int 0], (List.set h 134 (mo 2 ty fa wh ch it at_ bad co de 0 st sz tp am bm mn rm sp be wo)))) rfl ?_
  exact go_end rfl rfl
set_option maxRecDepth 100000 in
theorem um_length_3 {X : ie_X} {d : Nat} {h : ie_H} {p1 t_ ty fa wh ch it at_ bad co de st sz tp am bm mn rm sp be wo : Int32} (c134 : h[134]? = some (mo t_ ty fa wh ch it at_ bad co de 0 st sz tp am bm mn rm sp be wo)) (q1 : ¬ (p1 < 0)) (q2 : ¬ (p1 ≤ 5)) : Go X (d + 1) 182 (0, ie_en 182 [.ref 134, .int p1], [], h) (.inl (some (.int 0))) (List.set h 134 (mo 1 ty fa wh ch it at_ bad co de 0 st sz tp am bm mn rm sp be wo)) := by
  refine go_run 0 (F' := (0, [some (.ref 134), some (.int p1)], [], h)) rfl ?_
  refine go_run 2 (F' := (2, [some (.ref 134), some (.int p1)], [.int p1, .ref 134], h)) rfl ?_
  refine go_call (m' := 183) (v := some (.int 1)) (h1 := h) rfl rfl ⟨rfl, Nat.le_of_ble_eq_true rfl⟩ ?_ ?_
  · refine go_run 0 (F' := (0, [some (.int p1)], [], h)) rfl ?_
    refine go_run 1 (F' := (1, [some (.int p1)], [.int p1], h)) rfl ?_
    refine go_step rfl rfl ?_
    rw [if_neg q1]
    refine go_run 0 (F' := (4, [some (.int p1)], [], h)) rfl ?_
    refine go_run 2 (F' := (6, [some (.int p1)], [.int 5, .int p1], h)) rfl ?_
    refine go_step rfl rfl ?_
    rw [if_neg q2]
    refine go_run 0 (F' := (9, [some (.int p1)], [], h)) rfl ?_
    refine go_run 2 (F' := (14, [some (.int p1)], [.int 1], h)) rfl ?_
    exact go_end rfl rfl
  refine go_run 0 (F' := (5, [some (.ref 134), some (.int p1)], [.int 1, .ref 134], h)) rfl ?_
  refine go_run 3 (F' := (24, [some (.ref 134), some (.int p1)], [.int 1, .ref 134], h)) rfl ?_
  refine go_pf rfl c134 (Nat.le_of_ble_eq_true rfl) rfl rfl ?_
  refine go_run 0 (F' := (27, [some (.ref 134), some (.int p1)], [], (List.set h 134 (mo 1 ty fa wh ch it at_ bad co de 0 st sz tp am bm mn rm sp be wo)))) rfl ?_
  refine go_run 1 (F' := (28, [some (.ref 134), some (.int p1)], [.ref 134], (List.set h 134 (mo 1 ty fa wh ch it at_ bad co de 0 st sz tp am bm mn rm sp be wo)))) rfl ?_
  refine go_gf rfl (gs_self c134) rfl ?_
  refine go_run 0 (F' := (31, [some (.ref 134), some (.int p1)], [.int 1], (List.set h 134 (mo 1 ty fa wh ch it at_ bad co de 0 st sz tp am bm mn rm sp be wo)))) rfl ?_
  refine go_run 2 (F' := (44, [some (.ref 134), some (.int p1)], [.int 0], (List.set h 134 (mo 1 ty fa wh ch it at_ bad co de 0 st sz tp am bm mn rm sp be wo)))) rfl ?_
  exact go_end rfl rfl
set_option maxRecDepth 100000 in
theorem uc_letter_1 {X : ie_X} {d : Nat} {h : ie_H} {p1 p2 nl cf cw : Int32} (c0 : h[0]? = some (.inr (0, [.ref 1, .int nl, .int cf, .int cw, .null, .ref 2, .ref 133]))) (q1 : p1 < 0) : Go X (d + 3) 82 (0, ie_en 82 [.ref 0, .int p1, .int p2, .ref 177], [], h) (.inl (some (.int 1))) (h ++ [.inr (14, [])]) := by
  refine go_run 0 (F' := (0, [some (.ref 0), some (.int p1), some (.int p2), some (.ref 177), none], [], h)) rfl ?_
  refine go_run 5 (F' := (5, [some (.ref 0), some (.int p1), some (.int p2), some (.ref 177), none], [.int p2, .int p1, .ref 0, .int 0, .ref 177], h)) rfl ?_
  refine go_catch (m' := 83) (ci := 14) (h1 := (h ++ [.inr (14, [])])) rfl (by simp only [ie_step, ie_iv, List.drop, c0, if_true]; rfl) ⟨rfl, Nat.le_of_ble_eq_true rfl⟩ rfl rfl rfl ?_ ?_
  · refine go_run 0 (F' := (0, [some (.ref 0), some (.int p1), some (.int p2), none], [], h)) rfl ?_
    refine go_run 1 (F' := (1, [some (.ref 0), some (.int p1), some (.int p2), none], [.int p1], h)) rfl ?_
    refine go_out (m' := 80) rfl rfl ⟨rfl, Nat.le_of_ble_eq_true rfl⟩ rfl rfl ?_
    · refine go_run 0 (F' := (0, [some (.int p1)], [], h)) rfl ?_
      refine go_run 1 (F' := (1, [some (.int p1)], [.int p1], h)) rfl ?_
      refine go_call (m' := 33) (v := some (.int 0)) (h1 := h) rfl rfl ⟨rfl, Nat.le_of_ble_eq_true rfl⟩ ?_ ?_
      · refine go_run 0 (F' := (0, [some (.int p1)], [], h)) rfl ?_
        refine go_run 1 (F' := (1, [some (.int p1)], [.int p1], h)) rfl ?_
        refine go_step rfl rfl ?_
        rw [if_pos q1]
        refine go_run 0 (F' := (14, [some (.int p1)], [], h)) rfl ?_
        refine go_run 1 (F' := (15, [some (.int p1)], [.int 0], h)) rfl ?_
        exact go_end rfl rfl
      refine go_run 0 (F' := (4, [some (.int p1)], [.int 0], h)) rfl ?_
      refine go_run 1 (F' := (7, [some (.int p1)], [], h)) rfl ?_
      exact go_end rfl rfl
  refine go_run 0 (F' := (15, [some (.ref 0), some (.int p1), some (.int p2), some (.ref 177), none], [], (h ++ [.inr (14, [])]))) rfl ?_
  refine go_run 1 (F' := (16, [some (.ref 0), some (.int p1), some (.int p2), some (.ref 177), none], [.int 1], (h ++ [.inr (14, [])]))) rfl ?_
  exact go_end rfl rfl
set_option maxRecDepth 100000 in
theorem uc_letter_2 {X : ie_X} {d : Nat} {h : ie_H} {p1 p2 nl cf cw : Int32} (c0 : h[0]? = some (.inr (0, [.ref 1, .int nl, .int cf, .int cw, .null, .ref 2, .ref 133]))) (q1 : ¬ (p1 < 0)) (q2 : 6 ≤ p1) : Go X (d + 3) 82 (0, ie_en 82 [.ref 0, .int p1, .int p2, .ref 177], [], h) (.inl (some (.int 1))) (h ++ [.inr (14, [])]) := by
  refine go_run 0 (F' := (0, [some (.ref 0), some (.int p1), some (.int p2), some (.ref 177), none], [], h)) rfl ?_
  refine go_run 5 (F' := (5, [some (.ref 0), some (.int p1), some (.int p2), some (.ref 177), none], [.int p2, .int p1, .ref 0, .int 0, .ref 177], h)) rfl ?_
  refine go_catch (m' := 83) (ci := 14) (h1 := (h ++ [.inr (14, [])])) rfl (by simp only [ie_step, ie_iv, List.drop, c0, if_true]; rfl) ⟨rfl, Nat.le_of_ble_eq_true rfl⟩ rfl rfl rfl ?_ ?_
  · refine go_run 0 (F' := (0, [some (.ref 0), some (.int p1), some (.int p2), none], [], h)) rfl ?_
    refine go_run 1 (F' := (1, [some (.ref 0), some (.int p1), some (.int p2), none], [.int p1], h)) rfl ?_
    refine go_out (m' := 80) rfl rfl ⟨rfl, Nat.le_of_ble_eq_true rfl⟩ rfl rfl ?_
    · refine go_run 0 (F' := (0, [some (.int p1)], [], h)) rfl ?_
      refine go_run 1 (F' := (1, [some (.int p1)], [.int p1], h)) rfl ?_
      refine go_call (m' := 33) (v := some (.int 0)) (h1 := h) rfl rfl ⟨rfl, Nat.le_of_ble_eq_true rfl⟩ ?_ ?_
      · refine go_run 0 (F' := (0, [some (.int p1)], [], h)) rfl ?_
        refine go_run 1 (F' := (1, [some (.int p1)], [.int p1], h)) rfl ?_
        refine go_step rfl rfl ?_
        rw [if_neg q1]
        refine go_run 0 (F' := (4, [some (.int p1)], [], h)) rfl ?_
        refine go_run 2 (F' := (7, [some (.int p1)], [.int 6, .int p1], h)) rfl ?_
        refine go_step rfl rfl ?_
        rw [if_pos q2]
        refine go_run 0 (F' := (14, [some (.int p1)], [], h)) rfl ?_
        refine go_run 1 (F' := (15, [some (.int p1)], [.int 0], h)) rfl ?_
        exact go_end rfl rfl
      refine go_run 0 (F' := (4, [some (.int p1)], [.int 0], h)) rfl ?_
      refine go_run 1 (F' := (7, [some (.int p1)], [], h)) rfl ?_
      exact go_end rfl rfl
  refine go_run 0 (F' := (15, [some (.ref 0), some (.int p1), some (.int p2), some (.ref 177), none], [], (h ++ [.inr (14, [])]))) rfl ?_
  refine go_run 1 (F' := (16, [some (.ref 0), some (.int p1), some (.int p2), some (.ref 177), none], [.int 1], (h ++ [.inr (14, [])]))) rfl ?_
  exact go_end rfl rfl
set_option maxRecDepth 100000 in
theorem uc_letter_3 {X : ie_X} {d : Nat} {h : ie_H} {p1 p2 nl cf cw : Int32} (c0 : h[0]? = some (.inr (0, [.ref 1, .int nl, .int cf, .int cw, .null, .ref 2, .ref 133]))) (q1 : ¬ (p1 < 0)) (q2 : ¬ (6 ≤ p1)) : Go X (d + 3) 82 (0, ie_en 82 [.ref 0, .int p1, .int p2, .ref 177], [], h) (.inl (some (.int 2))) (h ++ [.inr (12, [])]) := by
  refine go_run 0 (F' := (0, [some (.ref 0), some (.int p1), some (.int p2), some (.ref 177), none], [], h)) rfl ?_
  refine go_run 5 (F' := (5, [some (.ref 0), some (.int p1), some (.int p2), some (.ref 177), none], [.int p2, .int p1, .ref 0, .int 0, .ref 177], h)) rfl ?_
  refine go_catch (m' := 83) (ci := 12) (h1 := (h ++ [.inr (12, [])])) rfl (by simp only [ie_step, ie_iv, List.drop, c0, if_true]; rfl) ⟨rfl, Nat.le_of_ble_eq_true rfl⟩ rfl rfl rfl ?_ ?_
  · refine go_run 0 (F' := (0, [some (.ref 0), some (.int p1), some (.int p2), none], [], h)) rfl ?_
    refine go_run 1 (F' := (1, [some (.ref 0), some (.int p1), some (.int p2), none], [.int p1], h)) rfl ?_
    refine go_call (m' := 80) (v := none) (h1 := h) rfl rfl ⟨rfl, Nat.le_of_ble_eq_true rfl⟩ ?_ ?_
    · refine go_run 0 (F' := (0, [some (.int p1)], [], h)) rfl ?_
      refine go_run 1 (F' := (1, [some (.int p1)], [.int p1], h)) rfl ?_
      refine go_call (m' := 33) (v := some (.int 1)) (h1 := h) rfl rfl ⟨rfl, Nat.le_of_ble_eq_true rfl⟩ ?_ ?_
      · refine go_run 0 (F' := (0, [some (.int p1)], [], h)) rfl ?_
        refine go_run 1 (F' := (1, [some (.int p1)], [.int p1], h)) rfl ?_
        refine go_step rfl rfl ?_
        rw [if_neg q1]
        refine go_run 0 (F' := (4, [some (.int p1)], [], h)) rfl ?_
        refine go_run 2 (F' := (7, [some (.int p1)], [.int 6, .int p1], h)) rfl ?_
        refine go_step rfl rfl ?_
        rw [if_neg q2]
        refine go_run 0 (F' := (10, [some (.int p1)], [], h)) rfl ?_
        refine go_run 2 (F' := (15, [some (.int p1)], [.int 1], h)) rfl ?_
        exact go_end rfl rfl
      refine go_run 0 (F' := (4, [some (.int p1)], [.int 1], h)) rfl ?_
      refine go_run 1 (F' := (15, [some (.int p1)], [], h)) rfl ?_
      exact go_end rfl rfl
    refine go_run 0 (F' := (4, [some (.ref 0), some (.int p1), some (.int p2), none], [], h)) rfl ?_
    refine go_run 1 (F' := (5, [some (.ref 0), some (.int p1), some (.int p2), none], [.ref 0], h)) rfl ?_
    refine go_out (m' := 81) rfl (by simp only [ie_step, ie_iv, List.drop, c0, if_true]; rfl) ⟨rfl, Nat.le_of_ble_eq_true rfl⟩ rfl rfl ?_
    · refine go_run 0 (F' := (0, [some (.ref 0)], [], h)) rfl ?_
      refine go_run 1 (F' := (1, [some (.ref 0)], [.ref 0], h)) rfl ?_
      refine go_gf rfl c0 rfl ?_
      refine go_run 0 (F' := (4, [some (.ref 0)], [.null], h)) rfl ?_
      refine go_run 1 (F' := (7, [some (.ref 0)], [], h)) rfl ?_
      exact go_end rfl rfl
  refine go_run 0 (F' := (19, [some (.ref 0), some (.int p1), some (.int p2), some (.ref 177), none], [], (h ++ [.inr (12, [])]))) rfl ?_
  refine go_run 1 (F' := (20, [some (.ref 0), some (.int p1), some (.int p2), some (.ref 177), none], [.int 2], (h ++ [.inr (12, [])]))) rfl ?_
  exact go_end rfl rfl
set_option maxRecDepth 100000 in
theorem um_letter_1 {X : ie_X} {d : Nat} {h : ie_H} {p1 p2 t_ ty fa wh ch it at_ bad co de st sz tp am bm mn rm sp be wo : Int32} (c134 : h[134]? = some (mo t_ ty fa wh ch it at_ bad co de 0 st sz tp am bm mn rm sp be wo)) (q1 : p1 < 0) : Go X (d + 1) 184 (0, ie_en 184 [.ref 134, .int p1, .int p2], [], h) (.inl (some (.int 0))) (List.set h 134 (mo 1 ty fa wh ch it at_ bad co de 0 st sz tp am bm mn rm sp be wo)) := by
  refine go_run 0 (F' := (0, [some (.ref 134), some (.int p1), some (.int p2)], [], h)) rfl ?_
  refine go_run 2 (F' := (2, [some (.ref 134), some (.int p1), some (.int p2)], [.int p1, .ref 134], h)) rfl ?_
  refine go_call (m' := 183) (v := some (.int 1)) (h1 := h) rfl rfl ⟨rfl, Nat.le_of_ble_eq_true rfl⟩ ?_ ?_
  · refine go_run 0 (F' := (0, [some (.int p1)], [], h)) rfl ?_
    refine go_run 1 (F' := (1, [some (.int p1)], [.int p1], h)) rfl ?_
    refine go_step rfl rfl ?_
    rw [if_pos q1]
    refine go_run 0 (F' := (9, [some (.int p1)], [], h)) rfl ?_
    refine go_run 2 (F' := (14, [some (.int p1)], [.int 1], h)) rfl ?_
    exact go_end rfl rfl
  refine go_run 0 (F' := (5, [some (.ref 134), some (.int p1), some (.int p2)], [.int 1, .ref 134], h)) rfl ?_
  refine go_run 3 (F' := (42, [some (.ref 134), some (.int p1), some (.int p2)], [.int 1, .ref 134], h)) rfl ?_
  refine go_pf rfl c134 (Nat.le_of_ble_eq_true rfl) rfl rfl ?_
  refine go_run 0 (F' := (45, [some (.ref 134), some (.int p1), some (.int p2)], [], (List.set h 134 (mo 1 ty fa wh ch it at_ bad co de 0 st sz tp am bm mn rm sp be wo)))) rfl ?_
  refine go_run 1 (F' := (46, [some (.ref 134), some (.int p1), some (.int p2)], [.ref 134], (List.set h 134 (mo 1 ty fa wh ch it at_ bad co de 0 st sz tp am bm mn rm sp be wo)))) rfl ?_
  refine go_gf rfl (gs_self c134) rfl ?_
  refine go_run 0 (F' := (49, [some (.ref 134), some (.int p1), some (.int p2)], [.int 1], (List.set h 134 (mo 1 ty fa wh ch it at_ bad co de 0 st sz tp am bm mn rm sp be wo)))) rfl ?_
  refine go_run 2 (F' := (68, [some (.ref 134), some (.int p1), some (.int p2)], [.int 0], (List.set h 134 (mo 1 ty fa wh ch it at_ bad co de 0 st sz tp am bm mn rm sp be wo)))) rfl ?_
  exact go_end rfl rfl
set_option maxRecDepth 100000 in
theorem um_letter_2 {X : ie_X} {d : Nat} {h : ie_H} {p1 p2 t_ ty fa wh ch it at_ bad co de st sz tp am bm mn rm sp be wo : Int32} (c134 : h[134]? = some (mo t_ ty fa wh ch it at_ bad co de 0 st sz tp am bm mn rm sp be wo)) (q1 : ¬ (p1 < 0)) (q2 : p1 ≤ 5) : Go X (d + 1) 184 (0, ie_en 184 [.ref 134, .int p1, .int p2], [], h) (.inl (some (.int 0))) (List.set h 134 (mo 2 ty fa wh ch it at_ bad co de 0 st sz tp am bm mn rm sp be wo)) := by
  refine go_run 0 (F' := (0, [some (.ref 134), some (.int p1), some (.int p2)], [], h)) rfl ?_
  refine go_run 2 (F' := (2, [some (.ref 134), some (.int p1), some (.int p2)], [.int p1, .ref 134], h)) rfl ?_
  refine go_call (m' := 183) (v := some (.int 0)) (h1 := h) rfl rfl ⟨rfl, Nat.le_of_ble_eq_true rfl⟩ ?_ ?_
  · refine go_run 0 (F' := (0, [some (.int p1)], [], h)) rfl ?_
    refine go_run 1 (F' := (1, [some (.int p1)], [.int p1], h)) rfl ?_
    refine go_step rfl rfl ?_
    rw [if_neg q1]
    refine go_run 0 (F' := (4, [some (.int p1)], [], h)) rfl ?_
    refine go_run 2 (F' := (6, [some (.int p1)], [.int 5, .int p1], h)) rfl ?_
    refine go_step rfl rfl ?_
    rw [if_pos q2]
    refine go_run 0 (F' := (13, [some (.int p1)], [], h)) rfl ?_
    refine go_run 1 (F' := (14, [some (.int p1)], [.int 0], h)) rfl ?_
    exact go_end rfl rfl
  refine go_run 0 (F' := (5, [some (.ref 134), some (.int p1), some (.int p2)], [.int 0, .ref 134], h)) rfl ?_
  refine go_run 2 (F' := (13, [some (.ref 134), some (.int p1), some (.int p2)], [.ref 134, .ref 134], h)) rfl ?_
  refine go_gf rfl c134 rfl ?_
  refine go_run 0 (F' := (16, [some (.ref 134), some (.int p1), some (.int p2)], [.int 0, .ref 134], h)) rfl ?_
  refine go_run 3 (F' := (42, [some (.ref 134), some (.int p1), some (.int p2)], [.int 2, .ref 134], h)) rfl ?_
  refine go_pf rfl c134 (Nat.le_of_ble_eq_true rfl) rfl rfl ?_
  refine go_run 0 (F' := (45, [some (.ref 134), some (.int p1), some (.int p2)], [], (List.set h 134 (mo 2 ty fa wh ch it at_ bad co de 0 st sz tp am bm mn rm sp be wo)))) rfl ?_
  refine go_run 1 (F' := (46, [some (.ref 134), some (.int p1), some (.int p2)], [.ref 134], (List.set h 134 (mo 2 ty fa wh ch it at_ bad co de 0 st sz tp am bm mn rm sp be wo)))) rfl ?_
  refine go_gf rfl (gs_self c134) rfl ?_
  refine go_run 0 (F' := (49, [some (.ref 134), some (.int p1), some (.int p2)], [.int 2], (List.set h 134 (mo 2 ty fa wh ch it at_ bad co de 0 st sz tp am bm mn rm sp be wo)))) rfl ?_
  refine go_run 2 (F' := (68, [some (.ref 134), some (.int p1), some (.int p2)], [.int 0], (List.set h 134 (mo 2 ty fa wh ch it at_ bad co de 0 st sz tp am bm mn rm sp be wo)))) rfl ?_
  exact go_end rfl rfl
set_option maxRecDepth 100000 in
theorem um_letter_3 {X : ie_X} {d : Nat} {h : ie_H} {p1 p2 t_ ty fa wh ch it at_ bad co de st sz tp am bm mn rm sp be wo : Int32} (c134 : h[134]? = some (mo t_ ty fa wh ch it at_ bad co de 0 st sz tp am bm mn rm sp be wo)) (q1 : ¬ (p1 < 0)) (q2 : ¬ (p1 ≤ 5)) : Go X (d + 1) 184 (0, ie_en 184 [.ref 134, .int p1, .int p2], [], h) (.inl (some (.int 0))) (List.set h 134 (mo 1 ty fa wh ch it at_ bad co de 0 st sz tp am bm mn rm sp be wo)) := by
  refine go_run 0 (F' := (0, [some (.ref 134), some (.int p1), some (.int p2)], [], h)) rfl ?_
  refine go_run 2 (F' := (2, [some (.ref 134), some (.int p1), some (.int p2)], [.int p1, .ref 134], h)) rfl ?_
  refine go_call (m' := 183) (v := some (.int 1)) (h1 := h) rfl rfl ⟨rfl, Nat.le_of_ble_eq_true rfl⟩ ?_ ?_
  · refine go_run 0 (F' := (0, [some (.int p1)], [], h)) rfl ?_
    refine go_run 1 (F' := (1, [some (.int p1)], [.int p1], h)) rfl ?_
    refine go_step rfl rfl ?_
    rw [if_neg q1]
    refine go_run 0 (F' := (4, [some (.int p1)], [], h)) rfl ?_
    refine go_run 2 (F' := (6, [some (.int p1)], [.int 5, .int p1], h)) rfl ?_
    refine go_step rfl rfl ?_
    rw [if_neg q2]
    refine go_run 0 (F' := (9, [some (.int p1)], [], h)) rfl ?_
    refine go_run 2 (F' := (14, [some (.int p1)], [.int 1], h)) rfl ?_
    exact go_end rfl rfl
  refine go_run 0 (F' := (5, [some (.ref 134), some (.int p1), some (.int p2)], [.int 1, .ref 134], h)) rfl ?_
  refine go_run 3 (F' := (42, [some (.ref 134), some (.int p1), some (.int p2)], [.int 1, .ref 134], h)) rfl ?_
  refine go_pf rfl c134 (Nat.le_of_ble_eq_true rfl) rfl rfl ?_
  refine go_run 0 (F' := (45, [some (.ref 134), some (.int p1), some (.int p2)], [], (List.set h 134 (mo 1 ty fa wh ch it at_ bad co de 0 st sz tp am bm mn rm sp be wo)))) rfl ?_
  refine go_run 1 (F' := (46, [some (.ref 134), some (.int p1), some (.int p2)], [.ref 134], (List.set h 134 (mo 1 ty fa wh ch it at_ bad co de 0 st sz tp am bm mn rm sp be wo)))) rfl ?_
  refine go_gf rfl (gs_self c134) rfl ?_
  refine go_run 0 (F' := (49, [some (.ref 134), some (.int p1), some (.int p2)], [.int 1], (List.set h 134 (mo 1 ty fa wh ch it at_ bad co de 0 st sz tp am bm mn rm sp be wo)))) rfl ?_
  refine go_run 2 (F' := (68, [some (.ref 134), some (.int p1), some (.int p2)], [.int 0], (List.set h 134 (mo 1 ty fa wh ch it at_ bad co de 0 st sz tp am bm mn rm sp be wo)))) rfl ?_
  exact go_end rfl rfl
set_option maxRecDepth 100000 in
theorem uc_input_1 {X : ie_X} {d : Nat} {h : ie_H} {p1 p2 p3 nl cf cw : Int32} (c0 : h[0]? = some (.inr (0, [.ref 1, .int nl, .int cf, .int cw, .null, .ref 2, .ref 133]))) (q1 : p1 < 0) : Go X (d + 3) 84 (0, ie_en 84 [.ref 0, .int p1, .int p2, .int p3, .ref 177], [], h) (.inl (some (.int 1))) (h ++ [.inr (14, [])]) := by
  refine go_run 0 (F' := (0, [some (.ref 0), some (.int p1), some (.int p2), some (.int p3), some (.ref 177), none], [], h)) rfl ?_
  refine go_run 6 (F' := (7, [some (.ref 0), some (.int p1), some (.int p2), some (.int p3), some (.ref 177), none], [.int p3, .int p2, .int p1, .ref 0, .int 0, .ref 177], h)) rfl ?_
  refine go_catch (m' := 85) (ci := 14) (h1 := (h ++ [.inr (14, [])])) rfl (by simp only [ie_step, ie_iv, List.drop, c0, if_true]; rfl) ⟨rfl, Nat.le_of_ble_eq_true rfl⟩ rfl rfl rfl ?_ ?_
  · refine go_run 0 (F' := (0, [some (.ref 0), some (.int p1), some (.int p2), some (.int p3), none, none], [], h)) rfl ?_
    refine go_run 2 (F' := (2, [some (.ref 0), some (.int p1), some (.int p2), some (.int p3), none, none], [.int p2, .int p1], h)) rfl ?_
    refine go_out (m' := 86) rfl rfl ⟨rfl, Nat.le_of_ble_eq_true rfl⟩ rfl rfl ?_
    · refine go_run 0 (F' := (0, [some (.int p1), some (.int p2)], [], h)) rfl ?_
      refine go_run 1 (F' := (1, [some (.int p1), some (.int p2)], [.int p1], h)) rfl ?_
      refine go_call (m' := 33) (v := some (.int 0)) (h1 := h) rfl rfl ⟨rfl, Nat.le_of_ble_eq_true rfl⟩ ?_ ?_
      · refine go_run 0 (F' := (0, [some (.int p1)], [], h)) rfl ?_
        refine go_run 1 (F' := (1, [some (.int p1)], [.int p1], h)) rfl ?_
        refine go_step rfl rfl ?_
        rw [if_pos q1]
        refine go_run 0 (F' := (14, [some (.int p1)], [], h)) rfl ?_
        refine go_run 1 (F' := (15, [some (.int p1)], [.int 0], h)) rfl ?_
        exact go_end rfl rfl
      refine go_run 0 (F' := (4, [some (.int p1), some (.int p2)], [.int 0], h)) rfl ?_
      refine go_run 1 (F' := (16, [some (.int p1), some (.int p2)], [], h)) rfl ?_
      exact go_end rfl rfl
  refine go_run 0 (F' := (17, [some (.ref 0), some (.int p1), some (.int p2), some (.int p3), some (.ref 177), none], [], (h ++ [.inr (14, [])]))) rfl ?_
  refine go_run 1 (F' := (18, [some (.ref 0), some (.int p1), some (.int p2), some (.int p3), some (.ref 177), none], [.int 1], (h ++ [.inr (14, [])]))) rfl ?_
  exact go_end rfl rfl
set_option maxRecDepth 100000 in
theorem uc_input_2 {X : ie_X} {d : Nat} {h : ie_H} {p1 p2 p3 nl cf cw : Int32} (c0 : h[0]? = some (.inr (0, [.ref 1, .int nl, .int cf, .int cw, .null, .ref 2, .ref 133]))) (q1 : ¬ (p1 < 0)) (q2 : 6 ≤ p1) : Go X (d + 3) 84 (0, ie_en 84 [.ref 0, .int p1, .int p2, .int p3, .ref 177], [], h) (.inl (some (.int 1))) (h ++ [.inr (14, [])]) := by
  refine go_run 0 (F' := (0, [some (.ref 0), some (.int p1), some (.int p2), some (.int p3), some (.ref 177), none], [], h)) rfl ?_
  refine go_run 6 (F' := (7, [some (.ref 0), some (.int p1), some (.int p2), some (.int p3), some (.ref 177), none], [.int p3, .int p2, .int p1, .ref 0, .int 0, .ref 177], h)) rfl ?_
  refine go_catch (m' := 85) (ci := 14) (h1 := (h ++ [.inr (14, [])])) rfl (by simp only [ie_step, ie_iv, List.drop, c0, if_true]; rfl) ⟨rfl, Nat.le_of_ble_eq_true rfl⟩ rfl rfl rfl ?_ ?_
  · refine go_run 0 (F' := (0, [some (.ref 0), some (.int p1), some (.int p2), some (.int p3), none, none], [], h)) rfl ?_
    refine go_run 2 (F' := (2, [some (.ref 0), some (.int p1), some (.int p2), some (.int p3), none, none], [.int p2, .int p1], h)) rfl ?_
    refine go_out (m' := 86) rfl rfl ⟨rfl, Nat.le_of_ble_eq_true rfl⟩ rfl rfl ?_
    · refine go_run 0 (F' := (0, [some (.int p1), some (.int p2)], [], h)) rfl ?_
      refine go_run 1 (F' := (1, [some (.int p1), some (.int p2)], [.int p1], h)) rfl ?_
      refine go_call (m' := 33) (v := some (.int 0)) (h1 := h) rfl rfl ⟨rfl, Nat.le_of_ble_eq_true rfl⟩ ?_ ?_
      · refine go_run 0 (F' := (0, [some (.int p1)], [], h)) rfl ?_
        refine go_run 1 (F' := (1, [some (.int p1)], [.int p1], h)) rfl ?_
        refine go_step rfl rfl ?_
        rw [if_neg q1]
        refine go_run 0 (F' := (4, [some (.int p1)], [], h)) rfl ?_
        refine go_run 2 (F' := (7, [some (.int p1)], [.int 6, .int p1], h)) rfl ?_
        refine go_step rfl rfl ?_
        rw [if_pos q2]
        refine go_run 0 (F' := (14, [some (.int p1)], [], h)) rfl ?_
        refine go_run 1 (F' := (15, [some (.int p1)], [.int 0], h)) rfl ?_
        exact go_end rfl rfl
      refine go_run 0 (F' := (4, [some (.int p1), some (.int p2)], [.int 0], h)) rfl ?_
      refine go_run 1 (F' := (16, [some (.int p1), some (.int p2)], [], h)) rfl ?_
      exact go_end rfl rfl
  refine go_run 0 (F' := (17, [some (.ref 0), some (.int p1), some (.int p2), some (.int p3), some (.ref 177), none], [], (h ++ [.inr (14, [])]))) rfl ?_
  refine go_run 1 (F' := (18, [some (.ref 0), some (.int p1), some (.int p2), some (.int p3), some (.ref 177), none], [.int 1], (h ++ [.inr (14, [])]))) rfl ?_
  exact go_end rfl rfl
set_option maxRecDepth 100000 in
theorem uc_input_3 {X : ie_X} {d : Nat} {h : ie_H} {p1 p2 p3 nl cf cw : Int32} (c0 : h[0]? = some (.inr (0, [.ref 1, .int nl, .int cf, .int cw, .null, .ref 2, .ref 133]))) (q1 : ¬ (p1 < 0)) (q2 : ¬ (6 ≤ p1)) (q3 : p2 < 0) : Go X (d + 3) 84 (0, ie_en 84 [.ref 0, .int p1, .int p2, .int p3, .ref 177], [], h) (.inl (some (.int 1))) (h ++ [.inr (14, [])]) := by
  refine go_run 0 (F' := (0, [some (.ref 0), some (.int p1), some (.int p2), some (.int p3), some (.ref 177), none], [], h)) rfl ?_
  refine go_run 6 (F' := (7, [some (.ref 0), some (.int p1), some (.int p2), some (.int p3), some (.ref 177), none], [.int p3, .int p2, .int p1, .ref 0, .int 0, .ref 177], h)) rfl ?_
  refine go_catch (m' := 85) (ci := 14) (h1 := (h ++ [.inr (14, [])])) rfl (by simp only [ie_step, ie_iv, List.drop, c0, if_true]; rfl) ⟨rfl, Nat.le_of_ble_eq_true rfl⟩ rfl rfl rfl ?_ ?_
  · refine go_run 0 (F' := (0, [some (.ref 0), some (.int p1), some (.int p2), some (.int p3), none, none], [], h)) rfl ?_
    refine go_run 2 (F' := (2, [some (.ref 0), some (.int p1), some (.int p2), some (.int p3), none, none], [.int p2, .int p1], h)) rfl ?_
    refine go_out (m' := 86) rfl rfl ⟨rfl, Nat.le_of_ble_eq_true rfl⟩ rfl rfl ?_
    · refine go_run 0 (F' := (0, [some (.int p1), some (.int p2)], [], h)) rfl ?_
      refine go_run 1 (F' := (1, [some (.int p1), some (.int p2)], [.int p1], h)) rfl ?_
      refine go_call (m' := 33) (v := some (.int 1)) (h1 := h) rfl rfl ⟨rfl, Nat.le_of_ble_eq_true rfl⟩ ?_ ?_
      · refine go_run 0 (F' := (0, [some (.int p1)], [], h)) rfl ?_
        refine go_run 1 (F' := (1, [some (.int p1)], [.int p1], h)) rfl ?_
        refine go_step rfl rfl ?_
        rw [if_neg q1]
        refine go_run 0 (F' := (4, [some (.int p1)], [], h)) rfl ?_
        refine go_run 2 (F' := (7, [some (.int p1)], [.int 6, .int p1], h)) rfl ?_
        refine go_step rfl rfl ?_
        rw [if_neg q2]
        refine go_run 0 (F' := (10, [some (.int p1)], [], h)) rfl ?_
        refine go_run 2 (F' := (15, [some (.int p1)], [.int 1], h)) rfl ?_
        exact go_end rfl rfl
      refine go_run 0 (F' := (4, [some (.int p1), some (.int p2)], [.int 1], h)) rfl ?_
      refine go_run 2 (F' := (8, [some (.int p1), some (.int p2)], [.int p2], h)) rfl ?_
      refine go_step rfl rfl ?_
      rw [if_pos q3]
      refine go_run 0 (F' := (16, [some (.int p1), some (.int p2)], [], h)) rfl ?_
      exact go_end rfl rfl
  refine go_run 0 (F' := (17, [some (.ref 0), some (.int p1), some (.int p2), some (.int p3), some (.ref 177), none], [], (h ++ [.inr (14, [])]))) rfl ?_
  refine go_run 1 (F' := (18, [some (.ref 0), some (.int p1), some (.int p2), some (.int p3), some (.ref 177), none], [.int 1], (h ++ [.inr (14, [])]))) rfl ?_
  exact go_end rfl rfl
set_option maxRecDepth 100000 in
theorem uc_input_4 {X : ie_X} {d : Nat} {h : ie_H} {p1 p2 p3 nl cf cw : Int32} (c0 : h[0]? = some (.inr (0, [.ref 1, .int nl, .int cf, .int cw, .null, .ref 2, .ref 133]))) (q1 : ¬ (p1 < 0)) (q2 : ¬ (6 ≤ p1)) (q3 : ¬ (p2 < 0)) (q4 : p2 < 4) : Go X (d + 3) 84 (0, ie_en 84 [.ref 0, .int p1, .int p2, .int p3, .ref 177], [], h) (.inl (some (.int 2))) (h ++ [.inr (12, [])]) := by
  refine go_run 0 (F' := (0, [some (.ref 0), some (.int p1), some (.int p2), some (.int p3), some (.ref 177), none], [], h)) rfl ?_
  refine go_run 6 (F' := (7, [some (.ref 0), some (.int p1), some (.int p2), some (.int p3), some (.ref 177), none], [.int p3, .int p2, .int p1, .ref 0, .int 0, .ref 177], h)) rfl ?_
  refine go_catch (m' := 85) (ci := 12) (h1 := (h ++ [.inr (12, [])])) rfl (by simp only [ie_step, ie_iv, List.drop, c0, if_true]; rfl) ⟨rfl, Nat.le_of_ble_eq_true rfl⟩ rfl rfl rfl ?_ ?_
  · refine go_run 0 (F' := (0, [some (.ref 0), some (.int p1), some (.int p2), some (.int p3), none, none], [], h)) rfl ?_
    refine go_run 2 (F' := (2, [some (.ref 0), some (.int p1), some (.int p2), some (.int p3), none, none], [.int p2, .int p1], h)) rfl ?_
    refine go_call (m' := 86) (v := none) (h1 := h) rfl rfl ⟨rfl, Nat.le_of_ble_eq_true rfl⟩ ?_ ?_
    · refine go_run 0 (F' := (0, [some (.int p1), some (.int p2)], [], h)) rfl ?_
      refine go_run 1 (F' := (1, [some (.int p1), some (.int p2)], [.int p1], h)) rfl ?_
      refine go_call (m' := 33) (v := some (.int 1)) (h1 := h) rfl rfl ⟨rfl, Nat.le_of_ble_eq_true rfl⟩ ?_ ?_
      · refine go_run 0 (F' := (0, [some (.int p1)], [], h)) rfl ?_
        refine go_run 1 (F' := (1, [some (.int p1)], [.int p1], h)) rfl ?_
        refine go_step rfl rfl ?_
        rw [if_neg q1]
        refine go_run 0 (F' := (4, [some (.int p1)], [], h)) rfl ?_
        refine go_run 2 (F' := (7, [some (.int p1)], [.int 6, .int p1], h)) rfl ?_
        refine go_step rfl rfl ?_
        rw [if_neg q2]
        refine go_run 0 (F' := (10, [some (.int p1)], [], h)) rfl ?_
        refine go_run 2 (F' := (15, [some (.int p1)], [.int 1], h)) rfl ?_
        exact go_end rfl rfl
      refine go_run 0 (F' := (4, [some (.int p1), some (.int p2)], [.int 1], h)) rfl ?_
      refine go_run 2 (F' := (8, [some (.int p1), some (.int p2)], [.int p2], h)) rfl ?_
      refine go_step rfl rfl ?_
      rw [if_neg q3]
      refine go_run 0 (F' := (11, [some (.int p1), some (.int p2)], [], h)) rfl ?_
      refine go_run 2 (F' := (13, [some (.int p1), some (.int p2)], [.int 4, .int p2], h)) rfl ?_
      refine go_step rfl rfl ?_
      rw [if_pos q4]
      refine go_run 0 (F' := (24, [some (.int p1), some (.int p2)], [], h)) rfl ?_
      exact go_end rfl rfl
    refine go_run 0 (F' := (5, [some (.ref 0), some (.int p1), some (.int p2), some (.int p3), none, none], [], h)) rfl ?_
    refine go_run 1 (F' := (6, [some (.ref 0), some (.int p1), some (.int p2), some (.int p3), none, none], [.ref 0], h)) rfl ?_
    refine go_out (m' := 87) rfl (by simp only [ie_step, ie_iv, List.drop, c0, if_true]; rfl) ⟨rfl, Nat.le_of_ble_eq_true rfl⟩ rfl rfl ?_
    · refine go_run 0 (F' := (0, [some (.ref 0)], [], h)) rfl ?_
      refine go_run 1 (F' := (1, [some (.ref 0)], [.ref 0], h)) rfl ?_
      refine go_gf rfl c0 rfl ?_
      refine go_run 0 (F' := (4, [some (.ref 0)], [.null], h)) rfl ?_
      refine go_run 1 (F' := (17, [some (.ref 0)], [], h)) rfl ?_
      exact go_end rfl rfl
  refine go_run 0 (F' := (21, [some (.ref 0), some (.int p1), some (.int p2), some (.int p3), some (.ref 177), none], [], (h ++ [.inr (12, [])]))) rfl ?_
  refine go_run 1 (F' := (22, [some (.ref 0), some (.int p1), some (.int p2), some (.int p3), some (.ref 177), none], [.int 2], (h ++ [.inr (12, [])]))) rfl ?_
  exact go_end rfl rfl
set_option maxRecDepth 100000 in
theorem uc_input_5 {X : ie_X} {d : Nat} {h : ie_H} {p1 p2 p3 nl cf cw : Int32} (c0 : h[0]? = some (.inr (0, [.ref 1, .int nl, .int cf, .int cw, .null, .ref 2, .ref 133]))) (q1 : ¬ (p1 < 0)) (q2 : ¬ (6 ≤ p1)) (q3 : ¬ (p2 < 0)) (q4 : ¬ (p2 < 4)) : Go X (d + 3) 84 (0, ie_en 84 [.ref 0, .int p1, .int p2, .int p3, .ref 177], [], h) (.inl (some (.int 1))) (h ++ [.inr (14, [])]) := by
  refine go_run 0 (F' := (0, [some (.ref 0), some (.int p1), some (.int p2), some (.int p3), some (.ref 177), none], [], h)) rfl ?_
  refine go_run 6 (F' := (7, [some (.ref 0), some (.int p1), some (.int p2), some (.int p3), some (.ref 177), none], [.int p3, .int p2, .int p1, .ref 0, .int 0, .ref 177], h)) rfl ?_
  refine go_catch (m' := 85) (ci := 14) (h1 := (h ++ [.inr (14, [])])) rfl (by simp only [ie_step, ie_iv, List.drop, c0, if_true]; rfl) ⟨rfl, Nat.le_of_ble_eq_true rfl⟩ rfl rfl rfl ?_ ?_
  · refine go_run 0 (F' := (0, [some (.ref 0), some (.int p1), some (.int p2), some (.int p3), none, none], [], h)) rfl ?_
    refine go_run 2 (F' := (2, [some (.ref 0), some (.int p1), some (.int p2), some (.int p3), none, none], [.int p2, .int p1], h)) rfl ?_
    refine go_out (m' := 86) rfl rfl ⟨rfl, Nat.le_of_ble_eq_true rfl⟩ rfl rfl ?_
    · refine go_run 0 (F' := (0, [some (.int p1), some (.int p2)], [], h)) rfl ?_
      refine go_run 1 (F' := (1, [some (.int p1), some (.int p2)], [.int p1], h)) rfl ?_
      refine go_call (m' := 33) (v := some (.int 1)) (h1 := h) rfl rfl ⟨rfl, Nat.le_of_ble_eq_true rfl⟩ ?_ ?_
      · refine go_run 0 (F' := (0, [some (.int p1)], [], h)) rfl ?_
        refine go_run 1 (F' := (1, [some (.int p1)], [.int p1], h)) rfl ?_
        refine go_step rfl rfl ?_
        rw [if_neg q1]
        refine go_run 0 (F' := (4, [some (.int p1)], [], h)) rfl ?_
        refine go_run 2 (F' := (7, [some (.int p1)], [.int 6, .int p1], h)) rfl ?_
        refine go_step rfl rfl ?_
        rw [if_neg q2]
        refine go_run 0 (F' := (10, [some (.int p1)], [], h)) rfl ?_
        refine go_run 2 (F' := (15, [some (.int p1)], [.int 1], h)) rfl ?_
        exact go_end rfl rfl
      refine go_run 0 (F' := (4, [some (.int p1), some (.int p2)], [.int 1], h)) rfl ?_
      refine go_run 2 (F' := (8, [some (.int p1), some (.int p2)], [.int p2], h)) rfl ?_
      refine go_step rfl rfl ?_
      rw [if_neg q3]
      refine go_run 0 (F' := (11, [some (.int p1), some (.int p2)], [], h)) rfl ?_
      refine go_run 2 (F' := (13, [some (.int p1), some (.int p2)], [.int 4, .int p2], h)) rfl ?_
      refine go_step rfl rfl ?_
      rw [if_neg q4]
      refine go_run 0 (F' := (16, [some (.int p1), some (.int p2)], [], h)) rfl ?_
      exact go_end rfl rfl
  refine go_run 0 (F' := (17, [some (.ref 0), some (.int p1), some (.int p2), some (.int p3), some (.ref 177), none], [], (h ++ [.inr (14, [])]))) rfl ?_
  refine go_run 1 (F' := (18, [some (.ref 0), some (.int p1), some (.int p2), some (.int p3), some (.ref 177), none], [.int 1], (h ++ [.inr (14, [])]))) rfl ?_
  exact go_end rfl rfl
set_option maxRecDepth 100000 in
theorem um_input_1 {X : ie_X} {d : Nat} {h : ie_H} {p1 p2 p3 t_ ty fa wh ch it at_ bad co de st sz tp am bm mn rm sp be wo : Int32} (c134 : h[134]? = some (mo t_ ty fa wh ch it at_ bad co de 0 st sz tp am bm mn rm sp be wo)) (q1 : p1 < 0) : Go X (d + 1) 185 (0, ie_en 185 [.ref 134, .int p1, .int p2, .int p3], [], h) (.inl (some (.int 0))) (List.set h 134 (mo 1 ty fa wh ch it at_ bad co de 0 st sz tp am bm mn rm sp be wo)) := by
  refine go_run 0 (F' := (0, [some (.ref 134), some (.int p1), some (.int p2), some (.int p3), none], [], h)) rfl ?_
  refine go_run 2 (F' := (2, [some (.ref 134), some (.int p1), some (.int p2), some (.int p3), none], [.int p1, .ref 134], h)) rfl ?_
  refine go_call (m' := 183) (v := some (.int 1)) (h1 := h) rfl rfl ⟨rfl, Nat.le_of_ble_eq_true rfl⟩ ?_ ?_
  · refine go_run 0 (F' := (0, [some (.int p1)], [], h)) rfl ?_
    refine go_run 1 (F' := (1, [some (.int p1)], [.int p1], h)) rfl ?_
    refine go_step rfl rfl ?_
    rw [if_pos q1]
    refine go_run 0 (F' := (9, [some (.int p1)], [], h)) rfl ?_
    refine go_run 2 (F' := (14, [some (.int p1)], [.int 1], h)) rfl ?_
    exact go_end rfl rfl
  refine go_run 0 (F' := (5, [some (.ref 134), some (.int p1), some (.int p2), some (.int p3), none], [.int 1, .ref 134], h)) rfl ?_
  refine go_run 3 (F' := (38, [some (.ref 134), some (.int p1), some (.int p2), some (.int p3), none], [.int 1, .ref 134], h)) rfl ?_
  refine go_pf rfl c134 (Nat.le_of_ble_eq_true rfl) rfl rfl ?_
  refine go_run 0 (F' := (41, [some (.ref 134), some (.int p1), some (.int p2), some (.int p3), none], [], (List.set h 134 (mo 1 ty fa wh ch it at_ bad co de 0 st sz tp am bm mn rm sp be wo)))) rfl ?_
  refine go_run 1 (F' := (42, [some (.ref 134), some (.int p1), some (.int p2), some (.int p3), none], [.ref 134], (List.set h 134 (mo 1 ty fa wh ch it at_ bad co de 0 st sz tp am bm mn rm sp be wo)))) rfl ?_
  refine go_gf rfl (gs_self c134) rfl ?_
  refine go_run 0 (F' := (45, [some (.ref 134), some (.int p1), some (.int p2), some (.int p3), none], [.int 1], (List.set h 134 (mo 1 ty fa wh ch it at_ bad co de 0 st sz tp am bm mn rm sp be wo)))) rfl ?_
  refine go_run 2 (F' := (49, [some (.ref 134), some (.int p1), some (.int p2), some (.int p3), none], [.int 0], (List.set h 134 (mo 1 ty fa wh ch it at_ bad co de 0 st sz tp am bm mn rm sp be wo)))) rfl ?_
  exact go_end rfl rfl
set_option maxRecDepth 100000 in
theorem um_input_2 {X : ie_X} {d : Nat} {h : ie_H} {p1 p2 p3 t_ ty fa wh ch it at_ bad co de st sz tp am bm mn rm sp be wo : Int32} (c134 : h[134]? = some (mo t_ ty fa wh ch it at_ bad co de 0 st sz tp am bm mn rm sp be wo)) (q1 : ¬ (p1 < 0)) (q2 : ¬ (p1 ≤ 5)) : Go X (d + 1) 185 (0, ie_en 185 [.ref 134, .int p1, .int p2, .int p3], [], h) (.inl (some (.int 0))) (List.set h 134 (mo 1 ty fa wh ch it at_ bad co de 0 st sz tp am bm mn rm sp be wo)) := by
  refine go_run 0 (F' := (0, [some (.ref 134), some (.int p1), some (.int p2), some (.int p3), none], [], h)) rfl ?_
  refine go_run 2 (F' := (2, [some (.ref 134), some (.int p1), some (.int p2), some (.int p3), none], [.int p1, .ref 134], h)) rfl ?_
  refine go_call (m' := 183) (v := some (.int 1)) (h1 := h) rfl rfl ⟨rfl, Nat.le_of_ble_eq_true rfl⟩ ?_ ?_
  · refine go_run 0 (F' := (0, [some (.int p1)], [], h)) rfl ?_
    refine go_run 1 (F' := (1, [some (.int p1)], [.int p1], h)) rfl ?_
    refine go_step rfl rfl ?_
    rw [if_neg q1]
    refine go_run 0 (F' := (4, [some (.int p1)], [], h)) rfl ?_
    refine go_run 2 (F' := (6, [some (.int p1)], [.int 5, .int p1], h)) rfl ?_
    refine go_step rfl rfl ?_
    rw [if_neg q2]
    refine go_run 0 (F' := (9, [some (.int p1)], [], h)) rfl ?_
    refine go_run 2 (F' := (14, [some (.int p1)], [.int 1], h)) rfl ?_
    exact go_end rfl rfl
  refine go_run 0 (F' := (5, [some (.ref 134), some (.int p1), some (.int p2), some (.int p3), none], [.int 1, .ref 134], h)) rfl ?_
  refine go_run 3 (F' := (38, [some (.ref 134), some (.int p1), some (.int p2), some (.int p3), none], [.int 1, .ref 134], h)) rfl ?_
  refine go_pf rfl c134 (Nat.le_of_ble_eq_true rfl) rfl rfl ?_
  refine go_run 0 (F' := (41, [some (.ref 134), some (.int p1), some (.int p2), some (.int p3), none], [], (List.set h 134 (mo 1 ty fa wh ch it at_ bad co de 0 st sz tp am bm mn rm sp be wo)))) rfl ?_
  refine go_run 1 (F' := (42, [some (.ref 134), some (.int p1), some (.int p2), some (.int p3), none], [.ref 134], (List.set h 134 (mo 1 ty fa wh ch it at_ bad co de 0 st sz tp am bm mn rm sp be wo)))) rfl ?_
  refine go_gf rfl (gs_self c134) rfl ?_
  refine go_run 0 (F' := (45, [some (.ref 134), some (.int p1), some (.int p2), some (.int p3), none], [.int 1], (List.set h 134 (mo 1 ty fa wh ch it at_ bad co de 0 st sz tp am bm mn rm sp be wo)))) rfl ?_
  refine go_run 2 (F' := (49, [some (.ref 134), some (.int p1), some (.int p2), some (.int p3), none], [.int 0], (List.set h 134 (mo 1 ty fa wh ch it at_ bad co de 0 st sz tp am bm mn rm sp be wo)))) rfl ?_
  exact go_end rfl rfl
set_option maxRecDepth 100000 in
theorem um_input_3 {X : ie_X} {d : Nat} {h : ie_H} {p1 p2 p3 t_ ty fa wh ch it at_ bad co de st sz tp am bm mn rm sp be wo : Int32} (c134 : h[134]? = some (mo t_ ty fa wh ch it at_ bad co de 0 st sz tp am bm mn rm sp be wo)) (q1 : ¬ (p1 < 0)) (q2 : p1 ≤ 5) (q3 : p2 < 0) : Go X (d + 1) 185 (0, ie_en 185 [.ref 134, .int p1, .int p2, .int p3], [], h) (.inl (some (.int 0))) (List.set h 134 (mo 1 ty fa wh ch it at_ bad co de 0 st sz tp am bm mn rm sp be wo)) := by
  refine go_run 0 (F' := (0, [some (.ref 134), some (.int p1), some (.int p2), some (.int p3), none], [], h)) rfl ?_
  refine go_run 2 (F' := (2, [some (.ref 134), some (.int p1), some (.int p2), some (.int p3), none], [.int p1, .ref 134], h)) rfl ?_
  refine go_call (m' := 183) (v := some (.int 0)) (h1 := h) rfl rfl ⟨rfl, Nat.le_of_ble_eq_true rfl⟩ ?_ ?_
  · refine go_run 0 (F' := (0, [some (.int p1)], [], h)) rfl ?_
    refine go_run 1 (F' := (1, [some (.int p1)], [.int p1], h)) rfl ?_
    refine go_step rfl rfl ?_
    rw [if_neg q1]
    refine go_run 0 (F' := (4, [some (.int p1)], [], h)) rfl ?_
    refine go_run 2 (F' := (6, [some (.int p1)], [.int 5, .int p1], h)) rfl ?_
    refine go_step rfl rfl ?_
    rw [if_pos q2]
    refine go_run 0 (F' := (13, [some (.int p1)], [], h)) rfl ?_
    refine go_run 1 (F' := (14, [some (.int p1)], [.int 0], h)) rfl ?_
    exact go_end rfl rfl
  refine go_run 0 (F' := (5, [some (.ref 134), some (.int p1), some (.int p2), some (.int p3), none], [.int 0, .ref 134], h)) rfl ?_
  refine go_run 2 (F' := (9, [some (.ref 134), some (.int p1), some (.int p2), some (.int p3), none], [.int p2, .ref 134], h)) rfl ?_
  refine go_call (m' := 186) (v := some (.int 1)) (h1 := h) rfl rfl ⟨rfl, Nat.le_of_ble_eq_true rfl⟩ ?_ ?_
  · refine go_run 0 (F' := (0, [some (.int p2)], [], h)) rfl ?_
    refine go_run 1 (F' := (1, [some (.int p2)], [.int p2], h)) rfl ?_
    refine go_step rfl rfl ?_
    rw [if_pos q3]
    refine go_run 0 (F' := (9, [some (.int p2)], [], h)) rfl ?_
    refine go_run 2 (F' := (14, [some (.int p2)], [.int 1], h)) rfl ?_
    exact go_end rfl rfl
  refine go_run 0 (F' := (12, [some (.ref 134), some (.int p1), some (.int p2), some (.int p3), none], [.int 1, .ref 134], h)) rfl ?_
  refine go_run 3 (F' := (38, [some (.ref 134), some (.int p1), some (.int p2), some (.int p3), none], [.int 1, .ref 134], h)) rfl ?_
  refine go_pf rfl c134 (Nat.le_of_ble_eq_true rfl) rfl rfl ?_
  refine go_run 0 (F' := (41, [some (.ref 134), some (.int p1), some (.int p2), some (.int p3), none], [], (List.set h 134 (mo 1 ty fa wh ch it at_ bad co de 0 st sz tp am bm mn rm sp be wo)))) rfl ?_
  refine go_run 1 (F' := (42, [some (.ref 134), some (.int p1), some (.int p2), some (.int p3), none], [.ref 134], (List.set h 134 (mo 1 ty fa wh ch it at_ bad co de 0 st sz tp am bm mn rm sp be wo)))) rfl ?_
  refine go_gf rfl (gs_self c134) rfl ?_
  refine go_run 0 (F' := (45, [some (.ref 134), some (.int p1), some (.int p2), some (.int p3), none], [.int 1], (List.set h 134 (mo 1 ty fa wh ch it at_ bad co de 0 st sz tp am bm mn rm sp be wo)))) rfl ?_
  refine go_run 2 (F' := (49, [some (.ref 134), some (.int p1), some (.int p2), some (.int p3), none], [.int 0], (List.set h 134 (mo 1 ty fa wh ch it at_ bad co de 0 st sz tp am bm mn rm sp be wo)))) rfl ?_
  exact go_end rfl rfl
set_option maxRecDepth 100000 in
theorem um_input_4 {X : ie_X} {d : Nat} {h : ie_H} {p1 p2 p3 t_ ty fa wh ch it at_ bad co de st sz tp am bm mn rm sp be wo : Int32} (c134 : h[134]? = some (mo t_ ty fa wh ch it at_ bad co de 0 st sz tp am bm mn rm sp be wo)) (q1 : ¬ (p1 < 0)) (q2 : p1 ≤ 5) (q3 : ¬ (p2 < 0)) (q4 : p2 ≤ 3) : Go X (d + 1) 185 (0, ie_en 185 [.ref 134, .int p1, .int p2, .int p3], [], h) (.inl (some (.int 0))) (List.set h 134 (mo 2 ty fa wh ch it at_ bad co de 0 st sz tp am bm mn rm sp be wo)) := by
  refine go_run 0 (F' := (0, [some (.ref 134), some (.int p1), some (.int p2), some (.int p3), none], [], h)) rfl ?_
  refine go_run 2 (F' := (2, [some (.ref 134), some (.int p1), some (.int p2), some (.int p3), none], [.int p1, .ref 134], h)) rfl ?_
  refine go_call (m' := 183) (v := some (.int 0)) (h1 := h) rfl rfl ⟨rfl, Nat.le_of_ble_eq_true rfl⟩ ?_ ?_
  · refine go_run 0 (F' := (0, [some (.int p1)], [], h)) rfl ?_
    refine go_run 1 (F' := (1, [some (.int p1)], [.int p1], h)) rfl ?_
    refine go_step rfl rfl ?_
    rw [if_neg q1]
    refine go_run 0 (F' := (4, [some (.int p1)], [], h)) rfl ?_
    refine go_run 2 (F' := (6, [some (.int p1)], [.int 5, .int p1], h)) rfl ?_
    refine go_step rfl rfl ?_
    rw [if_pos q2]
    refine go_run 0 (F' := (13, [some (.int p1)], [], h)) rfl ?_
    refine go_run 1 (F' := (14, [some (.int p1)], [.int 0], h)) rfl ?_
    exact go_end rfl rfl
  refine go_run 0 (F' := (5, [some (.ref 134), some (.int p1), some (.int p2), some (.int p3), none], [.int 0, .ref 134], h)) rfl ?_
  refine go_run 2 (F' := (9, [some (.ref 134), some (.int p1), some (.int p2), some (.int p3), none], [.int p2, .ref 134], h)) rfl ?_
  refine go_call (m' := 186) (v := some (.int 0)) (h1 := h) rfl rfl ⟨rfl, Nat.le_of_ble_eq_true rfl⟩ ?_ ?_
  · refine go_run 0 (F' := (0, [some (.int p2)], [], h)) rfl ?_
    refine go_run 1 (F' := (1, [some (.int p2)], [.int p2], h)) rfl ?_
    refine go_step rfl rfl ?_
    rw [if_neg q3]
    refine go_run 0 (F' := (4, [some (.int p2)], [], h)) rfl ?_
    refine go_run 2 (F' := (6, [some (.int p2)], [.int 3, .int p2], h)) rfl ?_
    refine go_step rfl rfl ?_
    rw [if_pos q4]
    refine go_run 0 (F' := (13, [some (.int p2)], [], h)) rfl ?_
    refine go_run 1 (F' := (14, [some (.int p2)], [.int 0], h)) rfl ?_
    exact go_end rfl rfl
  refine go_run 0 (F' := (12, [some (.ref 134), some (.int p1), some (.int p2), some (.int p3), none], [.int 0, .ref 134], h)) rfl ?_
  refine go_run 2 (F' := (20, [some (.ref 134), some (.int p1), some (.int p2), some (.int p3), none], [.ref 134, .ref 134], h)) rfl ?_
  refine go_gf rfl c134 rfl ?_
  refine go_run 0 (F' := (23, [some (.ref 134), some (.int p1), some (.int p2), some (.int p3), none], [.int 0, .ref 134], h)) rfl ?_
  refine go_run 3 (F' := (38, [some (.ref 134), some (.int p1), some (.int p2), some (.int p3), none], [.int 2, .ref 134], h)) rfl ?_
  refine go_pf rfl c134 (Nat.le_of_ble_eq_true rfl) rfl rfl ?_
  refine go_run 0 (F' := (41, [some (.ref 134), some (.int p1), some (.int p2), some (.int p3), none], [], (List.set h 134 (mo 2 ty fa wh ch it at_ bad co de 0 st sz tp am bm mn rm sp be wo)))) rfl ?_
  refine go_run 1 (F' := (42, [some (.ref 134), some (.int p1), some (.int p2), some (.int p3), none], [.ref 134], (List.set h 134 (mo 2 ty fa wh ch it at_ bad co de 0 st sz tp am bm mn rm sp be wo)))) rfl ?_
  refine go_gf rfl (gs_self c134) rfl ?_
  refine go_run 0 (F' := (45, [some (.ref 134), some (.int p1), some (.int p2), some (.int p3), none], [.int 2], (List.set h 134 (mo 2 ty fa wh ch it at_ bad co de 0 st sz tp am bm mn rm sp be wo)))) rfl ?_
  refine go_run 2 (F' := (49, [some (.ref 134), some (.int p1), some (.int p2), some (.int p3), none], [.int 0], (List.set h 134 (mo 2 ty fa wh ch it at_ bad co de 0 st sz tp am bm mn rm sp be wo)))) rfl ?_
  exact go_end rfl rfl
set_option maxRecDepth 100000 in
theorem um_input_5 {X : ie_X} {d : Nat} {h : ie_H} {p1 p2 p3 t_ ty fa wh ch it at_ bad co de st sz tp am bm mn rm sp be wo : Int32} (c134 : h[134]? = some (mo t_ ty fa wh ch it at_ bad co de 0 st sz tp am bm mn rm sp be wo)) (q1 : ¬ (p1 < 0)) (q2 : p1 ≤ 5) (q3 : ¬ (p2 < 0)) (q4 : ¬ (p2 ≤ 3)) : Go X (d + 1) 185 (0, ie_en 185 [.ref 134, .int p1, .int p2, .int p3], [], h) (.inl (some (.int 0))) (List.set h 134 (mo 1 ty fa wh ch it at_ bad co de 0 st sz tp am bm mn rm sp be wo)) := by
  refine go_run 0 (F' := (0, [some (.ref 134), some (.int p1), some (.int p2), some (.int p3), none], [], h)) rfl ?_
  refine go_run 2 (F' := (2, [some (.ref 134), some (.int p1), some (.int p2), some (.int p3), none], [.int p1, .ref 134], h)) rfl ?_
  refine go_call (m' := 183) (v := some (.int 0)) (h1 := h) rfl rfl ⟨rfl, Nat.le_of_ble_eq_true rfl⟩ ?_ ?_
  · refine go_run 0 (F' := (0, [some (.int p1)], [], h)) rfl ?_
    refine go_run 1 (F' := (1, [some (.int p1)], [.int p1], h)) rfl ?_
    refine go_step rfl rfl ?_
    rw [if_neg q1]
    refine go_run 0 (F' := (4, [some (.int p1)], [], h)) rfl ?_
    refine go_run 2 (F' := (6, [some (.int p1)], [.int 5, .int p1], h)) rfl ?_
    refine go_step rfl rfl ?_
    rw [if_pos q2]
    refine go_run 0 (F' := (13, [some (.int p1)], [], h)) rfl ?_
    refine go_run 1 (F' := (14, [some (.int p1)], [.int 0], h)) rfl ?_
    exact go_end rfl rfl
  refine go_run 0 (F' := (5, [some (.ref 134), some (.int p1), some (.int p2), some (.int p3), none], [.int 0, .ref 134], h)) rfl ?_
  refine go_run 2 (F' := (9, [some (.ref 134), some (.int p1), some (.int p2), some (.int p3), none], [.int p2, .ref 134], h)) rfl ?_
  refine go_call (m' := 186) (v := some (.int 1)) (h1 := h) rfl rfl ⟨rfl, Nat.le_of_ble_eq_true rfl⟩ ?_ ?_
  · refine go_run 0 (F' := (0, [some (.int p2)], [], h)) rfl ?_
    refine go_run 1 (F' := (1, [some (.int p2)], [.int p2], h)) rfl ?_
    refine go_step rfl rfl ?_
    rw [if_neg q3]
    refine go_run 0 (F' := (4, [some (.int p2)], [], h)) rfl ?_
    refine go_run 2 (F' := (6, [some (.int p2)], [.int 3, .int p2], h)) rfl ?_
    refine go_step rfl rfl ?_
    rw [if_neg q4]
    refine go_run 0 (F' := (9, [some (.int p2)], [], h)) rfl ?_
    refine go_run 2 (F' := (14, [some (.int p2)], [.int 1], h)) rfl ?_
    exact go_end rfl rfl
  refine go_run 0 (F' := (12, [some (.ref 134), some (.int p1), some (.int p2), some (.int p3), none], [.int 1, .ref 134], h)) rfl ?_
  refine go_run 3 (F' := (38, [some (.ref 134), some (.int p1), some (.int p2), some (.int p3), none], [.int 1, .ref 134], h)) rfl ?_
  refine go_pf rfl c134 (Nat.le_of_ble_eq_true rfl) rfl rfl ?_
  refine go_run 0 (F' := (41, [some (.ref 134), some (.int p1), some (.int p2), some (.int p3), none], [], (List.set h 134 (mo 1 ty fa wh ch it at_ bad co de 0 st sz tp am bm mn rm sp be wo)))) rfl ?_
  refine go_run 1 (F' := (42, [some (.ref 134), some (.int p1), some (.int p2), some (.int p3), none], [.ref 134], (List.set h 134 (mo 1 ty fa wh ch it at_ bad co de 0 st sz tp am bm mn rm sp be wo)))) rfl ?_
  refine go_gf rfl (gs_self c134) rfl ?_
  refine go_run 0 (F' := (45, [some (.ref 134), some (.int p1), some (.int p2), some (.int p3), none], [.int 1], (List.set h 134 (mo 1 ty fa wh ch it at_ bad co de 0 st sz tp am bm mn rm sp be wo)))) rfl ?_
  refine go_run 2 (F' := (49, [some (.ref 134), some (.int p1), some (.int p2), some (.int p3), none], [.int 0], (List.set h 134 (mo 1 ty fa wh ch it at_ bad co de 0 st sz tp am bm mn rm sp be wo)))) rfl ?_
  exact go_end rfl rfl
set_option maxRecDepth 100000 in
theorem uc_step_1 {X : ie_X} {d : Nat} {h : ie_H} {p1 nl cf cw : Int32} (c0 : h[0]? = some (.inr (0, [.ref 1, .int nl, .int cf, .int cw, .null, .ref 2, .ref 133]))) (q1 : p1 < 0) : Go X (d + 3) 93 (0, ie_en 93 [.ref 0, .int p1, .ref 177], [], h) (.inl (some (.int 1))) (h ++ [.inr (14, [])]) := by
  refine go_run 0 (F' := (0, [some (.ref 0), some (.int p1), some (.ref 177), none], [], h)) rfl ?_
  refine go_run 4 (F' := (4, [some (.ref 0), some (.int p1), some (.ref 177), none], [.int p1, .ref 0, .int 0, .ref 177], h)) rfl ?_
  refine go_catch (m' := 94) (ci := 14) (h1 := (h ++ [.inr (14, [])])) rfl (by simp only [ie_step, ie_iv, List.drop, c0, if_true]; rfl) ⟨rfl, Nat.le_of_ble_eq_true rfl⟩ rfl rfl rfl ?_ ?_
  · refine go_run 0 (F' := (0, [some (.ref 0), some (.int p1)], [], h)) rfl ?_
    refine go_run 1 (F' := (1, [some (.ref 0), some (.int p1)], [.int p1], h)) rfl ?_
    refine go_out (m' := 80) rfl rfl ⟨rfl, Nat.le_of_ble_eq_true rfl⟩ rfl rfl ?_
    · refine go_run 0 (F' := (0, [some (.int p1)], [], h)) rfl ?_
      refine go_run 1 (F' := (1, [some (.int p1)], [.int p1], h)) rfl ?_
      refine go_call (m' := 33) (v := some (.int 0)) (h1 := h) rfl rfl ⟨rfl, Nat.le_of_ble_eq_true rfl⟩ ?_ ?_
      · refine go_run 0 (F' := (0, [some (.int p1)], [], h)) rfl ?_
        refine go_run 1 (F' := (1, [some (.int p1)], [.int p1], h)) rfl ?_
        refine go_step rfl rfl ?_
        rw [if_pos q1]
        refine go_run 0 (F' := (14, [some (.int p1)], [], h)) rfl ?_
        refine go_run 1 (F' := (15, [some (.int p1)], [.int 0], h)) rfl ?_
        exact go_end rfl rfl
      refine go_run 0 (F' := (4, [some (.int p1)], [.int 0], h)) rfl ?_
      refine go_run 1 (F' := (7, [some (.int p1)], [], h)) rfl ?_
      exact go_end rfl rfl
  refine go_run 0 (F' := (13, [some (.ref 0), some (.int p1), some (.ref 177), none], [], (h ++ [.inr (14, [])]))) rfl ?_
  refine go_run 1 (F' := (14, [some (.ref 0), some (.int p1), some (.ref 177), none], [.int 1], (h ++ [.inr (14, [])]))) rfl ?_
  exact go_end rfl rfl
set_option maxRecDepth 100000 in
theorem uc_step_2 {X : ie_X} {d : Nat} {h : ie_H} {p1 nl cf cw : Int32} (c0 : h[0]? = some (.inr (0, [.ref 1, .int nl, .int cf, .int cw, .null, .ref 2, .ref 133]))) (q1 : ¬ (p1 < 0)) (q2 : 6 ≤ p1) : Go X (d + 3) 93 (0, ie_en 93 [.ref 0, .int p1, .ref 177], [], h) (.inl (some (.int 1))) (h ++ [.inr (14, [])]) := by
  refine go_run 0 (F' := (0, [some (.ref 0), some (.int p1), some (.ref 177), none], [], h)) rfl ?_
  refine go_run 4 (F' := (4, [some (.ref 0), some (.int p1), some (.ref 177), none], [.int p1, .ref 0, .int 0, .ref 177], h)) rfl ?_
  refine go_catch (m' := 94) (ci := 14) (h1 := (h ++ [.inr (14, [])])) rfl (by simp only [ie_step, ie_iv, List.drop, c0, if_true]; rfl) ⟨rfl, Nat.le_of_ble_eq_true rfl⟩ rfl rfl rfl ?_ ?_
  · refine go_run 0 (F' := (0, [some (.ref 0), some (.int p1)], [], h)) rfl ?_
    refine go_run 1 (F' := (1, [some (.ref 0), some (.int p1)], [.int p1], h)) rfl ?_
    refine go_out (m' := 80) rfl rfl ⟨rfl, Nat.le_of_ble_eq_true rfl⟩ rfl rfl ?_
    · refine go_run 0 (F' := (0, [some (.int p1)], [], h)) rfl ?_
      refine go_run 1 (F' := (1, [some (.int p1)], [.int p1], h)) rfl ?_
      refine go_call (m' := 33) (v := some (.int 0)) (h1 := h) rfl rfl ⟨rfl, Nat.le_of_ble_eq_true rfl⟩ ?_ ?_
      · refine go_run 0 (F' := (0, [some (.int p1)], [], h)) rfl ?_
        refine go_run 1 (F' := (1, [some (.int p1)], [.int p1], h)) rfl ?_
        refine go_step rfl rfl ?_
        rw [if_neg q1]
        refine go_run 0 (F' := (4, [some (.int p1)], [], h)) rfl ?_
        refine go_run 2 (F' := (7, [some (.int p1)], [.int 6, .int p1], h)) rfl ?_
        refine go_step rfl rfl ?_
        rw [if_pos q2]
        refine go_run 0 (F' := (14, [some (.int p1)], [], h)) rfl ?_
        refine go_run 1 (F' := (15, [some (.int p1)], [.int 0], h)) rfl ?_
        exact go_end rfl rfl
      refine go_run 0 (F' := (4, [some (.int p1)], [.int 0], h)) rfl ?_
      refine go_run 1 (F' := (7, [some (.int p1)], [], h)) rfl ?_
      exact go_end rfl rfl
  refine go_run 0 (F' := (13, [some (.ref 0), some (.int p1), some (.ref 177), none], [], (h ++ [.inr (14, [])]))) rfl ?_
  refine go_run 1 (F' := (14, [some (.ref 0), some (.int p1), some (.ref 177), none], [.int 1], (h ++ [.inr (14, [])]))) rfl ?_
  exact go_end rfl rfl
set_option maxRecDepth 100000 in
theorem uc_step_3 {X : ie_X} {d : Nat} {h : ie_H} {p1 nl cf cw : Int32} (c0 : h[0]? = some (.inr (0, [.ref 1, .int nl, .int cf, .int cw, .null, .ref 2, .ref 133]))) (q1 : ¬ (p1 < 0)) (q2 : ¬ (6 ≤ p1)) : Go X (d + 3) 93 (0, ie_en 93 [.ref 0, .int p1, .ref 177], [], h) (.inl (some (.int 2))) (h ++ [.inr (12, [])]) := by
  refine go_run 0 (F' := (0, [some (.ref 0), some (.int p1), some (.ref 177), none], [], h)) rfl ?_
  refine go_run 4 (F' := (4, [some (.ref 0), some (.int p1), some (.ref 177), none], [.int p1, .ref 0, .int 0, .ref 177], h)) rfl ?_
  refine go_catch (m' := 94) (ci := 12) (h1 := (h ++ [.inr (12, [])])) rfl (by simp only [ie_step, ie_iv, List.drop, c0, if_true]; rfl) ⟨rfl, Nat.le_of_ble_eq_true rfl⟩ rfl rfl rfl ?_ ?_
  · refine go_run 0 (F' := (0, [some (.ref 0), some (.int p1)], [], h)) rfl ?_
    refine go_run 1 (F' := (1, [some (.ref 0), some (.int p1)], [.int p1], h)) rfl ?_
    refine go_call (m' := 80) (v := none) (h1 := h) rfl rfl ⟨rfl, Nat.le_of_ble_eq_true rfl⟩ ?_ ?_
    · refine go_run 0 (F' := (0, [some (.int p1)], [], h)) rfl ?_
      refine go_run 1 (F' := (1, [some (.int p1)], [.int p1], h)) rfl ?_
      refine go_call (m' := 33) (v := some (.int 1)) (h1 := h) rfl rfl ⟨rfl, Nat.le_of_ble_eq_true rfl⟩ ?_ ?_
      · refine go_run 0 (F' := (0, [some (.int p1)], [], h)) rfl ?_
        refine go_run 1 (F' := (1, [some (.int p1)], [.int p1], h)) rfl ?_
        refine go_step rfl rfl ?_
        rw [if_neg q1]
        refine go_run 0 (F' := (4, [some (.int p1)], [], h)) rfl ?_
        refine go_run 2 (F' := (7, [some (.int p1)], [.int 6, .int p1], h)) rfl ?_
        refine go_step rfl rfl ?_
        rw [if_neg q2]
        refine go_run 0 (F' := (10, [some (.int p1)], [], h)) rfl ?_
        refine go_run 2 (F' := (15, [some (.int p1)], [.int 1], h)) rfl ?_
        exact go_end rfl rfl
      refine go_run 0 (F' := (4, [some (.int p1)], [.int 1], h)) rfl ?_
      refine go_run 1 (F' := (15, [some (.int p1)], [], h)) rfl ?_
      exact go_end rfl rfl
    refine go_run 0 (F' := (4, [some (.ref 0), some (.int p1)], [], h)) rfl ?_
    refine go_run 1 (F' := (5, [some (.ref 0), some (.int p1)], [.ref 0], h)) rfl ?_
    refine go_out (m' := 81) rfl (by simp only [ie_step, ie_iv, List.drop, c0, if_true]; rfl) ⟨rfl, Nat.le_of_ble_eq_true rfl⟩ rfl rfl ?_
    · refine go_run 0 (F' := (0, [some (.ref 0)], [], h)) rfl ?_
      refine go_run 1 (F' := (1, [some (.ref 0)], [.ref 0], h)) rfl ?_
      refine go_gf rfl c0 rfl ?_
      refine go_run 0 (F' := (4, [some (.ref 0)], [.null], h)) rfl ?_
      refine go_run 1 (F' := (7, [some (.ref 0)], [], h)) rfl ?_
      exact go_end rfl rfl
  refine go_run 0 (F' := (16, [some (.ref 0), some (.int p1), some (.ref 177), none], [], (h ++ [.inr (12, [])]))) rfl ?_
  refine go_run 1 (F' := (17, [some (.ref 0), some (.int p1), some (.ref 177), none], [.int 2], (h ++ [.inr (12, [])]))) rfl ?_
  exact go_end rfl rfl
set_option maxRecDepth 100000 in
theorem um_step_1 {X : ie_X} {d : Nat} {h : ie_H} {p1 t_ ty fa wh ch it at_ bad co de st sz tp am bm mn rm sp be wo : Int32} (c134 : h[134]? = some (mo t_ ty fa wh ch it at_ bad co de 0 st sz tp am bm mn rm sp be wo)) (q1 : p1 < 0) : Go X (d + 1) 189 (0, ie_en 189 [.ref 134, .int p1], [], h) (.inl (some (.int 0))) (List.set h 134 (mo 1 ty fa wh ch it at_ bad co de 0 st sz tp am bm mn rm sp be wo)) := by
  refine go_run 0 (F' := (0, [some (.ref 134), some (.int p1)], [], h)) rfl ?_
  refine go_run 2 (F' := (2, [some (.ref 134), some (.int p1)], [.int p1, .ref 134], h)) rfl ?_
  refine go_call (m' := 183) (v := some (.int 1)) (h1 := h) rfl rfl ⟨rfl, Nat.le_of_ble_eq_true rfl⟩ ?_ ?_
  · refine go_run 0 (F' := (0, [some (.int p1)], [], h)) rfl ?_
    refine go_run 1 (F' := (1, [some (.int p1)], [.int p1], h)) rfl ?_
    refine go_step rfl rfl ?_
    rw [if_pos q1]
    refine go_run 0 (F' := (9, [some (.int p1)], [], h)) rfl ?_
    refine go_run 2 (F' := (14, [some (.int p1)], [.int 1], h)) rfl ?_
    exact go_end rfl rfl
  refine go_run 0 (F' := (5, [some (.ref 134), some (.int p1)], [.int 1, .ref 134], h)) rfl ?_
  refine go_run 3 (F' := (24, [some (.ref 134), some (.int p1)], [.int 1, .ref 134], h)) rfl ?_
  refine go_pf rfl c134 (Nat.le_of_ble_eq_true rfl) rfl rfl ?_
  refine go_run 0 (F' := (27, [some (.ref 134), some (.int p1)], [], (List.set h 134 (mo 1 ty fa wh ch it at_ bad co de 0 st sz tp am bm mn rm sp be wo)))) rfl ?_
  refine go_run 1 (F' := (28, [some (.ref 134), some (.int p1)], [.ref 134], (List.set h 134 (mo 1 ty fa wh ch it at_ bad co de 0 st sz tp am bm mn rm sp be wo)))) rfl ?_
  refine go_gf rfl (gs_self c134) rfl ?_
  refine go_run 0 (F' := (31, [some (.ref 134), some (.int p1)], [.int 1], (List.set h 134 (mo 1 ty fa wh ch it at_ bad co de 0 st sz tp am bm mn rm sp be wo)))) rfl ?_
  refine go_run 2 (F' := (43, [some (.ref 134), some (.int p1)], [.int 0], (List.set h 134 (mo 1 ty fa wh ch it at_ bad co de 0 st sz tp am bm mn rm sp be wo)))) rfl ?_
  exact go_end rfl rfl
set_option maxRecDepth 100000 in
theorem um_step_2 {X : ie_X} {d : Nat} {h : ie_H} {p1 t_ ty fa wh ch it at_ bad co de st sz tp am bm mn rm sp be wo : Int32} (c134 : h[134]? = some (mo t_ ty fa wh ch it at_ bad co de 0 st sz tp am bm mn rm sp be wo)) (q1 : ¬ (p1 < 0)) (q2 : p1 ≤ 5) : Go X (d + 1) 189 (0, ie_en 189 [.ref 134, .int p1], [], h) (.inl (some (.int 0))) (List.set h 134 (mo 2 ty fa wh ch it at_ bad co de 0 st sz tp am bm mn rm sp be wo)) := by
  refine go_run 0 (F' := (0, [some (.ref 134), some (.int p1)], [], h)) rfl ?_
  refine go_run 2 (F' := (2, [some (.ref 134), some (.int p1)], [.int p1, .ref 134], h)) rfl ?_
  refine go_call (m' := 183) (v := some (.int 0)) (h1 := h) rfl rfl ⟨rfl, Nat.le_of_ble_eq_true rfl⟩ ?_ ?_
  · refine go_run 0 (F' := (0, [some (.int p1)], [], h)) rfl ?_
    refine go_run 1 (F' := (1, [some (.int p1)], [.int p1], h)) rfl ?_
    refine go_step rfl rfl ?_
    rw [if_neg q1]
    refine go_run 0 (F' := (4, [some (.int p1)], [], h)) rfl ?_
    refine go_run 2 (F' := (6, [some (.int p1)], [.int 5, .int p1], h)) rfl ?_
    refine go_step rfl rfl ?_
    rw [if_pos q2]
    refine go_run 0 (F' := (13, [some (.int p1)], [], h)) rfl ?_
    refine go_run 1 (F' := (14, [some (.int p1)], [.int 0], h)) rfl ?_
    exact go_end rfl rfl
  refine go_run 0 (F' := (5, [some (.ref 134), some (.int p1)], [.int 0, .ref 134], h)) rfl ?_
  refine go_run 2 (F' := (13, [some (.ref 134), some (.int p1)], [.ref 134, .ref 134], h)) rfl ?_
  refine go_gf rfl c134 rfl ?_
  refine go_run 0 (F' := (16, [some (.ref 134), some (.int p1)], [.int 0, .ref 134], h)) rfl ?_
  refine go_run 3 (F' := (24, [some (.ref 134), some (.int p1)], [.int 2, .ref 134], h)) rfl ?_
  refine go_pf rfl c134 (Nat.le_of_ble_eq_true rfl) rfl rfl ?_
  refine go_run 0 (F' := (27, [some (.ref 134), some (.int p1)], [], (List.set h 134 (mo 2 ty fa wh ch it at_ bad co de 0 st sz tp am bm mn rm sp be wo)))) rfl ?_
  refine go_run 1 (F' := (28, [some (.ref 134), some (.int p1)], [.ref 134], (List.set h 134 (mo 2 ty fa wh ch it at_ bad co de 0 st sz tp am bm mn rm sp be wo)))) rfl ?_
  refine go_gf rfl (gs_self c134) rfl ?_
  refine go_run 0 (F' := (31, [some (.ref 134), some (.int p1)], [.int 2], (List.set h 134 (mo 2 ty fa wh ch it at_ bad co de 0 st sz tp am bm mn rm sp be wo)))) rfl ?_
  refine go_run 2 (F' := (43, [some (.ref 134), some (.int p1)], [.int 0], (List.set h 134 (mo 2 ty fa wh ch it at_ bad co de 0 st sz tp am bm mn rm sp be wo)))) rfl ?_
  exact go_end rfl rfl
set_option maxRecDepth 100000 in
theorem um_step_3 {X : ie_X} {d : Nat} {h : ie_H} {p1 t_ ty fa wh ch it at_ bad co de st sz tp am bm mn rm sp be wo : Int32} (c134 : h[134]? = some (mo t_ ty fa wh ch it at_ bad co de 0 st sz tp am bm mn rm sp be wo)) (q1 : ¬ (p1 < 0)) (q2 : ¬ (p1 ≤ 5)) : Go X (d + 1) 189 (0, ie_en 189 [.ref 134, .int p1], [], h) (.inl (some (.int 0))) (List.set h 134 (mo 1 ty fa wh ch it at_ bad co de 0 st sz tp am bm mn rm sp be wo)) := by
  refine go_run 0 (F' := (0, [some (.ref 134), some (.int p1)], [], h)) rfl ?_
  refine go_run 2 (F' := (2, [some (.ref 134), some (.int p1)], [.int p1, .ref 134], h)) rfl ?_
  refine go_call (m' := 183) (v := some (.int 1)) (h1 := h) rfl rfl ⟨rfl, Nat.le_of_ble_eq_true rfl⟩ ?_ ?_
  · refine go_run 0 (F' := (0, [some (.int p1)], [], h)) rfl ?_
    refine go_run 1 (F' := (1, [some (.int p1)], [.int p1], h)) rfl ?_
    refine go_step rfl rfl ?_
    rw [if_neg q1]
    refine go_run 0 (F' := (4, [some (.int p1)], [], h)) rfl ?_
    refine go_run 2 (F' := (6, [some (.int p1)], [.int 5, .int p1], h)) rfl ?_
    refine go_step rfl rfl ?_
    rw [if_neg q2]
    refine go_run 0 (F' := (9, [some (.int p1)], [], h)) rfl ?_
    refine go_run 2 (F' := (14, [some (.int p1)], [.int 1], h)) rfl ?_
    exact go_end rfl rfl
  refine go_run 0 (F' := (5, [some (.ref 134), some (.int p1)], [.int 1, .ref 134], h)) rfl ?_
  refine go_run 3 (F' := (24, [some (.ref 134), some (.int p1)], [.int 1, .ref 134], h)) rfl ?_
  refine go_pf rfl c134 (Nat.le_of_ble_eq_true rfl) rfl rfl ?_
  refine go_run 0 (F' := (27, [some (.ref 134), some (.int p1)], [], (List.set h 134 (mo 1 ty fa wh ch it at_ bad co de 0 st sz tp am bm mn rm sp be wo)))) rfl ?_
  refine go_run 1 (F' := (28, [some (.ref 134), some (.int p1)], [.ref 134], (List.set h 134 (mo 1 ty fa wh ch it at_ bad co de 0 st sz tp am bm mn rm sp be wo)))) rfl ?_
  refine go_gf rfl (gs_self c134) rfl ?_
  refine go_run 0 (F' := (31, [some (.ref 134), some (.int p1)], [.int 1], (List.set h 134 (mo 1 ty fa wh ch it at_ bad co de 0 st sz tp am bm mn rm sp be wo)))) rfl ?_
  refine go_run 2 (F' := (43, [some (.ref 134), some (.int p1)], [.int 0], (List.set h 134 (mo 1 ty fa wh ch it at_ bad co de 0 st sz tp am bm mn rm sp be wo)))) rfl ?_
  exact go_end rfl rfl
set_option maxRecDepth 100000 in
theorem uc_run_1 {X : ie_X} {d : Nat} {h : ie_H} {p1 p2 nl cf cw : Int32} (c0 : h[0]? = some (.inr (0, [.ref 1, .int nl, .int cf, .int cw, .null, .ref 2, .ref 133]))) (q1 : p1 < 0) : Go X (d + 3) 112 (0, ie_en 112 [.ref 0, .int p1, .int p2, .ref 177], [], h) (.inl (some (.int 1))) (h ++ [.inr (14, [])]) := by
  refine go_run 0 (F' := (0, [some (.ref 0), some (.int p1), some (.int p2), some (.ref 177), none], [], h)) rfl ?_
  refine go_run 5 (F' := (5, [some (.ref 0), some (.int p1), some (.int p2), some (.ref 177), none], [.int p2, .int p1, .ref 0, .int 0, .ref 177], h)) rfl ?_
  refine go_catch (m' := 113) (ci := 14) (h1 := (h ++ [.inr (14, [])])) rfl (by simp only [ie_step, ie_iv, List.drop, c0, if_true]; rfl) ⟨rfl, Nat.le_of_ble_eq_true rfl⟩ rfl rfl rfl ?_ ?_
  · refine go_run 0 (F' := (0, [some (.ref 0), some (.int p1), some (.int p2), none, none], [], h)) rfl ?_
    refine go_run 1 (F' := (1, [some (.ref 0), some (.int p1), some (.int p2), none, none], [.int p1], h)) rfl ?_
    refine go_out (m' := 80) rfl rfl ⟨rfl, Nat.le_of_ble_eq_true rfl⟩ rfl rfl ?_
    · refine go_run 0 (F' := (0, [some (.int p1)], [], h)) rfl ?_
      refine go_run 1 (F' := (1, [some (.int p1)], [.int p1], h)) rfl ?_
      refine go_call (m' := 33) (v := some (.int 0)) (h1 := h) rfl rfl ⟨rfl, Nat.le_of_ble_eq_true rfl⟩ ?_ ?_
      · refine go_run 0 (F' := (0, [some (.int p1)], [], h)) rfl ?_
        refine go_run 1 (F' := (1, [some (.int p1)], [.int p1], h)) rfl ?_
        refine go_step rfl rfl ?_
        rw [if_pos q1]
        refine go_run 0 (F' := (14, [some (.int p1)], [], h)) rfl ?_
        refine go_run 1 (F' := (15, [some (.int p1)], [.int 0], h)) rfl ?_
        exact go_end rfl rfl
      refine go_run 0 (F' := (4, [some (.int p1)], [.int 0], h)) rfl ?_
      refine go_run 1 (F' := (7, [some (.int p1)], [], h)) rfl ?_
      exact go_end rfl rfl
  refine go_run 0 (F' := (15, [some (.ref 0), some (.int p1), some (.int p2), some (.ref 177), none], [], (h ++ [.inr (14, [])]))) rfl ?_
  refine go_run 1 (F' := (16, [some (.ref 0), some (.int p1), some (.int p2), some (.ref 177), none], [.int 1], (h ++ [.inr (14, [])]))) rfl ?_
  exact go_end rfl rfl
set_option maxRecDepth 100000 in
theorem uc_run_2 {X : ie_X} {d : Nat} {h : ie_H} {p1 p2 nl cf cw : Int32} (c0 : h[0]? = some (.inr (0, [.ref 1, .int nl, .int cf, .int cw, .null, .ref 2, .ref 133]))) (q1 : ¬ (p1 < 0)) (q2 : 6 ≤ p1) : Go X (d + 3) 112 (0, ie_en 112 [.ref 0, .int p1, .int p2, .ref 177], [], h) (.inl (some (.int 1))) (h ++ [.inr (14, [])]) := by
  refine go_run 0 (F' := (0, [some (.ref 0), some (.int p1), some (.int p2), some (.ref 177), none], [], h)) rfl ?_
  refine go_run 5 (F' := (5, [some (.ref 0), some (.int p1), some (.int p2), some (.ref 177), none], [.int p2, .int p1, .ref 0, .int 0, .ref 177], h)) rfl ?_
  refine go_catch (m' := 113) (ci := 14) (h1 := (h ++ [.inr (14, [])])) rfl (by simp only [ie_step, ie_iv, List.drop, c0, if_true]; rfl) ⟨rfl, Nat.le_of_ble_eq_true rfl⟩ rfl rfl rfl ?_ ?_
  · refine go_run 0 (F' := (0, [some (.ref 0), some (.int p1), some (.int p2), none, none], [], h)) rfl ?_
    refine go_run 1 (F' := (1, [some (.ref 0), some (.int p1), some (.int p2), none, none], [.int p1], h)) rfl ?_
    refine go_out (m' := 80) rfl rfl ⟨rfl, Nat.le_of_ble_eq_true rfl⟩ rfl rfl ?_
    · refine go_run 0 (F' := (0, [some (.int p1)], [], h)) rfl ?_
      refine go_run 1 (F' := (1, [some (.int p1)], [.int p1], h)) rfl ?_
      refine go_call (m' := 33) (v := some (.int 0)) (h1 := h) rfl rfl ⟨rfl, Nat.le_of_ble_eq_true rfl⟩ ?_ ?_
      · refine go_run 0 (F' := (0, [some (.int p1)], [], h)) rfl ?_
        refine go_run 1 (F' := (1, [some (.int p1)], [.int p1], h)) rfl ?_
        refine go_step rfl rfl ?_
        rw [if_neg q1]
        refine go_run 0 (F' := (4, [some (.int p1)], [], h)) rfl ?_
        refine go_run 2 (F' := (7, [some (.int p1)], [.int 6, .int p1], h)) rfl ?_
        refine go_step rfl rfl ?_
        rw [if_pos q2]
        refine go_run 0 (F' := (14, [some (.int p1)], [], h)) rfl ?_
        refine go_run 1 (F' := (15, [some (.int p1)], [.int 0], h)) rfl ?_
        exact go_end rfl rfl
      refine go_run 0 (F' := (4, [some (.int p1)], [.int 0], h)) rfl ?_
      refine go_run 1 (F' := (7, [some (.int p1)], [], h)) rfl ?_
      exact go_end rfl rfl
  refine go_run 0 (F' := (15, [some (.ref 0), some (.int p1), some (.int p2), some (.ref 177), none], [], (h ++ [.inr (14, [])]))) rfl ?_
  refine go_run 1 (F' := (16, [some (.ref 0), some (.int p1), some (.int p2), some (.ref 177), none], [.int 1], (h ++ [.inr (14, [])]))) rfl ?_
  exact go_end rfl rfl
set_option maxRecDepth 100000 in
theorem uc_run_3 {X : ie_X} {d : Nat} {h : ie_H} {p1 p2 nl cf cw : Int32} (c0 : h[0]? = some (.inr (0, [.ref 1, .int nl, .int cf, .int cw, .null, .ref 2, .ref 133]))) (q1 : ¬ (p1 < 0)) (q2 : ¬ (6 ≤ p1)) (q3 : p2 < 0) : Go X (d + 3) 112 (0, ie_en 112 [.ref 0, .int p1, .int p2, .ref 177], [], h) (.inl (some (.int 2))) (h ++ [.inr (11, [])]) := by
  refine go_run 0 (F' := (0, [some (.ref 0), some (.int p1), some (.int p2), some (.ref 177), none], [], h)) rfl ?_
  refine go_run 5 (F' := (5, [some (.ref 0), some (.int p1), some (.int p2), some (.ref 177), none], [.int p2, .int p1, .ref 0, .int 0, .ref 177], h)) rfl ?_
  refine go_catch (m' := 113) (ci := 11) (h1 := (h ++ [.inr (11, [])])) rfl (by simp only [ie_step, ie_iv, List.drop, c0, if_true]; rfl) ⟨rfl, Nat.le_of_ble_eq_true rfl⟩ rfl rfl rfl ?_ ?_
  · refine go_run 0 (F' := (0, [some (.ref 0), some (.int p1), some (.int p2), none, none], [], h)) rfl ?_
    refine go_run 1 (F' := (1, [some (.ref 0), some (.int p1), some (.int p2), none, none], [.int p1], h)) rfl ?_
    refine go_call (m' := 80) (v := none) (h1 := h) rfl rfl ⟨rfl, Nat.le_of_ble_eq_true rfl⟩ ?_ ?_
    · refine go_run 0 (F' := (0, [some (.int p1)], [], h)) rfl ?_
      refine go_run 1 (F' := (1, [some (.int p1)], [.int p1], h)) rfl ?_
      refine go_call (m' := 33) (v := some (.int 1)) (h1 := h) rfl rfl ⟨rfl, Nat.le_of_ble_eq_true rfl⟩ ?_ ?_
      · refine go_run 0 (F' := (0, [some (.int p1)], [], h)) rfl ?_
        refine go_run 1 (F' := (1, [some (.int p1)], [.int p1], h)) rfl ?_
        refine go_step rfl rfl ?_
        rw [if_neg q1]
        refine go_run 0 (F' := (4, [some (.int p1)], [], h)) rfl ?_
        refine go_run 2 (F' := (7, [some (.int p1)], [.int 6, .int p1], h)) rfl ?_
        refine go_step rfl rfl ?_
        rw [if_neg q2]
        refine go_run 0 (F' := (10, [some (.int p1)], [], h)) rfl ?_
        refine go_run 2 (F' := (15, [some (.int p1)], [.int 1], h)) rfl ?_
        exact go_end rfl rfl
      refine go_run 0 (F' := (4, [some (.int p1)], [.int 1], h)) rfl ?_
      refine go_run 1 (F' := (15, [some (.int p1)], [], h)) rfl ?_
      exact go_end rfl rfl
    refine go_run 0 (F' := (4, [some (.ref 0), some (.int p1), some (.int p2), none, none], [], h)) rfl ?_
    refine go_run 1 (F' := (5, [some (.ref 0), some (.int p1), some (.int p2), none, none], [.int p2], h)) rfl ?_
    refine go_step rfl rfl ?_
    rw [if_pos q3]
    refine go_run 0 (F' := (15, [some (.ref 0), some (.int p1), some (.int p2), none, none], [], h)) rfl ?_
    exact go_end rfl rfl
  refine go_run 0 (F' := (19, [some (.ref 0), some (.int p1), some (.int p2), some (.ref 177), none], [], (h ++ [.inr (11, [])]))) rfl ?_
  refine go_run 1 (F' := (20, [some (.ref 0), some (.int p1), some (.int p2), some (.ref 177), none], [.int 2], (h ++ [.inr (11, [])]))) rfl ?_
  exact go_end rfl rfl
set_option maxRecDepth 100000 in
theorem uc_run_4 {X : ie_X} {d : Nat} {h : ie_H} {p1 p2 nl cf cw : Int32} (c0 : h[0]? = some (.inr (0, [.ref 1, .int nl, .int cf, .int cw, .null, .ref 2, .ref 133]))) (q1 : ¬ (p1 < 0)) (q2 : ¬ (6 ≤ p1)) (q3 : ¬ (p2 < 0)) (q4 : p2 ≤ 300) : Go X (d + 3) 112 (0, ie_en 112 [.ref 0, .int p1, .int p2, .ref 177], [], h) (.inl (some (.int 3))) (h ++ [.inr (12, [])]) := by
  refine go_run 0 (F' := (0, [some (.ref 0), some (.int p1), some (.int p2), some (.ref 177), none], [], h)) rfl ?_
  refine go_run 5 (F' := (5, [some (.ref 0), some (.int p1), some (.int p2), some (.ref 177), none], [.int p2, .int p1, .ref 0, .int 0, .ref 177], h)) rfl ?_
  refine go_catch (m' := 113) (ci := 12) (h1 := (h ++ [.inr (12, [])])) rfl (by simp only [ie_step, ie_iv, List.drop, c0, if_true]; rfl) ⟨rfl, Nat.le_of_ble_eq_true rfl⟩ rfl rfl rfl ?_ ?_
  · refine go_run 0 (F' := (0, [some (.ref 0), some (.int p1), some (.int p2), none, none], [], h)) rfl ?_
    refine go_run 1 (F' := (1, [some (.ref 0), some (.int p1), some (.int p2), none, none], [.int p1], h)) rfl ?_
    refine go_call (m' := 80) (v := none) (h1 := h) rfl rfl ⟨rfl, Nat.le_of_ble_eq_true rfl⟩ ?_ ?_
    · refine go_run 0 (F' := (0, [some (.int p1)], [], h)) rfl ?_
      refine go_run 1 (F' := (1, [some (.int p1)], [.int p1], h)) rfl ?_
      refine go_call (m' := 33) (v := some (.int 1)) (h1 := h) rfl rfl ⟨rfl, Nat.le_of_ble_eq_true rfl⟩ ?_ ?_
      · refine go_run 0 (F' := (0, [some (.int p1)], [], h)) rfl ?_
        refine go_run 1 (F' := (1, [some (.int p1)], [.int p1], h)) rfl ?_
        refine go_step rfl rfl ?_
        rw [if_neg q1]
        refine go_run 0 (F' := (4, [some (.int p1)], [], h)) rfl ?_
        refine go_run 2 (F' := (7, [some (.int p1)], [.int 6, .int p1], h)) rfl ?_
        refine go_step rfl rfl ?_
        rw [if_neg q2]
        refine go_run 0 (F' := (10, [some (.int p1)], [], h)) rfl ?_
        refine go_run 2 (F' := (15, [some (.int p1)], [.int 1], h)) rfl ?_
        exact go_end rfl rfl
      refine go_run 0 (F' := (4, [some (.int p1)], [.int 1], h)) rfl ?_
      refine go_run 1 (F' := (15, [some (.int p1)], [], h)) rfl ?_
      exact go_end rfl rfl
    refine go_run 0 (F' := (4, [some (.ref 0), some (.int p1), some (.int p2), none, none], [], h)) rfl ?_
    refine go_run 1 (F' := (5, [some (.ref 0), some (.int p1), some (.int p2), none, none], [.int p2], h)) rfl ?_
    refine go_step rfl rfl ?_
    rw [if_neg q3]
    refine go_run 0 (F' := (8, [some (.ref 0), some (.int p1), some (.int p2), none, none], [], h)) rfl ?_
    refine go_run 2 (F' := (12, [some (.ref 0), some (.int p1), some (.int p2), none, none], [.int 300, .int p2], h)) rfl ?_
    refine go_step rfl rfl ?_
    rw [if_pos q4]
    refine go_run 0 (F' := (23, [some (.ref 0), some (.int p1), some (.int p2), none, none], [], h)) rfl ?_
    refine go_run 1 (F' := (24, [some (.ref 0), some (.int p1), some (.int p2), none, none], [.ref 0], h)) rfl ?_
    refine go_out (m' := 81) rfl (by simp only [ie_step, ie_iv, List.drop, c0, if_true]; rfl) ⟨rfl, Nat.le_of_ble_eq_true rfl⟩ rfl rfl ?_
    · refine go_run 0 (F' := (0, [some (.ref 0)], [], h)) rfl ?_
      refine go_run 1 (F' := (1, [some (.ref 0)], [.ref 0], h)) rfl ?_
      refine go_gf rfl c0 rfl ?_
      refine go_run 0 (F' := (4, [some (.ref 0)], [.null], h)) rfl ?_
      refine go_run 1 (F' := (7, [some (.ref 0)], [], h)) rfl ?_
      exact go_end rfl rfl
  refine go_run 0 (F' := (23, [some (.ref 0), some (.int p1), some (.int p2), some (.ref 177), none], [], (h ++ [.inr (12, [])]))) rfl ?_
  refine go_run 1 (F' := (24, [some (.ref 0), some (.int p1), some (.int p2), some (.ref 177), none], [.int 3], (h ++ [.inr (12, [])]))) rfl ?_
  exact go_end rfl rfl
set_option maxRecDepth 100000 in
theorem uc_run_5 {X : ie_X} {d : Nat} {h : ie_H} {p1 p2 nl cf cw : Int32} (c0 : h[0]? = some (.inr (0, [.ref 1, .int nl, .int cf, .int cw, .null, .ref 2, .ref 133]))) (q1 : ¬ (p1 < 0)) (q2 : ¬ (6 ≤ p1)) (q3 : ¬ (p2 < 0)) (q4 : ¬ (p2 ≤ 300)) : Go X (d + 3) 112 (0, ie_en 112 [.ref 0, .int p1, .int p2, .ref 177], [], h) (.inl (some (.int 2))) (h ++ [.inr (11, [])]) := by
  refine go_run 0 (F' := (0, [some (.ref 0), some (.int p1), some (.int p2), some (.ref 177), none], [], h)) rfl ?_
  refine go_run 5 (F' := (5, [some (.ref 0), some (.int p1), some (.int p2), some (.ref 177), none], [.int p2, .int p1, .ref 0, .int 0, .ref 177], h)) rfl ?_
  refine go_catch (m' := 113) (ci := 11) (h1 := (h ++ [.inr (11, [])])) rfl (by simp only [ie_step, ie_iv, List.drop, c0, if_true]; rfl) ⟨rfl, Nat.le_of_ble_eq_true rfl⟩ rfl rfl rfl ?_ ?_
  · refine go_run 0 (F' := (0, [some (.ref 0), some (.int p1), some (.int p2), none, none], [], h)) rfl ?_
    refine go_run 1 (F' := (1, [some (.ref 0), some (.int p1), some (.int p2), none, none], [.int p1], h)) rfl ?_
    refine go_call (m' := 80) (v := none) (h1 := h) rfl rfl ⟨rfl, Nat.le_of_ble_eq_true rfl⟩ ?_ ?_
    · refine go_run 0 (F' := (0, [some (.int p1)], [], h)) rfl ?_
      refine go_run 1 (F' := (1, [some (.int p1)], [.int p1], h)) rfl ?_
      refine go_call (m' := 33) (v := some (.int 1)) (h1 := h) rfl rfl ⟨rfl, Nat.le_of_ble_eq_true rfl⟩ ?_ ?_
      · refine go_run 0 (F' := (0, [some (.int p1)], [], h)) rfl ?_
        refine go_run 1 (F' := (1, [some (.int p1)], [.int p1], h)) rfl ?_
        refine go_step rfl rfl ?_
        rw [if_neg q1]
        refine go_run 0 (F' := (4, [some (.int p1)], [], h)) rfl ?_
        refine go_run 2 (F' := (7, [some (.int p1)], [.int 6, .int p1], h)) rfl ?_
        refine go_step rfl rfl ?_
        rw [if_neg q2]
        refine go_run 0 (F' := (10, [some (.int p1)], [], h)) rfl ?_
        refine go_run 2 (F' := (15, [some (.int p1)], [.int 1], h)) rfl ?_
        exact go_end rfl rfl
      refine go_run 0 (F' := (4, [some (.int p1)], [.int 1], h)) rfl ?_
      refine go_run 1 (F' := (15, [some (.int p1)], [], h)) rfl ?_
      exact go_end rfl rfl
    refine go_run 0 (F' := (4, [some (.ref 0), some (.int p1), some (.int p2), none, none], [], h)) rfl ?_
    refine go_run 1 (F' := (5, [some (.ref 0), some (.int p1), some (.int p2), none, none], [.int p2], h)) rfl ?_
    refine go_step rfl rfl ?_
    rw [if_neg q3]
    refine go_run 0 (F' := (8, [some (.ref 0), some (.int p1), some (.int p2), none, none], [], h)) rfl ?_
    refine go_run 2 (F' := (12, [some (.ref 0), some (.int p1), some (.int p2), none, none], [.int 300, .int p2], h)) rfl ?_
    refine go_step rfl rfl ?_
    rw [if_neg q4]
    refine go_run 0 (F' := (15, [some (.ref 0), some (.int p1), some (.int p2), none, none], [], h)) rfl ?_
    exact go_end rfl rfl
  refine go_run 0 (F' := (19, [some (.ref 0), some (.int p1), some (.int p2), some (.ref 177), none], [], (h ++ [.inr (11, [])]))) rfl ?_
  refine go_run 1 (F' := (20, [some (.ref 0), some (.int p1), some (.int p2), some (.ref 177), none], [.int 2], (h ++ [.inr (11, [])]))) rfl ?_
  exact go_end rfl rfl
set_option maxRecDepth 100000 in
theorem um_run_1 {X : ie_X} {d : Nat} {h : ie_H} {p1 p2 t_ ty fa wh ch it at_ bad co de st sz tp am bm mn rm sp be wo : Int32} (c134 : h[134]? = some (mo t_ ty fa wh ch it at_ bad co de 0 st sz tp am bm mn rm sp be wo)) (q1 : p1 < 0) : Go X (d + 1) 209 (0, ie_en 209 [.ref 134, .int p1, .int p2], [], h) (.inl (some (.int 0))) (List.set h 134 (mo 1 ty fa wh ch it at_ bad co de 0 st sz tp am bm mn rm sp be wo)) := by
  refine go_run 0 (F' := (0, [some (.ref 134), some (.int p1), some (.int p2), none, none], [], h)) rfl ?_
  refine go_run 2 (F' := (2, [some (.ref 134), some (.int p1), some (.int p2), none, none], [.int p1, .ref 134], h)) rfl ?_
  refine go_call (m' := 183) (v := some (.int 1)) (h1 := h) rfl rfl ⟨rfl, Nat.le_of_ble_eq_true rfl⟩ ?_ ?_
  · refine go_run 0 (F' := (0, [some (.int p1)], [], h)) rfl ?_
    refine go_run 1 (F' := (1, [some (.int p1)], [.int p1], h)) rfl ?_
    refine go_step rfl rfl ?_
    rw [if_pos q1]
    refine go_run 0 (F' := (9, [some (.int p1)], [], h)) rfl ?_
    refine go_run 2 (F' := (14, [some (.int p1)], [.int 1], h)) rfl ?_
    exact go_end rfl rfl
  refine go_run 0 (F' := (5, [some (.ref 134), some (.int p1), some (.int p2), none, none], [.int 1, .ref 134], h)) rfl ?_
  refine go_run 3 (F' := (39, [some (.ref 134), some (.int p1), some (.int p2), none, none], [.int 1, .ref 134], h)) rfl ?_
  refine go_pf rfl c134 (Nat.le_of_ble_eq_true rfl) rfl rfl ?_
  refine go_run 0 (F' := (42, [some (.ref 134), some (.int p1), some (.int p2), none, none], [], (List.set h 134 (mo 1 ty fa wh ch it at_ bad co de 0 st sz tp am bm mn rm sp be wo)))) rfl ?_
  refine go_run 1 (F' := (43, [some (.ref 134), some (.int p1), some (.int p2), none, none], [.ref 134], (List.set h 134 (mo 1 ty fa wh ch it at_ bad co de 0 st sz tp am bm mn rm sp be wo)))) rfl ?_
  refine go_gf rfl (gs_self c134) rfl ?_
  refine go_run 0 (F' := (46, [some (.ref 134), some (.int p1), some (.int p2), none, none], [.int 1], (List.set h 134 (mo 1 ty fa wh ch it at_ bad co de 0 st sz tp am bm mn rm sp be wo)))) rfl ?_
  refine go_run 2 (F' := (50, [some (.ref 134), some (.int p1), some (.int p2), none, none], [.int 0], (List.set h 134 (mo 1 ty fa wh ch it at_ bad co de 0 st sz tp am bm mn rm sp be wo)))) rfl ?_
  exact go_end rfl rfl
set_option maxRecDepth 100000 in
theorem um_run_2 {X : ie_X} {d : Nat} {h : ie_H} {p1 p2 t_ ty fa wh ch it at_ bad co de st sz tp am bm mn rm sp be wo : Int32} (c134 : h[134]? = some (mo t_ ty fa wh ch it at_ bad co de 0 st sz tp am bm mn rm sp be wo)) (q1 : ¬ (p1 < 0)) (q2 : ¬ (p1 ≤ 5)) : Go X (d + 1) 209 (0, ie_en 209 [.ref 134, .int p1, .int p2], [], h) (.inl (some (.int 0))) (List.set h 134 (mo 1 ty fa wh ch it at_ bad co de 0 st sz tp am bm mn rm sp be wo)) := by
  refine go_run 0 (F' := (0, [some (.ref 134), some (.int p1), some (.int p2), none, none], [], h)) rfl ?_
  refine go_run 2 (F' := (2, [some (.ref 134), some (.int p1), some (.int p2), none, none], [.int p1, .ref 134], h)) rfl ?_
  refine go_call (m' := 183) (v := some (.int 1)) (h1 := h) rfl rfl ⟨rfl, Nat.le_of_ble_eq_true rfl⟩ ?_ ?_
  · refine go_run 0 (F' := (0, [some (.int p1)], [], h)) rfl ?_
    refine go_run 1 (F' := (1, [some (.int p1)], [.int p1], h)) rfl ?_
    refine go_step rfl rfl ?_
    rw [if_neg q1]
    refine go_run 0 (F' := (4, [some (.int p1)], [], h)) rfl ?_
    refine go_run 2 (F' := (6, [some (.int p1)], [.int 5, .int p1], h)) rfl ?_
    refine go_step rfl rfl ?_
    rw [if_neg q2]
    refine go_run 0 (F' := (9, [some (.int p1)], [], h)) rfl ?_
    refine go_run 2 (F' := (14, [some (.int p1)], [.int 1], h)) rfl ?_
    exact go_end rfl rfl
  refine go_run 0 (F' := (5, [some (.ref 134), some (.int p1), some (.int p2), none, none], [.int 1, .ref 134], h)) rfl ?_
  refine go_run 3 (F' := (39, [some (.ref 134), some (.int p1), some (.int p2), none, none], [.int 1, .ref 134], h)) rfl ?_
  refine go_pf rfl c134 (Nat.le_of_ble_eq_true rfl) rfl rfl ?_
  refine go_run 0 (F' := (42, [some (.ref 134), some (.int p1), some (.int p2), none, none], [], (List.set h 134 (mo 1 ty fa wh ch it at_ bad co de 0 st sz tp am bm mn rm sp be wo)))) rfl ?_
  refine go_run 1 (F' := (43, [some (.ref 134), some (.int p1), some (.int p2), none, none], [.ref 134], (List.set h 134 (mo 1 ty fa wh ch it at_ bad co de 0 st sz tp am bm mn rm sp be wo)))) rfl ?_
  refine go_gf rfl (gs_self c134) rfl ?_
  refine go_run 0 (F' := (46, [some (.ref 134), some (.int p1), some (.int p2), none, none], [.int 1], (List.set h 134 (mo 1 ty fa wh ch it at_ bad co de 0 st sz tp am bm mn rm sp be wo)))) rfl ?_
  refine go_run 2 (F' := (50, [some (.ref 134), some (.int p1), some (.int p2), none, none], [.int 0], (List.set h 134 (mo 1 ty fa wh ch it at_ bad co de 0 st sz tp am bm mn rm sp be wo)))) rfl ?_
  exact go_end rfl rfl
set_option maxRecDepth 100000 in
theorem um_run_3 {X : ie_X} {d : Nat} {h : ie_H} {p1 p2 t_ ty fa wh ch it at_ bad co de st sz tp am bm mn rm sp be wo : Int32} (c134 : h[134]? = some (mo t_ ty fa wh ch it at_ bad co de 0 st sz tp am bm mn rm sp be wo)) (q1 : ¬ (p1 < 0)) (q2 : p1 ≤ 5) (q3 : p2 < 0) : Go X (d + 1) 209 (0, ie_en 209 [.ref 134, .int p1, .int p2], [], h) (.inl (some (.int 0))) (List.set h 134 (mo 2 ty fa wh ch it at_ bad co de 0 st sz tp am bm mn rm sp be wo)) := by
  refine go_run 0 (F' := (0, [some (.ref 134), some (.int p1), some (.int p2), none, none], [], h)) rfl ?_
  refine go_run 2 (F' := (2, [some (.ref 134), some (.int p1), some (.int p2), none, none], [.int p1, .ref 134], h)) rfl ?_
  refine go_call (m' := 183) (v := some (.int 0)) (h1 := h) rfl rfl ⟨rfl, Nat.le_of_ble_eq_true rfl⟩ ?_ ?_
  · refine go_run 0 (F' := (0, [some (.int p1)], [], h)) rfl ?_
    refine go_run 1 (F' := (1, [some (.int p1)], [.int p1], h)) rfl ?_
    refine go_step rfl rfl ?_
    rw [if_neg q1]
    refine go_run 0 (F' := (4, [some (.int p1)], [], h)) rfl ?_
    refine go_run 2 (F' := (6, [some (.int p1)], [.int 5, .int p1], h)) rfl ?_
    refine go_step rfl rfl ?_
    rw [if_pos q2]
    refine go_run 0 (F' := (13, [some (.int p1)], [], h)) rfl ?_
    refine go_run 1 (F' := (14, [some (.int p1)], [.int 0], h)) rfl ?_
    exact go_end rfl rfl
  refine go_run 0 (F' := (5, [some (.ref 134), some (.int p1), some (.int p2), none, none], [.int 0, .ref 134], h)) rfl ?_
  refine go_run 2 (F' := (13, [some (.ref 134), some (.int p1), some (.int p2), none, none], [.int p2, .ref 134], h)) rfl ?_
  refine go_step rfl rfl ?_
  rw [if_pos q3]
  refine go_run 0 (F' := (23, [some (.ref 134), some (.int p1), some (.int p2), none, none], [.ref 134], h)) rfl ?_
  refine go_run 2 (F' := (39, [some (.ref 134), some (.int p1), some (.int p2), none, none], [.int 2, .ref 134], h)) rfl ?_
  refine go_pf rfl c134 (Nat.le_of_ble_eq_true rfl) rfl rfl ?_
  refine go_run 0 (F' := (42, [some (.ref 134), some (.int p1), some (.int p2), none, none], [], (List.set h 134 (mo 2 ty fa wh ch it at_ bad co de 0 st sz tp am bm mn rm sp be wo)))) rfl ?_
  refine go_run 1 (F' := (43, [some (.ref 134), some (.int p1), some (.int p2), none, none], [.ref 134], (List.set h 134 (mo 2 ty fa wh ch it at_ bad co de 0 st sz tp am bm mn rm sp be wo)))) rfl ?_
  refine go_gf rfl (gs_self c134) rfl ?_
  refine go_run 0 (F' := (46, [some (.ref 134), some (.int p1), some (.int p2), none, none], [.int 2], (List.set h 134 (mo 2 ty fa wh ch it at_ bad co de 0 st sz tp am bm mn rm sp be wo)))) rfl ?_
  refine go_run 2 (F' := (50, [some (.ref 134), some (.int p1), some (.int p2), none, none], [.int 0], (List.set h 134 (mo 2 ty fa wh ch it at_ bad co de 0 st sz tp am bm mn rm sp be wo)))) rfl ?_
  exact go_end rfl rfl
set_option maxRecDepth 100000 in
theorem um_run_4 {X : ie_X} {d : Nat} {h : ie_H} {p1 p2 t_ ty fa wh ch it at_ bad co de st sz tp am bm mn rm sp be wo : Int32} (c134 : h[134]? = some (mo t_ ty fa wh ch it at_ bad co de 0 st sz tp am bm mn rm sp be wo)) (q1 : ¬ (p1 < 0)) (q2 : p1 ≤ 5) (q3 : ¬ (p2 < 0)) (q4 : p2 ≤ 300) : Go X (d + 1) 209 (0, ie_en 209 [.ref 134, .int p1, .int p2], [], h) (.inl (some (.int 0))) (List.set h 134 (mo 3 ty fa wh ch it at_ bad co de 0 st sz tp am bm mn rm sp be wo)) := by
  refine go_run 0 (F' := (0, [some (.ref 134), some (.int p1), some (.int p2), none, none], [], h)) rfl ?_
  refine go_run 2 (F' := (2, [some (.ref 134), some (.int p1), some (.int p2), none, none], [.int p1, .ref 134], h)) rfl ?_
  refine go_call (m' := 183) (v := some (.int 0)) (h1 := h) rfl rfl ⟨rfl, Nat.le_of_ble_eq_true rfl⟩ ?_ ?_
  · refine go_run 0 (F' := (0, [some (.int p1)], [], h)) rfl ?_
    refine go_run 1 (F' := (1, [some (.int p1)], [.int p1], h)) rfl ?_
    refine go_step rfl rfl ?_
    rw [if_neg q1]
    refine go_run 0 (F' := (4, [some (.int p1)], [], h)) rfl ?_
    refine go_run 2 (F' := (6, [some (.int p1)], [.int 5, .int p1], h)) rfl ?_
    refine go_step rfl rfl ?_
    rw [if_pos q2]
    refine go_run 0 (F' := (13, [some (.int p1)], [], h)) rfl ?_
    refine go_run 1 (F' := (14, [some (.int p1)], [.int 0], h)) rfl ?_
    exact go_end rfl rfl
  refine go_run 0 (F' := (5, [some (.ref 134), some (.int p1), some (.int p2), none, none], [.int 0, .ref 134], h)) rfl ?_
  refine go_run 2 (F' := (13, [some (.ref 134), some (.int p1), some (.int p2), none, none], [.int p2, .ref 134], h)) rfl ?_
  refine go_step rfl rfl ?_
  rw [if_neg q3]
  refine go_run 0 (F' := (16, [some (.ref 134), some (.int p1), some (.int p2), none, none], [.ref 134], h)) rfl ?_
  refine go_run 2 (F' := (20, [some (.ref 134), some (.int p1), some (.int p2), none, none], [.int 300, .int p2, .ref 134], h)) rfl ?_
  refine go_step rfl rfl ?_
  rw [if_pos q4]
  refine go_run 0 (F' := (27, [some (.ref 134), some (.int p1), some (.int p2), none, none], [.ref 134], h)) rfl ?_
  refine go_run 1 (F' := (28, [some (.ref 134), some (.int p1), some (.int p2), none, none], [.ref 134, .ref 134], h)) rfl ?_
  refine go_gf rfl c134 rfl ?_
  refine go_run 0 (F' := (31, [some (.ref 134), some (.int p1), some (.int p2), none, none], [.int 0, .ref 134], h)) rfl ?_
  refine go_run 3 (F' := (39, [some (.ref 134), some (.int p1), some (.int p2), none, none], [.int 3, .ref 134], h)) rfl ?_
  refine go_pf rfl c134 (Nat.le_of_ble_eq_true rfl) rfl rfl ?_
  refine go_run 0 (F' := (42, [some (.ref 134), some (.int p1), some (.int p2), none, none], [], (List.set h 134 (mo 3 ty fa wh ch it at_ bad co de 0 st sz tp am bm mn rm sp be wo)))) rfl ?_
  refine go_run 1 (F' := (43, [some (.ref 134), some (.int p1), some (.int p2), none, none], [.ref 134], (List.set h 134 (mo 3 ty fa wh ch it at_ bad co de 0 st sz tp am bm mn rm sp be wo)))) rfl ?_
  refine go_gf rfl (gs_self c134) rfl ?_
  refine go_run 0 (F' := (46, [some (.ref 134), some (.int p1), some (.int p2), none, none], [.int 3], (List.set h 134 (mo 3 ty fa wh ch it at_ bad co de 0 st sz tp am bm mn rm sp be wo)))) rfl ?_
  refine go_run 2 (F' := (50, [some (.ref 134), some (.int p1), some (.int p2), none, none], [.int 0], (List.set h 134 (mo 3 ty fa wh ch it at_ bad co de 0 st sz tp am bm mn rm sp be wo)))) rfl ?_
  exact go_end rfl rfl
set_option maxRecDepth 100000 in
theorem um_run_5 {X : ie_X} {d : Nat} {h : ie_H} {p1 p2 t_ ty fa wh ch it at_ bad co de st sz tp am bm mn rm sp be wo : Int32} (c134 : h[134]? = some (mo t_ ty fa wh ch it at_ bad co de 0 st sz tp am bm mn rm sp be wo)) (q1 : ¬ (p1 < 0)) (q2 : p1 ≤ 5) (q3 : ¬ (p2 < 0)) (q4 : ¬ (p2 ≤ 300)) : Go X (d + 1) 209 (0, ie_en 209 [.ref 134, .int p1, .int p2], [], h) (.inl (some (.int 0))) (List.set h 134 (mo 2 ty fa wh ch it at_ bad co de 0 st sz tp am bm mn rm sp be wo)) := by
  refine go_run 0 (F' := (0, [some (.ref 134), some (.int p1), some (.int p2), none, none], [], h)) rfl ?_
  refine go_run 2 (F' := (2, [some (.ref 134), some (.int p1), some (.int p2), none, none], [.int p1, .ref 134], h)) rfl ?_
  refine go_call (m' := 183) (v := some (.int 0)) (h1 := h) rfl rfl ⟨rfl, Nat.le_of_ble_eq_true rfl⟩ ?_ ?_
  · refine go_run 0 (F' := (0, [some (.int p1)], [], h)) rfl ?_
    refine go_run 1 (F' := (1, [some (.int p1)], [.int p1], h)) rfl ?_
    refine go_step rfl rfl ?_
    rw [if_neg q1]
    refine go_run 0 (F' := (4, [some (.int p1)], [], h)) rfl ?_
    refine go_run 2 (F' := (6, [some (.int p1)], [.int 5, .int p1], h)) rfl ?_
    refine go_step rfl rfl ?_
    rw [if_pos q2]
    refine go_run 0 (F' := (13, [some (.int p1)], [], h)) rfl ?_
    refine go_run 1 (F' := (14, [some (.int p1)], [.int 0], h)) rfl ?_
    exact go_end rfl rfl
  refine go_run 0 (F' := (5, [some (.ref 134), some (.int p1), some (.int p2), none, none], [.int 0, .ref 134], h)) rfl ?_
  refine go_run 2 (F' := (13, [some (.ref 134), some (.int p1), some (.int p2), none, none], [.int p2, .ref 134], h)) rfl ?_
  refine go_step rfl rfl ?_
  rw [if_neg q3]
  refine go_run 0 (F' := (16, [some (.ref 134), some (.int p1), some (.int p2), none, none], [.ref 134], h)) rfl ?_
  refine go_run 2 (F' := (20, [some (.ref 134), some (.int p1), some (.int p2), none, none], [.int 300, .int p2, .ref 134], h)) rfl ?_
  refine go_step rfl rfl ?_
  rw [if_neg q4]
  refine go_run 0 (F' := (23, [some (.ref 134), some (.int p1), some (.int p2), none, none], [.ref 134], h)) rfl ?_
  refine go_run 2 (F' := (39, [some (.ref 134), some (.int p1), some (.int p2), none, none], [.int 2, .ref 134], h)) rfl ?_
  refine go_pf rfl c134 (Nat.le_of_ble_eq_true rfl) rfl rfl ?_
  refine go_run 0 (F' := (42, [some (.ref 134), some (.int p1), some (.int p2), none, none], [], (List.set h 134 (mo 2 ty fa wh ch it at_ bad co de 0 st sz tp am bm mn rm sp be wo)))) rfl ?_
  refine go_run 1 (F' := (43, [some (.ref 134), some (.int p1), some (.int p2), none, none], [.ref 134], (List.set h 134 (mo 2 ty fa wh ch it at_ bad co de 0 st sz tp am bm mn rm sp be wo)))) rfl ?_
  refine go_gf rfl (gs_self c134) rfl ?_
  refine go_run 0 (F' := (46, [some (.ref 134), some (.int p1), some (.int p2), none, none], [.int 2], (List.set h 134 (mo 2 ty fa wh ch it at_ bad co de 0 st sz tp am bm mn rm sp be wo)))) rfl ?_
  refine go_run 2 (F' := (50, [some (.ref 134), some (.int p1), some (.int p2), none, none], [.int 0], (List.set h 134 (mo 2 ty fa wh ch it at_ bad co de 0 st sz tp am bm mn rm sp be wo)))) rfl ?_
  exact go_end rfl rfl
set_option maxRecDepth 100000 in
theorem uc_at_1 {X : ie_X} {d : Nat} {h : ie_H} {p1 nl cf cw : Int32} (c0 : h[0]? = some (.inr (0, [.ref 1, .int nl, .int cf, .int cw, .null, .ref 2, .ref 133]))) (q1 : p1 < 0) : Go X (d + 3) 114 (0, ie_en 114 [.ref 0, .int p1, .ref 177], [], h) (.inl (some (.int 1))) (h ++ [.inr (14, [])]) := by
  refine go_run 0 (F' := (0, [some (.ref 0), some (.int p1), some (.ref 177), none], [], h)) rfl ?_
  refine go_run 4 (F' := (4, [some (.ref 0), some (.int p1), some (.ref 177), none], [.int p1, .ref 0, .int 0, .ref 177], h)) rfl ?_
  refine go_catch (m' := 115) (ci := 14) (h1 := (h ++ [.inr (14, [])])) rfl (by simp only [ie_step, ie_iv, List.drop, c0, if_true]; rfl) ⟨rfl, Nat.le_of_ble_eq_true rfl⟩ rfl rfl rfl ?_ ?_
  · refine go_run 0 (F' := (0, [some (.ref 0), some (.int p1), none], [], h)) rfl ?_
    refine go_run 1 (F' := (1, [some (.ref 0), some (.int p1), none], [.int p1], h)) rfl ?_
    refine go_out (m' := 80) rfl rfl ⟨rfl, Nat.le_of_ble_eq_true rfl⟩ rfl rfl ?_
    · refine go_run 0 (F' := (0, [some (.int p1)], [], h)) rfl ?_
      refine go_run 1 (F' := (1, [some (.int p1)], [.int p1], h)) rfl ?_
      refine go_call (m' := 33) (v := some (.int 0)) (h1 := h) rfl rfl ⟨rfl, Nat.le_of_ble_eq_true rfl⟩ ?_ ?_
      · refine go_run 0 (F' := (0, [some (.int p1)], [], h)) rfl ?_
        refine go_run 1 (F' := (1, [some (.int p1)], [.int p1], h)) rfl ?_
        refine go_step rfl rfl ?_
        rw [if_pos q1]
        refine go_run 0 (F' := (14, [some (.int p1)], [], h)) rfl ?_
        refine go_run 1 (F' := (15, [some (.int p1)], [.int 0], h)) rfl ?_
        exact go_end rfl rfl
      refine go_run 0 (F' := (4, [some (.int p1)], [.int 0], h)) rfl ?_
      refine go_run 1 (F' := (7, [some (.int p1)], [], h)) rfl ?_
      exact go_end rfl rfl
  refine go_run 0 (F' := (13, [some (.ref 0), some (.int p1), some (.ref 177), none], [], (h ++ [.inr (14, [])]))) rfl ?_
  refine go_run 1 (F' := (14, [some (.ref 0), some (.int p1), some (.ref 177), none], [.int 1], (h ++ [.inr (14, [])]))) rfl ?_
  exact go_end rfl rfl
set_option maxRecDepth 100000 in
theorem uc_at_2 {X : ie_X} {d : Nat} {h : ie_H} {p1 nl cf cw : Int32} (c0 : h[0]? = some (.inr (0, [.ref 1, .int nl, .int cf, .int cw, .null, .ref 2, .ref 133]))) (q1 : ¬ (p1 < 0)) (q2 : 6 ≤ p1) : Go X (d + 3) 114 (0, ie_en 114 [.ref 0, .int p1, .ref 177], [], h) (.inl (some (.int 1))) (h ++ [.inr (14, [])]) := by
  refine go_run 0 (F' := (0, [some (.ref 0), some (.int p1), some (.ref 177), none], [], h)) rfl ?_
  refine go_run 4 (F' := (4, [some (.ref 0), some (.int p1), some (.ref 177), none], [.int p1, .ref 0, .int 0, .ref 177], h)) rfl ?_
  refine go_catch (m' := 115) (ci := 14) (h1 := (h ++ [.inr (14, [])])) rfl (by simp only [ie_step, ie_iv, List.drop, c0, if_true]; rfl) ⟨rfl, Nat.le_of_ble_eq_true rfl⟩ rfl rfl rfl ?_ ?_
  · refine go_run 0 (F' := (0, [some (.ref 0), some (.int p1), none], [], h)) rfl ?_
    refine go_run 1 (F' := (1, [some (.ref 0), some (.int p1), none], [.int p1], h)) rfl ?_
    refine go_out (m' := 80) rfl rfl ⟨rfl, Nat.le_of_ble_eq_true rfl⟩ rfl rfl ?_
    · refine go_run 0 (F' := (0, [some (.int p1)], [], h)) rfl ?_
      refine go_run 1 (F' := (1, [some (.int p1)], [.int p1], h)) rfl ?_
      refine go_call (m' := 33) (v := some (.int 0)) (h1 := h) rfl rfl ⟨rfl, Nat.le_of_ble_eq_true rfl⟩ ?_ ?_
      · refine go_run 0 (F' := (0, [some (.int p1)], [], h)) rfl ?_
        refine go_run 1 (F' := (1, [some (.int p1)], [.int p1], h)) rfl ?_
        refine go_step rfl rfl ?_
        rw [if_neg q1]
        refine go_run 0 (F' := (4, [some (.int p1)], [], h)) rfl ?_
        refine go_run 2 (F' := (7, [some (.int p1)], [.int 6, .int p1], h)) rfl ?_
        refine go_step rfl rfl ?_
        rw [if_pos q2]
        refine go_run 0 (F' := (14, [some (.int p1)], [], h)) rfl ?_
        refine go_run 1 (F' := (15, [some (.int p1)], [.int 0], h)) rfl ?_
        exact go_end rfl rfl
      refine go_run 0 (F' := (4, [some (.int p1)], [.int 0], h)) rfl ?_
      refine go_run 1 (F' := (7, [some (.int p1)], [], h)) rfl ?_
      exact go_end rfl rfl
  refine go_run 0 (F' := (13, [some (.ref 0), some (.int p1), some (.ref 177), none], [], (h ++ [.inr (14, [])]))) rfl ?_
  refine go_run 1 (F' := (14, [some (.ref 0), some (.int p1), some (.ref 177), none], [.int 1], (h ++ [.inr (14, [])]))) rfl ?_
  exact go_end rfl rfl
set_option maxRecDepth 100000 in
theorem uc_at_3 {X : ie_X} {d : Nat} {h : ie_H} {p1 nl cf cw : Int32} (c0 : h[0]? = some (.inr (0, [.ref 1, .int nl, .int cf, .int cw, .null, .ref 2, .ref 133]))) (q1 : ¬ (p1 < 0)) (q2 : ¬ (6 ≤ p1)) : Go X (d + 3) 114 (0, ie_en 114 [.ref 0, .int p1, .ref 177], [], h) (.inl (some (.int 2))) (h ++ [.inr (12, [])]) := by
  refine go_run 0 (F' := (0, [some (.ref 0), some (.int p1), some (.ref 177), none], [], h)) rfl ?_
  refine go_run 4 (F' := (4, [some (.ref 0), some (.int p1), some (.ref 177), none], [.int p1, .ref 0, .int 0, .ref 177], h)) rfl ?_
  refine go_catch (m' := 115) (ci := 12) (h1 := (h ++ [.inr (12, [])])) rfl (by simp only [ie_step, ie_iv, List.drop, c0, if_true]; rfl) ⟨rfl, Nat.le_of_ble_eq_true rfl⟩ rfl rfl rfl ?_ ?_
  · refine go_run 0 (F' := (0, [some (.ref 0), some (.int p1), none], [], h)) rfl ?_
    refine go_run 1 (F' := (1, [some (.ref 0), some (.int p1), none], [.int p1], h)) rfl ?_
    refine go_call (m' := 80) (v := none) (h1 := h) rfl rfl ⟨rfl, Nat.le_of_ble_eq_true rfl⟩ ?_ ?_
    · refine go_run 0 (F' := (0, [some (.int p1)], [], h)) rfl ?_
      refine go_run 1 (F' := (1, [some (.int p1)], [.int p1], h)) rfl ?_
      refine go_call (m' := 33) (v := some (.int 1)) (h1 := h) rfl rfl ⟨rfl, Nat.le_of_ble_eq_true rfl⟩ ?_ ?_
      · refine go_run 0 (F' := (0, [some (.int p1)], [], h)) rfl ?_
        refine go_run 1 (F' := (1, [some (.int p1)], [.int p1], h)) rfl ?_
        refine go_step rfl rfl ?_
        rw [if_neg q1]
        refine go_run 0 (F' := (4, [some (.int p1)], [], h)) rfl ?_
        refine go_run 2 (F' := (7, [some (.int p1)], [.int 6, .int p1], h)) rfl ?_
        refine go_step rfl rfl ?_
        rw [if_neg q2]
        refine go_run 0 (F' := (10, [some (.int p1)], [], h)) rfl ?_
        refine go_run 2 (F' := (15, [some (.int p1)], [.int 1], h)) rfl ?_
        exact go_end rfl rfl
      refine go_run 0 (F' := (4, [some (.int p1)], [.int 1], h)) rfl ?_
      refine go_run 1 (F' := (15, [some (.int p1)], [], h)) rfl ?_
      exact go_end rfl rfl
    refine go_run 0 (F' := (4, [some (.ref 0), some (.int p1), none], [], h)) rfl ?_
    refine go_run 1 (F' := (5, [some (.ref 0), some (.int p1), none], [.ref 0], h)) rfl ?_
    refine go_out (m' := 81) rfl (by simp only [ie_step, ie_iv, List.drop, c0, if_true]; rfl) ⟨rfl, Nat.le_of_ble_eq_true rfl⟩ rfl rfl ?_
    · refine go_run 0 (F' := (0, [some (.ref 0)], [], h)) rfl ?_
      refine go_run 1 (F' := (1, [some (.ref 0)], [.ref 0], h)) rfl ?_
      refine go_gf rfl c0 rfl ?_
      refine go_run 0 (F' := (4, [some (.ref 0)], [.null], h)) rfl ?_
      refine go_run 1 (F' := (7, [some (.ref 0)], [], h)) rfl ?_
      exact go_end rfl rfl
  refine go_run 0 (F' := (16, [some (.ref 0), some (.int p1), some (.ref 177), none], [], (h ++ [.inr (12, [])]))) rfl ?_
  refine go_run 1 (F' := (17, [some (.ref 0), some (.int p1), some (.ref 177), none], [.int 2], (h ++ [.inr (12, [])]))) rfl ?_
  exact go_end rfl rfl
set_option maxRecDepth 100000 in
theorem um_at_1 {X : ie_X} {d : Nat} {h : ie_H} {p1 t_ ty fa wh ch it at_ bad co de st sz tp am bm mn rm sp be wo : Int32} (c134 : h[134]? = some (mo t_ ty fa wh ch it at_ bad co de 0 st sz tp am bm mn rm sp be wo)) (q1 : p1 < 0) : Go X (d + 1) 210 (0, ie_en 210 [.ref 134, .int p1], [], h) (.inl (some (.int 0))) (List.set h 134 (mo 1 ty fa wh ch it at_ bad co de 0 st sz tp am bm mn rm sp be wo)) := by
  refine go_run 0 (F' := (0, [some (.ref 134), some (.int p1), none, none], [], h)) rfl ?_
  refine go_run 2 (F' := (2, [some (.ref 134), some (.int p1), none, none], [.int p1, .ref 134], h)) rfl ?_
  refine go_call (m' := 183) (v := some (.int 1)) (h1 := h) rfl rfl ⟨rfl, Nat.le_of_ble_eq_true rfl⟩ ?_ ?_
  · refine go_run 0 (F' := (0, [some (.int p1)], [], h)) rfl ?_
    refine go_run 1 (F' := (1, [some (.int p1)], [.int p1], h)) rfl ?_
    refine go_step rfl rfl ?_
    rw [if_pos q1]
    refine go_run 0 (F' := (9, [some (.int p1)], [], h)) rfl ?_
    refine go_run 2 (F' := (14, [some (.int p1)], [.int 1], h)) rfl ?_
    exact go_end rfl rfl
  refine go_run 0 (F' := (5, [some (.ref 134), some (.int p1), none, none], [.int 1, .ref 134], h)) rfl ?_
  refine go_run 3 (F' := (24, [some (.ref 134), some (.int p1), none, none], [.int 1, .ref 134], h)) rfl ?_
  refine go_pf rfl c134 (Nat.le_of_ble_eq_true rfl) rfl rfl ?_
  refine go_run 0 (F' := (27, [some (.ref 134), some (.int p1), none, none], [], (List.set h 134 (mo 1 ty fa wh ch it at_ bad co de 0 st sz tp am bm mn rm sp be wo)))) rfl ?_
  refine go_run 1 (F' := (28, [some (.ref 134), some (.int p1), none, none], [.ref 134], (List.set h 134 (mo 1 ty fa wh ch it at_ bad co de 0 st sz tp am bm mn rm sp be wo)))) rfl ?_
  refine go_gf rfl (gs_self c134) rfl ?_
  refine go_run 0 (F' := (31, [some (.ref 134), some (.int p1), none, none], [.int 1], (List.set h 134 (mo 1 ty fa wh ch it at_ bad co de 0 st sz tp am bm mn rm sp be wo)))) rfl ?_
  refine go_run 2 (F' := (50, [some (.ref 134), some (.int p1), none, none], [.int 0], (List.set h 134 (mo 1 ty fa wh ch it at_ bad co de 0 st sz tp am bm mn rm sp be wo)))) rfl ?_
  exact go_end rfl rfl
set_option maxRecDepth 100000 in
theorem um_at_2 {X : ie_X} {d : Nat} {h : ie_H} {p1 t_ ty fa wh ch it at_ bad co de st sz tp am bm mn rm sp be wo : Int32} (c134 : h[134]? = some (mo t_ ty fa wh ch it at_ bad co de 0 st sz tp am bm mn rm sp be wo)) (q1 : ¬ (p1 < 0)) (q2 : p1 ≤ 5) : Go X (d + 1) 210 (0, ie_en 210 [.ref 134, .int p1], [], h) (.inl (some (.int 0))) (List.set h 134 (mo 2 ty fa wh ch it at_ bad co de 0 st sz tp am bm mn rm sp be wo)) := by
  refine go_run 0 (F' := (0, [some (.ref 134), some (.int p1), none, none], [], h)) rfl ?_
  refine go_run 2 (F' := (2, [some (.ref 134), some (.int p1), none, none], [.int p1, .ref 134], h)) rfl ?_
  refine go_call (m' := 183) (v := some (.int 0)) (h1 := h) rfl rfl ⟨rfl, Nat.le_of_ble_eq_true rfl⟩ ?_ ?_
  · refine go_run 0 (F' := (0, [some (.int p1)], [], h)) rfl ?_
    refine go_run 1 (F' := (1, [some (.int p1)], [.int p1], h)) rfl ?_
    refine go_step rfl rfl ?_
    rw [if_neg q1]
    refine go_run 0 (F' := (4, [some (.int p1)], [], h)) rfl ?_
    refine go_run 2 (F' := (6, [some (.int p1)], [.int 5, .int p1], h)) rfl ?_
    refine go_step rfl rfl ?_
    rw [if_pos q2]
    refine go_run 0 (F' := (13, [some (.int p1)], [], h)) rfl ?_
    refine go_run 1 (F' := (14, [some (.int p1)], [.int 0], h)) rfl ?_
    exact go_end rfl rfl
  refine go_run 0 (F' := (5, [some (.ref 134), some (.int p1), none, none], [.int 0, .ref 134], h)) rfl ?_
  refine go_run 2 (F' := (13, [some (.ref 134), some (.int p1), none, none], [.ref 134, .ref 134], h)) rfl ?_
  refine go_gf rfl c134 rfl ?_
  refine go_run 0 (F' := (16, [some (.ref 134), some (.int p1), none, none], [.int 0, .ref 134], h)) rfl ?_
  refine go_run 3 (F' := (24, [some (.ref 134), some (.int p1), none, none], [.int 2, .ref 134], h)) rfl ?_
  refine go_pf rfl c134 (Nat.le_of_ble_eq_true rfl) rfl rfl ?_
  refine go_run 0 (F' := (27, [some (.ref 134), some (.int p1), none, none], [], (List.set h 134 (mo 2 ty fa wh ch it at_ bad co de 0 st sz tp am bm mn rm sp be wo)))) rfl ?_
  refine go_run 1 (F' := (28, [some (.ref 134), some (.int p1), none, none], [.ref 134], (List.set h 134 (mo 2 ty fa wh ch it at_ bad co de 0 st sz tp am bm mn rm sp be wo)))) rfl ?_
  refine go_gf rfl (gs_self c134) rfl ?_
  refine go_run 0 (F' := (31, [some (.ref 134), some (.int p1), none, none], [.int 2], (List.set h 134 (mo 2 ty fa wh ch it at_ bad co de 0 st sz tp am bm mn rm sp be wo)))) rfl ?_
  refine go_run 2 (F' := (50, [some (.ref 134), some (.int p1), none, none], [.int 0], (List.set h 134 (mo 2 ty fa wh ch it at_ bad co de 0 st sz tp am bm mn rm sp be wo)))) rfl ?_
  exact go_end rfl rfl
set_option maxRecDepth 100000 in
theorem um_at_3 {X : ie_X} {d : Nat} {h : ie_H} {p1 t_ ty fa wh ch it at_ bad co de st sz tp am bm mn rm sp be wo : Int32} (c134 : h[134]? = some (mo t_ ty fa wh ch it at_ bad co de 0 st sz tp am bm mn rm sp be wo)) (q1 : ¬ (p1 < 0)) (q2 : ¬ (p1 ≤ 5)) : Go X (d + 1) 210 (0, ie_en 210 [.ref 134, .int p1], [], h) (.inl (some (.int 0))) (List.set h 134 (mo 1 ty fa wh ch it at_ bad co de 0 st sz tp am bm mn rm sp be wo)) := by
  refine go_run 0 (F' := (0, [some (.ref 134), some (.int p1), none, none], [], h)) rfl ?_
  refine go_run 2 (F' := (2, [some (.ref 134), some (.int p1), none, none], [.int p1, .ref 134], h)) rfl ?_
  refine go_call (m' := 183) (v := some (.int 1)) (h1 := h) rfl rfl ⟨rfl, Nat.le_of_ble_eq_true rfl⟩ ?_ ?_
  · refine go_run 0 (F' := (0, [some (.int p1)], [], h)) rfl ?_
    refine go_run 1 (F' := (1, [some (.int p1)], [.int p1], h)) rfl ?_
    refine go_step rfl rfl ?_
    rw [if_neg q1]
    refine go_run 0 (F' := (4, [some (.int p1)], [], h)) rfl ?_
    refine go_run 2 (F' := (6, [some (.int p1)], [.int 5, .int p1], h)) rfl ?_
    refine go_step rfl rfl ?_
    rw [if_neg q2]
    refine go_run 0 (F' := (9, [some (.int p1)], [], h)) rfl ?_
    refine go_run 2 (F' := (14, [some (.int p1)], [.int 1], h)) rfl ?_
    exact go_end rfl rfl
  refine go_run 0 (F' := (5, [some (.ref 134), some (.int p1), none, none], [.int 1, .ref 134], h)) rfl ?_
  refine go_run 3 (F' := (24, [some (.ref 134), some (.int p1), none, none], [.int 1, .ref 134], h)) rfl ?_
  refine go_pf rfl c134 (Nat.le_of_ble_eq_true rfl) rfl rfl ?_
  refine go_run 0 (F' := (27, [some (.ref 134), some (.int p1), none, none], [], (List.set h 134 (mo 1 ty fa wh ch it at_ bad co de 0 st sz tp am bm mn rm sp be wo)))) rfl ?_
  refine go_run 1 (F' := (28, [some (.ref 134), some (.int p1), none, none], [.ref 134], (List.set h 134 (mo 1 ty fa wh ch it at_ bad co de 0 st sz tp am bm mn rm sp be wo)))) rfl ?_
  refine go_gf rfl (gs_self c134) rfl ?_
  refine go_run 0 (F' := (31, [some (.ref 134), some (.int p1), none, none], [.int 1], (List.set h 134 (mo 1 ty fa wh ch it at_ bad co de 0 st sz tp am bm mn rm sp be wo)))) rfl ?_
  refine go_run 2 (F' := (50, [some (.ref 134), some (.int p1), none, none], [.int 0], (List.set h 134 (mo 1 ty fa wh ch it at_ bad co de 0 st sz tp am bm mn rm sp be wo)))) rfl ?_
  exact go_end rfl rfl
set_option maxRecDepth 100000 in
theorem uc_variable_1 {X : ie_X} {d : Nat} {h : ie_H} {p1 p2 nl cf cw : Int32} (c0 : h[0]? = some (.inr (0, [.ref 1, .int nl, .int cf, .int cw, .null, .ref 2, .ref 133]))) (q1 : p1 < 0) : Go X (d + 3) 116 (0, ie_en 116 [.ref 0, .int p1, .int p2, .ref 177], [], h) (.inl (some (.int 1))) (h ++ [.inr (14, [])]) := by
  refine go_run 0 (F' := (0, [some (.ref 0), some (.int p1), some (.int p2), some (.ref 177), none], [], h)) rfl ?_
  refine go_run 5 (F' := (5, [some (.ref 0), some (.int p1), some (.int p2), some (.ref 177), none], [.int p2, .int p1, .ref 0, .int 0, .ref 177], h)) rfl ?_
  refine go_catch (m' := 117) (ci := 14) (h1 := (h ++ [.inr (14, [])])) rfl (by simp only [ie_step, ie_iv, List.drop, c0, if_true]; rfl) ⟨rfl, Nat.le_of_ble_eq_true rfl⟩ rfl rfl rfl ?_ ?_
  · refine go_run 0 (F' := (0, [some (.ref 0), some (.int p1), some (.int p2)], [], h)) rfl ?_
    refine go_run 2 (F' := (2, [some (.ref 0), some (.int p1), some (.int p2)], [.int p2, .int p1], h)) rfl ?_
    refine go_out (m' := 86) rfl rfl ⟨rfl, Nat.le_of_ble_eq_true rfl⟩ rfl rfl ?_
    · refine go_run 0 (F' := (0, [some (.int p1), some (.int p2)], [], h)) rfl ?_
      refine go_run 1 (F' := (1, [some (.int p1), some (.int p2)], [.int p1], h)) rfl ?_
      refine go_call (m' := 33) (v := some (.int 0)) (h1 := h) rfl rfl ⟨rfl, Nat.le_of_ble_eq_true rfl⟩ ?_ ?_
      · refine go_run 0 (F' := (0, [some (.int p1)], [], h)) rfl ?_
        refine go_run 1 (F' := (1, [some (.int p1)], [.int p1], h)) rfl ?_
        refine go_step rfl rfl ?_
        rw [if_pos q1]
        refine go_run 0 (F' := (14, [some (.int p1)], [], h)) rfl ?_
        refine go_run 1 (F' := (15, [some (.int p1)], [.int 0], h)) rfl ?_
        exact go_end rfl rfl
      refine go_run 0 (F' := (4, [some (.int p1), some (.int p2)], [.int 0], h)) rfl ?_
      refine go_run 1 (F' := (16, [some (.int p1), some (.int p2)], [], h)) rfl ?_
      exact go_end rfl rfl
  refine go_run 0 (F' := (15, [some (.ref 0), some (.int p1), some (.int p2), some (.ref 177), none], [], (h ++ [.inr (14, [])]))) rfl ?_
  refine go_run 1 (F' := (16, [some (.ref 0), some (.int p1), some (.int p2), some (.ref 177), none], [.int 1], (h ++ [.inr (14, [])]))) rfl ?_
  exact go_end rfl rfl
set_option maxRecDepth 100000 in
theorem uc_variable_2 {X : ie_X} {d : Nat} {h : ie_H} {p1 p2 nl cf cw : Int32} (c0 : h[0]? = some (.inr (0, [.ref 1, .int nl, .int cf, .int cw, .null, .ref 2, .ref 133]))) (q1 : ¬ (p1 < 0)) (q2 : 6 ≤ p1) : Go X (d + 3) 116 (0, ie_en 116 [.ref 0, .int p1, .int p2, .ref 177], [], h) (.inl (some (.int 1))) (h ++ [.inr (14, [])]) := by
  refine go_run 0 (F' := (0, [some (.ref 0), some (.int p1), some (.int p2), some (.ref 177), none], [], h)) rfl ?_
  refine go_run 5 (F' := (5, [some (.ref 0), some (.int p1), some (.int p2), some (.ref 177), none], [.int p2, .int p1, .ref 0, .int 0, .ref 177], h)) rfl ?_
  refine go_catch (m' := 117) (ci := 14) (h1 := (h ++ [.inr (14, [])])) rfl (by simp only [ie_step, ie_iv, List.drop, c0, if_true]; rfl) ⟨rfl, Nat.le_of_ble_eq_true rfl⟩ rfl rfl rfl ?_ ?_
  · refine go_run 0 (F' := (0, [some (.ref 0), some (.int p1), some (.int p2)], [], h)) rfl ?_
    refine go_run 2 (F' := (2, [some (.ref 0), some (.int p1), some (.int p2)], [.int p2, .int p1], h)) rfl ?_
    refine go_out (m' := 86) rfl rfl ⟨rfl, Nat.le_of_ble_eq_true rfl⟩ rfl rfl ?_
    · refine go_run 0 (F' := (0, [some (.int p1), some (.int p2)], [], h)) rfl ?_
      refine go_run 1 (F' := (1, [some (.int p1), some (.int p2)], [.int p1], h)) rfl ?_
      refine go_call (m' := 33) (v := some (.int 0)) (h1 := h) rfl rfl ⟨rfl, Nat.le_of_ble_eq_true rfl⟩ ?_ ?_
      · refine go_run 0 (F' := (0, [some (.int p1)], [], h)) rfl ?_
        refine go_run 1 (F' := (1, [some (.int p1)], [.int p1], h)) rfl ?_
        refine go_step rfl rfl ?_
        rw [if_neg q1]
        refine go_run 0 (F' := (4, [some (.int p1)], [], h)) rfl ?_
        refine go_run 2 (F' := (7, [some (.int p1)], [.int 6, .int p1], h)) rfl ?_
        refine go_step rfl rfl ?_
        rw [if_pos q2]
        refine go_run 0 (F' := (14, [some (.int p1)], [], h)) rfl ?_
        refine go_run 1 (F' := (15, [some (.int p1)], [.int 0], h)) rfl ?_
        exact go_end rfl rfl
      refine go_run 0 (F' := (4, [some (.int p1), some (.int p2)], [.int 0], h)) rfl ?_
      refine go_run 1 (F' := (16, [some (.int p1), some (.int p2)], [], h)) rfl ?_
      exact go_end rfl rfl
  refine go_run 0 (F' := (15, [some (.ref 0), some (.int p1), some (.int p2), some (.ref 177), none], [], (h ++ [.inr (14, [])]))) rfl ?_
  refine go_run 1 (F' := (16, [some (.ref 0), some (.int p1), some (.int p2), some (.ref 177), none], [.int 1], (h ++ [.inr (14, [])]))) rfl ?_
  exact go_end rfl rfl
set_option maxRecDepth 100000 in
theorem uc_variable_3 {X : ie_X} {d : Nat} {h : ie_H} {p1 p2 nl cf cw : Int32} (c0 : h[0]? = some (.inr (0, [.ref 1, .int nl, .int cf, .int cw, .null, .ref 2, .ref 133]))) (q1 : ¬ (p1 < 0)) (q2 : ¬ (6 ≤ p1)) (q3 : p2 < 0) : Go X (d + 3) 116 (0, ie_en 116 [.ref 0, .int p1, .int p2, .ref 177], [], h) (.inl (some (.int 1))) (h ++ [.inr (14, [])]) := by
  refine go_run 0 (F' := (0, [some (.ref 0), some (.int p1), some (.int p2), some (.ref 177), none], [], h)) rfl ?_
  refine go_run 5 (F' := (5, [some (.ref 0), some (.int p1), some (.int p2), some (.ref 177), none], [.int p2, .int p1, .ref 0, .int 0, .ref 177], h)) rfl ?_
  refine go_catch (m' := 117) (ci := 14) (h1 := (h ++ [.inr (14, [])])) rfl (by simp only [ie_step, ie_iv, List.drop, c0, if_true]; rfl) ⟨rfl, Nat.le_of_ble_eq_true rfl⟩ rfl rfl rfl ?_ ?_
  · refine go_run 0 (F' := (0, [some (.ref 0), some (.int p1), some (.int p2)], [], h)) rfl ?_
    refine go_run 2 (F' := (2, [some (.ref 0), some (.int p1), some (.int p2)], [.int p2, .int p1], h)) rfl ?_
    refine go_out (m' := 86) rfl rfl ⟨rfl, Nat.le_of_ble_eq_true rfl⟩ rfl rfl ?_
    · refine go_run 0 (F' := (0, [some (.int p1), some (.int p2)], [], h)) rfl ?_
      refine go_run 1 (F' := (1, [some (.int p1), some (.int p2)], [.int p1], h)) rfl ?_
      refine go_call (m' := 33) (v := some (.int 1)) (h1 := h) rfl rfl ⟨rfl, Nat.le_of_ble_eq_true rfl⟩ ?_ ?_
      · refine go_run 0 (F' := (0, [some (.int p1)], [], h)) rfl ?_
        refine go_run 1 (F' := (1, [some (.int p1)], [.int p1], h)) rfl ?_
        refine go_step rfl rfl ?_
        rw [if_neg q1]
        refine go_run 0 (F' := (4, [some (.int p1)], [], h)) rfl ?_
        refine go_run 2 (F' := (7, [some (.int p1)], [.int 6, .int p1], h)) rfl ?_
        refine go_step rfl rfl ?_
        rw [if_neg q2]
        refine go_run 0 (F' := (10, [some (.int p1)], [], h)) rfl ?_
        refine go_run 2 (F' := (15, [some (.int p1)], [.int 1], h)) rfl ?_
        exact go_end rfl rfl
      refine go_run 0 (F' := (4, [some (.int p1), some (.int p2)], [.int 1], h)) rfl ?_
      refine go_run 2 (F' := (8, [some (.int p1), some (.int p2)], [.int p2], h)) rfl ?_
      refine go_step rfl rfl ?_
      rw [if_pos q3]
      refine go_run 0 (F' := (16, [some (.int p1), some (.int p2)], [], h)) rfl ?_
      exact go_end rfl rfl
  refine go_run 0 (F' := (15, [some (.ref 0), some (.int p1), some (.int p2), some (.ref 177), none], [], (h ++ [.inr (14, [])]))) rfl ?_
  refine go_run 1 (F' := (16, [some (.ref 0), some (.int p1), some (.int p2), some (.ref 177), none], [.int 1], (h ++ [.inr (14, [])]))) rfl ?_
  exact go_end rfl rfl
set_option maxRecDepth 100000 in
theorem uc_variable_4 {X : ie_X} {d : Nat} {h : ie_H} {p1 p2 nl cf cw crm csp : Int32} {f6 : Nat → Int32} {fo : Nat → Int64} (c0 : h[0]? = some (.inr (0, [.ref 1, .int nl, .int cf, .int cw, .null, .ref 2, .ref 133]))) (c2 : h[2]? = some (.inr (8, [.ref 3, .ref 4, .ref 5, .ref 6, .int crm, .int csp]))) (c6 : h[6]? = some (.inl (0, 24, .inl f6))) (c177 : h[177]? = some (.inl (3, 1, .inr (.inl fo)))) (q1 : ¬ (p1 < 0)) (q2 : ¬ (6 ≤ p1)) (q3 : ¬ (p2 < 0)) (q4 : p2 < 4) (b_4 : 0 ≤ Int32.toInt ((p1 * 4) + p2) ∧ Int32.toInt ((p1 * 4) + p2) < (24 : Int)) : Go X (d + 3) 116 (0, ie_en 116 [.ref 0, .int p1, .int p2, .ref 177], [], h) (.inl (some (.int 0))) (List.set h 177 (.inl (3, 1, .inr (.inl (vp_updL fo 0 (Int32.toInt64 (f6 (Int32.toNatClampNeg ((p1 * 4) + p2))))))))) := by
  refine go_run 0 (F' := (0, [some (.ref 0), some (.int p1), some (.int p2), some (.ref 177), none], [], h)) rfl ?_
  refine go_run 5 (F' := (5, [some (.ref 0), some (.int p1), some (.int p2), some (.ref 177), none], [.int p2, .int p1, .ref 0, .int 0, .ref 177], h)) rfl ?_
  refine go_call (m' := 117) (v := some (.int (f6 (Int32.toNatClampNeg ((p1 * 4) + p2))))) (h1 := h) rfl (by simp only [ie_step, ie_iv, List.drop, c0, if_true]; rfl) ⟨rfl, Nat.le_of_ble_eq_true rfl⟩ ?_ ?_
  · refine go_run 0 (F' := (0, [some (.ref 0), some (.int p1), some (.int p2)], [], h)) rfl ?_
    refine go_run 2 (F' := (2, [some (.ref 0), some (.int p1), some (.int p2)], [.int p2, .int p1], h)) rfl ?_
    refine go_call (m' := 86) (v := none) (h1 := h) rfl rfl ⟨rfl, Nat.le_of_ble_eq_true rfl⟩ ?_ ?_
    · refine go_run 0 (F' := (0, [some (.int p1), some (.int p2)], [], h)) rfl ?_
      refine go_run 1 (F' := (1, [some (.int p1), some (.int p2)], [.int p1], h)) rfl ?_
      refine go_call (m' := 33) (v := some (.int 1)) (h1 := h) rfl rfl ⟨rfl, Nat.le_of_ble_eq_true rfl⟩ ?_ ?_
      · refine go_run 0 (F' := (0, [some (.int p1)], [], h)) rfl ?_
        refine go_run 1 (F' := (1, [some (.int p1)], [.int p1], h)) rfl ?_
        refine go_step rfl rfl ?_
        rw [if_neg q1]
        refine go_run 0 (F' := (4, [some (.int p1)], [], h)) rfl ?_
        refine go_run 2 (F' := (7, [some (.int p1)], [.int 6, .int p1], h)) rfl ?_
        refine go_step rfl rfl ?_
        rw [if_neg q2]
        refine go_run 0 (F' := (10, [some (.int p1)], [], h)) rfl ?_
        refine go_run 2 (F' := (15, [some (.int p1)], [.int 1], h)) rfl ?_
        exact go_end rfl rfl
      refine go_run 0 (F' := (4, [some (.int p1), some (.int p2)], [.int 1], h)) rfl ?_
      refine go_run 2 (F' := (8, [some (.int p1), some (.int p2)], [.int p2], h)) rfl ?_
      refine go_step rfl rfl ?_
      rw [if_neg q3]
      refine go_run 0 (F' := (11, [some (.int p1), some (.int p2)], [], h)) rfl ?_
      refine go_run 2 (F' := (13, [some (.int p1), some (.int p2)], [.int 4, .int p2], h)) rfl ?_
      refine go_step rfl rfl ?_
      rw [if_pos q4]
      refine go_run 0 (F' := (24, [some (.int p1), some (.int p2)], [], h)) rfl ?_
      exact go_end rfl rfl
    refine go_run 0 (F' := (5, [some (.ref 0), some (.int p1), some (.int p2)], [], h)) rfl ?_
    refine go_run 1 (F' := (6, [some (.ref 0), some (.int p1), some (.int p2)], [.ref 0], h)) rfl ?_
    refine go_gf rfl c0 rfl ?_
    refine go_run 0 (F' := (9, [some (.ref 0), some (.int p1), some (.int p2)], [.ref 2], h)) rfl ?_
    refine go_gf rfl c2 rfl ?_
    refine go_run 0 (F' := (12, [some (.ref 0), some (.int p1), some (.int p2)], [.ref 6], h)) rfl ?_
    refine go_run 2 (F' := (14, [some (.ref 0), some (.int p1), some (.int p2)], [.int p2, .int p1, .ref 6], h)) rfl ?_
    refine go_call (m' := 88) (v := some (.int ((p1 * 4) + p2))) (h1 := h) rfl rfl ⟨rfl, Nat.le_of_ble_eq_true rfl⟩ ?_ ?_
    · refine go_run 0 (F' := (0, [some (.int p1), some (.int p2)], [], h)) rfl ?_
      refine go_run 5 (F' := (5, [some (.int p1), some (.int p2)], [.int ((p1 * 4) + p2)], h)) rfl ?_
      exact go_end rfl rfl
    refine go_run 0 (F' := (17, [some (.ref 0), some (.int p1), some (.int p2)], [.int ((p1 * 4) + p2), .ref 6], h)) rfl ?_
    refine go_iald rfl (by decide) c6 b_4 rfl ?_
    refine go_run 0 (F' := (18, [some (.ref 0), some (.int p1), some (.int p2)], [.int (f6 (Int32.toNatClampNeg ((p1 * 4) + p2)))], h)) rfl ?_
    exact go_end rfl rfl
  refine go_run 0 (F' := (8, [some (.ref 0), some (.int p1), some (.int p2), some (.ref 177), none], [.int (f6 (Int32.toNatClampNeg ((p1 * 4) + p2))), .int 0, .ref 177], h)) rfl ?_
  refine go_run 1 (F' := (9, [some (.ref 0), some (.int p1), some (.int p2), some (.ref 177), none], [.long (Int32.toInt64 (f6 (Int32.toNatClampNeg ((p1 * 4) + p2)))), .int 0, .ref 177], h)) rfl ?_
  refine go_last rfl c177 (by decide) rfl ?_
  refine go_run 0 (F' := (10, [some (.ref 0), some (.int p1), some (.int p2), some (.ref 177), none], [], (List.set h 177 (.inl (3, 1, .inr (.inl (vp_updL fo 0 (Int32.toInt64 (f6 (Int32.toNatClampNeg ((p1 * 4) + p2))))))))))) rfl ?_
  refine go_run 2 (F' := (18, [some (.ref 0), some (.int p1), some (.int p2), some (.ref 177), none], [.int 0], (List.set h 177 (.inl (3, 1, .inr (.inl (vp_updL fo 0 (Int32.toInt64 (f6 (Int32.toNatClampNeg ((p1 * 4) + p2))))))))))) rfl ?_
  exact go_end rfl rfl
set_option maxRecDepth 100000 in
theorem uc_variable_5 {X : ie_X} {d : Nat} {h : ie_H} {p1 p2 nl cf cw : Int32} (c0 : h[0]? = some (.inr (0, [.ref 1, .int nl, .int cf, .int cw, .null, .ref 2, .ref 133]))) (q1 : ¬ (p1 < 0)) (q2 : ¬ (6 ≤ p1)) (q3 : ¬ (p2 < 0)) (q4 : ¬ (p2 < 4)) : Go X (d + 3) 116 (0, ie_en 116 [.ref 0, .int p1, .int p2, .ref 177], [], h) (.inl (some (.int 1))) (h ++ [.inr (14, [])]) := by
  refine go_run 0 (F' := (0, [some (.ref 0), some (.int p1), some (.int p2), some (.ref 177), none], [], h)) rfl ?_
  refine go_run 5 (F' := (5, [some (.ref 0), some (.int p1), some (.int p2), some (.ref 177), none], [.int p2, .int p1, .ref 0, .int 0, .ref 177], h)) rfl ?_
  refine go_catch (m' := 117) (ci := 14) (h1 := (h ++ [.inr (14, [])])) rfl (by simp only [ie_step, ie_iv, List.drop, c0, if_true]; rfl) ⟨rfl, Nat.le_of_ble_eq_true rfl⟩ rfl rfl rfl ?_ ?_
  · refine go_run 0 (F' := (0, [some (.ref 0), some (.int p1), some (.int p2)], [], h)) rfl ?_
    refine go_run 2 (F' := (2, [some (.ref 0), some (.int p1), some (.int p2)], [.int p2, .int p1], h)) rfl ?_
    refine go_out (m' := 86) rfl rfl ⟨rfl, Nat.le_of_ble_eq_true rfl⟩ rfl rfl ?_
    · refine go_run 0 (F' := (0, [some (.int p1), some (.int p2)], [], h)) rfl ?_
      refine go_run 1 (F' := (1, [some (.int p1), some (.int p2)], [.int p1], h)) rfl ?_
      refine go_call (m' := 33) (v := some (.int 1)) (h1 := h) rfl rfl ⟨rfl, Nat.le_of_ble_eq_true rfl⟩ ?_ ?_
      · refine go_run 0 (F' := (0, [some (.int p1)], [], h)) rfl ?_
        refine go_run 1 (F' := (1, [some (.int p1)], [.int p1], h)) rfl ?_
        refine go_step rfl rfl ?_
        rw [if_neg q1]
        refine go_run 0 (F' := (4, [some (.int p1)], [], h)) rfl ?_
        refine go_run 2 (F' := (7, [some (.int p1)], [.int 6, .int p1], h)) rfl ?_
        refine go_step rfl rfl ?_
        rw [if_neg q2]
        refine go_run 0 (F' := (10, [some (.int p1)], [], h)) rfl ?_
        refine go_run 2 (F' := (15, [some (.int p1)], [.int 1], h)) rfl ?_
        exact go_end rfl rfl
      refine go_run 0 (F' := (4, [some (.int p1), some (.int p2)], [.int 1], h)) rfl ?_
      refine go_run 2 (F' := (8, [some (.int p1), some (.int p2)], [.int p2], h)) rfl ?_
      refine go_step rfl rfl ?_
      rw [if_neg q3]
      refine go_run 0 (F' := (11, [some (.int p1), some (.int p2)], [], h)) rfl ?_
      refine go_run 2 (F' := (13, [some (.int p1), some (.int p2)], [.int 4, .int p2], h)) rfl ?_
      refine go_step rfl rfl ?_
      rw [if_neg q4]
      refine go_run 0 (F' := (16, [some (.int p1), some (.int p2)], [], h)) rfl ?_
      exact go_end rfl rfl
  refine go_run 0 (F' := (15, [some (.ref 0), some (.int p1), some (.int p2), some (.ref 177), none], [], (h ++ [.inr (14, [])]))) rfl ?_
  refine go_run 1 (F' := (16, [some (.ref 0), some (.int p1), some (.int p2), some (.ref 177), none], [.int 1], (h ++ [.inr (14, [])]))) rfl ?_
  exact go_end rfl rfl
set_option maxRecDepth 100000 in
theorem um_variable_1 {X : ie_X} {d : Nat} {h : ie_H} {p1 p2 t_ ty fa wh ch it at_ bad co de st sz tp am bm mn rm sp be wo : Int32} (c134 : h[134]? = some (mo t_ ty fa wh ch it at_ bad co de 0 st sz tp am bm mn rm sp be wo)) (q1 : p1 < 0) : Go X (d + 1) 211 (0, ie_en 211 [.ref 134, .int p1, .int p2], [], h) (.inl (some (.int 0))) (List.set h 134 (mo 1 ty fa wh ch it at_ bad co de 0 st sz tp am bm mn rm sp be wo)) := by
  refine go_run 0 (F' := (0, [some (.ref 134), some (.int p1), some (.int p2)], [], h)) rfl ?_
  refine go_run 2 (F' := (2, [some (.ref 134), some (.int p1), some (.int p2)], [.int p1, .ref 134], h)) rfl ?_
  refine go_call (m' := 183) (v := some (.int 1)) (h1 := h) rfl rfl ⟨rfl, Nat.le_of_ble_eq_true rfl⟩ ?_ ?_
  · refine go_run 0 (F' := (0, [some (.int p1)], [], h)) rfl ?_
    refine go_run 1 (F' := (1, [some (.int p1)], [.int p1], h)) rfl ?_
    refine go_step rfl rfl ?_
    rw [if_pos q1]
    refine go_run 0 (F' := (9, [some (.int p1)], [], h)) rfl ?_
    refine go_run 2 (F' := (14, [some (.int p1)], [.int 1], h)) rfl ?_
    exact go_end rfl rfl
  refine go_run 0 (F' := (5, [some (.ref 134), some (.int p1), some (.int p2)], [.int 1, .ref 134], h)) rfl ?_
  refine go_run 3 (F' := (20, [some (.ref 134), some (.int p1), some (.int p2)], [.int 1, .ref 134], h)) rfl ?_
  refine go_pf rfl c134 (Nat.le_of_ble_eq_true rfl) rfl rfl ?_
  refine go_run 0 (F' := (23, [some (.ref 134), some (.int p1), some (.int p2)], [], (List.set h 134 (mo 1 ty fa wh ch it at_ bad co de 0 st sz tp am bm mn rm sp be wo)))) rfl ?_
  refine go_run 1 (F' := (24, [some (.ref 134), some (.int p1), some (.int p2)], [.ref 134], (List.set h 134 (mo 1 ty fa wh ch it at_ bad co de 0 st sz tp am bm mn rm sp be wo)))) rfl ?_
  refine go_gf rfl (gs_self c134) rfl ?_
  refine go_run 0 (F' := (27, [some (.ref 134), some (.int p1), some (.int p2)], [.int 1], (List.set h 134 (mo 1 ty fa wh ch it at_ bad co de 0 st sz tp am bm mn rm sp be wo)))) rfl ?_
  refine go_run 2 (F' := (44, [some (.ref 134), some (.int p1), some (.int p2)], [.int 0], (List.set h 134 (mo 1 ty fa wh ch it at_ bad co de 0 st sz tp am bm mn rm sp be wo)))) rfl ?_
  exact go_end rfl rfl
set_option maxRecDepth 100000 in
theorem um_variable_2 {X : ie_X} {d : Nat} {h : ie_H} {p1 p2 t_ ty fa wh ch it at_ bad co de st sz tp am bm mn rm sp be wo : Int32} (c134 : h[134]? = some (mo t_ ty fa wh ch it at_ bad co de 0 st sz tp am bm mn rm sp be wo)) (q1 : ¬ (p1 < 0)) (q2 : ¬ (p1 ≤ 5)) : Go X (d + 1) 211 (0, ie_en 211 [.ref 134, .int p1, .int p2], [], h) (.inl (some (.int 0))) (List.set h 134 (mo 1 ty fa wh ch it at_ bad co de 0 st sz tp am bm mn rm sp be wo)) := by
  refine go_run 0 (F' := (0, [some (.ref 134), some (.int p1), some (.int p2)], [], h)) rfl ?_
  refine go_run 2 (F' := (2, [some (.ref 134), some (.int p1), some (.int p2)], [.int p1, .ref 134], h)) rfl ?_
  refine go_call (m' := 183) (v := some (.int 1)) (h1 := h) rfl rfl ⟨rfl, Nat.le_of_ble_eq_true rfl⟩ ?_ ?_
  · refine go_run 0 (F' := (0, [some (.int p1)], [], h)) rfl ?_
    refine go_run 1 (F' := (1, [some (.int p1)], [.int p1], h)) rfl ?_
    refine go_step rfl rfl ?_
    rw [if_neg q1]
    refine go_run 0 (F' := (4, [some (.int p1)], [], h)) rfl ?_
    refine go_run 2 (F' := (6, [some (.int p1)], [.int 5, .int p1], h)) rfl ?_
    refine go_step rfl rfl ?_
    rw [if_neg q2]
    refine go_run 0 (F' := (9, [some (.int p1)], [], h)) rfl ?_
    refine go_run 2 (F' := (14, [some (.int p1)], [.int 1], h)) rfl ?_
    exact go_end rfl rfl
  refine go_run 0 (F' := (5, [some (.ref 134), some (.int p1), some (.int p2)], [.int 1, .ref 134], h)) rfl ?_
  refine go_run 3 (F' := (20, [some (.ref 134), some (.int p1), some (.int p2)], [.int 1, .ref 134], h)) rfl ?_
  refine go_pf rfl c134 (Nat.le_of_ble_eq_true rfl) rfl rfl ?_
  refine go_run 0 (F' := (23, [some (.ref 134), some (.int p1), some (.int p2)], [], (List.set h 134 (mo 1 ty fa wh ch it at_ bad co de 0 st sz tp am bm mn rm sp be wo)))) rfl ?_
  refine go_run 1 (F' := (24, [some (.ref 134), some (.int p1), some (.int p2)], [.ref 134], (List.set h 134 (mo 1 ty fa wh ch it at_ bad co de 0 st sz tp am bm mn rm sp be wo)))) rfl ?_
  refine go_gf rfl (gs_self c134) rfl ?_
  refine go_run 0 (F' := (27, [some (.ref 134), some (.int p1), some (.int p2)], [.int 1], (List.set h 134 (mo 1 ty fa wh ch it at_ bad co de 0 st sz tp am bm mn rm sp be wo)))) rfl ?_
  refine go_run 2 (F' := (44, [some (.ref 134), some (.int p1), some (.int p2)], [.int 0], (List.set h 134 (mo 1 ty fa wh ch it at_ bad co de 0 st sz tp am bm mn rm sp be wo)))) rfl ?_
  exact go_end rfl rfl
set_option maxRecDepth 100000 in
theorem um_variable_3 {X : ie_X} {d : Nat} {h : ie_H} {p1 p2 t_ ty fa wh ch it at_ bad co de st sz tp am bm mn rm sp be wo : Int32} (c134 : h[134]? = some (mo t_ ty fa wh ch it at_ bad co de 0 st sz tp am bm mn rm sp be wo)) (q1 : ¬ (p1 < 0)) (q2 : p1 ≤ 5) (q3 : p2 < 0) : Go X (d + 1) 211 (0, ie_en 211 [.ref 134, .int p1, .int p2], [], h) (.inl (some (.int 0))) (List.set h 134 (mo 1 ty fa wh ch it at_ bad co de 0 st sz tp am bm mn rm sp be wo)) := by
  refine go_run 0 (F' := (0, [some (.ref 134), some (.int p1), some (.int p2)], [], h)) rfl ?_
  refine go_run 2 (F' := (2, [some (.ref 134), some (.int p1), some (.int p2)], [.int p1, .ref 134], h)) rfl ?_
  refine go_call (m' := 183) (v := some (.int 0)) (h1 := h) rfl rfl ⟨rfl, Nat.le_of_ble_eq_true rfl⟩ ?_ ?_
  · refine go_run 0 (F' := (0, [some (.int p1)], [], h)) rfl ?_
    refine go_run 1 (F' := (1, [some (.int p1)], [.int p1], h)) rfl ?_
    refine go_step rfl rfl ?_
    rw [if_neg q1]
    refine go_run 0 (F' := (4, [some (.int p1)], [], h)) rfl ?_
    refine go_run 2 (F' := (6, [some (.int p1)], [.int 5, .int p1], h)) rfl ?_
    refine go_step rfl rfl ?_
    rw [if_pos q2]
    refine go_run 0 (F' := (13, [some (.int p1)], [], h)) rfl ?_
    refine go_run 1 (F' := (14, [some (.int p1)], [.int 0], h)) rfl ?_
    exact go_end rfl rfl
  refine go_run 0 (F' := (5, [some (.ref 134), some (.int p1), some (.int p2)], [.int 0, .ref 134], h)) rfl ?_
  refine go_run 2 (F' := (9, [some (.ref 134), some (.int p1), some (.int p2)], [.int p2, .ref 134], h)) rfl ?_
  refine go_call (m' := 186) (v := some (.int 1)) (h1 := h) rfl rfl ⟨rfl, Nat.le_of_ble_eq_true rfl⟩ ?_ ?_
  · refine go_run 0 (F' := (0, [some (.int p2)], [], h)) rfl ?_
    refine go_run 1 (F' := (1, [some (.int p2)], [.int p2], h)) rfl ?_
    refine go_step rfl rfl ?_
    rw [if_pos q3]
    refine go_run 0 (F' := (9, [some (.int p2)], [], h)) rfl ?_
    refine go_run 2 (F' := (14, [some (.int p2)], [.int 1], h)) rfl ?_
    exact go_end rfl rfl
  refine go_run 0 (F' := (12, [some (.ref 134), some (.int p1), some (.int p2)], [.int 1, .ref 134], h)) rfl ?_
  refine go_run 3 (F' := (20, [some (.ref 134), some (.int p1), some (.int p2)], [.int 1, .ref 134], h)) rfl ?_
  refine go_pf rfl c134 (Nat.le_of_ble_eq_true rfl) rfl rfl ?_
  refine go_run 0 (F' := (23, [some (.ref 134), some (.int p1), some (.int p2)], [], (List.set h 134 (mo 1 ty fa wh ch it at_ bad co de 0 st sz tp am bm mn rm sp be wo)))) rfl ?_
  refine go_run 1 (F' := (24, [some (.ref 134), some (.int p1), some (.int p2)], [.ref 134], (List.set h 134 (mo 1 ty fa wh ch it at_ bad co de 0 st sz tp am bm mn rm sp be wo)))) rfl ?_
  refine go_gf rfl (gs_self c134) rfl ?_
  refine go_run 0 (F' := (27, [some (.ref 134), some (.int p1), some (.int p2)], [.int 1], (List.set h 134 (mo 1 ty fa wh ch it at_ bad co de 0 st sz tp am bm mn rm sp be wo)))) rfl ?_
  refine go_run 2 (F' := (44, [some (.ref 134), some (.int p1), some (.int p2)], [.int 0], (List.set h 134 (mo 1 ty fa wh ch it at_ bad co de 0 st sz tp am bm mn rm sp be wo)))) rfl ?_
  exact go_end rfl rfl
set_option maxRecDepth 100000 in
theorem um_variable_4 {X : ie_X} {d : Nat} {h : ie_H} {p1 p2 t_ ty fa wh ch it at_ bad co de st sz tp am bm mn rm sp be wo : Int32} {f168 : Nat → Int32} (c134 : h[134]? = some (mo t_ ty fa wh ch it at_ bad co de 0 st sz tp am bm mn rm sp be wo)) (c168 : h[168]? = some (.inl (0, 24, .inl f168))) (q1 : ¬ (p1 < 0)) (q2 : p1 ≤ 5) (q3 : ¬ (p2 < 0)) (q4 : p2 ≤ 3) (b_4 : 0 ≤ Int32.toInt ((4 * p1) + p2) ∧ Int32.toInt ((4 * p1) + p2) < (24 : Int)) : Go X (d + 1) 211 (0, ie_en 211 [.ref 134, .int p1, .int p2], [], h) (.inl (some (.int (f168 (Int32.toNatClampNeg ((4 * p1) + p2)))))) (List.set h 134 (mo 0 ty fa wh ch it at_ bad co de 0 st sz tp am bm mn rm sp be wo)) := by
  refine go_run 0 (F' := (0, [some (.ref 134), some (.int p1), some (.int p2)], [], h)) rfl ?_
  refine go_run 2 (F' := (2, [some (.ref 134), some (.int p1), some (.int p2)], [.int p1, .ref 134], h)) rfl ?_
  refine go_call (m' := 183) (v := some (.int 0)) (h1 := h) rfl rfl ⟨rfl, Nat.le_of_ble_eq_true rfl⟩ ?_ ?_
  · refine go_run 0 (F' := (0, [some (.int p1)], [], h)) rfl ?_
    refine go_run 1 (F' := (1, [some (.int p1)], [.int p1], h)) rfl ?_
    refine go_step rfl rfl ?_
    rw [if_neg q1]
    refine go_run 0 (F' := (4, [some (.int p1)], [], h)) rfl ?_
    refine go_run 2 (F' := (6, [some (.int p1)], [.int 5, .int p1], h)) rfl ?_
    refine go_step rfl rfl ?_
    rw [if_pos q2]
    refine go_run 0 (F' := (13, [some (.int p1)], [], h)) rfl ?_
    refine go_run 1 (F' := (14, [some (.int p1)], [.int 0], h)) rfl ?_
    exact go_end rfl rfl
  refine go_run 0 (F' := (5, [some (.ref 134), some (.int p1), some (.int p2)], [.int 0, .ref 134], h)) rfl ?_
  refine go_run 2 (F' := (9, [some (.ref 134), some (.int p1), some (.int p2)], [.int p2, .ref 134], h)) rfl ?_
  refine go_call (m' := 186) (v := some (.int 0)) (h1 := h) rfl rfl ⟨rfl, Nat.le_of_ble_eq_true rfl⟩ ?_ ?_
  · refine go_run 0 (F' := (0, [some (.int p2)], [], h)) rfl ?_
    refine go_run 1 (F' := (1, [some (.int p2)], [.int p2], h)) rfl ?_
    refine go_step rfl rfl ?_
    rw [if_neg q3]
    refine go_run 0 (F' := (4, [some (.int p2)], [], h)) rfl ?_
    refine go_run 2 (F' := (6, [some (.int p2)], [.int 3, .int p2], h)) rfl ?_
    refine go_step rfl rfl ?_
    rw [if_pos q4]
    refine go_run 0 (F' := (13, [some (.int p2)], [], h)) rfl ?_
    refine go_run 1 (F' := (14, [some (.int p2)], [.int 0], h)) rfl ?_
    exact go_end rfl rfl
  refine go_run 0 (F' := (12, [some (.ref 134), some (.int p1), some (.int p2)], [.int 0, .ref 134], h)) rfl ?_
  refine go_run 2 (F' := (20, [some (.ref 134), some (.int p1), some (.int p2)], [.int 0, .ref 134], h)) rfl ?_
  refine go_pf rfl c134 (Nat.le_of_ble_eq_true rfl) rfl rfl ?_
  refine go_run 0 (F' := (23, [some (.ref 134), some (.int p1), some (.int p2)], [], (List.set h 134 (mo 0 ty fa wh ch it at_ bad co de 0 st sz tp am bm mn rm sp be wo)))) rfl ?_
  refine go_run 1 (F' := (24, [some (.ref 134), some (.int p1), some (.int p2)], [.ref 134], (List.set h 134 (mo 0 ty fa wh ch it at_ bad co de 0 st sz tp am bm mn rm sp be wo)))) rfl ?_
  refine go_gf rfl (gs_self c134) rfl ?_
  refine go_run 0 (F' := (27, [some (.ref 134), some (.int p1), some (.int p2)], [.int 0], (List.set h 134 (mo 0 ty fa wh ch it at_ bad co de 0 st sz tp am bm mn rm sp be wo)))) rfl ?_
  refine go_run 2 (F' := (31, [some (.ref 134), some (.int p1), some (.int p2)], [.ref 134], (List.set h 134 (mo 0 ty fa wh ch it at_ bad co de 0 st sz tp am bm mn rm sp be wo)))) rfl ?_
  refine go_gf rfl (gs_self c134) rfl ?_
  refine go_run 0 (F' := (34, [some (.ref 134), some (.int p1), some (.int p2)], [.ref 168], (List.set h 134 (mo 0 ty fa wh ch it at_ bad co de 0 st sz tp am bm mn rm sp be wo)))) rfl ?_
  refine go_run 5 (F' := (39, [some (.ref 134), some (.int p1), some (.int p2)], [.int ((4 * p1) + p2), .ref 168], (List.set h 134 (mo 0 ty fa wh ch it at_ bad co de 0 st sz tp am bm mn rm sp be wo)))) rfl ?_
  refine go_iald rfl (by decide) (gs_ne (by decide) c168) b_4 rfl ?_
  refine go_run 0 (F' := (40, [some (.ref 134), some (.int p1), some (.int p2)], [.int (f168 (Int32.toNatClampNeg ((4 * p1) + p2)))], (List.set h 134 (mo 0 ty fa wh ch it at_ bad co de 0 st sz tp am bm mn rm sp be wo)))) rfl ?_
  refine go_run 1 (F' := (44, [some (.ref 134), some (.int p1), some (.int p2)], [.int (f168 (Int32.toNatClampNeg ((4 * p1) + p2)))], (List.set h 134 (mo 0 ty fa wh ch it at_ bad co de 0 st sz tp am bm mn rm sp be wo)))) rfl ?_
  exact go_end rfl rfl
set_option maxRecDepth 100000 in
theorem um_variable_5 {X : ie_X} {d : Nat} {h : ie_H} {p1 p2 t_ ty fa wh ch it at_ bad co de st sz tp am bm mn rm sp be wo : Int32} (c134 : h[134]? = some (mo t_ ty fa wh ch it at_ bad co de 0 st sz tp am bm mn rm sp be wo)) (q1 : ¬ (p1 < 0)) (q2 : p1 ≤ 5) (q3 : ¬ (p2 < 0)) (q4 : ¬ (p2 ≤ 3)) : Go X (d + 1) 211 (0, ie_en 211 [.ref 134, .int p1, .int p2], [], h) (.inl (some (.int 0))) (List.set h 134 (mo 1 ty fa wh ch it at_ bad co de 0 st sz tp am bm mn rm sp be wo)) := by
  refine go_run 0 (F' := (0, [some (.ref 134), some (.int p1), some (.int p2)], [], h)) rfl ?_
  refine go_run 2 (F' := (2, [some (.ref 134), some (.int p1), some (.int p2)], [.int p1, .ref 134], h)) rfl ?_
  refine go_call (m' := 183) (v := some (.int 0)) (h1 := h) rfl rfl ⟨rfl, Nat.le_of_ble_eq_true rfl⟩ ?_ ?_
  · refine go_run 0 (F' := (0, [some (.int p1)], [], h)) rfl ?_
    refine go_run 1 (F' := (1, [some (.int p1)], [.int p1], h)) rfl ?_
    refine go_step rfl rfl ?_
    rw [if_neg q1]
    refine go_run 0 (F' := (4, [some (.int p1)], [], h)) rfl ?_
    refine go_run 2 (F' := (6, [some (.int p1)], [.int 5, .int p1], h)) rfl ?_
    refine go_step rfl rfl ?_
    rw [if_pos q2]
    refine go_run 0 (F' := (13, [some (.int p1)], [], h)) rfl ?_
    refine go_run 1 (F' := (14, [some (.int p1)], [.int 0], h)) rfl ?_
    exact go_end rfl rfl
  refine go_run 0 (F' := (5, [some (.ref 134), some (.int p1), some (.int p2)], [.int 0, .ref 134], h)) rfl ?_
  refine go_run 2 (F' := (9, [some (.ref 134), some (.int p1), some (.int p2)], [.int p2, .ref 134], h)) rfl ?_
  refine go_call (m' := 186) (v := some (.int 1)) (h1 := h) rfl rfl ⟨rfl, Nat.le_of_ble_eq_true rfl⟩ ?_ ?_
  · refine go_run 0 (F' := (0, [some (.int p2)], [], h)) rfl ?_
    refine go_run 1 (F' := (1, [some (.int p2)], [.int p2], h)) rfl ?_
    refine go_step rfl rfl ?_
    rw [if_neg q3]
    refine go_run 0 (F' := (4, [some (.int p2)], [], h)) rfl ?_
    refine go_run 2 (F' := (6, [some (.int p2)], [.int 3, .int p2], h)) rfl ?_
    refine go_step rfl rfl ?_
    rw [if_neg q4]
    refine go_run 0 (F' := (9, [some (.int p2)], [], h)) rfl ?_
    refine go_run 2 (F' := (14, [some (.int p2)], [.int 1], h)) rfl ?_
    exact go_end rfl rfl
  refine go_run 0 (F' := (12, [some (.ref 134), some (.int p1), some (.int p2)], [.int 1, .ref 134], h)) rfl ?_
  refine go_run 3 (F' := (20, [some (.ref 134), some (.int p1), some (.int p2)], [.int 1, .ref 134], h)) rfl ?_
  refine go_pf rfl c134 (Nat.le_of_ble_eq_true rfl) rfl rfl ?_
  refine go_run 0 (F' := (23, [some (.ref 134), some (.int p1), some (.int p2)], [], (List.set h 134 (mo 1 ty fa wh ch it at_ bad co de 0 st sz tp am bm mn rm sp be wo)))) rfl ?_
  refine go_run 1 (F' := (24, [some (.ref 134), some (.int p1), some (.int p2)], [.ref 134], (List.set h 134 (mo 1 ty fa wh ch it at_ bad co de 0 st sz tp am bm mn rm sp be wo)))) rfl ?_
  refine go_gf rfl (gs_self c134) rfl ?_
  refine go_run 0 (F' := (27, [some (.ref 134), some (.int p1), some (.int p2)], [.int 1], (List.set h 134 (mo 1 ty fa wh ch it at_ bad co de 0 st sz tp am bm mn rm sp be wo)))) rfl ?_
  refine go_run 2 (F' := (44, [some (.ref 134), some (.int p1), some (.int p2)], [.int 0], (List.set h 134 (mo 1 ty fa wh ch it at_ bad co de 0 st sz tp am bm mn rm sp be wo)))) rfl ?_
  exact go_end rfl rfl
set_option maxRecDepth 100000 in
theorem uc_queue_1 {X : ie_X} {d : Nat} {h : ie_H} {p1 p2 nl cf cw : Int32} (c0 : h[0]? = some (.inr (0, [.ref 1, .int nl, .int cf, .int cw, .null, .ref 2, .ref 133]))) (q1 : p1 < 0) : Go X (d + 3) 118 (0, ie_en 118 [.ref 0, .int p1, .int p2, .ref 177], [], h) (.inl (some (.int 1))) (h ++ [.inr (14, [])]) := by
  refine go_run 0 (F' := (0, [some (.ref 0), some (.int p1), some (.int p2), some (.ref 177), none], [], h)) rfl ?_
  refine go_run 5 (F' := (5, [some (.ref 0), some (.int p1), some (.int p2), some (.ref 177), none], [.int p2, .int p1, .ref 0, .int 0, .ref 177], h)) rfl ?_
  refine go_catch (m' := 119) (ci := 14) (h1 := (h ++ [.inr (14, [])])) rfl (by simp only [ie_step, ie_iv, List.drop, c0, if_true]; rfl) ⟨rfl, Nat.le_of_ble_eq_true rfl⟩ rfl rfl rfl ?_ ?_
  · refine go_run 0 (F' := (0, [some (.ref 0), some (.int p1), some (.int p2)], [], h)) rfl ?_
    refine go_run 2 (F' := (2, [some (.ref 0), some (.int p1), some (.int p2)], [.int p2, .int p1], h)) rfl ?_
    refine go_out (m' := 120) rfl rfl ⟨rfl, Nat.le_of_ble_eq_true rfl⟩ rfl rfl ?_
    · refine go_run 0 (F' := (0, [some (.int p1), some (.int p2)], [], h)) rfl ?_
      refine go_run 1 (F' := (1, [some (.int p1), some (.int p2)], [.int p1], h)) rfl ?_
      refine go_call (m' := 33) (v := some (.int 0)) (h1 := h) rfl rfl ⟨rfl, Nat.le_of_ble_eq_true rfl⟩ ?_ ?_
      · refine go_run 0 (F' := (0, [some (.int p1)], [], h)) rfl ?_
        refine go_run 1 (F' := (1, [some (.int p1)], [.int p1], h)) rfl ?_
        refine go_step rfl rfl ?_
        rw [if_pos q1]
        refine go_run 0 (F' := (14, [some (.int p1)], [], h)) rfl ?_
        refine go_run 1 (F' := (15, [some (.int p1)], [.int 0], h)) rfl ?_
        exact go_end rfl rfl
      refine go_run 0 (F' := (4, [some (.int p1), some (.int p2)], [.int 0], h)) rfl ?_
      refine go_run 1 (F' := (19, [some (.int p1), some (.int p2)], [], h)) rfl ?_
      exact go_end rfl rfl
  refine go_run 0 (F' := (15, [some (.ref 0), some (.int p1), some (.int p2), some (.ref 177), none], [], (h ++ [.inr (14, [])]))) rfl ?_
  refine go_run 1 (F' := (16, [some (.ref 0), some (.int p1), some (.int p2), some (.ref 177), none], [.int 1], (h ++ [.inr (14, [])]))) rfl ?_
  exact go_end rfl rfl
set_option maxRecDepth 100000 in
theorem uc_queue_2 {X : ie_X} {d : Nat} {h : ie_H} {p1 p2 nl cf cw : Int32} (c0 : h[0]? = some (.inr (0, [.ref 1, .int nl, .int cf, .int cw, .null, .ref 2, .ref 133]))) (q1 : ¬ (p1 < 0)) (q2 : 6 ≤ p1) : Go X (d + 3) 118 (0, ie_en 118 [.ref 0, .int p1, .int p2, .ref 177], [], h) (.inl (some (.int 1))) (h ++ [.inr (14, [])]) := by
  refine go_run 0 (F' := (0, [some (.ref 0), some (.int p1), some (.int p2), some (.ref 177), none], [], h)) rfl ?_
  refine go_run 5 (F' := (5, [some (.ref 0), some (.int p1), some (.int p2), some (.ref 177), none], [.int p2, .int p1, .ref 0, .int 0, .ref 177], h)) rfl ?_
  refine go_catch (m' := 119) (ci := 14) (h1 := (h ++ [.inr (14, [])])) rfl (by simp only [ie_step, ie_iv, List.drop, c0, if_true]; rfl) ⟨rfl, Nat.le_of_ble_eq_true rfl⟩ rfl rfl rfl ?_ ?_
  · refine go_run 0 (F' := (0, [some (.ref 0), some (.int p1), some (.int p2)], [], h)) rfl ?_
    refine go_run 2 (F' := (2, [some (.ref 0), some (.int p1), some (.int p2)], [.int p2, .int p1], h)) rfl ?_
    refine go_out (m' := 120) rfl rfl ⟨rfl, Nat.le_of_ble_eq_true rfl⟩ rfl rfl ?_
    · refine go_run 0 (F' := (0, [some (.int p1), some (.int p2)], [], h)) rfl ?_
      refine go_run 1 (F' := (1, [some (.int p1), some (.int p2)], [.int p1], h)) rfl ?_
      refine go_call (m' := 33) (v := some (.int 0)) (h1 := h) rfl rfl ⟨rfl, Nat.le_of_ble_eq_true rfl⟩ ?_ ?_
      · refine go_run 0 (F' := (0, [some (.int p1)], [], h)) rfl ?_
        refine go_run 1 (F' := (1, [some (.int p1)], [.int p1], h)) rfl ?_
        refine go_step rfl rfl ?_
        rw [if_neg q1]
        refine go_run 0 (F' := (4, [some (.int p1)], [], h)) rfl ?_
        refine go_run 2 (F' := (7, [some (.int p1)], [.int 6, .int p1], h)) rfl ?_
        refine go_step rfl rfl ?_
        rw [if_pos q2]
        refine go_run 0 (F' := (14, [some (.int p1)], [], h)) rfl ?_
        refine go_run 1 (F' := (15, [some (.int p1)], [.int 0], h)) rfl ?_
        exact go_end rfl rfl
      refine go_run 0 (F' := (4, [some (.int p1), some (.int p2)], [.int 0], h)) rfl ?_
      refine go_run 1 (F' := (19, [some (.int p1), some (.int p2)], [], h)) rfl ?_
      exact go_end rfl rfl
  refine go_run 0 (F' := (15, [some (.ref 0), some (.int p1), some (.int p2), some (.ref 177), none], [], (h ++ [.inr (14, [])]))) rfl ?_
  refine go_run 1 (F' := (16, [some (.ref 0), some (.int p1), some (.int p2), some (.ref 177), none], [.int 1], (h ++ [.inr (14, [])]))) rfl ?_
  exact go_end rfl rfl
set_option maxRecDepth 100000 in
theorem uc_queue_3 {X : ie_X} {d : Nat} {h : ie_H} {p1 p2 nl cf cw : Int32} (c0 : h[0]? = some (.inr (0, [.ref 1, .int nl, .int cf, .int cw, .null, .ref 2, .ref 133]))) (q1 : ¬ (p1 < 0)) (q2 : ¬ (6 ≤ p1)) (q3 : p2 < 0) : Go X (d + 3) 118 (0, ie_en 118 [.ref 0, .int p1, .int p2, .ref 177], [], h) (.inl (some (.int 1))) (h ++ [.inr (14, [])]) := by
  refine go_run 0 (F' := (0, [some (.ref 0), some (.int p1), some (.int p2), some (.ref 177), none], [], h)) rfl ?_
  refine go_run 5 (F' := (5, [some (.ref 0), some (.int p1), some (.int p2), some (.ref 177), none], [.int p2, .int p1, .ref 0, .int 0, .ref 177], h)) rfl ?_
  refine go_catch (m' := 119) (ci := 14) (h1 := (h ++ [.inr (14, [])])) rfl (by simp only [ie_step, ie_iv, List.drop, c0, if_true]; rfl) ⟨rfl, Nat.le_of_ble_eq_true rfl⟩ rfl rfl rfl ?_ ?_
  · refine go_run 0 (F' := (0, [some (.ref 0), some (.int p1), some (.int p2)], [], h)) rfl ?_
    refine go_run 2 (F' := (2, [some (.ref 0), some (.int p1), some (.int p2)], [.int p2, .int p1], h)) rfl ?_
    refine go_out (m' := 120) rfl rfl ⟨rfl, Nat.le_of_ble_eq_true rfl⟩ rfl rfl ?_
    · refine go_run 0 (F' := (0, [some (.int p1), some (.int p2)], [], h)) rfl ?_
      refine go_run 1 (F' := (1, [some (.int p1), some (.int p2)], [.int p1], h)) rfl ?_
      refine go_call (m' := 33) (v := some (.int 1)) (h1 := h) rfl rfl ⟨rfl, Nat.le_of_ble_eq_true rfl⟩ ?_ ?_
      · refine go_run 0 (F' := (0, [some (.int p1)], [], h)) rfl ?_
        refine go_run 1 (F' := (1, [some (.int p1)], [.int p1], h)) rfl ?_
        refine go_step rfl rfl ?_
        rw [if_neg q1]
        refine go_run 0 (F' := (4, [some (.int p1)], [], h)) rfl ?_
        refine go_run 2 (F' := (7, [some (.int p1)], [.int 6, .int p1], h)) rfl ?_
        refine go_step rfl rfl ?_
        rw [if_neg q2]
        refine go_run 0 (F' := (10, [some (.int p1)], [], h)) rfl ?_
        refine go_run 2 (F' := (15, [some (.int p1)], [.int 1], h)) rfl ?_
        exact go_end rfl rfl
      refine go_run 0 (F' := (4, [some (.int p1), some (.int p2)], [.int 1], h)) rfl ?_
      refine go_run 2 (F' := (8, [some (.int p1), some (.int p2)], [.int p2], h)) rfl ?_
      refine go_call (m' := 33) (v := some (.int 0)) (h1 := h) rfl rfl ⟨rfl, Nat.le_of_ble_eq_true rfl⟩ ?_ ?_
      · refine go_run 0 (F' := (0, [some (.int p2)], [], h)) rfl ?_
        refine go_run 1 (F' := (1, [some (.int p2)], [.int p2], h)) rfl ?_
        refine go_step rfl rfl ?_
        rw [if_pos q3]
        refine go_run 0 (F' := (14, [some (.int p2)], [], h)) rfl ?_
        refine go_run 1 (F' := (15, [some (.int p2)], [.int 0], h)) rfl ?_
        exact go_end rfl rfl
      refine go_run 0 (F' := (11, [some (.int p1), some (.int p2)], [.int 0], h)) rfl ?_
      refine go_run 1 (F' := (19, [some (.int p1), some (.int p2)], [], h)) rfl ?_
      exact go_end rfl rfl
  refine go_run 0 (F' := (15, [some (.ref 0), some (.int p1), some (.int p2), some (.ref 177), none], [], (h ++ [.inr (14, [])]))) rfl ?_
  refine go_run 1 (F' := (16, [some (.ref 0), some (.int p1), some (.int p2), some (.ref 177), none], [.int 1], (h ++ [.inr (14, [])]))) rfl ?_
  exact go_end rfl rfl
set_option maxRecDepth 100000 in
theorem uc_queue_4 {X : ie_X} {d : Nat} {h : ie_H} {p1 p2 nl cf cw : Int32} (c0 : h[0]? = some (.inr (0, [.ref 1, .int nl, .int cf, .int cw, .null, .ref 2, .ref 133]))) (q1 : ¬ (p1 < 0)) (q2 : ¬ (6 ≤ p1)) (q3 : ¬ (p2 < 0)) (q4 : 6 ≤ p2) : Go X (d + 3) 118 (0, ie_en 118 [.ref 0, .int p1, .int p2, .ref 177], [], h) (.inl (some (.int 1))) (h ++ [.inr (14, [])]) := by
  refine go_run 0 (F' := (0, [some (.ref 0), some (.int p1), some (.int p2), some (.ref 177), none], [], h)) rfl ?_
  refine go_run 5 (F' := (5, [some (.ref 0), some (.int p1), some (.int p2), some (.ref 177), none], [.int p2, .int p1, .ref 0, .int 0, .ref 177], h)) rfl ?_
  refine go_catch (m' := 119) (ci := 14) (h1 := (h ++ [.inr (14, [])])) rfl (by simp only [ie_step, ie_iv, List.drop, c0, if_true]; rfl) ⟨rfl, Nat.le_of_ble_eq_true rfl⟩ rfl rfl rfl ?_ ?_
  · refine go_run 0 (F' := (0, [some (.ref 0), some (.int p1), some (.int p2)], [], h)) rfl ?_
    refine go_run 2 (F' := (2, [some (.ref 0), some (.int p1), some (.int p2)], [.int p2, .int p1], h)) rfl ?_
    refine go_out (m' := 120) rfl rfl ⟨rfl, Nat.le_of_ble_eq_true rfl⟩ rfl rfl ?_
    · refine go_run 0 (F' := (0, [some (.int p1), some (.int p2)], [], h)) rfl ?_
      refine go_run 1 (F' := (1, [some (.int p1), some (.int p2)], [.int p1], h)) rfl ?_
      refine go_call (m' := 33) (v := some (.int 1)) (h1 := h) rfl rfl ⟨rfl, Nat.le_of_ble_eq_true rfl⟩ ?_ ?_
      · refine go_run 0 (F' := (0, [some (.int p1)], [], h)) rfl ?_
        refine go_run 1 (F' := (1, [some (.int p1)], [.int p1], h)) rfl ?_
        refine go_step rfl rfl ?_
        rw [if_neg q1]
        refine go_run 0 (F' := (4, [some (.int p1)], [], h)) rfl ?_
        refine go_run 2 (F' := (7, [some (.int p1)], [.int 6, .int p1], h)) rfl ?_
        refine go_step rfl rfl ?_
        rw [if_neg q2]
        refine go_run 0 (F' := (10, [some (.int p1)], [], h)) rfl ?_
        refine go_run 2 (F' := (15, [some (.int p1)], [.int 1], h)) rfl ?_
        exact go_end rfl rfl
      refine go_run 0 (F' := (4, [some (.int p1), some (.int p2)], [.int 1], h)) rfl ?_
      refine go_run 2 (F' := (8, [some (.int p1), some (.int p2)], [.int p2], h)) rfl ?_
      refine go_call (m' := 33) (v := some (.int 0)) (h1 := h) rfl rfl ⟨rfl, Nat.le_of_ble_eq_true rfl⟩ ?_ ?_
      · refine go_run 0 (F' := (0, [some (.int p2)], [], h)) rfl ?_
        refine go_run 1 (F' := (1, [some (.int p2)], [.int p2], h)) rfl ?_
        refine go_step rfl rfl ?_
        rw [if_neg q3]
        refine go_run 0 (F' := (4, [some (.int p2)], [], h)) rfl ?_
        refine go_run 2 (F' := (7, [some (.int p2)], [.int 6, .int p2], h)) rfl ?_
        refine go_step rfl rfl ?_
        rw [if_pos q4]
        refine go_run 0 (F' := (14, [some (.int p2)], [], h)) rfl ?_
        refine go_run 1 (F' := (15, [some (.int p2)], [.int 0], h)) rfl ?_
        exact go_end rfl rfl
      refine go_run 0 (F' := (11, [some (.int p1), some (.int p2)], [.int 0], h)) rfl ?_
      refine go_run 1 (F' := (19, [some (.int p1), some (.int p2)], [], h)) rfl ?_
      exact go_end rfl rfl
  refine go_run 0 (F' := (15, [some (.ref 0), some (.int p1), some (.int p2), some (.ref 177), none], [], (h ++ [.inr (14, [])]))) rfl ?_
  refine go_run 1 (F' := (16, [some (.ref 0), some (.int p1), some (.int p2), some (.ref 177), none], [.int 1], (h ++ [.inr (14, [])]))) rfl ?_
  exact go_end rfl rfl
set_option maxRecDepth 100000 in
theorem uc_queue_5 {X : ie_X} {d : Nat} {h : ie_H} {p1 p2 nl cf cw : Int32} (c0 : h[0]? = some (.inr (0, [.ref 1, .int nl, .int cf, .int cw, .null, .ref 2, .ref 133]))) (q1 : ¬ (p1 < 0)) (q2 : ¬ (6 ≤ p1)) (q3 : ¬ (p2 < 0)) (q4 : ¬ (6 ≤ p2)) (q5 : p1 = p2) : Go X (d + 3) 118 (0, ie_en 118 [.ref 0, .int p1, .int p2, .ref 177], [], h) (.inl (some (.int 1))) (h ++ [.inr (14, [])]) := by
  refine go_run 0 (F' := (0, [some (.ref 0), some (.int p1), some (.int p2), some (.ref 177), none], [], h)) rfl ?_
  refine go_run 5 (F' := (5, [some (.ref 0), some (.int p1), some (.int p2), some (.ref 177), none], [.int p2, .int p1, .ref 0, .int 0, .ref 177], h)) rfl ?_
  refine go_catch (m' := 119) (ci := 14) (h1 := (h ++ [.inr (14, [])])) rfl (by simp only [ie_step, ie_iv, List.drop, c0, if_true]; rfl) ⟨rfl, Nat.le_of_ble_eq_true rfl⟩ rfl rfl rfl ?_ ?_
  · refine go_run 0 (F' := (0, [some (.ref 0), some (.int p1), some (.int p2)], [], h)) rfl ?_
    refine go_run 2 (F' := (2, [some (.ref 0), some (.int p1), some (.int p2)], [.int p2, .int p1], h)) rfl ?_
    refine go_out (m' := 120) rfl rfl ⟨rfl, Nat.le_of_ble_eq_true rfl⟩ rfl rfl ?_
    · refine go_run 0 (F' := (0, [some (.int p1), some (.int p2)], [], h)) rfl ?_
      refine go_run 1 (F' := (1, [some (.int p1), some (.int p2)], [.int p1], h)) rfl ?_
      refine go_call (m' := 33) (v := some (.int 1)) (h1 := h) rfl rfl ⟨rfl, Nat.le_of_ble_eq_true rfl⟩ ?_ ?_
      · refine go_run 0 (F' := (0, [some (.int p1)], [], h)) rfl ?_
        refine go_run 1 (F' := (1, [some (.int p1)], [.int p1], h)) rfl ?_
        refine go_step rfl rfl ?_
        rw [if_neg q1]
        refine go_run 0 (F' := (4, [some (.int p1)], [], h)) rfl ?_
        refine go_run 2 (F' := (7, [some (.int p1)], [.int 6, .int p1], h)) rfl ?_
        refine go_step rfl rfl ?_
        rw [if_neg q2]
        refine go_run 0 (F' := (10, [some (.int p1)], [], h)) rfl ?_
        refine go_run 2 (F' := (15, [some (.int p1)], [.int 1], h)) rfl ?_
        exact go_end rfl rfl
      refine go_run 0 (F' := (4, [some (.int p1), some (.int p2)], [.int 1], h)) rfl ?_
      refine go_run 2 (F' := (8, [some (.int p1), some (.int p2)], [.int p2], h)) rfl ?_
      refine go_call (m' := 33) (v := some (.int 1)) (h1 := h) rfl rfl ⟨rfl, Nat.le_of_ble_eq_true rfl⟩ ?_ ?_
      · refine go_run 0 (F' := (0, [some (.int p2)], [], h)) rfl ?_
        refine go_run 1 (F' := (1, [some (.int p2)], [.int p2], h)) rfl ?_
        refine go_step rfl rfl ?_
        rw [if_neg q3]
        refine go_run 0 (F' := (4, [some (.int p2)], [], h)) rfl ?_
        refine go_run 2 (F' := (7, [some (.int p2)], [.int 6, .int p2], h)) rfl ?_
        refine go_step rfl rfl ?_
        rw [if_neg q4]
        refine go_run 0 (F' := (10, [some (.int p2)], [], h)) rfl ?_
        refine go_run 2 (F' := (15, [some (.int p2)], [.int 1], h)) rfl ?_
        exact go_end rfl rfl
      refine go_run 0 (F' := (11, [some (.int p1), some (.int p2)], [.int 1], h)) rfl ?_
      refine go_run 3 (F' := (16, [some (.int p1), some (.int p2)], [.int p2, .int p1], h)) rfl ?_
      refine go_step rfl rfl ?_
      rw [if_pos q5]
      refine go_run 0 (F' := (19, [some (.int p1), some (.int p2)], [], h)) rfl ?_
      exact go_end rfl rfl
  refine go_run 0 (F' := (15, [some (.ref 0), some (.int p1), some (.int p2), some (.ref 177), none], [], (h ++ [.inr (14, [])]))) rfl ?_
  refine go_run 1 (F' := (16, [some (.ref 0), some (.int p1), some (.int p2), some (.ref 177), none], [.int 1], (h ++ [.inr (14, [])]))) rfl ?_
  exact go_end rfl rfl
set_option maxRecDepth 100000 in
theorem uc_queue_6 {X : ie_X} {d : Nat} {h : ie_H} {p1 p2 nl cf cw crm csp v4 v5 : Int32} {a1 : Nat} {z2 z3 : Value} {fo : Nat → Int64} (c0 : h[0]? = some (.inr (0, [.ref 1, .int nl, .int cf, .int cw, .null, .ref 2, .ref 133]))) (c2 : h[2]? = some (.inr (8, [.ref 3, .ref 4, .ref 5, .ref 6, .int crm, .int csp]))) (c4 : h[4]? = some (.inl (5, 36, .inr (.inr (.inr (.inr rf_4)))))) (c_a1 : h[a1]? = some (.inr (6, [z2, z3, .int v4, .int v5]))) (c177 : h[177]? = some (.inl (3, 1, .inr (.inl fo)))) (q1 : ¬ (p1 < 0)) (q2 : ¬ (6 ≤ p1)) (q3 : ¬ (p2 < 0)) (q4 : ¬ (6 ≤ p2)) (q5 : ¬ (p1 = p2)) (b_5 : 0 ≤ Int32.toInt ((p1 * 6) + p2) ∧ Int32.toInt ((p1 * 6) + p2) < (36 : Int)) (r_6 : rf_4 (Int32.toNatClampNeg ((p1 * 6) + p2)) = some a1) (ne_177_a1 : 177 ≠ a1) : Go X (d + 3) 118 (0, ie_en 118 [.ref 0, .int p1, .int p2, .ref 177], [], h) (.inl (some (.int 0))) (List.set h 177 (.inl (3, 1, .inr (.inl (vp_updL fo 0 (Int32.toInt64 v5)))))) := by
  refine go_run 0 (F' := (0, [some (.ref 0), some (.int p1), some (.int p2), some (.ref 177), none], [], h)) rfl ?_
  refine go_run 5 (F' := (5, [some (.ref 0), some (.int p1), some (.int p2), some (.ref 177), none], [.int p2, .int p1, .ref 0, .int 0, .ref 177], h)) rfl ?_
  refine go_call (m' := 119) (v := some (.int v5)) (h1 := h) rfl (by simp only [ie_step, ie_iv, List.drop, c0, if_true]; rfl) ⟨rfl, Nat.le_of_ble_eq_true rfl⟩ ?_ ?_
  · refine go_run 0 (F' := (0, [some (.ref 0), some (.int p1), some (.int p2)], [], h)) rfl ?_
    refine go_run 2 (F' := (2, [some (.ref 0), some (.int p1), some (.int p2)], [.int p2, .int p1], h)) rfl ?_
    refine go_call (m' := 120) (v := none) (h1 := h) rfl rfl ⟨rfl, Nat.le_of_ble_eq_true rfl⟩ ?_ ?_
    · refine go_run 0 (F' := (0, [some (.int p1), some (.int p2)], [], h)) rfl ?_
      refine go_run 1 (F' := (1, [some (.int p1), some (.int p2)], [.int p1], h)) rfl ?_
      refine go_call (m' := 33) (v := some (.int 1)) (h1 := h) rfl rfl ⟨rfl, Nat.le_of_ble_eq_true rfl⟩ ?_ ?_
      · refine go_run 0 (F' := (0, [some (.int p1)], [], h)) rfl ?_
        refine go_run 1 (F' := (1, [some (.int p1)], [.int p1], h)) rfl ?_
        refine go_step rfl rfl ?_
        rw [if_neg q1]
        refine go_run 0 (F' := (4, [some (.int p1)], [], h)) rfl ?_
        refine go_run 2 (F' := (7, [some (.int p1)], [.int 6, .int p1], h)) rfl ?_
        refine go_step rfl rfl ?_
        rw [if_neg q2]
        refine go_run 0 (F' := (10, [some (.int p1)], [], h)) rfl ?_
        refine go_run 2 (F' := (15, [some (.int p1)], [.int 1], h)) rfl ?_
        exact go_end rfl rfl
      refine go_run 0 (F' := (4, [some (.int p1), some (.int p2)], [.int 1], h)) rfl ?_
      refine go_run 2 (F' := (8, [some (.int p1), some (.int p2)], [.int p2], h)) rfl ?_
      refine go_call (m' := 33) (v := some (.int 1)) (h1 := h) rfl rfl ⟨rfl, Nat.le_of_ble_eq_true rfl⟩ ?_ ?_
      · refine go_run 0 (F' := (0, [some (.int p2)], [], h)) rfl ?_
        refine go_run 1 (F' := (1, [some (.int p2)], [.int p2], h)) rfl ?_
        refine go_step rfl rfl ?_
        rw [if_neg q3]
        refine go_run 0 (F' := (4, [some (.int p2)], [], h)) rfl ?_
        refine go_run 2 (F' := (7, [some (.int p2)], [.int 6, .int p2], h)) rfl ?_
        refine go_step rfl rfl ?_
        rw [if_neg q4]
        refine go_run 0 (F' := (10, [some (.int p2)], [], h)) rfl ?_
        refine go_run 2 (F' := (15, [some (.int p2)], [.int 1], h)) rfl ?_
        exact go_end rfl rfl
      refine go_run 0 (F' := (11, [some (.int p1), some (.int p2)], [.int 1], h)) rfl ?_
      refine go_run 3 (F' := (16, [some (.int p1), some (.int p2)], [.int p2, .int p1], h)) rfl ?_
      refine go_step rfl rfl ?_
      rw [if_neg q5]
      refine go_run 0 (F' := (27, [some (.int p1), some (.int p2)], [], h)) rfl ?_
      exact go_end rfl rfl
    refine go_run 0 (F' := (5, [some (.ref 0), some (.int p1), some (.int p2)], [], h)) rfl ?_
    refine go_run 1 (F' := (6, [some (.ref 0), some (.int p1), some (.int p2)], [.ref 0], h)) rfl ?_
    refine go_gf rfl c0 rfl ?_
    refine go_run 0 (F' := (9, [some (.ref 0), some (.int p1), some (.int p2)], [.ref 2], h)) rfl ?_
    refine go_run 2 (F' := (11, [some (.ref 0), some (.int p1), some (.int p2)], [.int p2, .int p1, .ref 2], h)) rfl ?_
    refine go_call (m' := 104) (v := some (.ref a1)) (h1 := h) rfl (by simp only [ie_step, ie_iv, List.drop, c2, if_true]; rfl) ⟨rfl, Nat.le_of_ble_eq_true rfl⟩ ?_ ?_
    · refine go_run 0 (F' := (0, [some (.ref 2), some (.int p1), some (.int p2)], [], h)) rfl ?_
      refine go_run 1 (F' := (1, [some (.ref 2), some (.int p1), some (.int p2)], [.ref 2], h)) rfl ?_
      refine go_gf rfl c2 rfl ?_
      refine go_run 0 (F' := (4, [some (.ref 2), some (.int p1), some (.int p2)], [.ref 4], h)) rfl ?_
      refine go_run 5 (F' := (10, [some (.ref 2), some (.int p1), some (.int p2)], [.int ((p1 * 6) + p2), .ref 4], h)) rfl ?_
      refine go_aald rfl c4 (by decide) b_5 r_6 ?_
      refine go_run 0 (F' := (11, [some (.ref 2), some (.int p1), some (.int p2)], [.ref a1], h)) rfl ?_
      exact go_end rfl rfl
    refine go_run 0 (F' := (14, [some (.ref 0), some (.int p1), some (.int p2)], [.ref a1], h)) rfl ?_
    refine go_gf rfl c_a1 rfl ?_
    refine go_run 0 (F' := (17, [some (.ref 0), some (.int p1), some (.int p2)], [.int v5], h)) rfl ?_
    exact go_end rfl rfl
  refine go_run 0 (F' := (8, [some (.ref 0), some (.int p1), some (.int p2), some (.ref 177), none], [.int v5, .int 0, .ref 177], h)) rfl ?_
  refine go_run 1 (F' := (9, [some (.ref 0), some (.int p1), some (.int p2), some (.ref 177), none], [.long (Int32.toInt64 v5), .int 0, .ref 177], h)) rfl ?_
  refine go_last rfl c177 (by decide) rfl ?_
  refine go_run 0 (F' := (10, [some (.ref 0), some (.int p1), some (.int p2), some (.ref 177), none], [], (List.set h 177 (.inl (3, 1, .inr (.inl (vp_updL fo 0 (Int32.toInt64 v5)))))))) rfl ?_
  refine go_run 2 (F' := (18, [some (.ref 0), some (.int p1), some (.int p2), some (.ref 177), none], [.int 0], (List.set h 177 (.inl (3, 1, .inr (.inl (vp_updL fo 0 (Int32.toInt64 v5)))))))) rfl ?_
  exact go_end rfl rfl
set_option maxRecDepth 100000 in
theorem um_queue_1 {X : ie_X} {d : Nat} {h : ie_H} {p1 p2 t_ ty fa wh ch it at_ bad co de st sz tp am bm mn rm sp be wo : Int32} (c134 : h[134]? = some (mo t_ ty fa wh ch it at_ bad co de 0 st sz tp am bm mn rm sp be wo)) (q1 : p1 < 0) : Go X (d + 2) 212 (0, ie_en 212 [.ref 134, .int p1, .int p2], [], h) (.inl (some (.int 0))) (List.set h 134 (mo 1 ty fa wh ch it at_ bad co de 0 st sz tp am bm mn rm sp be wo)) := by
  refine go_run 0 (F' := (0, [some (.ref 134), some (.int p1), some (.int p2)], [], h)) rfl ?_
  refine go_run 3 (F' := (3, [some (.ref 134), some (.int p1), some (.int p2)], [.int p2, .int p1, .ref 134], h)) rfl ?_
  refine go_call (m' := 213) (v := some (.int 1)) (h1 := h) rfl rfl ⟨rfl, Nat.le_of_ble_eq_true rfl⟩ ?_ ?_
  · refine go_run 0 (F' := (0, [some (.int p1), some (.int p2)], [], h)) rfl ?_
    refine go_run 1 (F' := (1, [some (.int p1), some (.int p2)], [.int p1], h)) rfl ?_
    refine go_call (m' := 183) (v := some (.int 1)) (h1 := h) rfl rfl ⟨rfl, Nat.le_of_ble_eq_true rfl⟩ ?_ ?_
    · refine go_run 0 (F' := (0, [some (.int p1)], [], h)) rfl ?_
      refine go_run 1 (F' := (1, [some (.int p1)], [.int p1], h)) rfl ?_
      refine go_step rfl rfl ?_
      rw [if_pos q1]
      refine go_run 0 (F' := (9, [some (.int p1)], [], h)) rfl ?_
      refine go_run 2 (F' := (14, [some (.int p1)], [.int 1], h)) rfl ?_
      exact go_end rfl rfl
    refine go_run 0 (F' := (4, [some (.int p1), some (.int p2)], [.int 1], h)) rfl ?_
    refine go_run 3 (F' := (24, [some (.int p1), some (.int p2)], [.int 1], h)) rfl ?_
    exact go_end rfl rfl
  refine go_run 0 (F' := (6, [some (.ref 134), some (.int p1), some (.int p2)], [.int 1, .ref 134], h)) rfl ?_
  refine go_run 3 (F' := (14, [some (.ref 134), some (.int p1), some (.int p2)], [.int 1, .ref 134], h)) rfl ?_
  refine go_pf rfl c134 (Nat.le_of_ble_eq_true rfl) rfl rfl ?_
  refine go_run 0 (F' := (17, [some (.ref 134), some (.int p1), some (.int p2)], [], (List.set h 134 (mo 1 ty fa wh ch it at_ bad co de 0 st sz tp am bm mn rm sp be wo)))) rfl ?_
  refine go_run 1 (F' := (18, [some (.ref 134), some (.int p1), some (.int p2)], [.ref 134], (List.set h 134 (mo 1 ty fa wh ch it at_ bad co de 0 st sz tp am bm mn rm sp be wo)))) rfl ?_
  refine go_gf rfl (gs_self c134) rfl ?_
  refine go_run 0 (F' := (21, [some (.ref 134), some (.int p1), some (.int p2)], [.int 1], (List.set h 134 (mo 1 ty fa wh ch it at_ bad co de 0 st sz tp am bm mn rm sp be wo)))) rfl ?_
  refine go_run 2 (F' := (39, [some (.ref 134), some (.int p1), some (.int p2)], [.int 0], (List.set h 134 (mo 1 ty fa wh ch it at_ bad co de 0 st sz tp am bm mn rm sp be wo)))) rfl ?_
  exact go_end rfl rfl
set_option maxRecDepth 100000 in
theorem um_queue_2 {X : ie_X} {d : Nat} {h : ie_H} {p1 p2 t_ ty fa wh ch it at_ bad co de st sz tp am bm mn rm sp be wo : Int32} (c134 : h[134]? = some (mo t_ ty fa wh ch it at_ bad co de 0 st sz tp am bm mn rm sp be wo)) (q1 : ¬ (p1 < 0)) (q2 : ¬ (p1 ≤ 5)) : Go X (d + 2) 212 (0, ie_en 212 [.ref 134, .int p1, .int p2], [], h) (.inl (some (.int 0))) (List.set h 134 (mo 1 ty fa wh ch it at_ bad co de 0 st sz tp am bm mn rm sp be wo)) := by
  refine go_run 0 (F' := (0, [some (.ref 134), some (.int p1), some (.int p2)], [], h)) rfl ?_
  refine go_run 3 (F' := (3, [some (.ref 134), some (.int p1), some (.int p2)], [.int p2, .int p1, .ref 134], h)) rfl ?_
  refine go_call (m' := 213) (v := some (.int 1)) (h1 := h) rfl rfl ⟨rfl, Nat.le_of_ble_eq_true rfl⟩ ?_ ?_
  · refine go_run 0 (F' := (0, [some (.int p1), some (.int p2)], [], h)) rfl ?_
    refine go_run 1 (F' := (1, [some (.int p1), some (.int p2)], [.int p1], h)) rfl ?_
    refine go_call (m' := 183) (v := some (.int 1)) (h1 := h) rfl rfl ⟨rfl, Nat.le_of_ble_eq_true rfl⟩ ?_ ?_
    · refine go_run 0 (F' := (0, [some (.int p1)], [], h)) rfl ?_
      refine go_run 1 (F' := (1, [some (.int p1)], [.int p1], h)) rfl ?_
      refine go_step rfl rfl ?_
      rw [if_neg q1]
      refine go_run 0 (F' := (4, [some (.int p1)], [], h)) rfl ?_
      refine go_run 2 (F' := (6, [some (.int p1)], [.int 5, .int p1], h)) rfl ?_
      refine go_step rfl rfl ?_
      rw [if_neg q2]
      refine go_run 0 (F' := (9, [some (.int p1)], [], h)) rfl ?_
      refine go_run 2 (F' := (14, [some (.int p1)], [.int 1], h)) rfl ?_
      exact go_end rfl rfl
    refine go_run 0 (F' := (4, [some (.int p1), some (.int p2)], [.int 1], h)) rfl ?_
    refine go_run 3 (F' := (24, [some (.int p1), some (.int p2)], [.int 1], h)) rfl ?_
    exact go_end rfl rfl
  refine go_run 0 (F' := (6, [some (.ref 134), some (.int p1), some (.int p2)], [.int 1, .ref 134], h)) rfl ?_
  refine go_run 3 (F' := (14, [some (.ref 134), some (.int p1), some (.int p2)], [.int 1, .ref 134], h)) rfl ?_
  refine go_pf rfl c134 (Nat.le_of_ble_eq_true rfl) rfl rfl ?_
  refine go_run 0 (F' := (17, [some (.ref 134), some (.int p1), some (.int p2)], [], (List.set h 134 (mo 1 ty fa wh ch it at_ bad co de 0 st sz tp am bm mn rm sp be wo)))) rfl ?_
  refine go_run 1 (F' := (18, [some (.ref 134), some (.int p1), some (.int p2)], [.ref 134], (List.set h 134 (mo 1 ty fa wh ch it at_ bad co de 0 st sz tp am bm mn rm sp be wo)))) rfl ?_
  refine go_gf rfl (gs_self c134) rfl ?_
  refine go_run 0 (F' := (21, [some (.ref 134), some (.int p1), some (.int p2)], [.int 1], (List.set h 134 (mo 1 ty fa wh ch it at_ bad co de 0 st sz tp am bm mn rm sp be wo)))) rfl ?_
  refine go_run 2 (F' := (39, [some (.ref 134), some (.int p1), some (.int p2)], [.int 0], (List.set h 134 (mo 1 ty fa wh ch it at_ bad co de 0 st sz tp am bm mn rm sp be wo)))) rfl ?_
  exact go_end rfl rfl
set_option maxRecDepth 100000 in
theorem um_queue_3 {X : ie_X} {d : Nat} {h : ie_H} {p1 p2 t_ ty fa wh ch it at_ bad co de st sz tp am bm mn rm sp be wo : Int32} (c134 : h[134]? = some (mo t_ ty fa wh ch it at_ bad co de 0 st sz tp am bm mn rm sp be wo)) (q1 : ¬ (p1 < 0)) (q2 : p1 ≤ 5) (q3 : p2 < 0) : Go X (d + 2) 212 (0, ie_en 212 [.ref 134, .int p1, .int p2], [], h) (.inl (some (.int 0))) (List.set h 134 (mo 1 ty fa wh ch it at_ bad co de 0 st sz tp am bm mn rm sp be wo)) := by
  refine go_run 0 (F' := (0, [some (.ref 134), some (.int p1), some (.int p2)], [], h)) rfl ?_
  refine go_run 3 (F' := (3, [some (.ref 134), some (.int p1), some (.int p2)], [.int p2, .int p1, .ref 134], h)) rfl ?_
  refine go_call (m' := 213) (v := some (.int 1)) (h1 := h) rfl rfl ⟨rfl, Nat.le_of_ble_eq_true rfl⟩ ?_ ?_
  · refine go_run 0 (F' := (0, [some (.int p1), some (.int p2)], [], h)) rfl ?_
    refine go_run 1 (F' := (1, [some (.int p1), some (.int p2)], [.int p1], h)) rfl ?_
    refine go_call (m' := 183) (v := some (.int 0)) (h1 := h) rfl rfl ⟨rfl, Nat.le_of_ble_eq_true rfl⟩ ?_ ?_
    · refine go_run 0 (F' := (0, [some (.int p1)], [], h)) rfl ?_
      refine go_run 1 (F' := (1, [some (.int p1)], [.int p1], h)) rfl ?_
      refine go_step rfl rfl ?_
      rw [if_neg q1]
      refine go_run 0 (F' := (4, [some (.int p1)], [], h)) rfl ?_
      refine go_run 2 (F' := (6, [some (.int p1)], [.int 5, .int p1], h)) rfl ?_
      refine go_step rfl rfl ?_
      rw [if_pos q2]
      refine go_run 0 (F' := (13, [some (.int p1)], [], h)) rfl ?_
      refine go_run 1 (F' := (14, [some (.int p1)], [.int 0], h)) rfl ?_
      exact go_end rfl rfl
    refine go_run 0 (F' := (4, [some (.int p1), some (.int p2)], [.int 0], h)) rfl ?_
    refine go_run 2 (F' := (8, [some (.int p1), some (.int p2)], [.int p2], h)) rfl ?_
    refine go_call (m' := 183) (v := some (.int 1)) (h1 := h) rfl rfl ⟨rfl, Nat.le_of_ble_eq_true rfl⟩ ?_ ?_
    · refine go_run 0 (F' := (0, [some (.int p2)], [], h)) rfl ?_
      refine go_run 1 (F' := (1, [some (.int p2)], [.int p2], h)) rfl ?_
      refine go_step rfl rfl ?_
      rw [if_pos q3]
      refine go_run 0 (F' := (9, [some (.int p2)], [], h)) rfl ?_
      refine go_run 2 (F' := (14, [some (.int p2)], [.int 1], h)) rfl ?_
      exact go_end rfl rfl
    refine go_run 0 (F' := (11, [some (.int p1), some (.int p2)], [.int 1], h)) rfl ?_
    refine go_run 3 (F' := (24, [some (.int p1), some (.int p2)], [.int 1], h)) rfl ?_
    exact go_end rfl rfl
  refine go_run 0 (F' := (6, [some (.ref 134), some (.int p1), some (.int p2)], [.int 1, .ref 134], h)) rfl ?_
  refine go_run 3 (F' := (14, [some (.ref 134), some (.int p1), some (.int p2)], [.int 1, .ref 134], h)) rfl ?_
  refine go_pf rfl c134 (Nat.le_of_ble_eq_true rfl) rfl rfl ?_
  refine go_run 0 (F' := (17, [some (.ref 134), some (.int p1), some (.int p2)], [], (List.set h 134 (mo 1 ty fa wh ch it at_ bad co de 0 st sz tp am bm mn rm sp be wo)))) rfl ?_
  refine go_run 1 (F' := (18, [some (.ref 134), some (.int p1), some (.int p2)], [.ref 134], (List.set h 134 (mo 1 ty fa wh ch it at_ bad co de 0 st sz tp am bm mn rm sp be wo)))) rfl ?_
  refine go_gf rfl (gs_self c134) rfl ?_
  refine go_run 0 (F' := (21, [some (.ref 134), some (.int p1), some (.int p2)], [.int 1], (List.set h 134 (mo 1 ty fa wh ch it at_ bad co de 0 st sz tp am bm mn rm sp be wo)))) rfl ?_
  refine go_run 2 (F' := (39, [some (.ref 134), some (.int p1), some (.int p2)], [.int 0], (List.set h 134 (mo 1 ty fa wh ch it at_ bad co de 0 st sz tp am bm mn rm sp be wo)))) rfl ?_
  exact go_end rfl rfl
set_option maxRecDepth 100000 in
theorem um_queue_4 {X : ie_X} {d : Nat} {h : ie_H} {p1 p2 t_ ty fa wh ch it at_ bad co de st sz tp am bm mn rm sp be wo : Int32} (c134 : h[134]? = some (mo t_ ty fa wh ch it at_ bad co de 0 st sz tp am bm mn rm sp be wo)) (q1 : ¬ (p1 < 0)) (q2 : p1 ≤ 5) (q3 : ¬ (p2 < 0)) (q4 : ¬ (p2 ≤ 5)) : Go X (d + 2) 212 (0, ie_en 212 [.ref 134, .int p1, .int p2], [], h) (.inl (some (.int 0))) (List.set h 134 (mo 1 ty fa wh ch it at_ bad co de 0 st sz tp am bm mn rm sp be wo)) := by
  refine go_run 0 (F' := (0, [some (.ref 134), some (.int p1), some (.int p2)], [], h)) rfl ?_
  refine go_run 3 (F' := (3, [some (.ref 134), some (.int p1), some (.int p2)], [.int p2, .int p1, .ref 134], h)) rfl ?_
  refine go_call (m' := 213) (v := some (.int 1)) (h1 := h) rfl rfl ⟨rfl, Nat.le_of_ble_eq_true rfl⟩ ?_ ?_
  · refine go_run 0 (F' := (0, [some (.int p1), some (.int p2)], [], h)) rfl ?_
    refine go_run 1 (F' := (1, [some (.int p1), some (.int p2)], [.int p1], h)) rfl ?_
    refine go_call (m' := 183) (v := some (.int 0)) (h1 := h) rfl rfl ⟨rfl, Nat.le_of_ble_eq_true rfl⟩ ?_ ?_
    · refine go_run 0 (F' := (0, [some (.int p1)], [], h)) rfl ?_
      refine go_run 1 (F' := (1, [some (.int p1)], [.int p1], h)) rfl ?_
      refine go_step rfl rfl ?_
      rw [if_neg q1]
      refine go_run 0 (F' := (4, [some (.int p1)], [], h)) rfl ?_
      refine go_run 2 (F' := (6, [some (.int p1)], [.int 5, .int p1], h)) rfl ?_
      refine go_step rfl rfl ?_
      rw [if_pos q2]
      refine go_run 0 (F' := (13, [some (.int p1)], [], h)) rfl ?_
      refine go_run 1 (F' := (14, [some (.int p1)], [.int 0], h)) rfl ?_
      exact go_end rfl rfl
    refine go_run 0 (F' := (4, [some (.int p1), some (.int p2)], [.int 0], h)) rfl ?_
    refine go_run 2 (F' := (8, [some (.int p1), some (.int p2)], [.int p2], h)) rfl ?_
    refine go_call (m' := 183) (v := some (.int 1)) (h1 := h) rfl rfl ⟨rfl, Nat.le_of_ble_eq_true rfl⟩ ?_ ?_
    · refine go_run 0 (F' := (0, [some (.int p2)], [], h)) rfl ?_
      refine go_run 1 (F' := (1, [some (.int p2)], [.int p2], h)) rfl ?_
      refine go_step rfl rfl ?_
      rw [if_neg q3]
      refine go_run 0 (F' := (4, [some (.int p2)], [], h)) rfl ?_
      refine go_run 2 (F' := (6, [some (.int p2)], [.int 5, .int p2], h)) rfl ?_
      refine go_step rfl rfl ?_
      rw [if_neg q4]
      refine go_run 0 (F' := (9, [some (.int p2)], [], h)) rfl ?_
      refine go_run 2 (F' := (14, [some (.int p2)], [.int 1], h)) rfl ?_
      exact go_end rfl rfl
    refine go_run 0 (F' := (11, [some (.int p1), some (.int p2)], [.int 1], h)) rfl ?_
    refine go_run 3 (F' := (24, [some (.int p1), some (.int p2)], [.int 1], h)) rfl ?_
    exact go_end rfl rfl
  refine go_run 0 (F' := (6, [some (.ref 134), some (.int p1), some (.int p2)], [.int 1, .ref 134], h)) rfl ?_
  refine go_run 3 (F' := (14, [some (.ref 134), some (.int p1), some (.int p2)], [.int 1, .ref 134], h)) rfl ?_
  refine go_pf rfl c134 (Nat.le_of_ble_eq_true rfl) rfl rfl ?_
  refine go_run 0 (F' := (17, [some (.ref 134), some (.int p1), some (.int p2)], [], (List.set h 134 (mo 1 ty fa wh ch it at_ bad co de 0 st sz tp am bm mn rm sp be wo)))) rfl ?_
  refine go_run 1 (F' := (18, [some (.ref 134), some (.int p1), some (.int p2)], [.ref 134], (List.set h 134 (mo 1 ty fa wh ch it at_ bad co de 0 st sz tp am bm mn rm sp be wo)))) rfl ?_
  refine go_gf rfl (gs_self c134) rfl ?_
  refine go_run 0 (F' := (21, [some (.ref 134), some (.int p1), some (.int p2)], [.int 1], (List.set h 134 (mo 1 ty fa wh ch it at_ bad co de 0 st sz tp am bm mn rm sp be wo)))) rfl ?_
  refine go_run 2 (F' := (39, [some (.ref 134), some (.int p1), some (.int p2)], [.int 0], (List.set h 134 (mo 1 ty fa wh ch it at_ bad co de 0 st sz tp am bm mn rm sp be wo)))) rfl ?_
  exact go_end rfl rfl
set_option maxRecDepth 100000 in
theorem um_queue_5 {X : ie_X} {d : Nat} {h : ie_H} {p1 p2 t_ ty fa wh ch it at_ bad co de st sz tp am bm mn rm sp be wo : Int32} (c134 : h[134]? = some (mo t_ ty fa wh ch it at_ bad co de 0 st sz tp am bm mn rm sp be wo)) (q1 : ¬ (p1 < 0)) (q2 : p1 ≤ 5) (q3 : ¬ (p2 < 0)) (q4 : p2 ≤ 5) (q5 : p1 = p2) : Go X (d + 2) 212 (0, ie_en 212 [.ref 134, .int p1, .int p2], [], h) (.inl (some (.int 0))) (List.set h 134 (mo 1 ty fa wh ch it at_ bad co de 0 st sz tp am bm mn rm sp be wo)) := by
  refine go_run 0 (F' := (0, [some (.ref 134), some (.int p1), some (.int p2)], [], h)) rfl ?_
  refine go_run 3 (F' := (3, [some (.ref 134), some (.int p1), some (.int p2)], [.int p2, .int p1, .ref 134], h)) rfl ?_
  refine go_call (m' := 213) (v := some (.int 1)) (h1 := h) rfl rfl ⟨rfl, Nat.le_of_ble_eq_true rfl⟩ ?_ ?_
  · refine go_run 0 (F' := (0, [some (.int p1), some (.int p2)], [], h)) rfl ?_
    refine go_run 1 (F' := (1, [some (.int p1), some (.int p2)], [.int p1], h)) rfl ?_
    refine go_call (m' := 183) (v := some (.int 0)) (h1 := h) rfl rfl ⟨rfl, Nat.le_of_ble_eq_true rfl⟩ ?_ ?_
    · refine go_run 0 (F' := (0, [some (.int p1)], [], h)) rfl ?_
      refine go_run 1 (F' := (1, [some (.int p1)], [.int p1], h)) rfl ?_
      refine go_step rfl rfl ?_
      rw [if_neg q1]
      refine go_run 0 (F' := (4, [some (.int p1)], [], h)) rfl ?_
      refine go_run 2 (F' := (6, [some (.int p1)], [.int 5, .int p1], h)) rfl ?_
      refine go_step rfl rfl ?_
      rw [if_pos q2]
      refine go_run 0 (F' := (13, [some (.int p1)], [], h)) rfl ?_
      refine go_run 1 (F' := (14, [some (.int p1)], [.int 0], h)) rfl ?_
      exact go_end rfl rfl
    refine go_run 0 (F' := (4, [some (.int p1), some (.int p2)], [.int 0], h)) rfl ?_
    refine go_run 2 (F' := (8, [some (.int p1), some (.int p2)], [.int p2], h)) rfl ?_
    refine go_call (m' := 183) (v := some (.int 0)) (h1 := h) rfl rfl ⟨rfl, Nat.le_of_ble_eq_true rfl⟩ ?_ ?_
    · refine go_run 0 (F' := (0, [some (.int p2)], [], h)) rfl ?_
      refine go_run 1 (F' := (1, [some (.int p2)], [.int p2], h)) rfl ?_
      refine go_step rfl rfl ?_
      rw [if_neg q3]
      refine go_run 0 (F' := (4, [some (.int p2)], [], h)) rfl ?_
      refine go_run 2 (F' := (6, [some (.int p2)], [.int 5, .int p2], h)) rfl ?_
      refine go_step rfl rfl ?_
      rw [if_pos q4]
      refine go_run 0 (F' := (13, [some (.int p2)], [], h)) rfl ?_
      refine go_run 1 (F' := (14, [some (.int p2)], [.int 0], h)) rfl ?_
      exact go_end rfl rfl
    refine go_run 0 (F' := (11, [some (.int p1), some (.int p2)], [.int 0], h)) rfl ?_
    refine go_run 3 (F' := (16, [some (.int p1), some (.int p2)], [.int p2, .int p1], h)) rfl ?_
    refine go_step rfl rfl ?_
    rw [if_pos q5]
    refine go_run 0 (F' := (19, [some (.int p1), some (.int p2)], [], h)) rfl ?_
    refine go_run 2 (F' := (24, [some (.int p1), some (.int p2)], [.int 1], h)) rfl ?_
    exact go_end rfl rfl
  refine go_run 0 (F' := (6, [some (.ref 134), some (.int p1), some (.int p2)], [.int 1, .ref 134], h)) rfl ?_
  refine go_run 3 (F' := (14, [some (.ref 134), some (.int p1), some (.int p2)], [.int 1, .ref 134], h)) rfl ?_
  refine go_pf rfl c134 (Nat.le_of_ble_eq_true rfl) rfl rfl ?_
  refine go_run 0 (F' := (17, [some (.ref 134), some (.int p1), some (.int p2)], [], (List.set h 134 (mo 1 ty fa wh ch it at_ bad co de 0 st sz tp am bm mn rm sp be wo)))) rfl ?_
  refine go_run 1 (F' := (18, [some (.ref 134), some (.int p1), some (.int p2)], [.ref 134], (List.set h 134 (mo 1 ty fa wh ch it at_ bad co de 0 st sz tp am bm mn rm sp be wo)))) rfl ?_
  refine go_gf rfl (gs_self c134) rfl ?_
  refine go_run 0 (F' := (21, [some (.ref 134), some (.int p1), some (.int p2)], [.int 1], (List.set h 134 (mo 1 ty fa wh ch it at_ bad co de 0 st sz tp am bm mn rm sp be wo)))) rfl ?_
  refine go_run 2 (F' := (39, [some (.ref 134), some (.int p1), some (.int p2)], [.int 0], (List.set h 134 (mo 1 ty fa wh ch it at_ bad co de 0 st sz tp am bm mn rm sp be wo)))) rfl ?_
  exact go_end rfl rfl
set_option maxRecDepth 100000 in
theorem um_queue_6 {X : ie_X} {d : Nat} {h : ie_H} {p1 p2 t_ ty fa wh ch it at_ bad co de st sz tp am bm mn rm sp be wo : Int32} {f173 : Nat → Int32} (c134 : h[134]? = some (mo t_ ty fa wh ch it at_ bad co de 0 st sz tp am bm mn rm sp be wo)) (c173 : h[173]? = some (.inl (0, 36, .inl f173))) (q1 : ¬ (p1 < 0)) (q2 : p1 ≤ 5) (q3 : ¬ (p2 < 0)) (q4 : p2 ≤ 5) (q5 : ¬ (p1 = p2)) (b_5 : 0 ≤ Int32.toInt ((6 * p1) + p2) ∧ Int32.toInt ((6 * p1) + p2) < (36 : Int)) : Go X (d + 2) 212 (0, ie_en 212 [.ref 134, .int p1, .int p2], [], h) (.inl (some (.int (f173 (Int32.toNatClampNeg ((6 * p1) + p2)))))) (List.set h 134 (mo 0 ty fa wh ch it at_ bad co de 0 st sz tp am bm mn rm sp be wo)) := by
  refine go_run 0 (F' := (0, [some (.ref 134), some (.int p1), some (.int p2)], [], h)) rfl ?_
  refine go_run 3 (F' := (3, [some (.ref 134), some (.int p1), some (.int p2)], [.int p2, .int p1, .ref 134], h)) rfl ?_
  refine go_call (m' := 213) (v := some (.int 0)) (h1 := h) rfl rfl ⟨rfl, Nat.le_of_ble_eq_true rfl⟩ ?_ ?_
  · refine go_run 0 (F' := (0, [some (.int p1), some (.int p2)], [], h)) rfl ?_
    refine go_run 1 (F' := (1, [some (.int p1), some (.int p2)], [.int p1], h)) rfl ?_
    refine go_call (m' := 183) (v := some (.int 0)) (h1 := h) rfl rfl ⟨rfl, Nat.le_of_ble_eq_true rfl⟩ ?_ ?_
    · refine go_run 0 (F' := (0, [some (.int p1)], [], h)) rfl ?_
      refine go_run 1 (F' := (1, [some (.int p1)], [.int p1], h)) rfl ?_
      refine go_step rfl rfl ?_
      rw [if_neg q1]
      refine go_run 0 (F' := (4, [some (.int p1)], [], h)) rfl ?_
      refine go_run 2 (F' := (6, [some (.int p1)], [.int 5, .int p1], h)) rfl ?_
      refine go_step rfl rfl ?_
      rw [if_pos q2]
      refine go_run 0 (F' := (13, [some (.int p1)], [], h)) rfl ?_
      refine go_run 1 (F' := (14, [some (.int p1)], [.int 0], h)) rfl ?_
      exact go_end rfl rfl
    refine go_run 0 (F' := (4, [some (.int p1), some (.int p2)], [.int 0], h)) rfl ?_
    refine go_run 2 (F' := (8, [some (.int p1), some (.int p2)], [.int p2], h)) rfl ?_
    refine go_call (m' := 183) (v := some (.int 0)) (h1 := h) rfl rfl ⟨rfl, Nat.le_of_ble_eq_true rfl⟩ ?_ ?_
    · refine go_run 0 (F' := (0, [some (.int p2)], [], h)) rfl ?_
      refine go_run 1 (F' := (1, [some (.int p2)], [.int p2], h)) rfl ?_
      refine go_step rfl rfl ?_
      rw [if_neg q3]
      refine go_run 0 (F' := (4, [some (.int p2)], [], h)) rfl ?_
      refine go_run 2 (F' := (6, [some (.int p2)], [.int 5, .int p2], h)) rfl ?_
      refine go_step rfl rfl ?_
      rw [if_pos q4]
      refine go_run 0 (F' := (13, [some (.int p2)], [], h)) rfl ?_
      refine go_run 1 (F' := (14, [some (.int p2)], [.int 0], h)) rfl ?_
      exact go_end rfl rfl
    refine go_run 0 (F' := (11, [some (.int p1), some (.int p2)], [.int 0], h)) rfl ?_
    refine go_run 3 (F' := (16, [some (.int p1), some (.int p2)], [.int p2, .int p1], h)) rfl ?_
    refine go_step rfl rfl ?_
    rw [if_neg q5]
    refine go_run 0 (F' := (23, [some (.int p1), some (.int p2)], [], h)) rfl ?_
    refine go_run 1 (F' := (24, [some (.int p1), some (.int p2)], [.int 0], h)) rfl ?_
    exact go_end rfl rfl
  refine go_run 0 (F' := (6, [some (.ref 134), some (.int p1), some (.int p2)], [.int 0, .ref 134], h)) rfl ?_
  refine go_run 2 (F' := (14, [some (.ref 134), some (.int p1), some (.int p2)], [.int 0, .ref 134], h)) rfl ?_
  refine go_pf rfl c134 (Nat.le_of_ble_eq_true rfl) rfl rfl ?_
  refine go_run 0 (F' := (17, [some (.ref 134), some (.int p1), some (.int p2)], [], (List.set h 134 (mo 0 ty fa wh ch it at_ bad co de 0 st sz tp am bm mn rm sp be wo)))) rfl ?_
  refine go_run 1 (F' := (18, [some (.ref 134), some (.int p1), some (.int p2)], [.ref 134], (List.set h 134 (mo 0 ty fa wh ch it at_ bad co de 0 st sz tp am bm mn rm sp be wo)))) rfl ?_
  refine go_gf rfl (gs_self c134) rfl ?_
  refine go_run 0 (F' := (21, [some (.ref 134), some (.int p1), some (.int p2)], [.int 0], (List.set h 134 (mo 0 ty fa wh ch it at_ bad co de 0 st sz tp am bm mn rm sp be wo)))) rfl ?_
  refine go_run 2 (F' := (25, [some (.ref 134), some (.int p1), some (.int p2)], [.ref 134], (List.set h 134 (mo 0 ty fa wh ch it at_ bad co de 0 st sz tp am bm mn rm sp be wo)))) rfl ?_
  refine go_gf rfl (gs_self c134) rfl ?_
  refine go_run 0 (F' := (28, [some (.ref 134), some (.int p1), some (.int p2)], [.ref 173], (List.set h 134 (mo 0 ty fa wh ch it at_ bad co de 0 st sz tp am bm mn rm sp be wo)))) rfl ?_
  refine go_run 5 (F' := (34, [some (.ref 134), some (.int p1), some (.int p2)], [.int ((6 * p1) + p2), .ref 173], (List.set h 134 (mo 0 ty fa wh ch it at_ bad co de 0 st sz tp am bm mn rm sp be wo)))) rfl ?_
  refine go_iald rfl (by decide) (gs_ne (by decide) c173) b_5 rfl ?_
  refine go_run 0 (F' := (35, [some (.ref 134), some (.int p1), some (.int p2)], [.int (f173 (Int32.toNatClampNeg ((6 * p1) + p2)))], (List.set h 134 (mo 0 ty fa wh ch it at_ bad co de 0 st sz tp am bm mn rm sp be wo)))) rfl ?_
  refine go_run 1 (F' := (39, [some (.ref 134), some (.int p1), some (.int p2)], [.int (f173 (Int32.toNatClampNeg ((6 * p1) + p2)))], (List.set h 134 (mo 0 ty fa wh ch it at_ bad co de 0 st sz tp am bm mn rm sp be wo)))) rfl ?_
  exact go_end rfl rfl
set_option maxRecDepth 100000 in
theorem uc_message_1 {X : ie_X} {d : Nat} {h : ie_H} {p1 p2 p3 nl cf cw : Int32} (c0 : h[0]? = some (.inr (0, [.ref 1, .int nl, .int cf, .int cw, .null, .ref 2, .ref 133]))) (q1 : p1 < 0) : Go X (d + 4) 121 (0, ie_en 121 [.ref 0, .int p1, .int p2, .int p3, .ref 177], [], h) (.inl (some (.int 1))) (h ++ [.inr (14, [])]) := by
  refine go_run 0 (F' := (0, [some (.ref 0), some (.int p1), some (.int p2), some (.int p3), some (.ref 177), none], [], h)) rfl ?_
  refine go_run 6 (F' := (7, [some (.ref 0), some (.int p1), some (.int p2), some (.int p3), some (.ref 177), none], [.int p3, .int p2, .int p1, .ref 0, .int 0, .ref 177], h)) rfl ?_
  refine go_catch (m' := 122) (ci := 14) (h1 := (h ++ [.inr (14, [])])) rfl (by simp only [ie_step, ie_iv, List.drop, c0, if_true]; rfl) ⟨rfl, Nat.le_of_ble_eq_true rfl⟩ rfl rfl rfl ?_ ?_
  · refine go_run 0 (F' := (0, [some (.ref 0), some (.int p1), some (.int p2), some (.int p3)], [], h)) rfl ?_
    refine go_run 4 (F' := (4, [some (.ref 0), some (.int p1), some (.int p2), some (.int p3)], [.int p3, .int p2, .int p1, .ref 0], h)) rfl ?_
    refine go_out (m' := 123) rfl (by simp only [ie_step, ie_iv, List.drop, c0, if_true]; rfl) ⟨rfl, Nat.le_of_ble_eq_true rfl⟩ rfl rfl ?_
    · refine go_run 0 (F' := (0, [some (.ref 0), some (.int p1), some (.int p2), some (.int p3)], [], h)) rfl ?_
      refine go_run 2 (F' := (2, [some (.ref 0), some (.int p1), some (.int p2), some (.int p3)], [.int p2, .int p1], h)) rfl ?_
      refine go_out (m' := 120) rfl rfl ⟨rfl, Nat.le_of_ble_eq_true rfl⟩ rfl rfl ?_
      · refine go_run 0 (F' := (0, [some (.int p1), some (.int p2)], [], h)) rfl ?_
        refine go_run 1 (F' := (1, [some (.int p1), some (.int p2)], [.int p1], h)) rfl ?_
        refine go_call (m' := 33) (v := some (.int 0)) (h1 := h) rfl rfl ⟨rfl, Nat.le_of_ble_eq_true rfl⟩ ?_ ?_
        · refine go_run 0 (F' := (0, [some (.int p1)], [], h)) rfl ?_
          refine go_run 1 (F' := (1, [some (.int p1)], [.int p1], h)) rfl ?_
          refine go_step rfl rfl ?_
          rw [if_pos q1]
          refine go_run 0 (F' := (14, [some (.int p1)], [], h)) rfl ?_
          refine go_run 1 (F' := (15, [some (.int p1)], [.int 0], h)) rfl ?_
          exact go_end rfl rfl
        refine go_run 0 (F' := (4, [some (.int p1), some (.int p2)], [.int 0], h)) rfl ?_
        refine go_run 1 (F' := (19, [some (.int p1), some (.int p2)], [], h)) rfl ?_
        exact go_end rfl rfl
  refine go_run 0 (F' := (17, [some (.ref 0), some (.int p1), some (.int p2), some (.int p3), some (.ref 177), none], [], (h ++ [.inr (14, [])]))) rfl ?_
  refine go_run 1 (F' := (18, [some (.ref 0), some (.int p1), some (.int p2), some (.int p3), some (.ref 177), none], [.int 1], (h ++ [.inr (14, [])]))) rfl ?_
  exact go_end rfl rfl
set_option maxRecDepth 100000 in
theorem uc_message_2 {X : ie_X} {d : Nat} {h : ie_H} {p1 p2 p3 nl cf cw : Int32} (c0 : h[0]? = some (.inr (0, [.ref 1, .int nl, .int cf, .int cw, .null, .ref 2, .ref 133]))) (q1 : ¬ (p1 < 0)) (q2 : 6 ≤ p1) : Go X (d + 4) 121 (0, ie_en 121 [.ref 0, .int p1, .int p2, .int p3, .ref 177], [], h) (.inl (some (.int 1))) (h ++ [.inr (14, [])]) := by
  refine go_run 0 (F' := (0, [some (.ref 0), some (.int p1), some (.int p2), some (.int p3), some (.ref 177), none], [], h)) rfl ?_
  refine go_run 6 (F' := (7, [some (.ref 0), some (.int p1), some (.int p2), some (.int p3), some (.ref 177), none], [.int p3, .int p2, .int p1, .ref 0, .int 0, .ref 177], h)) rfl ?_
  refine go_catch (m' := 122) (ci := 14) (h1 := (h ++ [.inr (14, [])])) rfl (by simp only [ie_step, ie_iv, List.drop, c0, if_true]; rfl) ⟨rfl, Nat.le_of_ble_eq_true rfl⟩ rfl rfl rfl ?_ ?_
  · refine go_run 0 (F' := (0, [some (.ref 0), some (.int p1), some (.int p2), some (.int p3)], [], h)) rfl ?_
    refine go_run 4 (F' := (4, [some (.ref 0), some (.int p1), some (.int p2), some (.int p3)], [.int p3, .int p2, .int p1, .ref 0], h)) rfl ?_
    refine go_out (m' := 123) rfl (by simp only [ie_step, ie_iv, List.drop, c0, if_true]; rfl) ⟨rfl, Nat.le_of_ble_eq_true rfl⟩ rfl rfl ?_
    · refine go_run 0 (F' := (0, [some (.ref 0), some (.int p1), some (.int p2), some (.int p3)], [], h)) rfl ?_
      refine go_run 2 (F' := (2, [some (.ref 0), some (.int p1), some (.int p2), some (.int p3)], [.int p2, .int p1], h)) rfl ?_
      refine go_out (m' := 120) rfl rfl ⟨rfl, Nat.le_of_ble_eq_true rfl⟩ rfl rfl ?_
      · refine go_run 0 (F' := (0, [some (.int p1), some (.int p2)], [], h)) rfl ?_
        refine go_run 1 (F' := (1, [some (.int p1), some (.int p2)], [.int p1], h)) rfl ?_
        refine go_call (m' := 33) (v := some (.int 0)) (h1 := h) rfl rfl ⟨rfl, Nat.le_of_ble_eq_true rfl⟩ ?_ ?_
        · refine go_run 0 (F' := (0, [some (.int p1)], [], h)) rfl ?_
          refine go_run 1 (F' := (1, [some (.int p1)], [.int p1], h)) rfl ?_
          refine go_step rfl rfl ?_
          rw [if_neg q1]
          refine go_run 0 (F' := (4, [some (.int p1)], [], h)) rfl ?_
          refine go_run 2 (F' := (7, [some (.int p1)], [.int 6, .int p1], h)) rfl ?_
          refine go_step rfl rfl ?_
          rw [if_pos q2]
          refine go_run 0 (F' := (14, [some (.int p1)], [], h)) rfl ?_
          refine go_run 1 (F' := (15, [some (.int p1)], [.int 0], h)) rfl ?_
          exact go_end rfl rfl
        refine go_run 0 (F' := (4, [some (.int p1), some (.int p2)], [.int 0], h)) rfl ?_
        refine go_run 1 (F' := (19, [some (.int p1), some (.int p2)], [], h)) rfl ?_
        exact go_end rfl rfl
  refine go_run 0 (F' := (17, [some (.ref 0), some (.int p1), some (.int p2), some (.int p3), some (.ref 177), none], [], (h ++ [.inr (14, [])]))) rfl ?_
  refine go_run 1 (F' := (18, [some (.ref 0), some (.int p1), some (.int p2), some (.int p3), some (.ref 177), none], [.int 1], (h ++ [.inr (14, [])]))) rfl ?_
  exact go_end rfl rfl
set_option maxRecDepth 100000 in
theorem uc_message_3 {X : ie_X} {d : Nat} {h : ie_H} {p1 p2 p3 nl cf cw : Int32} (c0 : h[0]? = some (.inr (0, [.ref 1, .int nl, .int cf, .int cw, .null, .ref 2, .ref 133]))) (q1 : ¬ (p1 < 0)) (q2 : ¬ (6 ≤ p1)) (q3 : p2 < 0) : Go X (d + 4) 121 (0, ie_en 121 [.ref 0, .int p1, .int p2, .int p3, .ref 177], [], h) (.inl (some (.int 1))) (h ++ [.inr (14, [])]) := by
  refine go_run 0 (F' := (0, [some (.ref 0), some (.int p1), some (.int p2), some (.int p3), some (.ref 177), none], [], h)) rfl ?_
  refine go_run 6 (F' := (7, [some (.ref 0), some (.int p1), some (.int p2), some (.int p3), some (.ref 177), none], [.int p3, .int p2, .int p1, .ref 0, .int 0, .ref 177], h)) rfl ?_
  refine go_catch (m' := 122) (ci := 14) (h1 := (h ++ [.inr (14, [])])) rfl (by simp only [ie_step, ie_iv, List.drop, c0, if_true]; rfl) ⟨rfl, Nat.le_of_ble_eq_true rfl⟩ rfl rfl rfl ?_ ?_
  · refine go_run 0 (F' := (0, [some (.ref 0), some (.int p1), some (.int p2), some (.int p3)], [], h)) rfl ?_
    refine go_run 4 (F' := (4, [some (.ref 0), some (.int p1), some (.int p2), some (.int p3)], [.int p3, .int p2, .int p1, .ref 0], h)) rfl ?_
    refine go_out (m' := 123) rfl (by simp only [ie_step, ie_iv, List.drop, c0, if_true]; rfl) ⟨rfl, Nat.le_of_ble_eq_true rfl⟩ rfl rfl ?_
    · refine go_run 0 (F' := (0, [some (.ref 0), some (.int p1), some (.int p2), some (.int p3)], [], h)) rfl ?_
      refine go_run 2 (F' := (2, [some (.ref 0), some (.int p1), some (.int p2), some (.int p3)], [.int p2, .int p1], h)) rfl ?_
      refine go_out (m' := 120) rfl rfl ⟨rfl, Nat.le_of_ble_eq_true rfl⟩ rfl rfl ?_
      · refine go_run 0 (F' := (0, [some (.int p1), some (.int p2)], [], h)) rfl ?_
        refine go_run 1 (F' := (1, [some (.int p1), some (.int p2)], [.int p1], h)) rfl ?_
        refine go_call (m' := 33) (v := some (.int 1)) (h1 := h) rfl rfl ⟨rfl, Nat.le_of_ble_eq_true rfl⟩ ?_ ?_
        · refine go_run 0 (F' := (0, [some (.int p1)], [], h)) rfl ?_
          refine go_run 1 (F' := (1, [some (.int p1)], [.int p1], h)) rfl ?_
          refine go_step rfl rfl ?_
          rw [if_neg q1]
          refine go_run 0 (F' := (4, [some (.int p1)], [], h)) rfl ?_
          refine go_run 2 (F' := (7, [some (.int p1)], [.int 6, .int p1], h)) rfl ?_
          refine go_step rfl rfl ?_
          rw [if_neg q2]
          refine go_run 0 (F' := (10, [some (.int p1)], [], h)) rfl ?_
          refine go_run 2 (F' := (15, [some (.int p1)], [.int 1], h)) rfl ?_
          exact go_end rfl rfl
        refine go_run 0 (F' := (4, [some (.int p1), some (.int p2)], [.int 1], h)) rfl ?_
        refine go_run 2 (F' := (8, [some (.int p1), some (.int p2)], [.int p2], h)) rfl ?_
        refine go_call (m' := 33) (v := some (.int 0)) (h1 := h) rfl rfl ⟨rfl, Nat.le_of_ble_eq_true rfl⟩ ?_ ?_
        · refine go_run 0 (F' := (0, [some (.int p2)], [], h)) rfl ?_
          refine go_run 1 (F' := (1, [some (.int p2)], [.int p2], h)) rfl ?_
          refine go_step rfl rfl ?_
          rw [if_pos q3]
          refine go_run 0 (F' := (14, [some (.int p2)], [], h)) rfl ?_
          refine go_run 1 (F' := (15, [some (.int p2)], [.int 0], h)) rfl ?_
          exact go_end rfl rfl
        refine go_run 0 (F' := (11, [some (.int p1), some (.int p2)], [.int 0], h)) rfl ?_
        refine go_run 1 (F' := (19, [some (.int p1), some (.int p2)], [], h)) rfl ?_
        exact go_end rfl rfl
  refine go_run 0 (F' := (17, [some (.ref 0), some (.int p1), some (.int p2), some (.int p3), some (.ref 177), none], [], (h ++ [.inr (14, [])]))) rfl ?_
  refine go_run 1 (F' := (18, [some (.ref 0), some (.int p1), some (.int p2), some (.int p3), some (.ref 177), none], [.int 1], (h ++ [.inr (14, [])]))) rfl ?_
  exact go_end rfl rfl
set_option maxRecDepth 100000 in
theorem uc_message_4 {X : ie_X} {d : Nat} {h : ie_H} {p1 p2 p3 nl cf cw : Int32} (c0 : h[0]? = some (.inr (0, [.ref 1, .int nl, .int cf, .int cw, .null, .ref 2, .ref 133]))) (q1 : ¬ (p1 < 0)) (q2 : ¬ (6 ≤ p1)) (q3 : ¬ (p2 < 0)) (q4 : 6 ≤ p2) : Go X (d + 4) 121 (0, ie_en 121 [.ref 0, .int p1, .int p2, .int p3, .ref 177], [], h) (.inl (some (.int 1))) (h ++ [.inr (14, [])]) := by
  refine go_run 0 (F' := (0, [some (.ref 0), some (.int p1), some (.int p2), some (.int p3), some (.ref 177), none], [], h)) rfl ?_
  refine go_run 6 (F' := (7, [some (.ref 0), some (.int p1), some (.int p2), some (.int p3), some (.ref 177), none], [.int p3, .int p2, .int p1, .ref 0, .int 0, .ref 177], h)) rfl ?_
  refine go_catch (m' := 122) (ci := 14) (h1 := (h ++ [.inr (14, [])])) rfl (by simp only [ie_step, ie_iv, List.drop, c0, if_true]; rfl) ⟨rfl, Nat.le_of_ble_eq_true rfl⟩ rfl rfl rfl ?_ ?_
  · refine go_run 0 (F' := (0, [some (.ref 0), some (.int p1), some (.int p2), some (.int p3)], [], h)) rfl ?_
    refine go_run 4 (F' := (4, [some (.ref 0), some (.int p1), some (.int p2), some (.int p3)], [.int p3, .int p2, .int p1, .ref 0], h)) rfl ?_
    refine go_out (m' := 123) rfl (by simp only [ie_step, ie_iv, List.drop, c0, if_true]; rfl) ⟨rfl, Nat.le_of_ble_eq_true rfl⟩ rfl rfl ?_
    · refine go_run 0 (F' := (0, [some (.ref 0), some (.int p1), some (.int p2), some (.int p3)], [], h)) rfl ?_
      refine go_run 2 (F' := (2, [some (.ref 0), some (.int p1), some (.int p2), some (.int p3)], [.int p2, .int p1], h)) rfl ?_
      refine go_out (m' := 120) rfl rfl ⟨rfl, Nat.le_of_ble_eq_true rfl⟩ rfl rfl ?_
      · refine go_run 0 (F' := (0, [some (.int p1), some (.int p2)], [], h)) rfl ?_
        refine go_run 1 (F' := (1, [some (.int p1), some (.int p2)], [.int p1], h)) rfl ?_
        refine go_call (m' := 33) (v := some (.int 1)) (h1 := h) rfl rfl ⟨rfl, Nat.le_of_ble_eq_true rfl⟩ ?_ ?_
        · refine go_run 0 (F' := (0, [some (.int p1)], [], h)) rfl ?_
          refine go_run 1 (F' := (1, [some (.int p1)], [.int p1], h)) rfl ?_
          refine go_step rfl rfl ?_
          rw [if_neg q1]
          refine go_run 0 (F' := (4, [some (.int p1)], [], h)) rfl ?_
          refine go_run 2 (F' := (7, [some (.int p1)], [.int 6, .int p1], h)) rfl ?_
          refine go_step rfl rfl ?_
          rw [if_neg q2]
          refine go_run 0 (F' := (10, [some (.int p1)], [], h)) rfl ?_
          refine go_run 2 (F' := (15, [some (.int p1)], [.int 1], h)) rfl ?_
          exact go_end rfl rfl
        refine go_run 0 (F' := (4, [some (.int p1), some (.int p2)], [.int 1], h)) rfl ?_
        refine go_run 2 (F' := (8, [some (.int p1), some (.int p2)], [.int p2], h)) rfl ?_
        refine go_call (m' := 33) (v := some (.int 0)) (h1 := h) rfl rfl ⟨rfl, Nat.le_of_ble_eq_true rfl⟩ ?_ ?_
        · refine go_run 0 (F' := (0, [some (.int p2)], [], h)) rfl ?_
          refine go_run 1 (F' := (1, [some (.int p2)], [.int p2], h)) rfl ?_
          refine go_step rfl rfl ?_
          rw [if_neg q3]
          refine go_run 0 (F' := (4, [some (.int p2)], [], h)) rfl ?_
          refine go_run 2 (F' := (7, [some (.int p2)], [.int 6, .int p2], h)) rfl ?_
          refine go_step rfl rfl ?_
          rw [if_pos q4]
          refine go_run 0 (F' := (14, [some (.int p2)], [], h)) rfl ?_
          refine go_run 1 (F' := (15, [some (.int p2)], [.int 0], h)) rfl ?_
          exact go_end rfl rfl
        refine go_run 0 (F' := (11, [some (.int p1), some (.int p2)], [.int 0], h)) rfl ?_
        refine go_run 1 (F' := (19, [some (.int p1), some (.int p2)], [], h)) rfl ?_
        exact go_end rfl rfl
  refine go_run 0 (F' := (17, [some (.ref 0), some (.int p1), some (.int p2), some (.int p3), some (.ref 177), none], [], (h ++ [.inr (14, [])]))) rfl ?_
  refine go_run 1 (F' := (18, [some (.ref 0), some (.int p1), some (.int p2), some (.int p3), some (.ref 177), none], [.int 1], (h ++ [.inr (14, [])]))) rfl ?_
  exact go_end rfl rfl
set_option maxRecDepth 100000 in
theorem uc_message_5 {X : ie_X} {d : Nat} {h : ie_H} {p1 p2 p3 nl cf cw : Int32} (c0 : h[0]? = some (.inr (0, [.ref 1, .int nl, .int cf, .int cw, .null, .ref 2, .ref 133]))) (q1 : ¬ (p1 < 0)) (q2 : ¬ (6 ≤ p1)) (q3 : ¬ (p2 < 0)) (q4 : ¬ (6 ≤ p2)) (q5 : p1 = p2) : Go X (d + 4) 121 (0, ie_en 121 [.ref 0, .int p1, .int p2, .int p3, .ref 177], [], h) (.inl (some (.int 1))) (h ++ [.inr (14, [])]) := by
  refine go_run 0 (F' := (0, [some (.ref 0), some (.int p1), some (.int p2), some (.int p3), some (.ref 177), none], [], h)) rfl ?_
  refine go_run 6 (F' := (7, [some (.ref 0), some (.int p1), some (.int p2), some (.int p3), some (.ref 177), none], [.int p3, .int p2, .int p1, .ref 0, .int 0, .ref 177], h)) rfl ?_
  refine go_catch (m' := 122) (ci := 14) (h1 := (h ++ [.inr (14, [])])) rfl (by simp only [ie_step, ie_iv, List.drop, c0, if_true]; rfl) ⟨rfl, Nat.le_of_ble_eq_true rfl⟩ rfl rfl rfl ?_ ?_
  · refine go_run 0 (F' := (0, [some (.ref 0), some (.int p1), some (.int p2), some (.int p3)], [], h)) rfl ?_
    refine go_run 4 (F' := (4, [some (.ref 0), some (.int p1), some (.int p2), some (.int p3)], [.int p3, .int p2, .int p1, .ref 0], h)) rfl ?_
    refine go_out (m' := 123) rfl (by simp only [ie_step, ie_iv, List.drop, c0, if_true]; rfl) ⟨rfl, Nat.le_of_ble_eq_true rfl⟩ rfl rfl ?_
    · refine go_run 0 (F' := (0, [some (.ref 0), some (.int p1), some (.int p2), some (.int p3)], [], h)) rfl ?_
      refine go_run 2 (F' := (2, [some (.ref 0), some (.int p1), some (.int p2), some (.int p3)], [.int p2, .int p1], h)) rfl ?_
      refine go_out (m' := 120) rfl rfl ⟨rfl, Nat.le_of_ble_eq_true rfl⟩ rfl rfl ?_
      · refine go_run 0 (F' := (0, [some (.int p1), some (.int p2)], [], h)) rfl ?_
        refine go_run 1 (F' := (1, [some (.int p1), some (.int p2)], [.int p1], h)) rfl ?_
        refine go_call (m' := 33) (v := some (.int 1)) (h1 := h) rfl rfl ⟨rfl, Nat.le_of_ble_eq_true rfl⟩ ?_ ?_
        · refine go_run 0 (F' := (0, [some (.int p1)], [], h)) rfl ?_
          refine go_run 1 (F' := (1, [some (.int p1)], [.int p1], h)) rfl ?_
          refine go_step rfl rfl ?_
          rw [if_neg q1]
          refine go_run 0 (F' := (4, [some (.int p1)], [], h)) rfl ?_
          refine go_run 2 (F' := (7, [some (.int p1)], [.int 6, .int p1], h)) rfl ?_
          refine go_step rfl rfl ?_
          rw [if_neg q2]
          refine go_run 0 (F' := (10, [some (.int p1)], [], h)) rfl ?_
          refine go_run 2 (F' := (15, [some (.int p1)], [.int 1], h)) rfl ?_
          exact go_end rfl rfl
        refine go_run 0 (F' := (4, [some (.int p1), some (.int p2)], [.int 1], h)) rfl ?_
        refine go_run 2 (F' := (8, [some (.int p1), some (.int p2)], [.int p2], h)) rfl ?_
        refine go_call (m' := 33) (v := some (.int 1)) (h1 := h) rfl rfl ⟨rfl, Nat.le_of_ble_eq_true rfl⟩ ?_ ?_
        · refine go_run 0 (F' := (0, [some (.int p2)], [], h)) rfl ?_
          refine go_run 1 (F' := (1, [some (.int p2)], [.int p2], h)) rfl ?_
          refine go_step rfl rfl ?_
          rw [if_neg q3]
          refine go_run 0 (F' := (4, [some (.int p2)], [], h)) rfl ?_
          refine go_run 2 (F' := (7, [some (.int p2)], [.int 6, .int p2], h)) rfl ?_
          refine go_step rfl rfl ?_
          rw [if_neg q4]
          refine go_run 0 (F' := (10, [some (.int p2)], [], h)) rfl ?_
          refine go_run 2 (F' := (15, [some (.int p2)], [.int 1], h)) rfl ?_
          exact go_end rfl rfl
        refine go_run 0 (F' := (11, [some (.int p1), some (.int p2)], [.int 1], h)) rfl ?_
        refine go_run 3 (F' := (16, [some (.int p1), some (.int p2)], [.int p2, .int p1], h)) rfl ?_
        refine go_step rfl rfl ?_
        rw [if_pos q5]
        refine go_run 0 (F' := (19, [some (.int p1), some (.int p2)], [], h)) rfl ?_
        exact go_end rfl rfl
  refine go_run 0 (F' := (17, [some (.ref 0), some (.int p1), some (.int p2), some (.int p3), some (.ref 177), none], [], (h ++ [.inr (14, [])]))) rfl ?_
  refine go_run 1 (F' := (18, [some (.ref 0), some (.int p1), some (.int p2), some (.int p3), some (.ref 177), none], [.int 1], (h ++ [.inr (14, [])]))) rfl ?_
  exact go_end rfl rfl
set_option maxRecDepth 100000 in
theorem uc_message_6 {X : ie_X} {d : Nat} {h : ie_H} {p1 p2 p3 nl cf cw : Int32} (c0 : h[0]? = some (.inr (0, [.ref 1, .int nl, .int cf, .int cw, .null, .ref 2, .ref 133]))) (q1 : ¬ (p1 < 0)) (q2 : ¬ (6 ≤ p1)) (q3 : ¬ (p2 < 0)) (q4 : ¬ (6 ≤ p2)) (q5 : ¬ (p1 = p2)) (q6 : p3 < 0) : Go X (d + 4) 121 (0, ie_en 121 [.ref 0, .int p1, .int p2, .int p3, .ref 177], [], h) (.inl (some (.int 2))) (h ++ [.inr (15, [])]) := by
  refine go_run 0 (F' := (0, [some (.ref 0), some (.int p1), some (.int p2), some (.int p3), some (.ref 177), none], [], h)) rfl ?_
  refine go_run 6 (F' := (7, [some (.ref 0), some (.int p1), some (.int p2), some (.int p3), some (.ref 177), none], [.int p3, .int p2, .int p1, .ref 0, .int 0, .ref 177], h)) rfl ?_
  refine go_catch (m' := 122) (ci := 15) (h1 := (h ++ [.inr (15, [])])) rfl (by simp only [ie_step, ie_iv, List.drop, c0, if_true]; rfl) ⟨rfl, Nat.le_of_ble_eq_true rfl⟩ rfl rfl rfl ?_ ?_
  · refine go_run 0 (F' := (0, [some (.ref 0), some (.int p1), some (.int p2), some (.int p3)], [], h)) rfl ?_
    refine go_run 4 (F' := (4, [some (.ref 0), some (.int p1), some (.int p2), some (.int p3)], [.int p3, .int p2, .int p1, .ref 0], h)) rfl ?_
    refine go_out (m' := 123) rfl (by simp only [ie_step, ie_iv, List.drop, c0, if_true]; rfl) ⟨rfl, Nat.le_of_ble_eq_true rfl⟩ rfl rfl ?_
    · refine go_run 0 (F' := (0, [some (.ref 0), some (.int p1), some (.int p2), some (.int p3)], [], h)) rfl ?_
      refine go_run 2 (F' := (2, [some (.ref 0), some (.int p1), some (.int p2), some (.int p3)], [.int p2, .int p1], h)) rfl ?_
      refine go_call (m' := 120) (v := none) (h1 := h) rfl rfl ⟨rfl, Nat.le_of_ble_eq_true rfl⟩ ?_ ?_
      · refine go_run 0 (F' := (0, [some (.int p1), some (.int p2)], [], h)) rfl ?_
        refine go_run 1 (F' := (1, [some (.int p1), some (.int p2)], [.int p1], h)) rfl ?_
        refine go_call (m' := 33) (v := some (.int 1)) (h1 := h) rfl rfl ⟨rfl, Nat.le_of_ble_eq_true rfl⟩ ?_ ?_
        · refine go_run 0 (F' := (0, [some (.int p1)], [], h)) rfl ?_
          refine go_run 1 (F' := (1, [some (.int p1)], [.int p1], h)) rfl ?_
          refine go_step rfl rfl ?_
          rw [if_neg q1]
          refine go_run 0 (F' := (4, [some (.int p1)], [], h)) rfl ?_
          refine go_run 2 (F' := (7, [some (.int p1)], [.int 6, .int p1], h)) rfl ?_
          refine go_step rfl rfl ?_
          rw [if_neg q2]
          refine go_run 0 (F' := (10, [some (.int p1)], [], h)) rfl ?_
          refine go_run 2 (F' := (15, [some (.int p1)], [.int 1], h)) rfl ?_
          exact go_end rfl rfl
        refine go_run 0 (F' := (4, [some (.int p1), some (.int p2)], [.int 1], h)) rfl ?_
        refine go_run 2 (F' := (8, [some (.int p1), some (.int p2)], [.int p2], h)) rfl ?_
        refine go_call (m' := 33) (v := some (.int 1)) (h1 := h) rfl rfl ⟨rfl, Nat.le_of_ble_eq_true rfl⟩ ?_ ?_
        · refine go_run 0 (F' := (0, [some (.int p2)], [], h)) rfl ?_
          refine go_run 1 (F' := (1, [some (.int p2)], [.int p2], h)) rfl ?_
          refine go_step rfl rfl ?_
          rw [if_neg q3]
          refine go_run 0 (F' := (4, [some (.int p2)], [], h)) rfl ?_
          refine go_run 2 (F' := (7, [some (.int p2)], [.int 6, .int p2], h)) rfl ?_
          refine go_step rfl rfl ?_
          rw [if_neg q4]
          refine go_run 0 (F' := (10, [some (.int p2)], [], h)) rfl ?_
          refine go_run 2 (F' := (15, [some (.int p2)], [.int 1], h)) rfl ?_
          exact go_end rfl rfl
        refine go_run 0 (F' := (11, [some (.int p1), some (.int p2)], [.int 1], h)) rfl ?_
        refine go_run 3 (F' := (16, [some (.int p1), some (.int p2)], [.int p2, .int p1], h)) rfl ?_
        refine go_step rfl rfl ?_
        rw [if_neg q5]
        refine go_run 0 (F' := (27, [some (.int p1), some (.int p2)], [], h)) rfl ?_
        exact go_end rfl rfl
      refine go_run 0 (F' := (5, [some (.ref 0), some (.int p1), some (.int p2), some (.int p3)], [], h)) rfl ?_
      refine go_run 1 (F' := (6, [some (.ref 0), some (.int p1), some (.int p2), some (.int p3)], [.int p3], h)) rfl ?_
      refine go_step rfl rfl ?_
      rw [if_pos q6]
      refine go_run 0 (F' := (25, [some (.ref 0), some (.int p1), some (.int p2), some (.int p3)], [], h)) rfl ?_
      exact go_end rfl rfl
  refine go_run 0 (F' := (21, [some (.ref 0), some (.int p1), some (.int p2), some (.int p3), some (.ref 177), none], [], (h ++ [.inr (15, [])]))) rfl ?_
  refine go_run 1 (F' := (22, [some (.ref 0), some (.int p1), some (.int p2), some (.int p3), some (.ref 177), none], [.int 2], (h ++ [.inr (15, [])]))) rfl ?_
  exact go_end rfl rfl
set_option maxRecDepth 100000 in
theorem uc_message_7 {X : ie_X} {d : Nat} {h : ie_H} {p1 p2 p3 nl cf cw crm csp v4 v5 : Int32} {a1 : Nat} {z2 z3 : Value} (c0 : h[0]? = some (.inr (0, [.ref 1, .int nl, .int cf, .int cw, .null, .ref 2, .ref 133]))) (c2 : h[2]? = some (.inr (8, [.ref 3, .ref 4, .ref 5, .ref 6, .int crm, .int csp]))) (c4 : h[4]? = some (.inl (5, 36, .inr (.inr (.inr (.inr rf_4)))))) (c_a1 : h[a1]? = some (.inr (6, [z2, z3, .int v4, .int v5]))) (q1 : ¬ (p1 < 0)) (q2 : ¬ (6 ≤ p1)) (q3 : ¬ (p2 < 0)) (q4 : ¬ (6 ≤ p2)) (q5 : ¬ (p1 = p2)) (q6 : ¬ (p3 < 0)) (b_6 : 0 ≤ Int32.toInt ((p1 * 6) + p2) ∧ Int32.toInt ((p1 * 6) + p2) < (36 : Int)) (r_7 : rf_4 (Int32.toNatClampNeg ((p1 * 6) + p2)) = some a1) (q7 : ¬ (p3 < v5)) : Go X (d + 4) 121 (0, ie_en 121 [.ref 0, .int p1, .int p2, .int p3, .ref 177], [], h) (.inl (some (.int 2))) (h ++ [.inr (15, [])]) := by
  refine go_run 0 (F' := (0, [some (.ref 0), some (.int p1), some (.int p2), some (.int p3), some (.ref 177), none], [], h)) rfl ?_
  refine go_run 6 (F' := (7, [some (.ref 0), some (.int p1), some (.int p2), some (.int p3), some (.ref 177), none], [.int p3, .int p2, .int p1, .ref 0, .int 0, .ref 177], h)) rfl ?_
  refine go_catch (m' := 122) (ci := 15) (h1 := (h ++ [.inr (15, [])])) rfl (by simp only [ie_step, ie_iv, List.drop, c0, if_true]; rfl) ⟨rfl, Nat.le_of_ble_eq_true rfl⟩ rfl rfl rfl ?_ ?_
  · refine go_run 0 (F' := (0, [some (.ref 0), some (.int p1), some (.int p2), some (.int p3)], [], h)) rfl ?_
    refine go_run 4 (F' := (4, [some (.ref 0), some (.int p1), some (.int p2), some (.int p3)], [.int p3, .int p2, .int p1, .ref 0], h)) rfl ?_
    refine go_out (m' := 123) rfl (by simp only [ie_step, ie_iv, List.drop, c0, if_true]; rfl) ⟨rfl, Nat.le_of_ble_eq_true rfl⟩ rfl rfl ?_
    · refine go_run 0 (F' := (0, [some (.ref 0), some (.int p1), some (.int p2), some (.int p3)], [], h)) rfl ?_
      refine go_run 2 (F' := (2, [some (.ref 0), some (.int p1), some (.int p2), some (.int p3)], [.int p2, .int p1], h)) rfl ?_
      refine go_call (m' := 120) (v := none) (h1 := h) rfl rfl ⟨rfl, Nat.le_of_ble_eq_true rfl⟩ ?_ ?_
      · refine go_run 0 (F' := (0, [some (.int p1), some (.int p2)], [], h)) rfl ?_
        refine go_run 1 (F' := (1, [some (.int p1), some (.int p2)], [.int p1], h)) rfl ?_
        refine go_call (m' := 33) (v := some (.int 1)) (h1 := h) rfl rfl ⟨rfl, Nat.le_of_ble_eq_true rfl⟩ ?_ ?_
        · refine go_run 0 (F' := (0, [some (.int p1)], [], h)) rfl ?_
          refine go_run 1 (F' := (1, [some (.int p1)], [.int p1], h)) rfl ?_
          refine go_step rfl rfl ?_
          rw [if_neg q1]
          refine go_run 0 (F' := (4, [some (.int p1)], [], h)) rfl ?_
          refine go_run 2 (F' := (7, [some (.int p1)], [.int 6, .int p1], h)) rfl ?_
          refine go_step rfl rfl ?_
          rw [if_neg q2]
          refine go_run 0 (F' := (10, [some (.int p1)], [], h)) rfl ?_
          refine go_run 2 (F' := (15, [some (.int p1)], [.int 1], h)) rfl ?_
          exact go_end rfl rfl
        refine go_run 0 (F' := (4, [some (.int p1), some (.int p2)], [.int 1], h)) rfl ?_
        refine go_run 2 (F' := (8, [some (.int p1), some (.int p2)], [.int p2], h)) rfl ?_
        refine go_call (m' := 33) (v := some (.int 1)) (h1 := h) rfl rfl ⟨rfl, Nat.le_of_ble_eq_true rfl⟩ ?_ ?_
        · refine go_run 0 (F' := (0, [some (.int p2)], [], h)) rfl ?_
          refine go_run 1 (F' := (1, [some (.int p2)], [.int p2], h)) rfl ?_
          refine go_step rfl rfl ?_
          rw [if_neg q3]
          refine go_run 0 (F' := (4, [some (.int p2)], [], h)) rfl ?_
          refine go_run 2 (F' := (7, [some (.int p2)], [.int 6, .int p2], h)) rfl ?_
          refine go_step rfl rfl ?_
          rw [if_neg q4]
          refine go_run 0 (F' := (10, [some (.int p2)], [], h)) rfl ?_
          refine go_run 2 (F' := (15, [some (.int p2)], [.int 1], h)) rfl ?_
          exact go_end rfl rfl
        refine go_run 0 (F' := (11, [some (.int p1), some (.int p2)], [.int 1], h)) rfl ?_
        refine go_run 3 (F' := (16, [some (.int p1), some (.int p2)], [.int p2, .int p1], h)) rfl ?_
        refine go_step rfl rfl ?_
        rw [if_neg q5]
        refine go_run 0 (F' := (27, [some (.int p1), some (.int p2)], [], h)) rfl ?_
        exact go_end rfl rfl
      refine go_run 0 (F' := (5, [some (.ref 0), some (.int p1), some (.int p2), some (.int p3)], [], h)) rfl ?_
      refine go_run 1 (F' := (6, [some (.ref 0), some (.int p1), some (.int p2), some (.int p3)], [.int p3], h)) rfl ?_
      refine go_step rfl rfl ?_
      rw [if_neg q6]
      refine go_run 0 (F' := (9, [some (.ref 0), some (.int p1), some (.int p2), some (.int p3)], [], h)) rfl ?_
      refine go_run 2 (F' := (11, [some (.ref 0), some (.int p1), some (.int p2), some (.int p3)], [.ref 0, .int p3], h)) rfl ?_
      refine go_gf rfl c0 rfl ?_
      refine go_run 0 (F' := (14, [some (.ref 0), some (.int p1), some (.int p2), some (.int p3)], [.ref 2, .int p3], h)) rfl ?_
      refine go_run 2 (F' := (16, [some (.ref 0), some (.int p1), some (.int p2), some (.int p3)], [.int p2, .int p1, .ref 2, .int p3], h)) rfl ?_
      refine go_call (m' := 104) (v := some (.ref a1)) (h1 := h) rfl (by simp only [ie_step, ie_iv, List.drop, c2, if_true]; rfl) ⟨rfl, Nat.le_of_ble_eq_true rfl⟩ ?_ ?_
      · refine go_run 0 (F' := (0, [some (.ref 2), some (.int p1), some (.int p2)], [], h)) rfl ?_
        refine go_run 1 (F' := (1, [some (.ref 2), some (.int p1), some (.int p2)], [.ref 2], h)) rfl ?_
        refine go_gf rfl c2 rfl ?_
        refine go_run 0 (F' := (4, [some (.ref 2), some (.int p1), some (.int p2)], [.ref 4], h)) rfl ?_
        refine go_run 5 (F' := (10, [some (.ref 2), some (.int p1), some (.int p2)], [.int ((p1 * 6) + p2), .ref 4], h)) rfl ?_
        refine go_aald rfl c4 (by decide) b_6 r_7 ?_
        refine go_run 0 (F' := (11, [some (.ref 2), some (.int p1), some (.int p2)], [.ref a1], h)) rfl ?_
        exact go_end rfl rfl
      refine go_run 0 (F' := (19, [some (.ref 0), some (.int p1), some (.int p2), some (.int p3)], [.ref a1, .int p3], h)) rfl ?_
      refine go_gf rfl c_a1 rfl ?_
      refine go_run 0 (F' := (22, [some (.ref 0), some (.int p1), some (.int p2), some (.int p3)], [.int v5, .int p3], h)) rfl ?_
      refine go_step rfl rfl ?_
      rw [if_neg q7]
      refine go_run 0 (F' := (25, [some (.ref 0), some (.int p1), some (.int p2), some (.int p3)], [], h)) rfl ?_
      exact go_end rfl rfl
  refine go_run 0 (F' := (21, [some (.ref 0), some (.int p1), some (.int p2), some (.int p3), some (.ref 177), none], [], (h ++ [.inr (15, [])]))) rfl ?_
  refine go_run 1 (F' := (22, [some (.ref 0), some (.int p1), some (.int p2), some (.int p3), some (.ref 177), none], [.int 2], (h ++ [.inr (15, [])]))) rfl ?_
  exact go_end rfl rfl
set_option maxRecDepth 100000 in
theorem um_message_1 {X : ie_X} {d : Nat} {h : ie_H} {p1 p2 p3 t_ ty fa wh ch it at_ bad co de st sz tp am bm mn rm sp be wo : Int32} (c134 : h[134]? = some (mo t_ ty fa wh ch it at_ bad co de 0 st sz tp am bm mn rm sp be wo)) (q1 : p1 < 0) : Go X (d + 3) 214 (0, ie_en 214 [.ref 134, .int p1, .int p2, .int p3], [], h) (.inl (some (.int 0))) (List.set h 134 (mo 1 ty fa wh ch it at_ bad co de 0 st sz tp am bm mn rm sp be wo)) := by
  refine go_run 0 (F' := (0, [some (.ref 134), some (.int p1), some (.int p2), some (.int p3)], [], h)) rfl ?_
  refine go_run 5 (F' := (5, [some (.ref 134), some (.int p1), some (.int p2), some (.int p3)], [.int p3, .int p2, .int p1, .ref 134, .ref 134], h)) rfl ?_
  refine go_call (m' := 215) (v := some (.int 1)) (h1 := h) rfl (by simp only [ie_step, ie_iv, List.drop, c134, mo, if_true]; rfl) ⟨rfl, Nat.le_of_ble_eq_true rfl⟩ ?_ ?_
  · refine go_run 0 (F' := (0, [some (.ref 134), some (.int p1), some (.int p2), some (.int p3)], [], h)) rfl ?_
    refine go_run 2 (F' := (2, [some (.ref 134), some (.int p1), some (.int p2), some (.int p3)], [.int p2, .int p1], h)) rfl ?_
    refine go_call (m' := 213) (v := some (.int 1)) (h1 := h) rfl rfl ⟨rfl, Nat.le_of_ble_eq_true rfl⟩ ?_ ?_
    · refine go_run 0 (F' := (0, [some (.int p1), some (.int p2)], [], h)) rfl ?_
      refine go_run 1 (F' := (1, [some (.int p1), some (.int p2)], [.int p1], h)) rfl ?_
      refine go_call (m' := 183) (v := some (.int 1)) (h1 := h) rfl rfl ⟨rfl, Nat.le_of_ble_eq_true rfl⟩ ?_ ?_
      · refine go_run 0 (F' := (0, [some (.int p1)], [], h)) rfl ?_
        refine go_run 1 (F' := (1, [some (.int p1)], [.int p1], h)) rfl ?_
        refine go_step rfl rfl ?_
        rw [if_pos q1]
        refine go_run 0 (F' := (9, [some (.int p1)], [], h)) rfl ?_
        refine go_run 2 (F' := (14, [some (.int p1)], [.int 1], h)) rfl ?_
        exact go_end rfl rfl
      refine go_run 0 (F' := (4, [some (.int p1), some (.int p2)], [.int 1], h)) rfl ?_
      refine go_run 3 (F' := (24, [some (.int p1), some (.int p2)], [.int 1], h)) rfl ?_
      exact go_end rfl rfl
    refine go_run 0 (F' := (5, [some (.ref 134), some (.int p1), some (.int p2), some (.int p3)], [.int 1], h)) rfl ?_
    refine go_run 3 (F' := (36, [some (.ref 134), some (.int p1), some (.int p2), some (.int p3)], [.int 1], h)) rfl ?_
    exact go_end rfl rfl
  refine go_run 0 (F' := (8, [some (.ref 134), some (.int p1), some (.int p2), some (.int p3)], [.int 1, .ref 134], h)) rfl ?_
  refine go_pf rfl c134 (Nat.le_of_ble_eq_true rfl) rfl rfl ?_
  refine go_run 0 (F' := (11, [some (.ref 134), some (.int p1), some (.int p2), some (.int p3)], [], (List.set h 134 (mo 1 ty fa wh ch it at_ bad co de 0 st sz tp am bm mn rm sp be wo)))) rfl ?_
  refine go_run 1 (F' := (12, [some (.ref 134), some (.int p1), some (.int p2), some (.int p3)], [.ref 134], (List.set h 134 (mo 1 ty fa wh ch it at_ bad co de 0 st sz tp am bm mn rm sp be wo)))) rfl ?_
  refine go_gf rfl (gs_self c134) rfl ?_
  refine go_run 0 (F' := (15, [some (.ref 134), some (.int p1), some (.int p2), some (.int p3)], [.int 1], (List.set h 134 (mo 1 ty fa wh ch it at_ bad co de 0 st sz tp am bm mn rm sp be wo)))) rfl ?_
  refine go_run 2 (F' := (38, [some (.ref 134), some (.int p1), some (.int p2), some (.int p3)], [.int 0], (List.set h 134 (mo 1 ty fa wh ch it at_ bad co de 0 st sz tp am bm mn rm sp be wo)))) rfl ?_
  exact go_end rfl rfl
set_option maxRecDepth 100000 in
theorem um_message_2 {X : ie_X} {d : Nat} {h : ie_H} {p1 p2 p3 t_ ty fa wh ch it at_ bad co de st sz tp am bm mn rm sp be wo : Int32} (c134 : h[134]? = some (mo t_ ty fa wh ch it at_ bad co de 0 st sz tp am bm mn rm sp be wo)) (q1 : ¬ (p1 < 0)) (q2 : ¬ (p1 ≤ 5)) : Go X (d + 3) 214 (0, ie_en 214 [.ref 134, .int p1, .int p2, .int p3], [], h) (.inl (some (.int 0))) (List.set h 134 (mo 1 ty fa wh ch it at_ bad co de 0 st sz tp am bm mn rm sp be wo)) := by
  refine go_run 0 (F' := (0, [some (.ref 134), some (.int p1), some (.int p2), some (.int p3)], [], h)) rfl ?_
  refine go_run 5 (F' := (5, [some (.ref 134), some (.int p1), some (.int p2), some (.int p3)], [.int p3, .int p2, .int p1, .ref 134, .ref 134], h)) rfl ?_
  refine go_call (m' := 215) (v := some (.int 1)) (h1 := h) rfl (by simp only [ie_step, ie_iv, List.drop, c134, mo, if_true]; rfl) ⟨rfl, Nat.le_of_ble_eq_true rfl⟩ ?_ ?_
  · refine go_run 0 (F' := (0, [some (.ref 134), some (.int p1), some (.int p2), some (.int p3)], [], h)) rfl ?_
    refine go_run 2 (F' := (2, [some (.ref 134), some (.int p1), some (.int p2), some (.int p3)], [.int p2, .int p1], h)) rfl ?_
    refine go_call (m' := 213) (v := some (.int 1)) (h1 := h) rfl rfl ⟨rfl, Nat.le_of_ble_eq_true rfl⟩ ?_ ?_
    · refine go_run 0 (F' := (0, [some (.int p1), some (.int p2)], [], h)) rfl ?_
      refine go_run 1 (F' := (1, [some (.int p1), some (.int p2)], [.int p1], h)) rfl ?_
      refine go_call (m' := 183) (v := some (.int 1)) (h1 := h) rfl rfl ⟨rfl, Nat.le_of_ble_eq_true rfl⟩ ?_ ?_
      · refine go_run 0 (F' := (0, [some (.int p1)], [], h)) rfl ?_
        refine go_run 1 (F' := (1, [some (.int p1)], [.int p1], h)) rfl ?_
        refine go_step rfl rfl ?_
        rw [if_neg q1]
        refine go_run 0 (F' := (4, [some (.int p1)], [], h)) rfl ?_
        refine go_run 2 (F' := (6, [some (.int p1)], [.int 5, .int p1], h)) rfl ?_
        refine go_step rfl rfl ?_
        rw [if_neg q2]
        refine go_run 0 (F' := (9, [some (.int p1)], [], h)) rfl ?_
        refine go_run 2 (F' := (14, [some (.int p1)], [.int 1], h)) rfl ?_
        exact go_end rfl rfl
      refine go_run 0 (F' := (4, [some (.int p1), some (.int p2)], [.int 1], h)) rfl ?_
      refine go_run 3 (F' := (24, [some (.int p1), some (.int p2)], [.int 1], h)) rfl ?_
      exact go_end rfl rfl
    refine go_run 0 (F' := (5, [some (.ref 134), some (.int p1), some (.int p2), some (.int p3)], [.int 1], h)) rfl ?_
    refine go_run 3 (F' := (36, [some (.ref 134), some (.int p1), some (.int p2), some (.int p3)], [.int 1], h)) rfl ?_
    exact go_end rfl rfl
  refine go_run 0 (F' := (8, [some (.ref 134), some (.int p1), some (.int p2), some (.int p3)], [.int 1, .ref 134], h)) rfl ?_
  refine go_pf rfl c134 (Nat.le_of_ble_eq_true rfl) rfl rfl ?_
  refine go_run 0 (F' := (11, [some (.ref 134), some (.int p1), some (.int p2), some (.int p3)], [], (List.set h 134 (mo 1 ty fa wh ch it at_ bad co de 0 st sz tp am bm mn rm sp be wo)))) rfl ?_
  refine go_run 1 (F' := (12, [some (.ref 134), some (.int p1), some (.int p2), some (.int p3)], [.ref 134], (List.set h 134 (mo 1 ty fa wh ch it at_ bad co de 0 st sz tp am bm mn rm sp be wo)))) rfl ?_
  refine go_gf rfl (gs_self c134) rfl ?_
  refine go_run 0 (F' := (15, [some (.ref 134), some (.int p1), some (.int p2), some (.int p3)], [.int 1], (List.set h 134 (mo 1 ty fa wh ch it at_ bad co de 0 st sz tp am bm mn rm sp be wo)))) rfl ?_
  refine go_run 2 (F' := (38, [some (.ref 134), some (.int p1), some (.int p2), some (.int p3)], [.int 0], (List.set h 134 (mo 1 ty fa wh ch it at_ bad co de 0 st sz tp am bm mn rm sp be wo)))) rfl ?_
  exact go_end rfl rfl
set_option maxRecDepth 100000 in
theorem um_message_3 {X : ie_X} {d : Nat} {h : ie_H} {p1 p2 p3 t_ ty fa wh ch it at_ bad co de st sz tp am bm mn rm sp be wo : Int32} (c134 : h[134]? = some (mo t_ ty fa wh ch it at_ bad co de 0 st sz tp am bm mn rm sp be wo)) (q1 : ¬ (p1 < 0)) (q2 : p1 ≤ 5) (q3 : p2 < 0) : Go X (d + 3) 214 (0, ie_en 214 [.ref 134, .int p1, .int p2, .int p3], [], h) (.inl (some (.int 0))) (List.set h 134 (mo 1 ty fa wh ch it at_ bad co de 0 st sz tp am bm mn rm sp be wo)) := by
  refine go_run 0 (F' := (0, [some (.ref 134), some (.int p1), some (.int p2), some (.int p3)], [], h)) rfl ?_
  refine go_run 5 (F' := (5, [some (.ref 134), some (.int p1), some (.int p2), some (.int p3)], [.int p3, .int p2, .int p1, .ref 134, .ref 134], h)) rfl ?_
  refine go_call (m' := 215) (v := some (.int 1)) (h1 := h) rfl (by simp only [ie_step, ie_iv, List.drop, c134, mo, if_true]; rfl) ⟨rfl, Nat.le_of_ble_eq_true rfl⟩ ?_ ?_
  · refine go_run 0 (F' := (0, [some (.ref 134), some (.int p1), some (.int p2), some (.int p3)], [], h)) rfl ?_
    refine go_run 2 (F' := (2, [some (.ref 134), some (.int p1), some (.int p2), some (.int p3)], [.int p2, .int p1], h)) rfl ?_
    refine go_call (m' := 213) (v := some (.int 1)) (h1 := h) rfl rfl ⟨rfl, Nat.le_of_ble_eq_true rfl⟩ ?_ ?_
    · refine go_run 0 (F' := (0, [some (.int p1), some (.int p2)], [], h)) rfl ?_
      refine go_run 1 (F' := (1, [some (.int p1), some (.int p2)], [.int p1], h)) rfl ?_
      refine go_call (m' := 183) (v := some (.int 0)) (h1 := h) rfl rfl ⟨rfl, Nat.le_of_ble_eq_true rfl⟩ ?_ ?_
      · refine go_run 0 (F' := (0, [some (.int p1)], [], h)) rfl ?_
        refine go_run 1 (F' := (1, [some (.int p1)], [.int p1], h)) rfl ?_
        refine go_step rfl rfl ?_
        rw [if_neg q1]
        refine go_run 0 (F' := (4, [some (.int p1)], [], h)) rfl ?_
        refine go_run 2 (F' := (6, [some (.int p1)], [.int 5, .int p1], h)) rfl ?_
        refine go_step rfl rfl ?_
        rw [if_pos q2]
        refine go_run 0 (F' := (13, [some (.int p1)], [], h)) rfl ?_
        refine go_run 1 (F' := (14, [some (.int p1)], [.int 0], h)) rfl ?_
        exact go_end rfl rfl
      refine go_run 0 (F' := (4, [some (.int p1), some (.int p2)], [.int 0], h)) rfl ?_
      refine go_run 2 (F' := (8, [some (.int p1), some (.int p2)], [.int p2], h)) rfl ?_
      refine go_call (m' := 183) (v := some (.int 1)) (h1 := h) rfl rfl ⟨rfl, Nat.le_of_ble_eq_true rfl⟩ ?_ ?_
      · refine go_run 0 (F' := (0, [some (.int p2)], [], h)) rfl ?_
        refine go_run 1 (F' := (1, [some (.int p2)], [.int p2], h)) rfl ?_
        refine go_step rfl rfl ?_
        rw [if_pos q3]
        refine go_run 0 (F' := (9, [some (.int p2)], [], h)) rfl ?_
        refine go_run 2 (F' := (14, [some (.int p2)], [.int 1], h)) rfl ?_
        exact go_end rfl rfl
      refine go_run 0 (F' := (11, [some (.int p1), some (.int p2)], [.int 1], h)) rfl ?_
      refine go_run 3 (F' := (24, [some (.int p1), some (.int p2)], [.int 1], h)) rfl ?_
      exact go_end rfl rfl
    refine go_run 0 (F' := (5, [some (.ref 134), some (.int p1), some (.int p2), some (.int p3)], [.int 1], h)) rfl ?_
    refine go_run 3 (F' := (36, [some (.ref 134), some (.int p1), some (.int p2), some (.int p3)], [.int 1], h)) rfl ?_
    exact go_end rfl rfl
  refine go_run 0 (F' := (8, [some (.ref 134), some (.int p1), some (.int p2), some (.int p3)], [.int 1, .ref 134], h)) rfl ?_
  refine go_pf rfl c134 (Nat.le_of_ble_eq_true rfl) rfl rfl ?_
  refine go_run 0 (F' := (11, [some (.ref 134), some (.int p1), some (.int p2), some (.int p3)], [], (List.set h 134 (mo 1 ty fa wh ch it at_ bad co de 0 st sz tp am bm mn rm sp be wo)))) rfl ?_
  refine go_run 1 (F' := (12, [some (.ref 134), some (.int p1), some (.int p2), some (.int p3)], [.ref 134], (List.set h 134 (mo 1 ty fa wh ch it at_ bad co de 0 st sz tp am bm mn rm sp be wo)))) rfl ?_
  refine go_gf rfl (gs_self c134) rfl ?_
  refine go_run 0 (F' := (15, [some (.ref 134), some (.int p1), some (.int p2), some (.int p3)], [.int 1], (List.set h 134 (mo 1 ty fa wh ch it at_ bad co de 0 st sz tp am bm mn rm sp be wo)))) rfl ?_
  refine go_run 2 (F' := (38, [some (.ref 134), some (.int p1), some (.int p2), some (.int p3)], [.int 0], (List.set h 134 (mo 1 ty fa wh ch it at_ bad co de 0 st sz tp am bm mn rm sp be wo)))) rfl ?_
  exact go_end rfl rfl
set_option maxRecDepth 100000 in
theorem um_message_4 {X : ie_X} {d : Nat} {h : ie_H} {p1 p2 p3 t_ ty fa wh ch it at_ bad co de st sz tp am bm mn rm sp be wo : Int32} (c134 : h[134]? = some (mo t_ ty fa wh ch it at_ bad co de 0 st sz tp am bm mn rm sp be wo)) (q1 : ¬ (p1 < 0)) (q2 : p1 ≤ 5) (q3 : ¬ (p2 < 0)) (q4 : ¬ (p2 ≤ 5)) : Go X (d + 3) 214 (0, ie_en 214 [.ref 134, .int p1, .int p2, .int p3], [], h) (.inl (some (.int 0))) (List.set h 134 (mo 1 ty fa wh ch it at_ bad co de 0 st sz tp am bm mn rm sp be wo)) := by
  refine go_run 0 (F' := (0, [some (.ref 134), some (.int p1), some (.int p2), some (.int p3)], [], h)) rfl ?_
  refine go_run 5 (F' := (5, [some (.ref 134), some (.int p1), some (.int p2), some (.int p3)], [.int p3, .int p2, .int p1, .ref 134, .ref 134], h)) rfl ?_
  refine go_call (m' := 215) (v := some (.int 1)) (h1 := h) rfl (by simp only [ie_step, ie_iv, List.drop, c134, mo, if_true]; rfl) ⟨rfl, Nat.le_of_ble_eq_true rfl⟩ ?_ ?_
  · refine go_run 0 (F' := (0, [some (.ref 134), some (.int p1), some (.int p2), some (.int p3)], [], h)) rfl ?_
    refine go_run 2 (F' := (2, [some (.ref 134), some (.int p1), some (.int p2), some (.int p3)], [.int p2, .int p1], h)) rfl ?_
    refine go_call (m' := 213) (v := some (.int 1)) (h1 := h) rfl rfl ⟨rfl, Nat.le_of_ble_eq_true rfl⟩ ?_ ?_
    · refine go_run 0 (F' := (0, [some (.int p1), some (.int p2)], [], h)) rfl ?_
      refine go_run 1 (F' := (1, [some (.int p1), some (.int p2)], [.int p1], h)) rfl ?_
      refine go_call (m' := 183) (v := some (.int 0)) (h1 := h) rfl rfl ⟨rfl, Nat.le_of_ble_eq_true rfl⟩ ?_ ?_
      · refine go_run 0 (F' := (0, [some (.int p1)], [], h)) rfl ?_
        refine go_run 1 (F' := (1, [some (.int p1)], [.int p1], h)) rfl ?_
        refine go_step rfl rfl ?_
        rw [if_neg q1]
        refine go_run 0 (F' := (4, [some (.int p1)], [], h)) rfl ?_
        refine go_run 2 (F' := (6, [some (.int p1)], [.int 5, .int p1], h)) rfl ?_
        refine go_step rfl rfl ?_
        rw [if_pos q2]
        refine go_run 0 (F' := (13, [some (.int p1)], [], h)) rfl ?_
        refine go_run 1 (F' := (14, [some (.int p1)], [.int 0], h)) rfl ?_
        exact go_end rfl rfl
      refine go_run 0 (F' := (4, [some (.int p1), some (.int p2)], [.int 0], h)) rfl ?_
      refine go_run 2 (F' := (8, [some (.int p1), some (.int p2)], [.int p2], h)) rfl ?_
      refine go_call (m' := 183) (v := some (.int 1)) (h1 := h) rfl rfl ⟨rfl, Nat.le_of_ble_eq_true rfl⟩ ?_ ?_
      · refine go_run 0 (F' := (0, [some (.int p2)], [], h)) rfl ?_
        refine go_run 1 (F' := (1, [some (.int p2)], [.int p2], h)) rfl ?_
        refine go_step rfl rfl ?_
        rw [if_neg q3]
        refine go_run 0 (F' := (4, [some (.int p2)], [], h)) rfl ?_
        refine go_run 2 (F' := (6, [some (.int p2)], [.int 5, .int p2], h)) rfl ?_
        refine go_step rfl rfl ?_
        rw [if_neg q4]
        refine go_run 0 (F' := (9, [some (.int p2)], [], h)) rfl ?_
        refine go_run 2 (F' := (14, [some (.int p2)], [.int 1], h)) rfl ?_
        exact go_end rfl rfl
      refine go_run 0 (F' := (11, [some (.int p1), some (.int p2)], [.int 1], h)) rfl ?_
      refine go_run 3 (F' := (24, [some (.int p1), some (.int p2)], [.int 1], h)) rfl ?_
      exact go_end rfl rfl
    refine go_run 0 (F' := (5, [some (.ref 134), some (.int p1), some (.int p2), some (.int p3)], [.int 1], h)) rfl ?_
    refine go_run 3 (F' := (36, [some (.ref 134), some (.int p1), some (.int p2), some (.int p3)], [.int 1], h)) rfl ?_
    exact go_end rfl rfl
  refine go_run 0 (F' := (8, [some (.ref 134), some (.int p1), some (.int p2), some (.int p3)], [.int 1, .ref 134], h)) rfl ?_
  refine go_pf rfl c134 (Nat.le_of_ble_eq_true rfl) rfl rfl ?_
  refine go_run 0 (F' := (11, [some (.ref 134), some (.int p1), some (.int p2), some (.int p3)], [], (List.set h 134 (mo 1 ty fa wh ch it at_ bad co de 0 st sz tp am bm mn rm sp be wo)))) rfl ?_
  refine go_run 1 (F' := (12, [some (.ref 134), some (.int p1), some (.int p2), some (.int p3)], [.ref 134], (List.set h 134 (mo 1 ty fa wh ch it at_ bad co de 0 st sz tp am bm mn rm sp be wo)))) rfl ?_
  refine go_gf rfl (gs_self c134) rfl ?_
  refine go_run 0 (F' := (15, [some (.ref 134), some (.int p1), some (.int p2), some (.int p3)], [.int 1], (List.set h 134 (mo 1 ty fa wh ch it at_ bad co de 0 st sz tp am bm mn rm sp be wo)))) rfl ?_
  refine go_run 2 (F' := (38, [some (.ref 134), some (.int p1), some (.int p2), some (.int p3)], [.int 0], (List.set h 134 (mo 1 ty fa wh ch it at_ bad co de 0 st sz tp am bm mn rm sp be wo)))) rfl ?_
  exact go_end rfl rfl
set_option maxRecDepth 100000 in
theorem um_message_5 {X : ie_X} {d : Nat} {h : ie_H} {p1 p2 p3 t_ ty fa wh ch it at_ bad co de st sz tp am bm mn rm sp be wo : Int32} (c134 : h[134]? = some (mo t_ ty fa wh ch it at_ bad co de 0 st sz tp am bm mn rm sp be wo)) (q1 : ¬ (p1 < 0)) (q2 : p1 ≤ 5) (q3 : ¬ (p2 < 0)) (q4 : p2 ≤ 5) (q5 : p1 = p2) : Go X (d + 3) 214 (0, ie_en 214 [.ref 134, .int p1, .int p2, .int p3], [], h) (.inl (some (.int 0))) (List.set h 134 (mo 1 ty fa wh ch it at_ bad co de 0 st sz tp am bm mn rm sp be wo)) := by
  refine go_run 0 (F' := (0, [some (.ref 134), some (.int p1), some (.int p2), some (.int p3)], [], h)) rfl ?_
  refine go_run 5 (F' := (5, [some (.ref 134), some (.int p1), some (.int p2), some (.int p3)], [.int p3, .int p2, .int p1, .ref 134, .ref 134], h)) rfl ?_
  refine go_call (m' := 215) (v := some (.int 1)) (h1 := h) rfl (by simp only [ie_step, ie_iv, List.drop, c134, mo, if_true]; rfl) ⟨rfl, Nat.le_of_ble_eq_true rfl⟩ ?_ ?_
  · refine go_run 0 (F' := (0, [some (.ref 134), some (.int p1), some (.int p2), some (.int p3)], [], h)) rfl ?_
    refine go_run 2 (F' := (2, [some (.ref 134), some (.int p1), some (.int p2), some (.int p3)], [.int p2, .int p1], h)) rfl ?_
    refine go_call (m' := 213) (v := some (.int 1)) (h1 := h) rfl rfl ⟨rfl, Nat.le_of_ble_eq_true rfl⟩ ?_ ?_
    · refine go_run 0 (F' := (0, [some (.int p1), some (.int p2)], [], h)) rfl ?_
      refine go_run 1 (F' := (1, [some (.int p1), some (.int p2)], [.int p1], h)) rfl ?_
      refine go_call (m' := 183) (v := some (.int 0)) (h1 := h) rfl rfl ⟨rfl, Nat.le_of_ble_eq_true rfl⟩ ?_ ?_
      · refine go_run 0 (F' := (0, [some (.int p1)], [], h)) rfl ?_
        refine go_run 1 (F' := (1, [some (.int p1)], [.int p1], h)) rfl ?_
        refine go_step rfl rfl ?_
        rw [if_neg q1]
        refine go_run 0 (F' := (4, [some (.int p1)], [], h)) rfl ?_
        refine go_run 2 (F' := (6, [some (.int p1)], [.int 5, .int p1], h)) rfl ?_
        refine go_step rfl rfl ?_
        rw [if_pos q2]
        refine go_run 0 (F' := (13, [some (.int p1)], [], h)) rfl ?_
        refine go_run 1 (F' := (14, [some (.int p1)], [.int 0], h)) rfl ?_
        exact go_end rfl rfl
      refine go_run 0 (F' := (4, [some (.int p1), some (.int p2)], [.int 0], h)) rfl ?_
      refine go_run 2 (F' := (8, [some (.int p1), some (.int p2)], [.int p2], h)) rfl ?_
      refine go_call (m' := 183) (v := some (.int 0)) (h1 := h) rfl rfl ⟨rfl, Nat.le_of_ble_eq_true rfl⟩ ?_ ?_
      · refine go_run 0 (F' := (0, [some (.int p2)], [], h)) rfl ?_
        refine go_run 1 (F' := (1, [some (.int p2)], [.int p2], h)) rfl ?_
        refine go_step rfl rfl ?_
        rw [if_neg q3]
        refine go_run 0 (F' := (4, [some (.int p2)], [], h)) rfl ?_
        refine go_run 2 (F' := (6, [some (.int p2)], [.int 5, .int p2], h)) rfl ?_
        refine go_step rfl rfl ?_
        rw [if_pos q4]
        refine go_run 0 (F' := (13, [some (.int p2)], [], h)) rfl ?_
        refine go_run 1 (F' := (14, [some (.int p2)], [.int 0], h)) rfl ?_
        exact go_end rfl rfl
      refine go_run 0 (F' := (11, [some (.int p1), some (.int p2)], [.int 0], h)) rfl ?_
      refine go_run 3 (F' := (16, [some (.int p1), some (.int p2)], [.int p2, .int p1], h)) rfl ?_
      refine go_step rfl rfl ?_
      rw [if_pos q5]
      refine go_run 0 (F' := (19, [some (.int p1), some (.int p2)], [], h)) rfl ?_
      refine go_run 2 (F' := (24, [some (.int p1), some (.int p2)], [.int 1], h)) rfl ?_
      exact go_end rfl rfl
    refine go_run 0 (F' := (5, [some (.ref 134), some (.int p1), some (.int p2), some (.int p3)], [.int 1], h)) rfl ?_
    refine go_run 3 (F' := (36, [some (.ref 134), some (.int p1), some (.int p2), some (.int p3)], [.int 1], h)) rfl ?_
    exact go_end rfl rfl
  refine go_run 0 (F' := (8, [some (.ref 134), some (.int p1), some (.int p2), some (.int p3)], [.int 1, .ref 134], h)) rfl ?_
  refine go_pf rfl c134 (Nat.le_of_ble_eq_true rfl) rfl rfl ?_
  refine go_run 0 (F' := (11, [some (.ref 134), some (.int p1), some (.int p2), some (.int p3)], [], (List.set h 134 (mo 1 ty fa wh ch it at_ bad co de 0 st sz tp am bm mn rm sp be wo)))) rfl ?_
  refine go_run 1 (F' := (12, [some (.ref 134), some (.int p1), some (.int p2), some (.int p3)], [.ref 134], (List.set h 134 (mo 1 ty fa wh ch it at_ bad co de 0 st sz tp am bm mn rm sp be wo)))) rfl ?_
  refine go_gf rfl (gs_self c134) rfl ?_
  refine go_run 0 (F' := (15, [some (.ref 134), some (.int p1), some (.int p2), some (.int p3)], [.int 1], (List.set h 134 (mo 1 ty fa wh ch it at_ bad co de 0 st sz tp am bm mn rm sp be wo)))) rfl ?_
  refine go_run 2 (F' := (38, [some (.ref 134), some (.int p1), some (.int p2), some (.int p3)], [.int 0], (List.set h 134 (mo 1 ty fa wh ch it at_ bad co de 0 st sz tp am bm mn rm sp be wo)))) rfl ?_
  exact go_end rfl rfl
set_option maxRecDepth 100000 in
theorem um_message_6 {X : ie_X} {d : Nat} {h : ie_H} {p1 p2 p3 t_ ty fa wh ch it at_ bad co de st sz tp am bm mn rm sp be wo : Int32} (c134 : h[134]? = some (mo t_ ty fa wh ch it at_ bad co de 0 st sz tp am bm mn rm sp be wo)) (q1 : ¬ (p1 < 0)) (q2 : p1 ≤ 5) (q3 : ¬ (p2 < 0)) (q4 : p2 ≤ 5) (q5 : ¬ (p1 = p2)) (q6 : p3 < 0) : Go X (d + 3) 214 (0, ie_en 214 [.ref 134, .int p1, .int p2, .int p3], [], h) (.inl (some (.int 0))) (List.set h 134 (mo 2 ty fa wh ch it at_ bad co de 0 st sz tp am bm mn rm sp be wo)) := by
  refine go_run 0 (F' := (0, [some (.ref 134), some (.int p1), some (.int p2), some (.int p3)], [], h)) rfl ?_
  refine go_run 5 (F' := (5, [some (.ref 134), some (.int p1), some (.int p2), some (.int p3)], [.int p3, .int p2, .int p1, .ref 134, .ref 134], h)) rfl ?_
  refine go_call (m' := 215) (v := some (.int 2)) (h1 := h) rfl (by simp only [ie_step, ie_iv, List.drop, c134, mo, if_true]; rfl) ⟨rfl, Nat.le_of_ble_eq_true rfl⟩ ?_ ?_
  · refine go_run 0 (F' := (0, [some (.ref 134), some (.int p1), some (.int p2), some (.int p3)], [], h)) rfl ?_
    refine go_run 2 (F' := (2, [some (.ref 134), some (.int p1), some (.int p2), some (.int p3)], [.int p2, .int p1], h)) rfl ?_
    refine go_call (m' := 213) (v := some (.int 0)) (h1 := h) rfl rfl ⟨rfl, Nat.le_of_ble_eq_true rfl⟩ ?_ ?_
    · refine go_run 0 (F' := (0, [some (.int p1), some (.int p2)], [], h)) rfl ?_
      refine go_run 1 (F' := (1, [some (.int p1), some (.int p2)], [.int p1], h)) rfl ?_
      refine go_call (m' := 183) (v := some (.int 0)) (h1 := h) rfl rfl ⟨rfl, Nat.le_of_ble_eq_true rfl⟩ ?_ ?_
      · refine go_run 0 (F' := (0, [some (.int p1)], [], h)) rfl ?_
        refine go_run 1 (F' := (1, [some (.int p1)], [.int p1], h)) rfl ?_
        refine go_step rfl rfl ?_
        rw [if_neg q1]
        refine go_run 0 (F' := (4, [some (.int p1)], [], h)) rfl ?_
        refine go_run 2 (F' := (6, [some (.int p1)], [.int 5, .int p1], h)) rfl ?_
        refine go_step rfl rfl ?_
        rw [if_pos q2]
        refine go_run 0 (F' := (13, [some (.int p1)], [], h)) rfl ?_
        refine go_run 1 (F' := (14, [some (.int p1)], [.int 0], h)) rfl ?_
        exact go_end rfl rfl
      refine go_run 0 (F' := (4, [some (.int p1), some (.int p2)], [.int 0], h)) rfl ?_
      refine go_run 2 (F' := (8, [some (.int p1), some (.int p2)], [.int p2], h)) rfl ?_
      refine go_call (m' := 183) (v := some (.int 0)) (h1 := h) rfl rfl ⟨rfl, Nat.le_of_ble_eq_true rfl⟩ ?_ ?_
      · refine go_run 0 (F' := (0, [some (.int p2)], [], h)) rfl ?_
        refine go_run 1 (F' := (1, [some (.int p2)], [.int p2], h)) rfl ?_
        refine go_step rfl rfl ?_
        rw [if_neg q3]
        refine go_run 0 (F' := (4, [some (.int p2)], [], h)) rfl ?_
        refine go_run 2 (F' := (6, [some (.int p2)], [.int 5, .int p2], h)) rfl ?_
        refine go_step rfl rfl ?_
        rw [if_pos q4]
        refine go_run 0 (F' := (13, [some (.int p2)], [], h)) rfl ?_
        refine go_run 1 (F' := (14, [some (.int p2)], [.int 0], h)) rfl ?_
        exact go_end rfl rfl
      refine go_run 0 (F' := (11, [some (.int p1), some (.int p2)], [.int 0], h)) rfl ?_
      refine go_run 3 (F' := (16, [some (.int p1), some (.int p2)], [.int p2, .int p1], h)) rfl ?_
      refine go_step rfl rfl ?_
      rw [if_neg q5]
      refine go_run 0 (F' := (23, [some (.int p1), some (.int p2)], [], h)) rfl ?_
      refine go_run 1 (F' := (24, [some (.int p1), some (.int p2)], [.int 0], h)) rfl ?_
      exact go_end rfl rfl
    refine go_run 0 (F' := (5, [some (.ref 134), some (.int p1), some (.int p2), some (.int p3)], [.int 0], h)) rfl ?_
    refine go_run 2 (F' := (13, [some (.ref 134), some (.int p1), some (.int p2), some (.int p3)], [.int p3], h)) rfl ?_
    refine go_step rfl rfl ?_
    rw [if_pos q6]
    refine go_run 0 (F' := (31, [some (.ref 134), some (.int p1), some (.int p2), some (.int p3)], [], h)) rfl ?_
    refine go_run 2 (F' := (36, [some (.ref 134), some (.int p1), some (.int p2), some (.int p3)], [.int 2], h)) rfl ?_
    exact go_end rfl rfl
  refine go_run 0 (F' := (8, [some (.ref 134), some (.int p1), some (.int p2), some (.int p3)], [.int 2, .ref 134], h)) rfl ?_
  refine go_pf rfl c134 (Nat.le_of_ble_eq_true rfl) rfl rfl ?_
  refine go_run 0 (F' := (11, [some (.ref 134), some (.int p1), some (.int p2), some (.int p3)], [], (List.set h 134 (mo 2 ty fa wh ch it at_ bad co de 0 st sz tp am bm mn rm sp be wo)))) rfl ?_
  refine go_run 1 (F' := (12, [some (.ref 134), some (.int p1), some (.int p2), some (.int p3)], [.ref 134], (List.set h 134 (mo 2 ty fa wh ch it at_ bad co de 0 st sz tp am bm mn rm sp be wo)))) rfl ?_
  refine go_gf rfl (gs_self c134) rfl ?_
  refine go_run 0 (F' := (15, [some (.ref 134), some (.int p1), some (.int p2), some (.int p3)], [.int 2], (List.set h 134 (mo 2 ty fa wh ch it at_ bad co de 0 st sz tp am bm mn rm sp be wo)))) rfl ?_
  refine go_run 2 (F' := (38, [some (.ref 134), some (.int p1), some (.int p2), some (.int p3)], [.int 0], (List.set h 134 (mo 2 ty fa wh ch it at_ bad co de 0 st sz tp am bm mn rm sp be wo)))) rfl ?_
  exact go_end rfl rfl
set_option maxRecDepth 100000 in
theorem um_message_7 {X : ie_X} {d : Nat} {h : ie_H} {p1 p2 p3 t_ ty fa wh ch it at_ bad co de st sz tp am bm mn rm sp be wo : Int32} {f173 f174 : Nat → Int32} (c134 : h[134]? = some (mo t_ ty fa wh ch it at_ bad co de 0 st sz tp am bm mn rm sp be wo)) (c173 : h[173]? = some (.inl (0, 36, .inl f173))) (c174 : h[174]? = some (.inl (0, 288, .inl f174))) (q1 : ¬ (p1 < 0)) (q2 : p1 ≤ 5) (q3 : ¬ (p2 < 0)) (q4 : p2 ≤ 5) (q5 : ¬ (p1 = p2)) (q6 : ¬ (p3 < 0)) (b_6 : 0 ≤ Int32.toInt ((6 * p1) + p2) ∧ Int32.toInt ((6 * p1) + p2) < (36 : Int)) (q7 : p3 < f173 (Int32.toNatClampNeg ((6 * p1) + p2))) (b_8 : 0 ≤ Int32.toInt ((8 * ((6 * p1) + p2)) + p3) ∧ Int32.toInt ((8 * ((6 * p1) + p2)) + p3) < (288 : Int)) : Go X (d + 3) 214 (0, ie_en 214 [.ref 134, .int p1, .int p2, .int p3], [], h) (.inl (some (.int (f174 (Int32.toNatClampNeg ((8 * ((6 * p1) + p2)) + p3)))))) (List.set h 134 (mo 0 ty fa wh ch it at_ bad co de 0 st sz tp am bm mn rm sp be wo)) := by
  refine go_run 0 (F' := (0, [some (.ref 134), some (.int p1), some (.int p2), some (.int p3)], [], h)) rfl ?_
  refine go_run 5 (F' := (5, [some (.ref 134), some (.int p1), some (.int p2), some (.int p3)], [.int p3, .int p2, .int p1, .ref 134, .ref 134], h)) rfl ?_
  refine go_call (m' := 215) (v := some (.int 0)) (h1 := h) rfl (by simp only [ie_step, ie_iv, List.drop, c134, mo, if_true]; rfl) ⟨rfl, Nat.le_of_ble_eq_true rfl⟩ ?_ ?_
  · refine go_run 0 (F' := (0, [some (.ref 134), some (.int p1), some (.int p2), some (.int p3)], [], h)) rfl ?_
    refine go_run 2 (F' := (2, [some (.ref 134), some (.int p1), some (.int p2), some (.int p3)], [.int p2, .int p1], h)) rfl ?_
    refine go_call (m' := 213) (v := some (.int 0)) (h1 := h) rfl rfl ⟨rfl, Nat.le_of_ble_eq_true rfl⟩ ?_ ?_
    · refine go_run 0 (F' := (0, [some (.int p1), some (.int p2)], [], h)) rfl ?_
      refine go_run 1 (F' := (1, [some (.int p1), some (.int p2)], [.int p1], h)) rfl ?_
      refine go_call (m' := 183) (v := some (.int 0)) (h1 := h) rfl rfl ⟨rfl, Nat.le_of_ble_eq_true rfl⟩ ?_ ?_
      · refine go_run 0 (F' := (0, [some (.int p1)], [], h)) rfl ?_
        refine go_run 1 (F' := (1, [some (.int p1)], [.int p1], h)) rfl ?_
        refine go_step rfl rfl ?_
        rw [if_neg q1]
        refine go_run 0 (F' := (4, [some (.int p1)], [], h)) rfl ?_
        refine go_run 2 (F' := (6, [some (.int p1)], [.int 5, .int p1], h)) rfl ?_
        refine go_step rfl rfl ?_
        rw [if_pos q2]
        refine go_run 0 (F' := (13, [some (.int p1)], [], h)) rfl ?_
        refine go_run 1 (F' := (14, [some (.int p1)], [.int 0], h)) rfl ?_
        exact go_end rfl rfl
      refine go_run 0 (F' := (4, [some (.int p1), some (.int p2)], [.int 0], h)) rfl ?_
      refine go_run 2 (F' := (8, [some (.int p1), some (.int p2)], [.int p2], h)) rfl ?_
      refine go_call (m' := 183) (v := some (.int 0)) (h1 := h) rfl rfl ⟨rfl, Nat.le_of_ble_eq_true rfl⟩ ?_ ?_
      · refine go_run 0 (F' := (0, [some (.int p2)], [], h)) rfl ?_
        refine go_run 1 (F' := (1, [some (.int p2)], [.int p2], h)) rfl ?_
        refine go_step rfl rfl ?_
        rw [if_neg q3]
        refine go_run 0 (F' := (4, [some (.int p2)], [], h)) rfl ?_
        refine go_run 2 (F' := (6, [some (.int p2)], [.int 5, .int p2], h)) rfl ?_
        refine go_step rfl rfl ?_
        rw [if_pos q4]
        refine go_run 0 (F' := (13, [some (.int p2)], [], h)) rfl ?_
        refine go_run 1 (F' := (14, [some (.int p2)], [.int 0], h)) rfl ?_
        exact go_end rfl rfl
      refine go_run 0 (F' := (11, [some (.int p1), some (.int p2)], [.int 0], h)) rfl ?_
      refine go_run 3 (F' := (16, [some (.int p1), some (.int p2)], [.int p2, .int p1], h)) rfl ?_
      refine go_step rfl rfl ?_
      rw [if_neg q5]
      refine go_run 0 (F' := (23, [some (.int p1), some (.int p2)], [], h)) rfl ?_
      refine go_run 1 (F' := (24, [some (.int p1), some (.int p2)], [.int 0], h)) rfl ?_
      exact go_end rfl rfl
    refine go_run 0 (F' := (5, [some (.ref 134), some (.int p1), some (.int p2), some (.int p3)], [.int 0], h)) rfl ?_
    refine go_run 2 (F' := (13, [some (.ref 134), some (.int p1), some (.int p2), some (.int p3)], [.int p3], h)) rfl ?_
    refine go_step rfl rfl ?_
    rw [if_neg q6]
    refine go_run 0 (F' := (16, [some (.ref 134), some (.int p1), some (.int p2), some (.int p3)], [], h)) rfl ?_
    refine go_run 2 (F' := (18, [some (.ref 134), some (.int p1), some (.int p2), some (.int p3)], [.ref 134, .int p3], h)) rfl ?_
    refine go_gf rfl c134 rfl ?_
    refine go_run 0 (F' := (21, [some (.ref 134), some (.int p1), some (.int p2), some (.int p3)], [.ref 173, .int p3], h)) rfl ?_
    refine go_run 5 (F' := (27, [some (.ref 134), some (.int p1), some (.int p2), some (.int p3)], [.int ((6 * p1) + p2), .ref 173, .int p3], h)) rfl ?_
    refine go_iald rfl (by decide) c173 b_6 rfl ?_
    refine go_run 0 (F' := (28, [some (.ref 134), some (.int p1), some (.int p2), some (.int p3)], [.int (f173 (Int32.toNatClampNeg ((6 * p1) + p2))), .int p3], h)) rfl ?_
    refine go_step rfl rfl ?_
    rw [if_pos q7]
    refine go_run 0 (F' := (35, [some (.ref 134), some (.int p1), some (.int p2), some (.int p3)], [], h)) rfl ?_
    refine go_run 1 (F' := (36, [some (.ref 134), some (.int p1), some (.int p2), some (.int p3)], [.int 0], h)) rfl ?_
    exact go_end rfl rfl
  refine go_run 0 (F' := (8, [some (.ref 134), some (.int p1), some (.int p2), some (.int p3)], [.int 0, .ref 134], h)) rfl ?_
  refine go_pf rfl c134 (Nat.le_of_ble_eq_true rfl) rfl rfl ?_
  refine go_run 0 (F' := (11, [some (.ref 134), some (.int p1), some (.int p2), some (.int p3)], [], (List.set h 134 (mo 0 ty fa wh ch it at_ bad co de 0 st sz tp am bm mn rm sp be wo)))) rfl ?_
  refine go_run 1 (F' := (12, [some (.ref 134), some (.int p1), some (.int p2), some (.int p3)], [.ref 134], (List.set h 134 (mo 0 ty fa wh ch it at_ bad co de 0 st sz tp am bm mn rm sp be wo)))) rfl ?_
  refine go_gf rfl (gs_self c134) rfl ?_
  refine go_run 0 (F' := (15, [some (.ref 134), some (.int p1), some (.int p2), some (.int p3)], [.int 0], (List.set h 134 (mo 0 ty fa wh ch it at_ bad co de 0 st sz tp am bm mn rm sp be wo)))) rfl ?_
  refine go_run 2 (F' := (19, [some (.ref 134), some (.int p1), some (.int p2), some (.int p3)], [.ref 134], (List.set h 134 (mo 0 ty fa wh ch it at_ bad co de 0 st sz tp am bm mn rm sp be wo)))) rfl ?_
  refine go_gf rfl (gs_self c134) rfl ?_
  refine go_run 0 (F' := (22, [some (.ref 134), some (.int p1), some (.int p2), some (.int p3)], [.ref 174], (List.set h 134 (mo 0 ty fa wh ch it at_ bad co de 0 st sz tp am bm mn rm sp be wo)))) rfl ?_
  refine go_run 9 (F' := (33, [some (.ref 134), some (.int p1), some (.int p2), some (.int p3)], [.int ((8 * ((6 * p1) + p2)) + p3), .ref 174], (List.set h 134 (mo 0 ty fa wh ch it at_ bad co de 0 st sz tp am bm mn rm sp be wo)))) rfl ?_
  refine go_iald rfl (by decide) (gs_ne (by decide) c174) b_8 rfl ?_
  refine go_run 0 (F' := (34, [some (.ref 134), some (.int p1), some (.int p2), some (.int p3)], [.int (f174 (Int32.toNatClampNeg ((8 * ((6 * p1) + p2)) + p3)))], (List.set h 134 (mo 0 ty fa wh ch it at_ bad co de 0 st sz tp am bm mn rm sp be wo)))) rfl ?_
  refine go_run 1 (F' := (38, [some (.ref 134), some (.int p1), some (.int p2), some (.int p3)], [.int (f174 (Int32.toNatClampNeg ((8 * ((6 * p1) + p2)) + p3)))], (List.set h 134 (mo 0 ty fa wh ch it at_ bad co de 0 st sz tp am bm mn rm sp be wo)))) rfl ?_
  exact go_end rfl rfl
set_option maxRecDepth 100000 in
theorem um_message_8 {X : ie_X} {d : Nat} {h : ie_H} {p1 p2 p3 t_ ty fa wh ch it at_ bad co de st sz tp am bm mn rm sp be wo : Int32} {f173 : Nat → Int32} (c134 : h[134]? = some (mo t_ ty fa wh ch it at_ bad co de 0 st sz tp am bm mn rm sp be wo)) (c173 : h[173]? = some (.inl (0, 36, .inl f173))) (q1 : ¬ (p1 < 0)) (q2 : p1 ≤ 5) (q3 : ¬ (p2 < 0)) (q4 : p2 ≤ 5) (q5 : ¬ (p1 = p2)) (q6 : ¬ (p3 < 0)) (b_6 : 0 ≤ Int32.toInt ((6 * p1) + p2) ∧ Int32.toInt ((6 * p1) + p2) < (36 : Int)) (q7 : ¬ (p3 < f173 (Int32.toNatClampNeg ((6 * p1) + p2)))) : Go X (d + 3) 214 (0, ie_en 214 [.ref 134, .int p1, .int p2, .int p3], [], h) (.inl (some (.int 0))) (List.set h 134 (mo 2 ty fa wh ch it at_ bad co de 0 st sz tp am bm mn rm sp be wo)) := by
  refine go_run 0 (F' := (0, [some (.ref 134), some (.int p1), some (.int p2), some (.int p3)], [], h)) rfl ?_
  refine go_run 5 (F' := (5, [some (.ref 134), some (.int p1), some (.int p2), some (.int p3)], [.int p3, .int p2, .int p1, .ref 134, .ref 134], h)) rfl ?_
  refine go_call (m' := 215) (v := some (.int 2)) (h1 := h) rfl (by simp only [ie_step, ie_iv, List.drop, c134, mo, if_true]; rfl) ⟨rfl, Nat.le_of_ble_eq_true rfl⟩ ?_ ?_
  · refine go_run 0 (F' := (0, [some (.ref 134), some (.int p1), some (.int p2), some (.int p3)], [], h)) rfl ?_
    refine go_run 2 (F' := (2, [some (.ref 134), some (.int p1), some (.int p2), some (.int p3)], [.int p2, .int p1], h)) rfl ?_
    refine go_call (m' := 213) (v := some (.int 0)) (h1 := h) rfl rfl ⟨rfl, Nat.le_of_ble_eq_true rfl⟩ ?_ ?_
    · refine go_run 0 (F' := (0, [some (.int p1), some (.int p2)], [], h)) rfl ?_
      refine go_run 1 (F' := (1, [some (.int p1), some (.int p2)], [.int p1], h)) rfl ?_
      refine go_call (m' := 183) (v := some (.int 0)) (h1 := h) rfl rfl ⟨rfl, Nat.le_of_ble_eq_true rfl⟩ ?_ ?_
      · refine go_run 0 (F' := (0, [some (.int p1)], [], h)) rfl ?_
        refine go_run 1 (F' := (1, [some (.int p1)], [.int p1], h)) rfl ?_
        refine go_step rfl rfl ?_
        rw [if_neg q1]
        refine go_run 0 (F' := (4, [some (.int p1)], [], h)) rfl ?_
        refine go_run 2 (F' := (6, [some (.int p1)], [.int 5, .int p1], h)) rfl ?_
        refine go_step rfl rfl ?_
        rw [if_pos q2]
        refine go_run 0 (F' := (13, [some (.int p1)], [], h)) rfl ?_
        refine go_run 1 (F' := (14, [some (.int p1)], [.int 0], h)) rfl ?_
        exact go_end rfl rfl
      refine go_run 0 (F' := (4, [some (.int p1), some (.int p2)], [.int 0], h)) rfl ?_
      refine go_run 2 (F' := (8, [some (.int p1), some (.int p2)], [.int p2], h)) rfl ?_
      refine go_call (m' := 183) (v := some (.int 0)) (h1 := h) rfl rfl ⟨rfl, Nat.le_of_ble_eq_true rfl⟩ ?_ ?_
      · refine go_run 0 (F' := (0, [some (.int p2)], [], h)) rfl ?_
        refine go_run 1 (F' := (1, [some (.int p2)], [.int p2], h)) rfl ?_
        refine go_step rfl rfl ?_
        rw [if_neg q3]
        refine go_run 0 (F' := (4, [some (.int p2)], [], h)) rfl ?_
        refine go_run 2 (F' := (6, [some (.int p2)], [.int 5, .int p2], h)) rfl ?_
        refine go_step rfl rfl ?_
        rw [if_pos q4]
        refine go_run 0 (F' := (13, [some (.int p2)], [], h)) rfl ?_
        refine go_run 1 (F' := (14, [some (.int p2)], [.int 0], h)) rfl ?_
        exact go_end rfl rfl
      refine go_run 0 (F' := (11, [some (.int p1), some (.int p2)], [.int 0], h)) rfl ?_
      refine go_run 3 (F' := (16, [some (.int p1), some (.int p2)], [.int p2, .int p1], h)) rfl ?_
      refine go_step rfl rfl ?_
      rw [if_neg q5]
      refine go_run 0 (F' := (23, [some (.int p1), some (.int p2)], [], h)) rfl ?_
      refine go_run 1 (F' := (24, [some (.int p1), some (.int p2)], [.int 0], h)) rfl ?_
      exact go_end rfl rfl
    refine go_run 0 (F' := (5, [some (.ref 134), some (.int p1), some (.int p2), some (.int p3)], [.int 0], h)) rfl ?_
    refine go_run 2 (F' := (13, [some (.ref 134), some (.int p1), some (.int p2), some (.int p3)], [.int p3], h)) rfl ?_
    refine go_step rfl rfl ?_
    rw [if_neg q6]
    refine go_run 0 (F' := (16, [some (.ref 134), some (.int p1), some (.int p2), some (.int p3)], [], h)) rfl ?_
    refine go_run 2 (F' := (18, [some (.ref 134), some (.int p1), some (.int p2), some (.int p3)], [.ref 134, .int p3], h)) rfl ?_
    refine go_gf rfl c134 rfl ?_
    refine go_run 0 (F' := (21, [some (.ref 134), some (.int p1), some (.int p2), some (.int p3)], [.ref 173, .int p3], h)) rfl ?_
    refine go_run 5 (F' := (27, [some (.ref 134), some (.int p1), some (.int p2), some (.int p3)], [.int ((6 * p1) + p2), .ref 173, .int p3], h)) rfl ?_
    refine go_iald rfl (by decide) c173 b_6 rfl ?_
    refine go_run 0 (F' := (28, [some (.ref 134), some (.int p1), some (.int p2), some (.int p3)], [.int (f173 (Int32.toNatClampNeg ((6 * p1) + p2))), .int p3], h)) rfl ?_
    refine go_step rfl rfl ?_
    rw [if_neg q7]
    refine go_run 0 (F' := (31, [some (.ref 134), some (.int p1), some (.int p2), some (.int p3)], [], h)) rfl ?_
    refine go_run 2 (F' := (36, [some (.ref 134), some (.int p1), some (.int p2), some (.int p3)], [.int 2], h)) rfl ?_
    exact go_end rfl rfl
  refine go_run 0 (F' := (8, [some (.ref 134), some (.int p1), some (.int p2), some (.int p3)], [.int 2, .ref 134], h)) rfl ?_
  refine go_pf rfl c134 (Nat.le_of_ble_eq_true rfl) rfl rfl ?_
  refine go_run 0 (F' := (11, [some (.ref 134), some (.int p1), some (.int p2), some (.int p3)], [], (List.set h 134 (mo 2 ty fa wh ch it at_ bad co de 0 st sz tp am bm mn rm sp be wo)))) rfl ?_
  refine go_run 1 (F' := (12, [some (.ref 134), some (.int p1), some (.int p2), some (.int p3)], [.ref 134], (List.set h 134 (mo 2 ty fa wh ch it at_ bad co de 0 st sz tp am bm mn rm sp be wo)))) rfl ?_
  refine go_gf rfl (gs_self c134) rfl ?_
  refine go_run 0 (F' := (15, [some (.ref 134), some (.int p1), some (.int p2), some (.int p3)], [.int 2], (List.set h 134 (mo 2 ty fa wh ch it at_ bad co de 0 st sz tp am bm mn rm sp be wo)))) rfl ?_
  refine go_run 2 (F' := (38, [some (.ref 134), some (.int p1), some (.int p2), some (.int p3)], [.int 0], (List.set h 134 (mo 2 ty fa wh ch it at_ bad co de 0 st sz tp am bm mn rm sp be wo)))) rfl ?_
  exact go_end rfl rfl
set_option maxRecDepth 100000 in
theorem uc_label_1 {X : ie_X} {d : Nat} {h : ie_H} {p1 p2 p3 nl cf cw : Int32} (c0 : h[0]? = some (.inr (0, [.ref 1, .int nl, .int cf, .int cw, .null, .ref 2, .ref 133]))) (q1 : p1 < 0) : Go X (d + 4) 124 (0, ie_en 124 [.ref 0, .int p1, .int p2, .int p3, .ref 177], [], h) (.inl (some (.int 1))) (h ++ [.inr (14, [])]) := by
  refine go_run 0 (F' := (0, [some (.ref 0), some (.int p1), some (.int p2), some (.int p3), some (.ref 177), none], [], h)) rfl ?_
  refine go_run 6 (F' := (7, [some (.ref 0), some (.int p1), some (.int p2), some (.int p3), some (.ref 177), none], [.int p3, .int p2, .int p1, .ref 0, .int 0, .ref 177], h)) rfl ?_
  refine go_catch (m' := 125) (ci := 14) (h1 := (h ++ [.inr (14, [])])) rfl (by simp only [ie_step, ie_iv, List.drop, c0, if_true]; rfl) ⟨rfl, Nat.le_of_ble_eq_true rfl⟩ rfl rfl rfl ?_ ?_
  · refine go_run 0 (F' := (0, [some (.ref 0), some (.int p1), some (.int p2), some (.int p3)], [], h)) rfl ?_
    refine go_run 4 (F' := (4, [some (.ref 0), some (.int p1), some (.int p2), some (.int p3)], [.int p3, .int p2, .int p1, .ref 0], h)) rfl ?_
    refine go_out (m' := 123) rfl (by simp only [ie_step, ie_iv, List.drop, c0, if_true]; rfl) ⟨rfl, Nat.le_of_ble_eq_true rfl⟩ rfl rfl ?_
    · refine go_run 0 (F' := (0, [some (.ref 0), some (.int p1), some (.int p2), some (.int p3)], [], h)) rfl ?_
      refine go_run 2 (F' := (2, [some (.ref 0), some (.int p1), some (.int p2), some (.int p3)], [.int p2, .int p1], h)) rfl ?_
      refine go_out (m' := 120) rfl rfl ⟨rfl, Nat.le_of_ble_eq_true rfl⟩ rfl rfl ?_
      · refine go_run 0 (F' := (0, [some (.int p1), some (.int p2)], [], h)) rfl ?_
        refine go_run 1 (F' := (1, [some (.int p1), some (.int p2)], [.int p1], h)) rfl ?_
        refine go_call (m' := 33) (v := some (.int 0)) (h1 := h) rfl rfl ⟨rfl, Nat.le_of_ble_eq_true rfl⟩ ?_ ?_
        · refine go_run 0 (F' := (0, [some (.int p1)], [], h)) rfl ?_
          refine go_run 1 (F' := (1, [some (.int p1)], [.int p1], h)) rfl ?_
          refine go_step rfl rfl ?_
          rw [if_pos q1]
          refine go_run 0 (F' := (14, [some (.int p1)], [], h)) rfl ?_
          refine go_run 1 (F' := (15, [some (.int p1)], [.int 0], h)) rfl ?_
          exact go_end rfl rfl
        refine go_run 0 (F' := (4, [some (.int p1), some (.int p2)], [.int 0], h)) rfl ?_
        refine go_run 1 (F' := (19, [some (.int p1), some (.int p2)], [], h)) rfl ?_
        exact go_end rfl rfl
  refine go_run 0 (F' := (24, [some (.ref 0), some (.int p1), some (.int p2), some (.int p3), some (.ref 177), none], [], (h ++ [.inr (14, [])]))) rfl ?_
  refine go_run 1 (F' := (25, [some (.ref 0), some (.int p1), some (.int p2), some (.int p3), some (.ref 177), none], [.int 1], (h ++ [.inr (14, [])]))) rfl ?_
  exact go_end rfl rfl
set_option maxRecDepth 100000 in
theorem uc_label_2 {X : ie_X} {d : Nat} {h : ie_H} {p1 p2 p3 nl cf cw : Int32} (c0 : h[0]? = some (.inr (0, [.ref 1, .int nl, .int cf, .int cw, .null, .ref 2, .ref 133]))) (q1 : ¬ (p1 < 0)) (q2 : 6 ≤ p1) : Go X (d + 4) 124 (0, ie_en 124 [.ref 0, .int p1, .int p2, .int p3, .ref 177], [], h) (.inl (some (.int 1))) (h ++ [.inr (14, [])]) := by
  refine go_run 0 (F' := (0, [some (.ref 0), some (.int p1), some (.int p2), some (.int p3), some (.ref 177), none], [], h)) rfl ?_
  refine go_run 6 (F' := (7, [some (.ref 0), some (.int p1), some (.int p2), some (.int p3), some (.ref 177), none], [.int p3, .int p2, .int p1, .ref 0, .int 0, .ref 177], h)) rfl ?_
  refine go_catch (m' := 125) (ci := 14) (h1 := (h ++ [.inr (14, [])])) rfl (by simp only [ie_step, ie_iv, List.drop, c0, if_true]; rfl) ⟨rfl, Nat.le_of_ble_eq_true rfl⟩ rfl rfl rfl ?_ ?_
  · refine go_run 0 (F' := (0, [some (.ref 0), some (.int p1), some (.int p2), some (.int p3)], [], h)) rfl ?_
    refine go_run 4 (F' := (4, [some (.ref 0), some (.int p1), some (.int p2), some (.int p3)], [.int p3, .int p2, .int p1, .ref 0], h)) rfl ?_
    refine go_out (m' := 123) rfl (by simp only [ie_step, ie_iv, List.drop, c0, if_true]; rfl) ⟨rfl, Nat.le_of_ble_eq_true rfl⟩ rfl rfl ?_
    · refine go_run 0 (F' := (0, [some (.ref 0), some (.int p1), some (.int p2), some (.int p3)], [], h)) rfl ?_
      refine go_run 2 (F' := (2, [some (.ref 0), some (.int p1), some (.int p2), some (.int p3)], [.int p2, .int p1], h)) rfl ?_
      refine go_out (m' := 120) rfl rfl ⟨rfl, Nat.le_of_ble_eq_true rfl⟩ rfl rfl ?_
      · refine go_run 0 (F' := (0, [some (.int p1), some (.int p2)], [], h)) rfl ?_
        refine go_run 1 (F' := (1, [some (.int p1), some (.int p2)], [.int p1], h)) rfl ?_
        refine go_call (m' := 33) (v := some (.int 0)) (h1 := h) rfl rfl ⟨rfl, Nat.le_of_ble_eq_true rfl⟩ ?_ ?_
        · refine go_run 0 (F' := (0, [some (.int p1)], [], h)) rfl ?_
          refine go_run 1 (F' := (1, [some (.int p1)], [.int p1], h)) rfl ?_
          refine go_step rfl rfl ?_
          rw [if_neg q1]
          refine go_run 0 (F' := (4, [some (.int p1)], [], h)) rfl ?_
          refine go_run 2 (F' := (7, [some (.int p1)], [.int 6, .int p1], h)) rfl ?_
          refine go_step rfl rfl ?_
          rw [if_pos q2]
          refine go_run 0 (F' := (14, [some (.int p1)], [], h)) rfl ?_
          refine go_run 1 (F' := (15, [some (.int p1)], [.int 0], h)) rfl ?_
          exact go_end rfl rfl
        refine go_run 0 (F' := (4, [some (.int p1), some (.int p2)], [.int 0], h)) rfl ?_
        refine go_run 1 (F' := (19, [some (.int p1), some (.int p2)], [], h)) rfl ?_
        exact go_end rfl rfl
  refine go_run 0 (F' := (24, [some (.ref 0), some (.int p1), some (.int p2), some (.int p3), some (.ref 177), none], [], (h ++ [.inr (14, [])]))) rfl ?_
  refine go_run 1 (F' := (25, [some (.ref 0), some (.int p1), some (.int p2), some (.int p3), some (.ref 177), none], [.int 1], (h ++ [.inr (14, [])]))) rfl ?_
  exact go_end rfl rfl
set_option maxRecDepth 100000 in
theorem uc_label_3 {X : ie_X} {d : Nat} {h : ie_H} {p1 p2 p3 nl cf cw : Int32} (c0 : h[0]? = some (.inr (0, [.ref 1, .int nl, .int cf, .int cw, .null, .ref 2, .ref 133]))) (q1 : ¬ (p1 < 0)) (q2 : ¬ (6 ≤ p1)) (q3 : p2 < 0) : Go X (d + 4) 124 (0, ie_en 124 [.ref 0, .int p1, .int p2, .int p3, .ref 177], [], h) (.inl (some (.int 1))) (h ++ [.inr (14, [])]) := by
  refine go_run 0 (F' := (0, [some (.ref 0), some (.int p1), some (.int p2), some (.int p3), some (.ref 177), none], [], h)) rfl ?_
  refine go_run 6 (F' := (7, [some (.ref 0), some (.int p1), some (.int p2), some (.int p3), some (.ref 177), none], [.int p3, .int p2, .int p1, .ref 0, .int 0, .ref 177], h)) rfl ?_
  refine go_catch (m' := 125) (ci := 14) (h1 := (h ++ [.inr (14, [])])) rfl (by simp only [ie_step, ie_iv, List.drop, c0, if_true]; rfl) ⟨rfl, Nat.le_of_ble_eq_true rfl⟩ rfl rfl rfl ?_ ?_
  · refine go_run 0 (F' := (0, [some (.ref 0), some (.int p1), some (.int p2), some (.int p3)], [], h)) rfl ?_
    refine go_run 4 (F' := (4, [some (.ref 0), some (.int p1), some (.int p2), some (.int p3)], [.int p3, .int p2, .int p1, .ref 0], h)) rfl ?_
    refine go_out (m' := 123) rfl (by simp only [ie_step, ie_iv, List.drop, c0, if_true]; rfl) ⟨rfl, Nat.le_of_ble_eq_true rfl⟩ rfl rfl ?_
    · refine go_run 0 (F' := (0, [some (.ref 0), some (.int p1), some (.int p2), some (.int p3)], [], h)) rfl ?_
      refine go_run 2 (F' := (2, [some (.ref 0), some (.int p1), some (.int p2), some (.int p3)], [.int p2, .int p1], h)) rfl ?_
      refine go_out (m' := 120) rfl rfl ⟨rfl, Nat.le_of_ble_eq_true rfl⟩ rfl rfl ?_
      · refine go_run 0 (F' := (0, [some (.int p1), some (.int p2)], [], h)) rfl ?_
        refine go_run 1 (F' := (1, [some (.int p1), some (.int p2)], [.int p1], h)) rfl ?_
        refine go_call (m' := 33) (v := some (.int 1)) (h1 := h) rfl rfl ⟨rfl, Nat.le_of_ble_eq_true rfl⟩ ?_ ?_
        · refine go_run 0 (F' := (0, [some (.int p1)], [], h)) rfl ?_
          refine go_run 1 (F' := (1, [some (.int p1)], [.int p1], h)) rfl ?_
          refine go_step rfl rfl ?_
          rw [if_neg q1]
          refine go_run 0 (F' := (4, [some (.int p1)], [], h)) rfl ?_
          refine go_run 2 (F' := (7, [some (.int p1)], [.int 6, .int p1], h)) rfl ?_
          refine go_step rfl rfl ?_
          rw [if_neg q2]
          refine go_run 0 (F' := (10, [some (.int p1)], [], h)) rfl ?_
          refine go_run 2 (F' := (15, [some (.int p1)], [.int 1], h)) rfl ?_
          exact go_end rfl rfl
        refine go_run 0 (F' := (4, [some (.int p1), some (.int p2)], [.int 1], h)) rfl ?_
        refine go_run 2 (F' := (8, [some (.int p1), some (.int p2)], [.int p2], h)) rfl ?_
        refine go_call (m' := 33) (v := some (.int 0)) (h1 := h) rfl rfl ⟨rfl, Nat.le_of_ble_eq_true rfl⟩ ?_ ?_
        · refine go_run 0 (F' := (0, [some (.int p2)], [], h)) rfl ?_
          refine go_run 1 (F' := (1, [some (.int p2)], [.int p2], h)) rfl ?_
          refine go_step rfl rfl ?_
          rw [if_pos q3]
          refine go_run 0 (F' := (14, [some (.int p2)], [], h)) rfl ?_
          refine go_run 1 (F' := (15, [some (.int p2)], [.int 0], h)) rfl ?_
          exact go_end rfl rfl
        refine go_run 0 (F' := (11, [some (.int p1), some (.int p2)], [.int 0], h)) rfl ?_
        refine go_run 1 (F' := (19, [some (.int p1), some (.int p2)], [], h)) rfl ?_
        exact go_end rfl rfl
  refine go_run 0 (F' := (24, [some (.ref 0), some (.int p1), some (.int p2), some (.int p3), some (.ref 177), none], [], (h ++ [.inr (14, [])]))) rfl ?_
  refine go_run 1 (F' := (25, [some (.ref 0), some (.int p1), some (.int p2), some (.int p3), some (.ref 177), none], [.int 1], (h ++ [.inr (14, [])]))) rfl ?_
  exact go_end rfl rfl
set_option maxRecDepth 100000 in
theorem uc_label_4 {X : ie_X} {d : Nat} {h : ie_H} {p1 p2 p3 nl cf cw : Int32} (c0 : h[0]? = some (.inr (0, [.ref 1, .int nl, .int cf, .int cw, .null, .ref 2, .ref 133]))) (q1 : ¬ (p1 < 0)) (q2 : ¬ (6 ≤ p1)) (q3 : ¬ (p2 < 0)) (q4 : 6 ≤ p2) : Go X (d + 4) 124 (0, ie_en 124 [.ref 0, .int p1, .int p2, .int p3, .ref 177], [], h) (.inl (some (.int 1))) (h ++ [.inr (14, [])]) := by
  refine go_run 0 (F' := (0, [some (.ref 0), some (.int p1), some (.int p2), some (.int p3), some (.ref 177), none], [], h)) rfl ?_
  refine go_run 6 (F' := (7, [some (.ref 0), some (.int p1), some (.int p2), some (.int p3), some (.ref 177), none], [.int p3, .int p2, .int p1, .ref 0, .int 0, .ref 177], h)) rfl ?_
  refine go_catch (m' := 125) (ci := 14) (h1 := (h ++ [.inr (14, [])])) rfl (by simp only [ie_step, ie_iv, List.drop, c0, if_true]; rfl) ⟨rfl, Nat.le_of_ble_eq_true rfl⟩ rfl rfl rfl ?_ ?_
  · refine go_run 0 (F' := (0, [some (.ref 0), some (.int p1), some (.int p2), some (.int p3)], [], h)) rfl ?_
    refine go_run 4 (F' := (4, [some (.ref 0), some (.int p1), some (.int p2), some (.int p3)], [.int p3, .int p2, .int p1, .ref 0], h)) rfl ?_
    refine go_out (m' := 123) rfl (by simp only [ie_step, ie_iv, List.drop, c0, if_true]; rfl) ⟨rfl, Nat.le_of_ble_eq_true rfl⟩ rfl rfl ?_
    · refine go_run 0 (F' := (0, [some (.ref 0), some (.int p1), some (.int p2), some (.int p3)], [], h)) rfl ?_
      refine go_run 2 (F' := (2, [some (.ref 0), some (.int p1), some (.int p2), some (.int p3)], [.int p2, .int p1], h)) rfl ?_
      refine go_out (m' := 120) rfl rfl ⟨rfl, Nat.le_of_ble_eq_true rfl⟩ rfl rfl ?_
      · refine go_run 0 (F' := (0, [some (.int p1), some (.int p2)], [], h)) rfl ?_
        refine go_run 1 (F' := (1, [some (.int p1), some (.int p2)], [.int p1], h)) rfl ?_
        refine go_call (m' := 33) (v := some (.int 1)) (h1 := h) rfl rfl ⟨rfl, Nat.le_of_ble_eq_true rfl⟩ ?_ ?_
        · refine go_run 0 (F' := (0, [some (.int p1)], [], h)) rfl ?_
          refine go_run 1 (F' := (1, [some (.int p1)], [.int p1], h)) rfl ?_
          refine go_step rfl rfl ?_
          rw [if_neg q1]
          refine go_run 0 (F' := (4, [some (.int p1)], [], h)) rfl ?_
          refine go_run 2 (F' := (7, [some (.int p1)], [.int 6, .int p1], h)) rfl ?_
          refine go_step rfl rfl ?_
          rw [if_neg q2]
          refine go_run 0 (F' := (10, [some (.int p1)], [], h)) rfl ?_
          refine go_run 2 (F' := (15, [some (.int p1)], [.int 1], h)) rfl ?_
          exact go_end rfl rfl
        refine go_run 0 (F' := (4, [some (.int p1), some (.int p2)], [.int 1], h)) rfl ?_
        refine go_run 2 (F' := (8, [some (.int p1), some (.int p2)], [.int p2], h)) rfl ?_
        refine go_call (m' := 33) (v := some (.int 0)) (h1 := h) rfl rfl ⟨rfl, Nat.le_of_ble_eq_true rfl⟩ ?_ ?_
        · refine go_run 0 (F' := (0, [some (.int p2)], [], h)) rfl ?_
          refine go_run 1 (F' := (1, [some (.int p2)], [.int p2], h)) rfl ?_
          refine go_step rfl rfl ?_
          rw [if_neg q3]
          refine go_run 0 (F' := (4, [some (.int p2)], [], h)) rfl ?_
          refine go_run 2 (F' := (7, [some (.int p2)], [.int 6, .int p2], h)) rfl ?_
          refine go_step rfl rfl ?_
          rw [if_pos q4]
          refine go_run 0 (F' := (14, [some (.int p2)], [], h)) rfl ?_
          refine go_run 1 (F' := (15, [some (.int p2)], [.int 0], h)) rfl ?_
          exact go_end rfl rfl
        refine go_run 0 (F' := (11, [some (.int p1), some (.int p2)], [.int 0], h)) rfl ?_
        refine go_run 1 (F' := (19, [some (.int p1), some (.int p2)], [], h)) rfl ?_
        exact go_end rfl rfl
  refine go_run 0 (F' := (24, [some (.ref 0), some (.int p1), some (.int p2), some (.int p3), some (.ref 177), none], [], (h ++ [.inr (14, [])]))) rfl ?_
  refine go_run 1 (F' := (25, [some (.ref 0), some (.int p1), some (.int p2), some (.int p3), some (.ref 177), none], [.int 1], (h ++ [.inr (14, [])]))) rfl ?_
  exact go_end rfl rfl
set_option maxRecDepth 100000 in
theorem uc_label_5 {X : ie_X} {d : Nat} {h : ie_H} {p1 p2 p3 nl cf cw : Int32} (c0 : h[0]? = some (.inr (0, [.ref 1, .int nl, .int cf, .int cw, .null, .ref 2, .ref 133]))) (q1 : ¬ (p1 < 0)) (q2 : ¬ (6 ≤ p1)) (q3 : ¬ (p2 < 0)) (q4 : ¬ (6 ≤ p2)) (q5 : p1 = p2) : Go X (d + 4) 124 (0, ie_en 124 [.ref 0, .int p1, .int p2, .int p3, .ref 177], [], h) (.inl (some (.int 1))) (h ++ [.inr (14, [])]) := by
  refine go_run 0 (F' := (0, [some (.ref 0), some (.int p1), some (.int p2), some (.int p3), some (.ref 177), none], [], h)) rfl ?_
  refine go_run 6 (F' := (7, [some (.ref 0), some (.int p1), some (.int p2), some (.int p3), some (.ref 177), none], [.int p3, .int p2, .int p1, .ref 0, .int 0, .ref 177], h)) rfl ?_
  refine go_catch (m' := 125) (ci := 14) (h1 := (h ++ [.inr (14, [])])) rfl (by simp only [ie_step, ie_iv, List.drop, c0, if_true]; rfl) ⟨rfl, Nat.le_of_ble_eq_true rfl⟩ rfl rfl rfl ?_ ?_
  · refine go_run 0 (F' := (0, [some (.ref 0), some (.int p1), some (.int p2), some (.int p3)], [], h)) rfl ?_
    refine go_run 4 (F' := (4, [some (.ref 0), some (.int p1), some (.int p2), some (.int p3)], [.int p3, .int p2, .int p1, .ref 0], h)) rfl ?_
    refine go_out (m' := 123) rfl (by simp only [ie_step, ie_iv, List.drop, c0, if_true]; rfl) ⟨rfl, Nat.le_of_ble_eq_true rfl⟩ rfl rfl ?_
    · refine go_run 0 (F' := (0, [some (.ref 0), some (.int p1), some (.int p2), some (.int p3)], [], h)) rfl ?_
      refine go_run 2 (F' := (2, [some (.ref 0), some (.int p1), some (.int p2), some (.int p3)], [.int p2, .int p1], h)) rfl ?_
      refine go_out (m' := 120) rfl rfl ⟨rfl, Nat.le_of_ble_eq_true rfl⟩ rfl rfl ?_
      · refine go_run 0 (F' := (0, [some (.int p1), some (.int p2)], [], h)) rfl ?_
        refine go_run 1 (F' := (1, [some (.int p1), some (.int p2)], [.int p1], h)) rfl ?_
        refine go_call (m' := 33) (v := some (.int 1)) (h1 := h) rfl rfl ⟨rfl, Nat.le_of_ble_eq_true rfl⟩ ?_ ?_
        · refine go_run 0 (F' := (0, [some (.int p1)], [], h)) rfl ?_
          refine go_run 1 (F' := (1, [some (.int p1)], [.int p1], h)) rfl ?_
          refine go_step rfl rfl ?_
          rw [if_neg q1]
          refine go_run 0 (F' := (4, [some (.int p1)], [], h)) rfl ?_
          refine go_run 2 (F' := (7, [some (.int p1)], [.int 6, .int p1], h)) rfl ?_
          refine go_step rfl rfl ?_
          rw [if_neg q2]
          refine go_run 0 (F' := (10, [some (.int p1)], [], h)) rfl ?_
          refine go_run 2 (F' := (15, [some (.int p1)], [.int 1], h)) rfl ?_
          exact go_end rfl rfl
        refine go_run 0 (F' := (4, [some (.int p1), some (.int p2)], [.int 1], h)) rfl ?_
        refine go_run 2 (F' := (8, [some (.int p1), some (.int p2)], [.int p2], h)) rfl ?_
        refine go_call (m' := 33) (v := some (.int 1)) (h1 := h) rfl rfl ⟨rfl, Nat.le_of_ble_eq_true rfl⟩ ?_ ?_
        · refine go_run 0 (F' := (0, [some (.int p2)], [], h)) rfl ?_
          refine go_run 1 (F' := (1, [some (.int p2)], [.int p2], h)) rfl ?_
          refine go_step rfl rfl ?_
          rw [if_neg q3]
          refine go_run 0 (F' := (4, [some (.int p2)], [], h)) rfl ?_
          refine go_run 2 (F' := (7, [some (.int p2)], [.int 6, .int p2], h)) rfl ?_
          refine go_step rfl rfl ?_
          rw [if_neg q4]
          refine go_run 0 (F' := (10, [some (.int p2)], [], h)) rfl ?_
          refine go_run 2 (F' := (15, [some (.int p2)], [.int 1], h)) rfl ?_
          exact go_end rfl rfl
        refine go_run 0 (F' := (11, [some (.int p1), some (.int p2)], [.int 1], h)) rfl ?_
        refine go_run 3 (F' := (16, [some (.int p1), some (.int p2)], [.int p2, .int p1], h)) rfl ?_
        refine go_step rfl rfl ?_
        rw [if_pos q5]
        refine go_run 0 (F' := (19, [some (.int p1), some (.int p2)], [], h)) rfl ?_
        exact go_end rfl rfl
  refine go_run 0 (F' := (24, [some (.ref 0), some (.int p1), some (.int p2), some (.int p3), some (.ref 177), none], [], (h ++ [.inr (14, [])]))) rfl ?_
  refine go_run 1 (F' := (25, [some (.ref 0), some (.int p1), some (.int p2), some (.int p3), some (.ref 177), none], [.int 1], (h ++ [.inr (14, [])]))) rfl ?_
  exact go_end rfl rfl
set_option maxRecDepth 100000 in
theorem uc_label_6 {X : ie_X} {d : Nat} {h : ie_H} {p1 p2 p3 nl cf cw : Int32} (c0 : h[0]? = some (.inr (0, [.ref 1, .int nl, .int cf, .int cw, .null, .ref 2, .ref 133]))) (q1 : ¬ (p1 < 0)) (q2 : ¬ (6 ≤ p1)) (q3 : ¬ (p2 < 0)) (q4 : ¬ (6 ≤ p2)) (q5 : ¬ (p1 = p2)) (q6 : p3 < 0) : Go X (d + 4) 124 (0, ie_en 124 [.ref 0, .int p1, .int p2, .int p3, .ref 177], [], h) (.inl (some (.int 2))) (h ++ [.inr (15, [])]) := by
  refine go_run 0 (F' := (0, [some (.ref 0), some (.int p1), some (.int p2), some (.int p3), some (.ref 177), none], [], h)) rfl ?_
  refine go_run 6 (F' := (7, [some (.ref 0), some (.int p1), some (.int p2), some (.int p3), some (.ref 177), none], [.int p3, .int p2, .int p1, .ref 0, .int 0, .ref 177], h)) rfl ?_
  refine go_catch (m' := 125) (ci := 15) (h1 := (h ++ [.inr (15, [])])) rfl (by simp only [ie_step, ie_iv, List.drop, c0, if_true]; rfl) ⟨rfl, Nat.le_of_ble_eq_true rfl⟩ rfl rfl rfl ?_ ?_
  · refine go_run 0 (F' := (0, [some (.ref 0), some (.int p1), some (.int p2), some (.int p3)], [], h)) rfl ?_
    refine go_run 4 (F' := (4, [some (.ref 0), some (.int p1), some (.int p2), some (.int p3)], [.int p3, .int p2, .int p1, .ref 0], h)) rfl ?_
    refine go_out (m' := 123) rfl (by simp only [ie_step, ie_iv, List.drop, c0, if_true]; rfl) ⟨rfl, Nat.le_of_ble_eq_true rfl⟩ rfl rfl ?_
    · refine go_run 0 (F' := (0, [some (.ref 0), some (.int p1), some (.int p2), some (.int p3)], [], h)) rfl ?_
      refine go_run 2 (F' := (2, [some (.ref 0), some (.int p1), some (.int p2), some (.int p3)], [.int p2, .int p1], h)) rfl ?_
      refine go_call (m' := 120) (v := none) (h1 := h) rfl rfl ⟨rfl, Nat.le_of_ble_eq_true rfl⟩ ?_ ?_
      · refine go_run 0 (F' := (0, [some (.int p1), some (.int p2)], [], h)) rfl ?_
        refine go_run 1 (F' := (1, [some (.int p1), some (.int p2)], [.int p1], h)) rfl ?_
        refine go_call (m' := 33) (v := some (.int 1)) (h1 := h) rfl rfl ⟨rfl, Nat.le_of_ble_eq_true rfl⟩ ?_ ?_
        · refine go_run 0 (F' := (0, [some (.int p1)], [], h)) rfl ?_
          refine go_run 1 (F' := (1, [some (.int p1)], [.int p1], h)) rfl ?_
          refine go_step rfl rfl ?_
          rw [if_neg q1]
          refine go_run 0 (F' := (4, [some (.int p1)], [], h)) rfl ?_
          refine go_run 2 (F' := (7, [some (.int p1)], [.int 6, .int p1], h)) rfl ?_
          refine go_step rfl rfl ?_
          rw [if_neg q2]
          refine go_run 0 (F' := (10, [some (.int p1)], [], h)) rfl ?_
          refine go_run 2 (F' := (15, [some (.int p1)], [.int 1], h)) rfl ?_
          exact go_end rfl rfl
        refine go_run 0 (F' := (4, [some (.int p1), some (.int p2)], [.int 1], h)) rfl ?_
        refine go_run 2 (F' := (8, [some (.int p1), some (.int p2)], [.int p2], h)) rfl ?_
        refine go_call (m' := 33) (v := some (.int 1)) (h1 := h) rfl rfl ⟨rfl, Nat.le_of_ble_eq_true rfl⟩ ?_ ?_
        · refine go_run 0 (F' := (0, [some (.int p2)], [], h)) rfl ?_
          refine go_run 1 (F' := (1, [some (.int p2)], [.int p2], h)) rfl ?_
          refine go_step rfl rfl ?_
          rw [if_neg q3]
          refine go_run 0 (F' := (4, [some (.int p2)], [], h)) rfl ?_
          refine go_run 2 (F' := (7, [some (.int p2)], [.int 6, .int p2], h)) rfl ?_
          refine go_step rfl rfl ?_
          rw [if_neg q4]
          refine go_run 0 (F' := (10, [some (.int p2)], [], h)) rfl ?_
          refine go_run 2 (F' := (15, [some (.int p2)], [.int 1], h)) rfl ?_
          exact go_end rfl rfl
        refine go_run 0 (F' := (11, [some (.int p1), some (.int p2)], [.int 1], h)) rfl ?_
        refine go_run 3 (F' := (16, [some (.int p1), some (.int p2)], [.int p2, .int p1], h)) rfl ?_
        refine go_step rfl rfl ?_
        rw [if_neg q5]
        refine go_run 0 (F' := (27, [some (.int p1), some (.int p2)], [], h)) rfl ?_
        exact go_end rfl rfl
      refine go_run 0 (F' := (5, [some (.ref 0), some (.int p1), some (.int p2), some (.int p3)], [], h)) rfl ?_
      refine go_run 1 (F' := (6, [some (.ref 0), some (.int p1), some (.int p2), some (.int p3)], [.int p3], h)) rfl ?_
      refine go_step rfl rfl ?_
      rw [if_pos q6]
      refine go_run 0 (F' := (25, [some (.ref 0), some (.int p1), some (.int p2), some (.int p3)], [], h)) rfl ?_
      exact go_end rfl rfl
  refine go_run 0 (F' := (28, [some (.ref 0), some (.int p1), some (.int p2), some (.int p3), some (.ref 177), none], [], (h ++ [.inr (15, [])]))) rfl ?_
  refine go_run 1 (F' := (29, [some (.ref 0), some (.int p1), some (.int p2), some (.int p3), some (.ref 177), none], [.int 2], (h ++ [.inr (15, [])]))) rfl ?_
  exact go_end rfl rfl
set_option maxRecDepth 100000 in
theorem uc_label_7 {X : ie_X} {d : Nat} {h : ie_H} {p1 p2 p3 nl cf cw crm csp v4 v5 : Int32} {a1 : Nat} {z2 z3 : Value} (c0 : h[0]? = some (.inr (0, [.ref 1, .int nl, .int cf, .int cw, .null, .ref 2, .ref 133]))) (c2 : h[2]? = some (.inr (8, [.ref 3, .ref 4, .ref 5, .ref 6, .int crm, .int csp]))) (c4 : h[4]? = some (.inl (5, 36, .inr (.inr (.inr (.inr rf_4)))))) (c_a1 : h[a1]? = some (.inr (6, [z2, z3, .int v4, .int v5]))) (q1 : ¬ (p1 < 0)) (q2 : ¬ (6 ≤ p1)) (q3 : ¬ (p2 < 0)) (q4 : ¬ (6 ≤ p2)) (q5 : ¬ (p1 = p2)) (q6 : ¬ (p3 < 0)) (b_6 : 0 ≤ Int32.toInt ((p1 * 6) + p2) ∧ Int32.toInt ((p1 * 6) + p2) < (36 : Int)) (r_7 : rf_4 (Int32.toNatClampNeg ((p1 * 6) + p2)) = some a1) (q7 : ¬ (p3 < v5)) : Go X (d + 4) 124 (0, ie_en 124 [.ref 0, .int p1, .int p2, .int p3, .ref 177], [], h) (.inl (some (.int 2))) (h ++ [.inr (15, [])]) := by
  refine go_run 0 (F' := (0, [some (.ref 0), some (.int p1), some (.int p2), some (.int p3), some (.ref 177), none], [], h)) rfl ?_
  refine go_run 6 (F' := (7, [some (.ref 0), some (.int p1), some (.int p2), some (.int p3), some (.ref 177), none], [.int p3, .int p2, .int p1, .ref 0, .int 0, .ref 177], h)) rfl ?_
  refine go_catch (m' := 125) (ci := 15) (h1 := (h ++ [.inr (15, [])])) rfl (by simp only [ie_step, ie_iv, List.drop, c0, if_true]; rfl) ⟨rfl, Nat.le_of_ble_eq_true rfl⟩ rfl rfl rfl ?_ ?_
  · refine go_run 0 (F' := (0, [some (.ref 0), some (.int p1), some (.int p2), some (.int p3)], [], h)) rfl ?_
    refine go_run 4 (F' := (4, [some (.ref 0), some (.int p1), some (.int p2), some (.int p3)], [.int p3, .int p2, .int p1, .ref 0], h)) rfl ?_
    refine go_out (m' := 123) rfl (by simp only [ie_step, ie_iv, List.drop, c0, if_true]; rfl) ⟨rfl, Nat.le_of_ble_eq_true rfl⟩ rfl rfl ?_
    · refine go_run 0 (F' := (0, [some (.ref 0), some (.int p1), some (.int p2), some (.int p3)], [], h)) rfl ?_
      refine go_run 2 (F' := (2, [some (.ref 0), some (.int p1), some (.int p2), some (.int p3)], [.int p2, .int p1], h)) rfl ?_
      refine go_call (m' := 120) (v := none) (h1 := h) rfl rfl ⟨rfl, Nat.le_of_ble_eq_true rfl⟩ ?_ ?_
      · refine go_run 0 (F' := (0, [some (.int p1), some (.int p2)], [], h)) rfl ?_
        refine go_run 1 (F' := (1, [some (.int p1), some (.int p2)], [.int p1], h)) rfl ?_
        refine go_call (m' := 33) (v := some (.int 1)) (h1 := h) rfl rfl ⟨rfl, Nat.le_of_ble_eq_true rfl⟩ ?_ ?_
        · refine go_run 0 (F' := (0, [some (.int p1)], [], h)) rfl ?_
          refine go_run 1 (F' := (1, [some (.int p1)], [.int p1], h)) rfl ?_
          refine go_step rfl rfl ?_
          rw [if_neg q1]
          refine go_run 0 (F' := (4, [some (.int p1)], [], h)) rfl ?_
          refine go_run 2 (F' := (7, [some (.int p1)], [.int 6, .int p1], h)) rfl ?_
          refine go_step rfl rfl ?_
          rw [if_neg q2]
          refine go_run 0 (F' := (10, [some (.int p1)], [], h)) rfl ?_
          refine go_run 2 (F' := (15, [some (.int p1)], [.int 1], h)) rfl ?_
          exact go_end rfl rfl
        refine go_run 0 (F' := (4, [some (.int p1), some (.int p2)], [.int 1], h)) rfl ?_
        refine go_run 2 (F' := (8, [some (.int p1), some (.int p2)], [.int p2], h)) rfl ?_
        refine go_call (m' := 33) (v := some (.int 1)) (h1 := h) rfl rfl ⟨rfl, Nat.le_of_ble_eq_true rfl⟩ ?_ ?_
        · refine go_run 0 (F' := (0, [some (.int p2)], [], h)) rfl ?_
          refine go_run 1 (F' := (1, [some (.int p2)], [.int p2], h)) rfl ?_
          refine go_step rfl rfl ?_
          rw [if_neg q3]
          refine go_run 0 (F' := (4, [some (.int p2)], [], h)) rfl ?_
          refine go_run 2 (F' := (7, [some (.int p2)], [.int 6, .int p2], h)) rfl ?_
          refine go_step rfl rfl ?_
          rw [if_neg q4]
          refine go_run 0 (F' := (10, [some (.int p2)], [], h)) rfl ?_
          refine go_run 2 (F' := (15, [some (.int p2)], [.int 1], h)) rfl ?_
          exact go_end rfl rfl
        refine go_run 0 (F' := (11, [some (.int p1), some (.int p2)], [.int 1], h)) rfl ?_
        refine go_run 3 (F' := (16, [some (.int p1), some (.int p2)], [.int p2, .int p1], h)) rfl ?_
        refine go_step rfl rfl ?_
        rw [if_neg q5]
        refine go_run 0 (F' := (27, [some (.int p1), some (.int p2)], [], h)) rfl ?_
        exact go_end rfl rfl
      refine go_run 0 (F' := (5, [some (.ref 0), some (.int p1), some (.int p2), some (.int p3)], [], h)) rfl ?_
      refine go_run 1 (F' := (6, [some (.ref 0), some (.int p1), some (.int p2), some (.int p3)], [.int p3], h)) rfl ?_
      refine go_step rfl rfl ?_
      rw [if_neg q6]
      refine go_run 0 (F' := (9, [some (.ref 0), some (.int p1), some (.int p2), some (.int p3)], [], h)) rfl ?_
      refine go_run 2 (F' := (11, [some (.ref 0), some (.int p1), some (.int p2), some (.int p3)], [.ref 0, .int p3], h)) rfl ?_
      refine go_gf rfl c0 rfl ?_
      refine go_run 0 (F' := (14, [some (.ref 0), some (.int p1), some (.int p2), some (.int p3)], [.ref 2, .int p3], h)) rfl ?_
      refine go_run 2 (F' := (16, [some (.ref 0), some (.int p1), some (.int p2), some (.int p3)], [.int p2, .int p1, .ref 2, .int p3], h)) rfl ?_
      refine go_call (m' := 104) (v := some (.ref a1)) (h1 := h) rfl (by simp only [ie_step, ie_iv, List.drop, c2, if_true]; rfl) ⟨rfl, Nat.le_of_ble_eq_true rfl⟩ ?_ ?_
      · refine go_run 0 (F' := (0, [some (.ref 2), some (.int p1), some (.int p2)], [], h)) rfl ?_
        refine go_run 1 (F' := (1, [some (.ref 2), some (.int p1), some (.int p2)], [.ref 2], h)) rfl ?_
        refine go_gf rfl c2 rfl ?_
        refine go_run 0 (F' := (4, [some (.ref 2), some (.int p1), some (.int p2)], [.ref 4], h)) rfl ?_
        refine go_run 5 (F' := (10, [some (.ref 2), some (.int p1), some (.int p2)], [.int ((p1 * 6) + p2), .ref 4], h)) rfl ?_
        refine go_aald rfl c4 (by decide) b_6 r_7 ?_
        refine go_run 0 (F' := (11, [some (.ref 2), some (.int p1), some (.int p2)], [.ref a1], h)) rfl ?_
        exact go_end rfl rfl
      refine go_run 0 (F' := (19, [some (.ref 0), some (.int p1), some (.int p2), some (.int p3)], [.ref a1, .int p3], h)) rfl ?_
      refine go_gf rfl c_a1 rfl ?_
      refine go_run 0 (F' := (22, [some (.ref 0), some (.int p1), some (.int p2), some (.int p3)], [.int v5, .int p3], h)) rfl ?_
      refine go_step rfl rfl ?_
      rw [if_neg q7]
      refine go_run 0 (F' := (25, [some (.ref 0), some (.int p1), some (.int p2), some (.int p3)], [], h)) rfl ?_
      exact go_end rfl rfl
  refine go_run 0 (F' := (28, [some (.ref 0), some (.int p1), some (.int p2), some (.int p3), some (.ref 177), none], [], (h ++ [.inr (15, [])]))) rfl ?_
  refine go_run 1 (F' := (29, [some (.ref 0), some (.int p1), some (.int p2), some (.int p3), some (.ref 177), none], [.int 2], (h ++ [.inr (15, [])]))) rfl ?_
  exact go_end rfl rfl
set_option maxRecDepth 100000 in
theorem um_label_1 {X : ie_X} {d : Nat} {h : ie_H} {p1 p2 p3 t_ ty fa wh ch it at_ bad co de st sz tp am bm mn rm sp be wo : Int32} (c134 : h[134]? = some (mo t_ ty fa wh ch it at_ bad co de 0 st sz tp am bm mn rm sp be wo)) (q1 : p1 < 0) : Go X (d + 3) 216 (0, ie_en 216 [.ref 134, .int p1, .int p2, .int p3], [], h) (.inl (some (.int 0))) (List.set h 134 (mo 1 ty fa wh ch it at_ bad co de 0 st sz tp am bm mn rm sp be wo)) := by
  refine go_run 0 (F' := (0, [some (.ref 134), some (.int p1), some (.int p2), some (.int p3)], [], h)) rfl ?_
  refine go_run 5 (F' := (5, [some (.ref 134), some (.int p1), some (.int p2), some (.int p3)], [.int p3, .int p2, .int p1, .ref 134, .ref 134], h)) rfl ?_
  refine go_call (m' := 215) (v := some (.int 1)) (h1 := h) rfl (by simp only [ie_step, ie_iv, List.drop, c134, mo, if_true]; rfl) ⟨rfl, Nat.le_of_ble_eq_true rfl⟩ ?_ ?_
  · refine go_run 0 (F' := (0, [some (.ref 134), some (.int p1), some (.int p2), some (.int p3)], [], h)) rfl ?_
    refine go_run 2 (F' := (2, [some (.ref 134), some (.int p1), some (.int p2), some (.int p3)], [.int p2, .int p1], h)) rfl ?_
    refine go_call (m' := 213) (v := some (.int 1)) (h1 := h) rfl rfl ⟨rfl, Nat.le_of_ble_eq_true rfl⟩ ?_ ?_
    · refine go_run 0 (F' := (0, [some (.int p1), some (.int p2)], [], h)) rfl ?_
      refine go_run 1 (F' := (1, [some (.int p1), some (.int p2)], [.int p1], h)) rfl ?_
      refine go_call (m' := 183) (v := some (.int 1)) (h1 := h) rfl rfl ⟨rfl, Nat.le_of_ble_eq_true rfl⟩ ?_ ?_
      · refine go_run 0 (F' := (0, [some (.int p1)], [], h)) rfl ?_
        refine go_run 1 (F' := (1, [some (.int p1)], [.int p1], h)) rfl ?_
        refine go_step rfl rfl ?_
        rw [if_pos q1]
        refine go_run 0 (F' := (9, [some (.int p1)], [], h)) rfl ?_
        refine go_run 2 (F' := (14, [some (.int p1)], [.int 1], h)) rfl ?_
        exact go_end rfl rfl
      refine go_run 0 (F' := (4, [some (.int p1), some (.int p2)], [.int 1], h)) rfl ?_
      refine go_run 3 (F' := (24, [some (.int p1), some (.int p2)], [.int 1], h)) rfl ?_
      exact go_end rfl rfl
    refine go_run 0 (F' := (5, [some (.ref 134), some (.int p1), some (.int p2), some (.int p3)], [.int 1], h)) rfl ?_
    refine go_run 3 (F' := (36, [some (.ref 134), some (.int p1), some (.int p2), some (.int p3)], [.int 1], h)) rfl ?_
    exact go_end rfl rfl
  refine go_run 0 (F' := (8, [some (.ref 134), some (.int p1), some (.int p2), some (.int p3)], [.int 1, .ref 134], h)) rfl ?_
  refine go_pf rfl c134 (Nat.le_of_ble_eq_true rfl) rfl rfl ?_
  refine go_run 0 (F' := (11, [some (.ref 134), some (.int p1), some (.int p2), some (.int p3)], [], (List.set h 134 (mo 1 ty fa wh ch it at_ bad co de 0 st sz tp am bm mn rm sp be wo)))) rfl ?_
  refine go_run 1 (F' := (12, [some (.ref 134), some (.int p1), some (.int p2), some (.int p3)], [.ref 134], (List.set h 134 (mo 1 ty fa wh ch it at_ bad co de 0 st sz tp am bm mn rm sp be wo)))) rfl ?_
  refine go_gf rfl (gs_self c134) rfl ?_
  refine go_run 0 (F' := (15, [some (.ref 134), some (.int p1), some (.int p2), some (.int p3)], [.int 1], (List.set h 134 (mo 1 ty fa wh ch it at_ bad co de 0 st sz tp am bm mn rm sp be wo)))) rfl ?_
  refine go_run 2 (F' := (42, [some (.ref 134), some (.int p1), some (.int p2), some (.int p3)], [.int 0], (List.set h 134 (mo 1 ty fa wh ch it at_ bad co de 0 st sz tp am bm mn rm sp be wo)))) rfl ?_
  exact go_end rfl rfl
set_option maxRecDepth 100000 in
theorem um_label_2 {X : ie_X} {d : Nat} {h : ie_H} {p1 p2 p3 t_ ty fa wh ch it at_ bad co de st sz tp am bm mn rm sp be wo : Int32} (c134 : h[134]? = some (mo t_ ty fa wh ch it at_ bad co de 0 st sz tp am bm mn rm sp be wo)) (q1 : ¬ (p1 < 0)) (q2 : ¬ (p1 ≤ 5)) : Go X (d + 3) 216 (0, ie_en 216 [.ref 134, .int p1, .int p2, .int p3], [], h) (.inl (some (.int 0))) (List.set h 134 (mo 1 ty fa wh ch it at_ bad co de 0 st sz tp am bm mn rm sp be wo)) := by
  refine go_run 0 (F' := (0, [some (.ref 134), some (.int p1), some (.int p2), some (.int p3)], [], h)) rfl ?_
  refine go_run 5 (F' := (5, [some (.ref 134), some (.int p1), some (.int p2), some (.int p3)], [.int p3, .int p2, .int p1, .ref 134, .ref 134], h)) rfl ?_
  refine go_call (m' := 215) (v := some (.int 1)) (h1 := h) rfl (by simp only [ie_step, ie_iv, List.drop, c134, mo, if_true]; rfl) ⟨rfl, Nat.le_of_ble_eq_true rfl⟩ ?_ ?_
  · refine go_run 0 (F' := (0, [some (.ref 134), some (.int p1), some (.int p2), some (.int p3)], [], h)) rfl ?_
    refine go_run 2 (F' := (2, [some (.ref 134), some (.int p1), some (.int p2), some (.int p3)], [.int p2, .int p1], h)) rfl ?_
    refine go_call (m' := 213) (v := some (.int 1)) (h1 := h) rfl rfl ⟨rfl, Nat.le_of_ble_eq_true rfl⟩ ?_ ?_
    · refine go_run 0 (F' := (0, [some (.int p1), some (.int p2)], [], h)) rfl ?_
      refine go_run 1 (F' := (1, [some (.int p1), some (.int p2)], [.int p1], h)) rfl ?_
      refine go_call (m' := 183) (v := some (.int 1)) (h1 := h) rfl rfl ⟨rfl, Nat.le_of_ble_eq_true rfl⟩ ?_ ?_
      · refine go_run 0 (F' := (0, [some (.int p1)], [], h)) rfl ?_
        refine go_run 1 (F' := (1, [some (.int p1)], [.int p1], h)) rfl ?_
        refine go_step rfl rfl ?_
        rw [if_neg q1]
        refine go_run 0 (F' := (4, [some (.int p1)], [], h)) rfl ?_
        refine go_run 2 (F' := (6, [some (.int p1)], [.int 5, .int p1], h)) rfl ?_
        refine go_step rfl rfl ?_
        rw [if_neg q2]
        refine go_run 0 (F' := (9, [some (.int p1)], [], h)) rfl ?_
        refine go_run 2 (F' := (14, [some (.int p1)], [.int 1], h)) rfl ?_
        exact go_end rfl rfl
      refine go_run 0 (F' := (4, [some (.int p1), some (.int p2)], [.int 1], h)) rfl ?_
      refine go_run 3 (F' := (24, [some (.int p1), some (.int p2)], [.int 1], h)) rfl ?_
      exact go_end rfl rfl
    refine go_run 0 (F' := (5, [some (.ref 134), some (.int p1), some (.int p2), some (.int p3)], [.int 1], h)) rfl ?_
    refine go_run 3 (F' := (36, [some (.ref 134), some (.int p1), some (.int p2), some (.int p3)], [.int 1], h)) rfl ?_
    exact go_end rfl rfl
  refine go_run 0 (F' := (8, [some (.ref 134), some (.int p1), some (.int p2), some (.int p3)], [.int 1, .ref 134], h)) rfl ?_
  refine go_pf rfl c134 (Nat.le_of_ble_eq_true rfl) rfl rfl ?_
  refine go_run 0 (F' := (11, [some (.ref 134), some (.int p1), some (.int p2), some (.int p3)], [], (List.set h 134 (mo 1 ty fa wh ch it at_ bad co de 0 st sz tp am bm mn rm sp be wo)))) rfl ?_
  refine go_run 1 (F' := (12, [some (.ref 134), some (.int p1), some (.int p2), some (.int p3)], [.ref 134], (List.set h 134 (mo 1 ty fa wh ch it at_ bad co de 0 st sz tp am bm mn rm sp be wo)))) rfl ?_
  refine go_gf rfl (gs_self c134) rfl ?_
  refine go_run 0 (F' := (15, [some (.ref 134), some (.int p1), some (.int p2), some (.int p3)], [.int 1], (List.set h 134 (mo 1 ty fa wh ch it at_ bad co de 0 st sz tp am bm mn rm sp be wo)))) rfl ?_
  refine go_run 2 (F' := (42, [some (.ref 134), some (.int p1), some (.int p2), some (.int p3)], [.int 0], (List.set h 134 (mo 1 ty fa wh ch it at_ bad co de 0 st sz tp am bm mn rm sp be wo)))) rfl ?_
  exact go_end rfl rfl
set_option maxRecDepth 100000 in
theorem um_label_3 {X : ie_X} {d : Nat} {h : ie_H} {p1 p2 p3 t_ ty fa wh ch it at_ bad co de st sz tp am bm mn rm sp be wo : Int32} (c134 : h[134]? = some (mo t_ ty fa wh ch it at_ bad co de 0 st sz tp am bm mn rm sp be wo)) (q1 : ¬ (p1 < 0)) (q2 : p1 ≤ 5) (q3 : p2 < 0) : Go X (d + 3) 216 (0, ie_en 216 [.ref 134, .int p1, .int p2, .int p3], [], h) (.inl (some (.int 0))) (List.set h 134 (mo 1 ty fa wh ch it at_ bad co de 0 st sz tp am bm mn rm sp be wo)) := by
  refine go_run 0 (F' := (0, [some (.ref 134), some (.int p1), some (.int p2), some (.int p3)], [], h)) rfl ?_
  refine go_run 5 (F' := (5, [some (.ref 134), some (.int p1), some (.int p2), some (.int p3)], [.int p3, .int p2, .int p1, .ref 134, .ref 134], h)) rfl ?_
  refine go_call (m' := 215) (v := some (.int 1)) (h1 := h) rfl (by simp only [ie_step, ie_iv, List.drop, c134, mo, if_true]; rfl) ⟨rfl, Nat.le_of_ble_eq_true rfl⟩ ?_ ?_
  · refine go_run 0 (F' := (0, [some (.ref 134), some (.int p1), some (.int p2), some (.int p3)], [], h)) rfl ?_
    refine go_run 2 (F' := (2, [some (.ref 134), some (.int p1), some (.int p2), some (.int p3)], [.int p2, .int p1], h)) rfl ?_
    refine go_call (m' := 213) (v := some (.int 1)) (h1 := h) rfl rfl ⟨rfl, Nat.le_of_ble_eq_true rfl⟩ ?_ ?_
    · refine go_run 0 (F' := (0, [some (.int p1), some (.int p2)], [], h)) rfl ?_
      refine go_run 1 (F' := (1, [some (.int p1), some (.int p2)], [.int p1], h)) rfl ?_
      refine go_call (m' := 183) (v := some (.int 0)) (h1 := h) rfl rfl ⟨rfl, Nat.le_of_ble_eq_true rfl⟩ ?_ ?_
      · refine go_run 0 (F' := (0, [some (.int p1)], [], h)) rfl ?_
        refine go_run 1 (F' := (1, [some (.int p1)], [.int p1], h)) rfl ?_
        refine go_step rfl rfl ?_
        rw [if_neg q1]
        refine go_run 0 (F' := (4, [some (.int p1)], [], h)) rfl ?_
        refine go_run 2 (F' := (6, [some (.int p1)], [.int 5, .int p1], h)) rfl ?_
        refine go_step rfl rfl ?_
        rw [if_pos q2]
        refine go_run 0 (F' := (13, [some (.int p1)], [], h)) rfl ?_
        refine go_run 1 (F' := (14, [some (.int p1)], [.int 0], h)) rfl ?_
        exact go_end rfl rfl
      refine go_run 0 (F' := (4, [some (.int p1), some (.int p2)], [.int 0], h)) rfl ?_
      refine go_run 2 (F' := (8, [some (.int p1), some (.int p2)], [.int p2], h)) rfl ?_
      refine go_call (m' := 183) (v := some (.int 1)) (h1 := h) rfl rfl ⟨rfl, Nat.le_of_ble_eq_true rfl⟩ ?_ ?_
      · refine go_run 0 (F' := (0, [some (.int p2)], [], h)) rfl ?_
        refine go_run 1 (F' := (1, [some (.int p2)], [.int p2], h)) rfl ?_
        refine go_step rfl rfl ?_
        rw [if_pos q3]
        refine go_run 0 (F' := (9, [some (.int p2)], [], h)) rfl ?_
        refine go_run 2 (F' := (14, [some (.int p2)], [.int 1], h)) rfl ?_
        exact go_end rfl rfl
      refine go_run 0 (F' := (11, [some (.int p1), some (.int p2)], [.int 1], h)) rfl ?_
      refine go_run 3 (F' := (24, [some (.int p1), some (.int p2)], [.int 1], h)) rfl ?_
      exact go_end rfl rfl
    refine go_run 0 (F' := (5, [some (.ref 134), some (.int p1), some (.int p2), some (.int p3)], [.int 1], h)) rfl ?_
    refine go_run 3 (F' := (36, [some (.ref 134), some (.int p1), some (.int p2), some (.int p3)], [.int 1], h)) rfl ?_
    exact go_end rfl rfl
  refine go_run 0 (F' := (8, [some (.ref 134), some (.int p1), some (.int p2), some (.int p3)], [.int 1, .ref 134], h)) rfl ?_
  refine go_pf rfl c134 (Nat.le_of_ble_eq_true rfl) rfl rfl ?_
  refine go_run 0 (F' := (11, [some (.ref 134), some (.int p1), some (.int p2), some (.int p3)], [], (List.set h 134 (mo 1 ty fa wh ch it at_ bad co de 0 st sz tp am bm mn rm sp be wo)))) rfl ?_
  refine go_run 1 (F' := (12, [some (.ref 134), some (.int p1), some (.int p2), some (.int p3)], [.ref 134], (List.set h 134 (mo 1 ty fa wh ch it at_ bad co de 0 st sz tp am bm mn rm sp be wo)))) rfl ?_
  refine go_gf rfl (gs_self c134) rfl ?_
  refine go_run 0 (F' := (15, [some (.ref 134), some (.int p1), some (.int p2), some (.int p3)], [.int 1], (List.set h 134 (mo 1 ty fa wh ch it at_ bad co de 0 st sz tp am bm mn rm sp be wo)))) rfl ?_
  refine go_run 2 (F' := (42, [some (.ref 134), some (.int p1), some (.int p2), some (.int p3)], [.int 0], (List.set h 134 (mo 1 ty fa wh ch it at_ bad co de 0 st sz tp am bm mn rm sp be wo)))) rfl ?_
  exact go_end rfl rfl
set_option maxRecDepth 100000 in
theorem um_label_4 {X : ie_X} {d : Nat} {h : ie_H} {p1 p2 p3 t_ ty fa wh ch it at_ bad co de st sz tp am bm mn rm sp be wo : Int32} (c134 : h[134]? = some (mo t_ ty fa wh ch it at_ bad co de 0 st sz tp am bm mn rm sp be wo)) (q1 : ¬ (p1 < 0)) (q2 : p1 ≤ 5) (q3 : ¬ (p2 < 0)) (q4 : ¬ (p2 ≤ 5)) : Go X (d + 3) 216 (0, ie_en 216 [.ref 134, .int p1, .int p2, .int p3], [], h) (.inl (some (.int 0))) (List.set h 134 (mo 1 ty fa wh ch it at_ bad co de 0 st sz tp am bm mn rm sp be wo)) := by
  refine go_run 0 (F' := (0, [some (.ref 134), some (.int p1), some (.int p2), some (.int p3)], [], h)) rfl ?_
  refine go_run 5 (F' := (5, [some (.ref 134), some (.int p1), some (.int p2), some (.int p3)], [.int p3, .int p2, .int p1, .ref 134, .ref 134], h)) rfl ?_
  refine go_call (m' := 215) (v := some (.int 1)) (h1 := h) rfl (by simp only [ie_step, ie_iv, List.drop, c134, mo, if_true]; rfl) ⟨rfl, Nat.le_of_ble_eq_true rfl⟩ ?_ ?_
  · refine go_run 0 (F' := (0, [some (.ref 134), some (.int p1), some (.int p2), some (.int p3)], [], h)) rfl ?_
    refine go_run 2 (F' := (2, [some (.ref 134), some (.int p1), some (.int p2), some (.int p3)], [.int p2, .int p1], h)) rfl ?_
    refine go_call (m' := 213) (v := some (.int 1)) (h1 := h) rfl rfl ⟨rfl, Nat.le_of_ble_eq_true rfl⟩ ?_ ?_
    · refine go_run 0 (F' := (0, [some (.int p1), some (.int p2)], [], h)) rfl ?_
      refine go_run 1 (F' := (1, [some (.int p1), some (.int p2)], [.int p1], h)) rfl ?_
      refine go_call (m' := 183) (v := some (.int 0)) (h1 := h) rfl rfl ⟨rfl, Nat.le_of_ble_eq_true rfl⟩ ?_ ?_
      · refine go_run 0 (F' := (0, [some (.int p1)], [], h)) rfl ?_
        refine go_run 1 (F' := (1, [some (.int p1)], [.int p1], h)) rfl ?_
        refine go_step rfl rfl ?_
        rw [if_neg q1]
        refine go_run 0 (F' := (4, [some (.int p1)], [], h)) rfl ?_
        refine go_run 2 (F' := (6, [some (.int p1)], [.int 5, .int p1], h)) rfl ?_
        refine go_step rfl rfl ?_
        rw [if_pos q2]
        refine go_run 0 (F' := (13, [some (.int p1)], [], h)) rfl ?_
        refine go_run 1 (F' := (14, [some (.int p1)], [.int 0], h)) rfl ?_
        exact go_end rfl rfl
      refine go_run 0 (F' := (4, [some (.int p1), some (.int p2)], [.int 0], h)) rfl ?_
      refine go_run 2 (F' := (8, [some (.int p1), some (.int p2)], [.int p2], h)) rfl ?_
      refine go_call (m' := 183) (v := some (.int 1)) (h1 := h) rfl rfl ⟨rfl, Nat.le_of_ble_eq_true rfl⟩ ?_ ?_
      · refine go_run 0 (F' := (0, [some (.int p2)], [], h)) rfl ?_
        refine go_run 1 (F' := (1, [some (.int p2)], [.int p2], h)) rfl ?_
        refine go_step rfl rfl ?_
        rw [if_neg q3]
        refine go_run 0 (F' := (4, [some (.int p2)], [], h)) rfl ?_
        refine go_run 2 (F' := (6, [some (.int p2)], [.int 5, .int p2], h)) rfl ?_
        refine go_step rfl rfl ?_
        rw [if_neg q4]
        refine go_run 0 (F' := (9, [some (.int p2)], [], h)) rfl ?_
        refine go_run 2 (F' := (14, [some (.int p2)], [.int 1], h)) rfl ?_
        exact go_end rfl rfl
      refine go_run 0 (F' := (11, [some (.int p1), some (.int p2)], [.int 1], h)) rfl ?_
      refine go_run 3 (F' := (24, [some (.int p1), some (.int p2)], [.int 1], h)) rfl ?_
      exact go_end rfl rfl
    refine go_run 0 (F' := (5, [some (.ref 134), some (.int p1), some (.int p2), some (.int p3)], [.int 1], h)) rfl ?_
    refine go_run 3 (F' := (36, [some (.ref 134), some (.int p1), some (.int p2), some (.int p3)], [.int 1], h)) rfl ?_
    exact go_end rfl rfl
  refine go_run 0 (F' := (8, [some (.ref 134), some (.int p1), some (.int p2), some (.int p3)], [.int 1, .ref 134], h)) rfl ?_
  refine go_pf rfl c134 (Nat.le_of_ble_eq_true rfl) rfl rfl ?_
  refine go_run 0 (F' := (11, [some (.ref 134), some (.int p1), some (.int p2), some (.int p3)], [], (List.set h 134 (mo 1 ty fa wh ch it at_ bad co de 0 st sz tp am bm mn rm sp be wo)))) rfl ?_
  refine go_run 1 (F' := (12, [some (.ref 134), some (.int p1), some (.int p2), some (.int p3)], [.ref 134], (List.set h 134 (mo 1 ty fa wh ch it at_ bad co de 0 st sz tp am bm mn rm sp be wo)))) rfl ?_
  refine go_gf rfl (gs_self c134) rfl ?_
  refine go_run 0 (F' := (15, [some (.ref 134), some (.int p1), some (.int p2), some (.int p3)], [.int 1], (List.set h 134 (mo 1 ty fa wh ch it at_ bad co de 0 st sz tp am bm mn rm sp be wo)))) rfl ?_
  refine go_run 2 (F' := (42, [some (.ref 134), some (.int p1), some (.int p2), some (.int p3)], [.int 0], (List.set h 134 (mo 1 ty fa wh ch it at_ bad co de 0 st sz tp am bm mn rm sp be wo)))) rfl ?_
  exact go_end rfl rfl
set_option maxRecDepth 100000 in
theorem um_label_5 {X : ie_X} {d : Nat} {h : ie_H} {p1 p2 p3 t_ ty fa wh ch it at_ bad co de st sz tp am bm mn rm sp be wo : Int32} (c134 : h[134]? = some (mo t_ ty fa wh ch it at_ bad co de 0 st sz tp am bm mn rm sp be wo)) (q1 : ¬ (p1 < 0)) (q2 : p1 ≤ 5) (q3 : ¬ (p2 < 0)) (q4 : p2 ≤ 5) (q5 : p1 = p2) : Go X (d + 3) 216 (0, ie_en 216 [.ref 134, .int p1, .int p2, .int p3], [], h) (.inl (some (.int 0))) (List.set h 134 (mo 1 ty fa wh ch it at_ bad co de 0 st sz tp am bm mn rm sp be wo)) := by
  refine go_run 0 (F' := (0, [some (.ref 134), some (.int p1), some (.int p2), some (.int p3)], [], h)) rfl ?_
  refine go_run 5 (F' := (5, [some (.ref 134), some (.int p1), some (.int p2), some (.int p3)], [.int p3, .int p2, .int p1, .ref 134, .ref 134], h)) rfl ?_
  refine go_call (m' := 215) (v := some (.int 1)) (h1 := h) rfl (by simp only [ie_step, ie_iv, List.drop, c134, mo, if_true]; rfl) ⟨rfl, Nat.le_of_ble_eq_true rfl⟩ ?_ ?_
  · refine go_run 0 (F' := (0, [some (.ref 134), some (.int p1), some (.int p2), some (.int p3)], [], h)) rfl ?_
    refine go_run 2 (F' := (2, [some (.ref 134), some (.int p1), some (.int p2), some (.int p3)], [.int p2, .int p1], h)) rfl ?_
    refine go_call (m' := 213) (v := some (.int 1)) (h1 := h) rfl rfl ⟨rfl, Nat.le_of_ble_eq_true rfl⟩ ?_ ?_
    · refine go_run 0 (F' := (0, [some (.int p1), some (.int p2)], [], h)) rfl ?_
      refine go_run 1 (F' := (1, [some (.int p1), some (.int p2)], [.int p1], h)) rfl ?_
      refine go_call (m' := 183) (v := some (.int 0)) (h1 := h) rfl rfl ⟨rfl, Nat.le_of_ble_eq_true rfl⟩ ?_ ?_
      · refine go_run 0 (F' := (0, [some (.int p1)], [], h)) rfl ?_
        refine go_run 1 (F' := (1, [some (.int p1)], [.int p1], h)) rfl ?_
        refine go_step rfl rfl ?_
        rw [if_neg q1]
        refine go_run 0 (F' := (4, [some (.int p1)], [], h)) rfl ?_
        refine go_run 2 (F' := (6, [some (.int p1)], [.int 5, .int p1], h)) rfl ?_
        refine go_step rfl rfl ?_
        rw [if_pos q2]
        refine go_run 0 (F' := (13, [some (.int p1)], [], h)) rfl ?_
        refine go_run 1 (F' := (14, [some (.int p1)], [.int 0], h)) rfl ?_
        exact go_end rfl rfl
      refine go_run 0 (F' := (4, [some (.int p1), some (.int p2)], [.int 0], h)) rfl ?_
      refine go_run 2 (F' := (8, [some (.int p1), some (.int p2)], [.int p2], h)) rfl ?_
      refine go_call (m' := 183) (v := some (.int 0)) (h1 := h) rfl rfl ⟨rfl, Nat.le_of_ble_eq_true rfl⟩ ?_ ?_
      · refine go_run 0 (F' := (0, [some (.int p2)], [], h)) rfl ?_
        refine go_run 1 (F' := (1, [some (.int p2)], [.int p2], h)) rfl ?_
        refine go_step rfl rfl ?_
        rw [if_neg q3]
        refine go_run 0 (F' := (4, [some (.int p2)], [], h)) rfl ?_
        refine go_run 2 (F' := (6, [some (.int p2)], [.int 5, .int p2], h)) rfl ?_
        refine go_step rfl rfl ?_
        rw [if_pos q4]
        refine go_run 0 (F' := (13, [some (.int p2)], [], h)) rfl ?_
        refine go_run 1 (F' := (14, [some (.int p2)], [.int 0], h)) rfl ?_
        exact go_end rfl rfl
      refine go_run 0 (F' := (11, [some (.int p1), some (.int p2)], [.int 0], h)) rfl ?_
      refine go_run 3 (F' := (16, [some (.int p1), some (.int p2)], [.int p2, .int p1], h)) rfl ?_
      refine go_step rfl rfl ?_
      rw [if_pos q5]
      refine go_run 0 (F' := (19, [some (.int p1), some (.int p2)], [], h)) rfl ?_
      refine go_run 2 (F' := (24, [some (.int p1), some (.int p2)], [.int 1], h)) rfl ?_
      exact go_end rfl rfl
    refine go_run 0 (F' := (5, [some (.ref 134), some (.int p1), some (.int p2), some (.int p3)], [.int 1], h)) rfl ?_
    refine go_run 3 (F' := (36, [some (.ref 134), some (.int p1), some (.int p2), some (.int p3)], [.int 1], h)) rfl ?_
    exact go_end rfl rfl
  refine go_run 0 (F' := (8, [some (.ref 134), some (.int p1), some (.int p2), some (.int p3)], [.int 1, .ref 134], h)) rfl ?_
  refine go_pf rfl c134 (Nat.le_of_ble_eq_true rfl) rfl rfl ?_
  refine go_run 0 (F' := (11, [some (.ref 134), some (.int p1), some (.int p2), some (.int p3)], [], (List.set h 134 (mo 1 ty fa wh ch it at_ bad co de 0 st sz tp am bm mn rm sp be wo)))) rfl ?_
  refine go_run 1 (F' := (12, [some (.ref 134), some (.int p1), some (.int p2), some (.int p3)], [.ref 134], (List.set h 134 (mo 1 ty fa wh ch it at_ bad co de 0 st sz tp am bm mn rm sp be wo)))) rfl ?_
  refine go_gf rfl (gs_self c134) rfl ?_
  refine go_run 0 (F' := (15, [some (.ref 134), some (.int p1), some (.int p2), some (.int p3)], [.int 1], (List.set h 134 (mo 1 ty fa wh ch it at_ bad co de 0 st sz tp am bm mn rm sp be wo)))) rfl ?_
  refine go_run 2 (F' := (42, [some (.ref 134), some (.int p1), some (.int p2), some (.int p3)], [.int 0], (List.set h 134 (mo 1 ty fa wh ch it at_ bad co de 0 st sz tp am bm mn rm sp be wo)))) rfl ?_
  exact go_end rfl rfl
set_option maxRecDepth 100000 in
theorem um_label_6 {X : ie_X} {d : Nat} {h : ie_H} {p1 p2 p3 t_ ty fa wh ch it at_ bad co de st sz tp am bm mn rm sp be wo : Int32} (c134 : h[134]? = some (mo t_ ty fa wh ch it at_ bad co de 0 st sz tp am bm mn rm sp be wo)) (q1 : ¬ (p1 < 0)) (q2 : p1 ≤ 5) (q3 : ¬ (p2 < 0)) (q4 : p2 ≤ 5) (q5 : ¬ (p1 = p2)) (q6 : p3 < 0) : Go X (d + 3) 216 (0, ie_en 216 [.ref 134, .int p1, .int p2, .int p3], [], h) (.inl (some (.int 0))) (List.set h 134 (mo 2 ty fa wh ch it at_ bad co de 0 st sz tp am bm mn rm sp be wo)) := by
  refine go_run 0 (F' := (0, [some (.ref 134), some (.int p1), some (.int p2), some (.int p3)], [], h)) rfl ?_
  refine go_run 5 (F' := (5, [some (.ref 134), some (.int p1), some (.int p2), some (.int p3)], [.int p3, .int p2, .int p1, .ref 134, .ref 134], h)) rfl ?_
  refine go_call (m' := 215) (v := some (.int 2)) (h1 := h) rfl (by simp only [ie_step, ie_iv, List.drop, c134, mo, if_true]; rfl) ⟨rfl, Nat.le_of_ble_eq_true rfl⟩ ?_ ?_
  · refine go_run 0 (F' := (0, [some (.ref 134), some (.int p1), some (.int p2), some (.int p3)], [], h)) rfl ?_
    refine go_run 2 (F' := (2, [some (.ref 134), some (.int p1), some (.int p2), some (.int p3)], [.int p2, .int p1], h)) rfl ?_
    refine go_call (m' := 213) (v := some (.int 0)) (h1 := h) rfl rfl ⟨rfl, Nat.le_of_ble_eq_true rfl⟩ ?_ ?_
    · refine go_run 0 (F' := (0, [some (.int p1), some (.int p2)], [], h)) rfl ?_
      refine go_run 1 (F' := (1, [some (.int p1), some (.int p2)], [.int p1], h)) rfl ?_
      refine go_call (m' := 183) (v := some (.int 0)) (h1 := h) rfl rfl ⟨rfl, Nat.le_of_ble_eq_true rfl⟩ ?_ ?_
      · refine go_run 0 (F' := (0, [some (.int p1)], [], h)) rfl ?_
        refine go_run 1 (F' := (1, [some (.int p1)], [.int p1], h)) rfl ?_
        refine go_step rfl rfl ?_
        rw [if_neg q1]
        refine go_run 0 (F' := (4, [some (.int p1)], [], h)) rfl ?_
        refine go_run 2 (F' := (6, [some (.int p1)], [.int 5, .int p1], h)) rfl ?_
        refine go_step rfl rfl ?_
        rw [if_pos q2]
        refine go_run 0 (F' := (13, [some (.int p1)], [], h)) rfl ?_
        refine go_run 1 (F' := (14, [some (.int p1)], [.int 0], h)) rfl ?_
        exact go_end rfl rfl
      refine go_run 0 (F' := (4, [some (.int p1), some (.int p2)], [.int 0], h)) rfl ?_
      refine go_run 2 (F' := (8, [some (.int p1), some (.int p2)], [.int p2], h)) rfl ?_
      refine go_call (m' := 183) (v := some (.int 0)) (h1 := h) rfl rfl ⟨rfl, Nat.le_of_ble_eq_true rfl⟩ ?_ ?_
      · refine go_run 0 (F' := (0, [some (.int p2)], [], h)) rfl ?_
        refine go_run 1 (F' := (1, [some (.int p2)], [.int p2], h)) rfl ?_
        refine go_step rfl rfl ?_
        rw [if_neg q3]
        refine go_run 0 (F' := (4, [some (.int p2)], [], h)) rfl ?_
        refine go_run 2 (F' := (6, [some (.int p2)], [.int 5, .int p2], h)) rfl ?_
        refine go_step rfl rfl ?_
        rw [if_pos q4]
        refine go_run 0 (F' := (13, [some (.int p2)], [], h)) rfl ?_
        refine go_run 1 (F' := (14, [some (.int p2)], [.int 0], h)) rfl ?_
        exact go_end rfl rfl
      refine go_run 0 (F' := (11, [some (.int p1), some (.int p2)], [.int 0], h)) rfl ?_
      refine go_run 3 (F' := (16, [some (.int p1), some (.int p2)], [.int p2, .int p1], h)) rfl ?_
      refine go_step rfl rfl ?_
      rw [if_neg q5]
      refine go_run 0 (F' := (23, [some (.int p1), some (.int p2)], [], h)) rfl ?_
      refine go_run 1 (F' := (24, [some (.int p1), some (.int p2)], [.int 0], h)) rfl ?_
      exact go_end rfl rfl
    refine go_run 0 (F' := (5, [some (.ref 134), some (.int p1), some (.int p2), some (.int p3)], [.int 0], h)) rfl ?_
    refine go_run 2 (F' := (13, [some (.ref 134), some (.int p1), some (.int p2), some (.int p3)], [.int p3], h)) rfl ?_
    refine go_step rfl rfl ?_
    rw [if_pos q6]
    refine go_run 0 (F' := (31, [some (.ref 134), some (.int p1), some (.int p2), some (.int p3)], [], h)) rfl ?_
    refine go_run 2 (F' := (36, [some (.ref 134), some (.int p1), some (.int p2), some (.int p3)], [.int 2], h)) rfl ?_
    exact go_end rfl rfl
  refine go_run 0 (F' := (8, [some (.ref 134), some (.int p1), some (.int p2), some (.int p3)], [.int 2, .ref 134], h)) rfl ?_
  refine go_pf rfl c134 (Nat.le_of_ble_eq_true rfl) rfl rfl ?_
  refine go_run 0 (F' := (11, [some (.ref 134), some (.int p1), some (.int p2), some (.int p3)], [], (List.set h 134 (mo 2 ty fa wh ch it at_ bad co de 0 st sz tp am bm mn rm sp be wo)))) rfl ?_
  refine go_run 1 (F' := (12, [some (.ref 134), some (.int p1), some (.int p2), some (.int p3)], [.ref 134], (List.set h 134 (mo 2 ty fa wh ch it at_ bad co de 0 st sz tp am bm mn rm sp be wo)))) rfl ?_
  refine go_gf rfl (gs_self c134) rfl ?_
  refine go_run 0 (F' := (15, [some (.ref 134), some (.int p1), some (.int p2), some (.int p3)], [.int 2], (List.set h 134 (mo 2 ty fa wh ch it at_ bad co de 0 st sz tp am bm mn rm sp be wo)))) rfl ?_
  refine go_run 2 (F' := (42, [some (.ref 134), some (.int p1), some (.int p2), some (.int p3)], [.int 0], (List.set h 134 (mo 2 ty fa wh ch it at_ bad co de 0 st sz tp am bm mn rm sp be wo)))) rfl ?_
  exact go_end rfl rfl
set_option maxRecDepth 100000 in
theorem um_label_7 {X : ie_X} {d : Nat} {h : ie_H} {p1 p2 p3 t_ ty fa wh ch it at_ bad co de st sz tp am bm mn rm sp be wo : Int32} {f173 : Nat → Int32} (c134 : h[134]? = some (mo t_ ty fa wh ch it at_ bad co de 0 st sz tp am bm mn rm sp be wo)) (c173 : h[173]? = some (.inl (0, 36, .inl f173))) (q1 : ¬ (p1 < 0)) (q2 : p1 ≤ 5) (q3 : ¬ (p2 < 0)) (q4 : p2 ≤ 5) (q5 : ¬ (p1 = p2)) (q6 : ¬ (p3 < 0)) (b_6 : 0 ≤ Int32.toInt ((6 * p1) + p2) ∧ Int32.toInt ((6 * p1) + p2) < (36 : Int)) (q7 : ¬ (p3 < f173 (Int32.toNatClampNeg ((6 * p1) + p2)))) : Go X (d + 3) 216 (0, ie_en 216 [.ref 134, .int p1, .int p2, .int p3], [], h) (.inl (some (.int 0))) (List.set h 134 (mo 2 ty fa wh ch it at_ bad co de 0 st sz tp am bm mn rm sp be wo)) := by
  refine go_run 0 (F' := (0, [some (.ref 134), some (.int p1), some (.int p2), some (.int p3)], [], h)) rfl ?_
  refine go_run 5 (F' := (5, [some (.ref 134), some (.int p1), some (.int p2), some (.int p3)], [.int p3, .int p2, .int p1, .ref 134, .ref 134], h)) rfl ?_
  refine go_call (m' := 215) (v := some (.int 2)) (h1 := h) rfl (by simp only [ie_step, ie_iv, List.drop, c134, mo, if_true]; rfl) ⟨rfl, Nat.le_of_ble_eq_true rfl⟩ ?_ ?_
  · refine go_run 0 (F' := (0, [some (.ref 134), some (.int p1), some (.int p2), some (.int p3)], [], h)) rfl ?_
    refine go_run 2 (F' := (2, [some (.ref 134), some (.int p1), some (.int p2), some (.int p3)], [.int p2, .int p1], h)) rfl ?_
    refine go_call (m' := 213) (v := some (.int 0)) (h1 := h) rfl rfl ⟨rfl, Nat.le_of_ble_eq_true rfl⟩ ?_ ?_
    · refine go_run 0 (F' := (0, [some (.int p1), some (.int p2)], [], h)) rfl ?_
      refine go_run 1 (F' := (1, [some (.int p1), some (.int p2)], [.int p1], h)) rfl ?_
      refine go_call (m' := 183) (v := some (.int 0)) (h1 := h) rfl rfl ⟨rfl, Nat.le_of_ble_eq_true rfl⟩ ?_ ?_
      · refine go_run 0 (F' := (0, [some (.int p1)], [], h)) rfl ?_
        refine go_run 1 (F' := (1, [some (.int p1)], [.int p1], h)) rfl ?_
        refine go_step rfl rfl ?_
        rw [if_neg q1]
        refine go_run 0 (F' := (4, [some (.int p1)], [], h)) rfl ?_
        refine go_run 2 (F' := (6, [some (.int p1)], [.int 5, .int p1], h)) rfl ?_
        refine go_step rfl rfl ?_
        rw [if_pos q2]
        refine go_run 0 (F' := (13, [some (.int p1)], [], h)) rfl ?_
        refine go_run 1 (F' := (14, [some (.int p1)], [.int 0], h)) rfl ?_
        exact go_end rfl rfl
      refine go_run 0 (F' := (4, [some (.int p1), some (.int p2)], [.int 0], h)) rfl ?_
      refine go_run 2 (F' := (8, [some (.int p1), some (.int p2)], [.int p2], h)) rfl ?_
      refine go_call (m' := 183) (v := some (.int 0)) (h1 := h) rfl rfl ⟨rfl, Nat.le_of_ble_eq_true rfl⟩ ?_ ?_
      · refine go_run 0 (F' := (0, [some (.int p2)], [], h)) rfl ?_
        refine go_run 1 (F' := (1, [some (.int p2)], [.int p2], h)) rfl ?_
        refine go_step rfl rfl ?_
        rw [if_neg q3]
        refine go_run 0 (F' := (4, [some (.int p2)], [], h)) rfl ?_
        refine go_run 2 (F' := (6, [some (.int p2)], [.int 5, .int p2], h)) rfl ?_
        refine go_step rfl rfl ?_
        rw [if_pos q4]
        refine go_run 0 (F' := (13, [some (.int p2)], [], h)) rfl ?_
        refine go_run 1 (F' := (14, [some (.int p2)], [.int 0], h)) rfl ?_
        exact go_end rfl rfl
      refine go_run 0 (F' := (11, [some (.int p1), some (.int p2)], [.int 0], h)) rfl ?_
      refine go_run 3 (F' := (16, [some (.int p1), some (.int p2)], [.int p2, .int p1], h)) rfl ?_
      refine go_step rfl rfl ?_
      rw [if_neg q5]
      refine go_run 0 (F' := (23, [some (.int p1), some (.int p2)], [], h)) rfl ?_
      refine go_run 1 (F' := (24, [some (.int p1), some (.int p2)], [.int 0], h)) rfl ?_
      exact go_end rfl rfl
    refine go_run 0 (F' := (5, [some (.ref 134), some (.int p1), some (.int p2), some (.int p3)], [.int 0], h)) rfl ?_
    refine go_run 2 (F' := (13, [some (.ref 134), some (.int p1), some (.int p2), some (.int p3)], [.int p3], h)) rfl ?_
    refine go_step rfl rfl ?_
    rw [if_neg q6]
    refine go_run 0 (F' := (16, [some (.ref 134), some (.int p1), some (.int p2), some (.int p3)], [], h)) rfl ?_
    refine go_run 2 (F' := (18, [some (.ref 134), some (.int p1), some (.int p2), some (.int p3)], [.ref 134, .int p3], h)) rfl ?_
    refine go_gf rfl c134 rfl ?_
    refine go_run 0 (F' := (21, [some (.ref 134), some (.int p1), some (.int p2), some (.int p3)], [.ref 173, .int p3], h)) rfl ?_
    refine go_run 5 (F' := (27, [some (.ref 134), some (.int p1), some (.int p2), some (.int p3)], [.int ((6 * p1) + p2), .ref 173, .int p3], h)) rfl ?_
    refine go_iald rfl (by decide) c173 b_6 rfl ?_
    refine go_run 0 (F' := (28, [some (.ref 134), some (.int p1), some (.int p2), some (.int p3)], [.int (f173 (Int32.toNatClampNeg ((6 * p1) + p2))), .int p3], h)) rfl ?_
    refine go_step rfl rfl ?_
    rw [if_neg q7]
    refine go_run 0 (F' := (31, [some (.ref 134), some (.int p1), some (.int p2), some (.int p3)], [], h)) rfl ?_
    refine go_run 2 (F' := (36, [some (.ref 134), some (.int p1), some (.int p2), some (.int p3)], [.int 2], h)) rfl ?_
    exact go_end rfl rfl
  refine go_run 0 (F' := (8, [some (.ref 134), some (.int p1), some (.int p2), some (.int p3)], [.int 2, .ref 134], h)) rfl ?_
  refine go_pf rfl c134 (Nat.le_of_ble_eq_true rfl) rfl rfl ?_
  refine go_run 0 (F' := (11, [some (.ref 134), some (.int p1), some (.int p2), some (.int p3)], [], (List.set h 134 (mo 2 ty fa wh ch it at_ bad co de 0 st sz tp am bm mn rm sp be wo)))) rfl ?_
  refine go_run 1 (F' := (12, [some (.ref 134), some (.int p1), some (.int p2), some (.int p3)], [.ref 134], (List.set h 134 (mo 2 ty fa wh ch it at_ bad co de 0 st sz tp am bm mn rm sp be wo)))) rfl ?_
  refine go_gf rfl (gs_self c134) rfl ?_
  refine go_run 0 (F' := (15, [some (.ref 134), some (.int p1), some (.int p2), some (.int p3)], [.int 2], (List.set h 134 (mo 2 ty fa wh ch it at_ bad co de 0 st sz tp am bm mn rm sp be wo)))) rfl ?_
  refine go_run 2 (F' := (42, [some (.ref 134), some (.int p1), some (.int p2), some (.int p3)], [.int 0], (List.set h 134 (mo 2 ty fa wh ch it at_ bad co de 0 st sz tp am bm mn rm sp be wo)))) rfl ?_
  exact go_end rfl rfl
set_option maxRecDepth 100000 in
theorem um_label_8 {X : ie_X} {d : Nat} {h : ie_H} {p1 p2 p3 t_ ty fa wh ch it at_ bad co de st sz tp am bm mn rm sp be wo : Int32} {f173 f175 : Nat → Int32} (c134 : h[134]? = some (mo t_ ty fa wh ch it at_ bad co de 0 st sz tp am bm mn rm sp be wo)) (c173 : h[173]? = some (.inl (0, 36, .inl f173))) (c175 : h[175]? = some (.inl (2, 288, .inl f175))) (q1 : ¬ (p1 < 0)) (q2 : p1 ≤ 5) (q3 : ¬ (p2 < 0)) (q4 : p2 ≤ 5) (q5 : ¬ (p1 = p2)) (q6 : ¬ (p3 < 0)) (b_6 : 0 ≤ Int32.toInt ((6 * p1) + p2) ∧ Int32.toInt ((6 * p1) + p2) < (36 : Int)) (q7 : p3 < f173 (Int32.toNatClampNeg ((6 * p1) + p2))) (b_8 : 0 ≤ Int32.toInt ((8 * ((6 * p1) + p2)) + p3) ∧ Int32.toInt ((8 * ((6 * p1) + p2)) + p3) < (288 : Int)) (q8 : f175 (Int32.toNatClampNeg ((8 * ((6 * p1) + p2)) + p3)) = 0) : Go X (d + 3) 216 (0, ie_en 216 [.ref 134, .int p1, .int p2, .int p3], [], h) (.inl (some (.int 0))) (List.set h 134 (mo 0 ty fa wh ch it at_ bad co de 0 st sz tp am bm mn rm sp be wo)) := by
  refine go_run 0 (F' := (0, [some (.ref 134), some (.int p1), some (.int p2), some (.int p3)], [], h)) rfl ?_
  refine go_run 5 (F' := (5, [some (.ref 134), some (.int p1), some (.int p2), some (.int p3)], [.int p3, .int p2, .int p1, .ref 134, .ref 134], h)) rfl ?_
  refine go_call (m' := 215) (v := some (.int 0)) (h1 := h) rfl (by simp only [ie_step, ie_iv, List.drop, c134, mo, if_true]; rfl) ⟨rfl, Nat.le_of_ble_eq_true rfl⟩ ?_ ?_
  · refine go_run 0 (F' := (0, [some (.ref 134), some (.int p1), some (.int p2), some (.int p3)], [], h)) rfl ?_
    refine go_run 2 (F' := (2, [some (.ref 134), some (.int p1), some (.int p2), some (.int p3)], [.int p2, .int p1], h)) rfl ?_
    refine go_call (m' := 213) (v := some (.int 0)) (h1 := h) rfl rfl ⟨rfl, Nat.le_of_ble_eq_true rfl⟩ ?_ ?_
    · refine go_run 0 (F' := (0, [some (.int p1), some (.int p2)], [], h)) rfl ?_
      refine go_run 1 (F' := (1, [some (.int p1), some (.int p2)], [.int p1], h)) rfl ?_
      refine go_call (m' := 183) (v := some (.int 0)) (h1 := h) rfl rfl ⟨rfl, Nat.le_of_ble_eq_true rfl⟩ ?_ ?_
      · refine go_run 0 (F' := (0, [some (.int p1)], [], h)) rfl ?_
        refine go_run 1 (F' := (1, [some (.int p1)], [.int p1], h)) rfl ?_
        refine go_step rfl rfl ?_
        rw [if_neg q1]
        refine go_run 0 (F' := (4, [some (.int p1)], [], h)) rfl ?_
        refine go_run 2 (F' := (6, [some (.int p1)], [.int 5, .int p1], h)) rfl ?_
        refine go_step rfl rfl ?_
        rw [if_pos q2]
        refine go_run 0 (F' := (13, [some (.int p1)], [], h)) rfl ?_
        refine go_run 1 (F' := (14, [some (.int p1)], [.int 0], h)) rfl ?_
        exact go_end rfl rfl
      refine go_run 0 (F' := (4, [some (.int p1), some (.int p2)], [.int 0], h)) rfl ?_
      refine go_run 2 (F' := (8, [some (.int p1), some (.int p2)], [.int p2], h)) rfl ?_
      refine go_call (m' := 183) (v := some (.int 0)) (h1 := h) rfl rfl ⟨rfl, Nat.le_of_ble_eq_true rfl⟩ ?_ ?_
      · refine go_run 0 (F' := (0, [some (.int p2)], [], h)) rfl ?_
        refine go_run 1 (F' := (1, [some (.int p2)], [.int p2], h)) rfl ?_
        refine go_step rfl rfl ?_
        rw [if_neg q3]
        refine go_run 0 (F' := (4, [some (.int p2)], [], h)) rfl ?_
        refine go_run 2 (F' := (6, [some (.int p2)], [.int 5, .int p2], h)) rfl ?_
        refine go_step rfl rfl ?_
        rw [if_pos q4]
        refine go_run 0 (F' := (13, [some (.int p2)], [], h)) rfl ?_
        refine go_run 1 (F' := (14, [some (.int p2)], [.int 0], h)) rfl ?_
        exact go_end rfl rfl
      refine go_run 0 (F' := (11, [some (.int p1), some (.int p2)], [.int 0], h)) rfl ?_
      refine go_run 3 (F' := (16, [some (.int p1), some (.int p2)], [.int p2, .int p1], h)) rfl ?_
      refine go_step rfl rfl ?_
      rw [if_neg q5]
      refine go_run 0 (F' := (23, [some (.int p1), some (.int p2)], [], h)) rfl ?_
      refine go_run 1 (F' := (24, [some (.int p1), some (.int p2)], [.int 0], h)) rfl ?_
      exact go_end rfl rfl
    refine go_run 0 (F' := (5, [some (.ref 134), some (.int p1), some (.int p2), some (.int p3)], [.int 0], h)) rfl ?_
    refine go_run 2 (F' := (13, [some (.ref 134), some (.int p1), some (.int p2), some (.int p3)], [.int p3], h)) rfl ?_
    refine go_step rfl rfl ?_
    rw [if_neg q6]
    refine go_run 0 (F' := (16, [some (.ref 134), some (.int p1), some (.int p2), some (.int p3)], [], h)) rfl ?_
    refine go_run 2 (F' := (18, [some (.ref 134), some (.int p1), some (.int p2), some (.int p3)], [.ref 134, .int p3], h)) rfl ?_
    refine go_gf rfl c134 rfl ?_
    refine go_run 0 (F' := (21, [some (.ref 134), some (.int p1), some (.int p2), some (.int p3)], [.ref 173, .int p3], h)) rfl ?_
    refine go_run 5 (F' := (27, [some (.ref 134), some (.int p1), some (.int p2), some (.int p3)], [.int ((6 * p1) + p2), .ref 173, .int p3], h)) rfl ?_
    refine go_iald rfl (by decide) c173 b_6 rfl ?_
    refine go_run 0 (F' := (28, [some (.ref 134), some (.int p1), some (.int p2), some (.int p3)], [.int (f173 (Int32.toNatClampNeg ((6 * p1) + p2))), .int p3], h)) rfl ?_
    refine go_step rfl rfl ?_
    rw [if_pos q7]
    refine go_run 0 (F' := (35, [some (.ref 134), some (.int p1), some (.int p2), some (.int p3)], [], h)) rfl ?_
    refine go_run 1 (F' := (36, [some (.ref 134), some (.int p1), some (.int p2), some (.int p3)], [.int 0], h)) rfl ?_
    exact go_end rfl rfl
  refine go_run 0 (F' := (8, [some (.ref 134), some (.int p1), some (.int p2), some (.int p3)], [.int 0, .ref 134], h)) rfl ?_
  refine go_pf rfl c134 (Nat.le_of_ble_eq_true rfl) rfl rfl ?_
  refine go_run 0 (F' := (11, [some (.ref 134), some (.int p1), some (.int p2), some (.int p3)], [], (List.set h 134 (mo 0 ty fa wh ch it at_ bad co de 0 st sz tp am bm mn rm sp be wo)))) rfl ?_
  refine go_run 1 (F' := (12, [some (.ref 134), some (.int p1), some (.int p2), some (.int p3)], [.ref 134], (List.set h 134 (mo 0 ty fa wh ch it at_ bad co de 0 st sz tp am bm mn rm sp be wo)))) rfl ?_
  refine go_gf rfl (gs_self c134) rfl ?_
  refine go_run 0 (F' := (15, [some (.ref 134), some (.int p1), some (.int p2), some (.int p3)], [.int 0], (List.set h 134 (mo 0 ty fa wh ch it at_ bad co de 0 st sz tp am bm mn rm sp be wo)))) rfl ?_
  refine go_run 2 (F' := (19, [some (.ref 134), some (.int p1), some (.int p2), some (.int p3)], [.ref 134], (List.set h 134 (mo 0 ty fa wh ch it at_ bad co de 0 st sz tp am bm mn rm sp be wo)))) rfl ?_
  refine go_gf rfl (gs_self c134) rfl ?_
  refine go_run 0 (F' := (22, [some (.ref 134), some (.int p1), some (.int p2), some (.int p3)], [.ref 175], (List.set h 134 (mo 0 ty fa wh ch it at_ bad co de 0 st sz tp am bm mn rm sp be wo)))) rfl ?_
  refine go_run 9 (F' := (33, [some (.ref 134), some (.int p1), some (.int p2), some (.int p3)], [.int ((8 * ((6 * p1) + p2)) + p3), .ref 175], (List.set h 134 (mo 0 ty fa wh ch it at_ bad co de 0 st sz tp am bm mn rm sp be wo)))) rfl ?_
  refine go_bald rfl (by decide) (gs_ne (by decide) c175) b_8 rfl ?_
  refine go_run 0 (F' := (34, [some (.ref 134), some (.int p1), some (.int p2), some (.int p3)], [.int (f175 (Int32.toNatClampNeg ((8 * ((6 * p1) + p2)) + p3)))], (List.set h 134 (mo 0 ty fa wh ch it at_ bad co de 0 st sz tp am bm mn rm sp be wo)))) rfl ?_
  refine go_step rfl rfl ?_
  rw [if_pos q8]
  refine go_run 0 (F' := (41, [some (.ref 134), some (.int p1), some (.int p2), some (.int p3)], [], (List.set h 134 (mo 0 ty fa wh ch it at_ bad co de 0 st sz tp am bm mn rm sp be wo)))) rfl ?_
  refine go_run 1 (F' := (42, [some (.ref 134), some (.int p1), some (.int p2), some (.int p3)], [.int 0], (List.set h 134 (mo 0 ty fa wh ch it at_ bad co de 0 st sz tp am bm mn rm sp be wo)))) rfl ?_
  exact go_end rfl rfl
set_option maxRecDepth 100000 in
theorem um_label_9 {X : ie_X} {d : Nat} {h : ie_H} {p1 p2 p3 t_ ty fa wh ch it at_ bad co de st sz tp am bm mn rm sp be wo : Int32} {f173 f175 : Nat → Int32} (c134 : h[134]? = some (mo t_ ty fa wh ch it at_ bad co de 0 st sz tp am bm mn rm sp be wo)) (c173 : h[173]? = some (.inl (0, 36, .inl f173))) (c175 : h[175]? = some (.inl (2, 288, .inl f175))) (q1 : ¬ (p1 < 0)) (q2 : p1 ≤ 5) (q3 : ¬ (p2 < 0)) (q4 : p2 ≤ 5) (q5 : ¬ (p1 = p2)) (q6 : ¬ (p3 < 0)) (b_6 : 0 ≤ Int32.toInt ((6 * p1) + p2) ∧ Int32.toInt ((6 * p1) + p2) < (36 : Int)) (q7 : p3 < f173 (Int32.toNatClampNeg ((6 * p1) + p2))) (b_8 : 0 ≤ Int32.toInt ((8 * ((6 * p1) + p2)) + p3) ∧ Int32.toInt ((8 * ((6 * p1) + p2)) + p3) < (288 : Int)) (q8 : ¬ (f175 (Int32.toNatClampNeg ((8 * ((6 * p1) + p2)) + p3)) = 0)) : Go X (d + 3) 216 (0, ie_en 216 [.ref 134, .int p1, .int p2, .int p3], [], h) (.inl (some (.int 1))) (List.set h 134 (mo 0 ty fa wh ch it at_ bad co de 0 st sz tp am bm mn rm sp be wo)) := by
  refine go_run 0 (F' := (0, [some (.ref 134), some (.int p1), some (.int p2), some (.int p3)], [], h)) rfl ?_
  refine go_run 5 (F' := (5, [some (.ref 134), some (.int p1), some (.int p2), some (.int p3)], [.int p3, .int p2, .int p1, .ref 134, .ref 134], h)) rfl ?_
  refine go_call (m' := 215) (v := some (.int 0)) (h1 := h) rfl (by simp only [ie_step, ie_iv, List.drop, c134, mo, if_true]; rfl) ⟨rfl, Nat.le_of_ble_eq_true rfl⟩ ?_ ?_
  · refine go_run 0 (F' := (0, [some (.ref 134), some (.int p1), some (.int p2), some (.int p3)], [], h)) rfl ?_
    refine go_run 2 (F' := (2, [some (.ref 134), some (.int p1), some (.int p2), some (.int p3)], [.int p2, .int p1], h)) rfl ?_
    refine go_call (m' := 213) (v := some (.int 0)) (h1 := h) rfl rfl ⟨rfl, Nat.le_of_ble_eq_true rfl⟩ ?_ ?_
    · refine go_run 0 (F' := (0, [some (.int p1), some (.int p2)], [], h)) rfl ?_
      refine go_run 1 (F' := (1, [some (.int p1), some (.int p2)], [.int p1], h)) rfl ?_
      refine go_call (m' := 183) (v := some (.int 0)) (h1 := h) rfl rfl ⟨rfl, Nat.le_of_ble_eq_true rfl⟩ ?_ ?_
      · refine go_run 0 (F' := (0, [some (.int p1)], [], h)) rfl ?_
        refine go_run 1 (F' := (1, [some (.int p1)], [.int p1], h)) rfl ?_
        refine go_step rfl rfl ?_
        rw [if_neg q1]
        refine go_run 0 (F' := (4, [some (.int p1)], [], h)) rfl ?_
        refine go_run 2 (F' := (6, [some (.int p1)], [.int 5, .int p1], h)) rfl ?_
        refine go_step rfl rfl ?_
        rw [if_pos q2]
        refine go_run 0 (F' := (13, [some (.int p1)], [], h)) rfl ?_
        refine go_run 1 (F' := (14, [some (.int p1)], [.int 0], h)) rfl ?_
        exact go_end rfl rfl
      refine go_run 0 (F' := (4, [some (.int p1), some (.int p2)], [.int 0], h)) rfl ?_
      refine go_run 2 (F' := (8, [some (.int p1), some (.int p2)], [.int p2], h)) rfl ?_
      refine go_call (m' := 183) (v := some (.int 0)) (h1 := h) rfl rfl ⟨rfl, Nat.le_of_ble_eq_true rfl⟩ ?_ ?_
      · refine go_run 0 (F' := (0, [some (.int p2)], [], h)) rfl ?_
        refine go_run 1 (F' := (1, [some (.int p2)], [.int p2], h)) rfl ?_
        refine go_step rfl rfl ?_
        rw [if_neg q3]
        refine go_run 0 (F' := (4, [some (.int p2)], [], h)) rfl ?_
        refine go_run 2 (F' := (6, [some (.int p2)], [.int 5, .int p2], h)) rfl ?_
        refine go_step rfl rfl ?_
        rw [if_pos q4]
        refine go_run 0 (F' := (13, [some (.int p2)], [], h)) rfl ?_
        refine go_run 1 (F' := (14, [some (.int p2)], [.int 0], h)) rfl ?_
        exact go_end rfl rfl
      refine go_run 0 (F' := (11, [some (.int p1), some (.int p2)], [.int 0], h)) rfl ?_
      refine go_run 3 (F' := (16, [some (.int p1), some (.int p2)], [.int p2, .int p1], h)) rfl ?_
      refine go_step rfl rfl ?_
      rw [if_neg q5]
      refine go_run 0 (F' := (23, [some (.int p1), some (.int p2)], [], h)) rfl ?_
      refine go_run 1 (F' := (24, [some (.int p1), some (.int p2)], [.int 0], h)) rfl ?_
      exact go_end rfl rfl
    refine go_run 0 (F' := (5, [some (.ref 134), some (.int p1), some (.int p2), some (.int p3)], [.int 0], h)) rfl ?_
    refine go_run 2 (F' := (13, [some (.ref 134), some (.int p1), some (.int p2), some (.int p3)], [.int p3], h)) rfl ?_
    refine go_step rfl rfl ?_
    rw [if_neg q6]
    refine go_run 0 (F' := (16, [some (.ref 134), some (.int p1), some (.int p2), some (.int p3)], [], h)) rfl ?_
    refine go_run 2 (F' := (18, [some (.ref 134), some (.int p1), some (.int p2), some (.int p3)], [.ref 134, .int p3], h)) rfl ?_
    refine go_gf rfl c134 rfl ?_
    refine go_run 0 (F' := (21, [some (.ref 134), some (.int p1), some (.int p2), some (.int p3)], [.ref 173, .int p3], h)) rfl ?_
    refine go_run 5 (F' := (27, [some (.ref 134), some (.int p1), some (.int p2), some (.int p3)], [.int ((6 * p1) + p2), .ref 173, .int p3], h)) rfl ?_
    refine go_iald rfl (by decide) c173 b_6 rfl ?_
    refine go_run 0 (F' := (28, [some (.ref 134), some (.int p1), some (.int p2), some (.int p3)], [.int (f173 (Int32.toNatClampNeg ((6 * p1) + p2))), .int p3], h)) rfl ?_
    refine go_step rfl rfl ?_
    rw [if_pos q7]
    refine go_run 0 (F' := (35, [some (.ref 134), some (.int p1), some (.int p2), some (.int p3)], [], h)) rfl ?_
    refine go_run 1 (F' := (36, [some (.ref 134), some (.int p1), some (.int p2), some (.int p3)], [.int 0], h)) rfl ?_
    exact go_end rfl rfl
  refine go_run 0 (F' := (8, [some (.ref 134), some (.int p1), some (.int p2), some (.int p3)], [.int 0, .ref 134], h)) rfl ?_
  refine go_pf rfl c134 (Nat.le_of_ble_eq_true rfl) rfl rfl ?_
  refine go_run 0 (F' := (11, [some (.ref 134), some (.int p1), some (.int p2), some (.int p3)], [], (List.set h 134 (mo 0 ty fa wh ch it at_ bad co de 0 st sz tp am bm mn rm sp be wo)))) rfl ?_
  refine go_run 1 (F' := (12, [some (.ref 134), some (.int p1), some (.int p2), some (.int p3)], [.ref 134], (List.set h 134 (mo 0 ty fa wh ch it at_ bad co de 0 st sz tp am bm mn rm sp be wo)))) rfl ?_
  refine go_gf rfl (gs_self c134) rfl ?_
  refine go_run 0 (F' := (15, [some (.ref 134), some (.int p1), some (.int p2), some (.int p3)], [.int 0], (List.set h 134 (mo 0 ty fa wh ch it at_ bad co de 0 st sz tp am bm mn rm sp be wo)))) rfl ?_
  refine go_run 2 (F' := (19, [some (.ref 134), some (.int p1), some (.int p2), some (.int p3)], [.ref 134], (List.set h 134 (mo 0 ty fa wh ch it at_ bad co de 0 st sz tp am bm mn rm sp be wo)))) rfl ?_
  refine go_gf rfl (gs_self c134) rfl ?_
  refine go_run 0 (F' := (22, [some (.ref 134), some (.int p1), some (.int p2), some (.int p3)], [.ref 175], (List.set h 134 (mo 0 ty fa wh ch it at_ bad co de 0 st sz tp am bm mn rm sp be wo)))) rfl ?_
  refine go_run 9 (F' := (33, [some (.ref 134), some (.int p1), some (.int p2), some (.int p3)], [.int ((8 * ((6 * p1) + p2)) + p3), .ref 175], (List.set h 134 (mo 0 ty fa wh ch it at_ bad co de 0 st sz tp am bm mn rm sp be wo)))) rfl ?_
  refine go_bald rfl (by decide) (gs_ne (by decide) c175) b_8 rfl ?_
  refine go_run 0 (F' := (34, [some (.ref 134), some (.int p1), some (.int p2), some (.int p3)], [.int (f175 (Int32.toNatClampNeg ((8 * ((6 * p1) + p2)) + p3)))], (List.set h 134 (mo 0 ty fa wh ch it at_ bad co de 0 st sz tp am bm mn rm sp be wo)))) rfl ?_
  refine go_step rfl rfl ?_
  rw [if_neg q8]
  refine go_run 0 (F' := (37, [some (.ref 134), some (.int p1), some (.int p2), some (.int p3)], [], (List.set h 134 (mo 0 ty fa wh ch it at_ bad co de 0 st sz tp am bm mn rm sp be wo)))) rfl ?_
  refine go_run 2 (F' := (42, [some (.ref 134), some (.int p1), some (.int p2), some (.int p3)], [.int 1], (List.set h 134 (mo 0 ty fa wh ch it at_ bad co de 0 st sz tp am bm mn rm sp be wo)))) rfl ?_
  exact go_end rfl rfl
set_option maxRecDepth 100000 in
theorem uc_whole_1 {X : ie_X} {d : Nat} {h : ie_H} {p1 nl cf cw : Int32} (c0 : h[0]? = some (.inr (0, [.ref 1, .int nl, .int cf, .int cw, .null, .ref 2, .ref 133]))) (q1 : p1 < 0) : Go X (d + 1) 127 (0, ie_en 127 [.ref 0, .int p1, .ref 177], [], h) (.inl (some (.int 1))) (h ++ [.inr (11, [])]) := by
  refine go_run 0 (F' := (0, [some (.ref 0), some (.int p1), some (.ref 177), none], [], h)) rfl ?_
  refine go_run 4 (F' := (4, [some (.ref 0), some (.int p1), some (.ref 177), none], [.int p1, .ref 0, .int 0, .ref 177], h)) rfl ?_
  refine go_catch (m' := 128) (ci := 11) (h1 := (h ++ [.inr (11, [])])) rfl (by simp only [ie_step, ie_iv, List.drop, c0, if_true]; rfl) ⟨rfl, Nat.le_of_ble_eq_true rfl⟩ rfl rfl rfl ?_ ?_
  · refine go_run 0 (F' := (0, [some (.ref 0), some (.int p1), none, none], [], h)) rfl ?_
    refine go_run 1 (F' := (1, [some (.ref 0), some (.int p1), none, none], [.int p1], h)) rfl ?_
    refine go_step rfl rfl ?_
    rw [if_pos q1]
    refine go_run 0 (F' := (11, [some (.ref 0), some (.int p1), none, none], [], h)) rfl ?_
    exact go_end rfl rfl
  refine go_run 0 (F' := (13, [some (.ref 0), some (.int p1), some (.ref 177), none], [], (h ++ [.inr (11, [])]))) rfl ?_
  refine go_run 1 (F' := (14, [some (.ref 0), some (.int p1), some (.ref 177), none], [.int 1], (h ++ [.inr (11, [])]))) rfl ?_
  exact go_end rfl rfl
set_option maxRecDepth 100000 in
theorem uc_whole_2 {X : ie_X} {d : Nat} {h : ie_H} {p1 nl cf cw : Int32} (c0 : h[0]? = some (.inr (0, [.ref 1, .int nl, .int cf, .int cw, .null, .ref 2, .ref 133]))) (q1 : ¬ (p1 < 0)) (q2 : p1 ≤ 2000) : Go X (d + 2) 127 (0, ie_en 127 [.ref 0, .int p1, .ref 177], [], h) (.inl (some (.int 2))) (h ++ [.inr (12, [])]) := by
  refine go_run 0 (F' := (0, [some (.ref 0), some (.int p1), some (.ref 177), none], [], h)) rfl ?_
  refine go_run 4 (F' := (4, [some (.ref 0), some (.int p1), some (.ref 177), none], [.int p1, .ref 0, .int 0, .ref 177], h)) rfl ?_
  refine go_catch (m' := 128) (ci := 12) (h1 := (h ++ [.inr (12, [])])) rfl (by simp only [ie_step, ie_iv, List.drop, c0, if_true]; rfl) ⟨rfl, Nat.le_of_ble_eq_true rfl⟩ rfl rfl rfl ?_ ?_
  · refine go_run 0 (F' := (0, [some (.ref 0), some (.int p1), none, none], [], h)) rfl ?_
    refine go_run 1 (F' := (1, [some (.ref 0), some (.int p1), none, none], [.int p1], h)) rfl ?_
    refine go_step rfl rfl ?_
    rw [if_neg q1]
    refine go_run 0 (F' := (4, [some (.ref 0), some (.int p1), none, none], [], h)) rfl ?_
    refine go_run 2 (F' := (8, [some (.ref 0), some (.int p1), none, none], [.int 2000, .int p1], h)) rfl ?_
    refine go_step rfl rfl ?_
    rw [if_pos q2]
    refine go_run 0 (F' := (19, [some (.ref 0), some (.int p1), none, none], [], h)) rfl ?_
    refine go_run 1 (F' := (20, [some (.ref 0), some (.int p1), none, none], [.ref 0], h)) rfl ?_
    refine go_out (m' := 81) rfl (by simp only [ie_step, ie_iv, List.drop, c0, if_true]; rfl) ⟨rfl, Nat.le_of_ble_eq_true rfl⟩ rfl rfl ?_
    · refine go_run 0 (F' := (0, [some (.ref 0)], [], h)) rfl ?_
      refine go_run 1 (F' := (1, [some (.ref 0)], [.ref 0], h)) rfl ?_
      refine go_gf rfl c0 rfl ?_
      refine go_run 0 (F' := (4, [some (.ref 0)], [.null], h)) rfl ?_
      refine go_run 1 (F' := (7, [some (.ref 0)], [], h)) rfl ?_
      exact go_end rfl rfl
  refine go_run 0 (F' := (16, [some (.ref 0), some (.int p1), some (.ref 177), none], [], (h ++ [.inr (12, [])]))) rfl ?_
  refine go_run 1 (F' := (17, [some (.ref 0), some (.int p1), some (.ref 177), none], [.int 2], (h ++ [.inr (12, [])]))) rfl ?_
  exact go_end rfl rfl
set_option maxRecDepth 100000 in
theorem uc_whole_3 {X : ie_X} {d : Nat} {h : ie_H} {p1 nl cf cw : Int32} (c0 : h[0]? = some (.inr (0, [.ref 1, .int nl, .int cf, .int cw, .null, .ref 2, .ref 133]))) (q1 : ¬ (p1 < 0)) (q2 : ¬ (p1 ≤ 2000)) : Go X (d + 1) 127 (0, ie_en 127 [.ref 0, .int p1, .ref 177], [], h) (.inl (some (.int 1))) (h ++ [.inr (11, [])]) := by
  refine go_run 0 (F' := (0, [some (.ref 0), some (.int p1), some (.ref 177), none], [], h)) rfl ?_
  refine go_run 4 (F' := (4, [some (.ref 0), some (.int p1), some (.ref 177), none], [.int p1, .ref 0, .int 0, .ref 177], h)) rfl ?_
  refine go_catch (m' := 128) (ci := 11) (h1 := (h ++ [.inr (11, [])])) rfl (by simp only [ie_step, ie_iv, List.drop, c0, if_true]; rfl) ⟨rfl, Nat.le_of_ble_eq_true rfl⟩ rfl rfl rfl ?_ ?_
  · refine go_run 0 (F' := (0, [some (.ref 0), some (.int p1), none, none], [], h)) rfl ?_
    refine go_run 1 (F' := (1, [some (.ref 0), some (.int p1), none, none], [.int p1], h)) rfl ?_
    refine go_step rfl rfl ?_
    rw [if_neg q1]
    refine go_run 0 (F' := (4, [some (.ref 0), some (.int p1), none, none], [], h)) rfl ?_
    refine go_run 2 (F' := (8, [some (.ref 0), some (.int p1), none, none], [.int 2000, .int p1], h)) rfl ?_
    refine go_step rfl rfl ?_
    rw [if_neg q2]
    refine go_run 0 (F' := (11, [some (.ref 0), some (.int p1), none, none], [], h)) rfl ?_
    exact go_end rfl rfl
  refine go_run 0 (F' := (13, [some (.ref 0), some (.int p1), some (.ref 177), none], [], (h ++ [.inr (11, [])]))) rfl ?_
  refine go_run 1 (F' := (14, [some (.ref 0), some (.int p1), some (.ref 177), none], [.int 1], (h ++ [.inr (11, [])]))) rfl ?_
  exact go_end rfl rfl
set_option maxRecDepth 100000 in
theorem um_whole_1 {X : ie_X} {d : Nat} {h : ie_H} {p1 t_ ty fa wh ch it at_ bad co de st sz tp am bm mn rm sp be wo : Int32} (c134 : h[134]? = some (mo t_ ty fa wh ch it at_ bad co de 0 st sz tp am bm mn rm sp be wo)) (q1 : p1 < 0) : Go X (d) 217 (0, ie_en 217 [.ref 134, .int p1], [], h) (.inl (some (.int 0))) (List.set h 134 (mo 1 ty fa wh ch it at_ bad co de 0 st sz tp am bm mn rm sp be wo)) := by
  refine go_run 0 (F' := (0, [some (.ref 134), some (.int p1), none, none, none], [], h)) rfl ?_
  refine go_run 2 (F' := (2, [some (.ref 134), some (.int p1), none, none, none], [.int p1, .ref 134], h)) rfl ?_
  refine go_step rfl rfl ?_
  rw [if_pos q1]
  refine go_run 0 (F' := (12, [some (.ref 134), some (.int p1), none, none, none], [.ref 134], h)) rfl ?_
  refine go_run 2 (F' := (28, [some (.ref 134), some (.int p1), none, none, none], [.int 1, .ref 134], h)) rfl ?_
  refine go_pf rfl c134 (Nat.le_of_ble_eq_true rfl) rfl rfl ?_
  refine go_run 0 (F' := (31, [some (.ref 134), some (.int p1), none, none, none], [], (List.set h 134 (mo 1 ty fa wh ch it at_ bad co de 0 st sz tp am bm mn rm sp be wo)))) rfl ?_
  refine go_run 1 (F' := (32, [some (.ref 134), some (.int p1), none, none, none], [.ref 134], (List.set h 134 (mo 1 ty fa wh ch it at_ bad co de 0 st sz tp am bm mn rm sp be wo)))) rfl ?_
  refine go_gf rfl (gs_self c134) rfl ?_
  refine go_run 0 (F' := (35, [some (.ref 134), some (.int p1), none, none, none], [.int 1], (List.set h 134 (mo 1 ty fa wh ch it at_ bad co de 0 st sz tp am bm mn rm sp be wo)))) rfl ?_
  refine go_run 2 (F' := (39, [some (.ref 134), some (.int p1), none, none, none], [.int 0], (List.set h 134 (mo 1 ty fa wh ch it at_ bad co de 0 st sz tp am bm mn rm sp be wo)))) rfl ?_
  exact go_end rfl rfl
set_option maxRecDepth 100000 in
theorem um_whole_2 {X : ie_X} {d : Nat} {h : ie_H} {p1 t_ ty fa wh ch it at_ bad co de st sz tp am bm mn rm sp be wo : Int32} (c134 : h[134]? = some (mo t_ ty fa wh ch it at_ bad co de 0 st sz tp am bm mn rm sp be wo)) (q1 : ¬ (p1 < 0)) (q2 : p1 ≤ 2000) : Go X (d) 217 (0, ie_en 217 [.ref 134, .int p1], [], h) (.inl (some (.int 0))) (List.set h 134 (mo 2 ty fa wh ch it at_ bad co de 0 st sz tp am bm mn rm sp be wo)) := by
  refine go_run 0 (F' := (0, [some (.ref 134), some (.int p1), none, none, none], [], h)) rfl ?_
  refine go_run 2 (F' := (2, [some (.ref 134), some (.int p1), none, none, none], [.int p1, .ref 134], h)) rfl ?_
  refine go_step rfl rfl ?_
  rw [if_neg q1]
  refine go_run 0 (F' := (5, [some (.ref 134), some (.int p1), none, none, none], [.ref 134], h)) rfl ?_
  refine go_run 2 (F' := (9, [some (.ref 134), some (.int p1), none, none, none], [.int 2000, .int p1, .ref 134], h)) rfl ?_
  refine go_step rfl rfl ?_
  rw [if_pos q2]
  refine go_run 0 (F' := (16, [some (.ref 134), some (.int p1), none, none, none], [.ref 134], h)) rfl ?_
  refine go_run 1 (F' := (17, [some (.ref 134), some (.int p1), none, none, none], [.ref 134, .ref 134], h)) rfl ?_
  refine go_gf rfl c134 rfl ?_
  refine go_run 0 (F' := (20, [some (.ref 134), some (.int p1), none, none, none], [.int 0, .ref 134], h)) rfl ?_
  refine go_run 3 (F' := (28, [some (.ref 134), some (.int p1), none, none, none], [.int 2, .ref 134], h)) rfl ?_
  refine go_pf rfl c134 (Nat.le_of_ble_eq_true rfl) rfl rfl ?_
  refine go_run 0 (F' := (31, [some (.ref 134), some (.int p1), none, none, none], [], (List.set h 134 (mo 2 ty fa wh ch it at_ bad co de 0 st sz tp am bm mn rm sp be wo)))) rfl ?_
  refine go_run 1 (F' := (32, [some (.ref 134), some (.int p1), none, none, none], [.ref 134], (List.set h 134 (mo 2 ty fa wh ch it at_ bad co de 0 st sz tp am bm mn rm sp be wo)))) rfl ?_
  refine go_gf rfl (gs_self c134) rfl ?_
  refine go_run 0 (F' := (35, [some (.ref 134), some (.int p1), none, none, none], [.int 2], (List.set h 134 (mo 2 ty fa wh ch it at_ bad co de 0 st sz tp am bm mn rm sp be wo)))) rfl ?_
  refine go_run 2 (F' := (39, [some (.ref 134), some (.int p1), none, none, none], [.int 0], (List.set h 134 (mo 2 ty fa wh ch it at_ bad co de 0 st sz tp am bm mn rm sp be wo)))) rfl ?_
  exact go_end rfl rfl
set_option maxRecDepth 100000 in
theorem um_whole_3 {X : ie_X} {d : Nat} {h : ie_H} {p1 t_ ty fa wh ch it at_ bad co de st sz tp am bm mn rm sp be wo : Int32} (c134 : h[134]? = some (mo t_ ty fa wh ch it at_ bad co de 0 st sz tp am bm mn rm sp be wo)) (q1 : ¬ (p1 < 0)) (q2 : ¬ (p1 ≤ 2000)) : Go X (d) 217 (0, ie_en 217 [.ref 134, .int p1], [], h) (.inl (some (.int 0))) (List.set h 134 (mo 1 ty fa wh ch it at_ bad co de 0 st sz tp am bm mn rm sp be wo)) := by
  refine go_run 0 (F' := (0, [some (.ref 134), some (.int p1), none, none, none], [], h)) rfl ?_
  refine go_run 2 (F' := (2, [some (.ref 134), some (.int p1), none, none, none], [.int p1, .ref 134], h)) rfl ?_
  refine go_step rfl rfl ?_
  rw [if_neg q1]
  refine go_run 0 (F' := (5, [some (.ref 134), some (.int p1), none, none, none], [.ref 134], h)) rfl ?_
  refine go_run 2 (F' := (9, [some (.ref 134), some (.int p1), none, none, none], [.int 2000, .int p1, .ref 134], h)) rfl ?_
  refine go_step rfl rfl ?_
  rw [if_neg q2]
  refine go_run 0 (F' := (12, [some (.ref 134), some (.int p1), none, none, none], [.ref 134], h)) rfl ?_
  refine go_run 2 (F' := (28, [some (.ref 134), some (.int p1), none, none, none], [.int 1, .ref 134], h)) rfl ?_
  refine go_pf rfl c134 (Nat.le_of_ble_eq_true rfl) rfl rfl ?_
  refine go_run 0 (F' := (31, [some (.ref 134), some (.int p1), none, none, none], [], (List.set h 134 (mo 1 ty fa wh ch it at_ bad co de 0 st sz tp am bm mn rm sp be wo)))) rfl ?_
  refine go_run 1 (F' := (32, [some (.ref 134), some (.int p1), none, none, none], [.ref 134], (List.set h 134 (mo 1 ty fa wh ch it at_ bad co de 0 st sz tp am bm mn rm sp be wo)))) rfl ?_
  refine go_gf rfl (gs_self c134) rfl ?_
  refine go_run 0 (F' := (35, [some (.ref 134), some (.int p1), none, none, none], [.int 1], (List.set h 134 (mo 1 ty fa wh ch it at_ bad co de 0 st sz tp am bm mn rm sp be wo)))) rfl ?_
  refine go_run 2 (F' := (39, [some (.ref 134), some (.int p1), none, none, none], [.int 0], (List.set h 134 (mo 1 ty fa wh ch it at_ bad co de 0 st sz tp am bm mn rm sp be wo)))) rfl ?_
  exact go_end rfl rfl
set_option maxRecDepth 100000 in
theorem uc_wanted_1 {X : ie_X} {d : Nat} {h : ie_H} {p1 p2 nl cf cw : Int32} (c0 : h[0]? = some (.inr (0, [.ref 1, .int nl, .int cf, .int cw, .null, .ref 2, .ref 133]))) (q1 : p1 < 0) : Go X (d + 3) 131 (0, ie_en 131 [.ref 0, .int p1, .int p2, .ref 177], [], h) (.inl (some (.int 1))) (h ++ [.inr (14, [])]) := by
  refine go_run 0 (F' := (0, [some (.ref 0), some (.int p1), some (.int p2), some (.ref 177), none], [], h)) rfl ?_
  refine go_run 5 (F' := (5, [some (.ref 0), some (.int p1), some (.int p2), some (.ref 177), none], [.int p2, .int p1, .ref 0, .int 0, .ref 177], h)) rfl ?_
  refine go_catch (m' := 132) (ci := 14) (h1 := (h ++ [.inr (14, [])])) rfl (by simp only [ie_step, ie_iv, List.drop, c0, if_true]; rfl) ⟨rfl, Nat.le_of_ble_eq_true rfl⟩ rfl rfl rfl ?_ ?_
  · refine go_run 0 (F' := (0, [some (.ref 0), some (.int p1), some (.int p2)], [], h)) rfl ?_
    refine go_run 2 (F' := (2, [some (.ref 0), some (.int p1), some (.int p2)], [.int p2, .int p1], h)) rfl ?_
    refine go_out (m' := 86) rfl rfl ⟨rfl, Nat.le_of_ble_eq_true rfl⟩ rfl rfl ?_
    · refine go_run 0 (F' := (0, [some (.int p1), some (.int p2)], [], h)) rfl ?_
      refine go_run 1 (F' := (1, [some (.int p1), some (.int p2)], [.int p1], h)) rfl ?_
      refine go_call (m' := 33) (v := some (.int 0)) (h1 := h) rfl rfl ⟨rfl, Nat.le_of_ble_eq_true rfl⟩ ?_ ?_
      · refine go_run 0 (F' := (0, [some (.int p1)], [], h)) rfl ?_
        refine go_run 1 (F' := (1, [some (.int p1)], [.int p1], h)) rfl ?_
        refine go_step rfl rfl ?_
        rw [if_pos q1]
        refine go_run 0 (F' := (14, [some (.int p1)], [], h)) rfl ?_
        refine go_run 1 (F' := (15, [some (.int p1)], [.int 0], h)) rfl ?_
        exact go_end rfl rfl
      refine go_run 0 (F' := (4, [some (.int p1), some (.int p2)], [.int 0], h)) rfl ?_
      refine go_run 1 (F' := (16, [some (.int p1), some (.int p2)], [], h)) rfl ?_
      exact go_end rfl rfl
  refine go_run 0 (F' := (15, [some (.ref 0), some (.int p1), some (.int p2), some (.ref 177), none], [], (h ++ [.inr (14, [])]))) rfl ?_
  refine go_run 1 (F' := (16, [some (.ref 0), some (.int p1), some (.int p2), some (.ref 177), none], [.int 1], (h ++ [.inr (14, [])]))) rfl ?_
  exact go_end rfl rfl
set_option maxRecDepth 100000 in
theorem uc_wanted_2 {X : ie_X} {d : Nat} {h : ie_H} {p1 p2 nl cf cw : Int32} (c0 : h[0]? = some (.inr (0, [.ref 1, .int nl, .int cf, .int cw, .null, .ref 2, .ref 133]))) (q1 : ¬ (p1 < 0)) (q2 : 6 ≤ p1) : Go X (d + 3) 131 (0, ie_en 131 [.ref 0, .int p1, .int p2, .ref 177], [], h) (.inl (some (.int 1))) (h ++ [.inr (14, [])]) := by
  refine go_run 0 (F' := (0, [some (.ref 0), some (.int p1), some (.int p2), some (.ref 177), none], [], h)) rfl ?_
  refine go_run 5 (F' := (5, [some (.ref 0), some (.int p1), some (.int p2), some (.ref 177), none], [.int p2, .int p1, .ref 0, .int 0, .ref 177], h)) rfl ?_
  refine go_catch (m' := 132) (ci := 14) (h1 := (h ++ [.inr (14, [])])) rfl (by simp only [ie_step, ie_iv, List.drop, c0, if_true]; rfl) ⟨rfl, Nat.le_of_ble_eq_true rfl⟩ rfl rfl rfl ?_ ?_
  · refine go_run 0 (F' := (0, [some (.ref 0), some (.int p1), some (.int p2)], [], h)) rfl ?_
    refine go_run 2 (F' := (2, [some (.ref 0), some (.int p1), some (.int p2)], [.int p2, .int p1], h)) rfl ?_
    refine go_out (m' := 86) rfl rfl ⟨rfl, Nat.le_of_ble_eq_true rfl⟩ rfl rfl ?_
    · refine go_run 0 (F' := (0, [some (.int p1), some (.int p2)], [], h)) rfl ?_
      refine go_run 1 (F' := (1, [some (.int p1), some (.int p2)], [.int p1], h)) rfl ?_
      refine go_call (m' := 33) (v := some (.int 0)) (h1 := h) rfl rfl ⟨rfl, Nat.le_of_ble_eq_true rfl⟩ ?_ ?_
      · refine go_run 0 (F' := (0, [some (.int p1)], [], h)) rfl ?_
        refine go_run 1 (F' := (1, [some (.int p1)], [.int p1], h)) rfl ?_
        refine go_step rfl rfl ?_
        rw [if_neg q1]
        refine go_run 0 (F' := (4, [some (.int p1)], [], h)) rfl ?_
        refine go_run 2 (F' := (7, [some (.int p1)], [.int 6, .int p1], h)) rfl ?_
        refine go_step rfl rfl ?_
        rw [if_pos q2]
        refine go_run 0 (F' := (14, [some (.int p1)], [], h)) rfl ?_
        refine go_run 1 (F' := (15, [some (.int p1)], [.int 0], h)) rfl ?_
        exact go_end rfl rfl
      refine go_run 0 (F' := (4, [some (.int p1), some (.int p2)], [.int 0], h)) rfl ?_
      refine go_run 1 (F' := (16, [some (.int p1), some (.int p2)], [], h)) rfl ?_
      exact go_end rfl rfl
  refine go_run 0 (F' := (15, [some (.ref 0), some (.int p1), some (.int p2), some (.ref 177), none], [], (h ++ [.inr (14, [])]))) rfl ?_
  refine go_run 1 (F' := (16, [some (.ref 0), some (.int p1), some (.int p2), some (.ref 177), none], [.int 1], (h ++ [.inr (14, [])]))) rfl ?_
  exact go_end rfl rfl
set_option maxRecDepth 100000 in
theorem uc_wanted_3 {X : ie_X} {d : Nat} {h : ie_H} {p1 p2 nl cf cw : Int32} (c0 : h[0]? = some (.inr (0, [.ref 1, .int nl, .int cf, .int cw, .null, .ref 2, .ref 133]))) (q1 : ¬ (p1 < 0)) (q2 : ¬ (6 ≤ p1)) (q3 : p2 < 0) : Go X (d + 3) 131 (0, ie_en 131 [.ref 0, .int p1, .int p2, .ref 177], [], h) (.inl (some (.int 1))) (h ++ [.inr (14, [])]) := by
  refine go_run 0 (F' := (0, [some (.ref 0), some (.int p1), some (.int p2), some (.ref 177), none], [], h)) rfl ?_
  refine go_run 5 (F' := (5, [some (.ref 0), some (.int p1), some (.int p2), some (.ref 177), none], [.int p2, .int p1, .ref 0, .int 0, .ref 177], h)) rfl ?_
  refine go_catch (m' := 132) (ci := 14) (h1 := (h ++ [.inr (14, [])])) rfl (by simp only [ie_step, ie_iv, List.drop, c0, if_true]; rfl) ⟨rfl, Nat.le_of_ble_eq_true rfl⟩ rfl rfl rfl ?_ ?_
  · refine go_run 0 (F' := (0, [some (.ref 0), some (.int p1), some (.int p2)], [], h)) rfl ?_
    refine go_run 2 (F' := (2, [some (.ref 0), some (.int p1), some (.int p2)], [.int p2, .int p1], h)) rfl ?_
    refine go_out (m' := 86) rfl rfl ⟨rfl, Nat.le_of_ble_eq_true rfl⟩ rfl rfl ?_
    · refine go_run 0 (F' := (0, [some (.int p1), some (.int p2)], [], h)) rfl ?_
      refine go_run 1 (F' := (1, [some (.int p1), some (.int p2)], [.int p1], h)) rfl ?_
      refine go_call (m' := 33) (v := some (.int 1)) (h1 := h) rfl rfl ⟨rfl, Nat.le_of_ble_eq_true rfl⟩ ?_ ?_
      · refine go_run 0 (F' := (0, [some (.int p1)], [], h)) rfl ?_
        refine go_run 1 (F' := (1, [some (.int p1)], [.int p1], h)) rfl ?_
        refine go_step rfl rfl ?_
        rw [if_neg q1]
        refine go_run 0 (F' := (4, [some (.int p1)], [], h)) rfl ?_
        refine go_run 2 (F' := (7, [some (.int p1)], [.int 6, .int p1], h)) rfl ?_
        refine go_step rfl rfl ?_
        rw [if_neg q2]
        refine go_run 0 (F' := (10, [some (.int p1)], [], h)) rfl ?_
        refine go_run 2 (F' := (15, [some (.int p1)], [.int 1], h)) rfl ?_
        exact go_end rfl rfl
      refine go_run 0 (F' := (4, [some (.int p1), some (.int p2)], [.int 1], h)) rfl ?_
      refine go_run 2 (F' := (8, [some (.int p1), some (.int p2)], [.int p2], h)) rfl ?_
      refine go_step rfl rfl ?_
      rw [if_pos q3]
      refine go_run 0 (F' := (16, [some (.int p1), some (.int p2)], [], h)) rfl ?_
      exact go_end rfl rfl
  refine go_run 0 (F' := (15, [some (.ref 0), some (.int p1), some (.int p2), some (.ref 177), none], [], (h ++ [.inr (14, [])]))) rfl ?_
  refine go_run 1 (F' := (16, [some (.ref 0), some (.int p1), some (.int p2), some (.ref 177), none], [.int 1], (h ++ [.inr (14, [])]))) rfl ?_
  exact go_end rfl rfl
set_option maxRecDepth 100000 in
theorem uc_wanted_4 {X : ie_X} {d : Nat} {h : ie_H} {p1 p2 nl cf cw : Int32} {f133 : Nat → Int32} {fo : Nat → Int64} (c0 : h[0]? = some (.inr (0, [.ref 1, .int nl, .int cf, .int cw, .null, .ref 2, .ref 133]))) (c133 : h[133]? = some (.inl (0, 24, .inl f133))) (c177 : h[177]? = some (.inl (3, 1, .inr (.inl fo)))) (q1 : ¬ (p1 < 0)) (q2 : ¬ (6 ≤ p1)) (q3 : ¬ (p2 < 0)) (q4 : p2 < 4) (b_4 : 0 ≤ Int32.toInt ((p1 * 4) + p2) ∧ Int32.toInt ((p1 * 4) + p2) < (24 : Int)) : Go X (d + 3) 131 (0, ie_en 131 [.ref 0, .int p1, .int p2, .ref 177], [], h) (.inl (some (.int 0))) (List.set h 177 (.inl (3, 1, .inr (.inl (vp_updL fo 0 (Int32.toInt64 (f133 (Int32.toNatClampNeg ((p1 * 4) + p2))))))))) := by
  refine go_run 0 (F' := (0, [some (.ref 0), some (.int p1), some (.int p2), some (.ref 177), none], [], h)) rfl ?_
  refine go_run 5 (F' := (5, [some (.ref 0), some (.int p1), some (.int p2), some (.ref 177), none], [.int p2, .int p1, .ref 0, .int 0, .ref 177], h)) rfl ?_
  refine go_call (m' := 132) (v := some (.int (f133 (Int32.toNatClampNeg ((p1 * 4) + p2))))) (h1 := h) rfl (by simp only [ie_step, ie_iv, List.drop, c0, if_true]; rfl) ⟨rfl, Nat.le_of_ble_eq_true rfl⟩ ?_ ?_
  · refine go_run 0 (F' := (0, [some (.ref 0), some (.int p1), some (.int p2)], [], h)) rfl ?_
    refine go_run 2 (F' := (2, [some (.ref 0), some (.int p1), some (.int p2)], [.int p2, .int p1], h)) rfl ?_
    refine go_call (m' := 86) (v := none) (h1 := h) rfl rfl ⟨rfl, Nat.le_of_ble_eq_true rfl⟩ ?_ ?_
    · refine go_run 0 (F' := (0, [some (.int p1), some (.int p2)], [], h)) rfl ?_
      refine go_run 1 (F' := (1, [some (.int p1), some (.int p2)], [.int p1], h)) rfl ?_
      refine go_call (m' := 33) (v := some (.int 1)) (h1 := h) rfl rfl ⟨rfl, Nat.le_of_ble_eq_true rfl⟩ ?_ ?_
      · refine go_run 0 (F' := (0, [some (.int p1)], [], h)) rfl ?_
        refine go_run 1 (F' := (1, [some (.int p1)], [.int p1], h)) rfl ?_
        refine go_step rfl rfl ?_
        rw [if_neg q1]
        refine go_run 0 (F' := (4, [some (.int p1)], [], h)) rfl ?_
        refine go_run 2 (F' := (7, [some (.int p1)], [.int 6, .int p1], h)) rfl ?_
        refine go_step rfl rfl ?_
        rw [if_neg q2]
        refine go_run 0 (F' := (10, [some (.int p1)], [], h)) rfl ?_
        refine go_run 2 (F' := (15, [some (.int p1)], [.int 1], h)) rfl ?_
        exact go_end rfl rfl
      refine go_run 0 (F' := (4, [some (.int p1), some (.int p2)], [.int 1], h)) rfl ?_
      refine go_run 2 (F' := (8, [some (.int p1), some (.int p2)], [.int p2], h)) rfl ?_
      refine go_step rfl rfl ?_
      rw [if_neg q3]
      refine go_run 0 (F' := (11, [some (.int p1), some (.int p2)], [], h)) rfl ?_
      refine go_run 2 (F' := (13, [some (.int p1), some (.int p2)], [.int 4, .int p2], h)) rfl ?_
      refine go_step rfl rfl ?_
      rw [if_pos q4]
      refine go_run 0 (F' := (24, [some (.int p1), some (.int p2)], [], h)) rfl ?_
      exact go_end rfl rfl
    refine go_run 0 (F' := (5, [some (.ref 0), some (.int p1), some (.int p2)], [], h)) rfl ?_
    refine go_run 1 (F' := (6, [some (.ref 0), some (.int p1), some (.int p2)], [.ref 0], h)) rfl ?_
    refine go_gf rfl c0 rfl ?_
    refine go_run 0 (F' := (9, [some (.ref 0), some (.int p1), some (.int p2)], [.ref 133], h)) rfl ?_
    refine go_run 2 (F' := (11, [some (.ref 0), some (.int p1), some (.int p2)], [.int p2, .int p1, .ref 133], h)) rfl ?_
    refine go_call (m' := 88) (v := some (.int ((p1 * 4) + p2))) (h1 := h) rfl rfl ⟨rfl, Nat.le_of_ble_eq_true rfl⟩ ?_ ?_
    · refine go_run 0 (F' := (0, [some (.int p1), some (.int p2)], [], h)) rfl ?_
      refine go_run 5 (F' := (5, [some (.int p1), some (.int p2)], [.int ((p1 * 4) + p2)], h)) rfl ?_
      exact go_end rfl rfl
    refine go_run 0 (F' := (14, [some (.ref 0), some (.int p1), some (.int p2)], [.int ((p1 * 4) + p2), .ref 133], h)) rfl ?_
    refine go_iald rfl (by decide) c133 b_4 rfl ?_
    refine go_run 0 (F' := (15, [some (.ref 0), some (.int p1), some (.int p2)], [.int (f133 (Int32.toNatClampNeg ((p1 * 4) + p2)))], h)) rfl ?_
    exact go_end rfl rfl
  refine go_run 0 (F' := (8, [some (.ref 0), some (.int p1), some (.int p2), some (.ref 177), none], [.int (f133 (Int32.toNatClampNeg ((p1 * 4) + p2))), .int 0, .ref 177], h)) rfl ?_
  refine go_run 1 (F' := (9, [some (.ref 0), some (.int p1), some (.int p2), some (.ref 177), none], [.long (Int32.toInt64 (f133 (Int32.toNatClampNeg ((p1 * 4) + p2)))), .int 0, .ref 177], h)) rfl ?_
  refine go_last rfl c177 (by decide) rfl ?_
  refine go_run 0 (F' := (10, [some (.ref 0), some (.int p1), some (.int p2), some (.ref 177), none], [], (List.set h 177 (.inl (3, 1, .inr (.inl (vp_updL fo 0 (Int32.toInt64 (f133 (Int32.toNatClampNeg ((p1 * 4) + p2))))))))))) rfl ?_
  refine go_run 2 (F' := (18, [some (.ref 0), some (.int p1), some (.int p2), some (.ref 177), none], [.int 0], (List.set h 177 (.inl (3, 1, .inr (.inl (vp_updL fo 0 (Int32.toInt64 (f133 (Int32.toNatClampNeg ((p1 * 4) + p2))))))))))) rfl ?_
  exact go_end rfl rfl
set_option maxRecDepth 100000 in
theorem uc_wanted_5 {X : ie_X} {d : Nat} {h : ie_H} {p1 p2 nl cf cw : Int32} (c0 : h[0]? = some (.inr (0, [.ref 1, .int nl, .int cf, .int cw, .null, .ref 2, .ref 133]))) (q1 : ¬ (p1 < 0)) (q2 : ¬ (6 ≤ p1)) (q3 : ¬ (p2 < 0)) (q4 : ¬ (p2 < 4)) : Go X (d + 3) 131 (0, ie_en 131 [.ref 0, .int p1, .int p2, .ref 177], [], h) (.inl (some (.int 1))) (h ++ [.inr (14, [])]) := by
  refine go_run 0 (F' := (0, [some (.ref 0), some (.int p1), some (.int p2), some (.ref 177), none], [], h)) rfl ?_
  refine go_run 5 (F' := (5, [some (.ref 0), some (.int p1), some (.int p2), some (.ref 177), none], [.int p2, .int p1, .ref 0, .int 0, .ref 177], h)) rfl ?_
  refine go_catch (m' := 132) (ci := 14) (h1 := (h ++ [.inr (14, [])])) rfl (by simp only [ie_step, ie_iv, List.drop, c0, if_true]; rfl) ⟨rfl, Nat.le_of_ble_eq_true rfl⟩ rfl rfl rfl ?_ ?_
  · refine go_run 0 (F' := (0, [some (.ref 0), some (.int p1), some (.int p2)], [], h)) rfl ?_
    refine go_run 2 (F' := (2, [some (.ref 0), some (.int p1), some (.int p2)], [.int p2, .int p1], h)) rfl ?_
    refine go_out (m' := 86) rfl rfl ⟨rfl, Nat.le_of_ble_eq_true rfl⟩ rfl rfl ?_
    · refine go_run 0 (F' := (0, [some (.int p1), some (.int p2)], [], h)) rfl ?_
      refine go_run 1 (F' := (1, [some (.int p1), some (.int p2)], [.int p1], h)) rfl ?_
      refine go_call (m' := 33) (v := some (.int 1)) (h1 := h) rfl rfl ⟨rfl, Nat.le_of_ble_eq_true rfl⟩ ?_ ?_
      · refine go_run 0 (F' := (0, [some (.int p1)], [], h)) rfl ?_
        refine go_run 1 (F' := (1, [some (.int p1)], [.int p1], h)) rfl ?_
        refine go_step rfl rfl ?_
        rw [if_neg q1]
        refine go_run 0 (F' := (4, [some (.int p1)], [], h)) rfl ?_
        refine go_run 2 (F' := (7, [some (.int p1)], [.int 6, .int p1], h)) rfl ?_
        refine go_step rfl rfl ?_
        rw [if_neg q2]
        refine go_run 0 (F' := (10, [some (.int p1)], [], h)) rfl ?_
        refine go_run 2 (F' := (15, [some (.int p1)], [.int 1], h)) rfl ?_
        exact go_end rfl rfl
      refine go_run 0 (F' := (4, [some (.int p1), some (.int p2)], [.int 1], h)) rfl ?_
      refine go_run 2 (F' := (8, [some (.int p1), some (.int p2)], [.int p2], h)) rfl ?_
      refine go_step rfl rfl ?_
      rw [if_neg q3]
      refine go_run 0 (F' := (11, [some (.int p1), some (.int p2)], [], h)) rfl ?_
      refine go_run 2 (F' := (13, [some (.int p1), some (.int p2)], [.int 4, .int p2], h)) rfl ?_
      refine go_step rfl rfl ?_
      rw [if_neg q4]
      refine go_run 0 (F' := (16, [some (.int p1), some (.int p2)], [], h)) rfl ?_
      exact go_end rfl rfl
  refine go_run 0 (F' := (15, [some (.ref 0), some (.int p1), some (.int p2), some (.ref 177), none], [], (h ++ [.inr (14, [])]))) rfl ?_
  refine go_run 1 (F' := (16, [some (.ref 0), some (.int p1), some (.int p2), some (.ref 177), none], [.int 1], (h ++ [.inr (14, [])]))) rfl ?_
  exact go_end rfl rfl
set_option maxRecDepth 100000 in
theorem um_wanted_1 {X : ie_X} {d : Nat} {h : ie_H} {p1 p2 t_ ty fa wh ch it at_ bad co de st sz tp am bm mn rm sp be wo : Int32} (c134 : h[134]? = some (mo t_ ty fa wh ch it at_ bad co de 0 st sz tp am bm mn rm sp be wo)) (q1 : p1 < 0) : Go X (d + 1) 221 (0, ie_en 221 [.ref 134, .int p1, .int p2], [], h) (.inl (some (.int 0))) (List.set h 134 (mo 1 ty fa wh ch it at_ bad co de 0 st sz tp am bm mn rm sp be wo)) := by
  refine go_run 0 (F' := (0, [some (.ref 134), some (.int p1), some (.int p2)], [], h)) rfl ?_
  refine go_run 2 (F' := (2, [some (.ref 134), some (.int p1), some (.int p2)], [.int p1, .ref 134], h)) rfl ?_
  refine go_call (m' := 183) (v := some (.int 1)) (h1 := h) rfl rfl ⟨rfl, Nat.le_of_ble_eq_true rfl⟩ ?_ ?_
  · refine go_run 0 (F' := (0, [some (.int p1)], [], h)) rfl ?_
    refine go_run 1 (F' := (1, [some (.int p1)], [.int p1], h)) rfl ?_
    refine go_step rfl rfl ?_
    rw [if_pos q1]
    refine go_run 0 (F' := (9, [some (.int p1)], [], h)) rfl ?_
    refine go_run 2 (F' := (14, [some (.int p1)], [.int 1], h)) rfl ?_
    exact go_end rfl rfl
  refine go_run 0 (F' := (5, [some (.ref 134), some (.int p1), some (.int p2)], [.int 1, .ref 134], h)) rfl ?_
  refine go_run 3 (F' := (20, [some (.ref 134), some (.int p1), some (.int p2)], [.int 1, .ref 134], h)) rfl ?_
  refine go_pf rfl c134 (Nat.le_of_ble_eq_true rfl) rfl rfl ?_
  refine go_run 0 (F' := (23, [some (.ref 134), some (.int p1), some (.int p2)], [], (List.set h 134 (mo 1 ty fa wh ch it at_ bad co de 0 st sz tp am bm mn rm sp be wo)))) rfl ?_
  refine go_run 1 (F' := (24, [some (.ref 134), some (.int p1), some (.int p2)], [.ref 134], (List.set h 134 (mo 1 ty fa wh ch it at_ bad co de 0 st sz tp am bm mn rm sp be wo)))) rfl ?_
  refine go_gf rfl (gs_self c134) rfl ?_
  refine go_run 0 (F' := (27, [some (.ref 134), some (.int p1), some (.int p2)], [.int 1], (List.set h 134 (mo 1 ty fa wh ch it at_ bad co de 0 st sz tp am bm mn rm sp be wo)))) rfl ?_
  refine go_run 2 (F' := (44, [some (.ref 134), some (.int p1), some (.int p2)], [.int 0], (List.set h 134 (mo 1 ty fa wh ch it at_ bad co de 0 st sz tp am bm mn rm sp be wo)))) rfl ?_
  exact go_end rfl rfl
set_option maxRecDepth 100000 in
theorem um_wanted_2 {X : ie_X} {d : Nat} {h : ie_H} {p1 p2 t_ ty fa wh ch it at_ bad co de st sz tp am bm mn rm sp be wo : Int32} (c134 : h[134]? = some (mo t_ ty fa wh ch it at_ bad co de 0 st sz tp am bm mn rm sp be wo)) (q1 : ¬ (p1 < 0)) (q2 : ¬ (p1 ≤ 5)) : Go X (d + 1) 221 (0, ie_en 221 [.ref 134, .int p1, .int p2], [], h) (.inl (some (.int 0))) (List.set h 134 (mo 1 ty fa wh ch it at_ bad co de 0 st sz tp am bm mn rm sp be wo)) := by
  refine go_run 0 (F' := (0, [some (.ref 134), some (.int p1), some (.int p2)], [], h)) rfl ?_
  refine go_run 2 (F' := (2, [some (.ref 134), some (.int p1), some (.int p2)], [.int p1, .ref 134], h)) rfl ?_
  refine go_call (m' := 183) (v := some (.int 1)) (h1 := h) rfl rfl ⟨rfl, Nat.le_of_ble_eq_true rfl⟩ ?_ ?_
  · refine go_run 0 (F' := (0, [some (.int p1)], [], h)) rfl ?_
    refine go_run 1 (F' := (1, [some (.int p1)], [.int p1], h)) rfl ?_
    refine go_step rfl rfl ?_
    rw [if_neg q1]
    refine go_run 0 (F' := (4, [some (.int p1)], [], h)) rfl ?_
    refine go_run 2 (F' := (6, [some (.int p1)], [.int 5, .int p1], h)) rfl ?_
    refine go_step rfl rfl ?_
    rw [if_neg q2]
    refine go_run 0 (F' := (9, [some (.int p1)], [], h)) rfl ?_
    refine go_run 2 (F' := (14, [some (.int p1)], [.int 1], h)) rfl ?_
    exact go_end rfl rfl
  refine go_run 0 (F' := (5, [some (.ref 134), some (.int p1), some (.int p2)], [.int 1, .ref 134], h)) rfl ?_
  refine go_run 3 (F' := (20, [some (.ref 134), some (.int p1), some (.int p2)], [.int 1, .ref 134], h)) rfl ?_
  refine go_pf rfl c134 (Nat.le_of_ble_eq_true rfl) rfl rfl ?_
  refine go_run 0 (F' := (23, [some (.ref 134), some (.int p1), some (.int p2)], [], (List.set h 134 (mo 1 ty fa wh ch it at_ bad co de 0 st sz tp am bm mn rm sp be wo)))) rfl ?_
  refine go_run 1 (F' := (24, [some (.ref 134), some (.int p1), some (.int p2)], [.ref 134], (List.set h 134 (mo 1 ty fa wh ch it at_ bad co de 0 st sz tp am bm mn rm sp be wo)))) rfl ?_
  refine go_gf rfl (gs_self c134) rfl ?_
  refine go_run 0 (F' := (27, [some (.ref 134), some (.int p1), some (.int p2)], [.int 1], (List.set h 134 (mo 1 ty fa wh ch it at_ bad co de 0 st sz tp am bm mn rm sp be wo)))) rfl ?_
  refine go_run 2 (F' := (44, [some (.ref 134), some (.int p1), some (.int p2)], [.int 0], (List.set h 134 (mo 1 ty fa wh ch it at_ bad co de 0 st sz tp am bm mn rm sp be wo)))) rfl ?_
  exact go_end rfl rfl
set_option maxRecDepth 100000 in
theorem um_wanted_3 {X : ie_X} {d : Nat} {h : ie_H} {p1 p2 t_ ty fa wh ch it at_ bad co de st sz tp am bm mn rm sp be wo : Int32} (c134 : h[134]? = some (mo t_ ty fa wh ch it at_ bad co de 0 st sz tp am bm mn rm sp be wo)) (q1 : ¬ (p1 < 0)) (q2 : p1 ≤ 5) (q3 : p2 < 0) : Go X (d + 1) 221 (0, ie_en 221 [.ref 134, .int p1, .int p2], [], h) (.inl (some (.int 0))) (List.set h 134 (mo 1 ty fa wh ch it at_ bad co de 0 st sz tp am bm mn rm sp be wo)) := by
  refine go_run 0 (F' := (0, [some (.ref 134), some (.int p1), some (.int p2)], [], h)) rfl ?_
  refine go_run 2 (F' := (2, [some (.ref 134), some (.int p1), some (.int p2)], [.int p1, .ref 134], h)) rfl ?_
  refine go_call (m' := 183) (v := some (.int 0)) (h1 := h) rfl rfl ⟨rfl, Nat.le_of_ble_eq_true rfl⟩ ?_ ?_
  · refine go_run 0 (F' := (0, [some (.int p1)], [], h)) rfl ?_
    refine go_run 1 (F' := (1, [some (.int p1)], [.int p1], h)) rfl ?_
    refine go_step rfl rfl ?_
    rw [if_neg q1]
    refine go_run 0 (F' := (4, [some (.int p1)], [], h)) rfl ?_
    refine go_run 2 (F' := (6, [some (.int p1)], [.int 5, .int p1], h)) rfl ?_
    refine go_step rfl rfl ?_
    rw [if_pos q2]
    refine go_run 0 (F' := (13, [some (.int p1)], [], h)) rfl ?_
    refine go_run 1 (F' := (14, [some (.int p1)], [.int 0], h)) rfl ?_
    exact go_end rfl rfl
  refine go_run 0 (F' := (5, [some (.ref 134), some (.int p1), some (.int p2)], [.int 0, .ref 134], h)) rfl ?_
  refine go_run 2 (F' := (9, [some (.ref 134), some (.int p1), some (.int p2)], [.int p2, .ref 134], h)) rfl ?_
  refine go_call (m' := 186) (v := some (.int 1)) (h1 := h) rfl rfl ⟨rfl, Nat.le_of_ble_eq_true rfl⟩ ?_ ?_
  · refine go_run 0 (F' := (0, [some (.int p2)], [], h)) rfl ?_
    refine go_run 1 (F' := (1, [some (.int p2)], [.int p2], h)) rfl ?_
    refine go_step rfl rfl ?_
    rw [if_pos q3]
    refine go_run 0 (F' := (9, [some (.int p2)], [], h)) rfl ?_
    refine go_run 2 (F' := (14, [some (.int p2)], [.int 1], h)) rfl ?_
    exact go_end rfl rfl
  refine go_run 0 (F' := (12, [some (.ref 134), some (.int p1), some (.int p2)], [.int 1, .ref 134], h)) rfl ?_
  refine go_run 3 (F' := (20, [some (.ref 134), some (.int p1), some (.int p2)], [.int 1, .ref 134], h)) rfl ?_
  refine go_pf rfl c134 (Nat.le_of_ble_eq_true rfl) rfl rfl ?_
  refine go_run 0 (F' := (23, [some (.ref 134), some (.int p1), some (.int p2)], [], (List.set h 134 (mo 1 ty fa wh ch it at_ bad co de 0 st sz tp am bm mn rm sp be wo)))) rfl ?_
  refine go_run 1 (F' := (24, [some (.ref 134), some (.int p1), some (.int p2)], [.ref 134], (List.set h 134 (mo 1 ty fa wh ch it at_ bad co de 0 st sz tp am bm mn rm sp be wo)))) rfl ?_
  refine go_gf rfl (gs_self c134) rfl ?_
  refine go_run 0 (F' := (27, [some (.ref 134), some (.int p1), some (.int p2)], [.int 1], (List.set h 134 (mo 1 ty fa wh ch it at_ bad co de 0 st sz tp am bm mn rm sp be wo)))) rfl ?_
  refine go_run 2 (F' := (44, [some (.ref 134), some (.int p1), some (.int p2)], [.int 0], (List.set h 134 (mo 1 ty fa wh ch it at_ bad co de 0 st sz tp am bm mn rm sp be wo)))) rfl ?_
  exact go_end rfl rfl
set_option maxRecDepth 100000 in
theorem um_wanted_4 {X : ie_X} {d : Nat} {h : ie_H} {p1 p2 t_ ty fa wh ch it at_ bad co de st sz tp am bm mn rm sp be wo : Int32} {f169 : Nat → Int32} (c134 : h[134]? = some (mo t_ ty fa wh ch it at_ bad co de 0 st sz tp am bm mn rm sp be wo)) (c169 : h[169]? = some (.inl (0, 24, .inl f169))) (q1 : ¬ (p1 < 0)) (q2 : p1 ≤ 5) (q3 : ¬ (p2 < 0)) (q4 : p2 ≤ 3) (b_4 : 0 ≤ Int32.toInt ((4 * p1) + p2) ∧ Int32.toInt ((4 * p1) + p2) < (24 : Int)) : Go X (d + 1) 221 (0, ie_en 221 [.ref 134, .int p1, .int p2], [], h) (.inl (some (.int (f169 (Int32.toNatClampNeg ((4 * p1) + p2)))))) (List.set h 134 (mo 0 ty fa wh ch it at_ bad co de 0 st sz tp am bm mn rm sp be wo)) := by
  refine go_run 0 (F' := (0, [some (.ref 134), some (.int p1), some (.int p2)], [], h)) rfl ?_
  refine go_run 2 (F' := (2, [some (.ref 134), some (.int p1), some (.int p2)], [.int p1, .ref 134], h)) rfl ?_
  refine go_call (m' := 183) (v := some (.int 0)) (h1 := h) rfl rfl ⟨rfl, Nat.le_of_ble_eq_true rfl⟩ ?_ ?_
  · refine go_run 0 (F' := (0, [some (.int p1)], [], h)) rfl ?_
    refine go_run 1 (F' := (1, [some (.int p1)], [.int p1], h)) rfl ?_
    refine go_step rfl rfl ?_
    rw [if_neg q1]
    refine go_run 0 (F' := (4, [some (.int p1)], [], h)) rfl ?_
    refine go_run 2 (F' := (6, [some (.int p1)], [.int 5, .int p1], h)) rfl ?_
    refine go_step rfl rfl ?_
    rw [if_pos q2]
    refine go_run 0 (F' := (13, [some (.int p1)], [], h)) rfl ?_
    refine go_run 1 (F' := (14, [some (.int p1)], [.int 0], h)) rfl ?_
    exact go_end rfl rfl
  refine go_run 0 (F' := (5, [some (.ref 134), some (.int p1), some (.int p2)], [.int 0, .ref 134], h)) rfl ?_
  refine go_run 2 (F' := (9, [some (.ref 134), some (.int p1), some (.int p2)], [.int p2, .ref 134], h)) rfl ?_
  refine go_call (m' := 186) (v := some (.int 0)) (h1 := h) rfl rfl ⟨rfl, Nat.le_of_ble_eq_true rfl⟩ ?_ ?_
  · refine go_run 0 (F' := (0, [some (.int p2)], [], h)) rfl ?_
    refine go_run 1 (F' := (1, [some (.int p2)], [.int p2], h)) rfl ?_
    refine go_step rfl rfl ?_
    rw [if_neg q3]
    refine go_run 0 (F' := (4, [some (.int p2)], [], h)) rfl ?_
    refine go_run 2 (F' := (6, [some (.int p2)], [.int 3, .int p2], h)) rfl ?_
    refine go_step rfl rfl ?_
    rw [if_pos q4]
    refine go_run 0 (F' := (13, [some (.int p2)], [], h)) rfl ?_
    refine go_run 1 (F' := (14, [some (.int p2)], [.int 0], h)) rfl ?_
    exact go_end rfl rfl
  refine go_run 0 (F' := (12, [some (.ref 134), some (.int p1), some (.int p2)], [.int 0, .ref 134], h)) rfl ?_
  refine go_run 2 (F' := (20, [some (.ref 134), some (.int p1), some (.int p2)], [.int 0, .ref 134], h)) rfl ?_
  refine go_pf rfl c134 (Nat.le_of_ble_eq_true rfl) rfl rfl ?_
  refine go_run 0 (F' := (23, [some (.ref 134), some (.int p1), some (.int p2)], [], (List.set h 134 (mo 0 ty fa wh ch it at_ bad co de 0 st sz tp am bm mn rm sp be wo)))) rfl ?_
  refine go_run 1 (F' := (24, [some (.ref 134), some (.int p1), some (.int p2)], [.ref 134], (List.set h 134 (mo 0 ty fa wh ch it at_ bad co de 0 st sz tp am bm mn rm sp be wo)))) rfl ?_
  refine go_gf rfl (gs_self c134) rfl ?_
  refine go_run 0 (F' := (27, [some (.ref 134), some (.int p1), some (.int p2)], [.int 0], (List.set h 134 (mo 0 ty fa wh ch it at_ bad co de 0 st sz tp am bm mn rm sp be wo)))) rfl ?_
  refine go_run 2 (F' := (31, [some (.ref 134), some (.int p1), some (.int p2)], [.ref 134], (List.set h 134 (mo 0 ty fa wh ch it at_ bad co de 0 st sz tp am bm mn rm sp be wo)))) rfl ?_
  refine go_gf rfl (gs_self c134) rfl ?_
  refine go_run 0 (F' := (34, [some (.ref 134), some (.int p1), some (.int p2)], [.ref 169], (List.set h 134 (mo 0 ty fa wh ch it at_ bad co de 0 st sz tp am bm mn rm sp be wo)))) rfl ?_
  refine go_run 5 (F' := (39, [some (.ref 134), some (.int p1), some (.int p2)], [.int ((4 * p1) + p2), .ref 169], (List.set h 134 (mo 0 ty fa wh ch it at_ bad co de 0 st sz tp am bm mn rm sp be wo)))) rfl ?_
  refine go_iald rfl (by decide) (gs_ne (by decide) c169) b_4 rfl ?_
  refine go_run 0 (F' := (40, [some (.ref 134), some (.int p1), some (.int p2)], [.int (f169 (Int32.toNatClampNeg ((4 * p1) + p2)))], (List.set h 134 (mo 0 ty fa wh ch it at_ bad co de 0 st sz tp am bm mn rm sp be wo)))) rfl ?_
  refine go_run 1 (F' := (44, [some (.ref 134), some (.int p1), some (.int p2)], [.int (f169 (Int32.toNatClampNeg ((4 * p1) + p2)))], (List.set h 134 (mo 0 ty fa wh ch it at_ bad co de 0 st sz tp am bm mn rm sp be wo)))) rfl ?_
  exact go_end rfl rfl
set_option maxRecDepth 100000 in
theorem um_wanted_5 {X : ie_X} {d : Nat} {h : ie_H} {p1 p2 t_ ty fa wh ch it at_ bad co de st sz tp am bm mn rm sp be wo : Int32} (c134 : h[134]? = some (mo t_ ty fa wh ch it at_ bad co de 0 st sz tp am bm mn rm sp be wo)) (q1 : ¬ (p1 < 0)) (q2 : p1 ≤ 5) (q3 : ¬ (p2 < 0)) (q4 : ¬ (p2 ≤ 3)) : Go X (d + 1) 221 (0, ie_en 221 [.ref 134, .int p1, .int p2], [], h) (.inl (some (.int 0))) (List.set h 134 (mo 1 ty fa wh ch it at_ bad co de 0 st sz tp am bm mn rm sp be wo)) := by
  refine go_run 0 (F' := (0, [some (.ref 134), some (.int p1), some (.int p2)], [], h)) rfl ?_
  refine go_run 2 (F' := (2, [some (.ref 134), some (.int p1), some (.int p2)], [.int p1, .ref 134], h)) rfl ?_
  refine go_call (m' := 183) (v := some (.int 0)) (h1 := h) rfl rfl ⟨rfl, Nat.le_of_ble_eq_true rfl⟩ ?_ ?_
  · refine go_run 0 (F' := (0, [some (.int p1)], [], h)) rfl ?_
    refine go_run 1 (F' := (1, [some (.int p1)], [.int p1], h)) rfl ?_
    refine go_step rfl rfl ?_
    rw [if_neg q1]
    refine go_run 0 (F' := (4, [some (.int p1)], [], h)) rfl ?_
    refine go_run 2 (F' := (6, [some (.int p1)], [.int 5, .int p1], h)) rfl ?_
    refine go_step rfl rfl ?_
    rw [if_pos q2]
    refine go_run 0 (F' := (13, [some (.int p1)], [], h)) rfl ?_
    refine go_run 1 (F' := (14, [some (.int p1)], [.int 0], h)) rfl ?_
    exact go_end rfl rfl
  refine go_run 0 (F' := (5, [some (.ref 134), some (.int p1), some (.int p2)], [.int 0, .ref 134], h)) rfl ?_
  refine go_run 2 (F' := (9, [some (.ref 134), some (.int p1), some (.int p2)], [.int p2, .ref 134], h)) rfl ?_
  refine go_call (m' := 186) (v := some (.int 1)) (h1 := h) rfl rfl ⟨rfl, Nat.le_of_ble_eq_true rfl⟩ ?_ ?_
  · refine go_run 0 (F' := (0, [some (.int p2)], [], h)) rfl ?_
    refine go_run 1 (F' := (1, [some (.int p2)], [.int p2], h)) rfl ?_
    refine go_step rfl rfl ?_
    rw [if_neg q3]
    refine go_run 0 (F' := (4, [some (.int p2)], [], h)) rfl ?_
    refine go_run 2 (F' := (6, [some (.int p2)], [.int 3, .int p2], h)) rfl ?_
    refine go_step rfl rfl ?_
    rw [if_neg q4]
    refine go_run 0 (F' := (9, [some (.int p2)], [], h)) rfl ?_
    refine go_run 2 (F' := (14, [some (.int p2)], [.int 1], h)) rfl ?_
    exact go_end rfl rfl
  refine go_run 0 (F' := (12, [some (.ref 134), some (.int p1), some (.int p2)], [.int 1, .ref 134], h)) rfl ?_
  refine go_run 3 (F' := (20, [some (.ref 134), some (.int p1), some (.int p2)], [.int 1, .ref 134], h)) rfl ?_
  refine go_pf rfl c134 (Nat.le_of_ble_eq_true rfl) rfl rfl ?_
  refine go_run 0 (F' := (23, [some (.ref 134), some (.int p1), some (.int p2)], [], (List.set h 134 (mo 1 ty fa wh ch it at_ bad co de 0 st sz tp am bm mn rm sp be wo)))) rfl ?_
  refine go_run 1 (F' := (24, [some (.ref 134), some (.int p1), some (.int p2)], [.ref 134], (List.set h 134 (mo 1 ty fa wh ch it at_ bad co de 0 st sz tp am bm mn rm sp be wo)))) rfl ?_
  refine go_gf rfl (gs_self c134) rfl ?_
  refine go_run 0 (F' := (27, [some (.ref 134), some (.int p1), some (.int p2)], [.int 1], (List.set h 134 (mo 1 ty fa wh ch it at_ bad co de 0 st sz tp am bm mn rm sp be wo)))) rfl ?_
  refine go_run 2 (F' := (44, [some (.ref 134), some (.int p1), some (.int p2)], [.int 0], (List.set h 134 (mo 1 ty fa wh ch it at_ bad co de 0 st sz tp am bm mn rm sp be wo)))) rfl ?_
  exact go_end rfl rfl
set_option maxRecDepth 100000 in
theorem uc_room_1 {X : ie_X} {d : Nat} {h : ie_H} {p1 nl cf cw : Int32} (c0 : h[0]? = some (.inr (0, [.ref 1, .int nl, .int cf, .int cw, .null, .ref 2, .ref 133]))) (q1 : p1 < 1) : Go X (d + 1) 89 (0, ie_en 89 [.ref 0, .int p1], [], h) (.inl (some (.int 1))) (h ++ [.inr (11, [])]) := by
  refine go_run 0 (F' := (0, [some (.ref 0), some (.int p1), none], [], h)) rfl ?_
  refine go_run 2 (F' := (2, [some (.ref 0), some (.int p1), none], [.int p1, .ref 0], h)) rfl ?_
  refine go_catch (m' := 90) (ci := 11) (h1 := (h ++ [.inr (11, [])])) rfl (by simp only [ie_step, ie_iv, List.drop, c0, if_true]; rfl) ⟨rfl, Nat.le_of_ble_eq_true rfl⟩ rfl rfl rfl ?_ ?_
  · refine go_run 0 (F' := (0, [some (.ref 0), some (.int p1)], [], h)) rfl ?_
    refine go_run 2 (F' := (2, [some (.ref 0), some (.int p1)], [.int 1, .int p1], h)) rfl ?_
    refine go_step rfl rfl ?_
    rw [if_pos q1]
    refine go_run 0 (F' := (11, [some (.ref 0), some (.int p1)], [], h)) rfl ?_
    exact go_end rfl rfl
  refine go_run 0 (F' := (9, [some (.ref 0), some (.int p1), none], [], (h ++ [.inr (11, [])]))) rfl ?_
  refine go_run 1 (F' := (10, [some (.ref 0), some (.int p1), none], [.int 1], (h ++ [.inr (11, [])]))) rfl ?_
  exact go_end rfl rfl
set_option maxRecDepth 100000 in
theorem uc_room_2 {X : ie_X} {d : Nat} {h : ie_H} {p1 nl cf cw : Int32} (c0 : h[0]? = some (.inr (0, [.ref 1, .int nl, .int cf, .int cw, .null, .ref 2, .ref 133]))) (q1 : ¬ (p1 < 1)) (q2 : p1 ≤ 8) : Go X (d + 2) 89 (0, ie_en 89 [.ref 0, .int p1], [], h) (.inl (some (.int 2))) (h ++ [.inr (12, [])]) := by
  refine go_run 0 (F' := (0, [some (.ref 0), some (.int p1), none], [], h)) rfl ?_
  refine go_run 2 (F' := (2, [some (.ref 0), some (.int p1), none], [.int p1, .ref 0], h)) rfl ?_
  refine go_catch (m' := 90) (ci := 12) (h1 := (h ++ [.inr (12, [])])) rfl (by simp only [ie_step, ie_iv, List.drop, c0, if_true]; rfl) ⟨rfl, Nat.le_of_ble_eq_true rfl⟩ rfl rfl rfl ?_ ?_
  · refine go_run 0 (F' := (0, [some (.ref 0), some (.int p1)], [], h)) rfl ?_
    refine go_run 2 (F' := (2, [some (.ref 0), some (.int p1)], [.int 1, .int p1], h)) rfl ?_
    refine go_step rfl rfl ?_
    rw [if_neg q1]
    refine go_run 0 (F' := (5, [some (.ref 0), some (.int p1)], [], h)) rfl ?_
    refine go_run 2 (F' := (8, [some (.ref 0), some (.int p1)], [.int 8, .int p1], h)) rfl ?_
    refine go_step rfl rfl ?_
    rw [if_pos q2]
    refine go_run 0 (F' := (19, [some (.ref 0), some (.int p1)], [], h)) rfl ?_
    refine go_run 1 (F' := (20, [some (.ref 0), some (.int p1)], [.ref 0], h)) rfl ?_
    refine go_out (m' := 87) rfl (by simp only [ie_step, ie_iv, List.drop, c0, if_true]; rfl) ⟨rfl, Nat.le_of_ble_eq_true rfl⟩ rfl rfl ?_
    · refine go_run 0 (F' := (0, [some (.ref 0)], [], h)) rfl ?_
      refine go_run 1 (F' := (1, [some (.ref 0)], [.ref 0], h)) rfl ?_
      refine go_gf rfl c0 rfl ?_
      refine go_run 0 (F' := (4, [some (.ref 0)], [.null], h)) rfl ?_
      refine go_run 1 (F' := (17, [some (.ref 0)], [], h)) rfl ?_
      exact go_end rfl rfl
  refine go_run 0 (F' := (12, [some (.ref 0), some (.int p1), none], [], (h ++ [.inr (12, [])]))) rfl ?_
  refine go_run 1 (F' := (13, [some (.ref 0), some (.int p1), none], [.int 2], (h ++ [.inr (12, [])]))) rfl ?_
  exact go_end rfl rfl
set_option maxRecDepth 100000 in
theorem uc_room_3 {X : ie_X} {d : Nat} {h : ie_H} {p1 nl cf cw : Int32} (c0 : h[0]? = some (.inr (0, [.ref 1, .int nl, .int cf, .int cw, .null, .ref 2, .ref 133]))) (q1 : ¬ (p1 < 1)) (q2 : ¬ (p1 ≤ 8)) : Go X (d + 1) 89 (0, ie_en 89 [.ref 0, .int p1], [], h) (.inl (some (.int 1))) (h ++ [.inr (11, [])]) := by
  refine go_run 0 (F' := (0, [some (.ref 0), some (.int p1), none], [], h)) rfl ?_
  refine go_run 2 (F' := (2, [some (.ref 0), some (.int p1), none], [.int p1, .ref 0], h)) rfl ?_
  refine go_catch (m' := 90) (ci := 11) (h1 := (h ++ [.inr (11, [])])) rfl (by simp only [ie_step, ie_iv, List.drop, c0, if_true]; rfl) ⟨rfl, Nat.le_of_ble_eq_true rfl⟩ rfl rfl rfl ?_ ?_
  · refine go_run 0 (F' := (0, [some (.ref 0), some (.int p1)], [], h)) rfl ?_
    refine go_run 2 (F' := (2, [some (.ref 0), some (.int p1)], [.int 1, .int p1], h)) rfl ?_
    refine go_step rfl rfl ?_
    rw [if_neg q1]
    refine go_run 0 (F' := (5, [some (.ref 0), some (.int p1)], [], h)) rfl ?_
    refine go_run 2 (F' := (8, [some (.ref 0), some (.int p1)], [.int 8, .int p1], h)) rfl ?_
    refine go_step rfl rfl ?_
    rw [if_neg q2]
    refine go_run 0 (F' := (11, [some (.ref 0), some (.int p1)], [], h)) rfl ?_
    exact go_end rfl rfl
  refine go_run 0 (F' := (9, [some (.ref 0), some (.int p1), none], [], (h ++ [.inr (11, [])]))) rfl ?_
  refine go_run 1 (F' := (10, [some (.ref 0), some (.int p1), none], [.int 1], (h ++ [.inr (11, [])]))) rfl ?_
  exact go_end rfl rfl
set_option maxRecDepth 100000 in
theorem um_room_1 {X : ie_X} {d : Nat} {h : ie_H} {p1 t_ ty fa wh ch it at_ bad co de st sz tp am bm mn rm sp be wo : Int32} (c134 : h[134]? = some (mo t_ ty fa wh ch it at_ bad co de 0 st sz tp am bm mn rm sp be wo)) (q1 : p1 < 1) : Go X (d) 187 (0, ie_en 187 [.ref 134, .int p1], [], h) (.inl none) (List.set h 134 (mo 1 ty fa wh ch it at_ bad co de 0 st sz tp am bm mn rm sp be wo)) := by
  refine go_run 0 (F' := (0, [some (.ref 134), some (.int p1)], [], h)) rfl ?_
  refine go_run 3 (F' := (3, [some (.ref 134), some (.int p1)], [.int 1, .int p1, .ref 134], h)) rfl ?_
  refine go_step rfl rfl ?_
  rw [if_pos q1]
  refine go_run 0 (F' := (12, [some (.ref 134), some (.int p1)], [.ref 134], h)) rfl ?_
  refine go_run 2 (F' := (35, [some (.ref 134), some (.int p1)], [.int 1, .ref 134], h)) rfl ?_
  refine go_pf rfl c134 (Nat.le_of_ble_eq_true rfl) rfl rfl ?_
  refine go_run 0 (F' := (38, [some (.ref 134), some (.int p1)], [], (List.set h 134 (mo 1 ty fa wh ch it at_ bad co de 0 st sz tp am bm mn rm sp be wo)))) rfl ?_
  refine go_run 1 (F' := (39, [some (.ref 134), some (.int p1)], [.ref 134], (List.set h 134 (mo 1 ty fa wh ch it at_ bad co de 0 st sz tp am bm mn rm sp be wo)))) rfl ?_
  refine go_gf rfl (gs_self c134) rfl ?_
  refine go_run 0 (F' := (42, [some (.ref 134), some (.int p1)], [.int 1], (List.set h 134 (mo 1 ty fa wh ch it at_ bad co de 0 st sz tp am bm mn rm sp be wo)))) rfl ?_
  refine go_run 1 (F' := (50, [some (.ref 134), some (.int p1)], [], (List.set h 134 (mo 1 ty fa wh ch it at_ bad co de 0 st sz tp am bm mn rm sp be wo)))) rfl ?_
  exact go_end rfl rfl
set_option maxRecDepth 100000 in
theorem um_room_2 {X : ie_X} {d : Nat} {h : ie_H} {p1 t_ ty fa wh ch it at_ bad co de st sz tp am bm mn rm sp be wo : Int32} (c134 : h[134]? = some (mo t_ ty fa wh ch it at_ bad co de 0 st sz tp am bm mn rm sp be wo)) (q1 : ¬ (p1 < 1)) (q2 : p1 ≤ 8) : Go X (d) 187 (0, ie_en 187 [.ref 134, .int p1], [], h) (.inl none) (List.set h 134 (mo 2 ty fa wh ch it at_ bad co de 0 st sz tp am bm mn rm sp be wo)) := by
  refine go_run 0 (F' := (0, [some (.ref 134), some (.int p1)], [], h)) rfl ?_
  refine go_run 3 (F' := (3, [some (.ref 134), some (.int p1)], [.int 1, .int p1, .ref 134], h)) rfl ?_
  refine go_step rfl rfl ?_
  rw [if_neg q1]
  refine go_run 0 (F' := (6, [some (.ref 134), some (.int p1)], [.ref 134], h)) rfl ?_
  refine go_run 2 (F' := (9, [some (.ref 134), some (.int p1)], [.int 8, .int p1, .ref 134], h)) rfl ?_
  refine go_step rfl rfl ?_
  rw [if_pos q2]
  refine go_run 0 (F' := (16, [some (.ref 134), some (.int p1)], [.ref 134], h)) rfl ?_
  refine go_run 1 (F' := (17, [some (.ref 134), some (.int p1)], [.ref 134, .ref 134], h)) rfl ?_
  refine go_gf rfl c134 rfl ?_
  refine go_run 0 (F' := (20, [some (.ref 134), some (.int p1)], [.int 0, .ref 134], h)) rfl ?_
  refine go_run 3 (F' := (35, [some (.ref 134), some (.int p1)], [.int 2, .ref 134], h)) rfl ?_
  refine go_pf rfl c134 (Nat.le_of_ble_eq_true rfl) rfl rfl ?_
  refine go_run 0 (F' := (38, [some (.ref 134), some (.int p1)], [], (List.set h 134 (mo 2 ty fa wh ch it at_ bad co de 0 st sz tp am bm mn rm sp be wo)))) rfl ?_
  refine go_run 1 (F' := (39, [some (.ref 134), some (.int p1)], [.ref 134], (List.set h 134 (mo 2 ty fa wh ch it at_ bad co de 0 st sz tp am bm mn rm sp be wo)))) rfl ?_
  refine go_gf rfl (gs_self c134) rfl ?_
  refine go_run 0 (F' := (42, [some (.ref 134), some (.int p1)], [.int 2], (List.set h 134 (mo 2 ty fa wh ch it at_ bad co de 0 st sz tp am bm mn rm sp be wo)))) rfl ?_
  refine go_run 1 (F' := (50, [some (.ref 134), some (.int p1)], [], (List.set h 134 (mo 2 ty fa wh ch it at_ bad co de 0 st sz tp am bm mn rm sp be wo)))) rfl ?_
  exact go_end rfl rfl
set_option maxRecDepth 100000 in
theorem um_room_3 {X : ie_X} {d : Nat} {h : ie_H} {p1 t_ ty fa wh ch it at_ bad co de st sz tp am bm mn rm sp be wo : Int32} (c134 : h[134]? = some (mo t_ ty fa wh ch it at_ bad co de 0 st sz tp am bm mn rm sp be wo)) (q1 : ¬ (p1 < 1)) (q2 : ¬ (p1 ≤ 8)) : Go X (d) 187 (0, ie_en 187 [.ref 134, .int p1], [], h) (.inl none) (List.set h 134 (mo 1 ty fa wh ch it at_ bad co de 0 st sz tp am bm mn rm sp be wo)) := by
  refine go_run 0 (F' := (0, [some (.ref 134), some (.int p1)], [], h)) rfl ?_
  refine go_run 3 (F' := (3, [some (.ref 134), some (.int p1)], [.int 1, .int p1, .ref 134], h)) rfl ?_
  refine go_step rfl rfl ?_
  rw [if_neg q1]
  refine go_run 0 (F' := (6, [some (.ref 134), some (.int p1)], [.ref 134], h)) rfl ?_
  refine go_run 2 (F' := (9, [some (.ref 134), some (.int p1)], [.int 8, .int p1, .ref 134], h)) rfl ?_
  refine go_step rfl rfl ?_
  rw [if_neg q2]
  refine go_run 0 (F' := (12, [some (.ref 134), some (.int p1)], [.ref 134], h)) rfl ?_
  refine go_run 2 (F' := (35, [some (.ref 134), some (.int p1)], [.int 1, .ref 134], h)) rfl ?_
  refine go_pf rfl c134 (Nat.le_of_ble_eq_true rfl) rfl rfl ?_
  refine go_run 0 (F' := (38, [some (.ref 134), some (.int p1)], [], (List.set h 134 (mo 1 ty fa wh ch it at_ bad co de 0 st sz tp am bm mn rm sp be wo)))) rfl ?_
  refine go_run 1 (F' := (39, [some (.ref 134), some (.int p1)], [.ref 134], (List.set h 134 (mo 1 ty fa wh ch it at_ bad co de 0 st sz tp am bm mn rm sp be wo)))) rfl ?_
  refine go_gf rfl (gs_self c134) rfl ?_
  refine go_run 0 (F' := (42, [some (.ref 134), some (.int p1)], [.int 1], (List.set h 134 (mo 1 ty fa wh ch it at_ bad co de 0 st sz tp am bm mn rm sp be wo)))) rfl ?_
  refine go_run 1 (F' := (50, [some (.ref 134), some (.int p1)], [], (List.set h 134 (mo 1 ty fa wh ch it at_ bad co de 0 st sz tp am bm mn rm sp be wo)))) rfl ?_
  exact go_end rfl rfl
set_option maxRecDepth 100000 in
theorem uc_reset_1 {X : ie_X} {d : Nat} {h : ie_H} {nl cf cw : Int32} (c0 : h[0]? = some (.inr (0, [.ref 1, .int nl, .int cf, .int cw, .null, .ref 2, .ref 133]))) : Go X (d + 2) 91 (0, ie_en 91 [.ref 0], [], h) (.inl (some (.int 1))) (h ++ [.inr (12, [])]) := by
  refine go_run 0 (F' := (0, [some (.ref 0), none], [], h)) rfl ?_
  refine go_run 1 (F' := (1, [some (.ref 0), none], [.ref 0], h)) rfl ?_
  refine go_catch (m' := 92) (ci := 12) (h1 := (h ++ [.inr (12, [])])) rfl (by simp only [ie_step, ie_iv, List.drop, c0, if_true]; rfl) ⟨rfl, Nat.le_of_ble_eq_true rfl⟩ rfl rfl rfl ?_ ?_
  · refine go_run 0 (F' := (0, [some (.ref 0)], [], h)) rfl ?_
    refine go_run 1 (F' := (1, [some (.ref 0)], [.ref 0], h)) rfl ?_
    refine go_out (m' := 81) rfl (by simp only [ie_step, ie_iv, List.drop, c0, if_true]; rfl) ⟨rfl, Nat.le_of_ble_eq_true rfl⟩ rfl rfl ?_
    · refine go_run 0 (F' := (0, [some (.ref 0)], [], h)) rfl ?_
      refine go_run 1 (F' := (1, [some (.ref 0)], [.ref 0], h)) rfl ?_
      refine go_gf rfl c0 rfl ?_
      refine go_run 0 (F' := (4, [some (.ref 0)], [.null], h)) rfl ?_
      refine go_run 1 (F' := (7, [some (.ref 0)], [], h)) rfl ?_
      exact go_end rfl rfl
  refine go_run 0 (F' := (8, [some (.ref 0), none], [], (h ++ [.inr (12, [])]))) rfl ?_
  refine go_run 1 (F' := (9, [some (.ref 0), none], [.int 1], (h ++ [.inr (12, [])]))) rfl ?_
  exact go_end rfl rfl
set_option maxRecDepth 100000 in
theorem um_reset_1 {X : ie_X} {d : Nat} {h : ie_H} {t_ ty fa wh ch it at_ bad co de st sz tp am bm mn rm sp be wo : Int32} (c134 : h[134]? = some (mo t_ ty fa wh ch it at_ bad co de 0 st sz tp am bm mn rm sp be wo)) : Go X (d) 188 (0, ie_en 188 [.ref 134], [], h) (.inl none) (List.set h 134 (mo 1 ty fa wh ch it at_ bad co de 0 st sz tp am bm mn rm sp be wo)) := by
  refine go_run 0 (F' := (0, [some (.ref 134)], [], h)) rfl ?_
  refine go_run 2 (F' := (2, [some (.ref 134)], [.ref 134, .ref 134], h)) rfl ?_
  refine go_gf rfl c134 rfl ?_
  refine go_run 0 (F' := (5, [some (.ref 134)], [.int 0, .ref 134], h)) rfl ?_
  refine go_run 2 (F' := (13, [some (.ref 134)], [.int 1, .ref 134], h)) rfl ?_
  refine go_pf rfl c134 (Nat.le_of_ble_eq_true rfl) rfl rfl ?_
  refine go_run 0 (F' := (16, [some (.ref 134)], [], (List.set h 134 (mo 1 ty fa wh ch it at_ bad co de 0 st sz tp am bm mn rm sp be wo)))) rfl ?_
  refine go_run 1 (F' := (17, [some (.ref 134)], [.ref 134], (List.set h 134 (mo 1 ty fa wh ch it at_ bad co de 0 st sz tp am bm mn rm sp be wo)))) rfl ?_
  refine go_gf rfl (gs_self c134) rfl ?_
  refine go_run 0 (F' := (20, [some (.ref 134)], [.int 0], (List.set h 134 (mo 1 ty fa wh ch it at_ bad co de 0 st sz tp am bm mn rm sp be wo)))) rfl ?_
  refine go_run 1 (F' := (27, [some (.ref 134)], [], (List.set h 134 (mo 1 ty fa wh ch it at_ bad co de 0 st sz tp am bm mn rm sp be wo)))) rfl ?_
  exact go_end rfl rfl
set_option maxRecDepth 100000 in
theorem uc_fault_1 {X : ie_X} {d : Nat} {h : ie_H} {nl cf cw : Int32} (c0 : h[0]? = some (.inr (0, [.ref 1, .int nl, .int cf, .int cw, .null, .ref 2, .ref 133]))) : Go X (d) 7 (0, ie_en 7 [.ref 0], [], h) (.inl (some (.int cf))) h := by
  refine go_run 0 (F' := (0, [some (.ref 0)], [], h)) rfl ?_
  refine go_run 1 (F' := (1, [some (.ref 0)], [.ref 0], h)) rfl ?_
  refine go_gf rfl c0 rfl ?_
  refine go_run 0 (F' := (4, [some (.ref 0)], [.int cf], h)) rfl ?_
  exact go_end rfl rfl
set_option maxRecDepth 100000 in
theorem um_fault_1 {X : ie_X} {d : Nat} {h : ie_H} {t_ ty fa wh ch it at_ bad co de st sz tp am bm mn rm sp be wo : Int32} (c134 : h[134]? = some (mo t_ ty fa wh ch it at_ bad co de 0 st sz tp am bm mn rm sp be wo)) : Go X (d) 180 (0, ie_en 180 [.ref 134], [], h) (.inl (some (.int fa))) (List.set h 134 (mo 0 ty fa wh ch it at_ bad co de 0 st sz tp am bm mn rm sp be wo)) := by
  refine go_run 0 (F' := (0, [some (.ref 134)], [], h)) rfl ?_
  refine go_run 2 (F' := (2, [some (.ref 134)], [.int 0, .ref 134], h)) rfl ?_
  refine go_pf rfl c134 (Nat.le_of_ble_eq_true rfl) rfl rfl ?_
  refine go_run 0 (F' := (5, [some (.ref 134)], [], (List.set h 134 (mo 0 ty fa wh ch it at_ bad co de 0 st sz tp am bm mn rm sp be wo)))) rfl ?_
  refine go_run 1 (F' := (6, [some (.ref 134)], [.ref 134], (List.set h 134 (mo 0 ty fa wh ch it at_ bad co de 0 st sz tp am bm mn rm sp be wo)))) rfl ?_
  refine go_gf rfl (gs_self c134) rfl ?_
  refine go_run 0 (F' := (9, [some (.ref 134)], [.int fa], (List.set h 134 (mo 0 ty fa wh ch it at_ bad co de 0 st sz tp am bm mn rm sp be wo)))) rfl ?_
  exact go_end rfl rfl
set_option maxRecDepth 100000 in
theorem uc_who_1 {X : ie_X} {d : Nat} {h : ie_H} {nl cf cw : Int32} (c0 : h[0]? = some (.inr (0, [.ref 1, .int nl, .int cf, .int cw, .null, .ref 2, .ref 133]))) : Go X (d) 8 (0, ie_en 8 [.ref 0], [], h) (.inl (some (.int cw))) h := by
  refine go_run 0 (F' := (0, [some (.ref 0)], [], h)) rfl ?_
  refine go_run 1 (F' := (1, [some (.ref 0)], [.ref 0], h)) rfl ?_
  refine go_gf rfl c0 rfl ?_
  refine go_run 0 (F' := (4, [some (.ref 0)], [.int cw], h)) rfl ?_
  exact go_end rfl rfl
set_option maxRecDepth 100000 in
theorem um_who_1 {X : ie_X} {d : Nat} {h : ie_H} {t_ ty fa wh ch it at_ bad co de st sz tp am bm mn rm sp be wo : Int32} (c134 : h[134]? = some (mo t_ ty fa wh ch it at_ bad co de 0 st sz tp am bm mn rm sp be wo)) : Go X (d) 181 (0, ie_en 181 [.ref 134], [], h) (.inl (some (.int wh))) (List.set h 134 (mo 0 ty fa wh ch it at_ bad co de 0 st sz tp am bm mn rm sp be wo)) := by
  refine go_run 0 (F' := (0, [some (.ref 134)], [], h)) rfl ?_
  refine go_run 2 (F' := (2, [some (.ref 134)], [.int 0, .ref 134], h)) rfl ?_
  refine go_pf rfl c134 (Nat.le_of_ble_eq_true rfl) rfl rfl ?_
  refine go_run 0 (F' := (5, [some (.ref 134)], [], (List.set h 134 (mo 0 ty fa wh ch it at_ bad co de 0 st sz tp am bm mn rm sp be wo)))) rfl ?_
  refine go_run 1 (F' := (6, [some (.ref 134)], [.ref 134], (List.set h 134 (mo 0 ty fa wh ch it at_ bad co de 0 st sz tp am bm mn rm sp be wo)))) rfl ?_
  refine go_gf rfl (gs_self c134) rfl ?_
  refine go_run 0 (F' := (9, [some (.ref 134)], [.int wh], (List.set h 134 (mo 0 ty fa wh ch it at_ bad co de 0 st sz tp am bm mn rm sp be wo)))) rfl ?_
  exact go_end rfl rfl
