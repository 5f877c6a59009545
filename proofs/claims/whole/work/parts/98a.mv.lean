theorem upd_eq (f : Nat → Int32) (k : Nat) (x y : Int32) : upd (upd f k x) k y = upd f k y := by
  funext j
  unfold upd
  by_cases q : j = k
  · rw [if_pos q, if_pos q]
  · rw [if_neg q, if_neg q, if_neg q]
theorem upd_co (f : Nat → Int32) {k l : Nat} (x y : Int32) (h : k ≠ l) : upd (upd f k x) l y = upd (upd f l y) k x := by
  funext j
  unfold upd
  by_cases q : j = k
  · have : ¬ j = l := by omega
    rw [if_neg this, if_pos q, if_pos q]
  · rw [if_neg q]
    by_cases q2 : j = l
    · rw [if_pos q2, if_neg q]
    · rw [if_neg q2, if_neg q]
def V (I : Nat → Int32) (k P : Nat) (b : Bool) (n e : Nat) : Nat → Int32 := upd (upd (upd (upd (upd I 5 (Int32.ofNat k)) 6 (Int32.ofNat P)) 7 (ty_b b)) 8 (Int32.ofNat n)) 9 (Int32.ofNat e)
section VV
variable {I : Nat → Int32} {A : Nat → Nat → Int32} {k P n e c m : Nat} {b : Bool} {f : Nat → Int32}
theorem V_5 (x : Nat) : upd (V I k P b n e) 5 (Int32.ofNat x) = V I x P b n e := by
  unfold V
  rw [upd_co _ _ _ (by decide : (9 : Nat) ≠ 5), upd_co _ _ _ (by decide : (8 : Nat) ≠ 5), upd_co _ _ _ (by decide : (7 : Nat) ≠ 5), upd_co _ _ _ (by decide : (6 : Nat) ≠ 5), upd_eq]
theorem V_6 (x : Nat) : upd (V I k P b n e) 6 (Int32.ofNat x) = V I k x b n e := by
  unfold V
  rw [upd_co _ _ _ (by decide : (9 : Nat) ≠ 6), upd_co _ _ _ (by decide : (8 : Nat) ≠ 6), upd_co _ _ _ (by decide : (7 : Nat) ≠ 6), upd_eq]
theorem V_7t : upd (V I k P b n e) 7 1 = V I k P true n e := by
  unfold V
  rw [upd_co _ _ _ (by decide : (9 : Nat) ≠ 7), upd_co _ _ _ (by decide : (8 : Nat) ≠ 7), upd_eq]
  rfl
theorem V_7f : upd (V I k P b n e) 7 0 = V I k P false n e := by
  unfold V
  rw [upd_co _ _ _ (by decide : (9 : Nat) ≠ 7), upd_co _ _ _ (by decide : (8 : Nat) ≠ 7), upd_eq]
  rfl
theorem V_8 (x : Nat) : upd (V I k P b n e) 8 (Int32.ofNat x) = V I k P b x e := by
  unfold V
  rw [upd_co _ _ _ (by decide : (9 : Nat) ≠ 8), upd_eq]
theorem V_9 (x : Nat) : upd (V I k P b n e) 9 (Int32.ofNat x) = V I k P b n x := by
  unfold V
  rw [upd_eq]
def Rf (I : Nat → Int32) (A : Nat → Nat → Int32) (c : Nat) (f : Nat → Int32) : Prop := I 4 = Int32.ofNat c ∧ c ≤ 200 ∧ ∀ j, j < c → A 2 j = f j
theorem v_now (h : Rf I A c f) (hP : P ≤ c) : x_now (V I k P b n e) A = some (V I k P b n e, A, rd_la f c P) := by
  obtain ⟨h1, h2, h3⟩ := h
  unfold x_now
  rw [show V I k P b n e 4 = Int32.ofNat c from h1, show V I k P b n e 6 = Int32.ofNat P from rfl]
  unfold rd_la
  by_cases q : P < c
  · rw [if_neg (show ¬ Int32.ofNat c ≤ Int32.ofNat P from mt (j_le (by omega) (by omega)).mp (by omega)), if_pos (show ib (Int32.ofNat P) 200 from j_in (by omega) (by omega)), (j_n (n := P) (by omega)).2, h3 P q, if_pos q]
  · rw [if_pos (show Int32.ofNat c ≤ Int32.ofNat P from (j_le (by omega) (by omega)).mpr (by omega)), if_neg q]
theorem v_want (h : Rf I A c f) (hP : P ≤ c) (x : Int32) : x_want (V I k P b n e) A x = some (V I k (mw_want f c x (P, b)).1 (mw_want f c x (P, b)).2 n e, A, 0) := by
  obtain ⟨h1, h2, h3⟩ := h
  unfold x_want
  rw [show V I k P b n e 4 = Int32.ofNat c from h1, show V I k P b n e 6 = Int32.ofNat P from rfl, show V I k P b n e 7 = ty_b b from rfl]
  cases b with
  | true =>
    have ee : mw_want f c x (P, true) = (P, true) := rfl
    rw [tb1, ee]
  | false =>
    rw [tb0]
    by_cases q : P < c
    · rw [if_pos (show Int32.ofNat P < Int32.ofNat c from (j_lt (by omega) (by omega)).mpr q), if_pos (show ib (Int32.ofNat P) 200 from j_in (by omega) (by omega)), (j_n (n := P) (by omega)).2, h3 P q]
      by_cases q2 : f P = x
      · have ee : mw_want f c x (P, false) = (P + 1, false) := by simp [mw_want, q, q2]
        rw [if_pos q2, ee, show (1 : Int32) = Int32.ofNat 1 from rfl, ty_add, V_6]
      · have ee : mw_want f c x (P, false) = (P, true) := by simp [mw_want, q, q2]
        rw [if_neg q2, ee, V_7t]
    · have ee : mw_want f c x (P, false) = (P, false) := by simp [mw_want, q]
      rw [if_neg (show ¬ Int32.ofNat P < Int32.ofNat c from mt (j_lt (by omega) (by omega)).mp q), ee]
theorem v_figs (h : Rf I A c f) : ∀ (j i P m : Nat), i + j = 3 → j + 1 ≤ m → P ≤ c → x_readTerm_42 m (V I k P false n e) A (Int32.ofNat i) = some (V I k (mw_fig f c j i P).1 (decide ((mw_fig f c j i P).2 = 0)) n e, A, 0)
  | 0, i, P, m + 1, hi, hm, hP => by
    have : i = 3 := by omega
    subst this
    unfold x_readTerm_42
    rw [if_pos (show (3 : Int32) ≤ Int32.ofNat 3 by decide), if_neg (show ¬ Int32.ofNat 3 = 0 by decide), V_7f]
    rfl
  | j + 1, i, P, m + 1, hi, hm, hP => by
    unfold x_readTerm_42
    rw [if_neg (show ¬ 3 ≤ Int32.ofNat i from mt (j_le (m := 3) (by decide) (by omega)).mp (by omega))]
    refine (xb_some (v_now h hP)).trans ?_
    rw [mw_fig]
    cases q : rd_fig (rd_la f c P) with
    | false =>
      rw [tb0, iff']
      by_cases q2 : i = 0
      · subst q2
        rw [if_pos (show Int32.ofNat 0 = 0 from rfl), V_7t]
        rfl
      · rw [if_neg (show ¬ Int32.ofNat i = 0 from mt (j_eq (n := 0) (by omega) (by decide)).mp q2), V_7f, decide_eq_false q2]
    | true =>
      rw [tb1, ift, show V I k P false n e 6 = Int32.ofNat P from rfl, show (1 : Int32) = Int32.ofNat 1 from rfl, ty_add, ty_add, V_6]
      exact v_figs h j (i + 1) (P + 1) m (by omega) (by omega) (rd_fig_ne q)
theorem v_term (h : Rf I A c f) (hP : P ≤ c) (hm : 4 ≤ m) : x_readTerm m (V I k P b n e) A = some (V I k (mw_term f c (P, b)).1 (mw_term f c (P, b)).2 n e, A, 0) := by
  have hc : c ≤ 200 := h.2.1
  unfold x_readTerm
  rw [show V I k P b n e 4 = Int32.ofNat c from h.1, show V I k P b n e 6 = Int32.ofNat P from rfl, show V I k P b n e 7 = ty_b b from rfl]
  cases b with
  | true =>
    have ee : mw_term f c (P, true) = (P, true) := rfl
    rw [tb1, ee]
  | false =>
    rw [tb0]
    by_cases q : P < c
    · rw [if_pos (show Int32.ofNat P < Int32.ofNat c from (j_lt (by omega) (by omega)).mpr q)]
      refine (xb_some (v_now h hP)).trans ?_
      cases q2 : rd_var (rd_la f c P) with
      | true =>
        have ee : mw_term f c (P, false) = (P + 1, false) := by simp [mw_term, q, q2]
        rw [tb1, ee, show V I k P false n e 6 = Int32.ofNat P from rfl, show (1 : Int32) = Int32.ofNat 1 from rfl, ty_add, V_6]
      | false =>
        have ee : mw_term f c (P, false) = ((mw_fig f c 3 0 P).1, decide ((mw_fig f c 3 0 P).2 = 0)) := by simp [mw_term, q, q2]
        rw [tb0, ee]
        exact v_figs h 3 0 P m rfl (by omega) hP
    · have ee : mw_term f c (P, false) = (P, false) := by simp [mw_term, q]
      rw [if_neg (show ¬ Int32.ofNat P < Int32.ofNat c from mt (j_lt (by omega) (by omega)).mp q), ee]
theorem v_expr (h : Rf I A c f) (hP : P ≤ c) (hm : 4 ≤ m) {i : Nat} (hi : i < 200) : x_readExpression m (V I k P b n e) A (Int32.ofNat i) = some (V I k (mw_expr f c (P, b)).1 (mw_expr f c (P, b)).2 n e, upA (upA A 7 (upd (A 7) i (Int32.ofNat P))) 8 (upd (A 8) i (Int32.ofNat (mw_expr f c (P, b)).1)), 0) := by
  have h1 : Rf I (upA A 7 (upd (A 7) i (Int32.ofNat P))) c f := h
  have hP1 : (mw_term f c (P, b)).1 ≤ c := mw_term_le hP
  have ee : mw_expr f c (P, b) = if (mw_term f c (P, b)).2 = true then mw_term f c (P, b) else if rd_op (rd_la f c (mw_term f c (P, b)).1) = true then mw_term f c ((mw_term f c (P, b)).1 + 1, false) else mw_term f c (P, b) := rfl
  unfold x_readExpression
  rw [if_pos (show ib (Int32.ofNat i) 200 from j_in (by omega) hi), (j_n (n := i) (by omega)).2, show V I k P b n e 6 = Int32.ofNat P from rfl]
  refine (xb_some (v_term h1 hP hm)).trans ?_
  generalize mw_term f c (P, b) = s1 at hP1 ee ⊢
  obtain ⟨P1, b1⟩ := s1
  rw [show V I k P1 b1 n e 7 = ty_b b1 from rfl]
  cases b1 with
  | true =>
    rw [if_pos (show ((P1, true) : Nat × Bool).2 = true from rfl)] at ee
    rw [ee, tb1]
    rfl
  | false =>
    rw [if_neg (show ¬ ((P1, false) : Nat × Bool).2 = true from fun z => Bool.noConfusion z)] at ee
    rw [tb0]
    refine (xb_some (v_now h1 hP1)).trans ?_
    cases q : rd_op (rd_la f c P1) with
    | false =>
      rw [if_neg (show ¬ rd_op (rd_la f c ((P1, false) : Nat × Bool).1) = true by show ¬ rd_op (rd_la f c P1) = true; rw [q]; decide)] at ee
      rw [ee, tb0]
      rfl
    | true =>
      rw [if_pos (show rd_op (rd_la f c ((P1, false) : Nat × Bool).1) = true from q)] at ee
      rw [ee, tb1, show V I k P1 false n e 6 = Int32.ofNat P1 from rfl, show (1 : Int32) = Int32.ofNat 1 from rfl, ty_add, V_6]
      refine (xb_some (v_term h1 (rd_op_ne q) hm)).trans ?_
      rfl
end VV
