def isc (x : Int32) (ch : Int32) : Bool := decide (ch = x)
section MP
variable {f : Nat → Int32} {c P : Nat} {pr : Int32 → Bool} {r : pw}
theorem mwp_le : (mwp f c pr r).1 ≤ r.1 + 1 := by
  unfold mwp
  split
  · omega
  · split
    · split
      · exact Nat.le_refl _
      · exact Nat.le_succ _
    · exact Nat.le_succ _
theorem mwp_adv (h : (mwp f c pr r).1 = r.1 + 1) : r.2 = false ∧ r.1 < c ∧ pr (f r.1) = true ∧ mwp f c pr r = (r.1 + 1, false) := by
  unfold mwp at h ⊢
  by_cases q : r.2 = true
  · rw [if_pos q] at h; omega
  · rw [if_neg q] at h ⊢
    by_cases q2 : r.1 < c
    · rw [if_pos q2] at h ⊢
      by_cases q3 : pr (f r.1) = true
      · rw [if_pos q3]
        exact ⟨by simpa using q, q2, q3, rfl⟩
      · rw [if_neg q3] at h
        exact absurd h (by show ¬ r.1 = r.1 + 1; omega)
    · rw [if_neg q2] at h; omega
theorem mwp_bd (h : r.1 ≤ c) : (mwp f c pr r).1 ≤ c := by
  unfold mwp
  split
  · exact h
  · split
    · rename_i q
      split
      · exact q
      · exact h
    · exact h
theorem mwp_e (h : ¬ P < c) : mwp f c pr (P, false) = (P, false) := by simp [mwp, h]
theorem mwp_y (h : P < c) (h2 : pr (f P) = true) : mwp f c pr (P, false) = (P + 1, false) := by simp [mwp, h, h2]
theorem mwp_n (h : P < c) (h2 : pr (f P) = false) : mwp f c pr (P, false) = (P, true) := by simp [mwp, h, h2]
theorem mwp_t : mwp f c pr (P, true) = (P, true) := rfl
theorem want_p (x : Int32) : mw_want f c x r = mwp f c (isc x) r := mwp_want x
end MP
def mT (f : Nat → Int32) (c : Nat) (p : Int32) (P : Nat) : pw := mwp f c (isc 59) (mwp f c (prO p) (mwp f c (isc 62) (mwp f c rd_fig (P + 1, false))))
def mS (f : Nat → Int32) (c P : Nat) : pw := mwp f c (isc 59) (mw_expr f c (P + 2, false))
def mD (f : Nat → Int32) (c : Nat) (p : Int32) (P : Nat) : pw := mwp f c (isc 59) (mwp f c rd_var (mwp f c (prO p) (mwp f c (isc 62) (mw_expr f c (P, false)))))
section VT
variable {I : Nat → Int32} {A : Nat → Nat → Int32} {k P n e c m i : Nat} {b : Bool} {f : Nat → Int32}
theorem v_wantp (h : Rf I A c f) (hP : P ≤ c) (x : Int32) : x_want (V I k P b n e) A x = some (V I k (mwp f c (isc x) (P, b)).1 (mwp f c (isc x) (P, b)).2 n e, A, 0) := by
  rw [v_want h hP x, want_p]
theorem Rf_g {B : Nat → Nat → Int32} {L : List Nat} (h : Rf I A c f) (g : GrI A B i L) (hL : L.contains 2 = false) : Rf I B c f := ⟨h.1, h.2.1, by rw [g.1 2 hL]; exact h.2.2⟩
theorem v_tell (h : Rf I A c f) (hl : Ltr f c) (hP : P < c) (hi : i < 200) : ∃ A', x_readTell (V I k P false n e) A (Int32.ofNat i) = some (V I k (mT f c (A 4 i) P).1 (mT f c (A 4 i) P).2 n e, A', 0) ∧ GrI A A' i [3, 6, 5] ∧ A' 3 i = 3 ∧ ((mT f c (A 4 i) P).1 = P + 5 → A' 6 i = f (P + 1) - 48 ∧ A' 5 i = f (P + 3) - 65) := by
  have hc := h.2.1
  have g0 : GrI A (upA A 3 (upd (A 3) i 3)) i [3] := GrI_u 3
  have h0 : Rf I (upA A 3 (upd (A 3) i 3)) c f := Rf_g h g0 rfl
  have z3 : upA A 3 (upd (A 3) i 3) 3 i = 3 := upA_s 3
  unfold x_readTell
  rw [if_pos (show ib (Int32.ofNat i) 200 from j_in (by omega) hi), (j_n (n := i) (by omega)).2, show V I k P false n e 4 = Int32.ofNat c from h.1, show V I k P false n e 6 = Int32.ofNat P from rfl, show (1 : Int32) = Int32.ofNat 1 from rfl, ty_add, V_6]
  by_cases q : P + 1 < c
  · rw [if_pos (show Int32.ofNat (P + 1) < Int32.ofNat c from (j_lt (by omega) (by omega)).mpr q)]
    have el : rd_la f c (P + 1) = f (P + 1) := by unfold rd_la; rw [if_pos q]
    have e1 := v_now (I := I) (k := k) (b := false) (n := n) (e := e) h0 (show P + 1 ≤ c by omega)
    rw [el] at e1
    cases q1 : rd_fig (f (P + 1)) with
    | false =>
      have em : mT f c (A 4 i) P = (P + 1, true) := by
        unfold mT
        rw [mwp_n q q1]
        rfl
      rw [em]
      refine ⟨_, ?_, GrI_m (by decide) g0, z3, fun z => ?_⟩
      · refine (xb_some e1).trans ?_
        rw [q1, tb0, show Int32.ofNat 1 = (1 : Int32) from rfl, V_7t]
      · exact absurd z (by show ¬ P + 1 = P + 5; omega)
    | true =>
      have g1 : GrI (upA A 3 (upd (A 3) i 3)) (upA (upA A 3 (upd (A 3) i 3)) 6 (upd (upA A 3 (upd (A 3) i 3) 6) i (f (P + 1) - 48))) i [6] := GrI_u _
      have h1 : Rf I (upA (upA A 3 (upd (A 3) i 3)) 6 (upd (upA A 3 (upd (A 3) i 3) 6) i (f (P + 1) - 48))) c f := Rf_g h0 g1 rfl
      have z6 : upA (upA A 3 (upd (A 3) i 3)) 6 (upd (upA A 3 (upd (A 3) i 3) 6) i (f (P + 1) - 48)) 6 i = f (P + 1) - 48 := upA_s _
      have z4 : upA (upA A 3 (upd (A 3) i 3)) 6 (upd (upA A 3 (upd (A 3) i 3) 6) i (f (P + 1) - 48)) 4 i = A 4 i := rfl
      generalize hB : upA (upA A 3 (upd (A 3) i 3)) 6 (upd (upA A 3 (upd (A 3) i 3) 6) i (f (P + 1) - 48)) = B at g1 h1 z6 z4
      have b2 : (mwp f c (isc 62) (P + 1 + 1, false)).1 ≤ c := mwp_bd (show P + 1 + 1 ≤ c by omega)
      obtain ⟨A', u1, u2, u3⟩ := v_other (I := I) (k := k) (n := n) (e := e) (b := (mwp f c (isc 62) (P + 1 + 1, false)).2) h1 hl b2 hi
      have b3 : (mwp f c (prO (B 4 i)) ((mwp f c (isc 62) (P + 1 + 1, false)).1, (mwp f c (isc 62) (P + 1 + 1, false)).2)).1 ≤ c := mwp_bd b2
      have em : mT f c (A 4 i) P = mwp f c (isc 59) (mwp f c (prO (B 4 i)) ((mwp f c (isc 62) (P + 1 + 1, false)).1, (mwp f c (isc 62) (P + 1 + 1, false)).2)) := by
        unfold mT
        rw [mwp_y q q1, z4]
      have gA := GrI_t (GrI_t g0 g1) u2
      have ha3 : A' 3 i = 3 := by rw [u2.1 3 rfl, g1.1 3 rfl]; exact z3
      refine ⟨A', ?_, GrI_m (by decide) gA, ha3, fun z => ?_⟩
      · refine (xb_some e1).trans ?_
        rw [q1, tb1, V_7f]
        refine (xb_some e1).trans ?_
        rw [show V I k (P + 1) false n e 6 = Int32.ofNat (P + 1) from rfl, ty_add, V_6]
        have hB' : upA (upA A 3 (upd (A 3) i 3)) 6 (upd (upA A 3 (upd (A 3) i 3) 6) i (f (P + 1) - 48)) = B := hB
        rw [hB']
        refine (xb_some (v_wantp h1 (show P + 1 + 1 ≤ c by omega) 62)).trans ?_
        refine (xb_some u1).trans ?_
        refine (xb_some (v_wantp (Rf_g h1 u2 rfl) b3 59)).trans ?_
        rw [em]
      · rw [em] at z
        have t1 := mwp_le (f := f) (c := c) (pr := isc 59) (r := mwp f c (prO (B 4 i)) ((mwp f c (isc 62) (P + 1 + 1, false)).1, (mwp f c (isc 62) (P + 1 + 1, false)).2))
        have t2 := mwp_le (f := f) (c := c) (pr := prO (B 4 i)) (r := ((mwp f c (isc 62) (P + 1 + 1, false)).1, (mwp f c (isc 62) (P + 1 + 1, false)).2))
        have t3 := mwp_le (f := f) (c := c) (pr := isc 62) (r := (P + 1 + 1, false))
        have t2' : (mwp f c (prO (B 4 i)) ((mwp f c (isc 62) (P + 1 + 1, false)).1, (mwp f c (isc 62) (P + 1 + 1, false)).2)).1 ≤ (mwp f c (isc 62) (P + 1 + 1, false)).1 + 1 := t2
        have t3' : (mwp f c (isc 62) (P + 1 + 1, false)).1 ≤ P + 1 + 1 + 1 := t3
        have e3 : (mwp f c (isc 62) (P + 1 + 1, false)).1 = P + 1 + 1 + 1 := by omega
        obtain ⟨-, -, -, w3⟩ := mwp_adv (r := (P + 1 + 1, false)) e3
        have e4 : (mwp f c (prO (B 4 i)) ((mwp f c (isc 62) (P + 1 + 1, false)).1, (mwp f c (isc 62) (P + 1 + 1, false)).2)).1 = (mwp f c (isc 62) (P + 1 + 1, false)).1 + 1 := by omega
        obtain ⟨w4a, -, -, w4⟩ := mwp_adv (r := ((mwp f c (isc 62) (P + 1 + 1, false)).1, (mwp f c (isc 62) (P + 1 + 1, false)).2)) e4
        refine ⟨by rw [u2.1 6 rfl]; exact z6, ?_⟩
        rw [u3 w4a w4, w3]
  · rw [if_neg (show ¬ Int32.ofNat (P + 1) < Int32.ofNat c from mt (j_lt (by omega) (by omega)).mp q)]
    have em : mT f c (A 4 i) P = (P + 1, false) := by
      unfold mT
      rw [mwp_e q, mwp_e q, mwp_e q, mwp_e q]
    rw [em]
    exact ⟨_, rfl, GrI_m (by decide) g0, z3, fun z => absurd z (by show ¬ P + 1 = P + 5; omega)⟩
theorem v_set (h : Rf I A c f) (hP : P + 1 < c) (hi : i < 200) (hv : rd_var (f P) = true) (h58 : f (P + 1) = 58) : ∃ A', (∀ m, 4 ≤ m → x_readValue m (V I k P false n e) A (Int32.ofNat i) = some (V I k (mS f c P).1 (mS f c P).2 n e, A', 0)) ∧ GrI A A' i [3, 6, 7, 8] ∧ A' 3 i = 1 ∧ A' 6 i = f P - 119 ∧ A' 7 i = Int32.ofNat (P + 2) ∧ A' 8 i = Int32.ofNat (mw_expr f c (P + 2, false)).1 := by
  have hc := h.2.1
  have el : rd_la f c P = f P := by unfold rd_la; rw [if_pos (by omega)]
  have e1 := v_now (I := I) (k := k) (b := false) (n := n) (e := e) h (show P ≤ c by omega)
  rw [el] at e1
  have g0 : GrI A (upA A 3 (upd (A 3) i 1)) i [3] := GrI_u 1
  have h0 : Rf I (upA A 3 (upd (A 3) i 1)) c f := Rf_g h g0 rfl
  have z3 : upA A 3 (upd (A 3) i 1) 3 i = 1 := upA_s 1
  generalize hB0 : upA A 3 (upd (A 3) i 1) = B0 at g0 h0 z3
  have e2 := v_now (I := I) (k := k) (b := false) (n := n) (e := e) h0 (show P ≤ c by omega)
  rw [el] at e2
  have g1 : GrI B0 (upA B0 6 (upd (B0 6) i (f P - 119))) i [6] := GrI_u _
  have h1 : Rf I (upA B0 6 (upd (B0 6) i (f P - 119))) c f := Rf_g h0 g1 rfl
  have z6 : upA B0 6 (upd (B0 6) i (f P - 119)) 6 i = f P - 119 := upA_s _
  have z31 : upA B0 6 (upd (B0 6) i (f P - 119)) 3 i = 1 := z3
  generalize hB : upA B0 6 (upd (B0 6) i (f P - 119)) = B at g1 h1 z6 z31
  have g2 : GrI B (upA (upA B 7 (upd (B 7) i (Int32.ofNat (P + 2)))) 8 (upd (upA B 7 (upd (B 7) i (Int32.ofNat (P + 2))) 8) i (Int32.ofNat (mw_expr f c (P + 2, false)).1))) i ([7] ++ [8]) := GrI_t (GrI_u _) (GrI_u _)
  have hle : (mw_expr f c (P + 2, false)).1 ≤ c := mw_expr_le (show P + 2 ≤ c by omega)
  refine ⟨_, fun m hm => ?_, GrI_m (by decide) (GrI_t (GrI_t g0 g1) g2), z31, z6, (show upA B 7 (upd (B 7) i (Int32.ofNat (P + 2))) 7 i = _ from upA_s _), upA_s _⟩
  unfold x_readValue
  refine (xb_some e1).trans ?_
  rw [hv, tb1, show V I k P false n e 4 = Int32.ofNat c from h.1, show V I k P false n e 6 = Int32.ofNat P from rfl, show (1 : Int32) = Int32.ofNat 1 from rfl, ty_add, if_neg (show ¬ Int32.ofNat c ≤ Int32.ofNat (P + 1) from mt (j_le (by omega) (by omega)).mp (by omega)), if_pos (show ib (Int32.ofNat (P + 1)) 200 from j_in (by omega) (by omega)), (j_n (n := P + 1) (by omega)).2, h.2.2 (P + 1) hP, if_pos h58, if_pos (show ib (Int32.ofNat i) 200 from j_in (by omega) hi), (j_n (n := i) (by omega)).2]
  have hB0' : upA A 3 (upd (A 3) i (Int32.ofNat 1)) = B0 := hB0
  rw [hB0']
  refine (xb_some e2).trans ?_
  rw [show V I k P false n e 6 = Int32.ofNat P from rfl, show (2 : Int32) = Int32.ofNat 2 from rfl, ty_add, V_6, hB]
  refine (xb_some (v_expr h1 (show P + 2 ≤ c by omega) hm hi)).trans ?_
  refine (xb_some (v_wantp (Rf_g h1 g2 rfl) hle 59)).trans ?_
  rfl
theorem v_send (h : Rf I A c f) (hl : Ltr f c) (hP : P < c) (hi : i < 200) (hv : ¬ (rd_var (f P) = true ∧ P + 1 < c ∧ f (P + 1) = 58)) : ∃ A', (∀ m, 4 ≤ m → x_readValue m (V I k P false n e) A (Int32.ofNat i) = some (V I k (mD f c (A 4 i) P).1 (mD f c (A 4 i) P).2 n e, A', 0)) ∧ GrI A A' i [3, 7, 8, 5, 6] ∧ A' 3 i = 2 ∧ A' 7 i = Int32.ofNat P ∧ A' 8 i = Int32.ofNat (mw_expr f c (P, false)).1 ∧ ((mD f c (A 4 i) P).1 = (mw_expr f c (P, false)).1 + 4 → A' 5 i = f ((mw_expr f c (P, false)).1 + 1) - 65 ∧ A' 6 i = f ((mw_expr f c (P, false)).1 + 2) - 119) := by
  have hc := h.2.1
  have el : rd_la f c P = f P := by unfold rd_la; rw [if_pos hP]
  have e1 := v_now (I := I) (k := k) (b := false) (n := n) (e := e) h (show P ≤ c by omega)
  rw [el] at e1
  have goto : ∀ m, x_readValue m (V I k P false n e) A (Int32.ofNat i) = x_readValue_81 m (V I k P false n e) A (Int32.ofNat i) := by
    intro m
    unfold x_readValue
    refine (xb_some e1).trans ?_
    cases q1 : rd_var (f P) with
    | false => rw [tb0]
    | true =>
      rw [tb1, show V I k P false n e 4 = Int32.ofNat c from h.1, show V I k P false n e 6 = Int32.ofNat P from rfl, show (1 : Int32) = Int32.ofNat 1 from rfl, ty_add]
      by_cases q2 : P + 1 < c
      · have q3 : ¬ f (P + 1) = 58 := fun z => hv ⟨q1, q2, z⟩
        rw [if_neg (show ¬ Int32.ofNat c ≤ Int32.ofNat (P + 1) from mt (j_le (by omega) (by omega)).mp (by omega)), if_pos (show ib (Int32.ofNat (P + 1)) 200 from j_in (by omega) (by omega)), (j_n (n := P + 1) (by omega)).2, h.2.2 (P + 1) q2, if_neg q3]
      · rw [if_pos (show Int32.ofNat c ≤ Int32.ofNat (P + 1) from (j_le (by omega) (by omega)).mpr (by omega))]
  have g0 : GrI A (upA A 3 (upd (A 3) i 2)) i [3] := GrI_u 2
  have h0 : Rf I (upA A 3 (upd (A 3) i 2)) c f := Rf_g h g0 rfl
  have z3 : upA A 3 (upd (A 3) i 2) 3 i = 2 := upA_s 2
  have z4 : upA A 3 (upd (A 3) i 2) 4 i = A 4 i := rfl
  generalize hB0 : upA A 3 (upd (A 3) i 2) = B0 at g0 h0 z3 z4
  have g1 : GrI B0 (upA (upA B0 7 (upd (B0 7) i (Int32.ofNat P))) 8 (upd (upA B0 7 (upd (B0 7) i (Int32.ofNat P)) 8) i (Int32.ofNat (mw_expr f c (P, false)).1))) i ([7] ++ [8]) := GrI_t (GrI_u _) (GrI_u _)
  have hx' : ∀ m, 4 ≤ m → x_readExpression m (V I k P false n e) B0 (Int32.ofNat i) = some (V I k (mw_expr f c (P, false)).1 (mw_expr f c (P, false)).2 n e, upA (upA B0 7 (upd (B0 7) i (Int32.ofNat P))) 8 (upd (upA B0 7 (upd (B0 7) i (Int32.ofNat P)) 8) i (Int32.ofNat (mw_expr f c (P, false)).1)), 0) := fun m hm => v_expr (I := I) (k := k) (b := false) (n := n) (e := e) h0 (show P ≤ c by omega) hm hi
  have h1 : Rf I (upA (upA B0 7 (upd (B0 7) i (Int32.ofNat P))) 8 (upd (upA B0 7 (upd (B0 7) i (Int32.ofNat P)) 8) i (Int32.ofNat (mw_expr f c (P, false)).1))) c f := Rf_g h0 g1 rfl
  have y7 : upA (upA B0 7 (upd (B0 7) i (Int32.ofNat P))) 8 (upd (upA B0 7 (upd (B0 7) i (Int32.ofNat P)) 8) i (Int32.ofNat (mw_expr f c (P, false)).1)) 7 i = Int32.ofNat P := (show upA B0 7 (upd (B0 7) i (Int32.ofNat P)) 7 i = _ from upA_s _)
  have y8 : upA (upA B0 7 (upd (B0 7) i (Int32.ofNat P))) 8 (upd (upA B0 7 (upd (B0 7) i (Int32.ofNat P)) 8) i (Int32.ofNat (mw_expr f c (P, false)).1)) 8 i = Int32.ofNat (mw_expr f c (P, false)).1 := upA_s _
  have y3 : upA (upA B0 7 (upd (B0 7) i (Int32.ofNat P))) 8 (upd (upA B0 7 (upd (B0 7) i (Int32.ofNat P)) 8) i (Int32.ofNat (mw_expr f c (P, false)).1)) 3 i = 2 := z3
  have y4 : upA (upA B0 7 (upd (B0 7) i (Int32.ofNat P))) 8 (upd (upA B0 7 (upd (B0 7) i (Int32.ofNat P)) 8) i (Int32.ofNat (mw_expr f c (P, false)).1)) 4 i = A 4 i := z4
  generalize upA (upA B0 7 (upd (B0 7) i (Int32.ofNat P))) 8 (upd (upA B0 7 (upd (B0 7) i (Int32.ofNat P)) 8) i (Int32.ofNat (mw_expr f c (P, false)).1)) = B at g1 hx' h1 y7 y8 y3 y4
  have hle : (mw_expr f c (P, false)).1 ≤ c := mw_expr_le (show P ≤ c by omega)
  have emD : mD f c (A 4 i) P = mwp f c (isc 59) (mwp f c rd_var (mwp f c (prO (A 4 i)) (mwp f c (isc 62) (mw_expr f c (P, false))))) := rfl
  rw [emD]
  generalize mw_expr f c (P, false) = r1 at hx' y8 hle ⊢
  obtain ⟨P1, b1⟩ := r1
  have hle : P1 ≤ c := hle
  have w2 := v_wantp (I := I) (k := k) (b := b1) (n := n) (e := e) h1 hle 62
  have b2 : (mwp f c (isc 62) (P1, b1)).1 ≤ c := mwp_bd hle
  have t2 := mwp_le (f := f) (c := c) (pr := isc 62) (r := (P1, b1))
  have a2 := mwp_adv (f := f) (c := c) (pr := isc 62) (r := (P1, b1))
  generalize mwp f c (isc 62) (P1, b1) = r2 at w2 b2 t2 a2 ⊢
  obtain ⟨P2, c2⟩ := r2
  obtain ⟨A', u1, u2, u3⟩ := v_other (I := I) (k := k) (n := n) (e := e) (b := c2) h1 hl (show P2 ≤ c from b2) hi
  rw [y4] at u1 u3
  have h2 : Rf I A' c f := Rf_g h1 u2 rfl
  have b3 : (mwp f c (prO (A 4 i)) (P2, c2)).1 ≤ c := mwp_bd b2
  have t3 := mwp_le (f := f) (c := c) (pr := prO (A 4 i)) (r := (P2, c2))
  have a3 := mwp_adv (f := f) (c := c) (pr := prO (A 4 i)) (r := (P2, c2))
  generalize mwp f c (prO (A 4 i)) (P2, c2) = r3 at u1 u3 b3 t3 a3 ⊢
  obtain ⟨P3, c3⟩ := r3
  have x3 : A' 3 i = 2 := by rw [u2.1 3 rfl]; exact y3
  have x7 : A' 7 i = Int32.ofNat P := by rw [u2.1 7 rfl]; exact y7
  have x8 : A' 8 i = Int32.ofNat P1 := by rw [u2.1 8 rfl]; exact y8
  have gA := GrI_t (GrI_t g0 g1) u2
  have start : ∀ z, (if V I k P3 c3 n e 7 = 0 then (if V I k P3 c3 n e 6 < V I k P3 c3 n e 4 then (xb (x_now (V I k P3 c3 n e) A') fun I4 A4 v4 => (if ty_b (rd_var v4) = 0 then (some (upd I4 7 1, A4, 0)) else (xb (x_now (upd I4 7 0) A4) fun I5 A5 v5 => (xb (x_want (upd I5 6 ((I5 6) + 1)) (upA A5 6 (upd (A5 6) (Int32.toNatClampNeg (Int32.ofNat i)) (v5 - 119))) 59) fun I6 A6 v6 => (some (I6, A6, 0)))))) else (some (V I k P3 c3 n e, A', 0))) else (some (V I k P3 c3 n e, A', 0))) = z → ∀ m, 4 ≤ m → x_readValue m (V I k P false n e) A (Int32.ofNat i) = z := by
    intro z hz m hm
    rw [goto m]
    unfold x_readValue_81
    rw [if_pos (show ib (Int32.ofNat i) 200 from j_in (by omega) hi)]
    have hB0' : upA A 3 (upd (A 3) (Int32.ofNat i).toNatClampNeg 2) = B0 := by rw [(j_n (n := i) (by omega)).2]; exact hB0
    rw [hB0']
    refine (xb_some (hx' m hm)).trans ?_
    refine (xb_some w2).trans ?_
    refine (xb_some u1).trans ?_
    exact hz
  cases c3 with
  | true =>
    have em : mwp f c (isc 59) (mwp f c rd_var (P3, true)) = (P3, true) := rfl
    rw [em]
    refine ⟨A', start _ ?_, GrI_m (by decide) gA, x3, x7, x8, fun z => ?_⟩
    · exact if_neg (show ¬ ty_b true = 0 by decide)
    · have z' : P3 = P1 + 4 := z
      have : P3 ≤ P2 + 1 := t3
      have : P2 ≤ P1 + 1 := t2
      omega
  | false =>
    by_cases q : P3 < c
    · have el3 : rd_la f c P3 = f P3 := by unfold rd_la; rw [if_pos q]
      have e3 := v_now (I := I) (k := k) (b := false) (n := n) (e := e) h2 (show P3 ≤ c by omega)
      rw [el3] at e3
      cases q1 : rd_var (f P3) with
      | false =>
        have em : mwp f c (isc 59) (mwp f c rd_var (P3, false)) = (P3, true) := by rw [mwp_n q q1]; rfl
        rw [em]
        refine ⟨A', start _ ?_, GrI_m (by decide) gA, x3, x7, x8, fun z => ?_⟩
        · refine (if_pos (show ty_b false = 0 from rfl)).trans ?_
          refine (if_pos (show Int32.ofNat P3 < I 4 by rw [h.1]; exact (j_lt (by omega) (by omega)).mpr q)).trans ?_
          refine (xb_some e3).trans ?_
          rw [q1, tb0, V_7t]
        · have z' : P3 = P1 + 4 := z
          have : P3 ≤ P2 + 1 := t3
          have : P2 ≤ P1 + 1 := t2
          omega
      | true =>
        have em : mwp f c (isc 59) (mwp f c rd_var (P3, false)) = mwp f c (isc 59) (P3 + 1, false) := by rw [mwp_y q q1]
        rw [em]
        have g3 : GrI A' (upA A' 6 (upd (A' 6) i (f P3 - 119))) i [6] := GrI_u _
        refine ⟨upA A' 6 (upd (A' 6) i (f P3 - 119)), start _ ?_, GrI_m (by decide) (GrI_t gA g3), x3, x7, x8, fun z => ?_⟩
        · refine (if_pos (show ty_b false = 0 from rfl)).trans ?_
          refine (if_pos (show Int32.ofNat P3 < I 4 by rw [h.1]; exact (j_lt (by omega) (by omega)).mpr q)).trans ?_
          refine (xb_some e3).trans ?_
          rw [q1, tb1, V_7f]
          refine (xb_some e3).trans ?_
          rw [show V I k P3 false n e 6 = Int32.ofNat P3 from rfl, show (1 : Int32) = Int32.ofNat 1 from rfl, ty_add, V_6, (j_n (n := i) (by omega)).2]
          refine (xb_some (v_wantp (Rf_g h2 g3 rfl) (show P3 + 1 ≤ c by omega) 59)).trans ?_
          rfl
        · have t4 := mwp_le (f := f) (c := c) (pr := isc 59) (r := (P3 + 1, false))
          have t4' : (mwp f c (isc 59) (P3 + 1, false)).1 ≤ P3 + 1 + 1 := t4
          have t3' : P3 ≤ P2 + 1 := t3
          have t2' : P2 ≤ P1 + 1 := t2
          have z' : (mwp f c (isc 59) (P3 + 1, false)).1 = P1 + 4 := z
          have p2 : P2 = P1 + 1 := by omega
          have p3 : P3 = P2 + 1 := by omega
          obtain ⟨-, -, -, k2⟩ := a2 p2
          obtain ⟨k3, -, -, k4⟩ := a3 p3
          refine ⟨?_, ?_⟩
          · show A' 5 i = f (P1 + 1) - 65
            rw [u3 k3 k4, p2]
          · show upA A' 6 (upd (A' 6) i (f P3 - 119)) 6 i = f (P1 + 2) - 119
            rw [upA_s, p3, p2]
    · have em : mwp f c (isc 59) (mwp f c rd_var (P3, false)) = (P3, false) := by rw [mwp_e q, mwp_e q]
      rw [em]
      refine ⟨A', start _ ?_, GrI_m (by decide) gA, x3, x7, x8, fun z => ?_⟩
      · refine (if_pos (show ty_b false = 0 from rfl)).trans ?_
        exact if_neg (show ¬ Int32.ofNat P3 < I 4 by rw [h.1]; exact mt (j_lt (by have : P3 ≤ c := b3; omega) (by omega)).mp q)
      · have z' : P3 = P1 + 4 := z
        have : P3 ≤ P2 + 1 := t3
        have : P2 ≤ P1 + 1 := t2
        omega
end VT
