def GrO (A B : Nat → Nat → Int32) (i e : Nat) (L : List Nat) : Prop := (∀ j, j ≠ 15 → L.contains j = false → B j = A j) ∧ (∀ j x, j ≠ 15 → x ≠ i → B j x = A j x) ∧ (∀ x, x ≠ e → B 15 x = A 15 x)
def Bg (A : Nat → Nat → Int32) (k h : Nat) (lab : Int32) : Prop := A 3 k = 6 ∧ A 12 k = Int32.ofNat h ∧ A 13 k = lab ∧ A 14 k = 0
section BG
variable {I : Nat → Int32} {A : Nat → Nat → Int32} {k P n e c m h9 : Nat} {f : Nat → Int32} {lab : Int32} {b : Bool}
theorem upA_ne {B : Nat → Nat → Int32} {j l : Nat} {g : Nat → Int32} (h : l ≠ j) : upA B j g l = B l := if_neg h
theorem upA_eq {B : Nat → Nat → Int32} {j : Nat} {g : Nat → Int32} : upA B j g j = g := if_pos rfl
theorem upd_s {g : Nat → Int32} {i : Nat} {v : Int32} : upd g i v i = v := if_pos rfl
theorem upd_n {g : Nat → Int32} {i x : Nat} {v : Int32} (h : x ≠ i) : upd g i v x = g x := if_neg h
theorem v_begin (hk : k < 200) (he : e < 8) : ∃ A', x_begin (V I k P b n e) A (Int32.ofNat h9) lab = some (V I (k + 1) P b n (e + 1), A', 0) ∧ GrO A A' k e [3, 12, 13, 14] ∧ Bg A' k h9 lab ∧ A' 15 e = Int32.ofNat k := by
  refine ⟨upA (upA (upA (upA (upA A 3 (upd (A 3) k 6)) 12 (upd (A 12) k (Int32.ofNat h9))) 13 (upd (A 13) k lab)) 14 (upd (A 14) k 0)) 15 (upd (A 15) e (Int32.ofNat k)), ?_, ⟨?_, ?_, ?_⟩, ⟨?_, ?_, ?_, ?_⟩, ?_⟩
  · unfold x_begin
    rw [show V I k P b n e 5 = Int32.ofNat k from rfl, show V I k P b n e 9 = Int32.ofNat e from rfl, if_pos (show ib (Int32.ofNat k) 200 from j_in (by omega) hk), if_pos (show ib (Int32.ofNat e) 8 from j_in (by omega) he), (j_n (n := k) (by omega)).2, (j_n (n := e) (by omega)).2, Int32.add_sub_cancel, show (1 : Int32) = Int32.ofNat 1 from rfl, ty_add, ty_add, V_5, V_9]
  · intro j hj hL
    have h3 : j ≠ 3 := fun z => by subst z; exact Bool.noConfusion hL
    have h12 : j ≠ 12 := fun z => by subst z; exact Bool.noConfusion hL
    have h13 : j ≠ 13 := fun z => by subst z; exact Bool.noConfusion hL
    have h14 : j ≠ 14 := fun z => by subst z; exact Bool.noConfusion hL
    rw [upA_ne hj, upA_ne h14, upA_ne h13, upA_ne h12, upA_ne h3]
  · intro j x hj hx
    rw [upA_ne hj]
    by_cases h14 : j = 14
    · subst h14; rw [upA_eq, upd_n hx]
    · rw [upA_ne h14]
      by_cases h13 : j = 13
      · subst h13; rw [upA_eq, upd_n hx]
      · rw [upA_ne h13]
        by_cases h12 : j = 12
        · subst h12; rw [upA_eq, upd_n hx]
        · rw [upA_ne h12]
          by_cases h3 : j = 3
          · subst h3; rw [upA_eq, upd_n hx]
          · rw [upA_ne h3]
  · intro x hx
    rw [upA_eq, upd_n hx]
  · rw [upA_ne (by decide), upA_ne (by decide), upA_ne (by decide), upA_ne (by decide), upA_eq, upd_s]
  · rw [upA_ne (by decide), upA_ne (by decide), upA_ne (by decide), upA_eq, upd_s]
  · rw [upA_ne (by decide), upA_ne (by decide), upA_eq, upd_s]
  · rw [upA_ne (by decide), upA_eq, upd_s]
  · rw [upA_eq, upd_s]
theorem v_rbegin (h : Rf I A c f) (hP : P ≤ c) (hk : k < 200) (he : e < 8) : ∃ k' e' A', x_readBegin (V I k P b n e) A (Int32.ofNat h9) lab = some (V I k' (mwp f c (isc 123) (P, b)).1 (mwp f c (isc 123) (P, b)).2 n e', A', 0) ∧ GrO A A' k e [3, 12, 13, 14] ∧ ((mwp f c (isc 123) (P, b)).1 = P + 1 → k' = k + 1 ∧ e' = e + 1 ∧ Bg A' k h9 lab ∧ A' 15 e = Int32.ofNat k) ∧ ((mwp f c (isc 123) (P, b)).1 ≠ P + 1 → k' = k ∧ e' = e ∧ A' = A) := by
  have hc := h.2.1
  have gr : GrO A A k e [3, 12, 13, 14] := ⟨fun _ _ _ => rfl, fun _ _ _ _ => rfl, fun _ _ => rfl⟩
  unfold x_readBegin
  rw [show V I k P b n e 4 = Int32.ofNat c from h.1, show V I k P b n e 6 = Int32.ofNat P from rfl, show V I k P b n e 7 = ty_b b from rfl]
  cases b with
  | true =>
    have ee : mwp f c (isc 123) (P, true) = (P, true) := rfl
    rw [ee, tb1]
    exact ⟨k, e, A, rfl, gr, fun z => absurd z (by show ¬ P = P + 1; omega), fun _ => ⟨rfl, rfl, rfl⟩⟩
  | false =>
    rw [tb0]
    by_cases q : P < c
    · rw [if_pos (show Int32.ofNat P < Int32.ofNat c from (j_lt (by omega) (by omega)).mpr q)]
      have e1 := v_wantp (I := I) (k := k) (b := false) (n := n) (e := e) h hP 123
      cases q1 : isc 123 (f P) with
      | true =>
        have ee : mwp f c (isc 123) (P, false) = (P + 1, false) := mwp_y q q1
        rw [ee] at e1 ⊢
        obtain ⟨A', u1, u2, u3, u4⟩ := v_begin (I := I) (A := A) (P := P + 1) (b := false) (n := n) (h9 := h9) (lab := lab) hk he
        refine ⟨k + 1, e + 1, A', ?_, u2, fun _ => ⟨rfl, rfl, u3, u4⟩, fun z => absurd rfl z⟩
        refine (xb_some e1).trans ?_
        refine (if_pos (show V I k (P + 1) false n e 7 = 0 from rfl)).trans ?_
        refine (xb_some u1).trans ?_
        rfl
      | false =>
        have ee : mwp f c (isc 123) (P, false) = (P, true) := mwp_n q q1
        rw [ee] at e1 ⊢
        refine ⟨k, e, A, ?_, gr, fun z => absurd z (by show ¬ P = P + 1; omega), fun _ => ⟨rfl, rfl, rfl⟩⟩
        refine (xb_some e1).trans ?_
        exact if_neg (show ¬ V I k P true n e 7 = 0 by show ¬ ty_b true = 0; decide)
    · have ee : mwp f c (isc 123) (P, false) = (P, false) := mwp_e q
      rw [if_neg (show ¬ Int32.ofNat P < Int32.ofNat c from mt (j_lt (by omega) (by omega)).mp q), ee]
      exact ⟨k, e, A, rfl, gr, fun z => absurd z (by show ¬ P = P + 1; omega), fun _ => ⟨rfl, rfl, rfl⟩⟩
def kdc (ch : Int32) : Int32 := if ch = 63 then 4 else 5
theorem v_br (h : Rf I A c f) (hP : P < c) (hk : k + 1 < 200) (he : e < 6) (hch : f P = 63 ∨ f P = 64) : ∃ k' e' A', (∀ m, 4 ≤ m → x_readStatement_151 m (V I (k + 1) P false n e) A (Int32.ofNat k) (f P) = some (V I k' (mwp f c (isc 123) (mw_expr f c (P + 1, false))).1 (mwp f c (isc 123) (mw_expr f c (P + 1, false))).2 n e', A', 0)) ∧ (∀ j, j ≠ 15 → ([3, 7, 8, 12, 13, 14] : List Nat).contains j = false → A' j = A j) ∧ (∀ j x, j ≠ 15 → x ≠ k → x ≠ k + 1 → A' j x = A j x) ∧ (∀ x, x ≠ e → A' 15 x = A 15 x) ∧ (∀ j, j ≠ 3 → j ≠ 7 → j ≠ 8 → j ≠ 15 → A' j k = A j k) ∧ A' 3 k = kdc (f P) ∧ A' 7 k = Int32.ofNat (P + 1) ∧ A' 8 k = Int32.ofNat (mw_expr f c (P + 1, false)).1 ∧ ((mwp f c (isc 123) (mw_expr f c (P + 1, false))).1 = (mw_expr f c (P + 1, false)).1 + 1 → k' = k + 2 ∧ e' = e + 1 ∧ Bg A' (k + 1) k 1 ∧ A' 15 e = Int32.ofNat (k + 1)) ∧ e' ≤ e + 1 := by
  have hc := h.2.1
  have hk' : k < 200 := by omega
  have g0 : GrI A (upA A 3 (upd (A 3) k (kdc (f P)))) k [3] := GrI_u _
  have h0 : Rf I (upA A 3 (upd (A 3) k (kdc (f P)))) c f := Rf_g h g0 rfl
  have z3 : upA A 3 (upd (A 3) k (kdc (f P))) 3 k = kdc (f P) := upA_s _
  have g1 : GrI (upA A 3 (upd (A 3) k (kdc (f P)))) (upA (upA (upA A 3 (upd (A 3) k (kdc (f P)))) 7 (upd (upA A 3 (upd (A 3) k (kdc (f P))) 7) k (Int32.ofNat (P + 1)))) 8 (upd (upA (upA A 3 (upd (A 3) k (kdc (f P)))) 7 (upd (upA A 3 (upd (A 3) k (kdc (f P))) 7) k (Int32.ofNat (P + 1))) 8) k (Int32.ofNat (mw_expr f c (P + 1, false)).1))) k ([7] ++ [8]) := GrI_t (GrI_u _) (GrI_u _)
  have hx' : ∀ m, 4 ≤ m → x_readExpression m (V I (k + 1) (P + 1) false n e) (upA A 3 (upd (A 3) k (kdc (f P)))) (Int32.ofNat k) = some (V I (k + 1) (mw_expr f c (P + 1, false)).1 (mw_expr f c (P + 1, false)).2 n e, upA (upA (upA A 3 (upd (A 3) k (kdc (f P)))) 7 (upd (upA A 3 (upd (A 3) k (kdc (f P))) 7) k (Int32.ofNat (P + 1)))) 8 (upd (upA (upA A 3 (upd (A 3) k (kdc (f P)))) 7 (upd (upA A 3 (upd (A 3) k (kdc (f P))) 7) k (Int32.ofNat (P + 1))) 8) k (Int32.ofNat (mw_expr f c (P + 1, false)).1)), 0) := fun m hm => v_expr (I := I) (k := k + 1) (P := P + 1) (b := false) (n := n) (e := e) (i := k) h0 (show P + 1 ≤ c by omega) hm hk'
  have y3 : upA (upA (upA A 3 (upd (A 3) k (kdc (f P)))) 7 (upd (upA A 3 (upd (A 3) k (kdc (f P))) 7) k (Int32.ofNat (P + 1)))) 8 (upd (upA (upA A 3 (upd (A 3) k (kdc (f P)))) 7 (upd (upA A 3 (upd (A 3) k (kdc (f P))) 7) k (Int32.ofNat (P + 1))) 8) k (Int32.ofNat (mw_expr f c (P + 1, false)).1)) 3 k = kdc (f P) := z3
  have y7 : upA (upA (upA A 3 (upd (A 3) k (kdc (f P)))) 7 (upd (upA A 3 (upd (A 3) k (kdc (f P))) 7) k (Int32.ofNat (P + 1)))) 8 (upd (upA (upA A 3 (upd (A 3) k (kdc (f P)))) 7 (upd (upA A 3 (upd (A 3) k (kdc (f P))) 7) k (Int32.ofNat (P + 1))) 8) k (Int32.ofNat (mw_expr f c (P + 1, false)).1)) 7 k = Int32.ofNat (P + 1) := (show upA (upA A 3 (upd (A 3) k (kdc (f P)))) 7 (upd (upA A 3 (upd (A 3) k (kdc (f P))) 7) k (Int32.ofNat (P + 1))) 7 k = _ from upA_s _)
  have y8 : upA (upA (upA A 3 (upd (A 3) k (kdc (f P)))) 7 (upd (upA A 3 (upd (A 3) k (kdc (f P))) 7) k (Int32.ofNat (P + 1)))) 8 (upd (upA (upA A 3 (upd (A 3) k (kdc (f P)))) 7 (upd (upA A 3 (upd (A 3) k (kdc (f P))) 7) k (Int32.ofNat (P + 1))) 8) k (Int32.ofNat (mw_expr f c (P + 1, false)).1)) 8 k = Int32.ofNat (mw_expr f c (P + 1, false)).1 := upA_s _
  have gB := GrI_t g0 g1
  generalize upA (upA (upA A 3 (upd (A 3) k (kdc (f P)))) 7 (upd (upA A 3 (upd (A 3) k (kdc (f P))) 7) k (Int32.ofNat (P + 1)))) 8 (upd (upA (upA A 3 (upd (A 3) k (kdc (f P)))) 7 (upd (upA A 3 (upd (A 3) k (kdc (f P))) 7) k (Int32.ofNat (P + 1))) 8) k (Int32.ofNat (mw_expr f c (P + 1, false)).1)) = B at hx' y3 y7 y8 gB g1
  have hB : Rf I B c f := Rf_g h gB rfl
  have hle : (mw_expr f c (P + 1, false)).1 ≤ c := mw_expr_le (show P + 1 ≤ c by omega)
  obtain ⟨k', e', A', u1, u2, u3, u4⟩ := v_rbegin (I := I) (k := k + 1) (P := (mw_expr f c (P + 1, false)).1) (b := (mw_expr f c (P + 1, false)).2) (n := n) (e := e) (h9 := k) (lab := 1) hB hle hk (by omega)
  have he9 : ¬ V I (k + 1) P false n e 9 = 6 := by
    show ¬ Int32.ofNat e = 6
    intro z
    have := (j_eq (n := 6) (by omega) (by decide)).mp z
    omega
  refine ⟨k', e', A', fun m hm => ?_, ?_, ?_, fun x hx9 => by rw [u2.2.2 x hx9, gB.1 15 rfl], ?_, ?_, ?_, ?_, fun z => ?_, ?_⟩
  · unfold x_readStatement_151
    rw [if_pos (show ib (Int32.ofNat k) 200 from j_in (by omega) hk'), if_pos (show ib (Int32.ofNat k) 200 from j_in (by omega) hk'), (j_n (n := k) (by omega)).2, if_neg he9, if_neg he9, V_7f, show V I (k + 1) P false n e 6 = Int32.ofNat P from rfl, show Int32.ofNat P + 1 = Int32.ofNat (P + 1) from ty_add P 1, V_6]
    by_cases q : f P = 63
    · rw [if_pos q]
      have hk4 : upA A 3 (upd (A 3) k 4) = upA A 3 (upd (A 3) k (kdc (f P))) := by unfold kdc; rw [if_pos q]
      rw [hk4]
      refine (xb_some (hx' m hm)).trans ?_
      refine (xb_some u1).trans ?_
      rfl
    · rw [if_neg q]
      have hk5 : upA A 3 (upd (A 3) k 5) = upA A 3 (upd (A 3) k (kdc (f P))) := by unfold kdc; rw [if_neg q]
      rw [hk5]
      refine (xb_some (hx' m hm)).trans ?_
      refine (xb_some u1).trans ?_
      rfl
  · intro j hj hL
    have hL1 : ([3, 12, 13, 14] : List Nat).contains j = false := by
      cases hc1 : ([3, 12, 13, 14] : List Nat).contains j with
      | false => rfl
      | true => simp at hc1 hL; omega
    have hL2 : ([3] ++ ([7] ++ [8]) : List Nat).contains j = false := by
      cases hc1 : ([3] ++ ([7] ++ [8]) : List Nat).contains j with
      | false => rfl
      | true => simp at hc1 hL; omega
    rw [u2.1 j hj hL1, gB.1 j hL2]
  · intro j x hj h1 h2
    rw [u2.2.1 j x hj h2, gB.2 j x h1]
  · intro j j3 j7 j8 j15
    rw [u2.2.1 j k j15 (by omega)]
    have hL2 : ([3] ++ ([7] ++ [8]) : List Nat).contains j = false := by
      cases hc1 : ([3] ++ ([7] ++ [8]) : List Nat).contains j with
      | false => rfl
      | true => simp at hc1; omega
    rw [gB.1 j hL2]
  · rw [u2.2.1 3 k (by decide) (by omega)]; exact y3
  · rw [u2.2.1 7 k (by decide) (by omega)]; exact y7
  · rw [u2.2.1 8 k (by decide) (by omega)]; exact y8
  · obtain ⟨w1, w2, w3, w4⟩ := u3 z
    exact ⟨w1, w2, w3, w4⟩
  · by_cases z : (mwp f c (isc 123) ((mw_expr f c (P + 1, false)).1, (mw_expr f c (P + 1, false)).2)).1 = (mw_expr f c (P + 1, false)).1 + 1
    · rw [(u3 z).2.1]
      exact Nat.le_refl _
    · rw [(u4 z).2.1]
      exact Nat.le_succ _
end BG
