def why_input : List (Nat × Nat × Nat) := [(3, 20, 0)]
theorem fhy_input {th : Nat} {S : hS} {x1 : Int32} {x2 : Int32} {x3 : Int32} {S' : hS} {r : Nat ⊕ Int32} (hm : y_input S th x1 x2 x3 = some (S', r)) : Fw why_input S S' := by
  unfold y_input at hm
  have hx : Fw why_input S S := Fw_r
  replace hm := zcT_inv hm
  obtain ⟨S1, w1, e1, hm⟩ := hm
  have hx := Fw_t hx (Fw_m (by decide) (fhy_needVariable e1))
  rcases w1 with c1 | v1
  · cases hm
    exact hx
  replace hm := zcT_v hm
  replace hm := zgd hm
  obtain ⟨b1, hm⟩ := hm
  replace hm := zcT_inv hm
  obtain ⟨S2, w2, e2, hm⟩ := hm
  have hx := Fw_t hx (Fw_m (by decide) (fhy_needNoStep e2))
  rcases w2 with c2 | v2
  · cases hm
    exact hx
  replace hm := zcT_v hm
  replace hm := zgd hm
  obtain ⟨b2, hm⟩ := hm
  replace hm := zlb_inv hm
  obtain ⟨o3, eo3, hm⟩ := hm
  replace hm := zob_inv hm
  obtain ⟨a4, rfl, hm⟩ := hm
  replace hm := zgd hm
  obtain ⟨b3, hm⟩ := hm
  replace hm := zlb_inv hm
  obtain ⟨o5, eo5, hm⟩ := hm
  replace hm := zob_inv hm
  obtain ⟨a6, rfl, hm⟩ := hm
  replace hm := zgd hm
  obtain ⟨b4, hm⟩ := hm
  replace hm := zgd hm
  obtain ⟨b5, hm⟩ := hm
  replace hm := zlb_inv hm
  obtain ⟨o7, eo7, hm⟩ := hm
  replace hm := zob_inv hm
  obtain ⟨a8, rfl, hm⟩ := hm
  replace hm := zgd hm
  obtain ⟨b6, hm⟩ := hm
  replace hm := zlb_inv hm
  obtain ⟨o9, eo9, hm⟩ := hm
  replace hm := zob_inv hm
  obtain ⟨a10, rfl, hm⟩ := hm
  replace hm := zgd hm
  obtain ⟨b7, hm⟩ := hm
  replace hm := zgd hm
  obtain ⟨b8, hm⟩ := hm
  have hx := Fw_AI (g := upd (zAI S2 a10) (Int32.toNatClampNeg (y_indexOf x1 x2)) x3) hx b7 (by decide)
  replace hm := zlb_inv hm
  obtain ⟨o11, eo11, hm⟩ := hm
  replace hm := zob_inv hm
  obtain ⟨a12, rfl, hm⟩ := hm
  replace hm := zgd hm
  obtain ⟨b9, hm⟩ := hm
  replace hm := zlb_inv hm
  obtain ⟨o13, eo13, hm⟩ := hm
  replace hm := zob_inv hm
  obtain ⟨a14, rfl, hm⟩ := hm
  replace hm := zgd hm
  obtain ⟨b10, hm⟩ := hm
  replace hm := zgd hm
  obtain ⟨b11, hm⟩ := hm
  have hx := Fw_AI (g := upd (zAI (szAI S2 a10 (upd (zAI S2 a10) (Int32.toNatClampNeg (y_indexOf x1 x2)) x3)) a14) (Int32.toNatClampNeg (y_indexOf x1 x2)) x3) hx b10 (by decide)
  cases hm
  exact hx
def why_room : List (Nat × Nat × Nat) := [(0, 9, 4)]
theorem fhy_room {th : Nat} {S : hS} {x1 : Int32} {S' : hS} {r : Nat ⊕ Int32} (hm : y_room S th x1 = some (S', r)) : Fw why_room S S' := by
  unfold y_room at hm
  have hx : Fw why_room S S := Fw_r
  by_cases q1 : x1 < 1
  · rw [if_pos q1] at hm
    cases hm
    exact Fw_ex hx
  · rw [if_neg q1] at hm
    by_cases q2 : x1 ≤ 8
    · rw [if_pos q2] at hm
      replace hm := zgd hm
      obtain ⟨b3, hm⟩ := hm
      replace hm := zcT_inv hm
      obtain ⟨S1, w1, e1, hm⟩ := hm
      have hx := Fw_t hx (Fw_m (by decide) (fhy_needNoStep e1))
      rcases w1 with c1 | v1
      · cases hm
        exact hx
      replace hm := zcT_v hm
      replace hm := zgd hm
      obtain ⟨b4, hm⟩ := hm
      replace hm := zlb_inv hm
      obtain ⟨o2, eo2, hm⟩ := hm
      replace hm := zob_inv hm
      obtain ⟨a3, rfl, hm⟩ := hm
      replace hm := zgd hm
      obtain ⟨b5, hm⟩ := hm
      have hx := Fw_I (k := 4) (v := x1) hx b5 (by decide)
      cases hm
      exact hx
    · rw [if_neg q2] at hm
      cases hm
      exact Fw_ex hx
def why_reset : List (Nat × Nat × Nat) := [(0, 5, 3), (0, 7, 3), (0, 9, 5), (1, 5, 2), (3, 20, 0)]
theorem fhy_reset {th : Nat} {n : Nat} {S : hS} {S' : hS} {r : Nat ⊕ Int32} (hm : y_reset n S th = some (S', r)) : Fw why_reset S S' := by
  unfold y_reset at hm
  have hx : Fw why_reset S S := Fw_r
  replace hm := zgd hm
  obtain ⟨b1, hm⟩ := hm
  replace hm := zcT_inv hm
  obtain ⟨S1, w1, e1, hm⟩ := hm
  have hx := Fw_t hx (Fw_m (by decide) (fhy_needPlay e1))
  rcases w1 with c1 | v1
  · cases hm
    exact hx
  replace hm := zcT_v hm
  replace hm := zgd hm
  obtain ⟨b2, hm⟩ := hm
  replace hm := zlb_inv hm
  obtain ⟨o2, eo2, hm⟩ := hm
  replace hm := zob_inv hm
  obtain ⟨a3, rfl, hm⟩ := hm
  replace hm := zgd hm
  obtain ⟨b3, hm⟩ := hm
  replace hm := zcV_inv hm
  obtain ⟨S4, e4, hm⟩ := hm
  have hx := Fw_t hx (Fw_m (by decide) (fhyT_beginAgain e4))
  cases hm
  exact hx
def whyE_termValue : List (Nat × Nat × Nat) := []
theorem fhyE_termValue_34 : ∀ (n : Nat) {S : hS} {l0 : Int64} {l6 : Int32} {l7 : Int32} {S' : hS} {r : Int32}, yE_termValue_34 n S l0 l6 l7 = some (S', r) → Fw whyE_termValue S S' := by
  intro n
  induction n with
  | zero => intro S l0 l6 l7 S' r hm; cases hm
  | succ n ih =>
    intro S l0 l6 l7 S' r hm
    unfold yE_termValue_34 at hm
    have hx : Fw whyE_termValue S S := Fw_r
    by_cases q1 : 8 ≤ l7
    · rw [if_pos q1] at hm
      cases hm
      exact hx
    · rw [if_neg q1] at hm
      by_cases q2 : ty_b (rd_fig (by_c l0 l7)) = 0
      · rw [if_pos q2] at hm
        cases hm
        exact hx
      · rw [if_neg q2] at hm
        exact Fw_t hx (ih hm)
theorem fhyE_termValue {n : Nat} {S : hS} {x1 : Int64} {x2 : Int32} {p3 : Option Nat} {x4 : Int32} {S' : hS} {r : Int32} (hm : yE_termValue n S x1 x2 p3 x4 = some (S', r)) : Fw whyE_termValue S S' := by
  unfold yE_termValue at hm
  have hx : Fw whyE_termValue S S := Fw_r
  by_cases q1 : ty_b (rd_var (by_c x1 x2)) = 0
  · rw [if_pos q1] at hm
    exact Fw_t hx (fhyE_termValue_34  n hm)
  · rw [if_neg q1] at hm
    replace hm := zob_inv hm
    obtain ⟨a1, rfl, hm⟩ := hm
    replace hm := zgd hm
    obtain ⟨b2, hm⟩ := hm
    replace hm := zgd hm
    obtain ⟨b3, hm⟩ := hm
    cases hm
    exact hx
def whyE_value : List (Nat × Nat × Nat) := []
theorem fhyE_value_28 {n : Nat} {S : hS} {l0 : Int64} {p2 : Option Nat} {l3 : Int32} {l4 : Int32} {S' : hS} {r : Int32} (hm : yE_value_28 n S l0 p2 l3 l4 = some (S', r)) : Fw whyE_value S S' := by
  unfold yE_value_28 at hm
  have hx : Fw whyE_value S S := Fw_r
  replace hm := zcP_inv hm
  obtain ⟨S1, v1, e1, hm⟩ := hm
  have hx := Fw_t hx (Fw_m (by decide) (fhyE_termValue e1))
  by_cases q1 : 8 ≤ l4
  · rw [if_pos q1] at hm
    cases hm
    exact hx
  · rw [if_neg q1] at hm
    by_cases q2 : by_c l0 l4 = 0
    · rw [if_pos q2] at hm
      cases hm
      exact hx
    · rw [if_neg q2] at hm
      replace hm := zcP_inv hm
      obtain ⟨S2, v2, e2, hm⟩ := hm
      have hx := Fw_t hx (Fw_m (by decide) (fhyE_termValue e2))
      cases hm
      exact hx
theorem fhyE_value_3 : ∀ (n : Nat) {S : hS} {l0 : Int64} {p2 : Option Nat} {l3 : Int32} {l4 : Int32} {S' : hS} {r : Int32}, yE_value_3 n S l0 p2 l3 l4 = some (S', r) → Fw whyE_value S S' := by
  intro n
  induction n with
  | zero => intro S l0 p2 l3 l4 S' r hm; cases hm
  | succ n ih =>
    intro S l0 p2 l3 l4 S' r hm
    unfold yE_value_3 at hm
    have hx : Fw whyE_value S S := Fw_r
    by_cases q1 : 8 ≤ l4
    · rw [if_pos q1] at hm
      exact Fw_t hx (fhyE_value_28  hm)
    · rw [if_neg q1] at hm
      by_cases q2 : yE_endsTerm (by_c l0 l4) = 0
      · rw [if_pos q2] at hm
        exact Fw_t hx (ih hm)
      · rw [if_neg q2] at hm
        exact Fw_t hx (fhyE_value_28  hm)
theorem fhyE_value {n : Nat} {S : hS} {x1 : Int64} {p2 : Option Nat} {x3 : Int32} {S' : hS} {r : Int32} (hm : yE_value n S x1 p2 x3 = some (S', r)) : Fw whyE_value S S' := by
  unfold yE_value at hm
  have hx : Fw whyE_value S S := Fw_r
  exact Fw_t hx (fhyE_value_3  n hm)
def whyT_valueFor : List (Nat × Nat × Nat) := []
theorem fhyT_valueFor {th : Nat} {n : Nat} {S : hS} {x1 : Int32} {p2 : Option Nat} {S' : hS} {r : Int32} (hm : yT_valueFor n S th x1 p2 = some (S', r)) : Fw whyT_valueFor S S' := by
  unfold yT_valueFor at hm
  have hx : Fw whyT_valueFor S S := Fw_r
  replace hm := zob_inv hm
  obtain ⟨a1, rfl, hm⟩ := hm
  replace hm := zgd hm
  obtain ⟨b1, hm⟩ := hm
  replace hm := zgd hm
  obtain ⟨b2, hm⟩ := hm
  replace hm := zlb_inv hm
  obtain ⟨o2, eo2, hm⟩ := hm
  replace hm := zcP_inv hm
  obtain ⟨S3, v3, e3, hm⟩ := hm
  have hx := Fw_t hx (Fw_m (by decide) (fhyE_value e3))
  cases hm
  exact hx
def whyT_queueOf : List (Nat × Nat × Nat) := []
theorem fhyT_queueOf {th : Nat} {S : hS} {x1 : Int32} {x2 : Int32} {S' : hS} {r : Option Nat} (hm : yT_queueOf S th x1 x2 = some (S', r)) : Fw whyT_queueOf S S' := by
  unfold yT_queueOf at hm
  have hx : Fw whyT_queueOf S S := Fw_r
  replace hm := zgd hm
  obtain ⟨b1, hm⟩ := hm
  replace hm := zlb_inv hm
  obtain ⟨o1, eo1, hm⟩ := hm
  replace hm := zob_inv hm
  obtain ⟨a2, rfl, hm⟩ := hm
  replace hm := zgd hm
  obtain ⟨b2, hm⟩ := hm
  replace hm := zgd hm
  obtain ⟨b3, hm⟩ := hm
  replace hm := zlb_inv hm
  obtain ⟨o3, eo3, hm⟩ := hm
  cases hm
  exact hx
def whyQ_add : List (Nat × Nat × Nat) := [(0, 7, 3), (3, 20, 0), (3, 22, 0)]
theorem fhyQ_add {th : Nat} {S : hS} {x1 : Int32} {x2 : Int32} {S' : hS} (hm : yQ_add S th x1 x2 = some S') : Fw whyQ_add S S' := by
  unfold yQ_add at hm
  have hx : Fw whyQ_add S S := Fw_r
  replace hm := zgd hm
  obtain ⟨b1, hm⟩ := hm
  by_cases q2 : 8 ≤ zI S 3 th
  · rw [if_pos q2] at hm
    cases hm
    exact hx
  · rw [if_neg q2] at hm
    replace hm := zlb_inv hm
    obtain ⟨o1, eo1, hm⟩ := hm
    replace hm := zob_inv hm
    obtain ⟨a2, rfl, hm⟩ := hm
    replace hm := zgd hm
    obtain ⟨b3, hm⟩ := hm
    replace hm := zgd hm
    obtain ⟨b4, hm⟩ := hm
    have hx := Fw_AI (g := upd (zAI S a2) (Int32.toNatClampNeg (((zI S 2 th) + (zI S 3 th)) - ((zI S 2 th) + (zI S 3 th)) / 8 * 8)) x1) hx b3 (by decide)
    replace hm := zlb_inv hm
    obtain ⟨o3, eo3, hm⟩ := hm
    replace hm := zob_inv hm
    obtain ⟨a4, rfl, hm⟩ := hm
    replace hm := zgd hm
    obtain ⟨b5, hm⟩ := hm
    replace hm := zgd hm
    obtain ⟨b6, hm⟩ := hm
    have hx := Fw_AI (g := upd (zAI (szAI S a2 (upd (zAI S a2) (Int32.toNatClampNeg (((zI S 2 th) + (zI S 3 th)) - ((zI S 2 th) + (zI S 3 th)) / 8 * 8)) x1)) a4) (Int32.toNatClampNeg (((zI S 2 th) + (zI S 3 th)) - ((zI S 2 th) + (zI S 3 th)) / 8 * 8)) (vp_nar .boolean x2)) hx b5 (by decide)
    have hx := Fw_I (k := 3) (v := (zI S 3 th) + 1) hx b1 (by decide)
    cases hm
    exact hx
def whyT_enqueue : List (Nat × Nat × Nat) := [(0, 7, 3), (3, 20, 0), (3, 22, 0)]
theorem fhyT_enqueue {th : Nat} {S : hS} {x1 : Int32} {x2 : Int32} {x3 : Int32} {x4 : Int32} {S' : hS} {r : Int32} (hm : yT_enqueue S th x1 x2 x3 x4 = some (S', r)) : Fw whyT_enqueue S S' := by
  unfold yT_enqueue at hm
  have hx : Fw whyT_enqueue S S := Fw_r
  replace hm := zgd hm
  obtain ⟨b1, hm⟩ := hm
  replace hm := zcP_inv hm
  obtain ⟨S1, o1, e1, hm⟩ := hm
  have hx := Fw_t hx (Fw_m (by decide) (fhyT_queueOf e1))
  replace hm := zob_inv hm
  obtain ⟨a2, rfl, hm⟩ := hm
  replace hm := zgd hm
  obtain ⟨b2, hm⟩ := hm
  replace hm := zgd hm
  obtain ⟨b3, hm⟩ := hm
  by_cases q4 : zI S1 3 a2 < zI S1 4 th
  · rw [if_pos q4] at hm
    replace hm := zcV_inv hm
    obtain ⟨S3, e3, hm⟩ := hm
    have hx := Fw_t hx (Fw_m (by decide) (fhyQ_add e3))
    cases hm
    exact hx
  · rw [if_neg q4] at hm
    cases hm
    exact hx
def whyT_send : List (Nat × Nat × Nat) := [(0, 7, 3), (1, 5, 2), (3, 20, 0), (3, 22, 0)]
theorem fhyT_send {th : Nat} {S : hS} {x1 : Int32} {p2 : Option Nat} {x3 : Int32} {x4 : Int32} {S' : hS} {r : Int32} (hm : yT_send S th x1 p2 x3 x4 = some (S', r)) : Fw whyT_send S S' := by
  unfold yT_send at hm
  have hx : Fw whyT_send S S := Fw_r
  replace hm := zob_inv hm
  obtain ⟨a1, rfl, hm⟩ := hm
  replace hm := zgd hm
  obtain ⟨b1, hm⟩ := hm
  replace hm := zgd hm
  obtain ⟨b2, hm⟩ := hm
  replace hm := zcP_inv hm
  obtain ⟨S2, v2, e2, hm⟩ := hm
  have hx := Fw_t hx (Fw_m (by decide) (fhyT_enqueue e2))
  by_cases q3 : v2 = 0
  · rw [if_pos q3] at hm
    cases hm
    exact hx
  · rw [if_neg q3] at hm
    replace hm := zgd hm
    obtain ⟨b4, hm⟩ := hm
    replace hm := zlb_inv hm
    obtain ⟨o3, eo3, hm⟩ := hm
    replace hm := zob_inv hm
    obtain ⟨a4, rfl, hm⟩ := hm
    replace hm := zgd hm
    obtain ⟨b5, hm⟩ := hm
    replace hm := zgd hm
    obtain ⟨b6, hm⟩ := hm
    replace hm := zlb_inv hm
    obtain ⟨o5, eo5, hm⟩ := hm
    replace hm := zgd hm
    obtain ⟨b7, hm⟩ := hm
    replace hm := zlb_inv hm
    obtain ⟨o6, eo6, hm⟩ := hm
    replace hm := zob_inv hm
    obtain ⟨a7, rfl, hm⟩ := hm
    replace hm := zgd hm
    obtain ⟨b8, hm⟩ := hm
    have hx := Fw_R (k := 2) (v := o6) hx b8 (by decide)
    cases hm
    exact hx
def whyA_enter : List (Nat × Nat × Nat) := []
theorem fhyA_enter {th : Nat} {S : hS} {x1 : Int32} {S' : hS} {r : Option Nat} (hm : yA_enter S th x1 = some (S', r)) : Fw whyA_enter S S' := by
  unfold yA_enter at hm
  have hx : Fw whyA_enter S S := Fw_r
  replace hm := zgd hm
  obtain ⟨b1, hm⟩ := hm
  replace hm := zcP_inv hm
  obtain ⟨S1, v1, e1, hm⟩ := hm
  have hx := Fw_t hx (Fw_m (by decide) (fhyA_hasPart e1))
  by_cases q2 : v1 = 0
  · rw [if_pos q2] at hm
    replace hm := zgd hm
    obtain ⟨b3, hm⟩ := hm
    replace hm := zcP_inv hm
    obtain ⟨S2, v2, e2, hm⟩ := hm
    have hx := Fw_t hx (Fw_m (by decide) (fhyA_comesAgain e2))
    by_cases q4 : v2 = 0
    · rw [if_pos q4] at hm
      replace hm := zgd hm
      obtain ⟨b5, hm⟩ := hm
      replace hm := zlb_inv hm
      obtain ⟨o3, eo3, hm⟩ := hm
      cases hm
      exact hx
    · rw [if_neg q4] at hm
      cases hm
      exact hx
  · rw [if_neg q2] at hm
    replace hm := zgd hm
    obtain ⟨b6, hm⟩ := hm
    replace hm := zlb_inv hm
    obtain ⟨o4, eo4, hm⟩ := hm
    replace hm := zob_inv hm
    obtain ⟨a5, rfl, hm⟩ := hm
    replace hm := zgd hm
    obtain ⟨b7, hm⟩ := hm
    replace hm := zgd hm
    obtain ⟨b8, hm⟩ := hm
    replace hm := zlb_inv hm
    obtain ⟨o6, eo6, hm⟩ := hm
    cases o6 with
    | none =>
      replace hm := zoc_n hm
      replace hm := zcP_inv hm
      obtain ⟨S8, v8, e8, hm⟩ := hm
      have hx := Fw_t hx (Fw_m (by decide) (fhyA_comesAgain e8))
      by_cases q9 : v8 = 0
      · rw [if_pos q9] at hm
        replace hm := zgd hm
        obtain ⟨b10, hm⟩ := hm
        replace hm := zlb_inv hm
        obtain ⟨o9, eo9, hm⟩ := hm
        cases hm
        exact hx
      · rw [if_neg q9] at hm
        cases hm
        exact hx
    | some a7 =>
      replace hm := zoc_s hm
      replace hm := zlb_inv hm
      obtain ⟨o10, eo10, hm⟩ := hm
      replace hm := zob_inv hm
      obtain ⟨a11, rfl, hm⟩ := hm
      replace hm := zgd hm
      obtain ⟨b11, hm⟩ := hm
      replace hm := zgd hm
      obtain ⟨b12, hm⟩ := hm
      replace hm := zlb_inv hm
      obtain ⟨o12, eo12, hm⟩ := hm
      cases hm
      exact hx
def whyA_ledFrom : List (Nat × Nat × Nat) := []
theorem fhyA_ledFrom_2 {th : Nat} : ∀ (n : Nat) {S : hS} {l2 : Int32} {S' : hS} {r : Int32}, yA_ledFrom_2 th n S l2 = some (S', r) → Fw whyA_ledFrom S S' := by
  intro n
  induction n with
  | zero => intro S l2 S' r hm; cases hm
  | succ n ih =>
    intro S l2 S' r hm
    unfold yA_ledFrom_2 at hm
    have hx : Fw whyA_ledFrom S S := Fw_r
    by_cases q1 : 6 ≤ l2
    · rw [if_pos q1] at hm
      cases hm
      exact hx
    · rw [if_neg q1] at hm
      replace hm := zgd hm
      obtain ⟨b2, hm⟩ := hm
      by_cases q3 : y_contains (zI S 4 th) l2 = 0
      · rw [if_pos q3] at hm
        exact Fw_t hx (ih hm)
      · rw [if_neg q3] at hm
        cases hm
        exact hx
theorem fhyA_ledFrom {th : Nat} {n : Nat} {S : hS} {x1 : Int32} {S' : hS} {r : Int32} (hm : yA_ledFrom n S th x1 = some (S', r)) : Fw whyA_ledFrom S S' := by
  unfold yA_ledFrom at hm
  have hx : Fw whyA_ledFrom S S := Fw_r
  exact Fw_t hx (fhyA_ledFrom_2  n hm)
def whyT_goRound : List (Nat × Nat × Nat) := [(0, 5, 3), (0, 5, 4), (0, 5, 5), (0, 7, 3), (1, 5, 2), (3, 20, 0), (3, 22, 0)]
theorem fhyT_goRound_85 {th : Nat} {n : Nat} {S : hS} {p2 : Option Nat} {p3 : Option Nat} {S' : hS} {r : Int32} (hm : yT_goRound_85 th n S p2 p3 = some (S', r)) : Fw whyT_goRound S S' := by
  unfold yT_goRound_85 at hm
  have hx : Fw whyT_goRound S S := Fw_r
  replace hm := zob_inv hm
  obtain ⟨a1, rfl, hm⟩ := hm
  replace hm := zgd hm
  obtain ⟨b1, hm⟩ := hm
  by_cases q2 : zI S 5 a1 = (-1)
  · rw [if_pos q2] at hm
    have hx := Fw_I (k := 3) (v := 0) hx b1 (by decide)
    by_cases q3 : zI S 4 a1 = 0
    · rw [if_pos q3] at hm
      replace hm := zob_inv hm
      obtain ⟨a2, rfl, hm⟩ := hm
      replace hm := zgd hm
      obtain ⟨b4, hm⟩ := hm
      replace hm := zlb_inv hm
      obtain ⟨o3, eo3, hm⟩ := hm
      have hx := Fw_R (k := 2) (v := o3) hx b1 (by decide)
      cases hm
      exact hx
    · rw [if_neg q3] at hm
      replace hm := zob_inv hm
      obtain ⟨a4, rfl, hm⟩ := hm
      replace hm := zgd hm
      obtain ⟨b5, hm⟩ := hm
      replace hm := zcP_inv hm
      obtain ⟨S5, o5, e5, hm⟩ := hm
      have hx := Fw_t hx (Fw_m (by decide) (fhyA_enter e5))
      replace hm := zgd hm
      obtain ⟨b6, hm⟩ := hm
      have hx := Fw_R (k := 2) (v := o5) hx b6 (by decide)
      cases hm
      exact hx
  · rw [if_neg q2] at hm
    cases hm
    exact hx
theorem fhyT_goRound {th : Nat} {n : Nat} {S : hS} {x1 : Int32} {p2 : Option Nat} {S' : hS} {r : Int32} (hm : yT_goRound n S th x1 p2 = some (S', r)) : Fw whyT_goRound S S' := by
  unfold yT_goRound at hm
  have hx : Fw whyT_goRound S S := Fw_r
  replace hm := zgd hm
  obtain ⟨b1, hm⟩ := hm
  replace hm := zlb_inv hm
  obtain ⟨o1, eo1, hm⟩ := hm
  replace hm := zob_inv hm
  obtain ⟨a2, rfl, hm⟩ := hm
  replace hm := zgd hm
  obtain ⟨b2, hm⟩ := hm
  replace hm := zgd hm
  obtain ⟨b3, hm⟩ := hm
  replace hm := zlb_inv hm
  obtain ⟨o3, eo3, hm⟩ := hm
  replace hm := zob_inv hm
  obtain ⟨a4, rfl, hm⟩ := hm
  replace hm := zgd hm
  obtain ⟨b4, hm⟩ := hm
  by_cases q5 : zI S 3 a4 = 0
  · rw [if_pos q5] at hm
    have hx := Fw_I (k := 3) (v := 1) hx b4 (by decide)
    replace hm := zcP_inv hm
    obtain ⟨S5, v5, e5, hm⟩ := hm
    have hx := Fw_t hx (Fw_m (by decide) (fhyT_valueFor e5))
    by_cases q6 : v5 = 0
    · rw [if_pos q6] at hm
      replace hm := zgd hm
      obtain ⟨b7, hm⟩ := hm
      have hx := Fw_I (k := 4) (v := 0) hx b7 (by decide)
      replace hm := zob_inv hm
      obtain ⟨a6, rfl, hm⟩ := hm
      replace hm := zgd hm
      obtain ⟨b8, hm⟩ := hm
      replace hm := zcP_inv hm
      obtain ⟨S7, v7, e7, hm⟩ := hm
      have hx := Fw_t hx (Fw_m (by decide) (fhyA_ledFrom e7))
      replace hm := zgd hm
      obtain ⟨b9, hm⟩ := hm
      have hx := Fw_I (k := 5) (v := v7) hx b9 (by decide)
      exact Fw_t hx (fhyT_goRound_85  hm)
    · rw [if_neg q6] at hm
      replace hm := zgd hm
      obtain ⟨b10, hm⟩ := hm
      have hx := Fw_I (k := 4) (v := 1) hx b10 (by decide)
      replace hm := zob_inv hm
      obtain ⟨a8, rfl, hm⟩ := hm
      replace hm := zgd hm
      obtain ⟨b11, hm⟩ := hm
      replace hm := zcP_inv hm
      obtain ⟨S9, v9, e9, hm⟩ := hm
      have hx := Fw_t hx (Fw_m (by decide) (fhyA_ledFrom e9))
      replace hm := zgd hm
      obtain ⟨b12, hm⟩ := hm
      have hx := Fw_I (k := 5) (v := v9) hx b12 (by decide)
      exact Fw_t hx (fhyT_goRound_85  hm)
  · rw [if_neg q5] at hm
    replace hm := zcP_inv hm
    obtain ⟨S10, v10, e10, hm⟩ := hm
    have hx := Fw_t hx (Fw_m (by decide) (fhyT_enqueue e10))
    by_cases q13 : v10 = 0
    · rw [if_pos q13] at hm
      cases hm
      exact hx
    · rw [if_neg q13] at hm
      replace hm := zgd hm
      obtain ⟨b14, hm⟩ := hm
      replace hm := zob_inv hm
      obtain ⟨a11, rfl, hm⟩ := hm
      replace hm := zgd hm
      obtain ⟨b15, hm⟩ := hm
      replace hm := zcP_inv hm
      obtain ⟨S12, v12, e12, hm⟩ := hm
      have hx := Fw_t hx (Fw_m (by decide) (fhyA_ledFrom e12))
      replace hm := zgd hm
      obtain ⟨b16, hm⟩ := hm
      have hx := Fw_I (k := 5) (v := v12) hx b16 (by decide)
      exact Fw_t hx (fhyT_goRound_85  hm)
def whyQ_valueAt : List (Nat × Nat × Nat) := []
theorem fhyQ_valueAt {th : Nat} {S : hS} {x1 : Int32} {S' : hS} {r : Int32} (hm : yQ_valueAt S th x1 = some (S', r)) : Fw whyQ_valueAt S S' := by
  unfold yQ_valueAt at hm
  have hx : Fw whyQ_valueAt S S := Fw_r
  replace hm := zgd hm
  obtain ⟨b1, hm⟩ := hm
  replace hm := zlb_inv hm
  obtain ⟨o1, eo1, hm⟩ := hm
  replace hm := zob_inv hm
  obtain ⟨a2, rfl, hm⟩ := hm
  replace hm := zgd hm
  obtain ⟨b2, hm⟩ := hm
  replace hm := zgd hm
  obtain ⟨b3, hm⟩ := hm
  cases hm
  exact hx
def whyQ_removeFirst : List (Nat × Nat × Nat) := [(0, 7, 2), (0, 7, 3)]
theorem fhyQ_removeFirst {th : Nat} {S : hS} {S' : hS} (hm : yQ_removeFirst S th = some S') : Fw whyQ_removeFirst S S' := by
  unfold yQ_removeFirst at hm
  have hx : Fw whyQ_removeFirst S S := Fw_r
  replace hm := zgd hm
  obtain ⟨b1, hm⟩ := hm
  by_cases q2 : zI S 3 th ≤ 0
  · rw [if_pos q2] at hm
    cases hm
    exact hx
  · rw [if_neg q2] at hm
    have hx := Fw_I (k := 2) (v := ((zI S 2 th) + 1) - ((zI S 2 th) + 1) / 8 * 8) hx b1 (by decide)
    have hx := Fw_I (k := 3) (v := (zI S 3 th) - 1) hx b1 (by decide)
    cases hm
    exact hx
def whyT_receive : List (Nat × Nat × Nat) := [(0, 7, 2), (0, 7, 3), (1, 5, 2), (3, 20, 0)]
theorem fhyT_receive_45 {th : Nat} {S : hS} {l1 : Int32} {p2 : Option Nat} {p3 : Option Nat} {l4 : Int32} {S' : hS} {r : Int32} (hm : yT_receive_45 th S l1 p2 p3 l4 = some (S', r)) : Fw whyT_receive S S' := by
  unfold yT_receive_45 at hm
  have hx : Fw whyT_receive S S := Fw_r
  replace hm := zob_inv hm
  obtain ⟨a1, rfl, hm⟩ := hm
  replace hm := zgd hm
  obtain ⟨b1, hm⟩ := hm
  replace hm := zcV_inv hm
  obtain ⟨S2, e2, hm⟩ := hm
  have hx := Fw_t hx (Fw_m (by decide) (fhyQ_removeFirst e2))
  replace hm := zgd hm
  obtain ⟨b2, hm⟩ := hm
  replace hm := zlb_inv hm
  obtain ⟨o3, eo3, hm⟩ := hm
  replace hm := zob_inv hm
  obtain ⟨a4, rfl, hm⟩ := hm
  replace hm := zgd hm
  obtain ⟨b3, hm⟩ := hm
  replace hm := zgd hm
  obtain ⟨b4, hm⟩ := hm
  replace hm := zlb_inv hm
  obtain ⟨o5, eo5, hm⟩ := hm
  replace hm := zob_inv hm
  obtain ⟨a6, rfl, hm⟩ := hm
  replace hm := zgd hm
  obtain ⟨b5, hm⟩ := hm
  by_cases q6 : zI S2 0 a6 = 3
  · rw [if_pos q6] at hm
    replace hm := zlb_inv hm
    obtain ⟨o7, eo7, hm⟩ := hm
    replace hm := zob_inv hm
    obtain ⟨a8, rfl, hm⟩ := hm
    replace hm := zgd hm
    obtain ⟨b7, hm⟩ := hm
    replace hm := zgd hm
    obtain ⟨b8, hm⟩ := hm
    have hx := Fw_AI (g := upd (zAI S2 a8) (Int32.toNatClampNeg (y_indexOf l1 (zI S2 1 a6))) l4) hx b7 (by decide)
    replace hm := zlb_inv hm
    obtain ⟨o9, eo9, hm⟩ := hm
    replace hm := zob_inv hm
    obtain ⟨a10, rfl, hm⟩ := hm
    replace hm := zgd hm
    obtain ⟨b9, hm⟩ := hm
    have hx := Fw_R (k := 2) (v := o9) hx b9 (by decide)
    cases hm
    exact hx
  · rw [if_neg q6] at hm
    by_cases q10 : zI S2 0 a6 = 5
    · rw [if_pos q10] at hm
      replace hm := zcP_inv hm
      obtain ⟨S11, o11, e11, hm⟩ := hm
      have hx := Fw_t hx (Fw_m (by decide) (fhyA_enter e11))
      replace hm := zob_inv hm
      obtain ⟨a12, rfl, hm⟩ := hm
      replace hm := zgd hm
      obtain ⟨b11, hm⟩ := hm
      have hx := Fw_R (k := 2) (v := o11) hx b11 (by decide)
      cases hm
      exact hx
    · rw [if_neg q10] at hm
      by_cases q12 : l4 = 0
      · rw [if_pos q12] at hm
        replace hm := zlb_inv hm
        obtain ⟨o13, eo13, hm⟩ := hm
        replace hm := zob_inv hm
        obtain ⟨a14, rfl, hm⟩ := hm
        replace hm := zgd hm
        obtain ⟨b13, hm⟩ := hm
        have hx := Fw_R (k := 2) (v := o13) hx b13 (by decide)
        cases hm
        exact hx
      · rw [if_neg q12] at hm
        replace hm := zcP_inv hm
        obtain ⟨S15, o15, e15, hm⟩ := hm
        have hx := Fw_t hx (Fw_m (by decide) (fhyA_enter e15))
        replace hm := zob_inv hm
        obtain ⟨a16, rfl, hm⟩ := hm
        replace hm := zgd hm
        obtain ⟨b14, hm⟩ := hm
        have hx := Fw_R (k := 2) (v := o15) hx b14 (by decide)
        cases hm
        exact hx
theorem fhyT_receive {th : Nat} {S : hS} {x1 : Int32} {p2 : Option Nat} {S' : hS} {r : Int32} (hm : yT_receive S th x1 p2 = some (S', r)) : Fw whyT_receive S S' := by
  unfold yT_receive at hm
  have hx : Fw whyT_receive S S := Fw_r
  replace hm := zob_inv hm
  obtain ⟨a1, rfl, hm⟩ := hm
  replace hm := zgd hm
  obtain ⟨b1, hm⟩ := hm
  replace hm := zgd hm
  obtain ⟨b2, hm⟩ := hm
  replace hm := zcP_inv hm
  obtain ⟨S2, o2, e2, hm⟩ := hm
  have hx := Fw_t hx (Fw_m (by decide) (fhyT_queueOf e2))
  replace hm := zob_inv hm
  obtain ⟨a3, rfl, hm⟩ := hm
  replace hm := zgd hm
  obtain ⟨b3, hm⟩ := hm
  by_cases q4 : zI S2 3 a3 = 0
  · rw [if_pos q4] at hm
    cases hm
    exact hx
  · rw [if_neg q4] at hm
    replace hm := zcP_inv hm
    obtain ⟨S4, v4, e4, hm⟩ := hm
    have hx := Fw_t hx (Fw_m (by decide) (fhyQ_valueAt e4))
    replace hm := zgd hm
    obtain ⟨b5, hm⟩ := hm
    by_cases q6 : zI S4 0 a1 = 5
    · rw [if_pos q6] at hm
      replace hm := zcP_inv hm
      obtain ⟨S5, v5, e5, hm⟩ := hm
      have hx := Fw_t hx (Fw_m (by decide) (fhyA_hasPart e5))
      by_cases q7 : v5 = 0
      · rw [if_pos q7] at hm
        cases hm
        exact hx
      · rw [if_neg q7] at hm
        exact Fw_t hx (fhyT_receive_45  hm)
    · rw [if_neg q6] at hm
      exact Fw_t hx (fhyT_receive_45  hm)
def whyT_goOn : List (Nat × Nat × Nat) := [(0, 5, 3), (0, 5, 4), (0, 5, 5), (0, 7, 2), (0, 7, 3), (1, 5, 2), (3, 20, 0), (3, 22, 0)]
theorem fhyT_goOn {th : Nat} {n : Nat} {S : hS} {x1 : Int32} {p2 : Option Nat} {S' : hS} {r : Int32} (hm : yT_goOn n S th x1 p2 = some (S', r)) : Fw whyT_goOn S S' := by
  unfold yT_goOn at hm
  have hx : Fw whyT_goOn S S := Fw_r
  replace hm := zgd hm
  obtain ⟨b1, hm⟩ := hm
  replace hm := zlb_inv hm
  obtain ⟨o1, eo1, hm⟩ := hm
  replace hm := zob_inv hm
  obtain ⟨a2, rfl, hm⟩ := hm
  replace hm := zgd hm
  obtain ⟨b2, hm⟩ := hm
  replace hm := zgd hm
  obtain ⟨b3, hm⟩ := hm
  replace hm := zlb_inv hm
  obtain ⟨o3, eo3, hm⟩ := hm
  replace hm := zob_inv hm
  obtain ⟨a4, rfl, hm⟩ := hm
  replace hm := zgd hm
  obtain ⟨b4, hm⟩ := hm
  by_cases q5 : zI S 0 a4 = 1
  · rw [if_pos q5] at hm
    replace hm := zlb_inv hm
    obtain ⟨o5, eo5, hm⟩ := hm
    replace hm := zcP_inv hm
    obtain ⟨S6, v6, e6, hm⟩ := hm
    have hx := Fw_t hx (Fw_m (by decide) (fhyT_valueFor e6))
    replace hm := zob_inv hm
    obtain ⟨a7, rfl, hm⟩ := hm
    replace hm := zgd hm
    obtain ⟨b6, hm⟩ := hm
    replace hm := zgd hm
    obtain ⟨b7, hm⟩ := hm
    have hx := Fw_AI (g := upd (zAI S6 a7) (Int32.toNatClampNeg (y_indexOf x1 (zI S 1 a4))) v6) hx b6 (by decide)
    replace hm := zgd hm
    obtain ⟨b8, hm⟩ := hm
    replace hm := zlb_inv hm
    obtain ⟨o8, eo8, hm⟩ := hm
    replace hm := zob_inv hm
    obtain ⟨a9, rfl, hm⟩ := hm
    replace hm := zgd hm
    obtain ⟨b9, hm⟩ := hm
    have hx := Fw_R (k := 2) (v := o8) hx b9 (by decide)
    cases hm
    exact hx
  · rw [if_neg q5] at hm
    by_cases q10 : zI S 0 a4 = 2
    · rw [if_pos q10] at hm
      replace hm := zcP_inv hm
      obtain ⟨S10, v10, e10, hm⟩ := hm
      have hx := Fw_t hx (Fw_m (by decide) (fhyT_valueFor e10))
      replace hm := zgd hm
      obtain ⟨b11, hm⟩ := hm
      replace hm := zcP_inv hm
      obtain ⟨S11, v11, e11, hm⟩ := hm
      have hx := Fw_t hx (Fw_m (by decide) (fhyT_send e11))
      replace hm := zgd hm
      obtain ⟨b12, hm⟩ := hm
      cases hm
      exact hx
    · rw [if_neg q10] at hm
      by_cases q13 : zI S 0 a4 = 4
      · rw [if_pos q13] at hm
        replace hm := zcP_inv hm
        obtain ⟨S12, v12, e12, hm⟩ := hm
        have hx := Fw_t hx (Fw_m (by decide) (fhyT_send e12))
        replace hm := zgd hm
        obtain ⟨b14, hm⟩ := hm
        cases hm
        exact hx
      · rw [if_neg q13] at hm
        by_cases q15 : zI S 0 a4 = 6
        · rw [if_pos q15] at hm
          replace hm := zcP_inv hm
          obtain ⟨S13, v13, e13, hm⟩ := hm
          have hx := Fw_t hx (Fw_m (by decide) (fhyT_valueFor e13))
          by_cases q16 : v13 = 0
          · rw [if_pos q16] at hm
            replace hm := zgd hm
            obtain ⟨b17, hm⟩ := hm
            replace hm := zcP_inv hm
            obtain ⟨S14, o14, e14, hm⟩ := hm
            have hx := Fw_t hx (Fw_m (by decide) (fhyA_enter e14))
            replace hm := zob_inv hm
            obtain ⟨a15, rfl, hm⟩ := hm
            replace hm := zgd hm
            obtain ⟨b18, hm⟩ := hm
            have hx := Fw_R (k := 2) (v := o14) hx b18 (by decide)
            cases hm
            exact hx
          · rw [if_neg q16] at hm
            replace hm := zgd hm
            obtain ⟨b19, hm⟩ := hm
            replace hm := zcP_inv hm
            obtain ⟨S16, o16, e16, hm⟩ := hm
            have hx := Fw_t hx (Fw_m (by decide) (fhyA_enter e16))
            replace hm := zob_inv hm
            obtain ⟨a17, rfl, hm⟩ := hm
            replace hm := zgd hm
            obtain ⟨b20, hm⟩ := hm
            have hx := Fw_R (k := 2) (v := o16) hx b20 (by decide)
            cases hm
            exact hx
        · rw [if_neg q15] at hm
          by_cases q21 : zI S 0 a4 = 7
          · rw [if_pos q21] at hm
            replace hm := zcP_inv hm
            obtain ⟨S18, v18, e18, hm⟩ := hm
            have hx := Fw_t hx (Fw_m (by decide) (fhyT_goRound e18))
            replace hm := zgd hm
            obtain ⟨b22, hm⟩ := hm
            cases hm
            exact hx
          · rw [if_neg q21] at hm
            replace hm := zcP_inv hm
            obtain ⟨S19, v19, e19, hm⟩ := hm
            have hx := Fw_t hx (Fw_m (by decide) (fhyT_receive e19))
            replace hm := zgd hm
            obtain ⟨b23, hm⟩ := hm
            cases hm
            exact hx
def whyT_takeTurn : List (Nat × Nat × Nat) := [(0, 5, 3), (0, 5, 4), (0, 5, 5), (0, 7, 2), (0, 7, 3), (0, 9, 5), (1, 5, 2), (3, 20, 0), (3, 22, 0)]
theorem fhyT_takeTurn {th : Nat} {n : Nat} {S : hS} {x1 : Int32} {S' : hS} {r : Int32} (hm : yT_takeTurn n S th x1 = some (S', r)) : Fw whyT_takeTurn S S' := by
  unfold yT_takeTurn at hm
  have hx : Fw whyT_takeTurn S S := Fw_r
  replace hm := zgd hm
  obtain ⟨b1, hm⟩ := hm
  replace hm := zlb_inv hm
  obtain ⟨o1, eo1, hm⟩ := hm
  replace hm := zob_inv hm
  obtain ⟨a2, rfl, hm⟩ := hm
  replace hm := zgd hm
  obtain ⟨b2, hm⟩ := hm
  replace hm := zgd hm
  obtain ⟨b3, hm⟩ := hm
  replace hm := zlb_inv hm
  obtain ⟨o3, eo3, hm⟩ := hm
  replace hm := zob_inv hm
  obtain ⟨a4, rfl, hm⟩ := hm
  replace hm := zgd hm
  obtain ⟨b4, hm⟩ := hm
  replace hm := zlb_inv hm
  obtain ⟨o5, eo5, hm⟩ := hm
  cases o5 with
  | none =>
    replace hm := zoc_n hm
    cases hm
    exact hx
  | some a6 =>
    replace hm := zoc_s hm
    replace hm := zcP_inv hm
    obtain ⟨S7, v7, e7, hm⟩ := hm
    have hx := Fw_t hx (Fw_m (by decide) (fhyT_goOn e7))
    by_cases q5 : v7 = 0
    · rw [if_pos q5] at hm
      cases hm
      exact hx
    · rw [if_neg q5] at hm
      replace hm := zgd hm
      obtain ⟨b6, hm⟩ := hm
      have hx := Fw_I (k := 5) (v := 1) hx b6 (by decide)
      cases hm
      exact hx
def why_step : List (Nat × Nat × Nat) := [(0, 5, 3), (0, 5, 4), (0, 5, 5), (0, 7, 2), (0, 7, 3), (0, 9, 5), (1, 5, 2), (3, 20, 0), (3, 22, 0)]
theorem fhy_step {th : Nat} {n : Nat} {S : hS} {x1 : Int32} {S' : hS} {r : Nat ⊕ Int32} (hm : y_step n S th x1 = some (S', r)) : Fw why_step S S' := by
  unfold y_step at hm
  have hx : Fw why_step S S := Fw_r
  replace hm := zcT_inv hm
  obtain ⟨S1, w1, e1, hm⟩ := hm
  have hx := Fw_t hx (Fw_m (by decide) (fhy_needParty e1))
  rcases w1 with c1 | v1
  · cases hm
    exact hx
  replace hm := zcT_v hm
  replace hm := zgd hm
  obtain ⟨b1, hm⟩ := hm
  replace hm := zcT_inv hm
  obtain ⟨S2, w2, e2, hm⟩ := hm
  have hx := Fw_t hx (Fw_m (by decide) (fhy_needPlay e2))
  rcases w2 with c2 | v2
  · cases hm
    exact hx
  replace hm := zcT_v hm
  replace hm := zgd hm
  obtain ⟨b2, hm⟩ := hm
  replace hm := zlb_inv hm
  obtain ⟨o3, eo3, hm⟩ := hm
  replace hm := zob_inv hm
  obtain ⟨a4, rfl, hm⟩ := hm
  replace hm := zgd hm
  obtain ⟨b3, hm⟩ := hm
  replace hm := zcP_inv hm
  obtain ⟨S5, v5, e5, hm⟩ := hm
  have hx := Fw_t hx (Fw_m (by decide) (fhyT_takeTurn e5))
  cases hm
  exact hx
def why_run : List (Nat × Nat × Nat) := [(0, 5, 3), (0, 5, 4), (0, 5, 5), (0, 7, 2), (0, 7, 3), (0, 9, 5), (1, 5, 2), (3, 20, 0), (3, 22, 0)]
theorem fhy_run_32 {th : Nat} : ∀ (n : Nat) {S : hS} {l1 : Int32} {l2 : Int32} {l3 : Int32} {l4 : Int32} {S' : hS} {r : Nat ⊕ Int32}, y_run_32 th n S l1 l2 l3 l4 = some (S', r) → Fw why_run S S' := by
  intro n
  induction n with
  | zero => intro S l1 l2 l3 l4 S' r hm; cases hm
  | succ n ih =>
    intro S l1 l2 l3 l4 S' r hm
    unfold y_run_32 at hm
    have hx : Fw why_run S S := Fw_r
    by_cases q1 : l2 ≤ l4
    · rw [if_pos q1] at hm
      cases hm
      exact hx
    · rw [if_neg q1] at hm
      replace hm := zgd hm
      obtain ⟨b2, hm⟩ := hm
      replace hm := zlb_inv hm
      obtain ⟨o1, eo1, hm⟩ := hm
      replace hm := zob_inv hm
      obtain ⟨a2, rfl, hm⟩ := hm
      replace hm := zgd hm
      obtain ⟨b3, hm⟩ := hm
      replace hm := zcP_inv hm
      obtain ⟨S3, v3, e3, hm⟩ := hm
      have hx := Fw_t hx (Fw_m (by decide) (fhyT_takeTurn e3))
      by_cases q4 : v3 = 1
      · rw [if_pos q4] at hm
        exact Fw_t hx (ih hm)
      · rw [if_neg q4] at hm
        exact Fw_t hx (ih hm)
theorem fhy_run {th : Nat} {n : Nat} {S : hS} {x1 : Int32} {x2 : Int32} {S' : hS} {r : Nat ⊕ Int32} (hm : y_run n S th x1 x2 = some (S', r)) : Fw why_run S S' := by
  unfold y_run at hm
  have hx : Fw why_run S S := Fw_r
  replace hm := zcT_inv hm
  obtain ⟨S1, w1, e1, hm⟩ := hm
  have hx := Fw_t hx (Fw_m (by decide) (fhy_needParty e1))
  rcases w1 with c1 | v1
  · cases hm
    exact hx
  replace hm := zcT_v hm
  by_cases q1 : x2 < 0
  · rw [if_pos q1] at hm
    cases hm
    exact Fw_ex hx
  · rw [if_neg q1] at hm
    by_cases q2 : x2 ≤ 300
    · rw [if_pos q2] at hm
      replace hm := zgd hm
      obtain ⟨b3, hm⟩ := hm
      replace hm := zcT_inv hm
      obtain ⟨S2, w2, e2, hm⟩ := hm
      have hx := Fw_t hx (Fw_m (by decide) (fhy_needPlay e2))
      rcases w2 with c2 | v2
      · cases hm
        exact hx
      replace hm := zcT_v hm
      exact Fw_t hx (fhy_run_32  n hm)
    · rw [if_neg q2] at hm
      cases hm
      exact Fw_ex hx
def why_at : List (Nat × Nat × Nat) := []
theorem fhy_at {th : Nat} {S : hS} {x1 : Int32} {S' : hS} {r : Nat ⊕ Int32} (hm : y_at S th x1 = some (S', r)) : Fw why_at S S' := by
  unfold y_at at hm
  have hx : Fw why_at S S := Fw_r
  replace hm := zcT_inv hm
  obtain ⟨S1, w1, e1, hm⟩ := hm
  have hx := Fw_t hx (Fw_m (by decide) (fhy_needParty e1))
  rcases w1 with c1 | v1
  · cases hm
    exact hx
  replace hm := zcT_v hm
  replace hm := zgd hm
  obtain ⟨b1, hm⟩ := hm
  replace hm := zcT_inv hm
  obtain ⟨S2, w2, e2, hm⟩ := hm
  have hx := Fw_t hx (Fw_m (by decide) (fhy_needPlay e2))
  rcases w2 with c2 | v2
  · cases hm
    exact hx
  replace hm := zcT_v hm
  replace hm := zgd hm
  obtain ⟨b2, hm⟩ := hm
  replace hm := zlb_inv hm
  obtain ⟨o3, eo3, hm⟩ := hm
  replace hm := zob_inv hm
  obtain ⟨a4, rfl, hm⟩ := hm
  replace hm := zgd hm
  obtain ⟨b3, hm⟩ := hm
  replace hm := zlb_inv hm
  obtain ⟨o5, eo5, hm⟩ := hm
  replace hm := zob_inv hm
  obtain ⟨a6, rfl, hm⟩ := hm
  replace hm := zgd hm
  obtain ⟨b4, hm⟩ := hm
  replace hm := zgd hm
  obtain ⟨b5, hm⟩ := hm
  replace hm := zlb_inv hm
  obtain ⟨o7, eo7, hm⟩ := hm
  replace hm := zob_inv hm
  obtain ⟨a8, rfl, hm⟩ := hm
  replace hm := zgd hm
  obtain ⟨b6, hm⟩ := hm
  replace hm := zlb_inv hm
  obtain ⟨o9, eo9, hm⟩ := hm
  cases o9 with
  | none =>
    replace hm := zoc_n hm
    cases hm
    exact hx
  | some a10 =>
    replace hm := zoc_s hm
    replace hm := zgd hm
    obtain ⟨b7, hm⟩ := hm
    cases hm
    exact hx
def why_variable : List (Nat × Nat × Nat) := []
theorem fhy_variable {th : Nat} {S : hS} {x1 : Int32} {x2 : Int32} {S' : hS} {r : Nat ⊕ Int32} (hm : y_variable S th x1 x2 = some (S', r)) : Fw why_variable S S' := by
  unfold y_variable at hm
  have hx : Fw why_variable S S := Fw_r
  replace hm := zcT_inv hm
  obtain ⟨S1, w1, e1, hm⟩ := hm
  have hx := Fw_t hx (Fw_m (by decide) (fhy_needVariable e1))
  rcases w1 with c1 | v1
  · cases hm
    exact hx
  replace hm := zcT_v hm
  replace hm := zgd hm
  obtain ⟨b1, hm⟩ := hm
  replace hm := zlb_inv hm
  obtain ⟨o2, eo2, hm⟩ := hm
  replace hm := zob_inv hm
  obtain ⟨a3, rfl, hm⟩ := hm
  replace hm := zgd hm
  obtain ⟨b2, hm⟩ := hm
  replace hm := zlb_inv hm
  obtain ⟨o4, eo4, hm⟩ := hm
  replace hm := zob_inv hm
  obtain ⟨a5, rfl, hm⟩ := hm
  replace hm := zgd hm
  obtain ⟨b3, hm⟩ := hm
  replace hm := zgd hm
  obtain ⟨b4, hm⟩ := hm
  cases hm
  exact hx
def why_needPair : List (Nat × Nat × Nat) := []
theorem fhy_needPair {S : hS} {x1 : Int32} {x2 : Int32} {S' : hS} {r : Nat ⊕ Int32} (hm : y_needPair S x1 x2 = some (S', r)) : Fw why_needPair S S' := by
  unfold y_needPair at hm
  have hx : Fw why_needPair S S := Fw_r
  by_cases q1 : ty_b (rd_rp x1) = 0
  · rw [if_pos q1] at hm
    cases hm
    exact Fw_ex hx
  · rw [if_neg q1] at hm
    by_cases q2 : ty_b (rd_rp x2) = 0
    · rw [if_pos q2] at hm
      cases hm
      exact Fw_ex hx
    · rw [if_neg q2] at hm
      by_cases q3 : x1 = x2
      · rw [if_pos q3] at hm
        cases hm
        exact Fw_ex hx
      · rw [if_neg q3] at hm
        cases hm
        exact hx
def why_queue : List (Nat × Nat × Nat) := []
theorem fhy_queue {th : Nat} {S : hS} {x1 : Int32} {x2 : Int32} {S' : hS} {r : Nat ⊕ Int32} (hm : y_queue S th x1 x2 = some (S', r)) : Fw why_queue S S' := by
  unfold y_queue at hm
  have hx : Fw why_queue S S := Fw_r
  replace hm := zcT_inv hm
  obtain ⟨S1, w1, e1, hm⟩ := hm
  have hx := Fw_t hx (Fw_m (by decide) (fhy_needPair e1))
  rcases w1 with c1 | v1
  · cases hm
    exact hx
  replace hm := zcT_v hm
  replace hm := zgd hm
  obtain ⟨b1, hm⟩ := hm
  replace hm := zlb_inv hm
  obtain ⟨o2, eo2, hm⟩ := hm
  replace hm := zob_inv hm
  obtain ⟨a3, rfl, hm⟩ := hm
  replace hm := zgd hm
  obtain ⟨b2, hm⟩ := hm
  replace hm := zcP_inv hm
  obtain ⟨S4, o4, e4, hm⟩ := hm
  have hx := Fw_t hx (Fw_m (by decide) (fhyT_queueOf e4))
  replace hm := zob_inv hm
  obtain ⟨a5, rfl, hm⟩ := hm
  replace hm := zgd hm
  obtain ⟨b3, hm⟩ := hm
  cases hm
  exact hx
def why_needMessage : List (Nat × Nat × Nat) := []
theorem fhy_needMessage {th : Nat} {S : hS} {x1 : Int32} {x2 : Int32} {x3 : Int32} {S' : hS} {r : Nat ⊕ Int32} (hm : y_needMessage S th x1 x2 x3 = some (S', r)) : Fw why_needMessage S S' := by
  unfold y_needMessage at hm
  have hx : Fw why_needMessage S S := Fw_r
  replace hm := zcT_inv hm
  obtain ⟨S1, w1, e1, hm⟩ := hm
  have hx := Fw_t hx (Fw_m (by decide) (fhy_needPair e1))
  rcases w1 with c1 | v1
  · cases hm
    exact hx
  replace hm := zcT_v hm
  by_cases q1 : x3 < 0
  · rw [if_pos q1] at hm
    cases hm
    exact Fw_ex hx
  · rw [if_neg q1] at hm
    replace hm := zgd hm
    obtain ⟨b2, hm⟩ := hm
    replace hm := zlb_inv hm
    obtain ⟨o2, eo2, hm⟩ := hm
    replace hm := zob_inv hm
    obtain ⟨a3, rfl, hm⟩ := hm
    replace hm := zgd hm
    obtain ⟨b3, hm⟩ := hm
    replace hm := zcP_inv hm
    obtain ⟨S4, o4, e4, hm⟩ := hm
    have hx := Fw_t hx (Fw_m (by decide) (fhyT_queueOf e4))
    replace hm := zob_inv hm
    obtain ⟨a5, rfl, hm⟩ := hm
    replace hm := zgd hm
    obtain ⟨b4, hm⟩ := hm
    by_cases q5 : x3 < zI S4 3 a5
    · rw [if_pos q5] at hm
      cases hm
      exact hx
    · rw [if_neg q5] at hm
      cases hm
      exact Fw_ex hx
def why_message : List (Nat × Nat × Nat) := []
theorem fhy_message {th : Nat} {S : hS} {x1 : Int32} {x2 : Int32} {x3 : Int32} {S' : hS} {r : Nat ⊕ Int32} (hm : y_message S th x1 x2 x3 = some (S', r)) : Fw why_message S S' := by
  unfold y_message at hm
  have hx : Fw why_message S S := Fw_r
  replace hm := zgd hm
  obtain ⟨b1, hm⟩ := hm
  replace hm := zcT_inv hm
  obtain ⟨S1, w1, e1, hm⟩ := hm
  have hx := Fw_t hx (Fw_m (by decide) (fhy_needMessage e1))
  rcases w1 with c1 | v1
  · cases hm
    exact hx
  replace hm := zcT_v hm
  replace hm := zgd hm
  obtain ⟨b2, hm⟩ := hm
  replace hm := zlb_inv hm
  obtain ⟨o2, eo2, hm⟩ := hm
  replace hm := zob_inv hm
  obtain ⟨a3, rfl, hm⟩ := hm
  replace hm := zgd hm
  obtain ⟨b3, hm⟩ := hm
  replace hm := zcP_inv hm
  obtain ⟨S4, o4, e4, hm⟩ := hm
  have hx := Fw_t hx (Fw_m (by decide) (fhyT_queueOf e4))
  replace hm := zob_inv hm
  obtain ⟨a5, rfl, hm⟩ := hm
  replace hm := zgd hm
  obtain ⟨b4, hm⟩ := hm
  replace hm := zcP_inv hm
  obtain ⟨S6, v6, e6, hm⟩ := hm
  have hx := Fw_t hx (Fw_m (by decide) (fhyQ_valueAt e6))
  cases hm
  exact hx
def whyQ_isLabelAt : List (Nat × Nat × Nat) := []
theorem fhyQ_isLabelAt {th : Nat} {S : hS} {x1 : Int32} {S' : hS} {r : Int32} (hm : yQ_isLabelAt S th x1 = some (S', r)) : Fw whyQ_isLabelAt S S' := by
  unfold yQ_isLabelAt at hm
  have hx : Fw whyQ_isLabelAt S S := Fw_r
  replace hm := zgd hm
  obtain ⟨b1, hm⟩ := hm
  replace hm := zlb_inv hm
  obtain ⟨o1, eo1, hm⟩ := hm
  replace hm := zob_inv hm
  obtain ⟨a2, rfl, hm⟩ := hm
  replace hm := zgd hm
  obtain ⟨b2, hm⟩ := hm
  replace hm := zgd hm
  obtain ⟨b3, hm⟩ := hm
  replace hm := zgd hm
  obtain ⟨b4, hm⟩ := hm
  cases hm
  exact hx
def why_label : List (Nat × Nat × Nat) := []
theorem fhy_label {th : Nat} {S : hS} {x1 : Int32} {x2 : Int32} {x3 : Int32} {S' : hS} {r : Nat ⊕ Int32} (hm : y_label S th x1 x2 x3 = some (S', r)) : Fw why_label S S' := by
  unfold y_label at hm
  have hx : Fw why_label S S := Fw_r
  replace hm := zgd hm
  obtain ⟨b1, hm⟩ := hm
  replace hm := zcT_inv hm
  obtain ⟨S1, w1, e1, hm⟩ := hm
  have hx := Fw_t hx (Fw_m (by decide) (fhy_needMessage e1))
  rcases w1 with c1 | v1
  · cases hm
    exact hx
  replace hm := zcT_v hm
  replace hm := zgd hm
  obtain ⟨b2, hm⟩ := hm
  replace hm := zlb_inv hm
  obtain ⟨o2, eo2, hm⟩ := hm
  replace hm := zob_inv hm
  obtain ⟨a3, rfl, hm⟩ := hm
  replace hm := zgd hm
  obtain ⟨b3, hm⟩ := hm
  replace hm := zcP_inv hm
  obtain ⟨S4, o4, e4, hm⟩ := hm
  have hx := Fw_t hx (Fw_m (by decide) (fhyT_queueOf e4))
  replace hm := zob_inv hm
  obtain ⟨a5, rfl, hm⟩ := hm
  replace hm := zgd hm
  obtain ⟨b4, hm⟩ := hm
  replace hm := zcP_inv hm
  obtain ⟨S6, v6, e6, hm⟩ := hm
  have hx := Fw_t hx (Fw_m (by decide) (fhyQ_isLabelAt e6))
  replace hm := zgd hm
  obtain ⟨b5, hm⟩ := hm
  cases hm
  exact hx
def whyS_orElse : List (Nat × Nat × Nat) := []
theorem fhyS_orElse {S : hS} {p1 : Option Nat} {p2 : Option Nat} {S' : hS} {r : Option Nat} (hm : yS_orElse S p1 p2 = some (S', r)) : Fw whyS_orElse S S' := by
  unfold yS_orElse at hm
  have hx : Fw whyS_orElse S S := Fw_r
  cases p1 with
  | none =>
    replace hm := zoc_n hm
    cases hm
    exact hx
  | some a1 =>
    replace hm := zoc_s hm
    cases hm
    exact hx
def whyS_perform : List (Nat × Nat × Nat) := [(3, 20, 0)]
theorem fhyS_perform {th : Nat} {n : Nat} {S : hS} {p1 : Option Nat} {S' : hS} {r : Option Nat} (hm : yS_perform n S th p1 = some (S', r)) : Fw whyS_perform S S' := by
  unfold yS_perform at hm
  have hx : Fw whyS_perform S S := Fw_r
  replace hm := zgd hm
  obtain ⟨b1, hm⟩ := hm
  by_cases q2 : zI S 1 th = 4
  · rw [if_pos q2] at hm
    replace hm := zlb_inv hm
    obtain ⟨o1, eo1, hm⟩ := hm
    cases hm
    exact hx
  · rw [if_neg q2] at hm
    replace hm := zcP_inv hm
    obtain ⟨S2, v2, e2, hm⟩ := hm
    have hx := Fw_t hx (Fw_m (by decide) (fhyE_value e2))
    replace hm := zgd hm
    obtain ⟨b3, hm⟩ := hm
    by_cases q4 : zI S2 1 th = 1
    · rw [if_pos q4] at hm
      replace hm := zob_inv hm
      obtain ⟨a3, rfl, hm⟩ := hm
      replace hm := zgd hm
      obtain ⟨b5, hm⟩ := hm
      replace hm := zgd hm
      obtain ⟨b6, hm⟩ := hm
      have hx := Fw_AI (g := upd (zAI S2 a3) (Int32.toNatClampNeg (y_indexOf (zI S2 2 th) (zI S2 4 th))) v2) hx b5 (by decide)
      replace hm := zlb_inv hm
      obtain ⟨o4, eo4, hm⟩ := hm
      cases hm
      exact hx
    · rw [if_neg q4] at hm
      by_cases q7 : zI S2 1 th = 2
      · rw [if_pos q7] at hm
        replace hm := zob_inv hm
        obtain ⟨a5, rfl, hm⟩ := hm
        replace hm := zgd hm
        obtain ⟨b8, hm⟩ := hm
        replace hm := zgd hm
        obtain ⟨b9, hm⟩ := hm
        have hx := Fw_AI (g := upd (zAI S2 a5) (Int32.toNatClampNeg (y_indexOf (zI S2 3 th) (zI S2 4 th))) v2) hx b8 (by decide)
        replace hm := zlb_inv hm
        obtain ⟨o6, eo6, hm⟩ := hm
        cases hm
        exact hx
      · rw [if_neg q7] at hm
        by_cases q10 : zI S2 1 th = 6
        · rw [if_pos q10] at hm
          by_cases q11 : v2 = 0
          · rw [if_pos q11] at hm
            replace hm := zlb_inv hm
            obtain ⟨o7, eo7, hm⟩ := hm
            replace hm := zlb_inv hm
            obtain ⟨o8, eo8, hm⟩ := hm
            replace hm := zcP_inv hm
            obtain ⟨S9, o9, e9, hm⟩ := hm
            have hx := Fw_t hx (Fw_m (by decide) (fhyS_orElse e9))
            cases hm
            exact hx
          · rw [if_neg q11] at hm
            replace hm := zlb_inv hm
            obtain ⟨o10, eo10, hm⟩ := hm
            replace hm := zlb_inv hm
            obtain ⟨o11, eo11, hm⟩ := hm
            replace hm := zcP_inv hm
            obtain ⟨S12, o12, e12, hm⟩ := hm
            have hx := Fw_t hx (Fw_m (by decide) (fhyS_orElse e12))
            cases hm
            exact hx
        · rw [if_neg q10] at hm
          by_cases q12 : v2 = 0
          · rw [if_pos q12] at hm
            replace hm := zlb_inv hm
            obtain ⟨o13, eo13, hm⟩ := hm
            cases hm
            exact hx
          · rw [if_neg q12] at hm
            replace hm := zlb_inv hm
            obtain ⟨o14, eo14, hm⟩ := hm
            replace hm := zcP_inv hm
            obtain ⟨S15, o15, e15, hm⟩ := hm
            have hx := Fw_t hx (Fw_m (by decide) (fhyS_orElse e15))
            cases hm
            exact hx
def why_whole : List (Nat × Nat × Nat) := [(3, 20, 0)]
theorem fhy_whole_51 {th : Nat} : ∀ (n : Nat) {S : hS} {l1 : Int32} {p2 : Option Nat} {l3 : Int32} {S' : hS} {r : Nat ⊕ Int32}, y_whole_51 th n S l1 p2 l3 = some (S', r) → Fw why_whole S S' := by
  intro n
  induction n with
  | zero => intro S l1 p2 l3 S' r hm; cases hm
  | succ n ih =>
    intro S l1 p2 l3 S' r hm
    unfold y_whole_51 at hm
    have hx : Fw why_whole S S := Fw_r
    by_cases q1 : l1 ≤ l3
    · rw [if_pos q1] at hm
      cases p2 with
      | none =>
        replace hm := zoc_n hm
        cases hm
        exact hx
      | some a1 =>
        replace hm := zoc_s hm
        cases hm
        exact hx
    · rw [if_neg q1] at hm
      cases p2 with
      | none =>
        replace hm := zoc_n hm
        cases hm
        exact hx
      | some a2 =>
        replace hm := zoc_s hm
        replace hm := zgd hm
        obtain ⟨b2, hm⟩ := hm
        replace hm := zlb_inv hm
        obtain ⟨o3, eo3, hm⟩ := hm
        replace hm := zgd hm
        obtain ⟨b3, hm⟩ := hm
        replace hm := zcP_inv hm
        obtain ⟨S4, o4, e4, hm⟩ := hm
        have hx := Fw_t hx (Fw_m (by decide) (fhyS_perform e4))
        exact Fw_t hx (ih hm)
theorem fhy_whole {th : Nat} {n : Nat} {S : hS} {x1 : Int32} {S' : hS} {r : Nat ⊕ Int32} (hm : y_whole n S th x1 = some (S', r)) : Fw why_whole S S' := by
  unfold y_whole at hm
  have hx : Fw why_whole S S := Fw_r
  by_cases q1 : x1 < 0
  · rw [if_pos q1] at hm
    cases hm
    exact Fw_ex hx
  · rw [if_neg q1] at hm
    by_cases q2 : x1 ≤ 2000
    · rw [if_pos q2] at hm
      replace hm := zgd hm
      obtain ⟨b3, hm⟩ := hm
      replace hm := zcT_inv hm
      obtain ⟨S1, w1, e1, hm⟩ := hm
      have hx := Fw_t hx (Fw_m (by decide) (fhy_needPlay e1))
      rcases w1 with c1 | v1
      · cases hm
        exact hx
      replace hm := zcT_v hm
      replace hm := zgd hm
      obtain ⟨b4, hm⟩ := hm
      replace hm := zlb_inv hm
      obtain ⟨o2, eo2, hm⟩ := hm
      replace hm := zob_inv hm
      obtain ⟨a3, rfl, hm⟩ := hm
      replace hm := zgd hm
      obtain ⟨b5, hm⟩ := hm
      replace hm := zlb_inv hm
      obtain ⟨o4, eo4, hm⟩ := hm
      replace hm := zlb_inv hm
      obtain ⟨o5, eo5, hm⟩ := hm
      replace hm := zlb_inv hm
      obtain ⟨o6, eo6, hm⟩ := hm
      replace hm := zob_inv hm
      obtain ⟨a7, rfl, hm⟩ := hm
      replace hm := zgd hm
      obtain ⟨b6, hm⟩ := hm
      replace hm := zob_inv hm
      obtain ⟨a8, rfl, hm⟩ := hm
      replace hm := zob_inv hm
      obtain ⟨a9, rfl, hm⟩ := hm
      replace hm := zgd hm
      obtain ⟨b7, hm⟩ := hm
      replace hm := zgd hm
      obtain ⟨b8, hm⟩ := hm
      replace hm := zgd hm
      obtain ⟨b9, hm⟩ := hm
      have hx := Fw_AI (g := va_cpy (zAI S1 a9) (zAI S1 a8) 0 0 (Int32.toNatClampNeg (Int32.ofNat (zLen S1 a7)))) hx b8 (by decide)
      replace hm := zlb_inv hm
      obtain ⟨o10, eo10, hm⟩ := hm
      exact Fw_t hx (fhy_whole_51  n hm)
    · rw [if_neg q2] at hm
      cases hm
      exact Fw_ex hx
def why_wanted : List (Nat × Nat × Nat) := []
theorem fhy_wanted {th : Nat} {S : hS} {x1 : Int32} {x2 : Int32} {S' : hS} {r : Nat ⊕ Int32} (hm : y_wanted S th x1 x2 = some (S', r)) : Fw why_wanted S S' := by
  unfold y_wanted at hm
  have hx : Fw why_wanted S S := Fw_r
  replace hm := zcT_inv hm
  obtain ⟨S1, w1, e1, hm⟩ := hm
  have hx := Fw_t hx (Fw_m (by decide) (fhy_needVariable e1))
  rcases w1 with c1 | v1
  · cases hm
    exact hx
  replace hm := zcT_v hm
  replace hm := zgd hm
  obtain ⟨b1, hm⟩ := hm
  replace hm := zlb_inv hm
  obtain ⟨o2, eo2, hm⟩ := hm
  replace hm := zob_inv hm
  obtain ⟨a3, rfl, hm⟩ := hm
  replace hm := zgd hm
  obtain ⟨b2, hm⟩ := hm
  replace hm := zgd hm
  obtain ⟨b3, hm⟩ := hm
  cases hm
  exact hx
def why_type : List (Nat × Nat × Nat) := [(0, 1, 1), (3, 21, 0)]
theorem fhy_type_62 {th : Nat} : ∀ (n : Nat) {S : hS} {l1 : Int64} {l3 : Int32} {l4 : Int32} {S' : hS} {r : Int32}, y_type_62 th n S l1 l3 l4 = some (S', r) → Fw why_type S S' := by
  intro n
  induction n with
  | zero => intro S l1 l3 l4 S' r hm; cases hm
  | succ n ih =>
    intro S l1 l3 l4 S' r hm
    unfold y_type_62 at hm
    have hx : Fw why_type S S := Fw_r
    by_cases q1 : l3 ≤ l4
    · rw [if_pos q1] at hm
      replace hm := zgd hm
      obtain ⟨b2, hm⟩ := hm
      have hx := Fw_I (k := 1) (v := (zI S 1 th) + l3) hx b2 (by decide)
      cases hm
      exact hx
    · rw [if_neg q1] at hm
      replace hm := zgd hm
      obtain ⟨b3, hm⟩ := hm
      replace hm := zlb_inv hm
      obtain ⟨o1, eo1, hm⟩ := hm
      replace hm := zob_inv hm
      obtain ⟨a2, rfl, hm⟩ := hm
      replace hm := zgd hm
      obtain ⟨b4, hm⟩ := hm
      replace hm := zgd hm
      obtain ⟨b5, hm⟩ := hm
      have hx := Fw_AI (g := upd (zAI S a2) (Int32.toNatClampNeg ((zI S 1 th) + l4)) (vp_nar .char (by_c l1 l4))) hx b4 (by decide)
      exact Fw_t hx (ih hm)
theorem fhy_type_2 {th : Nat} : ∀ (n : Nat) {S : hS} {l1 : Int64} {l3 : Int32} {S' : hS} {r : Int32}, y_type_2 th n S l1 l3 = some (S', r) → Fw why_type S S' := by
  intro n
  induction n with
  | zero => intro S l1 l3 S' r hm; cases hm
  | succ n ih =>
    intro S l1 l3 S' r hm
    unfold y_type_2 at hm
    have hx : Fw why_type S S := Fw_r
    by_cases q1 : 8 ≤ l3
    · rw [if_pos q1] at hm
      replace hm := zgd hm
      obtain ⟨b2, hm⟩ := hm
      by_cases q3 : (zI S 1 th) + l3 ≤ 200
      · rw [if_pos q3] at hm
        exact Fw_t hx (fhy_type_62  n hm)
      · rw [if_neg q3] at hm
        cases hm
        exact hx
    · rw [if_neg q1] at hm
      by_cases q4 : by_c l1 l3 = 0
      · rw [if_pos q4] at hm
        replace hm := zgd hm
        obtain ⟨b5, hm⟩ := hm
        by_cases q6 : (zI S 1 th) + l3 ≤ 200
        · rw [if_pos q6] at hm
          exact Fw_t hx (fhy_type_62  n hm)
        · rw [if_neg q6] at hm
          cases hm
          exact hx
      · rw [if_neg q4] at hm
        by_cases q7 : by_c l1 l3 < 33
        · rw [if_pos q7] at hm
          cases hm
          exact hx
        · rw [if_neg q7] at hm
          by_cases q8 : by_c l1 l3 ≤ 126
          · rw [if_pos q8] at hm
            exact Fw_t hx (ih hm)
          · rw [if_neg q8] at hm
            cases hm
            exact hx
theorem fhy_type {th : Nat} {n : Nat} {S : hS} {x1 : Int64} {S' : hS} {r : Int32} (hm : y_type n S th x1 = some (S', r)) : Fw why_type S S' := by
  unfold y_type at hm
  have hx : Fw why_type S S := Fw_r
  exact Fw_t hx (fhy_type_2  n hm)
def why_fault : List (Nat × Nat × Nat) := []
theorem fhy_fault {th : Nat} {S : hS} {S' : hS} {r : Int32} (hm : y_fault S th = some (S', r)) : Fw why_fault S S' := by
  unfold y_fault at hm
  have hx : Fw why_fault S S := Fw_r
  replace hm := zgd hm
  obtain ⟨b1, hm⟩ := hm
  cases hm
  exact hx
def why_who : List (Nat × Nat × Nat) := []
theorem fhy_who {th : Nat} {S : hS} {S' : hS} {r : Int32} (hm : y_who S th = some (S', r)) : Fw why_who S S' := by
  unfold y_who at hm
  have hx : Fw why_who S S := Fw_r
  replace hm := zgd hm
  obtain ⟨b1, hm⟩ := hm
  cases hm
  exact hx
def whyL_load : List (Nat × Nat × Nat) := [(0, 1, 1), (0, 1, 2), (0, 1, 3), (0, 2, 0), (0, 2, 1), (0, 2, 2), (0, 2, 3), (0, 2, 4), (0, 2, 7), (0, 3, 0), (0, 3, 1), (0, 3, 2), (0, 3, 3), (0, 4, 1), (0, 5, 3), (0, 6, 1), (0, 6, 2), (0, 6, 3), (0, 6, 4), (0, 6, 6), (0, 7, 3), (0, 8, 3), (0, 9, 5), (0, 10, 0), (0, 10, 1), (0, 10, 2), (0, 10, 3), (0, 10, 4), (0, 10, 5), (0, 10, 11), (1, 1, 4), (1, 2, 6), (1, 2, 8), (1, 2, 9), (1, 5, 1), (1, 5, 2), (1, 6, 0), (1, 8, 0), (1, 8, 1), (1, 8, 2), (1, 10, 7), (1, 10, 8), (1, 10, 9), (1, 10, 10), (2, 2, 0), (2, 6, 0), (2, 10, 0), (3, 20, 0), (3, 21, 0), (4, 26, 0), (4, 27, 0)]
theorem fhyL_load {n : Nat} {S : hS} {p1 : Option Nat} {x2 : Int32} {p3 : Option Nat} {S' : hS} {r : Int32} (hm : yL_load n S p1 x2 p3 = some (S', r)) : Fw whyL_load S S' := by
  unfold yL_load at hm
  have hx : Fw whyL_load S S := Fw_r
  replace hm := zob_inv hm
  obtain ⟨a1, rfl, hm⟩ := hm
  replace hm := zgd hm
  obtain ⟨b1, hm⟩ := hm
  replace hm := zcH_inv hm
  obtain ⟨S2, w2, e2, hm⟩ := hm
  have hx := Fw_t hx (Fw_m (by decide) (fhy_load e2))
  rcases w2 with c2 | v2
  · replace hm := zcH_t hm
    by_cases q2 : c2 = 11
    · rw [if_pos q2] at hm
      subst q2
      cases hm
      exact hx
    · rw [if_neg q2] at hm
      by_cases q3 : c2 = 12
      · rw [if_pos q3] at hm
        subst q3
        cases hm
        exact hx
      · rw [if_neg q3] at hm
        by_cases q4 : c2 = 13
        · rw [if_pos q4] at hm
          subst q4
          cases hm
          exact hx
        · rw [if_neg q4] at hm
          cases hm
  replace hm := zcH_v hm
  replace hm := zob_inv hm
  obtain ⟨a3, rfl, hm⟩ := hm
  replace hm := zgd hm
  obtain ⟨b5, hm⟩ := hm
  replace hm := zgd hm
  obtain ⟨b6, hm⟩ := hm
  have hx := Fw_AL (a := a3) (g := vp_updL (zAL S2 a3) 0 (Int32.toInt64 v2)) hx
  cases hm
  exact hx
def whyL_length : List (Nat × Nat × Nat) := []
theorem fhyL_length {S : hS} {p1 : Option Nat} {x2 : Int32} {p3 : Option Nat} {S' : hS} {r : Int32} (hm : yL_length S p1 x2 p3 = some (S', r)) : Fw whyL_length S S' := by
  unfold yL_length at hm
  have hx : Fw whyL_length S S := Fw_r
  replace hm := zob_inv hm
  obtain ⟨a1, rfl, hm⟩ := hm
  replace hm := zgd hm
  obtain ⟨b1, hm⟩ := hm
  replace hm := zcH_inv hm
  obtain ⟨S2, w2, e2, hm⟩ := hm
  have hx := Fw_t hx (Fw_m (by decide) (fhy_length e2))
  rcases w2 with c2 | v2
  · replace hm := zcH_t hm
    by_cases q2 : c2 = 14
    · rw [if_pos q2] at hm
      subst q2
      cases hm
      exact hx
    · rw [if_neg q2] at hm
      by_cases q3 : c2 = 12
      · rw [if_pos q3] at hm
        subst q3
        cases hm
        exact hx
      · rw [if_neg q3] at hm
        cases hm
  replace hm := zcH_v hm
  replace hm := zob_inv hm
  obtain ⟨a3, rfl, hm⟩ := hm
  replace hm := zgd hm
  obtain ⟨b4, hm⟩ := hm
  replace hm := zgd hm
  obtain ⟨b5, hm⟩ := hm
  have hx := Fw_AL (a := a3) (g := vp_updL (zAL S2 a3) 0 (Int32.toInt64 v2)) hx
  cases hm
  exact hx
def whyL_letter : List (Nat × Nat × Nat) := []
theorem fhyL_letter {S : hS} {p1 : Option Nat} {x2 : Int32} {x3 : Int32} {p4 : Option Nat} {S' : hS} {r : Int32} (hm : yL_letter S p1 x2 x3 p4 = some (S', r)) : Fw whyL_letter S S' := by
  unfold yL_letter at hm
  have hx : Fw whyL_letter S S := Fw_r
  replace hm := zob_inv hm
  obtain ⟨a1, rfl, hm⟩ := hm
  replace hm := zgd hm
  obtain ⟨b1, hm⟩ := hm
  replace hm := zcH_inv hm
  obtain ⟨S2, w2, e2, hm⟩ := hm
  have hx := Fw_t hx (Fw_m (by decide) (fhy_letter e2))
  rcases w2 with c2 | v2
  · replace hm := zcH_t hm
    by_cases q2 : c2 = 14
    · rw [if_pos q2] at hm
      subst q2
      cases hm
      exact hx
    · rw [if_neg q2] at hm
      by_cases q3 : c2 = 12
      · rw [if_pos q3] at hm
        subst q3
        cases hm
        exact hx
      · rw [if_neg q3] at hm
        by_cases q4 : c2 = 15
        · rw [if_pos q4] at hm
          subst q4
          cases hm
          exact hx
        · rw [if_neg q4] at hm
          cases hm
  replace hm := zcH_v hm
  replace hm := zob_inv hm
  obtain ⟨a3, rfl, hm⟩ := hm
  replace hm := zgd hm
  obtain ⟨b5, hm⟩ := hm
  replace hm := zgd hm
  obtain ⟨b6, hm⟩ := hm
  have hx := Fw_AL (a := a3) (g := vp_updL (zAL S2 a3) 0 (Int32.toInt64 v2)) hx
  cases hm
  exact hx
def whyL_input : List (Nat × Nat × Nat) := [(3, 20, 0)]
theorem fhyL_input {S : hS} {p1 : Option Nat} {x2 : Int32} {x3 : Int32} {x4 : Int32} {p5 : Option Nat} {S' : hS} {r : Int32} (hm : yL_input S p1 x2 x3 x4 p5 = some (S', r)) : Fw whyL_input S S' := by
  unfold yL_input at hm
  have hx : Fw whyL_input S S := Fw_r
  replace hm := zob_inv hm
  obtain ⟨a1, rfl, hm⟩ := hm
  replace hm := zgd hm
  obtain ⟨b1, hm⟩ := hm
  replace hm := zcH_inv hm
  obtain ⟨S2, w2, e2, hm⟩ := hm
  have hx := Fw_t hx (Fw_m (by decide) (fhy_input e2))
  rcases w2 with c2 | v2
  · replace hm := zcH_t hm
    by_cases q2 : c2 = 14
    · rw [if_pos q2] at hm
      subst q2
      cases hm
      exact hx
    · rw [if_neg q2] at hm
      by_cases q3 : c2 = 12
      · rw [if_pos q3] at hm
        subst q3
        cases hm
        exact hx
      · rw [if_neg q3] at hm
        cases hm
  replace hm := zcH_v hm
  replace hm := zob_inv hm
  obtain ⟨a3, rfl, hm⟩ := hm
  replace hm := zgd hm
  obtain ⟨b4, hm⟩ := hm
  replace hm := zgd hm
  obtain ⟨b5, hm⟩ := hm
  have hx := Fw_AL (a := a3) (g := vp_updL (zAL S2 a3) 0 (Int32.toInt64 v2)) hx
  cases hm
  exact hx
def whyL_room : List (Nat × Nat × Nat) := [(0, 9, 4)]
theorem fhyL_room {S : hS} {p1 : Option Nat} {x2 : Int32} {S' : hS} {r : Int32} (hm : yL_room S p1 x2 = some (S', r)) : Fw whyL_room S S' := by
  unfold yL_room at hm
  have hx : Fw whyL_room S S := Fw_r
  replace hm := zob_inv hm
  obtain ⟨a1, rfl, hm⟩ := hm
  replace hm := zgd hm
  obtain ⟨b1, hm⟩ := hm
  replace hm := zcH_inv hm
  obtain ⟨S2, w2, e2, hm⟩ := hm
  have hx := Fw_t hx (Fw_m (by decide) (fhy_room e2))
  rcases w2 with c2 | v2
  · replace hm := zcH_t hm
    by_cases q2 : c2 = 11
    · rw [if_pos q2] at hm
      subst q2
      cases hm
      exact hx
    · rw [if_neg q2] at hm
      by_cases q3 : c2 = 12
      · rw [if_pos q3] at hm
        subst q3
        cases hm
        exact hx
      · rw [if_neg q3] at hm
        cases hm
  replace hm := zcH_v hm
  cases hm
  exact hx
def whyL_reset : List (Nat × Nat × Nat) := [(0, 5, 3), (0, 7, 3), (0, 9, 5), (1, 5, 2), (3, 20, 0)]
theorem fhyL_reset {n : Nat} {S : hS} {p1 : Option Nat} {S' : hS} {r : Int32} (hm : yL_reset n S p1 = some (S', r)) : Fw whyL_reset S S' := by
  unfold yL_reset at hm
  have hx : Fw whyL_reset S S := Fw_r
  replace hm := zob_inv hm
  obtain ⟨a1, rfl, hm⟩ := hm
  replace hm := zgd hm
  obtain ⟨b1, hm⟩ := hm
  replace hm := zcH_inv hm
  obtain ⟨S2, w2, e2, hm⟩ := hm
  have hx := Fw_t hx (Fw_m (by decide) (fhy_reset e2))
  rcases w2 with c2 | v2
  · replace hm := zcH_t hm
    by_cases q2 : c2 = 12
    · rw [if_pos q2] at hm
      subst q2
      cases hm
      exact hx
    · rw [if_neg q2] at hm
      cases hm
  replace hm := zcH_v hm
  cases hm
  exact hx
def whyL_step : List (Nat × Nat × Nat) := [(0, 5, 3), (0, 5, 4), (0, 5, 5), (0, 7, 2), (0, 7, 3), (0, 9, 5), (1, 5, 2), (3, 20, 0), (3, 22, 0)]
theorem fhyL_step {n : Nat} {S : hS} {p1 : Option Nat} {x2 : Int32} {p3 : Option Nat} {S' : hS} {r : Int32} (hm : yL_step n S p1 x2 p3 = some (S', r)) : Fw whyL_step S S' := by
  unfold yL_step at hm
  have hx : Fw whyL_step S S := Fw_r
  replace hm := zob_inv hm
  obtain ⟨a1, rfl, hm⟩ := hm
  replace hm := zgd hm
  obtain ⟨b1, hm⟩ := hm
  replace hm := zcH_inv hm
  obtain ⟨S2, w2, e2, hm⟩ := hm
  have hx := Fw_t hx (Fw_m (by decide) (fhy_step e2))
  rcases w2 with c2 | v2
  · replace hm := zcH_t hm
    by_cases q2 : c2 = 14
    · rw [if_pos q2] at hm
      subst q2
      cases hm
      exact hx
    · rw [if_neg q2] at hm
      by_cases q3 : c2 = 12
      · rw [if_pos q3] at hm
        subst q3
        cases hm
        exact hx
      · rw [if_neg q3] at hm
        cases hm
  replace hm := zcH_v hm
  replace hm := zob_inv hm
  obtain ⟨a3, rfl, hm⟩ := hm
  replace hm := zgd hm
  obtain ⟨b4, hm⟩ := hm
  replace hm := zgd hm
  obtain ⟨b5, hm⟩ := hm
  have hx := Fw_AL (a := a3) (g := vp_updL (zAL S2 a3) 0 (Int32.toInt64 v2)) hx
  cases hm
  exact hx
def whyL_run : List (Nat × Nat × Nat) := [(0, 5, 3), (0, 5, 4), (0, 5, 5), (0, 7, 2), (0, 7, 3), (0, 9, 5), (1, 5, 2), (3, 20, 0), (3, 22, 0)]
theorem fhyL_run {n : Nat} {S : hS} {p1 : Option Nat} {x2 : Int32} {x3 : Int32} {p4 : Option Nat} {S' : hS} {r : Int32} (hm : yL_run n S p1 x2 x3 p4 = some (S', r)) : Fw whyL_run S S' := by
  unfold yL_run at hm
  have hx : Fw whyL_run S S := Fw_r
  replace hm := zob_inv hm
  obtain ⟨a1, rfl, hm⟩ := hm
  replace hm := zgd hm
  obtain ⟨b1, hm⟩ := hm
  replace hm := zcH_inv hm
  obtain ⟨S2, w2, e2, hm⟩ := hm
  have hx := Fw_t hx (Fw_m (by decide) (fhy_run e2))
  rcases w2 with c2 | v2
  · replace hm := zcH_t hm
    by_cases q2 : c2 = 14
    · rw [if_pos q2] at hm
      subst q2
      cases hm
      exact hx
    · rw [if_neg q2] at hm
      by_cases q3 : c2 = 11
      · rw [if_pos q3] at hm
        subst q3
        cases hm
        exact hx
      · rw [if_neg q3] at hm
        by_cases q4 : c2 = 12
        · rw [if_pos q4] at hm
          subst q4
          cases hm
          exact hx
        · rw [if_neg q4] at hm
          cases hm
  replace hm := zcH_v hm
  replace hm := zob_inv hm
  obtain ⟨a3, rfl, hm⟩ := hm
  replace hm := zgd hm
  obtain ⟨b5, hm⟩ := hm
  replace hm := zgd hm
  obtain ⟨b6, hm⟩ := hm
  have hx := Fw_AL (a := a3) (g := vp_updL (zAL S2 a3) 0 (Int32.toInt64 v2)) hx
  cases hm
  exact hx
def whyL_at : List (Nat × Nat × Nat) := []
theorem fhyL_at {S : hS} {p1 : Option Nat} {x2 : Int32} {p3 : Option Nat} {S' : hS} {r : Int32} (hm : yL_at S p1 x2 p3 = some (S', r)) : Fw whyL_at S S' := by
  unfold yL_at at hm
  have hx : Fw whyL_at S S := Fw_r
  replace hm := zob_inv hm
  obtain ⟨a1, rfl, hm⟩ := hm
  replace hm := zgd hm
  obtain ⟨b1, hm⟩ := hm
  replace hm := zcH_inv hm
  obtain ⟨S2, w2, e2, hm⟩ := hm
  have hx := Fw_t hx (Fw_m (by decide) (fhy_at e2))
  rcases w2 with c2 | v2
  · replace hm := zcH_t hm
    by_cases q2 : c2 = 14
    · rw [if_pos q2] at hm
      subst q2
      cases hm
      exact hx
    · rw [if_neg q2] at hm
      by_cases q3 : c2 = 12
      · rw [if_pos q3] at hm
        subst q3
        cases hm
        exact hx
      · rw [if_neg q3] at hm
        cases hm
  replace hm := zcH_v hm
  replace hm := zob_inv hm
  obtain ⟨a3, rfl, hm⟩ := hm
  replace hm := zgd hm
  obtain ⟨b4, hm⟩ := hm
  replace hm := zgd hm
  obtain ⟨b5, hm⟩ := hm
  have hx := Fw_AL (a := a3) (g := vp_updL (zAL S2 a3) 0 (Int32.toInt64 v2)) hx
  cases hm
  exact hx
def whyL_variable : List (Nat × Nat × Nat) := []
theorem fhyL_variable {S : hS} {p1 : Option Nat} {x2 : Int32} {x3 : Int32} {p4 : Option Nat} {S' : hS} {r : Int32} (hm : yL_variable S p1 x2 x3 p4 = some (S', r)) : Fw whyL_variable S S' := by
  unfold yL_variable at hm
  have hx : Fw whyL_variable S S := Fw_r
  replace hm := zob_inv hm
  obtain ⟨a1, rfl, hm⟩ := hm
  replace hm := zgd hm
  obtain ⟨b1, hm⟩ := hm
  replace hm := zcH_inv hm
  obtain ⟨S2, w2, e2, hm⟩ := hm
  have hx := Fw_t hx (Fw_m (by decide) (fhy_variable e2))
  rcases w2 with c2 | v2
  · replace hm := zcH_t hm
    by_cases q2 : c2 = 14
    · rw [if_pos q2] at hm
      subst q2
      cases hm
      exact hx
    · rw [if_neg q2] at hm
      cases hm
  replace hm := zcH_v hm
  replace hm := zob_inv hm
  obtain ⟨a3, rfl, hm⟩ := hm
  replace hm := zgd hm
  obtain ⟨b3, hm⟩ := hm
  replace hm := zgd hm
  obtain ⟨b4, hm⟩ := hm
  have hx := Fw_AL (a := a3) (g := vp_updL (zAL S2 a3) 0 (Int32.toInt64 v2)) hx
  cases hm
  exact hx
def whyL_queue : List (Nat × Nat × Nat) := []
theorem fhyL_queue {S : hS} {p1 : Option Nat} {x2 : Int32} {x3 : Int32} {p4 : Option Nat} {S' : hS} {r : Int32} (hm : yL_queue S p1 x2 x3 p4 = some (S', r)) : Fw whyL_queue S S' := by
  unfold yL_queue at hm
  have hx : Fw whyL_queue S S := Fw_r
  replace hm := zob_inv hm
  obtain ⟨a1, rfl, hm⟩ := hm
  replace hm := zgd hm
  obtain ⟨b1, hm⟩ := hm
  replace hm := zcH_inv hm
  obtain ⟨S2, w2, e2, hm⟩ := hm
  have hx := Fw_t hx (Fw_m (by decide) (fhy_queue e2))
  rcases w2 with c2 | v2
  · replace hm := zcH_t hm
    by_cases q2 : c2 = 14
    · rw [if_pos q2] at hm
      subst q2
      cases hm
      exact hx
    · rw [if_neg q2] at hm
      cases hm
  replace hm := zcH_v hm
  replace hm := zob_inv hm
  obtain ⟨a3, rfl, hm⟩ := hm
  replace hm := zgd hm
  obtain ⟨b3, hm⟩ := hm
  replace hm := zgd hm
  obtain ⟨b4, hm⟩ := hm
  have hx := Fw_AL (a := a3) (g := vp_updL (zAL S2 a3) 0 (Int32.toInt64 v2)) hx
  cases hm
  exact hx
def whyL_message : List (Nat × Nat × Nat) := []
theorem fhyL_message {S : hS} {p1 : Option Nat} {x2 : Int32} {x3 : Int32} {x4 : Int32} {p5 : Option Nat} {S' : hS} {r : Int32} (hm : yL_message S p1 x2 x3 x4 p5 = some (S', r)) : Fw whyL_message S S' := by
  unfold yL_message at hm
  have hx : Fw whyL_message S S := Fw_r
  replace hm := zob_inv hm
  obtain ⟨a1, rfl, hm⟩ := hm
  replace hm := zgd hm
  obtain ⟨b1, hm⟩ := hm
  replace hm := zcH_inv hm
  obtain ⟨S2, w2, e2, hm⟩ := hm
  have hx := Fw_t hx (Fw_m (by decide) (fhy_message e2))
  rcases w2 with c2 | v2
  · replace hm := zcH_t hm
    by_cases q2 : c2 = 14
    · rw [if_pos q2] at hm
      subst q2
      cases hm
      exact hx
    · rw [if_neg q2] at hm
      by_cases q3 : c2 = 15
      · rw [if_pos q3] at hm
        subst q3
        cases hm
        exact hx
      · rw [if_neg q3] at hm
        cases hm
  replace hm := zcH_v hm
  replace hm := zob_inv hm
  obtain ⟨a3, rfl, hm⟩ := hm
  replace hm := zgd hm
  obtain ⟨b4, hm⟩ := hm
  replace hm := zgd hm
  obtain ⟨b5, hm⟩ := hm
  have hx := Fw_AL (a := a3) (g := vp_updL (zAL S2 a3) 0 (Int32.toInt64 v2)) hx
  cases hm
  exact hx
def whyL_label : List (Nat × Nat × Nat) := []
theorem fhyL_label {S : hS} {p1 : Option Nat} {x2 : Int32} {x3 : Int32} {x4 : Int32} {p5 : Option Nat} {S' : hS} {r : Int32} (hm : yL_label S p1 x2 x3 x4 p5 = some (S', r)) : Fw whyL_label S S' := by
  unfold yL_label at hm
  have hx : Fw whyL_label S S := Fw_r
  replace hm := zob_inv hm
  obtain ⟨a1, rfl, hm⟩ := hm
  replace hm := zgd hm
  obtain ⟨b1, hm⟩ := hm
  replace hm := zcH_inv hm
  obtain ⟨S2, w2, e2, hm⟩ := hm
  have hx := Fw_t hx (Fw_m (by decide) (fhy_label e2))
  rcases w2 with c2 | v2
  · replace hm := zcH_t hm
    by_cases q2 : c2 = 14
    · rw [if_pos q2] at hm
      subst q2
      cases hm
      exact hx
    · rw [if_neg q2] at hm
      by_cases q3 : c2 = 15
      · rw [if_pos q3] at hm
        subst q3
        cases hm
        exact hx
      · rw [if_neg q3] at hm
        cases hm
  replace hm := zcH_v hm
  by_cases q4 : v2 = 0
  · rw [if_pos q4] at hm
    replace hm := zob_inv hm
    obtain ⟨a3, rfl, hm⟩ := hm
    replace hm := zgd hm
    obtain ⟨b5, hm⟩ := hm
    replace hm := zgd hm
    obtain ⟨b6, hm⟩ := hm
    have hx := Fw_AL (a := a3) (g := vp_updL (zAL S2 a3) 0 0) hx
    cases hm
    exact hx
  · rw [if_neg q4] at hm
    replace hm := zob_inv hm
    obtain ⟨a4, rfl, hm⟩ := hm
    replace hm := zgd hm
    obtain ⟨b7, hm⟩ := hm
    replace hm := zgd hm
    obtain ⟨b8, hm⟩ := hm
    have hx := Fw_AL (a := a4) (g := vp_updL (zAL S2 a4) 0 1) hx
    cases hm
    exact hx
def whyL_whole : List (Nat × Nat × Nat) := [(3, 20, 0)]
theorem fhyL_whole {n : Nat} {S : hS} {p1 : Option Nat} {x2 : Int32} {p3 : Option Nat} {S' : hS} {r : Int32} (hm : yL_whole n S p1 x2 p3 = some (S', r)) : Fw whyL_whole S S' := by
  unfold yL_whole at hm
  have hx : Fw whyL_whole S S := Fw_r
  replace hm := zob_inv hm
  obtain ⟨a1, rfl, hm⟩ := hm
  replace hm := zgd hm
  obtain ⟨b1, hm⟩ := hm
  replace hm := zcH_inv hm
  obtain ⟨S2, w2, e2, hm⟩ := hm
  have hx := Fw_t hx (Fw_m (by decide) (fhy_whole e2))
  rcases w2 with c2 | v2
  · replace hm := zcH_t hm
    by_cases q2 : c2 = 11
    · rw [if_pos q2] at hm
      subst q2
      cases hm
      exact hx
    · rw [if_neg q2] at hm
      by_cases q3 : c2 = 12
      · rw [if_pos q3] at hm
        subst q3
        cases hm
        exact hx
      · rw [if_neg q3] at hm
        cases hm
  replace hm := zcH_v hm
  replace hm := zob_inv hm
  obtain ⟨a3, rfl, hm⟩ := hm
  replace hm := zgd hm
  obtain ⟨b4, hm⟩ := hm
  replace hm := zgd hm
  obtain ⟨b5, hm⟩ := hm
  have hx := Fw_AL (a := a3) (g := vp_updL (zAL S2 a3) 0 (Int32.toInt64 v2)) hx
  cases hm
  exact hx
def whyL_wanted : List (Nat × Nat × Nat) := []
theorem fhyL_wanted {S : hS} {p1 : Option Nat} {x2 : Int32} {x3 : Int32} {p4 : Option Nat} {S' : hS} {r : Int32} (hm : yL_wanted S p1 x2 x3 p4 = some (S', r)) : Fw whyL_wanted S S' := by
  unfold yL_wanted at hm
  have hx : Fw whyL_wanted S S := Fw_r
  replace hm := zob_inv hm
  obtain ⟨a1, rfl, hm⟩ := hm
  replace hm := zgd hm
  obtain ⟨b1, hm⟩ := hm
  replace hm := zcH_inv hm
  obtain ⟨S2, w2, e2, hm⟩ := hm
  have hx := Fw_t hx (Fw_m (by decide) (fhy_wanted e2))
  rcases w2 with c2 | v2
  · replace hm := zcH_t hm
    by_cases q2 : c2 = 14
    · rw [if_pos q2] at hm
      subst q2
      cases hm
      exact hx
    · rw [if_neg q2] at hm
      cases hm
  replace hm := zcH_v hm
  replace hm := zob_inv hm
  obtain ⟨a3, rfl, hm⟩ := hm
  replace hm := zgd hm
  obtain ⟨b3, hm⟩ := hm
  replace hm := zgd hm
  obtain ⟨b4, hm⟩ := hm
  have hx := Fw_AL (a := a3) (g := vp_updL (zAL S2 a3) 0 (Int32.toInt64 v2)) hx
  cases hm
  exact hx
