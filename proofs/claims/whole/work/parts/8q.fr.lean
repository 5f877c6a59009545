def whyR_new : List (Nat × Nat × Nat) := [(0, 6, 1), (1, 6, 0)]
theorem fhyR_new {th : Nat} {S : hS} {p1 : Option Nat} {x2 : Int32} {S' : hS} (hm : yR_new S th p1 x2 = some S') : Fw whyR_new S S' := by
  unfold yR_new at hm
  have hx : Fw whyR_new S S := Fw_r
  replace hm := zgd hm
  obtain ⟨b1, hm⟩ := hm
  have hx := Fw_R (k := 0) (v := p1) hx b1 (by decide)
  have hx := Fw_I (k := 1) (v := x2) hx b1 (by decide)
  cases hm
  exact hx
def whyR_ahead : List (Nat × Nat × Nat) := []
theorem fhyR_ahead {th : Nat} {S : hS} {x1 : Int32} {S' : hS} {r : Int32} (hm : yR_ahead S th x1 = some (S', r)) : Fw whyR_ahead S S' := by
  unfold yR_ahead at hm
  have hx : Fw whyR_ahead S S := Fw_r
  replace hm := zgd hm
  obtain ⟨b1, hm⟩ := hm
  by_cases q2 : zI S 4 th = 0
  · rw [if_pos q2] at hm
    by_cases q3 : zI S 1 th ≤ (zI S 2 th) + x1
    · rw [if_pos q3] at hm
      cases hm
      exact hx
    · rw [if_neg q3] at hm
      replace hm := zlb_inv hm
      obtain ⟨o1, eo1, hm⟩ := hm
      replace hm := zob_inv hm
      obtain ⟨a2, rfl, hm⟩ := hm
      replace hm := zgd hm
      obtain ⟨b4, hm⟩ := hm
      replace hm := zgd hm
      obtain ⟨b5, hm⟩ := hm
      replace hm := zgd hm
      obtain ⟨b6, hm⟩ := hm
      cases hm
      exact hx
  · rw [if_neg q2] at hm
    cases hm
    exact hx
def whyR_rowEnds : List (Nat × Nat × Nat) := []
theorem fhyR_rowEnds {th : Nat} {S : hS} {x1 : Int32} {S' : hS} {r : Int32} (hm : yR_rowEnds S th x1 = some (S', r)) : Fw whyR_rowEnds S S' := by
  unfold yR_rowEnds at hm
  have hx : Fw whyR_rowEnds S S := Fw_r
  by_cases q1 : x1 = 0
  · rw [if_pos q1] at hm
    replace hm := zgd hm
    obtain ⟨b2, hm⟩ := hm
    by_cases q3 : zI S 2 th = zI S 1 th
    · rw [if_pos q3] at hm
      cases hm
      exact hx
    · rw [if_neg q3] at hm
      cases hm
      exact hx
  · rw [if_neg q1] at hm
    replace hm := zgd hm
    obtain ⟨b4, hm⟩ := hm
    replace hm := zcP_inv hm
    obtain ⟨S1, v1, e1, hm⟩ := hm
    have hx := Fw_t hx (Fw_m (by decide) (fhyR_ahead e1))
    by_cases q5 : v1 = 125
    · rw [if_pos q5] at hm
      cases hm
      exact hx
    · rw [if_neg q5] at hm
      cases hm
      exact hx
def whyS_new : List (Nat × Nat × Nat) := [(0, 10, 0), (0, 10, 3)]
theorem fhyS_new {th : Nat} {S : hS} {x1 : Int32} {S' : hS} (hm : yS_new S th x1 = some S') : Fw whyS_new S S' := by
  unfold yS_new at hm
  have hx : Fw whyS_new S S := Fw_r
  replace hm := zgd hm
  obtain ⟨b1, hm⟩ := hm
  have hx := Fw_I (k := 3) (v := (-1)) hx b1 (by decide)
  have hx := Fw_I (k := 0) (v := x1) hx b1 (by decide)
  cases hm
  exact hx
def whyR_readOneOf : List (Nat × Nat × Nat) := [(0, 6, 2), (0, 6, 4)]
theorem fhyR_readOneOf {th : Nat} {S : hS} {x1 : Int32} {x2 : Int32} {S' : hS} {r : Int32} (hm : yR_readOneOf S th x1 x2 = some (S', r)) : Fw whyR_readOneOf S S' := by
  unfold yR_readOneOf at hm
  have hx : Fw whyR_readOneOf S S := Fw_r
  replace hm := zgd hm
  obtain ⟨b1, hm⟩ := hm
  replace hm := zcP_inv hm
  obtain ⟨S1, v1, e1, hm⟩ := hm
  have hx := Fw_t hx (Fw_m (by decide) (fhyR_ahead e1))
  by_cases q2 : v1 - x1 < 0
  · rw [if_pos q2] at hm
    replace hm := zgd hm
    obtain ⟨b3, hm⟩ := hm
    have hx := Fw_I (k := 4) (v := 1) hx b3 (by decide)
    cases hm
    exact hx
  · rw [if_neg q2] at hm
    by_cases q4 : v1 - x1 < x2
    · rw [if_pos q4] at hm
      replace hm := zgd hm
      obtain ⟨b5, hm⟩ := hm
      have hx := Fw_I (k := 2) (v := (zI S1 2 th) + 1) hx b5 (by decide)
      cases hm
      exact hx
    · rw [if_neg q4] at hm
      replace hm := zgd hm
      obtain ⟨b6, hm⟩ := hm
      have hx := Fw_I (k := 4) (v := 1) hx b6 (by decide)
      cases hm
      exact hx
def whyR_expect : List (Nat × Nat × Nat) := [(0, 6, 2), (0, 6, 4)]
theorem fhyR_expect {th : Nat} {S : hS} {x1 : Int32} {S' : hS} (hm : yR_expect S th x1 = some S') : Fw whyR_expect S S' := by
  unfold yR_expect at hm
  have hx : Fw whyR_expect S S := Fw_r
  replace hm := zgd hm
  obtain ⟨b1, hm⟩ := hm
  replace hm := zcP_inv hm
  obtain ⟨S1, v1, e1, hm⟩ := hm
  have hx := Fw_t hx (Fw_m (by decide) (fhyR_ahead e1))
  by_cases q2 : v1 = x1
  · rw [if_pos q2] at hm
    replace hm := zgd hm
    obtain ⟨b3, hm⟩ := hm
    have hx := Fw_I (k := 2) (v := (zI S1 2 th) + 1) hx b3 (by decide)
    cases hm
    exact hx
  · rw [if_neg q2] at hm
    replace hm := zgd hm
    obtain ⟨b4, hm⟩ := hm
    have hx := Fw_I (k := 4) (v := 1) hx b4 (by decide)
    cases hm
    exact hx
def whyR_readOther : List (Nat × Nat × Nat) := [(0, 6, 2), (0, 6, 4)]
theorem fhyR_readOther {th : Nat} {S : hS} {x1 : Int32} {S' : hS} {r : Int32} (hm : yR_readOther S th x1 = some (S', r)) : Fw whyR_readOther S S' := by
  unfold yR_readOther at hm
  have hx : Fw whyR_readOther S S := Fw_r
  replace hm := zgd hm
  obtain ⟨b1, hm⟩ := hm
  replace hm := zcP_inv hm
  obtain ⟨S1, v1, e1, hm⟩ := hm
  have hx := Fw_t hx (Fw_m (by decide) (fhyR_ahead e1))
  by_cases q2 : v1 = 65 + x1
  · rw [if_pos q2] at hm
    replace hm := zgd hm
    obtain ⟨b3, hm⟩ := hm
    have hx := Fw_I (k := 4) (v := 1) hx b3 (by decide)
    replace hm := zcP_inv hm
    obtain ⟨S2, v2, e2, hm⟩ := hm
    have hx := Fw_t hx (Fw_m (by decide) (fhyR_readOneOf e2))
    cases hm
    exact hx
  · rw [if_neg q2] at hm
    replace hm := zgd hm
    obtain ⟨b4, hm⟩ := hm
    replace hm := zcP_inv hm
    obtain ⟨S3, v3, e3, hm⟩ := hm
    have hx := Fw_t hx (Fw_m (by decide) (fhyR_readOneOf e3))
    cases hm
    exact hx
def whyR_readTell : List (Nat × Nat × Nat) := [(0, 6, 2), (0, 6, 4), (0, 10, 1), (0, 10, 3), (0, 10, 5)]
theorem fhyR_readTell {th : Nat} {S : hS} {p1 : Option Nat} {S' : hS} (hm : yR_readTell S th p1 = some S') : Fw whyR_readTell S S' := by
  unfold yR_readTell at hm
  have hx : Fw whyR_readTell S S := Fw_r
  replace hm := zob_inv hm
  obtain ⟨a1, rfl, hm⟩ := hm
  replace hm := zgd hm
  obtain ⟨b1, hm⟩ := hm
  have hx := Fw_I (k := 1) (v := 4) hx b1 (by decide)
  replace hm := zgd hm
  obtain ⟨b2, hm⟩ := hm
  replace hm := zcV_inv hm
  obtain ⟨S2, e2, hm⟩ := hm
  have hx := Fw_t hx (Fw_m (by decide) (fhyR_expect e2))
  replace hm := zgd hm
  obtain ⟨b3, hm⟩ := hm
  replace hm := zcP_inv hm
  obtain ⟨S3, v3, e3, hm⟩ := hm
  have hx := Fw_t hx (Fw_m (by decide) (fhyR_readOneOf e3))
  replace hm := zgd hm
  obtain ⟨b4, hm⟩ := hm
  have hx := Fw_I (k := 5) (v := v3) hx b4 (by decide)
  replace hm := zgd hm
  obtain ⟨b5, hm⟩ := hm
  replace hm := zcV_inv hm
  obtain ⟨S4, e4, hm⟩ := hm
  have hx := Fw_t hx (Fw_m (by decide) (fhyR_expect e4))
  replace hm := zgd hm
  obtain ⟨b6, hm⟩ := hm
  replace hm := zgd hm
  obtain ⟨b7, hm⟩ := hm
  replace hm := zcP_inv hm
  obtain ⟨S5, v5, e5, hm⟩ := hm
  have hx := Fw_t hx (Fw_m (by decide) (fhyR_readOther e5))
  replace hm := zgd hm
  obtain ⟨b8, hm⟩ := hm
  have hx := Fw_I (k := 3) (v := v5) hx b8 (by decide)
  replace hm := zgd hm
  obtain ⟨b9, hm⟩ := hm
  replace hm := zcV_inv hm
  obtain ⟨S6, e6, hm⟩ := hm
  have hx := Fw_t hx (Fw_m (by decide) (fhyR_expect e6))
  cases hm
  exact hx
def whyR_keep : List (Nat × Nat × Nat) := [(0, 6, 2), (0, 6, 6), (2, 6, 0)]
theorem fhyR_keep {th : Nat} {S : hS} {S' : hS} (hm : yR_keep S th = some S') : Fw whyR_keep S S' := by
  unfold yR_keep at hm
  have hx : Fw whyR_keep S S := Fw_r
  replace hm := zgd hm
  obtain ⟨b1, hm⟩ := hm
  by_cases q2 : zI S 1 th ≤ zI S 2 th
  · rw [if_pos q2] at hm
    cases hm
    exact hx
  · rw [if_neg q2] at hm
    replace hm := zlb_inv hm
    obtain ⟨o1, eo1, hm⟩ := hm
    replace hm := zob_inv hm
    obtain ⟨a2, rfl, hm⟩ := hm
    replace hm := zgd hm
    obtain ⟨b3, hm⟩ := hm
    replace hm := zgd hm
    obtain ⟨b4, hm⟩ := hm
    have hx := Fw_L (v := (zL S th) ||| ((Int32.toInt64 ((zAI S a2) (Int32.toNatClampNeg (zI S 2 th)))) <<< (Int32.toInt64 (8 * (zI S 6 th)) &&& 63))) hx b1 (by decide)
    have hx := Fw_I (k := 6) (v := (zI S 6 th) + 1) hx b1 (by decide)
    have hx := Fw_I (k := 2) (v := (zI S 2 th) + 1) hx b1 (by decide)
    cases hm
    exact hx
def whyR_readTerm : List (Nat × Nat × Nat) := [(0, 6, 2), (0, 6, 4), (0, 6, 6), (2, 6, 0)]
theorem fhyR_readTerm_34 {th : Nat} : ∀ (n : Nat) {S : hS} {l1 : Int32} {S' : hS}, yR_readTerm_34 th n S l1 = some S' → Fw whyR_readTerm S S' := by
  intro n
  induction n with
  | zero => intro S l1 S'  hm; cases hm
  | succ n ih =>
    intro S l1 S'  hm
    unfold yR_readTerm_34 at hm
    have hx : Fw whyR_readTerm S S := Fw_r
    by_cases q1 : 3 ≤ l1
    · rw [if_pos q1] at hm
      cases hm
      exact hx
    · rw [if_neg q1] at hm
      replace hm := zgd hm
      obtain ⟨b2, hm⟩ := hm
      replace hm := zcP_inv hm
      obtain ⟨S1, v1, e1, hm⟩ := hm
      have hx := Fw_t hx (Fw_m (by decide) (fhyR_ahead e1))
      by_cases q3 : ty_b (rd_fig v1) = 0
      · rw [if_pos q3] at hm
        cases hm
        exact hx
      · rw [if_neg q3] at hm
        replace hm := zgd hm
        obtain ⟨b4, hm⟩ := hm
        replace hm := zcV_inv hm
        obtain ⟨S2, e2, hm⟩ := hm
        have hx := Fw_t hx (Fw_m (by decide) (fhyR_keep e2))
        exact Fw_t hx (ih hm)
theorem fhyR_readTerm {th : Nat} {n : Nat} {S : hS} {S' : hS} (hm : yR_readTerm n S th = some S') : Fw whyR_readTerm S S' := by
  unfold yR_readTerm at hm
  have hx : Fw whyR_readTerm S S := Fw_r
  replace hm := zgd hm
  obtain ⟨b1, hm⟩ := hm
  replace hm := zcP_inv hm
  obtain ⟨S1, v1, e1, hm⟩ := hm
  have hx := Fw_t hx (Fw_m (by decide) (fhyR_ahead e1))
  by_cases q2 : ty_b (rd_var v1) = 0
  · rw [if_pos q2] at hm
    replace hm := zgd hm
    obtain ⟨b3, hm⟩ := hm
    replace hm := zcP_inv hm
    obtain ⟨S2, v2, e2, hm⟩ := hm
    have hx := Fw_t hx (Fw_m (by decide) (fhyR_ahead e2))
    by_cases q4 : ty_b (rd_fig v2) = 0
    · rw [if_pos q4] at hm
      replace hm := zgd hm
      obtain ⟨b5, hm⟩ := hm
      have hx := Fw_I (k := 4) (v := 1) hx b5 (by decide)
      exact Fw_t hx (fhyR_readTerm_34  n hm)
    · rw [if_neg q4] at hm
      exact Fw_t hx (fhyR_readTerm_34  n hm)
  · rw [if_neg q2] at hm
    replace hm := zgd hm
    obtain ⟨b6, hm⟩ := hm
    replace hm := zcV_inv hm
    obtain ⟨S3, e3, hm⟩ := hm
    have hx := Fw_t hx (Fw_m (by decide) (fhyR_keep e3))
    cases hm
    exact hx
def whyR_readExpression : List (Nat × Nat × Nat) := [(0, 6, 2), (0, 6, 4), (0, 6, 6), (2, 6, 0)]
theorem fhyR_readExpression {th : Nat} {n : Nat} {S : hS} {S' : hS} {r : Int64} (hm : yR_readExpression n S th = some (S', r)) : Fw whyR_readExpression S S' := by
  unfold yR_readExpression at hm
  have hx : Fw whyR_readExpression S S := Fw_r
  replace hm := zgd hm
  obtain ⟨b1, hm⟩ := hm
  have hx := Fw_L (v := 0) hx b1 (by decide)
  have hx := Fw_I (k := 6) (v := 0) hx b1 (by decide)
  replace hm := zcV_inv hm
  obtain ⟨S1, e1, hm⟩ := hm
  have hx := Fw_t hx (Fw_m (by decide) (fhyR_readTerm e1))
  replace hm := zgd hm
  obtain ⟨b2, hm⟩ := hm
  replace hm := zcP_inv hm
  obtain ⟨S2, v2, e2, hm⟩ := hm
  have hx := Fw_t hx (Fw_m (by decide) (fhyR_ahead e2))
  by_cases q3 : ty_b (rd_op v2) = 0
  · rw [if_pos q3] at hm
    replace hm := zgd hm
    obtain ⟨b4, hm⟩ := hm
    cases hm
    exact hx
  · rw [if_neg q3] at hm
    replace hm := zgd hm
    obtain ⟨b5, hm⟩ := hm
    replace hm := zcV_inv hm
    obtain ⟨S3, e3, hm⟩ := hm
    have hx := Fw_t hx (Fw_m (by decide) (fhyR_keep e3))
    replace hm := zgd hm
    obtain ⟨b6, hm⟩ := hm
    replace hm := zcV_inv hm
    obtain ⟨S4, e4, hm⟩ := hm
    have hx := Fw_t hx (Fw_m (by decide) (fhyR_readTerm e4))
    replace hm := zgd hm
    obtain ⟨b7, hm⟩ := hm
    cases hm
    exact hx
def whyR_readSet : List (Nat × Nat × Nat) := [(0, 6, 2), (0, 6, 4), (0, 6, 6), (0, 10, 1), (0, 10, 4), (2, 6, 0), (2, 10, 0)]
theorem fhyR_readSet {th : Nat} {n : Nat} {S : hS} {p1 : Option Nat} {S' : hS} (hm : yR_readSet n S th p1 = some S') : Fw whyR_readSet S S' := by
  unfold yR_readSet at hm
  have hx : Fw whyR_readSet S S := Fw_r
  replace hm := zob_inv hm
  obtain ⟨a1, rfl, hm⟩ := hm
  replace hm := zgd hm
  obtain ⟨b1, hm⟩ := hm
  have hx := Fw_I (k := 1) (v := 1) hx b1 (by decide)
  replace hm := zgd hm
  obtain ⟨b2, hm⟩ := hm
  replace hm := zcP_inv hm
  obtain ⟨S2, v2, e2, hm⟩ := hm
  have hx := Fw_t hx (Fw_m (by decide) (fhyR_readOneOf e2))
  replace hm := zgd hm
  obtain ⟨b3, hm⟩ := hm
  have hx := Fw_I (k := 4) (v := v2) hx b3 (by decide)
  replace hm := zgd hm
  obtain ⟨b4, hm⟩ := hm
  replace hm := zcV_inv hm
  obtain ⟨S3, e3, hm⟩ := hm
  have hx := Fw_t hx (Fw_m (by decide) (fhyR_expect e3))
  replace hm := zgd hm
  obtain ⟨b5, hm⟩ := hm
  replace hm := zcP_inv hm
  obtain ⟨S4, v4, e4, hm⟩ := hm
  have hx := Fw_t hx (Fw_m (by decide) (fhyR_readExpression e4))
  replace hm := zgd hm
  obtain ⟨b6, hm⟩ := hm
  have hx := Fw_L (v := v4) hx b6 (by decide)
  replace hm := zgd hm
  obtain ⟨b7, hm⟩ := hm
  replace hm := zcV_inv hm
  obtain ⟨S5, e5, hm⟩ := hm
  have hx := Fw_t hx (Fw_m (by decide) (fhyR_expect e5))
  cases hm
  exact hx
def whyR_readSend : List (Nat × Nat × Nat) := [(0, 6, 2), (0, 6, 4), (0, 6, 6), (0, 10, 1), (0, 10, 3), (0, 10, 4), (2, 6, 0), (2, 10, 0)]
theorem fhyR_readSend {th : Nat} {n : Nat} {S : hS} {p1 : Option Nat} {S' : hS} (hm : yR_readSend n S th p1 = some S') : Fw whyR_readSend S S' := by
  unfold yR_readSend at hm
  have hx : Fw whyR_readSend S S := Fw_r
  replace hm := zob_inv hm
  obtain ⟨a1, rfl, hm⟩ := hm
  replace hm := zgd hm
  obtain ⟨b1, hm⟩ := hm
  have hx := Fw_I (k := 1) (v := 2) hx b1 (by decide)
  replace hm := zgd hm
  obtain ⟨b2, hm⟩ := hm
  replace hm := zcP_inv hm
  obtain ⟨S2, v2, e2, hm⟩ := hm
  have hx := Fw_t hx (Fw_m (by decide) (fhyR_readExpression e2))
  replace hm := zgd hm
  obtain ⟨b3, hm⟩ := hm
  have hx := Fw_L (v := v2) hx b3 (by decide)
  replace hm := zgd hm
  obtain ⟨b4, hm⟩ := hm
  replace hm := zcV_inv hm
  obtain ⟨S3, e3, hm⟩ := hm
  have hx := Fw_t hx (Fw_m (by decide) (fhyR_expect e3))
  replace hm := zgd hm
  obtain ⟨b5, hm⟩ := hm
  replace hm := zgd hm
  obtain ⟨b6, hm⟩ := hm
  replace hm := zcP_inv hm
  obtain ⟨S4, v4, e4, hm⟩ := hm
  have hx := Fw_t hx (Fw_m (by decide) (fhyR_readOther e4))
  replace hm := zgd hm
  obtain ⟨b7, hm⟩ := hm
  have hx := Fw_I (k := 3) (v := v4) hx b7 (by decide)
  replace hm := zgd hm
  obtain ⟨b8, hm⟩ := hm
  replace hm := zcP_inv hm
  obtain ⟨S5, v5, e5, hm⟩ := hm
  have hx := Fw_t hx (Fw_m (by decide) (fhyR_readOneOf e5))
  replace hm := zgd hm
  obtain ⟨b9, hm⟩ := hm
  have hx := Fw_I (k := 4) (v := v5) hx b9 (by decide)
  replace hm := zgd hm
  obtain ⟨b10, hm⟩ := hm
  replace hm := zcV_inv hm
  obtain ⟨S6, e6, hm⟩ := hm
  have hx := Fw_t hx (Fw_m (by decide) (fhyR_expect e6))
  cases hm
  exact hx
def whyR_occurringIn : List (Nat × Nat × Nat) := []
theorem fhyR_occurringIn_4 : ∀ (n : Nat) {S : hS} {l1 : Int32} {p2 : Option Nat} {S' : hS} {r : Int32}, yR_occurringIn_4 n S l1 p2 = some (S', r) → Fw whyR_occurringIn S S' := by
  intro n
  induction n with
  | zero => intro S l1 p2 S' r hm; cases hm
  | succ n ih =>
    intro S l1 p2 S' r hm
    unfold yR_occurringIn_4 at hm
    have hx : Fw whyR_occurringIn S S := Fw_r
    cases p2 with
    | none =>
      replace hm := zoc_n hm
      cases hm
      exact hx
    | some a1 =>
      replace hm := zoc_s hm
      replace hm := zgd hm
      obtain ⟨b1, hm⟩ := hm
      replace hm := zlb_inv hm
      obtain ⟨o2, eo2, hm⟩ := hm
      exact Fw_t hx (ih hm)
theorem fhyR_occurringIn {n : Nat} {S : hS} {p1 : Option Nat} {S' : hS} {r : Int32} (hm : yR_occurringIn n S p1 = some (S', r)) : Fw whyR_occurringIn S S' := by
  unfold yR_occurringIn at hm
  have hx : Fw whyR_occurringIn S S := Fw_r
  exact Fw_t hx (fhyR_occurringIn_4  n hm)
def whyR_readBlock : List (Nat × Nat × Nat) := [(0, 6, 2), (0, 6, 3), (0, 6, 4), (0, 6, 6), (0, 10, 0), (0, 10, 1), (0, 10, 2), (0, 10, 3), (0, 10, 4), (0, 10, 5), (0, 10, 11), (1, 10, 7), (1, 10, 8), (1, 10, 9), (2, 6, 0), (2, 10, 0)]
theorem fhyR_readBlock {th : Nat} {rc : hS → Nat → Int32 → Option (hS × Option Nat)} (hrc : ∀ {S : hS} {th : Nat} {z1 : Int32} {S' : hS} {r : Option Nat}, rc S th z1 = some (S', r) → Fw whyR_readBlock S S') {n : Nat} {S : hS} {x1 : Int32} {S' : hS} {r : Option Nat} (hm : yR_readBlock rc n S th x1 = some (S', r)) : Fw whyR_readBlock S S' := by
  unfold yR_readBlock at hm
  have hx : Fw whyR_readBlock S S := Fw_r
  replace hm := zgd hm
  obtain ⟨b1, hm⟩ := hm
  replace hm := zcV_inv hm
  obtain ⟨S1, e1, hm⟩ := hm
  have hx := Fw_t hx (Fw_m (by decide) (fhyR_expect e1))
  replace hm := zgd hm
  obtain ⟨b2, hm⟩ := hm
  replace hm := zcP_inv hm
  obtain ⟨S2, o2, e2, hm⟩ := hm
  have hx := Fw_t hx (hrc e2)
  replace hm := zgd hm
  obtain ⟨b3, hm⟩ := hm
  replace hm := zcV_inv hm
  obtain ⟨S3, e3, hm⟩ := hm
  have hx := Fw_t hx (Fw_m (by decide) (fhyR_expect e3))
  cases hm
  exact hx
def whyR_readBranches : List (Nat × Nat × Nat) := [(0, 6, 2), (0, 6, 3), (0, 6, 4), (0, 6, 6), (0, 10, 0), (0, 10, 1), (0, 10, 2), (0, 10, 3), (0, 10, 4), (0, 10, 5), (0, 10, 11), (1, 10, 7), (1, 10, 8), (1, 10, 9), (2, 6, 0), (2, 10, 0)]
theorem fhyR_readBranches {th : Nat} {rc : hS → Nat → Int32 → Option (hS × Option Nat)} (hrc : ∀ {S : hS} {th : Nat} {z1 : Int32} {S' : hS} {r : Option Nat}, rc S th z1 = some (S', r) → Fw whyR_readBranches S S') {n : Nat} {S : hS} {p1 : Option Nat} {x2 : Int32} {S' : hS} (hm : yR_readBranches rc n S th p1 x2 = some S') : Fw whyR_readBranches S S' := by
  unfold yR_readBranches at hm
  have hx : Fw whyR_readBranches S S := Fw_r
  by_cases q1 : x2 < 6
  · rw [if_pos q1] at hm
    replace hm := zgd hm
    obtain ⟨b2, hm⟩ := hm
    replace hm := zcP_inv hm
    obtain ⟨S1, v1, e1, hm⟩ := hm
    have hx := Fw_t hx (Fw_m (by decide) (fhyR_ahead e1))
    by_cases q3 : v1 = 63
    · rw [if_pos q3] at hm
      replace hm := zob_inv hm
      obtain ⟨a2, rfl, hm⟩ := hm
      replace hm := zgd hm
      obtain ⟨b4, hm⟩ := hm
      have hx := Fw_I (k := 1) (v := 6) hx b4 (by decide)
      replace hm := zgd hm
      obtain ⟨b5, hm⟩ := hm
      have hx := Fw_I (k := 2) (v := (zI S1 2 th) + 1) hx b5 (by decide)
      replace hm := zcP_inv hm
      obtain ⟨S3, v3, e3, hm⟩ := hm
      have hx := Fw_t hx (Fw_m (by decide) (fhyR_readExpression e3))
      replace hm := zgd hm
      obtain ⟨b6, hm⟩ := hm
      have hx := Fw_L (v := v3) hx b6 (by decide)
      replace hm := zgd hm
      obtain ⟨b7, hm⟩ := hm
      replace hm := zcP_inv hm
      obtain ⟨S4, o4, e4, hm⟩ := hm
      have hx := Fw_t hx (fhyR_readBlock hrc e4)
      replace hm := zgd hm
      obtain ⟨b8, hm⟩ := hm
      have hx := Fw_R (k := 7) (v := o4) hx b8 (by decide)
      by_cases q9 : zI S4 1 a2 = 6
      · rw [if_pos q9] at hm
        replace hm := zgd hm
        obtain ⟨b10, hm⟩ := hm
        replace hm := zcP_inv hm
        obtain ⟨S5, o5, e5, hm⟩ := hm
        have hx := Fw_t hx (fhyR_readBlock hrc e5)
        replace hm := zgd hm
        obtain ⟨b11, hm⟩ := hm
        have hx := Fw_R (k := 8) (v := o5) hx b11 (by decide)
        cases hm
        exact hx
      · rw [if_neg q9] at hm
        cases hm
        exact hx
    · rw [if_neg q3] at hm
      replace hm := zob_inv hm
      obtain ⟨a6, rfl, hm⟩ := hm
      replace hm := zgd hm
      obtain ⟨b12, hm⟩ := hm
      have hx := Fw_I (k := 1) (v := 7) hx b12 (by decide)
      replace hm := zgd hm
      obtain ⟨b13, hm⟩ := hm
      have hx := Fw_I (k := 2) (v := (zI S1 2 th) + 1) hx b13 (by decide)
      replace hm := zcP_inv hm
      obtain ⟨S7, v7, e7, hm⟩ := hm
      have hx := Fw_t hx (Fw_m (by decide) (fhyR_readExpression e7))
      replace hm := zgd hm
      obtain ⟨b14, hm⟩ := hm
      have hx := Fw_L (v := v7) hx b14 (by decide)
      replace hm := zgd hm
      obtain ⟨b15, hm⟩ := hm
      replace hm := zcP_inv hm
      obtain ⟨S8, o8, e8, hm⟩ := hm
      have hx := Fw_t hx (fhyR_readBlock hrc e8)
      replace hm := zgd hm
      obtain ⟨b16, hm⟩ := hm
      have hx := Fw_R (k := 7) (v := o8) hx b16 (by decide)
      by_cases q17 : zI S8 1 a6 = 6
      · rw [if_pos q17] at hm
        replace hm := zgd hm
        obtain ⟨b18, hm⟩ := hm
        replace hm := zcP_inv hm
        obtain ⟨S9, o9, e9, hm⟩ := hm
        have hx := Fw_t hx (fhyR_readBlock hrc e9)
        replace hm := zgd hm
        obtain ⟨b19, hm⟩ := hm
        have hx := Fw_R (k := 8) (v := o9) hx b19 (by decide)
        cases hm
        exact hx
      · rw [if_neg q17] at hm
        cases hm
        exact hx
  · rw [if_neg q1] at hm
    replace hm := zgd hm
    obtain ⟨b20, hm⟩ := hm
    have hx := Fw_I (k := 4) (v := 1) hx b20 (by decide)
    cases hm
    exact hx
def whyR_readStatement : List (Nat × Nat × Nat) := [(0, 6, 2), (0, 6, 3), (0, 6, 4), (0, 6, 6), (0, 10, 0), (0, 10, 1), (0, 10, 2), (0, 10, 3), (0, 10, 4), (0, 10, 5), (0, 10, 11), (1, 10, 7), (1, 10, 8), (1, 10, 9), (2, 6, 0), (2, 10, 0)]
theorem fhyR_readStatement_121 {th : Nat} {rc : hS → Nat → Int32 → Option (hS × Option Nat)} (hrc : ∀ {S : hS} {th : Nat} {z1 : Int32} {S' : hS} {r : Option Nat}, rc S th z1 = some (S', r) → Fw whyR_readStatement S S') {n : Nat} {S : hS} {p2 : Option Nat} {S' : hS} {r : Option Nat} (hm : yR_readStatement_121 th rc n S p2 = some (S', r)) : Fw whyR_readStatement S S' := by
  unfold yR_readStatement_121 at hm
  have hx : Fw whyR_readStatement S S := Fw_r
  replace hm := zob_inv hm
  obtain ⟨a1, rfl, hm⟩ := hm
  replace hm := zgd hm
  obtain ⟨b1, hm⟩ := hm
  replace hm := zlb_inv hm
  obtain ⟨o2, eo2, hm⟩ := hm
  replace hm := zcP_inv hm
  obtain ⟨S3, v3, e3, hm⟩ := hm
  have hx := Fw_t hx (Fw_m (by decide) (fhyR_occurringIn e3))
  replace hm := zgd hm
  obtain ⟨b2, hm⟩ := hm
  replace hm := zlb_inv hm
  obtain ⟨o4, eo4, hm⟩ := hm
  replace hm := zcP_inv hm
  obtain ⟨S5, v5, e5, hm⟩ := hm
  have hx := Fw_t hx (Fw_m (by decide) (fhyR_occurringIn e5))
  replace hm := zgd hm
  obtain ⟨b3, hm⟩ := hm
  have hx := Fw_I (k := 11) (v := (((rd_bo (zI S 2 a1)) ||| (rd_bo (zI S 3 a1))) ||| v3) ||| v5) hx b3 (by decide)
  cases hm
  exact hx
theorem fhyR_readStatement_116 {th : Nat} {rc : hS → Nat → Int32 → Option (hS × Option Nat)} (hrc : ∀ {S : hS} {th : Nat} {z1 : Int32} {S' : hS} {r : Option Nat}, rc S th z1 = some (S', r) → Fw whyR_readStatement S S') {n : Nat} {S : hS} {p2 : Option Nat} {S' : hS} {r : Option Nat} (hm : yR_readStatement_116 th rc n S p2 = some (S', r)) : Fw whyR_readStatement S S' := by
  unfold yR_readStatement_116 at hm
  have hx : Fw whyR_readStatement S S := Fw_r
  replace hm := zgd hm
  obtain ⟨b1, hm⟩ := hm
  replace hm := zcV_inv hm
  obtain ⟨S1, e1, hm⟩ := hm
  have hx := Fw_t hx (Fw_m (by decide) (fhyR_readSend e1))
  exact Fw_t hx (fhyR_readStatement_121 hrc hm)
theorem fhyR_readStatement_82 {th : Nat} {rc : hS → Nat → Int32 → Option (hS × Option Nat)} (hrc : ∀ {S : hS} {th : Nat} {z1 : Int32} {S' : hS} {r : Option Nat}, rc S th z1 = some (S', r) → Fw whyR_readStatement S S') {n : Nat} {S : hS} {l1 : Int32} {p2 : Option Nat} {S' : hS} {r : Option Nat} (hm : yR_readStatement_82 th rc n S l1 p2 = some (S', r)) : Fw whyR_readStatement S S' := by
  unfold yR_readStatement_82 at hm
  have hx : Fw whyR_readStatement S S := Fw_r
  replace hm := zgd hm
  obtain ⟨b1, hm⟩ := hm
  replace hm := zcV_inv hm
  obtain ⟨S1, e1, hm⟩ := hm
  have hx := Fw_t hx (fhyR_readBranches hrc e1)
  exact Fw_t hx (fhyR_readStatement_121 hrc hm)
theorem fhyR_readStatement {th : Nat} {rc : hS → Nat → Int32 → Option (hS × Option Nat)} (hrc : ∀ {S : hS} {th : Nat} {z1 : Int32} {S' : hS} {r : Option Nat}, rc S th z1 = some (S', r) → Fw whyR_readStatement S S') {n : Nat} {S : hS} {x1 : Int32} {S' : hS} {r : Option Nat} (hm : yR_readStatement rc n S th x1 = some (S', r)) : Fw whyR_readStatement S S' := by
  unfold yR_readStatement at hm
  have hx : Fw whyR_readStatement S S := Fw_r
  replace hm := znw_inv hm
  obtain ⟨S1, a1, eS1, ea1, hm⟩ := hm
  have hx := Fw_n (by decide) hx eS1
  replace hm := zgd hm
  obtain ⟨b1, hm⟩ := hm
  replace hm := zcV_inv hm
  obtain ⟨S2, e2, hm⟩ := hm
  have hx := Fw_t hx (Fw_m (by decide) (fhyS_new e2))
  replace hm := zgd hm
  obtain ⟨b2, hm⟩ := hm
  by_cases q3 : zI S2 3 th = 40
  · rw [if_pos q3] at hm
    have hx := Fw_I (k := 4) (v := 1) hx b2 (by decide)
    cases hm
    exact hx
  · rw [if_neg q3] at hm
    have hx := Fw_I (k := 3) (v := (zI S2 3 th) + 1) hx b2 (by decide)
    replace hm := zcP_inv hm
    obtain ⟨S3, v3, e3, hm⟩ := hm
    have hx := Fw_t hx (Fw_m (by decide) (fhyR_readOneOf e3))
    replace hm := zgd hm
    obtain ⟨b4, hm⟩ := hm
    have hx := Fw_I (k := 2) (v := v3) hx b4 (by decide)
    replace hm := zgd hm
    obtain ⟨b5, hm⟩ := hm
    replace hm := zcP_inv hm
    obtain ⟨S4, v4, e4, hm⟩ := hm
    have hx := Fw_t hx (Fw_m (by decide) (fhyR_ahead e4))
    by_cases q6 : v4 = 33
    · rw [if_pos q6] at hm
      replace hm := zgd hm
      obtain ⟨b7, hm⟩ := hm
      replace hm := zcV_inv hm
      obtain ⟨S5, e5, hm⟩ := hm
      have hx := Fw_t hx (Fw_m (by decide) (fhyR_readTell e5))
      exact Fw_t hx (fhyR_readStatement_121 hrc hm)
    · rw [if_neg q6] at hm
      by_cases q8 : v4 = 63
      · rw [if_pos q8] at hm
        exact Fw_t hx (fhyR_readStatement_82 hrc hm)
      · rw [if_neg q8] at hm
        by_cases q9 : v4 = 64
        · rw [if_pos q9] at hm
          exact Fw_t hx (fhyR_readStatement_82 hrc hm)
        · rw [if_neg q9] at hm
          by_cases q10 : ty_b (rd_var v4) = 0
          · rw [if_pos q10] at hm
            exact Fw_t hx (fhyR_readStatement_116 hrc hm)
          · rw [if_neg q10] at hm
            replace hm := zgd hm
            obtain ⟨b11, hm⟩ := hm
            replace hm := zcP_inv hm
            obtain ⟨S6, v6, e6, hm⟩ := hm
            have hx := Fw_t hx (Fw_m (by decide) (fhyR_ahead e6))
            by_cases q12 : v6 = 58
            · rw [if_pos q12] at hm
              replace hm := zgd hm
              obtain ⟨b13, hm⟩ := hm
              replace hm := zcV_inv hm
              obtain ⟨S7, e7, hm⟩ := hm
              have hx := Fw_t hx (Fw_m (by decide) (fhyR_readSet e7))
              exact Fw_t hx (fhyR_readStatement_121 hrc hm)
            · rw [if_neg q12] at hm
              exact Fw_t hx (fhyR_readStatement_116 hrc hm)
def whyR_readRow : List (Nat × Nat × Nat) := [(0, 6, 2), (0, 6, 3), (0, 6, 4), (0, 6, 6), (0, 10, 0), (0, 10, 1), (0, 10, 2), (0, 10, 3), (0, 10, 4), (0, 10, 5), (0, 10, 11), (1, 10, 7), (1, 10, 8), (1, 10, 9), (2, 6, 0), (2, 10, 0)]
theorem fhyR_readRow_7 {th : Nat} {rc : hS → Nat → Int32 → Option (hS × Option Nat)} (hrc : ∀ {S : hS} {th : Nat} {z1 : Int32} {S' : hS} {r : Option Nat}, rc S th z1 = some (S', r) → Fw whyR_readRow S S') : ∀ (n : Nat) {S : hS} {l1 : Int32} {p2 : Option Nat} {p3 : Option Nat} {l4 : Int32} {S' : hS} {r : Option Nat}, yR_readRow_7 th rc n S l1 p2 p3 l4 = some (S', r) → Fw whyR_readRow S S' := by
  intro n
  induction n with
  | zero => intro S l1 p2 p3 l4 S' r hm; cases hm
  | succ n ih =>
    intro S l1 p2 p3 l4 S' r hm
    unfold yR_readRow_7 at hm
    have hx : Fw whyR_readRow S S := Fw_r
    by_cases q1 : 40 < l4
    · rw [if_pos q1] at hm
      cases hm
      exact hx
    · rw [if_neg q1] at hm
      replace hm := zgd hm
      obtain ⟨b2, hm⟩ := hm
      by_cases q3 : zI S 4 th = 0
      · rw [if_pos q3] at hm
        replace hm := zcP_inv hm
        obtain ⟨S1, v1, e1, hm⟩ := hm
        have hx := Fw_t hx (Fw_m (by decide) (fhyR_rowEnds e1))
        by_cases q4 : v1 = 0
        · rw [if_pos q4] at hm
          replace hm := zgd hm
          obtain ⟨b5, hm⟩ := hm
          replace hm := zcP_inv hm
          obtain ⟨S2, o2, e2, hm⟩ := hm
          have hx := Fw_t hx (fhyR_readStatement hrc e2)
          cases p3 with
          | none =>
            replace hm := zoc_n hm
            exact Fw_t hx (ih hm)
          | some a3 =>
            replace hm := zoc_s hm
            replace hm := zgd hm
            obtain ⟨b6, hm⟩ := hm
            have hx := Fw_R (k := 9) (v := o2) hx b6 (by decide)
            exact Fw_t hx (ih hm)
        · rw [if_neg q4] at hm
          cases hm
          exact hx
      · rw [if_neg q3] at hm
        cases hm
        exact hx
theorem fhyR_readRow {n : Nat} : ∀ (r : Nat) {S : hS} {th : Nat} {x1 : Int32} {S' : hS} {r_ : Option Nat}, yR_readRow n r S th x1 = some (S', r_) → Fw whyR_readRow S S' := by
  intro r
  induction r with
  | zero => intro S th x1 S' r_ hm; cases hm
  | succ r ih =>
    intro S th x1 S' r_ hm
    unfold yR_readRow at hm
    have hx : Fw whyR_readRow S S := Fw_r
    exact Fw_t hx (fhyR_readRow_7 ih n hm)
theorem fhyR_readRow_o {n : Nat} {S : hS} {th : Nat} {x1 : Int32} {S' : hS} {r_ : Option Nat} (hm : yR_readRow n 9 S th x1 = some (S', r_)) : Fw whyR_readRow S S' := fhyR_readRow 9 hm
def whyR_readPlay : List (Nat × Nat × Nat) := [(0, 6, 2), (0, 6, 3), (0, 6, 4), (0, 6, 6), (0, 10, 0), (0, 10, 1), (0, 10, 2), (0, 10, 3), (0, 10, 4), (0, 10, 5), (0, 10, 11), (1, 10, 7), (1, 10, 8), (1, 10, 9), (2, 6, 0), (2, 10, 0)]
theorem fhyR_readPlay {th : Nat} {n : Nat} {S : hS} {S' : hS} {r : Option Nat} (hm : yR_readPlay n S th = some (S', r)) : Fw whyR_readPlay S S' := by
  unfold yR_readPlay at hm
  have hx : Fw whyR_readPlay S S := Fw_r
  replace hm := zgd hm
  obtain ⟨b1, hm⟩ := hm
  replace hm := zcP_inv hm
  obtain ⟨S1, o1, e1, hm⟩ := hm
  have hx := Fw_t hx (Fw_m (by decide) (fhyR_readRow_o e1))
  replace hm := zgd hm
  obtain ⟨b2, hm⟩ := hm
  by_cases q3 : zI S1 4 th = 0
  · rw [if_pos q3] at hm
    cases hm
    exact hx
  · rw [if_neg q3] at hm
    cases hm
    exact hx
def whyC_new : List (Nat × Nat × Nat) := [(0, 3, 0), (0, 3, 1), (0, 3, 2), (0, 3, 3)]
theorem fhyC_new {th : Nat} {S : hS} {x1 : Int32} {x2 : Int32} {S' : hS} (hm : yC_new S th x1 x2 = some S') : Fw whyC_new S S' := by
  unfold yC_new at hm
  have hx : Fw whyC_new S S := Fw_r
  replace hm := zgd hm
  obtain ⟨b1, hm⟩ := hm
  have hx := Fw_I (k := 2) (v := (-1)) hx b1 (by decide)
  have hx := Fw_I (k := 3) (v := (-1)) hx b1 (by decide)
  replace hm := zgd hm
  obtain ⟨b2, hm⟩ := hm
  have hx := Fw_I (k := 0) (v := x1) hx b1 (by decide)
  have hx := Fw_I (k := 1) (v := x2) hx b1 (by decide)
  cases hm
  exact hx
def whyW_new : List (Nat × Nat × Nat) := []
theorem fhyW_new {th : Nat} {S : hS} {S' : hS} (hm : yW_new S th = some S') : Fw whyW_new S S' := by
  unfold yW_new at hm
  have hx : Fw whyW_new S S := Fw_r
  cases hm
  exact hx
def whyA_new : List (Nat × Nat × Nat) := [(0, 2, 0), (1, 2, 6)]
theorem fhyA_new {th : Nat} {S : hS} {x1 : Int32} {S' : hS} (hm : yA_new S th x1 = some S') : Fw whyA_new S S' := by
  unfold yA_new at hm
  have hx : Fw whyA_new S S := Fw_r
  replace hm := zgd hm
  obtain ⟨b1, hm⟩ := hm
  have hx := Fw_I (k := 0) (v := x1) hx b1 (by decide)
  replace hm := zgd hm
  obtain ⟨b2, hm⟩ := hm
  replace hm := zna_inv hm
  obtain ⟨S1, a1, eS1, ea1, hm⟩ := hm
  have hx := Fw_a ex_po hx eS1
  have hx := Fw_R (k := 6) (v := (some a1)) hx (ztg_oldA eS1 b1 rfl) (by decide)
  cases hm
  exact hx
def whyA_setPart : List (Nat × Nat × Nat) := [(0, 2, 7), (4, 27, 0)]
theorem fhyA_setPart {th : Nat} {S : hS} {x1 : Int32} {p2 : Option Nat} {S' : hS} (hm : yA_setPart S th x1 p2 = some S') : Fw whyA_setPart S S' := by
  unfold yA_setPart at hm
  have hx : Fw whyA_setPart S S := Fw_r
  by_cases q1 : x1 < 0
  · rw [if_pos q1] at hm
    cases hm
    exact hx
  · rw [if_neg q1] at hm
    replace hm := zgd hm
    obtain ⟨b2, hm⟩ := hm
    replace hm := zlb_inv hm
    obtain ⟨o1, eo1, hm⟩ := hm
    replace hm := zob_inv hm
    obtain ⟨a2, rfl, hm⟩ := hm
    replace hm := zgd hm
    obtain ⟨b3, hm⟩ := hm
    by_cases q4 : Int32.ofNat (zLen S a2) ≤ x1
    · rw [if_pos q4] at hm
      cases hm
      exact hx
    · rw [if_neg q4] at hm
      replace hm := zlb_inv hm
      obtain ⟨o3, eo3, hm⟩ := hm
      replace hm := zob_inv hm
      obtain ⟨a4, rfl, hm⟩ := hm
      replace hm := zgd hm
      obtain ⟨b5, hm⟩ := hm
      replace hm := zgd hm
      obtain ⟨b6, hm⟩ := hm
      replace hm := zgd hm
      obtain ⟨b7, hm⟩ := hm
      have hx := Fw_AR (g := va_up (zAR S a4) (Int32.toNatClampNeg x1) p2) hx b5 (by decide)
      have hx := Fw_I (k := 7) (v := (zI S 7 th) ||| (1 <<< (x1 &&& 31))) hx b2 (by decide)
      cases hm
      exact hx
def whyW_append : List (Nat × Nat × Nat) := [(0, 2, 7), (1, 2, 8), (1, 8, 0), (1, 8, 1), (4, 27, 0)]
theorem fhyW_append_55 {th : Nat} : ∀ (n : Nat) {S : hS} {S' : hS}, yW_append_55 th n S = some S' → Fw whyW_append S S' := by
  intro n
  induction n with
  | zero => intro S  S'  hm; cases hm
  | succ n ih =>
    intro S  S'  hm
    unfold yW_append_55 at hm
    have hx : Fw whyW_append S S := Fw_r
    replace hm := zgd hm
    obtain ⟨b1, hm⟩ := hm
    replace hm := zlb_inv hm
    obtain ⟨o1, eo1, hm⟩ := hm
    replace hm := zob_inv hm
    obtain ⟨a2, rfl, hm⟩ := hm
    replace hm := zgd hm
    obtain ⟨b2, hm⟩ := hm
    replace hm := zlb_inv hm
    obtain ⟨o3, eo3, hm⟩ := hm
    cases o3 with
    | none =>
      replace hm := zoc_n hm
      cases hm
      exact hx
    | some a4 =>
      replace hm := zoc_s hm
      replace hm := zlb_inv hm
      obtain ⟨o5, eo5, hm⟩ := hm
      replace hm := zob_inv hm
      obtain ⟨a6, rfl, hm⟩ := hm
      replace hm := zgd hm
      obtain ⟨b3, hm⟩ := hm
      replace hm := zlb_inv hm
      obtain ⟨o7, eo7, hm⟩ := hm
      have hx := Fw_R (k := 1) (v := o7) hx b1 (by decide)
      exact Fw_t hx (ih hm)
theorem fhyW_append {th : Nat} {n : Nat} {S : hS} {p1 : Option Nat} {S' : hS} (hm : yW_append n S th p1 = some S') : Fw whyW_append S S' := by
  unfold yW_append at hm
  have hx : Fw whyW_append S S := Fw_r
  cases p1 with
  | none =>
    replace hm := zoc_n hm
    cases hm
    exact hx
  | some a1 =>
    replace hm := zoc_s hm
    replace hm := zgd hm
    obtain ⟨b1, hm⟩ := hm
    replace hm := zlb_inv hm
    obtain ⟨o2, eo2, hm⟩ := hm
    cases o2 with
    | none =>
      replace hm := zoc_n hm
      replace hm := zlb_inv hm
      obtain ⟨o4, eo4, hm⟩ := hm
      cases o4 with
      | none =>
        replace hm := zoc_n hm
        have hx := Fw_R (k := 0) (v := (some a1)) hx b1 (by decide)
        have hx := Fw_R (k := 1) (v := (some a1)) hx b1 (by decide)
        exact Fw_t hx (fhyW_append_55  n hm)
      | some a5 =>
        replace hm := zoc_s hm
        replace hm := zlb_inv hm
        obtain ⟨o6, eo6, hm⟩ := hm
        replace hm := zob_inv hm
        obtain ⟨a7, rfl, hm⟩ := hm
        replace hm := zgd hm
        obtain ⟨b2, hm⟩ := hm
        replace hm := zcV_inv hm
        obtain ⟨S8, e8, hm⟩ := hm
        have hx := Fw_t hx (Fw_m (by decide) (fhyA_setPart e8))
        replace hm := zgd hm
        obtain ⟨b3, hm⟩ := hm
        have hx := Fw_R (k := 1) (v := (some a1)) hx b3 (by decide)
        exact Fw_t hx (fhyW_append_55  n hm)
    | some a3 =>
      replace hm := zoc_s hm
      replace hm := zlb_inv hm
      obtain ⟨o9, eo9, hm⟩ := hm
      replace hm := zob_inv hm
      obtain ⟨a10, rfl, hm⟩ := hm
      replace hm := zgd hm
      obtain ⟨b4, hm⟩ := hm
      have hx := Fw_R (k := 8) (v := (some a1)) hx b4 (by decide)
      have hx := Fw_R (k := 1) (v := (some a1)) hx b1 (by decide)
      exact Fw_t hx (fhyW_append_55  n hm)
def whyC_cutSet : List (Nat × Nat × Nat) := [(0, 2, 0), (0, 2, 1), (0, 2, 7), (1, 2, 6), (1, 2, 8), (1, 8, 0), (1, 8, 1), (2, 2, 0), (4, 27, 0)]
theorem fhyC_cutSet {n : Nat} {S : hS} {p1 : Option Nat} {p2 : Option Nat} {S' : hS} (hm : yC_cutSet n S p1 p2 = some S') : Fw whyC_cutSet S S' := by
  unfold yC_cutSet at hm
  have hx : Fw whyC_cutSet S S := Fw_r
  replace hm := znw_inv hm
  obtain ⟨S1, a1, eS1, ea1, hm⟩ := hm
  have hx := Fw_n (by decide) hx eS1
  replace hm := zcV_inv hm
  obtain ⟨S2, e2, hm⟩ := hm
  have hx := Fw_t hx (Fw_m (by decide) (fhyA_new e2))
  replace hm := zob_inv hm
  obtain ⟨a3, rfl, hm⟩ := hm
  replace hm := zgd hm
  obtain ⟨b1, hm⟩ := hm
  replace hm := zgd hm
  obtain ⟨b2, hm⟩ := hm
  have hx := Fw_I (k := 1) (v := zI S2 4 a3) hx b2 (by decide)
  have hx := Fw_L (v := zL S2 a3) hx b2 (by decide)
  replace hm := zob_inv hm
  obtain ⟨a4, rfl, hm⟩ := hm
  replace hm := zgd hm
  obtain ⟨b3, hm⟩ := hm
  replace hm := zgd hm
  obtain ⟨b4, hm⟩ := hm
  replace hm := zlb_inv hm
  obtain ⟨o5, eo5, hm⟩ := hm
  replace hm := zob_inv hm
  obtain ⟨a6, rfl, hm⟩ := hm
  replace hm := zgd hm
  obtain ⟨b5, hm⟩ := hm
  replace hm := zcV_inv hm
  obtain ⟨S7, e7, hm⟩ := hm
  have hx := Fw_t hx (Fw_m (by decide) (fhyW_append e7))
  cases hm
  exact hx
def whyC_cutSend : List (Nat × Nat × Nat) := [(0, 2, 0), (0, 2, 1), (0, 2, 3), (0, 2, 7), (1, 2, 6), (1, 2, 8), (1, 8, 0), (1, 8, 1), (2, 2, 0), (4, 27, 0)]
theorem fhyC_cutSend {n : Nat} {S : hS} {p1 : Option Nat} {p2 : Option Nat} {S' : hS} (hm : yC_cutSend n S p1 p2 = some S') : Fw whyC_cutSend S S' := by
  unfold yC_cutSend at hm
  have hx : Fw whyC_cutSend S S := Fw_r
  replace hm := znw_inv hm
  obtain ⟨S1, a1, eS1, ea1, hm⟩ := hm
  have hx := Fw_n (by decide) hx eS1
  replace hm := zcV_inv hm
  obtain ⟨S2, e2, hm⟩ := hm
  have hx := Fw_t hx (Fw_m (by decide) (fhyA_new e2))
  replace hm := zob_inv hm
  obtain ⟨a3, rfl, hm⟩ := hm
  replace hm := zgd hm
  obtain ⟨b1, hm⟩ := hm
  replace hm := zgd hm
  obtain ⟨b2, hm⟩ := hm
  have hx := Fw_L (v := zL S2 a3) hx b2 (by decide)
  have hx := Fw_I (k := 3) (v := zI S2 3 a3) hx b2 (by decide)
  replace hm := zob_inv hm
  obtain ⟨a4, rfl, hm⟩ := hm
  replace hm := zgd hm
  obtain ⟨b3, hm⟩ := hm
  replace hm := zgd hm
  obtain ⟨b4, hm⟩ := hm
  replace hm := zlb_inv hm
  obtain ⟨o5, eo5, hm⟩ := hm
  replace hm := zob_inv hm
  obtain ⟨a6, rfl, hm⟩ := hm
  replace hm := zgd hm
  obtain ⟨b5, hm⟩ := hm
  replace hm := zcV_inv hm
  obtain ⟨S7, e7, hm⟩ := hm
  have hx := Fw_t hx (Fw_m (by decide) (fhyW_append e7))
  replace hm := znw_inv hm
  obtain ⟨S8, a8, eS8, ea8, hm⟩ := hm
  have hx := Fw_n (by decide) hx eS8
  replace hm := zcV_inv hm
  obtain ⟨S9, e9, hm⟩ := hm
  have hx := Fw_t hx (Fw_m (by decide) (fhyA_new e9))
  replace hm := zgd hm
  obtain ⟨b6, hm⟩ := hm
  replace hm := zgd hm
  obtain ⟨b7, hm⟩ := hm
  have hx := Fw_I (k := 1) (v := zI S9 4 a3) hx b7 (by decide)
  have hx := Fw_I (k := 3) (v := zI S9 2 a3) hx b7 (by decide)
  replace hm := zgd hm
  obtain ⟨b8, hm⟩ := hm
  replace hm := zgd hm
  obtain ⟨b9, hm⟩ := hm
  replace hm := zlb_inv hm
  obtain ⟨o10, eo10, hm⟩ := hm
  replace hm := zob_inv hm
  obtain ⟨a11, rfl, hm⟩ := hm
  replace hm := zgd hm
  obtain ⟨b10, hm⟩ := hm
  replace hm := zcV_inv hm
  obtain ⟨S12, e12, hm⟩ := hm
  have hx := Fw_t hx (Fw_m (by decide) (fhyW_append e12))
  cases hm
  exact hx
def whyA_tell : List (Nat × Nat × Nat) := [(0, 2, 0), (0, 2, 2), (0, 2, 3), (1, 2, 6)]
theorem fhyA_tell {S : hS} {x1 : Int32} {x2 : Int32} {S' : hS} {r : Option Nat} (hm : yA_tell S x1 x2 = some (S', r)) : Fw whyA_tell S S' := by
  unfold yA_tell at hm
  have hx : Fw whyA_tell S S := Fw_r
  replace hm := znw_inv hm
  obtain ⟨S1, a1, eS1, ea1, hm⟩ := hm
  have hx := Fw_n (by decide) hx eS1
  replace hm := zcV_inv hm
  obtain ⟨S2, e2, hm⟩ := hm
  have hx := Fw_t hx (Fw_m (by decide) (fhyA_new e2))
  replace hm := zgd hm
  obtain ⟨b1, hm⟩ := hm
  have hx := Fw_I (k := 2) (v := x1) hx b1 (by decide)
  have hx := Fw_I (k := 3) (v := x2) hx b1 (by decide)
  cases hm
  exact hx
def whyA_hear : List (Nat × Nat × Nat) := [(0, 2, 0), (0, 2, 3), (1, 2, 6)]
theorem fhyA_hear {S : hS} {x1 : Int32} {S' : hS} {r : Option Nat} (hm : yA_hear S x1 = some (S', r)) : Fw whyA_hear S S' := by
  unfold yA_hear at hm
  have hx : Fw whyA_hear S S := Fw_r
  replace hm := znw_inv hm
  obtain ⟨S1, a1, eS1, ea1, hm⟩ := hm
  have hx := Fw_n (by decide) hx eS1
  replace hm := zcV_inv hm
  obtain ⟨S2, e2, hm⟩ := hm
  have hx := Fw_t hx (Fw_m (by decide) (fhyA_new e2))
  replace hm := zgd hm
  obtain ⟨b1, hm⟩ := hm
  have hx := Fw_I (k := 3) (v := x1) hx b1 (by decide)
  cases hm
  exact hx
def whyW_appendHear : List (Nat × Nat × Nat) := [(0, 2, 0), (0, 2, 3), (0, 2, 7), (0, 8, 3), (1, 2, 6), (1, 2, 8), (1, 8, 0), (1, 8, 1), (1, 8, 2), (4, 27, 0)]
theorem fhyW_appendHear {th : Nat} {n : Nat} {S : hS} {x1 : Int32} {x2 : Int32} {S' : hS} (hm : yW_appendHear n S th x1 x2 = some S') : Fw whyW_appendHear S S' := by
  unfold yW_appendHear at hm
  have hx : Fw whyW_appendHear S S := Fw_r
  replace hm := zcP_inv hm
  obtain ⟨S1, o1, e1, hm⟩ := hm
  have hx := Fw_t hx (Fw_m (by decide) (fhyA_hear e1))
  replace hm := zob_inv hm
  obtain ⟨a2, rfl, hm⟩ := hm
  replace hm := zgd hm
  obtain ⟨b1, hm⟩ := hm
  replace hm := zcV_inv hm
  obtain ⟨S3, e3, hm⟩ := hm
  have hx := Fw_t hx (Fw_m (by decide) (fhyA_setPart e3))
  replace hm := zgd hm
  obtain ⟨b2, hm⟩ := hm
  replace hm := zcV_inv hm
  obtain ⟨S4, e4, hm⟩ := hm
  have hx := Fw_t hx (Fw_m (by decide) (fhyW_append e4))
  replace hm := zgd hm
  obtain ⟨b3, hm⟩ := hm
  have hx := Fw_R (k := 2) (v := (some a2)) hx b3 (by decide)
  have hx := Fw_I (k := 3) (v := x2) hx b3 (by decide)
  have hx := Fw_R (k := 1) (v := none) hx b3 (by decide)
  cases hm
  exact hx
def whyC_cutRound : List (Nat × Nat × Nat) := [(0, 2, 0), (0, 2, 3), (0, 2, 4), (0, 2, 7), (1, 2, 6), (1, 2, 8), (1, 8, 0), (1, 8, 1), (2, 2, 0), (4, 27, 0)]
theorem fhyC_cutRound_62 : ∀ (n : Nat) {S : hS} {p0 : Option Nat} {p1 : Option Nat} {p2 : Option Nat} {p3 : Option Nat} {l4 : Int32} {S' : hS}, yC_cutRound_62 n S p0 p1 p2 p3 l4 = some S' → Fw whyC_cutRound S S' := by
  intro n
  induction n with
  | zero => intro S p0 p1 p2 p3 l4 S'  hm; cases hm
  | succ n ih =>
    intro S p0 p1 p2 p3 l4 S'  hm
    unfold yC_cutRound_62 at hm
    have hx : Fw whyC_cutRound S S := Fw_r
    by_cases q1 : 6 ≤ l4
    · rw [if_pos q1] at hm
      cases hm
      exact hx
    · rw [if_neg q1] at hm
      replace hm := zob_inv hm
      obtain ⟨a1, rfl, hm⟩ := hm
      replace hm := zgd hm
      obtain ⟨b2, hm⟩ := hm
      by_cases q3 : y_contains (zI S 4 a1) l4 = 0
      · rw [if_pos q3] at hm
        exact Fw_t hx (ih hm)
      · rw [if_neg q3] at hm
        replace hm := znw_inv hm
        obtain ⟨S2, a2, eS2, ea2, hm⟩ := hm
        have hx := Fw_n (by decide) hx eS2
        replace hm := zcV_inv hm
        obtain ⟨S3, e3, hm⟩ := hm
        have hx := Fw_t hx (Fw_m (by decide) (fhyA_new e3))
        replace hm := zob_inv hm
        obtain ⟨a4, rfl, hm⟩ := hm
        replace hm := zgd hm
        obtain ⟨b4, hm⟩ := hm
        replace hm := zgd hm
        obtain ⟨b5, hm⟩ := hm
        have hx := Fw_I (k := 3) (v := zI S3 2 a4) hx b5 (by decide)
        replace hm := zob_inv hm
        obtain ⟨a5, rfl, hm⟩ := hm
        replace hm := zgd hm
        obtain ⟨b6, hm⟩ := hm
        replace hm := zgd hm
        obtain ⟨b7, hm⟩ := hm
        replace hm := zlb_inv hm
        obtain ⟨o6, eo6, hm⟩ := hm
        replace hm := zob_inv hm
        obtain ⟨a7, rfl, hm⟩ := hm
        replace hm := zgd hm
        obtain ⟨b8, hm⟩ := hm
        replace hm := zlb_inv hm
        obtain ⟨o8, eo8, hm⟩ := hm
        replace hm := zcV_inv hm
        obtain ⟨S9, e9, hm⟩ := hm
        have hx := Fw_t hx (Fw_m (by decide) (fhyA_setPart e9))
        replace hm := zob_inv hm
        obtain ⟨a10, rfl, hm⟩ := hm
        replace hm := zgd hm
        obtain ⟨b9, hm⟩ := hm
        replace hm := zgd hm
        obtain ⟨b10, hm⟩ := hm
        replace hm := zlb_inv hm
        obtain ⟨o11, eo11, hm⟩ := hm
        replace hm := zob_inv hm
        obtain ⟨a12, rfl, hm⟩ := hm
        replace hm := zgd hm
        obtain ⟨b11, hm⟩ := hm
        replace hm := zcV_inv hm
        obtain ⟨S13, e13, hm⟩ := hm
        have hx := Fw_t hx (Fw_m (by decide) (fhyW_append e13))
        exact Fw_t hx (ih hm)
theorem fhyC_cutRound {n : Nat} {S : hS} {p1 : Option Nat} {p2 : Option Nat} {p3 : Option Nat} {S' : hS} (hm : yC_cutRound n S p1 p2 p3 = some S') : Fw whyC_cutRound S S' := by
  unfold yC_cutRound at hm
  have hx : Fw whyC_cutRound S S := Fw_r
  replace hm := znw_inv hm
  obtain ⟨S1, a1, eS1, ea1, hm⟩ := hm
  have hx := Fw_n (by decide) hx eS1
  replace hm := zcV_inv hm
  obtain ⟨S2, e2, hm⟩ := hm
  have hx := Fw_t hx (Fw_m (by decide) (fhyA_new e2))
  replace hm := zob_inv hm
  obtain ⟨a3, rfl, hm⟩ := hm
  replace hm := zgd hm
  obtain ⟨b1, hm⟩ := hm
  replace hm := zgd hm
  obtain ⟨b2, hm⟩ := hm
  have hx := Fw_L (v := zL S2 a3) hx b2 (by decide)
  have hx := Fw_I (k := 4) (v := (zI S2 11 a3) &&& ((1 <<< ((zI S2 2 a3) &&& 31)) ^^^ (-1))) hx b2 (by decide)
  replace hm := zob_inv hm
  obtain ⟨a4, rfl, hm⟩ := hm
  replace hm := zgd hm
  obtain ⟨b3, hm⟩ := hm
  replace hm := zgd hm
  obtain ⟨b4, hm⟩ := hm
  replace hm := zlb_inv hm
  obtain ⟨o5, eo5, hm⟩ := hm
  replace hm := zob_inv hm
  obtain ⟨a6, rfl, hm⟩ := hm
  replace hm := zgd hm
  obtain ⟨b5, hm⟩ := hm
  replace hm := zlb_inv hm
  obtain ⟨o7, eo7, hm⟩ := hm
  replace hm := zcV_inv hm
  obtain ⟨S8, e8, hm⟩ := hm
  have hx := Fw_t hx (Fw_m (by decide) (fhyA_setPart e8))
  replace hm := zgd hm
  obtain ⟨b6, hm⟩ := hm
  replace hm := zob_inv hm
  obtain ⟨a9, rfl, hm⟩ := hm
  replace hm := zgd hm
  obtain ⟨b7, hm⟩ := hm
  replace hm := zgd hm
  obtain ⟨b8, hm⟩ := hm
  replace hm := zlb_inv hm
  obtain ⟨o10, eo10, hm⟩ := hm
  replace hm := zob_inv hm
  obtain ⟨a11, rfl, hm⟩ := hm
  replace hm := zgd hm
  obtain ⟨b9, hm⟩ := hm
  replace hm := zcV_inv hm
  obtain ⟨S12, e12, hm⟩ := hm
  have hx := Fw_t hx (Fw_m (by decide) (fhyW_append e12))
  exact Fw_t hx (fhyC_cutRound_62  n hm)
def whyA_isLike : List (Nat × Nat × Nat) := []
theorem fhyA_isLike {th : Nat} {S : hS} {p1 : Option Nat} {S' : hS} {r : Int32} (hm : yA_isLike S th p1 = some (S', r)) : Fw whyA_isLike S S' := by
  unfold yA_isLike at hm
  have hx : Fw whyA_isLike S S := Fw_r
  replace hm := zgd hm
  obtain ⟨b1, hm⟩ := hm
  replace hm := zob_inv hm
  obtain ⟨a1, rfl, hm⟩ := hm
  replace hm := zgd hm
  obtain ⟨b2, hm⟩ := hm
  by_cases q3 : zI S 0 th = zI S 0 a1
  · rw [if_pos q3] at hm
    by_cases q4 : zI S 1 th = zI S 1 a1
    · rw [if_pos q4] at hm
      by_cases q5 : lg_cmp (zL S th) (zL S a1) = 0
      · rw [if_pos q5] at hm
        by_cases q6 : zI S 2 th = zI S 2 a1
        · rw [if_pos q6] at hm
          by_cases q7 : zI S 3 th = zI S 3 a1
          · rw [if_pos q7] at hm
            by_cases q8 : zI S 4 th = zI S 4 a1
            · rw [if_pos q8] at hm
              cases hm
              exact hx
            · rw [if_neg q8] at hm
              cases hm
              exact hx
          · rw [if_neg q7] at hm
            cases hm
            exact hx
        · rw [if_neg q6] at hm
          cases hm
          exact hx
      · rw [if_neg q5] at hm
        cases hm
        exact hx
    · rw [if_neg q4] at hm
      cases hm
      exact hx
  · rw [if_neg q3] at hm
    cases hm
    exact hx
def whyA_hasPart : List (Nat × Nat × Nat) := []
theorem fhyA_hasPart {th : Nat} {S : hS} {x1 : Int32} {S' : hS} {r : Int32} (hm : yA_hasPart S th x1 = some (S', r)) : Fw whyA_hasPart S S' := by
  unfold yA_hasPart at hm
  have hx : Fw whyA_hasPart S S := Fw_r
  by_cases q1 : x1 < 0
  · rw [if_pos q1] at hm
    cases hm
    exact hx
  · rw [if_neg q1] at hm
    replace hm := zgd hm
    obtain ⟨b2, hm⟩ := hm
    replace hm := zlb_inv hm
    obtain ⟨o1, eo1, hm⟩ := hm
    replace hm := zob_inv hm
    obtain ⟨a2, rfl, hm⟩ := hm
    replace hm := zgd hm
    obtain ⟨b3, hm⟩ := hm
    by_cases q4 : Int32.ofNat (zLen S a2) ≤ x1
    · rw [if_pos q4] at hm
      cases hm
      exact hx
    · rw [if_neg q4] at hm
      by_cases q5 : ((zI S 7 th) >>> (x1 &&& 31)) &&& 1 = 0
      · rw [if_pos q5] at hm
        cases hm
        exact hx
      · rw [if_neg q5] at hm
        cases hm
        exact hx
def whyA_partsCanJoin : List (Nat × Nat × Nat) := []
theorem fhyA_partsCanJoin_2 {rc : hS → Option Nat → Option Nat → Int32 → Option (hS × Int32)} (hrc : ∀ {S : hS} {z1 : Option Nat} {z2 : Option Nat} {z3 : Int32} {S' : hS} {r : Int32}, rc S z1 z2 z3 = some (S', r) → Fw whyA_partsCanJoin S S') : ∀ (n : Nat) {S : hS} {p0 : Option Nat} {p1 : Option Nat} {l2 : Int32} {l3 : Int32} {S' : hS} {r : Int32}, yA_partsCanJoin_2 rc n S p0 p1 l2 l3 = some (S', r) → Fw whyA_partsCanJoin S S' := by
  intro n
  induction n with
  | zero => intro S p0 p1 l2 l3 S' r hm; cases hm
  | succ n ih =>
    intro S p0 p1 l2 l3 S' r hm
    unfold yA_partsCanJoin_2 at hm
    have hx : Fw whyA_partsCanJoin S S := Fw_r
    replace hm := zob_inv hm
    obtain ⟨a1, rfl, hm⟩ := hm
    replace hm := zgd hm
    obtain ⟨b1, hm⟩ := hm
    replace hm := zlb_inv hm
    obtain ⟨o2, eo2, hm⟩ := hm
    replace hm := zob_inv hm
    obtain ⟨a3, rfl, hm⟩ := hm
    replace hm := zgd hm
    obtain ⟨b2, hm⟩ := hm
    by_cases q3 : Int32.ofNat (zLen S a3) ≤ l3
    · rw [if_pos q3] at hm
      cases hm
      exact hx
    · rw [if_neg q3] at hm
      replace hm := zcP_inv hm
      obtain ⟨S4, v4, e4, hm⟩ := hm
      have hx := Fw_t hx (Fw_m (by decide) (fhyA_hasPart e4))
      by_cases q4 : v4 = 0
      · rw [if_pos q4] at hm
        exact Fw_t hx (ih hm)
      · rw [if_neg q4] at hm
        replace hm := zob_inv hm
        obtain ⟨a5, rfl, hm⟩ := hm
        replace hm := zgd hm
        obtain ⟨b5, hm⟩ := hm
        replace hm := zcP_inv hm
        obtain ⟨S6, v6, e6, hm⟩ := hm
        have hx := Fw_t hx (Fw_m (by decide) (fhyA_hasPart e6))
        by_cases q6 : v6 = 0
        · rw [if_pos q6] at hm
          exact Fw_t hx (ih hm)
        · rw [if_neg q6] at hm
          replace hm := zgd hm
          obtain ⟨b7, hm⟩ := hm
          replace hm := zlb_inv hm
          obtain ⟨o7, eo7, hm⟩ := hm
          replace hm := zob_inv hm
          obtain ⟨a8, rfl, hm⟩ := hm
          replace hm := zgd hm
          obtain ⟨b8, hm⟩ := hm
          replace hm := zgd hm
          obtain ⟨b9, hm⟩ := hm
          replace hm := zlb_inv hm
          obtain ⟨o9, eo9, hm⟩ := hm
          replace hm := zgd hm
          obtain ⟨b10, hm⟩ := hm
          replace hm := zlb_inv hm
          obtain ⟨o10, eo10, hm⟩ := hm
          replace hm := zob_inv hm
          obtain ⟨a11, rfl, hm⟩ := hm
          replace hm := zgd hm
          obtain ⟨b11, hm⟩ := hm
          replace hm := zgd hm
          obtain ⟨b12, hm⟩ := hm
          replace hm := zlb_inv hm
          obtain ⟨o12, eo12, hm⟩ := hm
          replace hm := zcP_inv hm
          obtain ⟨S13, v13, e13, hm⟩ := hm
          have hx := Fw_t hx (hrc e13)
          by_cases q13 : v13 = 0
          · rw [if_pos q13] at hm
            cases hm
            exact hx
          · rw [if_neg q13] at hm
            exact Fw_t hx (ih hm)
theorem fhyA_partsCanJoin {rc : hS → Option Nat → Option Nat → Int32 → Option (hS × Int32)} (hrc : ∀ {S : hS} {z1 : Option Nat} {z2 : Option Nat} {z3 : Int32} {S' : hS} {r : Int32}, rc S z1 z2 z3 = some (S', r) → Fw whyA_partsCanJoin S S') {n : Nat} {S : hS} {p1 : Option Nat} {p2 : Option Nat} {x3 : Int32} {S' : hS} {r : Int32} (hm : yA_partsCanJoin rc n S p1 p2 x3 = some (S', r)) : Fw whyA_partsCanJoin S S' := by
  unfold yA_partsCanJoin at hm
  have hx : Fw whyA_partsCanJoin S S := Fw_r
  exact Fw_t hx (fhyA_partsCanJoin_2 hrc n hm)
def whyA_canJoin : List (Nat × Nat × Nat) := []
theorem fhyA_canJoin_13 {rc : hS → Option Nat → Option Nat → Int32 → Option (hS × Int32)} (hrc : ∀ {S : hS} {z1 : Option Nat} {z2 : Option Nat} {z3 : Int32} {S' : hS} {r : Int32}, rc S z1 z2 z3 = some (S', r) → Fw whyA_canJoin S S') : ∀ (n : Nat) {S : hS} {l2 : Int32} {p3 : Option Nat} {p4 : Option Nat} {S' : hS} {r : Int32}, yA_canJoin_13 rc n S l2 p3 p4 = some (S', r) → Fw whyA_canJoin S S' := by
  intro n
  induction n with
  | zero => intro S l2 p3 p4 S' r hm; cases hm
  | succ n ih =>
    intro S l2 p3 p4 S' r hm
    unfold yA_canJoin_13 at hm
    have hx : Fw whyA_canJoin S S := Fw_r
    cases p3 with
    | none =>
      replace hm := zoc_n hm
      cases p4 with
      | none =>
        replace hm := zoc_n hm
        cases hm
        exact hx
      | some a2 =>
        replace hm := zoc_s hm
        cases hm
        exact hx
    | some a1 =>
      replace hm := zoc_s hm
      cases p4 with
      | none =>
        replace hm := zoc_n hm
        cases hm
        exact hx
      | some a3 =>
        replace hm := zoc_s hm
        replace hm := zgd hm
        obtain ⟨b1, hm⟩ := hm
        replace hm := zcP_inv hm
        obtain ⟨S4, v4, e4, hm⟩ := hm
        have hx := Fw_t hx (Fw_m (by decide) (fhyA_isLike e4))
        by_cases q2 : v4 = 0
        · rw [if_pos q2] at hm
          cases hm
          exact hx
        · rw [if_neg q2] at hm
          replace hm := zcP_inv hm
          obtain ⟨S5, v5, e5, hm⟩ := hm
          have hx := Fw_t hx (fhyA_partsCanJoin hrc e5)
          by_cases q3 : v5 = 0
          · rw [if_pos q3] at hm
            cases hm
            exact hx
          · rw [if_neg q3] at hm
            replace hm := zgd hm
            obtain ⟨b4, hm⟩ := hm
            replace hm := zlb_inv hm
            obtain ⟨o6, eo6, hm⟩ := hm
            replace hm := zgd hm
            obtain ⟨b5, hm⟩ := hm
            replace hm := zlb_inv hm
            obtain ⟨o7, eo7, hm⟩ := hm
            exact Fw_t hx (ih hm)
theorem fhyA_canJoin {n : Nat} : ∀ (r : Nat) {S : hS} {p1 : Option Nat} {p2 : Option Nat} {x3 : Int32} {S' : hS} {r_ : Int32}, yA_canJoin n r S p1 p2 x3 = some (S', r_) → Fw whyA_canJoin S S' := by
  intro r
  induction r with
  | zero => intro S p1 p2 x3 S' r_ hm; cases hm
  | succ r ih =>
    intro S p1 p2 x3 S' r_ hm
    unfold yA_canJoin at hm
    have hx : Fw whyA_canJoin S S := Fw_r
    by_cases q1 : x3 ≤ 64
    · rw [if_pos q1] at hm
      exact Fw_t hx (fhyA_canJoin_13 ih n hm)
    · rw [if_neg q1] at hm
      cases hm
      exact hx
theorem fhyA_canJoin_o {n : Nat} {S : hS} {p1 : Option Nat} {p2 : Option Nat} {x3 : Int32} {S' : hS} {r_ : Int32} (hm : yA_canJoin n 67 S p1 p2 x3 = some (S', r_)) : Fw whyA_canJoin S S' := fhyA_canJoin 67 hm
def whyC_unawareAt : List (Nat × Nat × Nat) := []
theorem fhyC_unawareAt_5 : ∀ (n : Nat) {S : hS} {p0 : Option Nat} {p1 : Option Nat} {p2 : Option Nat} {l3 : Int32} {l4 : Int32} {S' : hS} {r : Int32}, yC_unawareAt_5 n S p0 p1 p2 l3 l4 = some (S', r) → Fw whyC_unawareAt S S' := by
  intro n
  induction n with
  | zero => intro S p0 p1 p2 l3 l4 S' r hm; cases hm
  | succ n ih =>
    intro S p0 p1 p2 l3 l4 S' r hm
    unfold yC_unawareAt_5 at hm
    have hx : Fw whyC_unawareAt S S := Fw_r
    by_cases q1 : 6 ≤ l4
    · rw [if_pos q1] at hm
      cases hm
      exact hx
    · rw [if_neg q1] at hm
      replace hm := zob_inv hm
      obtain ⟨a1, rfl, hm⟩ := hm
      replace hm := zgd hm
      obtain ⟨b2, hm⟩ := hm
      by_cases q3 : l4 = zI S 2 a1
      · rw [if_pos q3] at hm
        exact Fw_t hx (ih hm)
      · rw [if_neg q3] at hm
        replace hm := zob_inv hm
        obtain ⟨a2, rfl, hm⟩ := hm
        replace hm := zgd hm
        obtain ⟨b4, hm⟩ := hm
        replace hm := zgd hm
        obtain ⟨b5, hm⟩ := hm
        replace hm := zlb_inv hm
        obtain ⟨o3, eo3, hm⟩ := hm
        replace hm := zob_inv hm
        obtain ⟨a4, rfl, hm⟩ := hm
        replace hm := zgd hm
        obtain ⟨b6, hm⟩ := hm
        replace hm := zlb_inv hm
        obtain ⟨o5, eo5, hm⟩ := hm
        replace hm := zob_inv hm
        obtain ⟨a6, rfl, hm⟩ := hm
        replace hm := zgd hm
        obtain ⟨b7, hm⟩ := hm
        replace hm := zgd hm
        obtain ⟨b8, hm⟩ := hm
        replace hm := zlb_inv hm
        obtain ⟨o7, eo7, hm⟩ := hm
        replace hm := zob_inv hm
        obtain ⟨a8, rfl, hm⟩ := hm
        replace hm := zgd hm
        obtain ⟨b9, hm⟩ := hm
        replace hm := zlb_inv hm
        obtain ⟨o9, eo9, hm⟩ := hm
        replace hm := zcP_inv hm
        obtain ⟨S10, v10, e10, hm⟩ := hm
        have hx := Fw_t hx (Fw_m (by decide) (fhyA_canJoin_o e10))
        by_cases q10 : v10 = 0
        · rw [if_pos q10] at hm
          exact Fw_t hx (ih hm)
        · rw [if_neg q10] at hm
          exact Fw_t hx (ih hm)
theorem fhyC_unawareAt {n : Nat} {S : hS} {p1 : Option Nat} {p2 : Option Nat} {p3 : Option Nat} {S' : hS} {r : Int32} (hm : yC_unawareAt n S p1 p2 p3 = some (S', r)) : Fw whyC_unawareAt S S' := by
  unfold yC_unawareAt at hm
  have hx : Fw whyC_unawareAt S S := Fw_r
  exact Fw_t hx (fhyC_unawareAt_5  n hm)
def whyC_leastOf : List (Nat × Nat × Nat) := []
theorem fhyC_leastOf_2 : ∀ (n : Nat) {S : hS} {l0 : Int32} {l1 : Int32} {S' : hS} {r : Int32}, yC_leastOf_2 n S l0 l1 = some (S', r) → Fw whyC_leastOf S S' := by
  intro n
  induction n with
  | zero => intro S l0 l1 S' r hm; cases hm
  | succ n ih =>
    intro S l0 l1 S' r hm
    unfold yC_leastOf_2 at hm
    have hx : Fw whyC_leastOf S S := Fw_r
    by_cases q1 : 6 ≤ l1
    · rw [if_pos q1] at hm
      cases hm
      exact hx
    · rw [if_neg q1] at hm
      by_cases q2 : y_contains l0 l1 = 0
      · rw [if_pos q2] at hm
        exact Fw_t hx (ih hm)
      · rw [if_neg q2] at hm
        cases hm
        exact hx
theorem fhyC_leastOf {n : Nat} {S : hS} {x1 : Int32} {S' : hS} {r : Int32} (hm : yC_leastOf n S x1 = some (S', r)) : Fw whyC_leastOf S S' := by
  unfold yC_leastOf at hm
  have hx : Fw whyC_leastOf S S := Fw_r
  exact Fw_t hx (fhyC_leastOf_2  n hm)
def whyC_mayPutIn : List (Nat × Nat × Nat) := [(0, 3, 1), (0, 3, 2), (0, 3, 3)]
theorem fhyC_mayPutIn {th : Nat} {n : Nat} {S : hS} {p1 : Option Nat} {x2 : Int32} {S' : hS} {r : Int32} (hm : yC_mayPutIn n S th p1 x2 = some (S', r)) : Fw whyC_mayPutIn S S' := by
  unfold yC_mayPutIn at hm
  have hx : Fw whyC_mayPutIn S S := Fw_r
  replace hm := zgd hm
  obtain ⟨b1, hm⟩ := hm
  by_cases q2 : zI S 0 th = 0
  · rw [if_pos q2] at hm
    replace hm := zob_inv hm
    obtain ⟨a1, rfl, hm⟩ := hm
    replace hm := zgd hm
    obtain ⟨b3, hm⟩ := hm
    have hx := Fw_I (k := 2) (v := zI S 0 a1) hx b1 (by decide)
    replace hm := zcP_inv hm
    obtain ⟨S2, v2, e2, hm⟩ := hm
    have hx := Fw_t hx (Fw_m (by decide) (fhyC_leastOf e2))
    replace hm := zgd hm
    obtain ⟨b4, hm⟩ := hm
    have hx := Fw_I (k := 3) (v := v2) hx b4 (by decide)
    cases hm
    exact hx
  · rw [if_neg q2] at hm
    have hx := Fw_I (k := 1) (v := (zI S 1 th) + (2 * (yJ_bitCount x2))) hx b1 (by decide)
    by_cases q5 : (zI S 1 th) + (2 * (yJ_bitCount x2)) ≤ 80
    · rw [if_pos q5] at hm
      cases hm
      exact hx
    · rw [if_neg q5] at hm
      replace hm := zob_inv hm
      obtain ⟨a3, rfl, hm⟩ := hm
      replace hm := zgd hm
      obtain ⟨b6, hm⟩ := hm
      have hx := Fw_I (k := 2) (v := zI S 0 a3) hx b1 (by decide)
      cases hm
      exact hx
def whyC_withTells : List (Nat × Nat × Nat) := [(0, 2, 0), (0, 2, 2), (0, 2, 3), (1, 2, 6), (1, 2, 8)]
theorem fhyC_withTells_5 : ∀ (n : Nat) {S : hS} {l0 : Int32} {l1 : Int32} {p3 : Option Nat} {l4 : Int32} {S' : hS} {r : Option Nat}, yC_withTells_5 n S l0 l1 p3 l4 = some (S', r) → Fw whyC_withTells S S' := by
  intro n
  induction n with
  | zero => intro S l0 l1 p3 l4 S' r hm; cases hm
  | succ n ih =>
    intro S l0 l1 p3 l4 S' r hm
    unfold yC_withTells_5 at hm
    have hx : Fw whyC_withTells S S := Fw_r
    by_cases q1 : l4 < 0
    · rw [if_pos q1] at hm
      cases hm
      exact hx
    · rw [if_neg q1] at hm
      by_cases q2 : y_contains l1 l4 = 0
      · rw [if_pos q2] at hm
        exact Fw_t hx (ih hm)
      · rw [if_neg q2] at hm
        replace hm := zcP_inv hm
        obtain ⟨S1, o1, e1, hm⟩ := hm
        have hx := Fw_t hx (Fw_m (by decide) (fhyA_tell e1))
        replace hm := zob_inv hm
        obtain ⟨a2, rfl, hm⟩ := hm
        replace hm := zgd hm
        obtain ⟨b3, hm⟩ := hm
        have hx := Fw_R (k := 8) (v := p3) hx b3 (by decide)
        exact Fw_t hx (ih hm)
theorem fhyC_withTells {n : Nat} {S : hS} {x1 : Int32} {x2 : Int32} {p3 : Option Nat} {S' : hS} {r : Option Nat} (hm : yC_withTells n S x1 x2 p3 = some (S', r)) : Fw whyC_withTells S S' := by
  unfold yC_withTells at hm
  have hx : Fw whyC_withTells S S := Fw_r
  exact Fw_t hx (fhyC_withTells_5  n hm)
def whyC_toldPart : List (Nat × Nat × Nat) := [(0, 2, 0), (0, 2, 3), (0, 2, 7), (1, 2, 6), (4, 27, 0)]
theorem fhyC_toldPart {S : hS} {x1 : Int32} {p2 : Option Nat} {p3 : Option Nat} {S' : hS} {r : Option Nat} (hm : yC_toldPart S x1 p2 p3 = some (S', r)) : Fw whyC_toldPart S S' := by
  unfold yC_toldPart at hm
  have hx : Fw whyC_toldPart S S := Fw_r
  replace hm := zcP_inv hm
  obtain ⟨S1, o1, e1, hm⟩ := hm
  have hx := Fw_t hx (Fw_m (by decide) (fhyA_hear e1))
  replace hm := zob_inv hm
  obtain ⟨a2, rfl, hm⟩ := hm
  replace hm := zgd hm
  obtain ⟨b1, hm⟩ := hm
  replace hm := zcV_inv hm
  obtain ⟨S3, e3, hm⟩ := hm
  have hx := Fw_t hx (Fw_m (by decide) (fhyA_setPart e3))
  replace hm := zgd hm
  obtain ⟨b2, hm⟩ := hm
  replace hm := zcV_inv hm
  obtain ⟨S4, e4, hm⟩ := hm
  have hx := Fw_t hx (Fw_m (by decide) (fhyA_setPart e4))
  cases hm
  exact hx
def whyA_joinParts : List (Nat × Nat × Nat) := [(0, 2, 7), (4, 27, 0)]
theorem fhyA_joinParts_2 {rc : hS → Option Nat → Option Nat → Int32 → Option (hS)} (hrc : ∀ {S : hS} {z1 : Option Nat} {z2 : Option Nat} {z3 : Int32} {S' : hS}, rc S z1 z2 z3 = some S' → Fw whyA_joinParts S S') : ∀ (n : Nat) {S : hS} {p0 : Option Nat} {p1 : Option Nat} {l2 : Int32} {l3 : Int32} {S' : hS}, yA_joinParts_2 rc n S p0 p1 l2 l3 = some S' → Fw whyA_joinParts S S' := by
  intro n
  induction n with
  | zero => intro S p0 p1 l2 l3 S'  hm; cases hm
  | succ n ih =>
    intro S p0 p1 l2 l3 S'  hm
    unfold yA_joinParts_2 at hm
    have hx : Fw whyA_joinParts S S := Fw_r
    replace hm := zob_inv hm
    obtain ⟨a1, rfl, hm⟩ := hm
    replace hm := zgd hm
    obtain ⟨b1, hm⟩ := hm
    replace hm := zlb_inv hm
    obtain ⟨o2, eo2, hm⟩ := hm
    replace hm := zob_inv hm
    obtain ⟨a3, rfl, hm⟩ := hm
    replace hm := zgd hm
    obtain ⟨b2, hm⟩ := hm
    by_cases q3 : Int32.ofNat (zLen S a3) ≤ l3
    · rw [if_pos q3] at hm
      cases hm
      exact hx
    · rw [if_neg q3] at hm
      replace hm := zob_inv hm
      obtain ⟨a4, rfl, hm⟩ := hm
      replace hm := zgd hm
      obtain ⟨b4, hm⟩ := hm
      replace hm := zcP_inv hm
      obtain ⟨S5, v5, e5, hm⟩ := hm
      have hx := Fw_t hx (Fw_m (by decide) (fhyA_hasPart e5))
      by_cases q5 : v5 = 0
      · rw [if_pos q5] at hm
        replace hm := zgd hm
        obtain ⟨b6, hm⟩ := hm
        replace hm := zcP_inv hm
        obtain ⟨S6, v6, e6, hm⟩ := hm
        have hx := Fw_t hx (Fw_m (by decide) (fhyA_hasPart e6))
        by_cases q7 : v6 = 0
        · rw [if_pos q7] at hm
          exact Fw_t hx (ih hm)
        · rw [if_neg q7] at hm
          replace hm := zgd hm
          obtain ⟨b8, hm⟩ := hm
          replace hm := zlb_inv hm
          obtain ⟨o7, eo7, hm⟩ := hm
          replace hm := zob_inv hm
          obtain ⟨a8, rfl, hm⟩ := hm
          replace hm := zgd hm
          obtain ⟨b9, hm⟩ := hm
          replace hm := zgd hm
          obtain ⟨b10, hm⟩ := hm
          replace hm := zlb_inv hm
          obtain ⟨o9, eo9, hm⟩ := hm
          replace hm := zgd hm
          obtain ⟨b11, hm⟩ := hm
          replace hm := zcV_inv hm
          obtain ⟨S10, e10, hm⟩ := hm
          have hx := Fw_t hx (Fw_m (by decide) (fhyA_setPart e10))
          exact Fw_t hx (ih hm)
      · rw [if_neg q5] at hm
        replace hm := zgd hm
        obtain ⟨b12, hm⟩ := hm
        replace hm := zcP_inv hm
        obtain ⟨S11, v11, e11, hm⟩ := hm
        have hx := Fw_t hx (Fw_m (by decide) (fhyA_hasPart e11))
        by_cases q13 : v11 = 0
        · rw [if_pos q13] at hm
          replace hm := zgd hm
          obtain ⟨b14, hm⟩ := hm
          replace hm := zcP_inv hm
          obtain ⟨S12, v12, e12, hm⟩ := hm
          have hx := Fw_t hx (Fw_m (by decide) (fhyA_hasPart e12))
          by_cases q15 : v12 = 0
          · rw [if_pos q15] at hm
            exact Fw_t hx (ih hm)
          · rw [if_neg q15] at hm
            replace hm := zgd hm
            obtain ⟨b16, hm⟩ := hm
            replace hm := zlb_inv hm
            obtain ⟨o13, eo13, hm⟩ := hm
            replace hm := zob_inv hm
            obtain ⟨a14, rfl, hm⟩ := hm
            replace hm := zgd hm
            obtain ⟨b17, hm⟩ := hm
            replace hm := zgd hm
            obtain ⟨b18, hm⟩ := hm
            replace hm := zlb_inv hm
            obtain ⟨o15, eo15, hm⟩ := hm
            replace hm := zgd hm
            obtain ⟨b19, hm⟩ := hm
            replace hm := zcV_inv hm
            obtain ⟨S16, e16, hm⟩ := hm
            have hx := Fw_t hx (Fw_m (by decide) (fhyA_setPart e16))
            exact Fw_t hx (ih hm)
        · rw [if_neg q13] at hm
          replace hm := zgd hm
          obtain ⟨b20, hm⟩ := hm
          replace hm := zlb_inv hm
          obtain ⟨o17, eo17, hm⟩ := hm
          replace hm := zob_inv hm
          obtain ⟨a18, rfl, hm⟩ := hm
          replace hm := zgd hm
          obtain ⟨b21, hm⟩ := hm
          replace hm := zgd hm
          obtain ⟨b22, hm⟩ := hm
          replace hm := zlb_inv hm
          obtain ⟨o19, eo19, hm⟩ := hm
          replace hm := zgd hm
          obtain ⟨b23, hm⟩ := hm
          replace hm := zlb_inv hm
          obtain ⟨o20, eo20, hm⟩ := hm
          replace hm := zob_inv hm
          obtain ⟨a21, rfl, hm⟩ := hm
          replace hm := zgd hm
          obtain ⟨b24, hm⟩ := hm
          replace hm := zgd hm
          obtain ⟨b25, hm⟩ := hm
          replace hm := zlb_inv hm
          obtain ⟨o22, eo22, hm⟩ := hm
          replace hm := zcV_inv hm
          obtain ⟨S23, e23, hm⟩ := hm
          have hx := Fw_t hx (hrc e23)
          exact Fw_t hx (ih hm)
theorem fhyA_joinParts {rc : hS → Option Nat → Option Nat → Int32 → Option (hS)} (hrc : ∀ {S : hS} {z1 : Option Nat} {z2 : Option Nat} {z3 : Int32} {S' : hS}, rc S z1 z2 z3 = some S' → Fw whyA_joinParts S S') {n : Nat} {S : hS} {p1 : Option Nat} {p2 : Option Nat} {x3 : Int32} {S' : hS} (hm : yA_joinParts rc n S p1 p2 x3 = some S') : Fw whyA_joinParts S S' := by
  unfold yA_joinParts at hm
  have hx : Fw whyA_joinParts S S := Fw_r
  exact Fw_t hx (fhyA_joinParts_2 hrc n hm)
def whyA_join : List (Nat × Nat × Nat) := [(0, 2, 7), (4, 27, 0)]
theorem fhyA_join_12 {rc : hS → Option Nat → Option Nat → Int32 → Option (hS)} (hrc : ∀ {S : hS} {z1 : Option Nat} {z2 : Option Nat} {z3 : Int32} {S' : hS}, rc S z1 z2 z3 = some S' → Fw whyA_join S S') : ∀ (n : Nat) {S : hS} {l2 : Int32} {p3 : Option Nat} {p4 : Option Nat} {S' : hS}, yA_join_12 rc n S l2 p3 p4 = some S' → Fw whyA_join S S' := by
  intro n
  induction n with
  | zero => intro S l2 p3 p4 S'  hm; cases hm
  | succ n ih =>
    intro S l2 p3 p4 S'  hm
    unfold yA_join_12 at hm
    have hx : Fw whyA_join S S := Fw_r
    cases p3 with
    | none =>
      replace hm := zoc_n hm
      cases hm
      exact hx
    | some a1 =>
      replace hm := zoc_s hm
      cases p4 with
      | none =>
        replace hm := zoc_n hm
        cases hm
        exact hx
      | some a2 =>
        replace hm := zoc_s hm
        replace hm := zcV_inv hm
        obtain ⟨S3, e3, hm⟩ := hm
        have hx := Fw_t hx (fhyA_joinParts hrc e3)
        replace hm := zgd hm
        obtain ⟨b1, hm⟩ := hm
        replace hm := zlb_inv hm
        obtain ⟨o4, eo4, hm⟩ := hm
        replace hm := zgd hm
        obtain ⟨b2, hm⟩ := hm
        replace hm := zlb_inv hm
        obtain ⟨o5, eo5, hm⟩ := hm
        exact Fw_t hx (ih hm)
theorem fhyA_join {n : Nat} : ∀ (r : Nat) {S : hS} {p1 : Option Nat} {p2 : Option Nat} {x3 : Int32} {S' : hS}, yA_join n r S p1 p2 x3 = some S' → Fw whyA_join S S' := by
  intro r
  induction r with
  | zero => intro S p1 p2 x3 S'  hm; cases hm
  | succ r ih =>
    intro S p1 p2 x3 S'  hm
    unfold yA_join at hm
    have hx : Fw whyA_join S S := Fw_r
    by_cases q1 : x3 ≤ 64
    · rw [if_pos q1] at hm
      exact Fw_t hx (fhyA_join_12 ih n hm)
    · rw [if_neg q1] at hm
      cases hm
      exact hx
theorem fhyA_join_o {n : Nat} {S : hS} {p1 : Option Nat} {p2 : Option Nat} {x3 : Int32} {S' : hS} (hm : yA_join n 67 S p1 p2 x3 = some S') : Fw whyA_join S S' := fhyA_join 67 hm
def whyC_cutChoice : List (Nat × Nat × Nat) := [(0, 2, 0), (0, 2, 2), (0, 2, 3), (0, 2, 7), (0, 3, 1), (0, 3, 2), (0, 3, 3), (1, 2, 6), (1, 2, 8), (1, 8, 0), (1, 8, 1), (2, 2, 0), (4, 27, 0)]
theorem fhyC_cutChoice_102 {th : Nat} : ∀ (n : Nat) {S : hS} {p1 : Option Nat} {p2 : Option Nat} {p3 : Option Nat} {p4 : Option Nat} {l5 : Int32} {l7 : Int32} {S' : hS}, yC_cutChoice_102 th n S p1 p2 p3 p4 l5 l7 = some S' → Fw whyC_cutChoice S S' := by
  intro n
  induction n with
  | zero => intro S p1 p2 p3 p4 l5 l7 S'  hm; cases hm
  | succ n ih =>
    intro S p1 p2 p3 p4 l5 l7 S'  hm
    unfold yC_cutChoice_102 at hm
    have hx : Fw whyC_cutChoice S S := Fw_r
    by_cases q1 : 6 ≤ l7
    · rw [if_pos q1] at hm
      cases hm
      exact hx
    · rw [if_neg q1] at hm
      replace hm := zob_inv hm
      obtain ⟨a1, rfl, hm⟩ := hm
      replace hm := zgd hm
      obtain ⟨b2, hm⟩ := hm
      by_cases q3 : l7 = zI S 2 a1
      · rw [if_pos q3] at hm
        exact Fw_t hx (ih hm)
      · rw [if_neg q3] at hm
        by_cases q4 : y_contains l5 l7 = 0
        · rw [if_pos q4] at hm
          replace hm := zob_inv hm
          obtain ⟨a2, rfl, hm⟩ := hm
          replace hm := zgd hm
          obtain ⟨b5, hm⟩ := hm
          replace hm := zgd hm
          obtain ⟨b6, hm⟩ := hm
          replace hm := zlb_inv hm
          obtain ⟨o3, eo3, hm⟩ := hm
          replace hm := zob_inv hm
          obtain ⟨a4, rfl, hm⟩ := hm
          replace hm := zgd hm
          obtain ⟨b7, hm⟩ := hm
          replace hm := zlb_inv hm
          obtain ⟨o5, eo5, hm⟩ := hm
          replace hm := zob_inv hm
          obtain ⟨a6, rfl, hm⟩ := hm
          replace hm := zgd hm
          obtain ⟨b8, hm⟩ := hm
          replace hm := zgd hm
          obtain ⟨b9, hm⟩ := hm
          replace hm := zlb_inv hm
          obtain ⟨o7, eo7, hm⟩ := hm
          replace hm := zob_inv hm
          obtain ⟨a8, rfl, hm⟩ := hm
          replace hm := zgd hm
          obtain ⟨b10, hm⟩ := hm
          replace hm := zlb_inv hm
          obtain ⟨o9, eo9, hm⟩ := hm
          replace hm := zcV_inv hm
          obtain ⟨S10, e10, hm⟩ := hm
          have hx := Fw_t hx (Fw_m (by decide) (fhyA_join_o e10))
          replace hm := zob_inv hm
          obtain ⟨a11, rfl, hm⟩ := hm
          replace hm := zgd hm
          obtain ⟨b11, hm⟩ := hm
          replace hm := zgd hm
          obtain ⟨b12, hm⟩ := hm
          replace hm := zlb_inv hm
          obtain ⟨o12, eo12, hm⟩ := hm
          replace hm := zgd hm
          obtain ⟨b13, hm⟩ := hm
          replace hm := zgd hm
          obtain ⟨b14, hm⟩ := hm
          replace hm := zlb_inv hm
          obtain ⟨o13, eo13, hm⟩ := hm
          replace hm := zob_inv hm
          obtain ⟨a14, rfl, hm⟩ := hm
          replace hm := zgd hm
          obtain ⟨b15, hm⟩ := hm
          replace hm := zlb_inv hm
          obtain ⟨o15, eo15, hm⟩ := hm
          replace hm := zob_inv hm
          obtain ⟨a16, rfl, hm⟩ := hm
          replace hm := zgd hm
          obtain ⟨b16, hm⟩ := hm
          replace hm := zcV_inv hm
          obtain ⟨S17, e17, hm⟩ := hm
          have hx := Fw_t hx (Fw_m (by decide) (fhyW_append e17))
          exact Fw_t hx (ih hm)
        · rw [if_neg q4] at hm
          replace hm := zob_inv hm
          obtain ⟨a18, rfl, hm⟩ := hm
          replace hm := zgd hm
          obtain ⟨b17, hm⟩ := hm
          replace hm := zgd hm
          obtain ⟨b18, hm⟩ := hm
          replace hm := zlb_inv hm
          obtain ⟨o19, eo19, hm⟩ := hm
          replace hm := zob_inv hm
          obtain ⟨a20, rfl, hm⟩ := hm
          replace hm := zgd hm
          obtain ⟨b19, hm⟩ := hm
          replace hm := zgd hm
          obtain ⟨b20, hm⟩ := hm
          replace hm := zlb_inv hm
          obtain ⟨o21, eo21, hm⟩ := hm
          replace hm := zob_inv hm
          obtain ⟨a22, rfl, hm⟩ := hm
          replace hm := zgd hm
          obtain ⟨b21, hm⟩ := hm
          replace hm := zlb_inv hm
          obtain ⟨o23, eo23, hm⟩ := hm
          replace hm := zob_inv hm
          obtain ⟨a24, rfl, hm⟩ := hm
          replace hm := zgd hm
          obtain ⟨b22, hm⟩ := hm
          replace hm := zgd hm
          obtain ⟨b23, hm⟩ := hm
          replace hm := zlb_inv hm
          obtain ⟨o25, eo25, hm⟩ := hm
          replace hm := zob_inv hm
          obtain ⟨a26, rfl, hm⟩ := hm
          replace hm := zgd hm
          obtain ⟨b24, hm⟩ := hm
          replace hm := zlb_inv hm
          obtain ⟨o27, eo27, hm⟩ := hm
          replace hm := zcP_inv hm
          obtain ⟨S28, o28, e28, hm⟩ := hm
          have hx := Fw_t hx (Fw_m (by decide) (fhyC_toldPart e28))
          replace hm := zob_inv hm
          obtain ⟨a29, rfl, hm⟩ := hm
          replace hm := zgd hm
          obtain ⟨b25, hm⟩ := hm
          replace hm := zcV_inv hm
          obtain ⟨S30, e30, hm⟩ := hm
          have hx := Fw_t hx (Fw_m (by decide) (fhyW_append e30))
          exact Fw_t hx (ih hm)
theorem fhyC_cutChoice_25 {th : Nat} {n : Nat} {S : hS} {p1 : Option Nat} {p2 : Option Nat} {p3 : Option Nat} {p4 : Option Nat} {l5 : Int32} {S' : hS} (hm : yC_cutChoice_25 th n S p1 p2 p3 p4 l5 = some S') : Fw whyC_cutChoice S S' := by
  unfold yC_cutChoice_25 at hm
  have hx : Fw whyC_cutChoice S S := Fw_r
  replace hm := znw_inv hm
  obtain ⟨S1, a1, eS1, ea1, hm⟩ := hm
  have hx := Fw_n (by decide) hx eS1
  replace hm := zcV_inv hm
  obtain ⟨S2, e2, hm⟩ := hm
  have hx := Fw_t hx (Fw_m (by decide) (fhyA_new e2))
  replace hm := zob_inv hm
  obtain ⟨a3, rfl, hm⟩ := hm
  replace hm := zgd hm
  obtain ⟨b1, hm⟩ := hm
  replace hm := zgd hm
  obtain ⟨b2, hm⟩ := hm
  have hx := Fw_L (v := zL S2 a3) hx b2 (by decide)
  replace hm := zob_inv hm
  obtain ⟨a4, rfl, hm⟩ := hm
  replace hm := zgd hm
  obtain ⟨b3, hm⟩ := hm
  replace hm := zgd hm
  obtain ⟨b4, hm⟩ := hm
  replace hm := zlb_inv hm
  obtain ⟨o5, eo5, hm⟩ := hm
  replace hm := zob_inv hm
  obtain ⟨a6, rfl, hm⟩ := hm
  replace hm := zgd hm
  obtain ⟨b5, hm⟩ := hm
  replace hm := zlb_inv hm
  obtain ⟨o7, eo7, hm⟩ := hm
  replace hm := zcP_inv hm
  obtain ⟨S8, o8, e8, hm⟩ := hm
  have hx := Fw_t hx (Fw_m (by decide) (fhyC_withTells e8))
  replace hm := zgd hm
  obtain ⟨b6, hm⟩ := hm
  replace hm := zcV_inv hm
  obtain ⟨S9, e9, hm⟩ := hm
  have hx := Fw_t hx (Fw_m (by decide) (fhyA_setPart e9))
  replace hm := zgd hm
  obtain ⟨b7, hm⟩ := hm
  replace hm := zob_inv hm
  obtain ⟨a10, rfl, hm⟩ := hm
  replace hm := zgd hm
  obtain ⟨b8, hm⟩ := hm
  replace hm := zgd hm
  obtain ⟨b9, hm⟩ := hm
  replace hm := zlb_inv hm
  obtain ⟨o11, eo11, hm⟩ := hm
  replace hm := zob_inv hm
  obtain ⟨a12, rfl, hm⟩ := hm
  replace hm := zgd hm
  obtain ⟨b10, hm⟩ := hm
  replace hm := zlb_inv hm
  obtain ⟨o13, eo13, hm⟩ := hm
  replace hm := zcP_inv hm
  obtain ⟨S14, o14, e14, hm⟩ := hm
  have hx := Fw_t hx (Fw_m (by decide) (fhyC_withTells e14))
  replace hm := zgd hm
  obtain ⟨b11, hm⟩ := hm
  replace hm := zcV_inv hm
  obtain ⟨S15, e15, hm⟩ := hm
  have hx := Fw_t hx (Fw_m (by decide) (fhyA_setPart e15))
  replace hm := zgd hm
  obtain ⟨b12, hm⟩ := hm
  replace hm := zob_inv hm
  obtain ⟨a16, rfl, hm⟩ := hm
  replace hm := zgd hm
  obtain ⟨b13, hm⟩ := hm
  replace hm := zgd hm
  obtain ⟨b14, hm⟩ := hm
  replace hm := zlb_inv hm
  obtain ⟨o17, eo17, hm⟩ := hm
  replace hm := zob_inv hm
  obtain ⟨a18, rfl, hm⟩ := hm
  replace hm := zgd hm
  obtain ⟨b15, hm⟩ := hm
  replace hm := zcV_inv hm
  obtain ⟨S19, e19, hm⟩ := hm
  have hx := Fw_t hx (Fw_m (by decide) (fhyW_append e19))
  exact Fw_t hx (fhyC_cutChoice_102  n hm)
theorem fhyC_cutChoice {th : Nat} {n : Nat} {S : hS} {p1 : Option Nat} {p2 : Option Nat} {p3 : Option Nat} {p4 : Option Nat} {S' : hS} (hm : yC_cutChoice n S th p1 p2 p3 p4 = some S') : Fw whyC_cutChoice S S' := by
  unfold yC_cutChoice at hm
  have hx : Fw whyC_cutChoice S S := Fw_r
  replace hm := zcP_inv hm
  obtain ⟨S1, v1, e1, hm⟩ := hm
  have hx := Fw_t hx (Fw_m (by decide) (fhyC_unawareAt e1))
  by_cases q1 : v1 = 0
  · rw [if_pos q1] at hm
    exact Fw_t hx (fhyC_cutChoice_25  hm)
  · rw [if_neg q1] at hm
    replace hm := zgd hm
    obtain ⟨b2, hm⟩ := hm
    replace hm := zcP_inv hm
    obtain ⟨S2, v2, e2, hm⟩ := hm
    have hx := Fw_t hx (Fw_m (by decide) (fhyC_mayPutIn e2))
    by_cases q3 : v2 = 0
    · rw [if_pos q3] at hm
      cases hm
      exact hx
    · rw [if_neg q3] at hm
      exact Fw_t hx (fhyC_cutChoice_25  hm)
def whyC_cutStatement : List (Nat × Nat × Nat) := [(0, 2, 0), (0, 2, 1), (0, 2, 2), (0, 2, 3), (0, 2, 4), (0, 2, 7), (0, 3, 1), (0, 3, 2), (0, 3, 3), (0, 8, 3), (1, 2, 6), (1, 2, 8), (1, 8, 0), (1, 8, 1), (1, 8, 2), (2, 2, 0), (4, 26, 0), (4, 27, 0)]
theorem fhyC_cutStatement {th : Nat} {rc : hS → Nat → Option Nat → Int32 → Option (hS × Option Nat)} (hrc : ∀ {S : hS} {th : Nat} {z1 : Option Nat} {z2 : Int32} {S' : hS} {r : Option Nat}, rc S th z1 z2 = some (S', r) → Fw whyC_cutStatement S S') {n : Nat} {S : hS} {p1 : Option Nat} {p2 : Option Nat} {x3 : Int32} {S' : hS} (hm : yC_cutStatement rc n S th p1 p2 x3 = some S') : Fw whyC_cutStatement S S' := by
  unfold yC_cutStatement at hm
  have hx : Fw whyC_cutStatement S S := Fw_r
  replace hm := zob_inv hm
  obtain ⟨a1, rfl, hm⟩ := hm
  replace hm := zgd hm
  obtain ⟨b1, hm⟩ := hm
  by_cases q2 : zI S 1 a1 = 1
  · rw [if_pos q2] at hm
    replace hm := zcV_inv hm
    obtain ⟨S2, e2, hm⟩ := hm
    have hx := Fw_t hx (Fw_m (by decide) (fhyC_cutSet e2))
    cases hm
    exact hx
  · rw [if_neg q2] at hm
    by_cases q3 : zI S 1 a1 = 2
    · rw [if_pos q3] at hm
      replace hm := zcV_inv hm
      obtain ⟨S3, e3, hm⟩ := hm
      have hx := Fw_t hx (Fw_m (by decide) (fhyC_cutSend e3))
      cases hm
      exact hx
    · rw [if_neg q3] at hm
      by_cases q4 : zI S 1 a1 = 4
      · rw [if_pos q4] at hm
        replace hm := zob_inv hm
        obtain ⟨a4, rfl, hm⟩ := hm
        replace hm := zgd hm
        obtain ⟨b5, hm⟩ := hm
        replace hm := zgd hm
        obtain ⟨b6, hm⟩ := hm
        replace hm := zlb_inv hm
        obtain ⟨o5, eo5, hm⟩ := hm
        replace hm := zcP_inv hm
        obtain ⟨S6, o6, e6, hm⟩ := hm
        have hx := Fw_t hx (Fw_m (by decide) (fhyA_tell e6))
        replace hm := zob_inv hm
        obtain ⟨a7, rfl, hm⟩ := hm
        replace hm := zgd hm
        obtain ⟨b7, hm⟩ := hm
        replace hm := zcV_inv hm
        obtain ⟨S8, e8, hm⟩ := hm
        have hx := Fw_t hx (Fw_m (by decide) (fhyW_append e8))
        replace hm := zgd hm
        obtain ⟨b8, hm⟩ := hm
        replace hm := zgd hm
        obtain ⟨b9, hm⟩ := hm
        replace hm := zgd hm
        obtain ⟨b10, hm⟩ := hm
        replace hm := zlb_inv hm
        obtain ⟨o9, eo9, hm⟩ := hm
        replace hm := zob_inv hm
        obtain ⟨a10, rfl, hm⟩ := hm
        replace hm := zgd hm
        obtain ⟨b11, hm⟩ := hm
        replace hm := zcV_inv hm
        obtain ⟨S11, e11, hm⟩ := hm
        have hx := Fw_t hx (Fw_m (by decide) (fhyW_appendHear e11))
        cases hm
        exact hx
      · rw [if_neg q4] at hm
        by_cases q12 : zI S 1 a1 = 7
        · rw [if_pos q12] at hm
          replace hm := zlb_inv hm
          obtain ⟨o12, eo12, hm⟩ := hm
          replace hm := zgd hm
          obtain ⟨b13, hm⟩ := hm
          replace hm := zcP_inv hm
          obtain ⟨S13, o13, e13, hm⟩ := hm
          have hx := Fw_t hx (hrc e13)
          replace hm := zcV_inv hm
          obtain ⟨S14, e14, hm⟩ := hm
          have hx := Fw_t hx (Fw_m (by decide) (fhyC_cutRound e14))
          cases hm
          exact hx
        · rw [if_neg q12] at hm
          replace hm := zlb_inv hm
          obtain ⟨o15, eo15, hm⟩ := hm
          replace hm := zgd hm
          obtain ⟨b14, hm⟩ := hm
          replace hm := zcP_inv hm
          obtain ⟨S16, o16, e16, hm⟩ := hm
          have hx := Fw_t hx (hrc e16)
          replace hm := zgd hm
          obtain ⟨b15, hm⟩ := hm
          replace hm := zlb_inv hm
          obtain ⟨o17, eo17, hm⟩ := hm
          replace hm := zgd hm
          obtain ⟨b16, hm⟩ := hm
          replace hm := zcP_inv hm
          obtain ⟨S18, o18, e18, hm⟩ := hm
          have hx := Fw_t hx (hrc e18)
          replace hm := zgd hm
          obtain ⟨b17, hm⟩ := hm
          by_cases q18 : zI S18 2 th = (-1)
          · rw [if_pos q18] at hm
            replace hm := zcV_inv hm
            obtain ⟨S19, e19, hm⟩ := hm
            have hx := Fw_t hx (Fw_m (by decide) (fhyC_cutChoice e19))
            cases hm
            exact hx
          · rw [if_neg q18] at hm
            cases hm
            exact hx
def whyC_cutRow : List (Nat × Nat × Nat) := [(0, 2, 0), (0, 2, 1), (0, 2, 2), (0, 2, 3), (0, 2, 4), (0, 2, 7), (0, 3, 1), (0, 3, 2), (0, 3, 3), (0, 8, 3), (1, 2, 6), (1, 2, 8), (1, 8, 0), (1, 8, 1), (1, 8, 2), (2, 2, 0), (4, 26, 0), (4, 27, 0)]
theorem fhyC_cutRow_44 {th : Nat} {rc : hS → Nat → Option Nat → Int32 → Option (hS × Option Nat)} (hrc : ∀ {S : hS} {th : Nat} {z1 : Option Nat} {z2 : Int32} {S' : hS} {r : Option Nat}, rc S th z1 z2 = some (S', r) → Fw whyC_cutRow S S') : ∀ (n : Nat) {S : hS} {l2 : Int32} {p3 : Option Nat} {p4 : Option Nat} {S' : hS} {r : Option Nat}, yC_cutRow_44 th rc n S l2 p3 p4 = some (S', r) → Fw whyC_cutRow S S' := by
  intro n
  induction n with
  | zero => intro S l2 p3 p4 S' r hm; cases hm
  | succ n ih =>
    intro S l2 p3 p4 S' r hm
    unfold yC_cutRow_44 at hm
    have hx : Fw whyC_cutRow S S := Fw_r
    cases p4 with
    | none =>
      replace hm := zoc_n hm
      cases hm
      exact hx
    | some a1 =>
      replace hm := zoc_s hm
      replace hm := zgd hm
      obtain ⟨b1, hm⟩ := hm
      by_cases q2 : zI S 2 th = (-1)
      · rw [if_pos q2] at hm
        replace hm := zcV_inv hm
        obtain ⟨S2, e2, hm⟩ := hm
        have hx := Fw_t hx (fhyC_cutStatement hrc e2)
        replace hm := zgd hm
        obtain ⟨b3, hm⟩ := hm
        replace hm := zlb_inv hm
        obtain ⟨o3, eo3, hm⟩ := hm
        exact Fw_t hx (ih hm)
      · rw [if_neg q2] at hm
        cases hm
        exact hx
theorem fhyC_cutRow_9 {th : Nat} {rc : hS → Nat → Option Nat → Int32 → Option (hS × Option Nat)} (hrc : ∀ {S : hS} {th : Nat} {z1 : Option Nat} {z2 : Int32} {S' : hS} {r : Option Nat}, rc S th z1 z2 = some (S', r) → Fw whyC_cutRow S S') : ∀ (n : Nat) {S : hS} {p1 : Option Nat} {l2 : Int32} {p3 : Option Nat} {l4 : Int32} {S' : hS} {r : Option Nat}, yC_cutRow_9 th rc n S p1 l2 p3 l4 = some (S', r) → Fw whyC_cutRow S S' := by
  intro n
  induction n with
  | zero => intro S p1 l2 p3 l4 S' r hm; cases hm
  | succ n ih =>
    intro S p1 l2 p3 l4 S' r hm
    unfold yC_cutRow_9 at hm
    have hx : Fw whyC_cutRow S S := Fw_r
    by_cases q1 : 6 ≤ l4
    · rw [if_pos q1] at hm
      by_cases q2 : l2 ≤ 6
      · rw [if_pos q2] at hm
        exact Fw_t hx (fhyC_cutRow_44 hrc n hm)
      · rw [if_neg q2] at hm
        cases hm
        exact hx
    · rw [if_neg q1] at hm
      replace hm := znw_inv hm
      obtain ⟨S1, a1, eS1, ea1, hm⟩ := hm
      have hx := Fw_n (by decide) hx eS1
      replace hm := zcV_inv hm
      obtain ⟨S2, e2, hm⟩ := hm
      have hx := Fw_t hx (Fw_m (by decide) (fhyW_new e2))
      replace hm := zob_inv hm
      obtain ⟨a3, rfl, hm⟩ := hm
      replace hm := zgd hm
      obtain ⟨b3, hm⟩ := hm
      replace hm := zgd hm
      obtain ⟨b4, hm⟩ := hm
      replace hm := zgd hm
      obtain ⟨b5, hm⟩ := hm
      have hx := Fw_AR (g := va_up (zAR S2 a3) (Int32.toNatClampNeg l4) (some a1)) hx b3 (by decide)
      exact Fw_t hx (ih hm)
theorem fhyC_cutRow {n : Nat} : ∀ (r : Nat) {S : hS} {th : Nat} {p1 : Option Nat} {x2 : Int32} {S' : hS} {r_ : Option Nat}, yC_cutRow n r S th p1 x2 = some (S', r_) → Fw whyC_cutRow S S' := by
  intro r
  induction r with
  | zero => intro S th p1 x2 S' r_ hm; cases hm
  | succ r ih =>
    intro S th p1 x2 S' r_ hm
    unfold yC_cutRow at hm
    have hx : Fw whyC_cutRow S S := Fw_r
    replace hm := zna_inv hm
    obtain ⟨S1, a1, eS1, ea1, hm⟩ := hm
    have hx := Fw_a (by decide) hx eS1
    exact Fw_t hx (fhyC_cutRow_9 ih n hm)
theorem fhyC_cutRow_o {n : Nat} {S : hS} {th : Nat} {p1 : Option Nat} {x2 : Int32} {S' : hS} {r_ : Option Nat} (hm : yC_cutRow n 9 S th p1 x2 = some (S', r_)) : Fw whyC_cutRow S S' := fhyC_cutRow 9 hm
def whyS_settle : List (Nat × Nat × Nat) := [(1, 10, 10)]
theorem fhyS_settle_9 {rc : hS → Option Nat → Option Nat → Int32 → Option (hS)} (hrc : ∀ {S : hS} {z1 : Option Nat} {z2 : Option Nat} {z3 : Int32} {S' : hS}, rc S z1 z2 z3 = some S' → Fw whyS_settle S S') : ∀ (n : Nat) {S : hS} {p1 : Option Nat} {l2 : Int32} {p3 : Option Nat} {S' : hS}, yS_settle_9 rc n S p1 l2 p3 = some S' → Fw whyS_settle S S' := by
  intro n
  induction n with
  | zero => intro S p1 l2 p3 S'  hm; cases hm
  | succ n ih =>
    intro S p1 l2 p3 S'  hm
    unfold yS_settle_9 at hm
    have hx : Fw whyS_settle S S := Fw_r
    cases p3 with
    | none =>
      replace hm := zoc_n hm
      cases hm
      exact hx
    | some a1 =>
      replace hm := zoc_s hm
      replace hm := zgd hm
      obtain ⟨b1, hm⟩ := hm
      replace hm := zlb_inv hm
      obtain ⟨o2, eo2, hm⟩ := hm
      cases o2 with
      | none =>
        replace hm := zoc_n hm
        have hx := Fw_R (k := 10) (v := p1) hx b1 (by decide)
        replace hm := zlb_inv hm
        obtain ⟨o4, eo4, hm⟩ := hm
        by_cases q2 : zI S 1 a1 = 7
        · rw [if_pos q2] at hm
          replace hm := zcV_inv hm
          obtain ⟨S5, e5, hm⟩ := hm
          have hx := Fw_t hx (hrc e5)
          replace hm := zgd hm
          obtain ⟨b3, hm⟩ := hm
          replace hm := zlb_inv hm
          obtain ⟨o6, eo6, hm⟩ := hm
          replace hm := zlb_inv hm
          obtain ⟨o7, eo7, hm⟩ := hm
          replace hm := zcV_inv hm
          obtain ⟨S8, e8, hm⟩ := hm
          have hx := Fw_t hx (hrc e8)
          replace hm := zgd hm
          obtain ⟨b4, hm⟩ := hm
          replace hm := zlb_inv hm
          obtain ⟨o9, eo9, hm⟩ := hm
          exact Fw_t hx (ih hm)
        · rw [if_neg q2] at hm
          replace hm := zcV_inv hm
          obtain ⟨S10, e10, hm⟩ := hm
          have hx := Fw_t hx (hrc e10)
          replace hm := zgd hm
          obtain ⟨b5, hm⟩ := hm
          replace hm := zlb_inv hm
          obtain ⟨o11, eo11, hm⟩ := hm
          replace hm := zlb_inv hm
          obtain ⟨o12, eo12, hm⟩ := hm
          replace hm := zcV_inv hm
          obtain ⟨S13, e13, hm⟩ := hm
          have hx := Fw_t hx (hrc e13)
          replace hm := zgd hm
          obtain ⟨b6, hm⟩ := hm
          replace hm := zlb_inv hm
          obtain ⟨o14, eo14, hm⟩ := hm
          exact Fw_t hx (ih hm)
      | some a3 =>
        replace hm := zoc_s hm
        replace hm := zlb_inv hm
        obtain ⟨o15, eo15, hm⟩ := hm
        have hx := Fw_R (k := 10) (v := o15) hx b1 (by decide)
        replace hm := zlb_inv hm
        obtain ⟨o16, eo16, hm⟩ := hm
        by_cases q7 : zI S 1 a1 = 7
        · rw [if_pos q7] at hm
          replace hm := zcV_inv hm
          obtain ⟨S17, e17, hm⟩ := hm
          have hx := Fw_t hx (hrc e17)
          replace hm := zgd hm
          obtain ⟨b8, hm⟩ := hm
          replace hm := zlb_inv hm
          obtain ⟨o18, eo18, hm⟩ := hm
          replace hm := zlb_inv hm
          obtain ⟨o19, eo19, hm⟩ := hm
          replace hm := zcV_inv hm
          obtain ⟨S20, e20, hm⟩ := hm
          have hx := Fw_t hx (hrc e20)
          replace hm := zgd hm
          obtain ⟨b9, hm⟩ := hm
          replace hm := zlb_inv hm
          obtain ⟨o21, eo21, hm⟩ := hm
          exact Fw_t hx (ih hm)
        · rw [if_neg q7] at hm
          replace hm := zcV_inv hm
          obtain ⟨S22, e22, hm⟩ := hm
          have hx := Fw_t hx (hrc e22)
          replace hm := zgd hm
          obtain ⟨b10, hm⟩ := hm
          replace hm := zlb_inv hm
          obtain ⟨o23, eo23, hm⟩ := hm
          replace hm := zlb_inv hm
          obtain ⟨o24, eo24, hm⟩ := hm
          replace hm := zcV_inv hm
          obtain ⟨S25, e25, hm⟩ := hm
          have hx := Fw_t hx (hrc e25)
          replace hm := zgd hm
          obtain ⟨b11, hm⟩ := hm
          replace hm := zlb_inv hm
          obtain ⟨o26, eo26, hm⟩ := hm
          exact Fw_t hx (ih hm)
theorem fhyS_settle {n : Nat} : ∀ (r : Nat) {S : hS} {p1 : Option Nat} {p2 : Option Nat} {x3 : Int32} {S' : hS}, yS_settle n r S p1 p2 x3 = some S' → Fw whyS_settle S S' := by
  intro r
  induction r with
  | zero => intro S p1 p2 x3 S'  hm; cases hm
  | succ r ih =>
    intro S p1 p2 x3 S'  hm
    unfold yS_settle at hm
    have hx : Fw whyS_settle S S := Fw_r
    by_cases q1 : x3 ≤ 6
    · rw [if_pos q1] at hm
      exact Fw_t hx (fhyS_settle_9 ih n hm)
    · rw [if_neg q1] at hm
      cases hm
      exact hx
theorem fhyS_settle_o {n : Nat} {S : hS} {p1 : Option Nat} {p2 : Option Nat} {x3 : Int32} {S' : hS} (hm : yS_settle n 9 S p1 p2 x3 = some S') : Fw whyS_settle S S' := fhyS_settle 9 hm
def whyA_comesAgain : List (Nat × Nat × Nat) := []
theorem fhyA_comesAgain {th : Nat} {S : hS} {S' : hS} {r : Int32} (hm : yA_comesAgain S th = some (S', r)) : Fw whyA_comesAgain S S' := by
  unfold yA_comesAgain at hm
  have hx : Fw whyA_comesAgain S S := Fw_r
  replace hm := zgd hm
  obtain ⟨b1, hm⟩ := hm
  by_cases q2 : zI S 0 th = 7
  · rw [if_pos q2] at hm
    cases hm
    exact hx
  · rw [if_neg q2] at hm
    by_cases q3 : zI S 0 th = 8
    · rw [if_pos q3] at hm
      cases hm
      exact hx
    · rw [if_neg q3] at hm
      cases hm
      exact hx
def whyA_settle : List (Nat × Nat × Nat) := [(1, 2, 9)]
theorem fhyA_settle_35 {rc : hS → Option Nat → Option Nat → Int32 → Option (hS)} {rec9 : hS → Option Nat → Int32 → Option Nat → Option (hS)} (hrc : ∀ {S : hS} {z1 : Option Nat} {z2 : Option Nat} {z3 : Int32} {S' : hS}, rc S z1 z2 z3 = some S' → Fw whyA_settle S S') (hr9 : ∀ {J : hS} {m1 : Option Nat} {m2 : Int32} {m3 : Option Nat} {J' : hS}, rec9 J m1 m2 m3 = some J' → Fw whyA_settle J J') : ∀ (n : Nat) {S : hS} {p1 : Option Nat} {l2 : Int32} {p3 : Option Nat} {l4 : Int32} {S' : hS}, yA_settle_35 rc rec9 n S p1 l2 p3 l4 = some S' → Fw whyA_settle S S' := by
  intro n
  induction n with
  | zero => intro S p1 l2 p3 l4 S'  hm; cases hm
  | succ n ih =>
    intro S p1 l2 p3 l4 S'  hm
    unfold yA_settle_35 at hm
    have hx : Fw whyA_settle S S := Fw_r
    replace hm := zob_inv hm
    obtain ⟨a1, rfl, hm⟩ := hm
    replace hm := zgd hm
    obtain ⟨b1, hm⟩ := hm
    replace hm := zlb_inv hm
    obtain ⟨o2, eo2, hm⟩ := hm
    replace hm := zob_inv hm
    obtain ⟨a3, rfl, hm⟩ := hm
    replace hm := zgd hm
    obtain ⟨b2, hm⟩ := hm
    by_cases q3 : Int32.ofNat (zLen S a3) ≤ l4
    · rw [if_pos q3] at hm
      replace hm := zlb_inv hm
      obtain ⟨o4, eo4, hm⟩ := hm
      exact Fw_t hx (hr9 hm)
    · rw [if_neg q3] at hm
      replace hm := zlb_inv hm
      obtain ⟨o5, eo5, hm⟩ := hm
      replace hm := zob_inv hm
      obtain ⟨a6, rfl, hm⟩ := hm
      replace hm := zgd hm
      obtain ⟨b4, hm⟩ := hm
      replace hm := zgd hm
      obtain ⟨b5, hm⟩ := hm
      replace hm := zlb_inv hm
      obtain ⟨o7, eo7, hm⟩ := hm
      replace hm := zcP_inv hm
      obtain ⟨S8, v8, e8, hm⟩ := hm
      have hx := Fw_t hx (Fw_m (by decide) (fhyA_comesAgain e8))
      by_cases q6 : v8 = 0
      · rw [if_pos q6] at hm
        replace hm := zgd hm
        obtain ⟨b7, hm⟩ := hm
        replace hm := zlb_inv hm
        obtain ⟨o9, eo9, hm⟩ := hm
        replace hm := zcV_inv hm
        obtain ⟨S10, e10, hm⟩ := hm
        have hx := Fw_t hx (hrc e10)
        exact Fw_t hx (ih hm)
      · rw [if_neg q6] at hm
        replace hm := zcV_inv hm
        obtain ⟨S11, e11, hm⟩ := hm
        have hx := Fw_t hx (hrc e11)
        exact Fw_t hx (ih hm)
theorem fhyA_settle_9 {rc : hS → Option Nat → Option Nat → Int32 → Option (hS)} (hrc : ∀ {S : hS} {z1 : Option Nat} {z2 : Option Nat} {z3 : Int32} {S' : hS}, rc S z1 z2 z3 = some S' → Fw whyA_settle S S') : ∀ (n : Nat) {S : hS} {p1 : Option Nat} {l2 : Int32} {p3 : Option Nat} {S' : hS}, yA_settle_9 rc n S p1 l2 p3 = some S' → Fw whyA_settle S S' := by
  intro n
  induction n with
  | zero => intro S p1 l2 p3 S'  hm; cases hm
  | succ n ih =>
    intro S p1 l2 p3 S'  hm
    unfold yA_settle_9 at hm
    have hx : Fw whyA_settle S S := Fw_r
    cases p3 with
    | none =>
      replace hm := zoc_n hm
      cases hm
      exact hx
    | some a1 =>
      replace hm := zoc_s hm
      replace hm := zgd hm
      obtain ⟨b1, hm⟩ := hm
      replace hm := zlb_inv hm
      obtain ⟨o2, eo2, hm⟩ := hm
      cases o2 with
      | none =>
        replace hm := zoc_n hm
        have hx := Fw_R (k := 9) (v := p1) hx b1 (by decide)
        exact Fw_t hx (fhyA_settle_35 hrc (fun z => ih z) n hm)
      | some a3 =>
        replace hm := zoc_s hm
        replace hm := zlb_inv hm
        obtain ⟨o4, eo4, hm⟩ := hm
        have hx := Fw_R (k := 9) (v := o4) hx b1 (by decide)
        exact Fw_t hx (fhyA_settle_35 hrc (fun z => ih z) n hm)
theorem fhyA_settle {n : Nat} : ∀ (r : Nat) {S : hS} {p1 : Option Nat} {p2 : Option Nat} {x3 : Int32} {S' : hS}, yA_settle n r S p1 p2 x3 = some S' → Fw whyA_settle S S' := by
  intro r
  induction r with
  | zero => intro S p1 p2 x3 S'  hm; cases hm
  | succ r ih =>
    intro S p1 p2 x3 S'  hm
    unfold yA_settle at hm
    have hx : Fw whyA_settle S S := Fw_r
    by_cases q1 : x3 ≤ 64
    · rw [if_pos q1] at hm
      exact Fw_t hx (fhyA_settle_9 ih n hm)
    · rw [if_neg q1] at hm
      cases hm
      exact hx
theorem fhyA_settle_o {n : Nat} {S : hS} {p1 : Option Nat} {p2 : Option Nat} {x3 : Int32} {S' : hS} (hm : yA_settle n 67 S p1 p2 x3 = some S') : Fw whyA_settle S S' := fhyA_settle 67 hm
def whyX_put : List (Nat × Nat × Nat) := [(0, 4, 1), (3, 21, 0)]
theorem fhyX_put {th : Nat} {S : hS} {x1 : Int32} {x2 : Int32} {S' : hS} (hm : yX_put S th x1 x2 = some S') : Fw whyX_put S S' := by
  unfold yX_put at hm
  have hx : Fw whyX_put S S := Fw_r
  replace hm := zgd hm
  obtain ⟨b1, hm⟩ := hm
  replace hm := zlb_inv hm
  obtain ⟨o1, eo1, hm⟩ := hm
  replace hm := zob_inv hm
  obtain ⟨a2, rfl, hm⟩ := hm
  replace hm := zgd hm
  obtain ⟨b2, hm⟩ := hm
  by_cases q3 : Int32.ofNat (zLen S a2) ≤ zI S 1 th
  · rw [if_pos q3] at hm
    cases hm
    exact hx
  · rw [if_neg q3] at hm
    replace hm := zlb_inv hm
    obtain ⟨o3, eo3, hm⟩ := hm
    replace hm := zob_inv hm
    obtain ⟨a4, rfl, hm⟩ := hm
    replace hm := zgd hm
    obtain ⟨b4, hm⟩ := hm
    replace hm := zgd hm
    obtain ⟨b5, hm⟩ := hm
    have hx := Fw_AI (g := upd (zAI S a4) (Int32.toNatClampNeg (zI S 1 th)) (vp_nar .char (i_ch (x1 + x2)))) hx b4 (by decide)
    have hx := Fw_I (k := 1) (v := (zI S 1 th) + 1) hx b1 (by decide)
    cases hm
    exact hx
def whyX_putExpression : List (Nat × Nat × Nat) := [(0, 4, 1), (3, 21, 0)]
theorem fhyX_putExpression_2 {th : Nat} : ∀ (n : Nat) {S : hS} {l1 : Int64} {l3 : Int32} {S' : hS}, yX_putExpression_2 th n S l1 l3 = some S' → Fw whyX_putExpression S S' := by
  intro n
  induction n with
  | zero => intro S l1 l3 S'  hm; cases hm
  | succ n ih =>
    intro S l1 l3 S'  hm
    unfold yX_putExpression_2 at hm
    have hx : Fw whyX_putExpression S S := Fw_r
    by_cases q1 : 8 ≤ l3
    · rw [if_pos q1] at hm
      cases hm
      exact hx
    · rw [if_neg q1] at hm
      by_cases q2 : by_c l1 l3 = 0
      · rw [if_pos q2] at hm
        cases hm
        exact hx
      · rw [if_neg q2] at hm
        replace hm := zgd hm
        obtain ⟨b3, hm⟩ := hm
        replace hm := zcV_inv hm
        obtain ⟨S1, e1, hm⟩ := hm
        have hx := Fw_t hx (Fw_m (by decide) (fhyX_put e1))
        exact Fw_t hx (ih hm)
theorem fhyX_putExpression {th : Nat} {n : Nat} {S : hS} {x1 : Int64} {S' : hS} (hm : yX_putExpression n S th x1 = some S') : Fw whyX_putExpression S S' := by
  unfold yX_putExpression at hm
  have hx : Fw whyX_putExpression S S := Fw_r
  exact Fw_t hx (fhyX_putExpression_2  n hm)
def whyX_putTo : List (Nat × Nat × Nat) := [(0, 4, 1), (3, 21, 0)]
theorem fhyX_putTo {th : Nat} {S : hS} {x1 : Int32} {S' : hS} (hm : yX_putTo S th x1 = some S') : Fw whyX_putTo S S' := by
  unfold yX_putTo at hm
  have hx : Fw whyX_putTo S S := Fw_r
  replace hm := zgd hm
  obtain ⟨b1, hm⟩ := hm
  replace hm := zcV_inv hm
  obtain ⟨S1, e1, hm⟩ := hm
  have hx := Fw_t hx (Fw_m (by decide) (fhyX_put e1))
  replace hm := zgd hm
  obtain ⟨b2, hm⟩ := hm
  replace hm := zcV_inv hm
  obtain ⟨S2, e2, hm⟩ := hm
  have hx := Fw_t hx (Fw_m (by decide) (fhyX_put e2))
  replace hm := zgd hm
  obtain ⟨b3, hm⟩ := hm
  replace hm := zcV_inv hm
  obtain ⟨S3, e3, hm⟩ := hm
  have hx := Fw_t hx (Fw_m (by decide) (fhyX_put e3))
  cases hm
  exact hx
def whyX_putLed : List (Nat × Nat × Nat) := [(0, 4, 1), (3, 21, 0)]
theorem fhyX_putLed_2 {th : Nat} : ∀ (n : Nat) {S : hS} {l1 : Int32} {l2 : Int32} {S' : hS}, yX_putLed_2 th n S l1 l2 = some S' → Fw whyX_putLed S S' := by
  intro n
  induction n with
  | zero => intro S l1 l2 S'  hm; cases hm
  | succ n ih =>
    intro S l1 l2 S'  hm
    unfold yX_putLed_2 at hm
    have hx : Fw whyX_putLed S S := Fw_r
    by_cases q1 : 6 ≤ l2
    · rw [if_pos q1] at hm
      cases hm
      exact hx
    · rw [if_neg q1] at hm
      by_cases q2 : y_contains l1 l2 = 0
      · rw [if_pos q2] at hm
        exact Fw_t hx (ih hm)
      · rw [if_neg q2] at hm
        replace hm := zgd hm
        obtain ⟨b3, hm⟩ := hm
        replace hm := zcV_inv hm
        obtain ⟨S1, e1, hm⟩ := hm
        have hx := Fw_t hx (Fw_m (by decide) (fhyX_put e1))
        exact Fw_t hx (ih hm)
theorem fhyX_putLed {th : Nat} {n : Nat} {S : hS} {x1 : Int32} {S' : hS} (hm : yX_putLed n S th x1 = some S') : Fw whyX_putLed S S' := by
  unfold yX_putLed at hm
  have hx : Fw whyX_putLed S S := Fw_r
  exact Fw_t hx (fhyX_putLed_2  n hm)
def whyX_writeHeadOfParts : List (Nat × Nat × Nat) := [(0, 4, 1), (3, 21, 0)]
theorem fhyX_writeHeadOfParts {th : Nat} {n : Nat} {S : hS} {p1 : Option Nat} {S' : hS} (hm : yX_writeHeadOfParts n S th p1 = some S') : Fw whyX_writeHeadOfParts S S' := by
  unfold yX_writeHeadOfParts at hm
  have hx : Fw whyX_writeHeadOfParts S S := Fw_r
  replace hm := zob_inv hm
  obtain ⟨a1, rfl, hm⟩ := hm
  replace hm := zgd hm
  obtain ⟨b1, hm⟩ := hm
  by_cases q2 : zI S 0 a1 = 5
  · rw [if_pos q2] at hm
    replace hm := zgd hm
    obtain ⟨b3, hm⟩ := hm
    replace hm := zcV_inv hm
    obtain ⟨S2, e2, hm⟩ := hm
    have hx := Fw_t hx (Fw_m (by decide) (fhyX_put e2))
    cases hm
    exact hx
  · rw [if_neg q2] at hm
    by_cases q4 : zI S 0 a1 = 6
    · rw [if_pos q4] at hm
      replace hm := zgd hm
      obtain ⟨b5, hm⟩ := hm
      replace hm := zcV_inv hm
      obtain ⟨S3, e3, hm⟩ := hm
      have hx := Fw_t hx (Fw_m (by decide) (fhyX_put e3))
      replace hm := zgd hm
      obtain ⟨b6, hm⟩ := hm
      replace hm := zgd hm
      obtain ⟨b7, hm⟩ := hm
      replace hm := zcV_inv hm
      obtain ⟨S4, e4, hm⟩ := hm
      have hx := Fw_t hx (Fw_m (by decide) (fhyX_putExpression e4))
      cases hm
      exact hx
    · rw [if_neg q4] at hm
      by_cases q8 : zI S 0 a1 = 7
      · rw [if_pos q8] at hm
        replace hm := zgd hm
        obtain ⟨b9, hm⟩ := hm
        replace hm := zcV_inv hm
        obtain ⟨S5, e5, hm⟩ := hm
        have hx := Fw_t hx (Fw_m (by decide) (fhyX_put e5))
        replace hm := zgd hm
        obtain ⟨b10, hm⟩ := hm
        replace hm := zgd hm
        obtain ⟨b11, hm⟩ := hm
        replace hm := zcV_inv hm
        obtain ⟨S6, e6, hm⟩ := hm
        have hx := Fw_t hx (Fw_m (by decide) (fhyX_putExpression e6))
        replace hm := zgd hm
        obtain ⟨b12, hm⟩ := hm
        replace hm := zgd hm
        obtain ⟨b13, hm⟩ := hm
        replace hm := zcV_inv hm
        obtain ⟨S7, e7, hm⟩ := hm
        have hx := Fw_t hx (Fw_m (by decide) (fhyX_putLed e7))
        cases hm
        exact hx
      · rw [if_neg q8] at hm
        replace hm := zgd hm
        obtain ⟨b14, hm⟩ := hm
        replace hm := zcV_inv hm
        obtain ⟨S8, e8, hm⟩ := hm
        have hx := Fw_t hx (Fw_m (by decide) (fhyX_put e8))
        replace hm := zgd hm
        obtain ⟨b15, hm⟩ := hm
        replace hm := zcV_inv hm
        obtain ⟨S9, e9, hm⟩ := hm
        have hx := Fw_t hx (Fw_m (by decide) (fhyX_put e9))
        cases hm
        exact hx
def whyX_writeHead : List (Nat × Nat × Nat) := [(0, 4, 1), (3, 21, 0)]
theorem fhyX_writeHead {th : Nat} {n : Nat} {S : hS} {p1 : Option Nat} {S' : hS} (hm : yX_writeHead n S th p1 = some S') : Fw whyX_writeHead S S' := by
  unfold yX_writeHead at hm
  have hx : Fw whyX_writeHead S S := Fw_r
  replace hm := zob_inv hm
  obtain ⟨a1, rfl, hm⟩ := hm
  replace hm := zgd hm
  obtain ⟨b1, hm⟩ := hm
  by_cases q2 : zI S 0 a1 = 1
  · rw [if_pos q2] at hm
    replace hm := zgd hm
    obtain ⟨b3, hm⟩ := hm
    replace hm := zcV_inv hm
    obtain ⟨S2, e2, hm⟩ := hm
    have hx := Fw_t hx (Fw_m (by decide) (fhyX_put e2))
    replace hm := zgd hm
    obtain ⟨b4, hm⟩ := hm
    replace hm := zcV_inv hm
    obtain ⟨S3, e3, hm⟩ := hm
    have hx := Fw_t hx (Fw_m (by decide) (fhyX_put e3))
    replace hm := zgd hm
    obtain ⟨b5, hm⟩ := hm
    replace hm := zgd hm
    obtain ⟨b6, hm⟩ := hm
    replace hm := zcV_inv hm
    obtain ⟨S4, e4, hm⟩ := hm
    have hx := Fw_t hx (Fw_m (by decide) (fhyX_putExpression e4))
    replace hm := zgd hm
    obtain ⟨b7, hm⟩ := hm
    replace hm := zcV_inv hm
    obtain ⟨S5, e5, hm⟩ := hm
    have hx := Fw_t hx (Fw_m (by decide) (fhyX_put e5))
    cases hm
    exact hx
  · rw [if_neg q2] at hm
    by_cases q8 : zI S 0 a1 = 2
    · rw [if_pos q8] at hm
      replace hm := zgd hm
      obtain ⟨b9, hm⟩ := hm
      replace hm := zcV_inv hm
      obtain ⟨S6, e6, hm⟩ := hm
      have hx := Fw_t hx (Fw_m (by decide) (fhyX_putExpression e6))
      replace hm := zgd hm
      obtain ⟨b10, hm⟩ := hm
      replace hm := zgd hm
      obtain ⟨b11, hm⟩ := hm
      replace hm := zcV_inv hm
      obtain ⟨S7, e7, hm⟩ := hm
      have hx := Fw_t hx (Fw_m (by decide) (fhyX_putTo e7))
      cases hm
      exact hx
    · rw [if_neg q8] at hm
      by_cases q12 : zI S 0 a1 = 3
      · rw [if_pos q12] at hm
        replace hm := zgd hm
        obtain ⟨b13, hm⟩ := hm
        replace hm := zcV_inv hm
        obtain ⟨S8, e8, hm⟩ := hm
        have hx := Fw_t hx (Fw_m (by decide) (fhyX_put e8))
        replace hm := zgd hm
        obtain ⟨b14, hm⟩ := hm
        replace hm := zcV_inv hm
        obtain ⟨S9, e9, hm⟩ := hm
        have hx := Fw_t hx (Fw_m (by decide) (fhyX_put e9))
        replace hm := zgd hm
        obtain ⟨b15, hm⟩ := hm
        replace hm := zgd hm
        obtain ⟨b16, hm⟩ := hm
        replace hm := zcV_inv hm
        obtain ⟨S10, e10, hm⟩ := hm
        have hx := Fw_t hx (Fw_m (by decide) (fhyX_put e10))
        replace hm := zgd hm
        obtain ⟨b17, hm⟩ := hm
        replace hm := zcV_inv hm
        obtain ⟨S11, e11, hm⟩ := hm
        have hx := Fw_t hx (Fw_m (by decide) (fhyX_put e11))
        cases hm
        exact hx
      · rw [if_neg q12] at hm
        by_cases q18 : zI S 0 a1 = 4
        · rw [if_pos q18] at hm
          replace hm := zgd hm
          obtain ⟨b19, hm⟩ := hm
          replace hm := zcV_inv hm
          obtain ⟨S12, e12, hm⟩ := hm
          have hx := Fw_t hx (Fw_m (by decide) (fhyX_put e12))
          replace hm := zgd hm
          obtain ⟨b20, hm⟩ := hm
          replace hm := zgd hm
          obtain ⟨b21, hm⟩ := hm
          replace hm := zcV_inv hm
          obtain ⟨S13, e13, hm⟩ := hm
          have hx := Fw_t hx (Fw_m (by decide) (fhyX_put e13))
          replace hm := zgd hm
          obtain ⟨b22, hm⟩ := hm
          replace hm := zgd hm
          obtain ⟨b23, hm⟩ := hm
          replace hm := zcV_inv hm
          obtain ⟨S14, e14, hm⟩ := hm
          have hx := Fw_t hx (Fw_m (by decide) (fhyX_putTo e14))
          cases hm
          exact hx
        · rw [if_neg q18] at hm
          replace hm := zgd hm
          obtain ⟨b24, hm⟩ := hm
          replace hm := zcV_inv hm
          obtain ⟨S15, e15, hm⟩ := hm
          have hx := Fw_t hx (Fw_m (by decide) (fhyX_writeHeadOfParts e15))
          cases hm
          exact hx
def whyX_writeRow : List (Nat × Nat × Nat) := [(0, 4, 1), (3, 21, 0)]
theorem fhyX_writeRow_56 {th : Nat} {rc : hS → Nat → Option Nat → Int32 → Option (hS)} {rec9 : hS → Int32 → Option Nat → Option (hS)} {rec21 : hS → Int32 → Option Nat → Int32 → Option (hS)} (hrc : ∀ {S : hS} {th : Nat} {z1 : Option Nat} {z2 : Int32} {S' : hS}, rc S th z1 z2 = some S' → Fw whyX_writeRow S S') (hr9 : ∀ {J : hS} {m2 : Int32} {m3 : Option Nat} {J' : hS}, rec9 J m2 m3 = some J' → Fw whyX_writeRow J J') (hr21 : ∀ {J : hS} {m2 : Int32} {m3 : Option Nat} {m4 : Int32} {J' : hS}, rec21 J m2 m3 m4 = some J' → Fw whyX_writeRow J J') {n : Nat} {S : hS} {l2 : Int32} {p3 : Option Nat} {l4 : Int32} {S' : hS} (hm : yX_writeRow_56 th rc rec9 rec21 n S l2 p3 l4 = some S') : Fw whyX_writeRow S S' := by
  unfold yX_writeRow_56 at hm
  have hx : Fw whyX_writeRow S S := Fw_r
  replace hm := zgd hm
  obtain ⟨b1, hm⟩ := hm
  replace hm := zcV_inv hm
  obtain ⟨S1, e1, hm⟩ := hm
  have hx := Fw_t hx (Fw_m (by decide) (fhyX_put e1))
  replace hm := zob_inv hm
  obtain ⟨a2, rfl, hm⟩ := hm
  replace hm := zgd hm
  obtain ⟨b2, hm⟩ := hm
  replace hm := zlb_inv hm
  obtain ⟨o3, eo3, hm⟩ := hm
  replace hm := zob_inv hm
  obtain ⟨a4, rfl, hm⟩ := hm
  replace hm := zgd hm
  obtain ⟨b3, hm⟩ := hm
  replace hm := zgd hm
  obtain ⟨b4, hm⟩ := hm
  replace hm := zlb_inv hm
  obtain ⟨o5, eo5, hm⟩ := hm
  replace hm := zgd hm
  obtain ⟨b5, hm⟩ := hm
  replace hm := zcV_inv hm
  obtain ⟨S6, e6, hm⟩ := hm
  have hx := Fw_t hx (hrc e6)
  replace hm := zgd hm
  obtain ⟨b6, hm⟩ := hm
  replace hm := zcV_inv hm
  obtain ⟨S7, e7, hm⟩ := hm
  have hx := Fw_t hx (Fw_m (by decide) (fhyX_put e7))
  exact Fw_t hx (hr21 hm)
theorem fhyX_writeRow_21 {th : Nat} {rc : hS → Nat → Option Nat → Int32 → Option (hS)} {rec9 : hS → Int32 → Option Nat → Option (hS)} (hrc : ∀ {S : hS} {th : Nat} {z1 : Option Nat} {z2 : Int32} {S' : hS}, rc S th z1 z2 = some S' → Fw whyX_writeRow S S') (hr9 : ∀ {J : hS} {m2 : Int32} {m3 : Option Nat} {J' : hS}, rec9 J m2 m3 = some J' → Fw whyX_writeRow J J') : ∀ (n : Nat) {S : hS} {l2 : Int32} {p3 : Option Nat} {l4 : Int32} {S' : hS}, yX_writeRow_21 th rc rec9 n S l2 p3 l4 = some S' → Fw whyX_writeRow S S' := by
  intro n
  induction n with
  | zero => intro S l2 p3 l4 S'  hm; cases hm
  | succ n ih =>
    intro S l2 p3 l4 S'  hm
    unfold yX_writeRow_21 at hm
    have hx : Fw whyX_writeRow S S := Fw_r
    replace hm := zob_inv hm
    obtain ⟨a1, rfl, hm⟩ := hm
    replace hm := zgd hm
    obtain ⟨b1, hm⟩ := hm
    replace hm := zlb_inv hm
    obtain ⟨o2, eo2, hm⟩ := hm
    replace hm := zob_inv hm
    obtain ⟨a3, rfl, hm⟩ := hm
    replace hm := zgd hm
    obtain ⟨b2, hm⟩ := hm
    by_cases q3 : Int32.ofNat (zLen S a3) ≤ l4
    · rw [if_pos q3] at hm
      replace hm := zlb_inv hm
      obtain ⟨o4, eo4, hm⟩ := hm
      exact Fw_t hx (hr9 hm)
    · rw [if_neg q3] at hm
      replace hm := zcP_inv hm
      obtain ⟨S5, v5, e5, hm⟩ := hm
      have hx := Fw_t hx (Fw_m (by decide) (fhyA_hasPart e5))
      by_cases q4 : v5 = 0
      · rw [if_pos q4] at hm
        exact Fw_t hx (ih hm)
      · rw [if_neg q4] at hm
        replace hm := zgd hm
        obtain ⟨b5, hm⟩ := hm
        by_cases q6 : zI S5 0 a1 = 5
        · rw [if_pos q6] at hm
          replace hm := zgd hm
          obtain ⟨b7, hm⟩ := hm
          replace hm := zcV_inv hm
          obtain ⟨S6, e6, hm⟩ := hm
          have hx := Fw_t hx (Fw_m (by decide) (fhyX_put e6))
          exact Fw_t hx (fhyX_writeRow_56 hrc hr9 (fun z => ih z) hm)
        · rw [if_neg q6] at hm
          exact Fw_t hx (fhyX_writeRow_56 hrc hr9 (fun z => ih z) hm)
theorem fhyX_writeRow_9 {th : Nat} {rc : hS → Nat → Option Nat → Int32 → Option (hS)} (hrc : ∀ {S : hS} {th : Nat} {z1 : Option Nat} {z2 : Int32} {S' : hS}, rc S th z1 z2 = some S' → Fw whyX_writeRow S S') : ∀ (n : Nat) {S : hS} {l2 : Int32} {p3 : Option Nat} {S' : hS}, yX_writeRow_9 th rc n S l2 p3 = some S' → Fw whyX_writeRow S S' := by
  intro n
  induction n with
  | zero => intro S l2 p3 S'  hm; cases hm
  | succ n ih =>
    intro S l2 p3 S'  hm
    unfold yX_writeRow_9 at hm
    have hx : Fw whyX_writeRow S S := Fw_r
    cases p3 with
    | none =>
      replace hm := zoc_n hm
      cases hm
      exact hx
    | some a1 =>
      replace hm := zoc_s hm
      replace hm := zgd hm
      obtain ⟨b1, hm⟩ := hm
      replace hm := zcV_inv hm
      obtain ⟨S2, e2, hm⟩ := hm
      have hx := Fw_t hx (Fw_m (by decide) (fhyX_writeHead e2))
      exact Fw_t hx (fhyX_writeRow_21 hrc (fun z => ih z) n hm)
theorem fhyX_writeRow {n : Nat} : ∀ (r : Nat) {S : hS} {th : Nat} {p1 : Option Nat} {x2 : Int32} {S' : hS}, yX_writeRow n r S th p1 x2 = some S' → Fw whyX_writeRow S S' := by
  intro r
  induction r with
  | zero => intro S th p1 x2 S'  hm; cases hm
  | succ r ih =>
    intro S th p1 x2 S'  hm
    unfold yX_writeRow at hm
    have hx : Fw whyX_writeRow S S := Fw_r
    by_cases q1 : x2 ≤ 64
    · rw [if_pos q1] at hm
      exact Fw_t hx (fhyX_writeRow_9 ih n hm)
    · rw [if_neg q1] at hm
      cases hm
      exact hx
theorem fhyX_writeRow_o {n : Nat} {S : hS} {th : Nat} {p1 : Option Nat} {x2 : Int32} {S' : hS} (hm : yX_writeRow n 67 S th p1 x2 = some S') : Fw whyX_writeRow S S' := fhyX_writeRow 67 hm
def whyX_write : List (Nat × Nat × Nat) := [(0, 4, 1), (3, 21, 0)]
theorem fhyX_write {th : Nat} {n : Nat} {S : hS} {p1 : Option Nat} {S' : hS} (hm : yX_write n S th p1 = some S') : Fw whyX_write S S' := by
  unfold yX_write at hm
  have hx : Fw whyX_write S S := Fw_r
  replace hm := zgd hm
  obtain ⟨b1, hm⟩ := hm
  have hx := Fw_I (k := 1) (v := 0) hx b1 (by decide)
  replace hm := zcV_inv hm
  obtain ⟨S1, e1, hm⟩ := hm
  have hx := Fw_t hx (Fw_m (by decide) (fhyX_writeRow_o e1))
  cases hm
  exact hx
def why_clear : List (Nat × Nat × Nat) := [(3, 20, 0)]
theorem fhy_clear_2 : ∀ (n : Nat) {S : hS} {p0 : Option Nat} {l1 : Int32} {S' : hS}, y_clear_2 n S p0 l1 = some S' → Fw why_clear S S' := by
  intro n
  induction n with
  | zero => intro S p0 l1 S'  hm; cases hm
  | succ n ih =>
    intro S p0 l1 S'  hm
    unfold y_clear_2 at hm
    have hx : Fw why_clear S S := Fw_r
    replace hm := zob_inv hm
    obtain ⟨a1, rfl, hm⟩ := hm
    replace hm := zgd hm
    obtain ⟨b1, hm⟩ := hm
    by_cases q2 : Int32.ofNat (zLen S a1) ≤ l1
    · rw [if_pos q2] at hm
      cases hm
      exact hx
    · rw [if_neg q2] at hm
      replace hm := zgd hm
      obtain ⟨b3, hm⟩ := hm
      replace hm := zgd hm
      obtain ⟨b4, hm⟩ := hm
      have hx := Fw_AI (g := upd (zAI S a1) (Int32.toNatClampNeg l1) 0) hx b3 (by decide)
      exact Fw_t hx (ih hm)
theorem fhy_clear {n : Nat} {S : hS} {p1 : Option Nat} {S' : hS} (hm : y_clear n S p1 = some S') : Fw why_clear S S' := by
  unfold y_clear at hm
  have hx : Fw why_clear S S := Fw_r
  exact Fw_t hx (fhy_clear_2  n hm)
def whyP_begin : List (Nat × Nat × Nat) := [(0, 5, 3), (1, 5, 2)]
theorem fhyP_begin {th : Nat} {S : hS} {S' : hS} (hm : yP_begin S th = some S') : Fw whyP_begin S S' := by
  unfold yP_begin at hm
  have hx : Fw whyP_begin S S := Fw_r
  replace hm := zgd hm
  obtain ⟨b1, hm⟩ := hm
  replace hm := zlb_inv hm
  obtain ⟨o1, eo1, hm⟩ := hm
  have hx := Fw_R (k := 2) (v := o1) hx b1 (by decide)
  have hx := Fw_I (k := 3) (v := 0) hx b1 (by decide)
  cases hm
  exact hx
def whyT_beginAgain : List (Nat × Nat × Nat) := [(0, 5, 3), (0, 7, 3), (0, 9, 5), (1, 5, 2), (3, 20, 0)]
theorem fhyT_beginAgain_60 {th : Nat} : ∀ (n : Nat) {S : hS} {p1 : Option Nat} {l2 : Int32} {l3 : Int32} {S' : hS}, yT_beginAgain_60 th n S p1 l2 l3 = some S' → Fw whyT_beginAgain S S' := by
  intro n
  induction n with
  | zero => intro S p1 l2 l3 S'  hm; cases hm
  | succ n ih =>
    intro S p1 l2 l3 S'  hm
    unfold yT_beginAgain_60 at hm
    have hx : Fw whyT_beginAgain S S := Fw_r
    by_cases q1 : l2 ≤ l3
    · rw [if_pos q1] at hm
      replace hm := zgd hm
      obtain ⟨b2, hm⟩ := hm
      have hx := Fw_I (k := 5) (v := 0) hx b2 (by decide)
      cases hm
      exact hx
    · rw [if_neg q1] at hm
      replace hm := zob_inv hm
      obtain ⟨a1, rfl, hm⟩ := hm
      replace hm := zgd hm
      obtain ⟨b3, hm⟩ := hm
      replace hm := zgd hm
      obtain ⟨b4, hm⟩ := hm
      replace hm := zlb_inv hm
      obtain ⟨o2, eo2, hm⟩ := hm
      replace hm := zob_inv hm
      obtain ⟨a3, rfl, hm⟩ := hm
      replace hm := zgd hm
      obtain ⟨b5, hm⟩ := hm
      replace hm := zcV_inv hm
      obtain ⟨S4, e4, hm⟩ := hm
      have hx := Fw_t hx (Fw_m (by decide) (fhyP_begin e4))
      exact Fw_t hx (ih hm)
theorem fhyT_beginAgain_28 {th : Nat} : ∀ (n : Nat) {S : hS} {p1 : Option Nat} {l2 : Int32} {l3 : Int32} {S' : hS}, yT_beginAgain_28 th n S p1 l2 l3 = some S' → Fw whyT_beginAgain S S' := by
  intro n
  induction n with
  | zero => intro S p1 l2 l3 S'  hm; cases hm
  | succ n ih =>
    intro S p1 l2 l3 S'  hm
    unfold yT_beginAgain_28 at hm
    have hx : Fw whyT_beginAgain S S := Fw_r
    by_cases q1 : l2 ≤ l3
    · rw [if_pos q1] at hm
      replace hm := zgd hm
      obtain ⟨b2, hm⟩ := hm
      replace hm := zlb_inv hm
      obtain ⟨o1, eo1, hm⟩ := hm
      replace hm := zob_inv hm
      obtain ⟨a2, rfl, hm⟩ := hm
      replace hm := zgd hm
      obtain ⟨b3, hm⟩ := hm
      exact Fw_t hx (fhyT_beginAgain_60  n hm)
    · rw [if_neg q1] at hm
      replace hm := zob_inv hm
      obtain ⟨a3, rfl, hm⟩ := hm
      replace hm := zgd hm
      obtain ⟨b4, hm⟩ := hm
      replace hm := zgd hm
      obtain ⟨b5, hm⟩ := hm
      replace hm := zlb_inv hm
      obtain ⟨o4, eo4, hm⟩ := hm
      replace hm := zob_inv hm
      obtain ⟨a5, rfl, hm⟩ := hm
      replace hm := zgd hm
      obtain ⟨b6, hm⟩ := hm
      have hx := Fw_I (k := 3) (v := 0) hx b6 (by decide)
      exact Fw_t hx (ih hm)
theorem fhyT_beginAgain {th : Nat} {n : Nat} {S : hS} {S' : hS} (hm : yT_beginAgain n S th = some S') : Fw whyT_beginAgain S S' := by
  unfold yT_beginAgain at hm
  have hx : Fw whyT_beginAgain S S := Fw_r
  replace hm := zgd hm
  obtain ⟨b1, hm⟩ := hm
  replace hm := zlb_inv hm
  obtain ⟨o1, eo1, hm⟩ := hm
  replace hm := zlb_inv hm
  obtain ⟨o2, eo2, hm⟩ := hm
  replace hm := zlb_inv hm
  obtain ⟨o3, eo3, hm⟩ := hm
  replace hm := zob_inv hm
  obtain ⟨a4, rfl, hm⟩ := hm
  replace hm := zgd hm
  obtain ⟨b2, hm⟩ := hm
  replace hm := zob_inv hm
  obtain ⟨a5, rfl, hm⟩ := hm
  replace hm := zob_inv hm
  obtain ⟨a6, rfl, hm⟩ := hm
  replace hm := zgd hm
  obtain ⟨b3, hm⟩ := hm
  replace hm := zgd hm
  obtain ⟨b4, hm⟩ := hm
  replace hm := zgd hm
  obtain ⟨b5, hm⟩ := hm
  have hx := Fw_AI (g := va_cpy (zAI S a6) (zAI S a5) 0 0 (Int32.toNatClampNeg (Int32.ofNat (zLen S a4)))) hx b4 (by decide)
  replace hm := zlb_inv hm
  obtain ⟨o7, eo7, hm⟩ := hm
  replace hm := zob_inv hm
  obtain ⟨a8, rfl, hm⟩ := hm
  replace hm := zgd hm
  obtain ⟨b6, hm⟩ := hm
  exact Fw_t hx (fhyT_beginAgain_28  n hm)
def whyT_takeParts : List (Nat × Nat × Nat) := [(0, 4, 1), (0, 5, 3), (0, 7, 3), (0, 9, 5), (1, 2, 9), (1, 5, 1), (1, 5, 2), (3, 20, 0), (3, 21, 0)]
theorem fhyT_takeParts_2 {th : Nat} : ∀ (n : Nat) {S : hS} {p1 : Option Nat} {l2 : Int32} {S' : hS}, yT_takeParts_2 th n S p1 l2 = some S' → Fw whyT_takeParts S S' := by
  intro n
  induction n with
  | zero => intro S p1 l2 S'  hm; cases hm
  | succ n ih =>
    intro S p1 l2 S'  hm
    unfold yT_takeParts_2 at hm
    have hx : Fw whyT_takeParts S S := Fw_r
    by_cases q1 : 6 ≤ l2
    · rw [if_pos q1] at hm
      replace hm := zgd hm
      obtain ⟨b2, hm⟩ := hm
      replace hm := zlb_inv hm
      obtain ⟨o1, eo1, hm⟩ := hm
      replace hm := zcV_inv hm
      obtain ⟨S2, e2, hm⟩ := hm
      have hx := Fw_t hx (Fw_m (by decide) (fhy_clear e2))
      replace hm := zgd hm
      obtain ⟨b3, hm⟩ := hm
      replace hm := zcV_inv hm
      obtain ⟨S3, e3, hm⟩ := hm
      have hx := Fw_t hx (Fw_m (by decide) (fhyT_beginAgain e3))
      cases hm
      exact hx
    · rw [if_neg q1] at hm
      replace hm := zob_inv hm
      obtain ⟨a4, rfl, hm⟩ := hm
      replace hm := zgd hm
      obtain ⟨b4, hm⟩ := hm
      replace hm := zgd hm
      obtain ⟨b5, hm⟩ := hm
      replace hm := zlb_inv hm
      obtain ⟨o5, eo5, hm⟩ := hm
      replace hm := zob_inv hm
      obtain ⟨a6, rfl, hm⟩ := hm
      replace hm := zgd hm
      obtain ⟨b6, hm⟩ := hm
      replace hm := zlb_inv hm
      obtain ⟨o7, eo7, hm⟩ := hm
      replace hm := zcV_inv hm
      obtain ⟨S8, e8, hm⟩ := hm
      have hx := Fw_t hx (Fw_m (by decide) (fhyA_settle_o e8))
      replace hm := zgd hm
      obtain ⟨b7, hm⟩ := hm
      replace hm := zlb_inv hm
      obtain ⟨o9, eo9, hm⟩ := hm
      replace hm := zob_inv hm
      obtain ⟨a10, rfl, hm⟩ := hm
      replace hm := zgd hm
      obtain ⟨b8, hm⟩ := hm
      replace hm := zgd hm
      obtain ⟨b9, hm⟩ := hm
      replace hm := zlb_inv hm
      obtain ⟨o11, eo11, hm⟩ := hm
      replace hm := zob_inv hm
      obtain ⟨a12, rfl, hm⟩ := hm
      replace hm := zgd hm
      obtain ⟨b10, hm⟩ := hm
      have hx := Fw_R (k := 1) (v := o7) hx b10 (by decide)
      replace hm := zlb_inv hm
      obtain ⟨o13, eo13, hm⟩ := hm
      replace hm := zob_inv hm
      obtain ⟨a14, rfl, hm⟩ := hm
      replace hm := zgd hm
      obtain ⟨b11, hm⟩ := hm
      replace hm := zgd hm
      obtain ⟨b12, hm⟩ := hm
      replace hm := zlb_inv hm
      obtain ⟨o15, eo15, hm⟩ := hm
      replace hm := zob_inv hm
      obtain ⟨a16, rfl, hm⟩ := hm
      replace hm := zgd hm
      obtain ⟨b13, hm⟩ := hm
      replace hm := zlb_inv hm
      obtain ⟨o17, eo17, hm⟩ := hm
      replace hm := zob_inv hm
      obtain ⟨a18, rfl, hm⟩ := hm
      replace hm := zgd hm
      obtain ⟨b14, hm⟩ := hm
      replace hm := zcV_inv hm
      obtain ⟨S19, e19, hm⟩ := hm
      have hx := Fw_t hx (Fw_m (by decide) (fhyX_write e19))
      exact Fw_t hx (ih hm)
theorem fhyT_takeParts {th : Nat} {n : Nat} {S : hS} {p1 : Option Nat} {S' : hS} (hm : yT_takeParts n S th p1 = some S') : Fw whyT_takeParts S S' := by
  unfold yT_takeParts at hm
  have hx : Fw whyT_takeParts S S := Fw_r
  exact Fw_t hx (fhyT_takeParts_2  n hm)
def why_load : List (Nat × Nat × Nat) := [(0, 1, 1), (0, 1, 2), (0, 1, 3), (0, 2, 0), (0, 2, 1), (0, 2, 2), (0, 2, 3), (0, 2, 4), (0, 2, 7), (0, 3, 0), (0, 3, 1), (0, 3, 2), (0, 3, 3), (0, 4, 1), (0, 5, 3), (0, 6, 1), (0, 6, 2), (0, 6, 3), (0, 6, 4), (0, 6, 6), (0, 7, 3), (0, 8, 3), (0, 9, 5), (0, 10, 0), (0, 10, 1), (0, 10, 2), (0, 10, 3), (0, 10, 4), (0, 10, 5), (0, 10, 11), (1, 1, 4), (1, 2, 6), (1, 2, 8), (1, 2, 9), (1, 5, 1), (1, 5, 2), (1, 6, 0), (1, 8, 0), (1, 8, 1), (1, 8, 2), (1, 10, 7), (1, 10, 8), (1, 10, 9), (1, 10, 10), (2, 2, 0), (2, 6, 0), (2, 10, 0), (3, 20, 0), (3, 21, 0), (4, 26, 0), (4, 27, 0)]
theorem fhy_load {th : Nat} {n : Nat} {S : hS} {x1 : Int32} {S' : hS} {r : Nat ⊕ Int32} (hm : y_load n S th x1 = some (S', r)) : Fw why_load S S' := by
  unfold y_load at hm
  have hx : Fw why_load S S := Fw_r
  replace hm := znw_inv hm
  obtain ⟨S1, a1, eS1, ea1, hm⟩ := hm
  have hx := Fw_n (by decide) hx eS1
  replace hm := zgd hm
  obtain ⟨b1, hm⟩ := hm
  replace hm := zlb_inv hm
  obtain ⟨o2, eo2, hm⟩ := hm
  replace hm := zcV_inv hm
  obtain ⟨S3, e3, hm⟩ := hm
  have hx := Fw_t hx (Fw_m (by decide) (fhyR_new e3))
  replace hm := zgd hm
  obtain ⟨b2, hm⟩ := hm
  replace hm := zcP_inv hm
  obtain ⟨S4, o4, e4, hm⟩ := hm
  have hx := Fw_t hx (Fw_m (by decide) (fhyR_readPlay e4))
  replace hm := zgd hm
  obtain ⟨b3, hm⟩ := hm
  have hx := Fw_I (k := 1) (v := 0) hx b3 (by decide)
  cases o4 with
  | none =>
    replace hm := zoc_n hm
    replace hm := zgd hm
    obtain ⟨b4, hm⟩ := hm
    have hx := Fw_I (k := 2) (v := zI S4 2 a1) hx b3 (by decide)
    have hx := Fw_I (k := 3) (v := (-1)) hx b3 (by decide)
    cases hm
    exact Fw_ex hx
  | some a5 =>
    replace hm := zoc_s hm
    replace hm := znw_inv hm
    obtain ⟨S6, a6, eS6, ea6, hm⟩ := hm
    have hx := Fw_n (by decide) hx eS6
    replace hm := zgd hm
    obtain ⟨b5, hm⟩ := hm
    replace hm := zcV_inv hm
    obtain ⟨S7, e7, hm⟩ := hm
    have hx := Fw_t hx (Fw_m (by decide) (fhyC_new e7))
    replace hm := zgd hm
    obtain ⟨b6, hm⟩ := hm
    replace hm := zcP_inv hm
    obtain ⟨S8, o8, e8, hm⟩ := hm
    have hx := Fw_t hx (Fw_m (by decide) (fhyC_cutRow_o e8))
    replace hm := zgd hm
    obtain ⟨b7, hm⟩ := hm
    replace hm := zgd hm
    obtain ⟨b8, hm⟩ := hm
    have hx := Fw_I (k := 2) (v := zI S8 2 a6) hx b8 (by decide)
    have hx := Fw_I (k := 3) (v := zI S8 3 a6) hx b8 (by decide)
    by_cases q9 : zI S8 3 a6 = (-1)
    · rw [if_pos q9] at hm
      by_cases q10 : zI S8 2 a6 = (-1)
      · rw [if_pos q10] at hm
        replace hm := zcV_inv hm
        obtain ⟨S9, e9, hm⟩ := hm
        have hx := Fw_t hx (Fw_m (by decide) (fhyS_settle_o e9))
        replace hm := zgd hm
        obtain ⟨b11, hm⟩ := hm
        have hx := Fw_R (k := 4) (v := (some a5)) hx b11 (by decide)
        replace hm := zlb_inv hm
        obtain ⟨o10, eo10, hm⟩ := hm
        replace hm := zob_inv hm
        obtain ⟨a11, rfl, hm⟩ := hm
        replace hm := zgd hm
        obtain ⟨b12, hm⟩ := hm
        replace hm := zcV_inv hm
        obtain ⟨S12, e12, hm⟩ := hm
        have hx := Fw_t hx (Fw_m (by decide) (fhyT_takeParts e12))
        replace hm := zgd hm
        obtain ⟨b13, hm⟩ := hm
        replace hm := zlb_inv hm
        obtain ⟨o13, eo13, hm⟩ := hm
        replace hm := zcV_inv hm
        obtain ⟨S14, e14, hm⟩ := hm
        have hx := Fw_t hx (Fw_m (by decide) (fhy_clear e14))
        replace hm := zgd hm
        obtain ⟨b14, hm⟩ := hm
        replace hm := zgd hm
        obtain ⟨b15, hm⟩ := hm
        cases hm
        exact hx
      · rw [if_neg q10] at hm
        cases hm
        exact Fw_ex hx
    · rw [if_neg q9] at hm
      cases hm
      exact Fw_ex hx
def why_needParty : List (Nat × Nat × Nat) := []
theorem fhy_needParty {S : hS} {x1 : Int32} {S' : hS} {r : Nat ⊕ Int32} (hm : y_needParty S x1 = some (S', r)) : Fw why_needParty S S' := by
  unfold y_needParty at hm
  have hx : Fw why_needParty S S := Fw_r
  by_cases q1 : ty_b (rd_rp x1) = 0
  · rw [if_pos q1] at hm
    cases hm
    exact Fw_ex hx
  · rw [if_neg q1] at hm
    cases hm
    exact hx
def why_needPlay : List (Nat × Nat × Nat) := []
theorem fhy_needPlay {th : Nat} {S : hS} {S' : hS} {r : Nat ⊕ Int32} (hm : y_needPlay S th = some (S', r)) : Fw why_needPlay S S' := by
  unfold y_needPlay at hm
  have hx : Fw why_needPlay S S := Fw_r
  replace hm := zgd hm
  obtain ⟨b1, hm⟩ := hm
  replace hm := zlb_inv hm
  obtain ⟨o1, eo1, hm⟩ := hm
  cases o1 with
  | none =>
    replace hm := zoc_n hm
    cases hm
    exact Fw_ex hx
  | some a2 =>
    replace hm := zoc_s hm
    cases hm
    exact hx
def why_length : List (Nat × Nat × Nat) := []
theorem fhy_length {th : Nat} {S : hS} {x1 : Int32} {S' : hS} {r : Nat ⊕ Int32} (hm : y_length S th x1 = some (S', r)) : Fw why_length S S' := by
  unfold y_length at hm
  have hx : Fw why_length S S := Fw_r
  replace hm := zcT_inv hm
  obtain ⟨S1, w1, e1, hm⟩ := hm
  have hx := Fw_t hx (Fw_m (by decide) (fhy_needParty e1))
  rcases w1 with c1 | v1
  · cases hm
    exact hx
  replace hm := zcT_v hm
  replace hm := zgd hm
  obtain ⟨b1, hm⟩ := hm
  replace hm := zcT_inv hm
  obtain ⟨S2, w2, e2, hm⟩ := hm
  have hx := Fw_t hx (Fw_m (by decide) (fhy_needPlay e2))
  rcases w2 with c2 | v2
  · cases hm
    exact hx
  replace hm := zcT_v hm
  replace hm := zgd hm
  obtain ⟨b2, hm⟩ := hm
  replace hm := zlb_inv hm
  obtain ⟨o3, eo3, hm⟩ := hm
  replace hm := zob_inv hm
  obtain ⟨a4, rfl, hm⟩ := hm
  replace hm := zgd hm
  obtain ⟨b3, hm⟩ := hm
  replace hm := zlb_inv hm
  obtain ⟨o5, eo5, hm⟩ := hm
  replace hm := zob_inv hm
  obtain ⟨a6, rfl, hm⟩ := hm
  replace hm := zgd hm
  obtain ⟨b4, hm⟩ := hm
  replace hm := zgd hm
  obtain ⟨b5, hm⟩ := hm
  replace hm := zlb_inv hm
  obtain ⟨o7, eo7, hm⟩ := hm
  replace hm := zob_inv hm
  obtain ⟨a8, rfl, hm⟩ := hm
  replace hm := zgd hm
  obtain ⟨b6, hm⟩ := hm
  replace hm := zlb_inv hm
  obtain ⟨o9, eo9, hm⟩ := hm
  replace hm := zob_inv hm
  obtain ⟨a10, rfl, hm⟩ := hm
  replace hm := zgd hm
  obtain ⟨b7, hm⟩ := hm
  cases hm
  exact hx
def why_letter : List (Nat × Nat × Nat) := []
theorem fhy_letter {th : Nat} {S : hS} {x1 : Int32} {x2 : Int32} {S' : hS} {r : Nat ⊕ Int32} (hm : y_letter S th x1 x2 = some (S', r)) : Fw why_letter S S' := by
  unfold y_letter at hm
  have hx : Fw why_letter S S := Fw_r
  replace hm := zcT_inv hm
  obtain ⟨S1, w1, e1, hm⟩ := hm
  have hx := Fw_t hx (Fw_m (by decide) (fhy_needParty e1))
  rcases w1 with c1 | v1
  · cases hm
    exact hx
  replace hm := zcT_v hm
  replace hm := zgd hm
  obtain ⟨b1, hm⟩ := hm
  replace hm := zcT_inv hm
  obtain ⟨S2, w2, e2, hm⟩ := hm
  have hx := Fw_t hx (Fw_m (by decide) (fhy_needPlay e2))
  rcases w2 with c2 | v2
  · cases hm
    exact hx
  replace hm := zcT_v hm
  replace hm := zgd hm
  obtain ⟨b2, hm⟩ := hm
  replace hm := zlb_inv hm
  obtain ⟨o3, eo3, hm⟩ := hm
  replace hm := zob_inv hm
  obtain ⟨a4, rfl, hm⟩ := hm
  replace hm := zgd hm
  obtain ⟨b3, hm⟩ := hm
  replace hm := zlb_inv hm
  obtain ⟨o5, eo5, hm⟩ := hm
  replace hm := zob_inv hm
  obtain ⟨a6, rfl, hm⟩ := hm
  replace hm := zgd hm
  obtain ⟨b4, hm⟩ := hm
  replace hm := zgd hm
  obtain ⟨b5, hm⟩ := hm
  replace hm := zlb_inv hm
  obtain ⟨o7, eo7, hm⟩ := hm
  replace hm := zob_inv hm
  obtain ⟨a8, rfl, hm⟩ := hm
  replace hm := zgd hm
  obtain ⟨b6, hm⟩ := hm
  replace hm := zlb_inv hm
  obtain ⟨o9, eo9, hm⟩ := hm
  by_cases q7 : x2 < 0
  · rw [if_pos q7] at hm
    cases hm
    exact Fw_ex hx
  · rw [if_neg q7] at hm
    replace hm := zob_inv hm
    obtain ⟨a10, rfl, hm⟩ := hm
    replace hm := zgd hm
    obtain ⟨b8, hm⟩ := hm
    by_cases q9 : x2 < zI S2 1 a10
    · rw [if_pos q9] at hm
      replace hm := zlb_inv hm
      obtain ⟨o11, eo11, hm⟩ := hm
      replace hm := zob_inv hm
      obtain ⟨a12, rfl, hm⟩ := hm
      replace hm := zgd hm
      obtain ⟨b10, hm⟩ := hm
      replace hm := zgd hm
      obtain ⟨b11, hm⟩ := hm
      cases hm
      exact hx
    · rw [if_neg q9] at hm
      cases hm
      exact Fw_ex hx
def why_needVariable : List (Nat × Nat × Nat) := []
theorem fhy_needVariable {S : hS} {x1 : Int32} {x2 : Int32} {S' : hS} {r : Nat ⊕ Int32} (hm : y_needVariable S x1 x2 = some (S', r)) : Fw why_needVariable S S' := by
  unfold y_needVariable at hm
  have hx : Fw why_needVariable S S := Fw_r
  by_cases q1 : ty_b (rd_rp x1) = 0
  · rw [if_pos q1] at hm
    cases hm
    exact Fw_ex hx
  · rw [if_neg q1] at hm
    by_cases q2 : x2 < 0
    · rw [if_pos q2] at hm
      cases hm
      exact Fw_ex hx
    · rw [if_neg q2] at hm
      by_cases q3 : x2 < 4
      · rw [if_pos q3] at hm
        cases hm
        exact hx
      · rw [if_neg q3] at hm
        cases hm
        exact Fw_ex hx
def why_needNoStep : List (Nat × Nat × Nat) := []
theorem fhy_needNoStep {th : Nat} {S : hS} {S' : hS} {r : Nat ⊕ Int32} (hm : y_needNoStep S th = some (S', r)) : Fw why_needNoStep S S' := by
  unfold y_needNoStep at hm
  have hx : Fw why_needNoStep S S := Fw_r
  replace hm := zgd hm
  obtain ⟨b1, hm⟩ := hm
  replace hm := zlb_inv hm
  obtain ⟨o1, eo1, hm⟩ := hm
  cases o1 with
  | none =>
    replace hm := zoc_n hm
    cases hm
    exact Fw_ex hx
  | some a2 =>
    replace hm := zoc_s hm
    replace hm := zlb_inv hm
    obtain ⟨o3, eo3, hm⟩ := hm
    replace hm := zob_inv hm
    obtain ⟨a4, rfl, hm⟩ := hm
    replace hm := zgd hm
    obtain ⟨b2, hm⟩ := hm
    by_cases q3 : zI S 5 a4 = 0
    · rw [if_pos q3] at hm
      cases hm
      exact hx
    · rw [if_neg q3] at hm
      cases hm
      exact Fw_ex hx
