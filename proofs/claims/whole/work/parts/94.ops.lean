theorem j_n {n : Nat} (h : n < 2 ^ 31) : (Int32.ofNat n).toInt = n ∧ (Int32.ofNat n).toNatClampNeg = n := by
  have e : (Int32.ofNat n).toInt = n := Int32.toInt_ofNat_of_lt h
  refine ⟨e, ?_⟩
  show (Int32.ofNat n).toInt.toNat = n
  rw [e]
  rfl
theorem ty_mul (a b : Nat) : Int32.ofNat a * Int32.ofNat b = Int32.ofNat (a * b) := by rw [Int32.ofNat_mul]
theorem j_lt {m n : Nat} (hm : m < 2 ^ 31) (hn : n < 2 ^ 31) : Int32.ofNat m < Int32.ofNat n ↔ m < n := by
  rw [Int32.lt_iff_toInt_lt, (j_n hm).1, (j_n hn).1]; omega
theorem j_le {m n : Nat} (hm : m < 2 ^ 31) (hn : n < 2 ^ 31) : Int32.ofNat m ≤ Int32.ofNat n ↔ m ≤ n := by
  rw [Int32.le_iff_toInt_le, (j_n hm).1, (j_n hn).1]; omega
theorem j_eq {m n : Nat} (hm : m < 2 ^ 31) (hn : n < 2 ^ 31) : Int32.ofNat m = Int32.ofNat n ↔ m = n := by
  constructor
  · intro h
    have := congrArg Int32.toInt h
    rw [(j_n hm).1, (j_n hn).1] at this
    omega
  · intro h; rw [h]
theorem j_in {m n : Nat} (hm : m < 2 ^ 31) (h : m < n) : ib (Int32.ofNat m) n := by
  unfold ib
  rw [(j_n hm).1]
  omega
theorem j_pos {x : Int32} (h : ¬ x < 0) : ∃ n : Nat, n < 2 ^ 31 ∧ x = Int32.ofNat n := by
  rw [Int32.lt_iff_toInt_lt, show (0 : Int32).toInt = 0 by decide] at h
  have h2 : x.toInt < 2 ^ 31 := Int32.toInt_lt x
  refine ⟨x.toInt.toNat, by omega, ?_⟩
  apply Int32.toInt_inj.mp
  rw [(j_n (by omega)).1]
  omega
theorem va_c {x : Int32} (h0 : ¬ x < 0) (h4 : ¬ 4 ≤ x) : ∃ p : Nat, p < 4 ∧ x = Int32.ofNat p := by
  obtain ⟨n, hn, rfl⟩ := j_pos h0
  refine ⟨n, ?_, rfl⟩
  have := mt (j_le (m := 4) (by decide) hn).mpr h4
  omega
theorem nv_eq (x : Int32) : x_noVariable x = 0 ↔ ¬ x < 0 ∧ ¬ 4 ≤ x := by
  unfold x_noVariable
  have e : (4 ≤ x) ↔ ¬ x ≤ 3 := by
    rw [Int32.le_iff_toInt_le, Int32.le_iff_toInt_le, show (4 : Int32).toInt = 4 by decide, show (3 : Int32).toInt = 3 by decide]
    omega
  by_cases q1 : x < 0
  · simp [q1]
  · by_cases q2 : x ≤ 3
    · simp [q1, q2, e]
    · simp [q1, q2, e]
theorem ib0 : ib 0 1 := by decide
theorem updL0 (f : Nat → Int64) (v : Int64) : vp_updL f 0 v 0 = v := rfl
theorem Fix_ex {S : hS} {c : Nat} (h : Fix S) : Fix (szEx S c) := Fix_fw (W := []) (by decide) h (Fw_ex Fw_r)
theorem va_d {x : Int32} (h0 : ¬ x < 0) (h4 : x < 4) : ∃ p : Nat, p < 4 ∧ x = Int32.ofNat p := by
  obtain ⟨n, hn, rfl⟩ := j_pos h0
  exact ⟨n, (j_lt (n := 4) hn (by decide)).mp h4, rfl⟩
theorem nv_e2 (x : Int32) : x_noVariable x = 0 ↔ ¬ x < 0 ∧ x < 4 := by
  rw [nv_eq, Int32.le_iff_toInt_le, Int32.lt_iff_toInt_lt, Int32.lt_iff_toInt_lt]
  omega
theorem ix_y (p v : Nat) : y_indexOf (Int32.ofNat p) (Int32.ofNat v) = Int32.ofNat (p * 4 + v) := by
  unfold y_indexOf
  rw [show (4 : Int32) = Int32.ofNat 4 from rfl, ty_mul, ty_add]
theorem ix_x (p v : Nat) : 4 * Int32.ofNat p + Int32.ofNat v = Int32.ofNat (p * 4 + v) := by
  rw [show (4 : Int32) = Int32.ofNat 4 from rfl, ty_mul, ty_add, Nat.mul_comm]
theorem op_12 {S : hS} {a1 a2 a3 : Int32} (h : Bas S) : ∃ S', Alk_12 S a1 a2 a3 S' ∧ RO S S' := by
  obtain ⟨hl, hf, ht, hq, hv, hfl⟩ := h
  obtain ⟨⟨z1, z2, z3, z4⟩, ⟨b1, b2⟩, ⟨c1, c2, c3, c4, c5⟩, ⟨d1, d2, d3⟩, ⟨e1, e2, e3⟩, ⟨f1, f2⟩, ⟨g1, g2⟩, ⟨h1, h2⟩, ⟨i1, i2⟩, j1, k1⟩ := hf
  by_cases q1 : rd_rp a1 = true
  · by_cases q2 : ¬ a2 < 0 ∧ a2 < 4
    · obtain ⟨p, hp, rfl⟩ := pt_c a1 q1
      obtain ⟨v, hv2, rfl⟩ := va_d q2.1 q2.2
      have n1 := (np_eq (Int32.ofNat p)).1.mpr q1
      have n2 := (nv_e2 (Int32.ofNat v)).mpr q2
      have hb : ib (Int32.ofNat (p * 4 + v)) 24 := j_in (by omega) (by omega)
      have hn := (j_n (n := p * 4 + v) (by omega)).2
      refine ⟨_, ⟨0, zAI S 6 (p * 4 + v), szAL S 177 (vp_updL (zAL S 177) 0 (Int32.toInt64 (zAI S 6 (p * 4 + v)))), upd (zMI S) 0 0, zMA S, ?_, ?_, rfl, ?_, rfl⟩, RO_l _ 0⟩
      · simp only [yL_variable, y_variable, y_needVariable, zob, zcH, zcHv, zcT, zcTv, zlb, z1, z3, c1, c5, g1, g2, ix_y, if_pos hb, hn, i1, i2, if_pos ib0, (ty_b0 _), q1, q2.1, q2.2, if_false, if_true, reduceCtorEq]
      · show x_variable (zMI S) (zMA S) _ _ = _
        simp only [x_variable, n1, n2, ix_x, if_pos hb, hn, if_true]
        rw [(hv (p * 4 + v) (by omega)).2.1]
      · intro _
        rw [zAL_self]
        rfl
    · have n1 := (np_eq a1).1.mpr q1
      have n2 : ¬ x_noVariable a2 = 0 := mt (nv_e2 a2).mp q2
      refine ⟨_, ⟨1, 0, szEx S 14, upd (zMI S) 0 1, zMA S, ?_, ?_, rfl, fun z => absurd z (by decide), rfl⟩, RO_x 14 1⟩
      · by_cases q3 : a2 < 0
        · simp only [yL_variable, y_variable, y_needVariable, zob, zcH, zcHv, zcT, zcTv, z1, (ty_b0 _), q1, q3, if_false, if_true, reduceCtorEq]
        · have q4 : ¬ a2 < 4 := fun z => q2 ⟨q3, z⟩
          simp only [yL_variable, y_variable, y_needVariable, zob, zcH, zcHv, zcT, zcTv, z1, (ty_b0 _), q1, q3, q4, if_false, if_true, reduceCtorEq]
      · show x_variable (zMI S) (zMA S) _ _ = _
        simp only [x_variable, n1, n2, if_true, if_false]
  · have n1 : ¬ x_noParty a1 = 0 := mt (np_eq a1).1.mp q1
    have q1' : rd_rp a1 = false := by simpa using q1
    refine ⟨_, ⟨1, 0, szEx S 14, upd (zMI S) 0 1, zMA S, ?_, ?_, rfl, fun z => absurd z (by decide), rfl⟩, RO_x 14 1⟩
    · simp only [yL_variable, y_variable, y_needVariable, zob, zcH, zcHv, zcT, zcTv, z1, (ty_b0 _), q1', if_false, if_true, reduceCtorEq]
    · show x_variable (zMI S) (zMA S) _ _ = _
      simp only [x_variable, n1, if_true, if_false]
