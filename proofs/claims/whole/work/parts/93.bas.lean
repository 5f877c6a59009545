def Txt (S : hS) : Prop := ∃ c, c ≤ 200 ∧ zI S 1 0 = Int32.ofNat c ∧ zMI S 1 = Int32.ofNat c ∧ ∀ i, i < c → zAI S 1 i = zMA S 1 i ∧ 33 ≤ (zAI S 1 i).toInt ∧ (zAI S 1 i).toInt ≤ 126
def Que (S : hS) : Prop := ∃ r, 1 ≤ r ∧ r ≤ 8 ∧ zI S 4 2 = Int32.ofNat r ∧ zMI S 17 = Int32.ofNat r ∧ ∀ k, k < 36 → ∃ h z, h < 8 ∧ z ≤ r ∧ zI S 2 (25 + 3 * k) = Int32.ofNat h ∧ zI S 3 (25 + 3 * k) = Int32.ofNat z ∧ zMA S 39 k = Int32.ofNat z ∧ ∀ i, i < z → zAI S (26 + 3 * k) ((h + i) % 8) = zMA S 40 (8 * k + i) ∧ zAI S (27 + 3 * k) ((h + i) % 8) = zMA S 41 (8 * k + i) ∧ (zMA S 41 (8 * k + i) = 0 ∨ zMA S 41 (8 * k + i) = 1)
def Var (S : hS) : Prop := ∀ i, i < 24 → zAI S 5 i = zMA S 33 i ∧ zAI S 6 i = zMA S 34 i ∧ zAI S 133 i = zMA S 35 i
def Flt (S : hS) : Prop := zI S 2 0 = zMI S 2 ∧ zI S 3 0 = zMI S 3 ∧ (zI S 5 2 = zMI S 18 ∧ (zMI S 18 = 0 ∨ zMI S 18 = 1))
def Bas (S : hS) : Prop := Lay S ∧ Fix S ∧ Txt S ∧ Que S ∧ Var S ∧ Flt S
def RO (S S' : hS) : Prop := ∃ S1 k, Fw [] S S1 ∧ S1.1 ≤ S.1 + 1 ∧ S' = szM S1 (upd (zMI S) 0 k) (zMA S)
theorem Bas_ro {S S' : hS} (h : Bas S) (r : RO S S') : Bas S' := by
  obtain ⟨S1, k, hw, -, rfl⟩ := r
  obtain ⟨hl, hf, ht, hq, hv, hfl⟩ := h
  have hf1 : Fix S1 := Fix_fw (by decide) hf hw
  have hf' := hf
  obtain ⟨⟨a1, a2, a3, a4⟩, ⟨b1, b2⟩, ⟨c1, c2, c3, c4, c5⟩, ⟨d1, d2, d3⟩, ⟨e1, e2, e3⟩, ⟨f1, f2⟩, ⟨g1, g2⟩, ⟨h1, h2⟩, ⟨i1, i2⟩, j1, k1⟩ := hf'
  refine ⟨Lay_M (Lay_ex hl hw.1), Fix_M hf1, ?_, ?_, ?_, ?_⟩
  · obtain ⟨c, q1, q2, q3, q4⟩ := ht
    refine ⟨c, q1, ?_, q3, ?_⟩
    · show zI S1 1 0 = _
      rw [zI_fw a1 hw rfl]; exact q2
    · show ∀ i, i < c → zAI S1 1 i = zMA S 1 i ∧ 33 ≤ (zAI S1 1 i).toInt ∧ (zAI S1 1 i).toInt ≤ 126
      rw [zAI_fw b1 hw rfl]; exact q4
  · obtain ⟨r, q1, q2, q3, q4, q5⟩ := hq
    refine ⟨r, q1, q2, ?_, q4, ?_⟩
    · show zI S1 4 2 = _
      rw [zI_fw c1 hw rfl]; exact q3
    · intro k hk
      obtain ⟨m1, m2, m3, m4, m5, m6, m7⟩ := k1 k hk
      obtain ⟨h, z, p1, p2, p3, p4, p5, p6⟩ := q5 k hk
      refine ⟨h, z, p1, p2, ?_, ?_, p5, ?_⟩
      · show zI S1 2 _ = _
        rw [zI_fw m1 hw rfl]; exact p3
      · show zI S1 3 _ = _
        rw [zI_fw m1 hw rfl]; exact p4
      · show ∀ i, i < z → zAI S1 (26 + 3 * k) ((h + i) % 8) = zMA S 40 (8 * k + i) ∧ zAI S1 (27 + 3 * k) ((h + i) % 8) = zMA S 41 (8 * k + i) ∧ _
        rw [zAI_fw m4 hw rfl, zAI_fw m6 hw rfl]; exact p6
  · intro i hi
    show zAI S1 5 i = zMA S 33 i ∧ zAI S1 6 i = zMA S 34 i ∧ zAI S1 133 i = zMA S 35 i
    rw [zAI_fw f1 hw rfl, zAI_fw g1 hw rfl, zAI_fw h1 hw rfl]
    exact hv i hi
  · obtain ⟨q1, q2, q3⟩ := hfl
    refine ⟨?_, ?_, ?_⟩
    · show zI S1 2 0 = zMI S 2
      rw [zI_fw a1 hw rfl]; exact q1
    · show zI S1 3 0 = zMI S 3
      rw [zI_fw a1 hw rfl]; exact q2
    · show zI S1 5 2 = zMI S 18 ∧ _
      rw [zI_fw c1 hw rfl]; exact q3
theorem RO_r {S : hS} (k : Int32) : RO S (szM S (upd (zMI S) 0 k) (zMA S)) := ⟨S, k, Fw_r, Nat.le_succ _, rfl⟩
theorem RO_x {S : hS} (c : Nat) (k : Int32) : RO S (szM (szEx S c) (upd (zMI S) 0 k) (zMA S)) := ⟨szEx S c, k, Fw_ex Fw_r, Nat.le_refl _, rfl⟩
theorem RO_l {S : hS} (g : Nat → Int64) (k : Int32) : RO S (szM (szAL S 177 g) (upd (zMI S) 0 k) (zMA S)) := ⟨szAL S 177 g, k, Fw_AL Fw_r, Nat.le_succ _, rfl⟩
theorem op_2 {S : hS} {a1 a2 a3 : Int32} (h : Bas S) : ∃ S', Alk_2 S a1 a2 a3 S' ∧ RO S S' := by
  obtain ⟨hl, hf, ht, hq, hv, hfl⟩ := h
  refine ⟨_, ⟨zI S 2 0, S, upd (zMI S) 0 0, zMA S, ?_, ?_, rfl⟩, RO_r 0⟩
  · unfold y_fault
    rw [if_pos hf.1.1]
  · unfold x_fault
    rw [hfl.1]
theorem op_3 {S : hS} {a1 a2 a3 : Int32} (h : Bas S) : ∃ S', Alk_3 S a1 a2 a3 S' ∧ RO S S' := by
  obtain ⟨hl, hf, ht, hq, hv, hfl⟩ := h
  refine ⟨_, ⟨zI S 3 0, S, upd (zMI S) 0 0, zMA S, ?_, ?_, rfl⟩, RO_r 0⟩
  · unfold y_who
    rw [if_pos hf.1.1]
  · unfold x_who
    rw [hfl.2.1]
theorem np_eq (x : Int32) : (x_noParty x = 0 ↔ rd_rp x = true) ∧ (x_noParty x = 0 ∨ x_noParty x = 1) := by
  unfold x_noParty rd_rp
  have e : (6 ≤ x) ↔ ¬ x ≤ 5 := by
    rw [Int32.le_iff_toInt_le, Int32.le_iff_toInt_le, show (6 : Int32).toInt = 6 by decide, show (5 : Int32).toInt = 5 by decide]
    omega
  by_cases q1 : x < 0
  · simp [q1]
  · by_cases q2 : x ≤ 5
    · simp [q1, q2, e]
    · simp [q1, q2, e]
theorem ty_b0 (b : Bool) : (ty_b b = 0) ↔ b = false := by cases b <;> decide
