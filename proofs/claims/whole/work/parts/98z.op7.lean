def ROM (S S' : hS) : Prop := ∃ r, 1 ≤ r ∧ r ≤ 8 ∧ S' = szM (szI S 4 2 (Int32.ofNat r)) (upd (upd (zMI S) 0 0) 17 (Int32.ofNat r)) (zMA S) ∧ zMI S 18 = 0
theorem nat_r {x : Int32} (h0 : ¬ x < 1) (h : x ≤ 8) : ∃ r : Nat, 1 ≤ r ∧ r ≤ 8 ∧ x = Int32.ofNat r := by
  have y1 := mt Int32.lt_iff_toInt_lt.mpr h0
  have y2 := Int32.le_iff_toInt_le.mp h
  rw [show (1 : Int32).toInt = 1 from rfl] at y1
  rw [show (8 : Int32).toInt = 8 from rfl] at y2
  refine ⟨x.toInt.toNat, by omega, by omega, ?_⟩
  apply Int32.toInt_inj.mp
  rw [(j_n (by omega)).1]
  omega
theorem op_7 {S : hS} {a1 a2 a3 : Int32} (h : Bas S) (hL : Lod S) : ∃ S', Alk_7 S a1 a2 a3 S' ∧ (RO S S' ∨ ROM S S') := by
  obtain ⟨hl, hf, ht, hq, hv, hfl⟩ := h
  obtain ⟨⟨z1, z2, z3, z4⟩, ⟨b1, b2⟩, ⟨c1, c2, c3, c4, c5⟩, -⟩ := hf
  have hs : zI S 5 2 = zMI S 18 := hfl.2.2.1
  by_cases q1 : a1 < 1
  · refine ⟨_, ⟨1, 0, szEx S 11, upd (zMI S) 0 1, zMA S, ?_, ?_, rfl, rfl⟩, Or.inl (RO_x 11 1)⟩
    · simp only [yL_room, y_room, zob, zcH, zcHv, z1, if_pos q1, if_true]
    · show x_room (zMI S) (zMA S) _ = _
      simp only [x_room, if_pos q1]
  · by_cases q2 : a1 ≤ 8
    · cases hz : zR S 4 0 with
      | none =>
        have l0 := hL.mp hz
        refine ⟨_, ⟨2, 0, szEx S 12, upd (zMI S) 0 2, zMA S, ?_, ?_, rfl, rfl⟩, Or.inl (RO_x 12 2)⟩
        · simp only [yL_room, y_room, y_needNoStep, zob, zoc, zlb, zcH, zcHv, zcT, zcTv, z1, hz, if_neg q1, if_pos q2, if_true]
          rfl
        · show x_room (zMI S) (zMA S) _ = _
          simp only [x_room, if_neg q1, if_pos q2, l0, if_true]
      | some b =>
        have l0 : ¬ zMI S 10 = 0 := fun z => by rw [hL.mpr z] at hz; cases hz
        by_cases q3 : zMI S 18 = 0
        · obtain ⟨r, r1, r2, rfl⟩ := nat_r q1 q2
          refine ⟨_, ⟨0, 0, szI S 4 2 (Int32.ofNat r), upd (upd (zMI S) 0 0) 17 (Int32.ofNat r), zMA S, ?_, ?_, rfl, rfl⟩, Or.inr ⟨r, r1, r2, rfl, q3⟩⟩
          · simp only [yL_room, y_room, y_needNoStep, zob, zoc, zlb, zcH, zcHv, zcT, zcTv, z1, z3, hz, c1, hs, q3, if_neg q1, if_pos q2, if_true]
          · show x_room (zMI S) (zMA S) _ = _
            simp only [x_room, if_neg q1, if_pos q2, if_neg l0, q3, if_true]
        · refine ⟨_, ⟨2, 0, szEx S 12, upd (zMI S) 0 2, zMA S, ?_, ?_, rfl, rfl⟩, Or.inl (RO_x 12 2)⟩
          · simp only [yL_room, y_room, y_needNoStep, zob, zoc, zlb, zcH, zcHv, zcT, zcTv, z1, z3, hz, c1, hs, if_neg q3, if_neg q1, if_pos q2, if_true]
            rfl
          · show x_room (zMI S) (zMA S) _ = _
            simp only [x_room, if_neg q1, if_pos q2, if_neg l0, if_neg q3]
    · refine ⟨_, ⟨1, 0, szEx S 11, upd (zMI S) 0 1, zMA S, ?_, ?_, rfl, rfl⟩, Or.inl (RO_x 11 1)⟩
      · simp only [yL_room, y_room, zob, zcH, zcHv, z1, if_neg q1, if_neg q2, if_true]
      · show x_room (zMI S) (zMA S) _ = _
        simp only [x_room, if_neg q1, if_neg q2]
