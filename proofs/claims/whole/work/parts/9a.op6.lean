def INP (S S' : hS) : Prop := ∃ i v g, i < 24 ∧ S' = szM (szAL (szAI (szAI S 5 (upd (zAI S 5) i v)) 6 (upd (zAI S 6) i v)) 177 g) (upd (zMI S) 0 0) (upA (upA (zMA S) 33 (upd (zMA S 33) i v)) 34 (upd (zMA S 34) i v)) ∧ zMI S 18 = 0
theorem ztg_AI {S : hS} {a b : Nat} {g : Nat → Int32} : ztg (szAI S a g) b = ztg S b := rfl
theorem zLen_AI {S : hS} {a b : Nat} {g : Nat → Int32} : zLen (szAI S a g) b = zLen S b := rfl
theorem zAL_AI {S : hS} {a b : Nat} {g : Nat → Int32} : zAL (szAI S a g) b = zAL S b := rfl
theorem zAI_56 {S : hS} {g : Nat → Int32} : zAI (szAI S 5 g) 6 = zAI S 6 := zAI_n (by decide)
theorem op_6 {S : hS} {a1 a2 a3 : Int32} (h : Bas S) (hL : Lod S) : ∃ S', Alk_6 S a1 a2 a3 S' ∧ (RO S S' ∨ INP S S') := by
  obtain ⟨hl, hf, ht, hq, hv, hfl⟩ := h
  obtain ⟨⟨z1, z2, z3, z4⟩, ⟨b1, b2⟩, ⟨c1, c2, c3, c4, c5⟩, ⟨d1, d2, d3⟩, ⟨e1, e2, e3⟩, ⟨f1, f2⟩, ⟨g1, g2⟩, ⟨h1, h2⟩, ⟨i1, i2⟩, j1, k1⟩ := hf
  have hs : zI S 5 2 = zMI S 18 := hfl.2.2.1
  by_cases q1 : rd_rp a1 = true
  · by_cases q2 : ¬ a2 < 0 ∧ a2 < 4
    · obtain ⟨p, hp, rfl⟩ := pt_c a1 q1
      obtain ⟨v, hv2, rfl⟩ := va_d q2.1 q2.2
      have n1 := (np_eq (Int32.ofNat p)).1.mpr q1
      have n2 := (nv_e2 (Int32.ofNat v)).mpr q2
      have hb : ib (Int32.ofNat (p * 4 + v)) 24 := j_in (by omega) (by omega)
      have hn := (j_n (n := p * 4 + v) (by omega)).2
      cases hz : zR S 4 0 with
      | none =>
        have l0 := hL.mp hz
        refine ⟨_, ⟨2, 0, szEx S 12, upd (zMI S) 0 2, zMA S, ?_, ?_, rfl, fun z => absurd z (by decide), rfl⟩, Or.inl (RO_x 12 2)⟩
        · simp only [yL_input, y_input, y_needVariable, y_needNoStep, zob, zoc, zcH, zcHv, zcT, zcTv, zlb, z1, hz, (ty_b0 _), q1, q2.1, q2.2, if_false, if_true, reduceCtorEq]
          rfl
        · show x_input (zMI S) (zMA S) _ _ _ = _
          simp only [x_input, n1, n2, l0, if_true]
      | some b =>
        have l0 : ¬ zMI S 10 = 0 := fun z => by rw [hL.mpr z] at hz; cases hz
        by_cases q3 : zMI S 18 = 0
        · refine ⟨_, ⟨0, zAI S 5 (p * 4 + v), szAL (szAI (szAI S 5 (upd (zAI S 5) (p * 4 + v) a3)) 6 (upd (zAI S 6) (p * 4 + v) a3)) 177 (vp_updL (zAL S 177) 0 (Int32.toInt64 (zAI S 5 (p * 4 + v)))), upd (zMI S) 0 0, _, ?_, ?_, rfl, ?_, rfl⟩, Or.inr ⟨p * 4 + v, a3, _, by omega, rfl, q3⟩⟩
          · simp only [yL_input, y_input, y_needVariable, y_needNoStep, zob, zoc, zcH, zcHv, zcT, zcTv, zlb, z1, z3, hz, c1, c4, c5, hs, q3, f1, f2, g1, g2, ix_y, if_pos hb, hn, ztg_AI, zLen_AI, zAL_AI, zAI_56, i1, i2, if_pos ib0, (ty_b0 _), q1, q2.1, q2.2, if_false, if_true, reduceCtorEq]
          · show x_input (zMI S) (zMA S) _ _ _ = _
            simp only [x_input, n1, n2, if_neg l0, q3, ix_x, if_pos hb, hn, if_true]
            rw [(hv (p * 4 + v) (by omega)).1]
          · intro _
            rw [zAL_self]
            rfl
        · refine ⟨_, ⟨2, 0, szEx S 12, upd (zMI S) 0 2, zMA S, ?_, ?_, rfl, fun z => absurd z (by decide), rfl⟩, Or.inl (RO_x 12 2)⟩
          · simp only [yL_input, y_input, y_needVariable, y_needNoStep, zob, zoc, zcH, zcHv, zcT, zcTv, zlb, z1, z3, hz, c1, hs, if_neg q3, (ty_b0 _), q1, q2.1, q2.2, if_false, if_true, reduceCtorEq]
            rfl
          · show x_input (zMI S) (zMA S) _ _ _ = _
            simp only [x_input, n1, n2, if_neg l0, if_neg q3, if_true]
    · have n1 := (np_eq a1).1.mpr q1
      have n2 : ¬ x_noVariable a2 = 0 := mt (nv_e2 a2).mp q2
      refine ⟨_, ⟨1, 0, szEx S 14, upd (zMI S) 0 1, zMA S, ?_, ?_, rfl, fun z => absurd z (by decide), rfl⟩, Or.inl (RO_x 14 1)⟩
      · by_cases q3 : a2 < 0
        · simp only [yL_input, y_input, y_needVariable, zob, zcH, zcHv, zcT, zcTv, z1, (ty_b0 _), q1, q3, if_false, if_true, reduceCtorEq]
        · have q4 : ¬ a2 < 4 := fun z => q2 ⟨q3, z⟩
          simp only [yL_input, y_input, y_needVariable, zob, zcH, zcHv, zcT, zcTv, z1, (ty_b0 _), q1, q3, q4, if_false, if_true, reduceCtorEq]
      · show x_input (zMI S) (zMA S) _ _ _ = _
        simp only [x_input, n1, n2, if_true, if_false]
  · have n1 : ¬ x_noParty a1 = 0 := mt (np_eq a1).1.mp q1
    have q1' : rd_rp a1 = false := by simpa using q1
    refine ⟨_, ⟨1, 0, szEx S 14, upd (zMI S) 0 1, zMA S, ?_, ?_, rfl, fun z => absurd z (by decide), rfl⟩, Or.inl (RO_x 14 1)⟩
    · simp only [yL_input, y_input, y_needVariable, zob, zcH, zcHv, zcT, zcTv, z1, (ty_b0 _), q1', if_false, if_true, reduceCtorEq]
    · show x_input (zMI S) (zMA S) _ _ _ = _
      simp only [x_input, n1, if_false]
