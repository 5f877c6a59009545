theorem nat_o {x : Int32} {t : Nat} (h0 : ¬ x < 0) (h : x < Int32.ofNat t) (ht : t ≤ 600) : ∃ i : Nat, i < t ∧ x = Int32.ofNat i := by
  have y1 := mt Int32.lt_iff_toInt_lt.mpr h0
  have y2 := Int32.lt_iff_toInt_lt.mp h
  rw [(j_n (n := t) (by omega)).1] at y2
  rw [show (0 : Int32).toInt = 0 from rfl] at y1
  refine ⟨x.toInt.toNat, by omega, ?_⟩
  apply Int32.toInt_inj.mp
  rw [(j_n (by omega)).1]
  omega
theorem ix_t (p i : Nat) : 1000 * Int32.ofNat p + Int32.ofNat i = Int32.ofNat (1000 * p + i) := by
  rw [show (1000 : Int32) = Int32.ofNat 1000 from rfl, ty_mul, ty_add]
theorem op_5 {S : hS} {a1 a2 a3 : Int32} (h : Bas S) (hL : Lod S) (hP : Prt S) : ∃ S', Alk_5 S a1 a2 a3 S' ∧ RO S S' := by
  obtain ⟨hl, hf, ht, hq, hv, hfl⟩ := h
  obtain ⟨⟨z1, z2, z3, z4⟩, ⟨b1, b2⟩, ⟨c1, c2, c3, c4, c5⟩, ⟨d1, d2, d3⟩, ⟨e1, e2, e3⟩, ⟨f1, f2⟩, ⟨g1, g2⟩, ⟨h1, h2⟩, ⟨i1, i2⟩, j1, k1⟩ := hf
  by_cases q1 : rd_rp a1 = true
  · obtain ⟨p, hp, rfl⟩ := pt_c a1 q1
    have n1 := (np_eq (Int32.ofNat p)).1.mpr q1
    have hb : ib (Int32.ofNat p) 6 := j_in (by omega) hp
    have hn := (j_n (n := p) (by omega)).2
    have ha : zar S 3 := by unfold zar; rw [d1]; decide
    obtain ⟨y1, y2, y3, y4, y5, y6⟩ := j1 p hp
    obtain ⟨t, u1, u2, u3, u4⟩ := hP p hp
    cases hz : zR S 4 0 with
    | none =>
      have l0 := hL.mp hz
      refine ⟨_, ⟨2, 0, szEx S 12, upd (zMI S) 0 2, zMA S, ?_, ?_, rfl, fun z => absurd z (by decide), rfl⟩, RO_x 12 2⟩
      · simp only [yL_letter, y_letter, y_needParty, y_needPlay, zob, zoc, zcH, zcHv, zcT, zcTv, zlb, z1, hz, (ty_b0 _), q1, if_false, if_true, reduceCtorEq]
        rfl
      · show x_letter (zMI S) (zMA S) _ _ = _
        simp only [x_letter, n1, l0, if_true]
    | some b =>
      have l0 : ¬ zMI S 10 = 0 := fun z => by rw [hL.mpr z] at hz; cases hz
      by_cases q2 : a2 < 0
      · refine ⟨_, ⟨3, 0, szEx S 15, upd (zMI S) 0 3, zMA S, ?_, ?_, rfl, fun z => absurd z (by decide), rfl⟩, RO_x 15 3⟩
        · simp only [yL_letter, y_letter, y_needParty, y_needPlay, zob, zoc, zcH, zcHv, zcT, zcTv, zlb, z1, z3, hz, c1, c2, if_pos ha, d2, if_pos hb, hn, d3, rf3_at p hp, y1, y2, if_pos q2, (ty_b0 _), q1, if_false, if_true, reduceCtorEq]
          rfl
        · show x_letter (zMI S) (zMA S) _ _ = _
          simp only [x_letter, n1, if_neg l0, if_pos q2, if_true]
      · by_cases q3 : a2 < Int32.ofNat t
        · obtain ⟨i, hi, rfl⟩ := nat_o q2 q3 u1
          have hb2 : ib (Int32.ofNat i) 600 := j_in (by omega) (by omega)
          have hb3 : ib (Int32.ofNat (1000 * p + i)) 6000 := j_in (by omega) (by omega)
          have hn2 := (j_n (n := i) (by omega)).2
          have hn3 := (j_n (n := 1000 * p + i) (by omega)).2
          refine ⟨_, ⟨0, zAI S (9 + 3 * p) i, szAL S 177 (vp_updL (zAL S 177) 0 (Int32.toInt64 (zAI S (9 + 3 * p) i))), upd (zMI S) 0 0, zMA S, ?_, ?_, rfl, ?_, rfl⟩, RO_l _ 0⟩
          · simp only [yL_letter, y_letter, y_needParty, y_needPlay, zob, zoc, zcH, zcHv, zcT, zcTv, zlb, z1, z3, hz, c1, c2, if_pos ha, d2, if_pos hb, hn, d3, rf3_at p hp, y1, y2, y3, y4, y5, y6, if_neg q2, u2, if_pos q3, if_pos hb2, hn2, i1, i2, if_pos ib0, (ty_b0 _), q1, if_false, if_true, reduceCtorEq]
          · show x_letter (zMI S) (zMA S) _ _ = _
            simp only [x_letter, n1, if_neg l0, if_neg q2, if_pos hb, hn, u3, if_pos q3, ix_t, if_pos hb3, hn3, if_true]
            rw [u4 i hi]
          · intro _
            rw [zAL_self]
            rfl
        · refine ⟨_, ⟨3, 0, szEx S 15, upd (zMI S) 0 3, zMA S, ?_, ?_, rfl, fun z => absurd z (by decide), rfl⟩, RO_x 15 3⟩
          · simp only [yL_letter, y_letter, y_needParty, y_needPlay, zob, zoc, zcH, zcHv, zcT, zcTv, zlb, z1, z3, hz, c1, c2, if_pos ha, d2, if_pos hb, hn, d3, rf3_at p hp, y1, y2, y3, if_neg q2, u2, if_neg q3, (ty_b0 _), q1, if_false, if_true, reduceCtorEq]
            rfl
          · show x_letter (zMI S) (zMA S) _ _ = _
            simp only [x_letter, n1, if_neg l0, if_neg q2, if_pos hb, hn, u3, if_neg q3, if_true]
  · have n1 : ¬ x_noParty a1 = 0 := mt (np_eq a1).1.mp q1
    have q1' : rd_rp a1 = false := by simpa using q1
    refine ⟨_, ⟨1, 0, szEx S 14, upd (zMI S) 0 1, zMA S, ?_, ?_, rfl, fun z => absurd z (by decide), rfl⟩, RO_x 14 1⟩
    · simp only [yL_letter, y_letter, y_needParty, zob, zcH, zcHv, zcT, zcTv, z1, (ty_b0 _), q1', if_false, if_true, reduceCtorEq]
    · show x_letter (zMI S) (zMA S) _ _ = _
      simp only [x_letter, n1, if_false]
