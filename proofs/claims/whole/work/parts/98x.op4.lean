def Lod (S : hS) : Prop := zR S 4 0 = none ↔ zMI S 10 = 0
def Prt (S : hS) : Prop := ∀ p, p < 6 → ∃ t, t ≤ 600 ∧ zI S 1 (8 + 3 * p) = Int32.ofNat t ∧ zMA S 27 p = Int32.ofNat t ∧ ∀ i, i < t → zAI S (9 + 3 * p) i = zMA S 26 (1000 * p + i)
theorem op_4 {S : hS} {a1 a2 a3 : Int32} (h : Bas S) (hL : Lod S) (hP : Prt S) : ∃ S', Alk_4 S a1 a2 a3 S' ∧ RO S S' := by
  obtain ⟨hl, hf, ht, hq, hv, hfl⟩ := h
  obtain ⟨⟨z1, z2, z3, z4⟩, ⟨b1, b2⟩, ⟨c1, c2, c3, c4, c5⟩, ⟨d1, d2, d3⟩, ⟨e1, e2, e3⟩, ⟨f1, f2⟩, ⟨g1, g2⟩, ⟨h1, h2⟩, ⟨i1, i2⟩, j1, k1⟩ := hf
  by_cases q1 : rd_rp a1 = true
  · obtain ⟨p, hp, rfl⟩ := pt_c a1 q1
    have n1 := (np_eq (Int32.ofNat p)).1.mpr q1
    have hb : ib (Int32.ofNat p) 6 := j_in (by omega) hp
    have hn := (j_n (n := p) (by omega)).2
    have ha : zar S 3 := by unfold zar; rw [d1]; decide
    obtain ⟨y1, y2, y3, y4, y5, y6⟩ := j1 p hp
    obtain ⟨t, u1, u2, u3, u4⟩ := hP p hp
    cases hz : zR S 4 0 with
    | none =>
      have l0 := hL.mp hz
      refine ⟨_, ⟨2, 0, szEx S 12, upd (zMI S) 0 2, zMA S, ?_, ?_, rfl, fun z => absurd z (by decide), rfl⟩, RO_x 12 2⟩
      · simp only [yL_length, y_length, y_needParty, y_needPlay, zob, zoc, zcH, zcHv, zcT, zcTv, zlb, z1, hz, (ty_b0 _), q1, if_false, if_true, reduceCtorEq]
        rfl
      · show x_length (zMI S) (zMA S) _ = _
        simp only [x_length, n1, l0, if_true]
    | some b =>
      have l0 : ¬ zMI S 10 = 0 := fun z => by rw [hL.mpr z] at hz; cases hz
      refine ⟨_, ⟨0, zI S 1 (8 + 3 * p), szAL S 177 (vp_updL (zAL S 177) 0 (Int32.toInt64 (zI S 1 (8 + 3 * p)))), upd (zMI S) 0 0, zMA S, ?_, ?_, rfl, ?_, rfl⟩, RO_l _ 0⟩
      · simp only [yL_length, y_length, y_needParty, y_needPlay, zob, zoc, zcH, zcHv, zcT, zcTv, zlb, z1, z3, hz, c1, c2, if_pos ha, d2, if_pos hb, hn, d3, rf3_at p hp, y1, y2, y3, i1, i2, if_pos ib0, (ty_b0 _), q1, if_false, if_true, reduceCtorEq]
      · show x_length (zMI S) (zMA S) _ = _
        simp only [x_length, n1, if_neg l0, if_pos hb, hn, if_true]
        rw [u2, u3]
      · intro _
        rw [zAL_self]
        rfl
  · have n1 : ¬ x_noParty a1 = 0 := mt (np_eq a1).1.mp q1
    have q1' : rd_rp a1 = false := by simpa using q1
    refine ⟨_, ⟨1, 0, szEx S 14, upd (zMI S) 0 1, zMA S, ?_, ?_, rfl, fun z => absurd z (by decide), rfl⟩, RO_x 14 1⟩
    · simp only [yL_length, y_length, y_needParty, zob, zcH, zcHv, zcT, zcTv, z1, (ty_b0 _), q1', if_false, if_true, reduceCtorEq]
    · show x_length (zMI S) (zMA S) _ = _
      simp only [x_length, n1, if_false]
