theorem op_17 {S : hS} {a1 a2 a3 : Int32} (h : Bas S) : ∃ S', Alk_17 S a1 a2 a3 S' ∧ RO S S' := by
  obtain ⟨hl, hf, ht, hq, hv, hfl⟩ := h
  obtain ⟨⟨z1, z2, z3, z4⟩, ⟨b1, b2⟩, ⟨c1, c2, c3, c4, c5⟩, ⟨d1, d2, d3⟩, ⟨e1, e2, e3⟩, ⟨f1, f2⟩, ⟨g1, g2⟩, ⟨h1, h2⟩, ⟨i1, i2⟩, j1, k1⟩ := hf
  by_cases q1 : rd_rp a1 = true
  · by_cases q2 : ¬ a2 < 0 ∧ a2 < 4
    · obtain ⟨p, hp, rfl⟩ := pt_c a1 q1
      obtain ⟨v, hv2, rfl⟩ := va_d q2.1 q2.2
      have n1 := (np_eq (Int32.ofNat p)).1.mpr q1
      have n2 := (nv_e2 (Int32.ofNat v)).mpr q2
      have hb : ib (Int32.ofNat (p * 4 + v)) 24 := j_in (by omega) (by omega)
      have hn := (j_n (n := p * 4 + v) (by omega)).2
      refine ⟨_, ⟨0, zAI S 133 (p * 4 + v), szAL S 177 (vp_updL (zAL S 177) 0 (Int32.toInt64 (zAI S 133 (p * 4 + v)))), upd (zMI S) 0 0, zMA S, ?_, ?_, rfl, ?_, rfl⟩, RO_l _ 0⟩
      · simp only [yL_wanted, y_wanted, y_needVariable, zob, zcH, zcHv, zcT, zcTv, zlb, z1, z4, h1, h2, ix_y, if_pos hb, hn, i1, i2, if_pos ib0, (ty_b0 _), q1, q2.1, q2.2, if_false, if_true, reduceCtorEq]
      · show x_wanted (zMI S) (zMA S) _ _ = _
        simp only [x_wanted, n1, n2, ix_x, if_pos hb, hn, if_true]
        rw [(hv (p * 4 + v) (by omega)).2.2]
      · intro _
        rw [zAL_self]
        rfl
    · have n1 := (np_eq a1).1.mpr q1
      have n2 : ¬ x_noVariable a2 = 0 := mt (nv_e2 a2).mp q2
      refine ⟨_, ⟨1, 0, szEx S 14, upd (zMI S) 0 1, zMA S, ?_, ?_, rfl, fun z => absurd z (by decide), rfl⟩, RO_x 14 1⟩
      · by_cases q3 : a2 < 0
        · simp only [yL_wanted, y_wanted, y_needVariable, zob, zcH, zcHv, zcT, zcTv, z1, (ty_b0 _), q1, q3, if_false, if_true, reduceCtorEq]
        · have q4 : ¬ a2 < 4 := fun z => q2 ⟨q3, z⟩
          simp only [yL_wanted, y_wanted, y_needVariable, zob, zcH, zcHv, zcT, zcTv, z1, (ty_b0 _), q1, q3, q4, if_false, if_true, reduceCtorEq]
      · show x_wanted (zMI S) (zMA S) _ _ = _
        simp only [x_wanted, n1, n2, if_true, if_false]
  · have n1 : ¬ x_noParty a1 = 0 := mt (np_eq a1).1.mp q1
    have q1' : rd_rp a1 = false := by simpa using q1
    refine ⟨_, ⟨1, 0, szEx S 14, upd (zMI S) 0 1, zMA S, ?_, ?_, rfl, fun z => absurd z (by decide), rfl⟩, RO_x 14 1⟩
    · simp only [yL_wanted, y_wanted, y_needVariable, zob, zcH, zcHv, zcT, zcTv, z1, (ty_b0 _), q1', if_false, if_true, reduceCtorEq]
    · show x_wanted (zMI S) (zMA S) _ _ = _
      simp only [x_wanted, n1, if_true, if_false]
theorem ix_q (p q : Nat) : Int32.ofNat p * 6 + Int32.ofNat q = Int32.ofNat (p * 6 + q) ∧ 6 * Int32.ofNat p + Int32.ofNat q = Int32.ofNat (p * 6 + q) := by
  rw [show (6 : Int32) = Int32.ofNat 6 from rfl, ty_mul, ty_mul, ty_add, ty_add, Nat.mul_comm 6 p]
  exact ⟨rfl, rfl⟩
theorem qof {S : hS} (hf : Fix S) {p q : Nat} (hp : p < 6) (hq : q < 6) : yT_queueOf S 2 (Int32.ofNat p) (Int32.ofNat q) = some (S, some (25 + 3 * (p * 6 + q))) := by
  obtain ⟨⟨z1, z2, z3, z4⟩, ⟨b1, b2⟩, ⟨c1, c2, c3, c4, c5⟩, ⟨d1, d2, d3⟩, ⟨e1, e2, e3⟩, ⟨f1, f2⟩, ⟨g1, g2⟩, ⟨h1, h2⟩, ⟨i1, i2⟩, j1, k1⟩ := hf
  have hk : p * 6 + q < 36 := by omega
  have hb : ib (Int32.ofNat (p * 6 + q)) 36 := j_in (by omega) hk
  have hn := (j_n (n := p * 6 + q) (by omega)).2
  have ha : zar S 4 := by unfold zar; rw [e1]; decide
  simp only [yT_queueOf, zlb, zob, c1, c3, if_pos ha, (ix_q p q).1, e2, if_pos hb, hn, e3, rf4_at _ hk, if_true]
theorem np_2 (x y : Int32) : x_noQueue x y = 0 ↔ rd_rp x = true ∧ rd_rp y = true ∧ ¬ x = y := by
  unfold x_noQueue
  by_cases q1 : rd_rp x = true
  · by_cases q2 : rd_rp y = true
    · by_cases q3 : x = y
      · simp [(np_eq x).1.mpr q1, (np_eq y).1.mpr q2, q3]
      · simp [(np_eq x).1.mpr q1, (np_eq y).1.mpr q2, q1, q2, q3]
    · have := mt (np_eq y).1.mp q2
      simp [(np_eq x).1.mpr q1, this, q2]
  · have := mt (np_eq x).1.mp q1
    simp [this, q1]
theorem npair {S : hS} {x y : Int32} : y_needPair S x y = if x_noQueue x y = 0 then some (S, .inr 0) else some (szEx S 14, .inl 14) := by
  unfold y_needPair
  by_cases q1 : rd_rp x = true
  · by_cases q2 : rd_rp y = true
    · by_cases q3 : x = y
      · rw [if_neg (mt (np_2 x y).mp (fun z => z.2.2 q3))]
        simp only [ty_b0, q1, q2, q3, if_true, if_false, reduceCtorEq]
      · rw [if_pos ((np_2 x y).mpr ⟨q1, q2, q3⟩)]
        simp only [ty_b0, q1, q2, q3, if_true, if_false, reduceCtorEq]
    · rw [if_neg (mt (np_2 x y).mp (fun z => q2 z.2.1))]
      have q2' : rd_rp y = false := by simpa using q2
      simp only [ty_b0, q1, q2', if_true, if_false, reduceCtorEq]
  · rw [if_neg (mt (np_2 x y).mp (fun z => q1 z.1))]
    have q1' : rd_rp x = false := by simpa using q1
    simp only [ty_b0, q1', if_true, if_false, reduceCtorEq]
theorem op_13 {S : hS} {a1 a2 a3 : Int32} (h : Bas S) : ∃ S', Alk_13 S a1 a2 a3 S' ∧ RO S S' := by
  obtain ⟨hl, hf, ht, hq, hv, hfl⟩ := h
  have hf' := hf
  obtain ⟨⟨z1, z2, z3, z4⟩, ⟨b1, b2⟩, ⟨c1, c2, c3, c4, c5⟩, ⟨d1, d2, d3⟩, ⟨e1, e2, e3⟩, ⟨f1, f2⟩, ⟨g1, g2⟩, ⟨h1, h2⟩, ⟨i1, i2⟩, j1, k1⟩ := hf
  by_cases q1 : x_noQueue a1 a2 = 0
  · obtain ⟨w1, w2, w3⟩ := (np_2 a1 a2).mp q1
    obtain ⟨p, hp, rfl⟩ := pt_c a1 w1
    obtain ⟨q, hq2, rfl⟩ := pt_c a2 w2
    obtain ⟨r, r1, r2, r3, r4, r5⟩ := hq
    have hk : p * 6 + q < 36 := by omega
    obtain ⟨h, z, p1, p2, p3, p4, p5, p6⟩ := r5 _ hk
    obtain ⟨m1, m2, m3, m4, m5, m6, m7⟩ := k1 _ hk
    have hb : ib (Int32.ofNat (p * 6 + q)) 36 := j_in (by omega) hk
    have hn := (j_n (n := p * 6 + q) (by omega)).2
    have e : y_queue S 0 (Int32.ofNat p) (Int32.ofNat q) = some (S, .inr (Int32.ofNat z)) := by
      simp only [y_queue, npair, q1, zcT, zcTv, zlb, zob, z1, z3, c1, zcP, qof hf' hp hq2, m1, p4, if_true]
    refine ⟨_, ⟨0, Int32.ofNat z, szAL S 177 (vp_updL (zAL S 177) 0 (Int32.toInt64 (Int32.ofNat z))), upd (zMI S) 0 0, zMA S, ?_, ?_, rfl, ?_, rfl⟩, RO_l _ 0⟩
    · simp only [yL_queue, zob, z1, e, zcH, zcHv, i1, i2, if_pos ib0, if_true]
    · show x_queue (zMI S) (zMA S) _ _ = _
      simp only [x_queue, q1, (ix_q p q).2, if_pos hb, hn, p5, if_true]
    · intro _
      rw [zAL_self]
      rfl
  · have e : y_queue S 0 a1 a2 = some (szEx S 14, .inl 14) := by
      simp only [y_queue, npair, q1, zcT, zcTv, if_false]
    refine ⟨_, ⟨1, 0, szEx S 14, upd (zMI S) 0 1, zMA S, ?_, ?_, rfl, fun z => absurd z (by decide), rfl⟩, RO_x 14 1⟩
    · simp only [yL_queue, zob, z1, e, zcH, zcHv, if_true]
    · show x_queue (zMI S) (zMA S) _ _ = _
      simp only [x_queue, q1, if_false]
theorem rm8 : ∀ m, m < 16 → Int32.ofNat m - Int32.ofNat m / 8 * 8 = Int32.ofNat (m % 8) := by decide
theorem ix_8 (k i : Nat) : 8 * Int32.ofNat k + Int32.ofNat i = Int32.ofNat (8 * k + i) := by
  rw [show (8 : Int32) = Int32.ofNat 8 from rfl, ty_mul, ty_add]
theorem nmsg {S : hS} (hf : Fix S) {p q z : Nat} {x : Int32} (hp : p < 6) (hq : q < 6) (hz : z ≤ 8) (q1 : x_noQueue (Int32.ofNat p) (Int32.ofNat q) = 0) (p4 : zI S 3 (25 + 3 * (p * 6 + q)) = Int32.ofNat z) : y_needMessage S 0 (Int32.ofNat p) (Int32.ofNat q) x = if x < 0 then some (szEx S 15, .inl 15) else if x < Int32.ofNat z then some (S, .inr 0) else some (szEx S 15, .inl 15) := by
  have hf' := hf
  obtain ⟨⟨z1, z2, z3, z4⟩, ⟨b1, b2⟩, ⟨c1, c2, c3, c4, c5⟩, ⟨d1, d2, d3⟩, ⟨e1, e2, e3⟩, ⟨f1, f2⟩, ⟨g1, g2⟩, ⟨h1, h2⟩, ⟨i1, i2⟩, j1, k1⟩ := hf
  obtain ⟨m1, m2, m3, m4, m5, m6, m7⟩ := k1 (p * 6 + q) (by omega)
  simp only [y_needMessage, npair, q1, zcT, zcTv, zlb, zob, z1, z3, c1, zcP, qof hf' hp hq, m1, p4, if_true]
theorem va_8 {S : hS} (hf : Fix S) {k h z i : Nat} (hk : k < 36) (hh : h < 8) (hi : i < z) (hz : z ≤ 8) (p3 : zI S 2 (25 + 3 * k) = Int32.ofNat h) : yQ_valueAt S (25 + 3 * k) (Int32.ofNat i) = some (S, zAI S (26 + 3 * k) ((h + i) % 8)) := by
  obtain ⟨⟨z1, z2, z3, z4⟩, ⟨b1, b2⟩, ⟨c1, c2, c3, c4, c5⟩, ⟨d1, d2, d3⟩, ⟨e1, e2, e3⟩, ⟨f1, f2⟩, ⟨g1, g2⟩, ⟨h1, h2⟩, ⟨i1, i2⟩, j1, k1⟩ := hf
  obtain ⟨m1, m2, m3, m4, m5, m6, m7⟩ := k1 k hk
  have hm : (h + i) % 8 < 8 := Nat.mod_lt _ (by decide)
  have hb : ib (Int32.ofNat ((h + i) % 8)) 8 := j_in (by omega) hm
  have hn := (j_n (n := (h + i) % 8) (by omega)).2
  simp only [yQ_valueAt, zlb, zob, m1, m2, m4, m5, p3, ty_add, rm8 (h + i) (by omega), if_pos hb, hn, if_true]
theorem la_8 {S : hS} (hf : Fix S) {k h z i : Nat} (hk : k < 36) (hh : h < 8) (hi : i < z) (hz : z ≤ 8) (p3 : zI S 2 (25 + 3 * k) = Int32.ofNat h) (hl : zAI S (27 + 3 * k) ((h + i) % 8) = 0 ∨ zAI S (27 + 3 * k) ((h + i) % 8) = 1) : yQ_isLabelAt S (25 + 3 * k) (Int32.ofNat i) = some (S, zAI S (27 + 3 * k) ((h + i) % 8)) := by
  obtain ⟨⟨z1, z2, z3, z4⟩, ⟨b1, b2⟩, ⟨c1, c2, c3, c4, c5⟩, ⟨d1, d2, d3⟩, ⟨e1, e2, e3⟩, ⟨f1, f2⟩, ⟨g1, g2⟩, ⟨h1, h2⟩, ⟨i1, i2⟩, j1, k1⟩ := hf
  obtain ⟨m1, m2, m3, m4, m5, m6, m7⟩ := k1 k hk
  have hm : (h + i) % 8 < 8 := Nat.mod_lt _ (by decide)
  have hb : ib (Int32.ofNat ((h + i) % 8)) 8 := j_in (by omega) hm
  have hn := (j_n (n := (h + i) % 8) (by omega)).2
  simp only [yQ_isLabelAt, zlb, zob, m1, m3, m6, m7, p3, ty_add, rm8 (h + i) (by omega), if_pos hb, hn, if_true]
  rw [if_pos hl]
theorem op_14 {S : hS} {a1 a2 a3 : Int32} (h : Bas S) : ∃ S', Alk_14 S a1 a2 a3 S' ∧ RO S S' := by
  obtain ⟨hl, hf, ht, hq, hv, hfl⟩ := h
  have hf' := hf
  obtain ⟨⟨z1, z2, z3, z4⟩, ⟨b1, b2⟩, ⟨c1, c2, c3, c4, c5⟩, ⟨d1, d2, d3⟩, ⟨e1, e2, e3⟩, ⟨f1, f2⟩, ⟨g1, g2⟩, ⟨h1, h2⟩, ⟨i1, i2⟩, j1, k1⟩ := hf
  by_cases q1 : x_noQueue a1 a2 = 0
  · obtain ⟨w1, w2, w3⟩ := (np_2 a1 a2).mp q1
    obtain ⟨p, hp, rfl⟩ := pt_c a1 w1
    obtain ⟨q, hq2, rfl⟩ := pt_c a2 w2
    obtain ⟨r, r1, r2, r3, r4, r5⟩ := hq
    have hk : p * 6 + q < 36 := by omega
    obtain ⟨h, z, p1, p2, p3, p4, p5, p6⟩ := r5 _ hk
    obtain ⟨m1, m2, m3, m4, m5, m6, m7⟩ := k1 _ hk
    have hb : ib (Int32.ofNat (p * 6 + q)) 36 := j_in (by omega) hk
    have hn := (j_n (n := p * 6 + q) (by omega)).2
    have hm := nmsg (x := a3) hf' hp hq2 (by omega : z ≤ 8) q1 p4
    by_cases q2 : a3 < 0
    · rw [if_pos q2] at hm
      have e : y_message S 0 (Int32.ofNat p) (Int32.ofNat q) a3 = some (szEx S 15, .inl 15) := by
        simp only [y_message, hm, zcT, zcTv, z1, if_true]
      refine ⟨_, ⟨2, 0, szEx S 15, upd (zMI S) 0 2, zMA S, ?_, ?_, rfl, fun z => absurd z (by decide), rfl⟩, RO_x 15 2⟩
      · simp only [yL_message, zob, z1, e, zcH, zcHv, if_true]
        rfl
      · show x_message (zMI S) (zMA S) _ _ _ = _
        simp only [x_message, x_asked, q1, q2, xb, if_true]
        rfl
    · rw [if_neg q2] at hm
      obtain ⟨i, hi, rfl⟩ := j_pos q2
      by_cases q3 : i < z
      · have q3' : Int32.ofNat i < Int32.ofNat z := (j_lt hi (by omega)).mpr q3
        rw [if_pos q3'] at hm
        obtain ⟨s1, s2, s3⟩ := p6 i q3
        have e : y_message S 0 (Int32.ofNat p) (Int32.ofNat q) (Int32.ofNat i) = some (S, .inr (zAI S (26 + 3 * (p * 6 + q)) ((h + i) % 8))) := by
          simp only [y_message, hm, zcT, zcTv, zlb, zob, z1, z3, c1, zcP, qof hf' hp hq2, m1, va_8 hf' hk p1 q3 (by omega) p3, if_true]
        have hb8 : ib (Int32.ofNat (8 * (p * 6 + q) + i)) 288 := j_in (by omega) (by omega)
        have hn8 := (j_n (n := 8 * (p * 6 + q) + i) (by omega)).2
        refine ⟨_, ⟨0, zAI S (26 + 3 * (p * 6 + q)) ((h + i) % 8), szAL S 177 (vp_updL (zAL S 177) 0 (Int32.toInt64 (zAI S (26 + 3 * (p * 6 + q)) ((h + i) % 8)))), upd (zMI S) 0 0, zMA S, ?_, ?_, rfl, ?_, rfl⟩, RO_l _ 0⟩
        · simp only [yL_message, zob, z1, e, zcH, zcHv, i1, i2, if_pos ib0, if_true]
        · show x_message (zMI S) (zMA S) _ _ _ = _
          simp only [x_message, x_asked, q1, q2, xb, (ix_q p q).2, if_pos hb, hn, p5, q3', ix_8, if_pos hb8, hn8, s1, if_true, if_false]
        · intro _
          rw [zAL_self]
          rfl
      · have q3' : ¬ Int32.ofNat i < Int32.ofNat z := mt (j_lt hi (by omega)).mp q3
        rw [if_neg q3'] at hm
        have e : y_message S 0 (Int32.ofNat p) (Int32.ofNat q) (Int32.ofNat i) = some (szEx S 15, .inl 15) := by
          simp only [y_message, hm, zcT, zcTv, z1, if_true]
        refine ⟨_, ⟨2, 0, szEx S 15, upd (zMI S) 0 2, zMA S, ?_, ?_, rfl, fun z => absurd z (by decide), rfl⟩, RO_x 15 2⟩
        · simp only [yL_message, zob, z1, e, zcH, zcHv, if_true]
          rfl
        · show x_message (zMI S) (zMA S) _ _ _ = _
          simp only [x_message, x_asked, q1, q2, xb, (ix_q p q).2, if_pos hb, hn, p5, q3', if_true, if_false]
          rfl
  · have e : y_message S 0 a1 a2 a3 = some (szEx S 14, .inl 14) := by
      simp only [y_message, y_needMessage, npair, q1, zcT, zcTv, z1, if_true, if_false]
    refine ⟨_, ⟨1, 0, szEx S 14, upd (zMI S) 0 1, zMA S, ?_, ?_, rfl, fun z => absurd z (by decide), rfl⟩, RO_x 14 1⟩
    · simp only [yL_message, zob, z1, e, zcH, zcHv, if_true]
    · show x_message (zMI S) (zMA S) _ _ _ = _
      simp only [x_message, x_asked, q1, xb, if_false]
      rfl
theorem op_15 {S : hS} {a1 a2 a3 : Int32} (h : Bas S) : ∃ S', Alk_15 S a1 a2 a3 S' ∧ RO S S' := by
  obtain ⟨hl, hf, ht, hq, hv, hfl⟩ := h
  have hf' := hf
  obtain ⟨⟨z1, z2, z3, z4⟩, ⟨b1, b2⟩, ⟨c1, c2, c3, c4, c5⟩, ⟨d1, d2, d3⟩, ⟨e1, e2, e3⟩, ⟨f1, f2⟩, ⟨g1, g2⟩, ⟨h1, h2⟩, ⟨i1, i2⟩, j1, k1⟩ := hf
  by_cases q1 : x_noQueue a1 a2 = 0
  · obtain ⟨w1, w2, w3⟩ := (np_2 a1 a2).mp q1
    obtain ⟨p, hp, rfl⟩ := pt_c a1 w1
    obtain ⟨q, hq2, rfl⟩ := pt_c a2 w2
    obtain ⟨r, r1, r2, r3, r4, r5⟩ := hq
    have hk : p * 6 + q < 36 := by omega
    obtain ⟨h, z, p1, p2, p3, p4, p5, p6⟩ := r5 _ hk
    obtain ⟨m1, m2, m3, m4, m5, m6, m7⟩ := k1 _ hk
    have hb : ib (Int32.ofNat (p * 6 + q)) 36 := j_in (by omega) hk
    have hn := (j_n (n := p * 6 + q) (by omega)).2
    have hm := nmsg (x := a3) hf' hp hq2 (by omega : z ≤ 8) q1 p4
    by_cases q2 : a3 < 0
    · rw [if_pos q2] at hm
      have e : y_label S 0 (Int32.ofNat p) (Int32.ofNat q) a3 = some (szEx S 15, .inl 15) := by
        simp only [y_label, hm, zcT, zcTv, z1, if_true]
      refine ⟨_, ⟨2, 0, szEx S 15, upd (zMI S) 0 2, zMA S, ?_, ?_, rfl, fun z => absurd z (by decide), rfl⟩, RO_x 15 2⟩
      · simp only [yL_label, zob, z1, e, zcH, zcHv, if_true]
        rfl
      · show x_label (zMI S) (zMA S) _ _ _ = _
        simp only [x_label, x_asked, q1, q2, xb, if_true]
        rfl
    · rw [if_neg q2] at hm
      obtain ⟨i, hi, rfl⟩ := j_pos q2
      by_cases q3 : i < z
      · have q3' : Int32.ofNat i < Int32.ofNat z := (j_lt hi (by omega)).mpr q3
        rw [if_pos q3'] at hm
        obtain ⟨s1, s2, s3⟩ := p6 i q3
        have sl : zAI S (27 + 3 * (p * 6 + q)) ((h + i) % 8) = 0 ∨ zAI S (27 + 3 * (p * 6 + q)) ((h + i) % 8) = 1 := by rw [s2]; exact s3
        have hb8 : ib (Int32.ofNat (8 * (p * 6 + q) + i)) 288 := j_in (by omega) (by omega)
        have hn8 := (j_n (n := 8 * (p * 6 + q) + i) (by omega)).2
        have e : y_label S 0 (Int32.ofNat p) (Int32.ofNat q) (Int32.ofNat i) = some (S, .inr (zAI S (27 + 3 * (p * 6 + q)) ((h + i) % 8))) := by
          simp only [y_label, hm, zcT, zcTv, zlb, zob, z1, z3, c1, zcP, qof hf' hp hq2, m1, la_8 hf' hk p1 q3 (by omega) p3 sl, if_true]
          rw [if_pos sl]
        rw [s2] at e
        rcases s3 with s3 | s3
        · rw [s3] at e
          refine ⟨_, ⟨0, 0, szAL S 177 (vp_updL (zAL S 177) 0 0), upd (zMI S) 0 0, zMA S, ?_, ?_, rfl, ?_, rfl⟩, RO_l _ 0⟩
          · simp only [yL_label, zob, z1, e, zcH, zcHv, i1, i2, if_pos ib0, if_true]
          · show x_label (zMI S) (zMA S) _ _ _ = _
            simp only [x_label, x_asked, q1, q2, xb, (ix_q p q).2, if_pos hb, hn, p5, q3', ix_8, if_pos hb8, hn8, s3, if_true, if_false]
          · intro _
            rw [zAL_self]
            rfl
        · rw [s3] at e
          refine ⟨_, ⟨0, 1, szAL S 177 (vp_updL (zAL S 177) 0 1), upd (zMI S) 0 0, zMA S, ?_, ?_, rfl, ?_, rfl⟩, RO_l _ 0⟩
          · simp only [yL_label, zob, z1, e, zcH, zcHv, i1, i2, if_pos ib0, if_true]
            rfl
          · show x_label (zMI S) (zMA S) _ _ _ = _
            simp only [x_label, x_asked, q1, q2, xb, (ix_q p q).2, if_pos hb, hn, p5, q3', ix_8, if_pos hb8, hn8, s3, if_true, if_false]
            rfl
          · intro _
            rw [zAL_self]
            rfl
      · have q3' : ¬ Int32.ofNat i < Int32.ofNat z := mt (j_lt hi (by omega)).mp q3
        rw [if_neg q3'] at hm
        have e : y_label S 0 (Int32.ofNat p) (Int32.ofNat q) (Int32.ofNat i) = some (szEx S 15, .inl 15) := by
          simp only [y_label, hm, zcT, zcTv, z1, if_true]
        refine ⟨_, ⟨2, 0, szEx S 15, upd (zMI S) 0 2, zMA S, ?_, ?_, rfl, fun z => absurd z (by decide), rfl⟩, RO_x 15 2⟩
        · simp only [yL_label, zob, z1, e, zcH, zcHv, if_true]
          rfl
        · show x_label (zMI S) (zMA S) _ _ _ = _
          simp only [x_label, x_asked, q1, q2, xb, (ix_q p q).2, if_pos hb, hn, p5, q3', if_true, if_false]
          rfl
  · have e : y_label S 0 a1 a2 a3 = some (szEx S 14, .inl 14) := by
      simp only [y_label, y_needMessage, npair, q1, zcT, zcTv, z1, if_true, if_false]
    refine ⟨_, ⟨1, 0, szEx S 14, upd (zMI S) 0 1, zMA S, ?_, ?_, rfl, fun z => absurd z (by decide), rfl⟩, RO_x 14 1⟩
    · simp only [yL_label, zob, z1, e, zcH, zcHv, if_true]
    · show x_label (zMI S) (zMA S) _ _ _ = _
      simp only [x_label, x_asked, q1, xb, if_false]
      rfl
