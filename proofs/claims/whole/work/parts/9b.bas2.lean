def Emp (S : hS) : Prop := zMI S 18 = 0 → ∀ k, k < 36 → zI S 3 (25 + 3 * k) = 0
theorem Bas_inp {S S' : hS} (h : Bas S) (r : INP S S') : Bas S' := by
  obtain ⟨j, v, g, hj, rfl, -⟩ := r
  obtain ⟨hl, hf, ht, hq, hv, hfl⟩ := h
  refine ⟨hl, hf, ?_, ?_, ?_, ?_⟩
  · obtain ⟨c, q1, q2, q3, q4⟩ := ht
    refine ⟨c, q1, q2, q3, fun i hi => ?_⟩
    show zAI (szAI (szAI S 5 (upd (zAI S 5) j v)) 6 (upd (zAI S 6) j v)) 1 i = upA (upA (zMA S) 33 (upd (zMA S 33) j v)) 34 (upd (zMA S 34) j v) 1 i ∧ 33 ≤ (zAI (szAI (szAI S 5 (upd (zAI S 5) j v)) 6 (upd (zAI S 6) j v)) 1 i).toInt ∧ (zAI (szAI (szAI S 5 (upd (zAI S 5) j v)) 6 (upd (zAI S 6) j v)) 1 i).toInt ≤ 126
    rw [zAI_n (by decide), zAI_n (by decide), upA_ne (by decide), upA_ne (by decide)]
    exact q4 i hi
  · obtain ⟨r, q1, q2, q3, q4, q5⟩ := hq
    refine ⟨r, q1, q2, q3, q4, fun k hk => ?_⟩
    obtain ⟨h, z, p1, p2, p3, p4, p5, p6⟩ := q5 k hk
    refine ⟨h, z, p1, p2, p3, p4, ?_, fun i hi => ?_⟩
    · show upA (upA (zMA S) 33 (upd (zMA S 33) j v)) 34 (upd (zMA S 34) j v) 39 k = _
      rw [upA_ne (by decide), upA_ne (by decide)]
      exact p5
    · show zAI (szAI (szAI S 5 (upd (zAI S 5) j v)) 6 (upd (zAI S 6) j v)) (26 + 3 * k) ((h + i) % 8) = upA (upA (zMA S) 33 (upd (zMA S 33) j v)) 34 (upd (zMA S 34) j v) 40 (8 * k + i) ∧ zAI (szAI (szAI S 5 (upd (zAI S 5) j v)) 6 (upd (zAI S 6) j v)) (27 + 3 * k) ((h + i) % 8) = upA (upA (zMA S) 33 (upd (zMA S 33) j v)) 34 (upd (zMA S 34) j v) 41 (8 * k + i) ∧ (upA (upA (zMA S) 33 (upd (zMA S 33) j v)) 34 (upd (zMA S 34) j v) 41 (8 * k + i) = 0 ∨ upA (upA (zMA S) 33 (upd (zMA S 33) j v)) 34 (upd (zMA S 34) j v) 41 (8 * k + i) = 1)
      rw [zAI_n (show 26 + 3 * k ≠ 6 by omega), zAI_n (show 26 + 3 * k ≠ 5 by omega), zAI_n (show 27 + 3 * k ≠ 6 by omega), zAI_n (show 27 + 3 * k ≠ 5 by omega), upA_ne (show 40 ≠ 34 by decide), upA_ne (show 40 ≠ 33 by decide), upA_ne (show 41 ≠ 34 by decide), upA_ne (show 41 ≠ 33 by decide)]
      exact p6 i hi
  · intro i hi
    obtain ⟨v1, v2, v3⟩ := hv i hi
    show zAI (szAI (szAI S 5 (upd (zAI S 5) j v)) 6 (upd (zAI S 6) j v)) 5 i = upA (upA (zMA S) 33 (upd (zMA S 33) j v)) 34 (upd (zMA S 34) j v) 33 i ∧ zAI (szAI (szAI S 5 (upd (zAI S 5) j v)) 6 (upd (zAI S 6) j v)) 6 i = upA (upA (zMA S) 33 (upd (zMA S 33) j v)) 34 (upd (zMA S 34) j v) 34 i ∧ zAI (szAI (szAI S 5 (upd (zAI S 5) j v)) 6 (upd (zAI S 6) j v)) 133 i = upA (upA (zMA S) 33 (upd (zMA S 33) j v)) 34 (upd (zMA S 34) j v) 35 i
    rw [zAI_n (show 5 ≠ 6 by decide), zAI_s, zAI_s, zAI_n (show 133 ≠ 6 by decide), zAI_n (show 133 ≠ 5 by decide), upA_ne (show 33 ≠ 34 by decide), upA_eq, upA_eq, upA_ne (show 35 ≠ 34 by decide), upA_ne (show 35 ≠ 33 by decide)]
    refine ⟨?_, ?_, v3⟩
    · by_cases q : i = j
      · subst q; rw [upd_s, upd_s]
      · rw [upd_n q, upd_n q]; exact v1
    · by_cases q : i = j
      · subst q; rw [upd_s, upd_s]
      · rw [upd_n q, upd_n q]; exact v2
  · exact hfl
theorem Bas_rom {S S' : hS} (h : Bas S) (he : Emp S) (r : ROM S S') : Bas S' := by
  obtain ⟨r, r1, r2, rfl, h18⟩ := r
  obtain ⟨hl, hf, ht, hq, hv, hfl⟩ := h
  refine ⟨hl, hf, ?_, ?_, hv, ?_⟩
  · obtain ⟨c, q1, q2, q3, q4⟩ := ht
    exact ⟨c, q1, (show zI (szI S 4 2 (Int32.ofNat r)) 1 0 = _ from (zI_k (by decide)).trans q2), q3, q4⟩
  · obtain ⟨r0, q1, q2, q3, q4, q5⟩ := hq
    refine ⟨r, r1, r2, (show zI (szI S 4 2 (Int32.ofNat r)) 4 2 = _ from zI_self _ _ _ _), rfl, fun k hk => ?_⟩
    obtain ⟨h, z, p1, p2, p3, p4, p5, p6⟩ := q5 k hk
    have e0 := he h18 k hk
    rw [p4] at e0
    have z0 : z = 0 := (j_eq (n := 0) (by omega) (by decide)).mp e0
    exact ⟨h, z, p1, by omega, (show zI (szI S 4 2 (Int32.ofNat r)) 2 _ = _ from (zI_k (by decide)).trans p3), (show zI (szI S 4 2 (Int32.ofNat r)) 3 _ = _ from (zI_k (by decide)).trans p4), p5, p6⟩
  · obtain ⟨q1, q2, q3⟩ := hfl
    exact ⟨(show zI (szI S 4 2 (Int32.ofNat r)) 2 0 = _ from (zI_k (by decide)).trans q1), (show zI (szI S 4 2 (Int32.ofNat r)) 3 0 = _ from (zI_k (by decide)).trans q2), (show zI (szI S 4 2 (Int32.ofNat r)) 5 2 = zMI S 18 ∧ _ from ⟨(zI_k (by decide)).trans q3.1, q3.2⟩)⟩
