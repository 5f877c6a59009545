theorem Prt_ty {S S' : hS} (h : Prt S) (r : TYP S S') : Prt S' := by
  obtain ⟨g, v, A', rfl, ha, ht'⟩ := r
  intro p hp
  obtain ⟨t, u1, u2, u3, u4⟩ := h p hp
  refine ⟨t, u1, ?_, ?_, fun i hi => ?_⟩
  · show zI (szI (szAI S 1 g) 1 0 v) 1 (8 + 3 * p) = _
    rw [zI_ne (by omega)]
    exact u2
  · show A' 27 p = _
    rw [ha 27 (by decide)]
    exact u3
  · show zAI (szAI S 1 g) (9 + 3 * p) i = A' 26 (1000 * p + i)
    rw [zAI_n (by omega), ha 26 (by decide)]
    exact u4 i hi
theorem Prt_inp {S S' : hS} (h : Prt S) (r : INP S S') : Prt S' := by
  obtain ⟨j, v, g, hj, rfl, h18⟩ := r
  intro p hp
  obtain ⟨t, u1, u2, u3, u4⟩ := h p hp
  refine ⟨t, u1, u2, ?_, fun i hi => ?_⟩
  · show upA (upA (zMA S) 33 (upd (zMA S 33) j v)) 34 (upd (zMA S 34) j v) 27 p = _
    rw [upA_ne (by decide), upA_ne (by decide)]
    exact u3
  · show zAI (szAI (szAI S 5 (upd (zAI S 5) j v)) 6 (upd (zAI S 6) j v)) (9 + 3 * p) i = upA (upA (zMA S) 33 (upd (zMA S 33) j v)) 34 (upd (zMA S 34) j v) 26 (1000 * p + i)
    rw [zAI_n (by omega), zAI_n (by omega), upA_ne (by decide), upA_ne (by decide)]
    exact u4 i hi
theorem Lod_bad {S S' : hS} (hf : Fix S) (h : Lod S) (r : BAD S S') : Lod S' := by
  obtain ⟨X, I, B, q, g, hw, rfl, i0, i1, i2, i3, ij, bj⟩ := r
  have l0 := (ztg_lt hf.1.1).1
  unfold Lod at h ⊢
  show zR X 4 0 = none ↔ I 10 = 0
  rw [(g.2.1 0 l0).2.1 4, ij 10 (by decide)]
  exact h
theorem Emp_bad {S S' : hS} (hf : Fix S) (h : Emp S) (r : BAD S S') : Emp S' := by
  obtain ⟨X, I, B, q, g, hw, rfl, i0, i1, i2, i3, ij, bj⟩ := r
  intro h0 k hk
  have lk := (ztg_lt (hf.2.2.2.2.2.2.2.2.2.2 k hk).1).1
  have h0' : I 18 = 0 := h0
  rw [ij 18 (by decide)] at h0'
  refine (bd_I (by omega)).trans ?_
  rw [(g.2.1 _ lk).1 3]
  exact h h0' k hk
theorem Prt_bad {S S' : hS} (hf : Fix S) (h : Prt S) (r : BAD S S') : Prt S' := by
  obtain ⟨X, I, B, q, g, hw, rfl, i0, i1, i2, i3, ij, bj⟩ := r
  intro p hp
  obtain ⟨y1, y2, y3, y4, y5, y6⟩ := hf.2.2.2.2.2.2.2.2.2.1 p hp
  have l3 := (ztg_lt y3).1
  obtain ⟨t, u1, u2, u3, u4⟩ := h p hp
  refine ⟨t, u1, ?_, ?_, fun i hi => ?_⟩
  · refine (bd_I (by omega)).trans ?_
    rw [(g.2.1 _ l3).1 1]
    exact u2
  · show B 27 p = _
    rw [bj 27 (by decide)]
    exact u3
  · show zAI X (9 + 3 * p) i = B 26 (1000 * p + i)
    rw [show zAI X = zAI S from g.2.2.2.1, bj 26 (by decide)]
    exact u4 i hi
