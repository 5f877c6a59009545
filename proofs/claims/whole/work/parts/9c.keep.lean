theorem Lod_ro {S S' : hS} (hf : Fix S) (h : Lod S) (r : RO S S') : Lod S' := by
  obtain ⟨S1, k, hw, -, rfl⟩ := r
  have a1 := hf.1.1
  unfold Lod at h ⊢
  show zR S1 4 0 = none ↔ upd (zMI S) 0 k 10 = 0
  rw [zR_fw a1 hw rfl, upd_n (by decide)]
  exact h
theorem Emp_ro {S S' : hS} (hf : Fix S) (h : Emp S) (r : RO S S') : Emp S' := by
  obtain ⟨S1, k, hw, -, rfl⟩ := r
  intro h0 j hj
  have m1 := (hf.2.2.2.2.2.2.2.2.2.2 j hj).1
  have h0' : zMI S 18 = 0 := h0
  show zI S1 3 _ = 0
  rw [zI_fw m1 hw rfl]
  exact h h0' j hj
theorem Prt_ro {S S' : hS} (hf : Fix S) (h : Prt S) (r : RO S S') : Prt S' := by
  obtain ⟨S1, k, hw, -, rfl⟩ := r
  intro p hp
  obtain ⟨y1, y2, y3, y4, y5, y6⟩ := hf.2.2.2.2.2.2.2.2.2.1 p hp
  obtain ⟨t, u1, u2, u3, u4⟩ := h p hp
  refine ⟨t, u1, ?_, u3, fun i hi => ?_⟩
  · show zI S1 1 _ = _
    rw [zI_fw y3 hw rfl]
    exact u2
  · show zAI S1 (9 + 3 * p) i = zMA S 26 (1000 * p + i)
    rw [zAI_fw y5 hw rfl]
    exact u4 i hi
theorem Lod_rom {S S' : hS} (h : Lod S) (r : ROM S S') : Lod S' := by
  obtain ⟨r, r1, r2, rfl, h18⟩ := r
  exact h
theorem Lod_ty {S S' : hS} (h : Lod S) (r : TYP S S') : Lod S' := by
  obtain ⟨g, v, A', rfl, ha, ht'⟩ := r
  exact h
theorem Lod_inp {S S' : hS} (h : Lod S) (r : INP S S') : Lod S' := by
  obtain ⟨j, v, g, hj, rfl, -⟩ := r
  exact h
theorem Emp_rom {S S' : hS} (h : Emp S) (r : ROM S S') : Emp S' := by
  obtain ⟨r, r1, r2, rfl, h18⟩ := r
  intro _ j hj
  show zI (szI S 4 2 (Int32.ofNat r)) 3 _ = 0
  rw [zI_k (by decide)]
  exact h h18 j hj
theorem Emp_inp {S S' : hS} (h : Emp S) (r : INP S S') : Emp S' := by
  obtain ⟨j, v, g, hj, rfl, h18⟩ := r
  intro _ k hk
  exact h h18 k hk
theorem Emp_ty {S S' : hS} (h : Emp S) (r : TYP S S') : Emp S' := by
  obtain ⟨g, v, A', rfl, ha, ht'⟩ := r
  intro h0 k hk
  have h0' : zMI S 18 = 0 := h0
  show zI (szI (szAI S 1 g) 1 0 v) 3 _ = 0
  rw [zI_k (by decide)]
  exact h h0' k hk
theorem Prt_rom {S S' : hS} (h : Prt S) (r : ROM S S') : Prt S' := by
  obtain ⟨r, r1, r2, rfl, h18⟩ := r
  intro p hp
  obtain ⟨t, u1, u2, u3, u4⟩ := h p hp
  exact ⟨t, u1, (show zI (szI S 4 2 (Int32.ofNat r)) 1 _ = _ from (zI_k (by decide)).trans u2), u3, u4⟩
