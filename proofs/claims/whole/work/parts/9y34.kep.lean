section KG
variable {S S' : hS} {K Kr : Nat → Fo} {Q : Nat → Nat → List Nat}
theorem Lds_gen (ho : OF S S') (p1 : ∀ p, p < 6 → zR S' 1 (7 + 3 * p) = zR S 1 (7 + 3 * p)) (p2 : ∀ p, p < 6 → zR S' 2 (7 + 3 * p) = zR S 2 (7 + 3 * p)) (p3 : ∀ p, p < 6 → ∀ m, zI S' m (7 + 3 * p) = zI S m (7 + 3 * p)) (r4 : zR S' 4 0 = zR S 4 0) (i2 : zI S' 4 2 = zI S 4 2) (i17 : zMI S' 17 = zMI S 17) (i11 : zMI S' 11 = zMI S 11) (q3 : ∀ k, k < 36 → ∀ m, zI S' m (25 + 3 * k) = zI S m (25 + 3 * k)) (q4 : ∀ k, k < 36 → zAI S' (26 + 3 * k) = zAI S (26 + 3 * k) ∧ zAI S' (27 + 3 * k) = zAI S (27 + 3 * k)) (eA : ∀ j, 15 < j → j ≠ 33 → j ≠ 34 → j ≠ 35 → zMA S' j = zMA S j) (h : Lds S) : Lds S' := by
  obtain ⟨K, ⟨Q, Kr, h1⟩, h2⟩ := h
  exact ⟨K, ⟨Q, Kr, RnS_o ho p2 p3 (fun j hj => eA j (by omega) (by omega) (by omega) (by omega)) (QQ_o i2 i17 q3 q4 (fun j hj => eA j (by omega) (by omega) (by omega) (by omega)) h1.1) h1⟩, Fxd_o ho p1 r4 (fun j a b => eA j a (by omega) (by omega) (by omega)) i11 h2⟩
theorem Lds_ro (hf : Fix S) (r : RO S S') (h : Lds S) : Lds S' := by
  obtain ⟨S1, k, hw, -, rfl⟩ := r
  have ho : OF S S1 := OF_fw (by decide) hw
  obtain ⟨⟨a1, a2, a3, a4⟩, ⟨b1, b2⟩, ⟨c1, c2, c3, c4, c5⟩, ⟨d1, d2, d3⟩, ⟨e1, e2, e3⟩, ⟨f1, f2⟩, ⟨g1, g2⟩, ⟨h1, h2⟩, ⟨i1, i2⟩, jj, kk⟩ := hf
  have u1 : ∀ p, p < 6 → ∀ m, zR S1 m (7 + 3 * p) = zR S m (7 + 3 * p) := fun p hp m => zR_fw (W := []) (jj p hp).1 hw rfl
  have u2 : ∀ p, p < 6 → ∀ m, zI S1 m (7 + 3 * p) = zI S m (7 + 3 * p) := fun p hp m => zI_fw (W := []) (jj p hp).1 hw rfl
  have u3 : zR S1 4 0 = zR S 4 0 := zR_fw (W := []) a1 hw rfl
  have u4 : zI S1 4 2 = zI S 4 2 := zI_fw (W := []) c1 hw rfl
  have u5 : ∀ k, k < 36 → ∀ m, zI S1 m (25 + 3 * k) = zI S m (25 + 3 * k) := fun k hk m => zI_fw (W := []) (kk k hk).1 hw rfl
  have u6 : ∀ k, k < 36 → zAI S1 (26 + 3 * k) = zAI S (26 + 3 * k) ∧ zAI S1 (27 + 3 * k) = zAI S (27 + 3 * k) := fun k hk => ⟨zAI_fw (W := []) (kk k hk).2.2.2.1 hw rfl, zAI_fw (W := []) (kk k hk).2.2.2.2.2.1 hw rfl⟩
  exact Lds_gen (S' := szM S1 (upd (zMI S) 0 k) (zMA S)) (OF_M ho) (fun p hp => u1 p hp 1) (fun p hp => u1 p hp 2) u2 u3 u4 rfl rfl u5 u6 (fun _ _ _ _ _ => rfl) h
theorem OF_e (hf : Fix S) (e0 : S'.1 = S.1) (e1 : S'.2.1 = S.2.1) (e2 : S'.2.2.1 = S.2.2.1) (eI : ∀ m x, 178 ≤ x → zI S' m x = zI S m x) (hI : ∀ x, x < 178 → ztg S x ≠ 2 ∧ ztg S x ≠ 10) (eR : zR S' = zR S) (eL : zL S' = zL S) (eA : zAR S' = zAR S) : OF S S' := by
  have tg : ∀ x, ztg S' x = ztg S x := fun x => by
    unfold ztg
    rw [e0, e1]
  refine ⟨Nat.le_of_eq e0.symm, fun x h1 h2 => ?_, fun x h1 => ?_⟩
  · have hx : 178 ≤ x := Nat.le_of_not_lt (fun z => (hI x z).1 h1)
    exact ⟨⟨fun m => eI m x hx, by rw [eR], by rw [eR], by rw [eL], tg x, tg (x + 1), by show S'.2.2.1 (x + 1) = S.2.2.1 (x + 1); rw [e2], by rw [eA]⟩, by rw [eR]⟩
  · have hx : 178 ≤ x := Nat.le_of_not_lt (fun z => (hI x z).2 h1)
    exact ⟨fun m => eI m x hx, fun k => by rw [eR], by rw [eL], tg x⟩
theorem low_tg (hf : Fix S) (hl : Lay S) : ∀ x, x < 178 → ztg S x ≠ 2 ∧ ztg S x ≠ 10 := fun x hx => by
  obtain ⟨⟨a1, _⟩, ⟨b1, b2⟩, ⟨c1, _⟩, ⟨d1, _⟩, ⟨e1, _⟩, ⟨f1, _⟩, ⟨g1, _⟩, ⟨h1, _⟩, ⟨i1, _⟩, jj, kk⟩ := hf
  have pk : ∀ t, ztg S x = t → t ≠ 2 → t ≠ 10 → ztg S x ≠ 2 ∧ ztg S x ≠ 10 := fun t h1 h2 h3 => ⟨by rw [h1]; exact h2, by rw [h1]; exact h3⟩
  by_cases q0 : x < 7
  · rcases (by omega : x = 0 ∨ x = 1 ∨ x = 2 ∨ x = 3 ∨ x = 4 ∨ x = 5 ∨ x = 6) with rfl | rfl | rfl | rfl | rfl | rfl | rfl
    · exact pk _ a1 (by decide) (by decide)
    · exact pk _ b1 (by decide) (by decide)
    · exact pk _ c1 (by decide) (by decide)
    · exact pk _ d1 (by decide) (by decide)
    · exact pk _ e1 (by decide) (by decide)
    · exact pk _ f1 (by decide) (by decide)
    · exact pk _ g1 (by decide) (by decide)
  · by_cases q1 : x < 25
    · obtain ⟨j1, _, j3, _, j5, _⟩ := jj ((x - 7) / 3) (by omega)
      rcases (by omega : x = 7 + 3 * ((x - 7) / 3) ∨ x = 8 + 3 * ((x - 7) / 3) ∨ x = 9 + 3 * ((x - 7) / 3)) with e | e | e
      · rw [← e] at j1
        exact pk _ j1 (by decide) (by decide)
      · rw [← e] at j3
        exact pk _ j3 (by decide) (by decide)
      · rw [← e] at j5
        exact pk _ j5 (by decide) (by decide)
    · by_cases q2 : x < 133
      · obtain ⟨j1, _, _, j3, _, j5, _⟩ := kk ((x - 25) / 3) (by omega)
        rcases (by omega : x = 25 + 3 * ((x - 25) / 3) ∨ x = 26 + 3 * ((x - 25) / 3) ∨ x = 27 + 3 * ((x - 25) / 3)) with e | e | e
        · rw [← e] at j1
          exact pk _ j1 (by decide) (by decide)
        · rw [← e] at j3
          exact pk _ j3 (by decide) (by decide)
        · rw [← e] at j5
          exact pk _ j5 (by decide) (by decide)
      · by_cases q3 : x = 133
        · rw [q3]
          rw [q3] at pk
          exact pk _ h1 (by decide) (by decide)
        · by_cases q4 : x = 177
          · rw [q4]
            rw [q4] at pk
            exact pk _ i1 (by decide) (by decide)
          · obtain ⟨_, _, l3, l4, _⟩ := hl
            have lz : ∀ t, S.2.1 x = t → 10 < t → ztg S x ≠ 2 ∧ ztg S x ≠ 10 := fun t h1 h2 => by
              unfold ztg
              split
              · rw [h1]
                omega
              · omega
            by_cases q5 : x = 134
            · exact lz 11 (by rw [q5]; exact l3) (by decide)
            · exact lz 12 (l4 x (by omega) (by omega)) (by decide)
theorem Lds_ty (hf : Fix S) (hl : Lay S) (r : TYP S S') (h : Lds S) : Lds S' := by
  obtain ⟨g, v, A', rfl, hA, _⟩ := r
  have ho : OF S (szM (szI (szAI S 1 g) 1 0 v) (upd (upd (zMI S) 0 0) 1 v) A') := OF_e hf rfl rfl rfl (fun m x hx => zI_ne (S := szAI S 1 g) (by omega)) (low_tg hf hl) rfl rfl rfl
  refine Lds_gen ho (fun p hp => rfl) (fun p hp => rfl) (fun p hp m => zI_ne (S := szAI S 1 g) (by omega)) rfl (show zI (szI (szAI S 1 g) 1 0 v) 4 2 = zI S 4 2 from zI_ne (S := szAI S 1 g) (by omega)) rfl rfl (fun k hk m => zI_ne (S := szAI S 1 g) (by omega)) (fun k hk => ⟨zAI_n (by omega), zAI_n (by omega)⟩) (fun j a b c d => hA j (by omega)) h
theorem Lds_inp (hf : Fix S) (hl : Lay S) (r : INP S S') (h : Lds S) : Lds S' := by
  obtain ⟨i, v, g, hi, rfl, _⟩ := r
  have ho : OF S (szM (szAL (szAI (szAI S 5 (upd (zAI S 5) i v)) 6 (upd (zAI S 6) i v)) 177 g) (upd (zMI S) 0 0) (upA (upA (zMA S) 33 (upd (zMA S 33) i v)) 34 (upd (zMA S 34) i v))) := OF_e hf rfl rfl rfl (fun m x hx => rfl) (low_tg hf hl) rfl rfl rfl
  refine Lds_gen ho (fun p hp => rfl) (fun p hp => rfl) (fun p hp m => rfl) rfl rfl rfl rfl (fun k hk m => rfl) (fun k hk => ?_) (fun j a b c d => ?_) h
  · show zAI (szAI (szAI S 5 _) 6 _) (26 + 3 * k) = _ ∧ zAI (szAI (szAI S 5 _) 6 _) (27 + 3 * k) = _
    rw [zAI_n (by omega), zAI_n (by omega), zAI_n (by omega), zAI_n (by omega)]
    exact ⟨rfl, rfl⟩
  · show upA (upA (zMA S) 33 _) 34 _ j = _
    rw [upA_n (by omega), upA_n (by omega)]
theorem Lds_rom (hf : Fix S) (hl : Lay S) (he : Emp S) (r : ROM S S') (h : Lds S) : Lds S' := by
  obtain ⟨r0, r1, r8, rfl, h18⟩ := r
  have ho : OF S (szM (szI S 4 2 (Int32.ofNat r0)) (upd (upd (zMI S) 0 0) 17 (Int32.ofNat r0)) (zMA S)) := OF_e hf rfl rfl rfl (fun m x hx => zI_ne (S := S) (by omega)) (low_tg hf hl) rfl rfl rfl
  obtain ⟨K, ⟨Q, Kr, h1⟩, h2⟩ := h
  refine ⟨K, ⟨Q, Kr, RnS_o ho (fun _ _ => rfl) (fun p hp m => zI_ne (S := S) (by omega)) (fun _ _ => rfl) ?_ h1⟩, Fxd_o ho (fun _ _ => rfl) rfl (fun _ _ _ => rfl) rfl h2⟩
  obtain ⟨r, a1, a8, a2, a3, a4⟩ := h1.1
  refine ⟨r0, r1, r8, zI_self S 4 2 _, (show upd (upd (zMI S) 0 0) 17 (Int32.ofNat r0) 17 = _ from upd_s), fun q p hq hp => ?_⟩
  obtain ⟨h', z, b1, b2, b3, b4, b5, b6, b7⟩ := a4 q p hq hp
  have z0 := he h18 (6 * q + p) (by omega)
  have : z = 0 := by
    rw [b4] at z0
    exact (cq0 (c := z) (by omega)).mp z0
  subst this
  refine ⟨h', 0, b1, by omega, ?_, ?_, b5, b6, fun i hi => by omega⟩
  · show zI (szI S 4 2 (Int32.ofNat r0)) 2 _ = _
    rw [zI_ne (by omega)]
    exact b3
  · show zI (szI S 4 2 (Int32.ofNat r0)) 3 _ = _
    rw [zI_ne (by omega)]
    exact b4
theorem Lds_bad (hf : Fix S) (hl : Lay S) (r : BAD S S') (h : Lds S) : Lds S' := by
  obtain ⟨X, I, B, q, g, hw, rfl, i0, i1, i2, i3, ij, bj⟩ := r
  have eI : ∀ m x, x ≠ 0 → x < S.1 → zI (szEx (szI (szI (szI X 1 0 0) 2 0 q) 3 0 (-1)) 11) m x = zI S m x := fun m x h0 hx => by
    rw [bd_I h0]
    exact (g.2.1 x hx).1 m
  have eR : ∀ m x, x < S.1 → zR (szEx (szI (szI (szI X 1 0 0) 2 0 q) 3 0 (-1)) 11) m x = zR S m x := fun m x hx => (g.2.1 x hx).2.1 m
  have hf' := hf
  obtain ⟨⟨a1, a2, a3, a4⟩, ⟨b1, b2⟩, ⟨c1, c2, c3, c4, c5⟩, ⟨d1, d2, d3⟩, ⟨e1, e2, e3⟩, ⟨f1, f2⟩, ⟨g1, g2⟩, ⟨h1, h2⟩, ⟨i1', i2'⟩, jj, kk⟩ := hf'
  have lw : ∀ x, x < 178 → x < S.1 := fun x hx => Nat.lt_of_lt_of_le hx hl.1
  have ho : OF S (szEx (szI (szI (szI X 1 0 0) 2 0 q) 3 0 (-1)) 11) := by
    refine ⟨hw.1.1, fun x h1 h2 => ?_, fun x h1 => ?_⟩
    · obtain ⟨l1, _, _⟩ := ztg_lt h1
      obtain ⟨l2, _, _⟩ := ztg_lt h2
      have n0 : x ≠ 0 := fun z => by rw [z, a1] at h1; omega
      refine ⟨⟨fun m => eI m x n0 l1, eR 6 x l1, eR 8 x l1, ?_, ?_, ?_, zLen_ex h2 hw.1, ?_⟩, eR 9 x l1⟩
      · exact (g.2.1 x l1).2.2.1
      · rw [h1]
        exact ztg_ex h1 hw.1
      · rw [h2]
        exact ztg_ex h2 hw.1
      · exact congrFun g.2.2.2.2.1 (x + 1)
    · obtain ⟨l1, _, _⟩ := ztg_lt h1
      have n0 : x ≠ 0 := fun z => by rw [z, a1] at h1; omega
      refine ⟨fun m => eI m x n0 l1, fun m => eR m x l1, (g.2.1 x l1).2.2.1, ?_⟩
      rw [h1]
      exact ztg_ex h1 hw.1
  refine Lds_gen (OF_M ho) (fun p hp => eR 1 _ (lw _ (by omega))) (fun p hp => eR 2 _ (lw _ (by omega))) (fun p hp m => eI m _ (by omega) (lw _ (by omega))) (eR 4 0 (lw _ (by omega))) (eI 4 2 (by decide) (lw _ (by omega))) (ij 17 (by decide)) (ij 11 (by decide)) (fun k hk m => eI m _ (by omega) (lw _ (by omega))) (fun k hk => ?_) (fun j a b c d => bj j (by omega)) h
  have eA : zAI X = zAI S := g.2.2.2.1
  show zAI X _ = _ ∧ zAI X _ = _
  rw [eA]
  exact ⟨rfl, rfl⟩
end KG
