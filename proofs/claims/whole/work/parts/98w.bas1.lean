def BAD (S S' : hS) : Prop := ∃ X I B q, Grw S X ∧ Fw whyL_load S (szEx (szI (szI (szI X 1 0 0) 2 0 q) 3 0 (-1)) 11) ∧ S' = szM (szEx (szI (szI (szI X 1 0 0) 2 0 q) 3 0 (-1)) 11) I B ∧ I 0 = 1 ∧ I 1 = 0 ∧ I 2 = q ∧ I 3 = -1 ∧ (∀ j, 10 ≤ j → I j = zMI S j) ∧ (∀ j, (j < 2 ∨ 15 < j) → B j = zMA S j)
theorem bd_I {X : hS} {q : Int32} {k a : Nat} (h : a ≠ 0) : zI (szEx (szI (szI (szI X 1 0 0) 2 0 q) 3 0 (-1)) 11) k a = zI X k a := by
  show zI (szI (szI (szI X 1 0 0) 2 0 q) 3 0 (-1)) k a = _
  rw [zI_ne h, zI_ne h, zI_ne h]
theorem Bas_bad {S S' : hS} (h : Bas S) (r : BAD S S') : Bas S' := by
  obtain ⟨X, I, B, q, g, hw, rfl, i0, i1, i2, i3, ij, bj⟩ := r
  obtain ⟨hl, hf, ht, hq, hv, hfl⟩ := h
  have hf1 := Fix_fw (by decide) hf hw
  obtain ⟨⟨a1, a2, a3, a4⟩, ⟨b1, b2⟩, ⟨c1, c2, c3, c4, c5⟩, ⟨d1, d2, d3⟩, ⟨e1, e2, e3⟩, ⟨f1, f2⟩, ⟨g1, g2⟩, ⟨h1, h2⟩, ⟨i1', i2'⟩, j1, k1⟩ := hf
  have eA : zAI X = zAI S := g.2.2.2.1
  have l2 : 2 < S.1 := (ztg_lt c1).1
  refine ⟨Lay_M (Lay_ex hl hw.1), Fix_M hf1, ⟨0, by decide, ?_, i1, fun i hi => absurd hi (Nat.not_lt_zero _)⟩, ?_, ?_, ?_⟩
  · show zI (szI (szI (szI X 1 0 0) 2 0 q) 3 0 (-1)) 1 0 = Int32.ofNat 0
    rw [zI_k (by decide), zI_k (by decide), zI_self]
    rfl
  · obtain ⟨r, q1, q2, q3, q4, q5⟩ := hq
    refine ⟨r, q1, q2, ?_, ?_, fun k hk => ?_⟩
    · refine (bd_I (by decide)).trans ?_
      rw [(g.2.1 2 l2).1 4]
      exact q3
    · show I 17 = _
      rw [ij 17 (by decide)]
      exact q4
    · obtain ⟨m1, m2, m3, m4, m5, m6, m7⟩ := k1 k hk
      have lk : 25 + 3 * k < S.1 := (ztg_lt m1).1
      obtain ⟨h, z, p1, p2, p3, p4, p5, p6⟩ := q5 k hk
      refine ⟨h, z, p1, p2, ?_, ?_, ?_, fun i hi => ?_⟩
      · refine (bd_I (by omega)).trans ?_
        rw [(g.2.1 _ lk).1 2]
        exact p3
      · refine (bd_I (by omega)).trans ?_
        rw [(g.2.1 _ lk).1 3]
        exact p4
      · show B 39 k = _
        rw [bj 39 (by decide)]
        exact p5
      · show zAI X (26 + 3 * k) ((h + i) % 8) = B 40 (8 * k + i) ∧ zAI X (27 + 3 * k) ((h + i) % 8) = B 41 (8 * k + i) ∧ (B 41 (8 * k + i) = 0 ∨ B 41 (8 * k + i) = 1)
        rw [eA, bj 40 (by decide), bj 41 (by decide)]
        exact p6 i hi
  · intro i hi
    show zAI X 5 i = B 33 i ∧ zAI X 6 i = B 34 i ∧ zAI X 133 i = B 35 i
    rw [eA, bj 33 (by decide), bj 34 (by decide), bj 35 (by decide)]
    exact hv i hi
  · obtain ⟨q1, q2, q3⟩ := hfl
    refine ⟨?_, ?_, ?_⟩
    · show zI (szI (szI (szI X 1 0 0) 2 0 q) 3 0 (-1)) 2 0 = I 2
      rw [zI_k (by decide), zI_self, i2]
    · show zI (szI (szI (szI X 1 0 0) 2 0 q) 3 0 (-1)) 3 0 = I 3
      rw [zI_self, i3]
    · show zI (szEx (szI (szI (szI X 1 0 0) 2 0 q) 3 0 (-1)) 11) 5 2 = I 18 ∧ (I 18 = 0 ∨ I 18 = 1)
      rw [bd_I (by decide), (g.2.1 2 l2).1 5, ij 18 (by decide)]
      exact q3
theorem op_1b {S : hS} {a1 a2 a3 : Int32} (h : Bas S) (hN : S.1 + 42 ≤ ie_S) {c : Nat} {T : pw × Nat × Fo} (hc : c ≤ 200) (t1 : zI S 1 0 = Int32.ofNat c) (t2 : zMI S 1 = Int32.ofNat c) (t3 : ∀ i, i < c → zAI S 1 i = zMA S 1 i ∧ 33 ≤ (zAI S 1 i).toInt ∧ (zAI S 1 i).toInt ≤ 126) (hT : T = pRow (zAI S 1) c 9 0 (0, false) 0) (hbad : T.1.2 = true ∨ T.2.2 = .nil) : ∃ S', Alk_1 S a1 a2 a3 S' ∧ BAD S S' ∧ S'.1 ≤ S.1 + 43 := by
  obtain ⟨-, ⟨⟨h0, r0, -, -⟩, ⟨h1, h2⟩, -⟩, -⟩ := h
  have hl : Ltr (zAI S 1) c := fun j hj => (t3 j hj).2
  obtain ⟨N, r1⟩ := x_bad (I := zMI S) (A := zMA S) (x1 := if a1 = 0 then 0 else 1) hT t2 hc (fun j hj => (t3 j hj).1.symm) hl hbad
  obtain ⟨X, ⟨gX, gB⟩, e1⟩ := y_bad (m := N + 84) (x1 := if a1 = 0 then 0 else 1) hT (by omega) hN h0 r0 t1 h1 h2 hc rfl hl hbad
  obtain ⟨I, B, s1, s2, s3, s4, s5, s6, s7⟩ := r1 (N + 84) (by omega)
  refine ⟨_, ⟨N + 84, 1, 0, _, I, B, e1, ?_, s2, fun z => absurd z (by decide), rfl⟩, ⟨X, I, B, _, gX, fhyL_load e1, rfl, s2, s3, s4, s5, s6, s7⟩, Nat.succ_le_succ gB⟩
  have m1 : zMI X = zMI S := gX.2.2.2.2.2.1
  have m2 : zMA X = zMA S := gX.2.2.2.2.2.2
  show x_load (N + 84) (zMI X) (zMA X) _ = _
  rw [m1, m2]
  exact s1
