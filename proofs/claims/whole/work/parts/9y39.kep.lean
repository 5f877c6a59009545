section JW
variable {S S' : hS} {K : Nat → Fo} {p k f n j : Nat} {I : Nat → Int32} {A B : Nat → Nat → Int32} {g : Nat → Int32}
theorem JJ_who (h : JJ S) (hg : ∀ i, i < 24 → g i = A 35 i) (hA : ∀ j, j ≠ 35 → A j = zMA S j) (hI : ∀ j, j ≠ 0 → j ≠ 19 → I j = zMI S j) : JJ (szM (szAI S 133 g) I A) := by
  obtain ⟨⟨hl, hf, ht, hq, hv, hfl⟩, hL, hP, hE, hD⟩ := h
  have hf1 : Fix (szAI S 133 g) := hf
  have hl1 : Lay (szAI S 133 g) := hl
  refine ⟨⟨Lay_M hl1, Fix_M hf1, ?_, ?_, fun i hi => ⟨?_, ?_, ?_⟩, ?_, ?_, ?_⟩, ?_, fun p' hp' => ?_, fun e k' hk' => ?_, fun e => ?_⟩
  · obtain ⟨cc, t1, t2, t3, t4⟩ := ht
    refine ⟨cc, t1, t2, ?_, fun i hi => ?_⟩
    · show I 1 = _
      rw [hI 1 (by decide) (by decide)]
      exact t3
    · show zAI (szAI S 133 g) 1 i = A 1 i ∧ 33 ≤ (zAI (szAI S 133 g) 1 i).toInt ∧ (zAI (szAI S 133 g) 1 i).toInt ≤ 126
      rw [zAI_n (by decide), hA 1 (by decide)]
      exact t4 i hi
  · obtain ⟨r, r1, r8, h1, h2, h3⟩ := hq
    refine ⟨r, r1, r8, h1, ?_, fun k hk => ?_⟩
    · show I 17 = _
      rw [hI 17 (by decide) (by decide)]
      exact h2
    · obtain ⟨h', z, a1, a2, a3, a4, a5, a6⟩ := h3 k hk
      refine ⟨h', z, a1, a2, a3, a4, ?_, fun i hi => ?_⟩
      · show A 39 k = _
        rw [hA 39 (by decide)]
        exact a5
      · show zAI (szAI S 133 g) (26 + 3 * k) ((h' + i) % 8) = A 40 (8 * k + i) ∧ zAI (szAI S 133 g) (27 + 3 * k) ((h' + i) % 8) = A 41 (8 * k + i) ∧ (A 41 (8 * k + i) = 0 ∨ A 41 (8 * k + i) = 1)
        rw [zAI_n (by omega), zAI_n (by omega), hA 40 (by decide), hA 41 (by decide)]
        exact a6 i hi
  · show zAI (szAI S 133 g) 5 i = A 33 i
    rw [zAI_n (by decide), hA 33 (by decide)]
    exact (hv i hi).1
  · show zAI (szAI S 133 g) 6 i = A 34 i
    rw [zAI_n (by decide), hA 34 (by decide)]
    exact (hv i hi).2.1
  · show zAI (szAI S 133 g) 133 i = A 35 i
    rw [zAI_s]
    exact hg i hi
  · show zI S 2 0 = I 2
    rw [hI 2 (by decide) (by decide)]
    exact hfl.1
  · show zI S 3 0 = I 3
    rw [hI 3 (by decide) (by decide)]
    exact hfl.2.1
  · show zI S 5 2 = I 18 ∧ (I 18 = 0 ∨ I 18 = 1)
    rw [hI 18 (by decide) (by decide)]
    exact hfl.2.2
  · show zR S 4 0 = none ↔ I 10 = 0
    rw [hI 10 (by decide) (by decide)]
    exact hL
  · obtain ⟨t, t1, t2, t3, t4⟩ := hP p' hp'
    refine ⟨t, t1, t2, ?_, fun i hi => ?_⟩
    · show A 27 p' = _
      rw [hA 27 (by decide)]
      exact t3
    · show zAI (szAI S 133 g) (9 + 3 * p') i = A 26 (1000 * p' + i)
      rw [zAI_n (by omega), hA 26 (by decide)]
      exact t4 i hi
  · refine hE ?_ k' hk'
    have e' : I 18 = 0 := e
    rw [hI 18 (by decide) (by decide)] at e'
    exact e'
  · have e' : ¬ I 10 = 0 := e
    rw [hI 10 (by decide) (by decide)] at e'
    have ho : OF S (szAI S 133 g) := OF_e hf rfl rfl rfl (fun _ _ _ => rfl) (low_tg hf hl) rfl rfl rfl
    exact Lds_gen (OF_M ho) (fun _ _ => rfl) (fun _ _ => rfl) (fun _ _ _ => rfl) rfl rfl (hI 17 (by decide) (by decide)) (hI 11 (by decide) (by decide)) (fun _ _ _ => rfl) (fun k _ => ⟨zAI_n (by omega), zAI_n (by omega)⟩) (fun j _ _ _ d => hA j d) (hD e')
theorem wh_42 {l1 : Int32} : ∀ (d i : Nat) (A : Nat → Nat → Int32), i + d = 24 → ∃ A', (∀ m, x_whole_42 (m + 1 + d) I A l1 (Int32.ofNat i) = x_whole_70 m I A' l1 0 0) ∧ (∀ j, j ≠ 35 → A' j = A j) ∧ (∀ x, i ≤ x → x < 24 → A' 35 x = A 33 x) ∧ (∀ x, x < i → A' 35 x = A 35 x)
  | 0, i, A, hi => by
    refine ⟨A, fun m => ?_, fun _ _ => rfl, fun x h1 h2 => by omega, fun _ _ => rfl⟩
    rw [show m + 1 + 0 = m + 1 from rfl, x_whole_42, if_pos (show (24 : Int32) ≤ Int32.ofNat i from (j_le (m := 24) (by decide) (by omega)).mpr (by omega))]
  | d + 1, i, A, hi => by
    obtain ⟨A', h1, h2, h3, h4⟩ := wh_42 (l1 := l1) d (i + 1) (upA A 35 (upd (A 35) i (A 33 i))) (by omega)
    refine ⟨A', fun m => ?_, fun j hj => ?_, fun x a b => ?_, fun x a => ?_⟩
    · rw [show m + 1 + (d + 1) = m + 1 + d + 1 by omega, x_whole_42, if_neg (fun z : (24 : Int32) ≤ Int32.ofNat i => by
        have := (j_le (m := 24) (by decide) (by omega)).mp z
        omega), if_pos (j_in (by omega) (by omega)), (j_n (n := i) (by omega)).2, o1]
      exact h1 m
    · rw [h2 j hj, upA_n hj]
    · by_cases e : x = i
      · rw [e, h4 i (by omega), upA_j, upd_s]
      · rw [h3 x (by omega) b, upA_n (by decide)]
    · rw [h4 x (by omega), upA_j, upd_n (by omega)]
theorem op_16 {a1 a2 a3 : Int32} (h : JJ S) : ∃ S', Alk_16 S a1 a2 a3 S' ∧ JJ S' ∧ RM S S' := by
  have h' := h
  obtain ⟨⟨hl, hf, ht, hq, hv, hfl⟩, hL, hP, hE, hD⟩ := h
  obtain ⟨⟨z1, z2, z3, z4⟩, ⟨b1, b2⟩, ⟨c1, c2, c3, c4, c5⟩, ⟨d1, d2, d3⟩, ⟨e1, e2, e3⟩, ⟨f1, f2⟩, ⟨g1, g2⟩, ⟨h1, h2⟩, ⟨i1, i2⟩, j1, k1⟩ := hf
  by_cases q2 : a1 < 0
  · refine ⟨_, ⟨0, 1, 0, szEx S 11, upd (zMI S) 0 1, zMA S, ?_, ?_, rfl, fun z => absurd z (by decide), rfl⟩, JJ_ro h' (RO_x 11 1)⟩
    · simp only [yL_whole, y_whole, zob, zcH, zcHv, z1, if_pos q2, if_true]
    · show x_whole 0 (zMI S) (zMA S) _ = _
      simp only [x_whole, if_pos q2]
  · by_cases q3 : a1 ≤ 2000
    · obtain ⟨n, hn, rfl⟩ := nat300 (N := 2000) (by decide) q2 q3
      cases hz : zR S 4 0 with
      | none =>
        have l0 := hL.mp hz
        refine ⟨_, ⟨0, 2, 0, szEx S 12, upd (zMI S) 0 2, zMA S, ?_, ?_, rfl, fun z => absurd z (by decide), rfl⟩, JJ_ro h' (RO_x 12 2)⟩
        · simp only [yL_whole, y_whole, y_needPlay, zob, zoc, zcH, zcHv, zcT, zcTv, zlb, z1, hz, if_neg q2, if_pos q3, if_false, if_true, reduceCtorEq]
          rfl
        · show x_whole 0 (zMI S) (zMA S) _ = _
          simp only [x_whole, l0, if_neg q2, if_pos q3, if_true]
      | some b =>
        have l0 : ¬ zMI S 10 = 0 := fun z => by rw [hL.mpr z] at hz; cases hz
        obtain ⟨K, _, _, _, D, t, lw, st, p1, p2, p3, p4, p5, p6⟩ := hD l0
        obtain ⟨A', w1, w2, w3, _⟩ := wh_42 (I := upd (zMI S) 0 0) (l1 := Int32.ofNat n) 24 0 (zMA S) (by omega)
        have hg0 : ∀ i, i < 24 → va_cpy (zAI S 5) (zAI S 133) 0 0 24 i = A' 35 i := fun i hi => by
          rw [w3 i (Nat.zero_le _) hi, ← (hv i hi).1]
          show (if 0 ≤ i ∧ i < 0 + 24 then zAI S 5 (0 + (i - 0)) else _) = _
          rw [if_pos (by omega), Nat.zero_add, Nat.sub_zero]
        obtain ⟨g', I', A2, ans, N, r1, r2, r3, r4⟩ := wloop hn z1 z4 h1 h2 p6 n 0 (va_cpy (zAI S 5) (zAI S 133) 0 0 24) (upd (zMI S) 0 0) A' [t] (zR S 4 0) 0 (by omega) hg0 w2 p5 ⟨p1, zR S 4 0, none, p2, p3, rfl, by cases zR S 4 0 <;> rfl⟩ ⟨st, p4, rfl⟩
        have hI0 : I' 0 = 0 := r4 0 (by decide)
        have hJ : JJ (szM (szAI S 133 g') I' A2) := JJ_who h' r2 r3 (fun j a b => (r4 j b).trans (upd_n a))
        have hro := JJ_ro hJ (RO_l (S := szM (szAI S 133 g') I' A2) (vp_updL (zAL S 177) 0 (Int32.toInt64 ans)) 0)
        have eI : upd I' 0 0 = I' := upd_id hI0
        refine ⟨szM (szAL (szAI S 133 g') 177 (vp_updL (zAL S 177) 0 (Int32.toInt64 ans))) I' A2, ⟨N + 30, 0, ans, szAL (szAI S 133 g') 177 (vp_updL (zAL S 177) 0 (Int32.toInt64 ans)), I', A2, ?_, ?_, hI0, ?_, rfl⟩, ?_, ?_⟩
        · have hN1 := (r1 (N + 30) (by omega)).1
          have i1' : ztg (szAI S 133 g') 177 = 23 := i1
          have i2' : zLen (szAI S 133 g') 177 = 1 := i2
          have hc : zcpk (Int32.ofNat 24) S 5 133 := by
            unfold zcpk
            rw [h2, f2]
            decide
          have hy : y_whole (N + 30) S 0 (Int32.ofNat n) = some (szAI S 133 g', .inr ans) := by
            simp only [y_whole, y_needPlay, zoc, zob, zcT, zcTv, zlb, z1, z3, z4, hz, c1, c4, if_pos (zal_20 h1), f1, h1, h2, if_pos hc, if_neg q2, if_pos q3, if_true]
            rw [← hz]
            exact hN1
          simp only [yL_whole, zob, z1, if_true]
          rw [hy]
          simp only [zcH, zcHv, zob, i1', i2', if_true, if_pos ib0]
          rfl
        · show x_whole (N + 30) (zMI S) (zMA S) _ = _
          simp only [x_whole, if_neg l0, if_neg q2, if_pos q3]
          have := w1 (N + 5)
          rw [show N + 5 + 1 + 24 = N + 30 by omega] at this
          refine this.trans ?_
          exact (r1 (N + 5) (by omega)).2
        · intro _
          show zAL (szAL (szAI S 133 g') 177 _) 177 0 = _
          rw [zAL_self]
          rfl
        · rw [show szM (szAL (szM (szAI S 133 g') I' A2) 177 (vp_updL (zAL S 177) 0 (Int32.toInt64 ans))) (upd (zMI (szM (szAI S 133 g') I' A2)) 0 0) (zMA (szM (szAI S 133 g') I' A2)) = szM (szAL (szAI S 133 g') 177 (vp_updL (zAL S 177) 0 (Int32.toInt64 ans))) (upd I' 0 0) A2 from rfl, eI] at hro
          exact hro.1
        · exact ⟨Nat.le_succ _, rfl⟩
    · refine ⟨_, ⟨0, 1, 0, szEx S 11, upd (zMI S) 0 1, zMA S, ?_, ?_, rfl, fun z => absurd z (by decide), rfl⟩, JJ_ro h' (RO_x 11 1)⟩
      · simp only [yL_whole, y_whole, zob, zcH, zcHv, z1, if_neg q2, if_neg q3, if_true]
      · show x_whole 0 (zMI S) (zMA S) _ = _
        simp only [x_whole, if_neg q2, if_neg q3]
end JW
