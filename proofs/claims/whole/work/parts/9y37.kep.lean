def JJ (S : hS) : Prop := Bas S ∧ Lod S ∧ Prt S ∧ Emp S ∧ (¬ zMI S 10 = 0 → Lds S)
def RM (S S' : hS) : Prop := S'.1 ≤ S.1 + 1 ∧ zI S' 1 0 = zI S 1 0
section JO
variable {S S' : hS} {K : Nat → Fo} {p k f n j : Nat} {I : Nat → Int32} {A B : Nat → Nat → Int32}
theorem JJ_ro (h : JJ S) (r : RO S S') : JJ S' ∧ RM S S' := by
  obtain ⟨hB, hL, hP, hE, hD⟩ := h
  have hf := hB.2.1
  have r' := r
  obtain ⟨S1, k, hw, h1, rfl⟩ := r'
  exact ⟨⟨Bas_ro hB r, Lod_ro hf hL r, Prt_ro hf hP r, Emp_ro hf hE r, fun e => Lds_ro hf r (hD e)⟩, h1, (show zI S1 1 0 = zI S 1 0 from zI_fw (W := []) hf.1.1 hw rfl)⟩
theorem RI_JJ (h : RI S K) : JJ S := by
  obtain ⟨hB, hL, hP, hE, hR, hF⟩ := h
  exact ⟨hB, hL, hP, hE, fun _ => ⟨K, hR, hF⟩⟩
theorem JJ_RI (h : JJ S) (e : ¬ zMI S 10 = 0) : ∃ K, RI S K := by
  obtain ⟨hB, hL, hP, hE, hD⟩ := h
  obtain ⟨K, hR, hF⟩ := hD e
  exact ⟨K, hB, hL, hP, hE, hR, hF⟩
theorem upd_id {g : Nat → Int32} {i : Nat} {v : Int32} (h : g i = v) : upd g i v = g := by
  funext x
  by_cases e : x = i
  · rw [e, upd_s, h]
  · rw [upd_n e]
theorem szM_t {S : hS} {I I' : Nat → Int32} {A A' : Nat → Nat → Int32} : szM (szM S I A) I' A' = szM S I' A' := rfl
theorem szM_e {S : hS} : szM S (zMI S) (zMA S) = S := rfl
theorem RI_st2 (h : RI (szM S I A) K) (h0 : I 0 = 0) (hp : p < 6) : ∃ S1 I' B' ans N, (∀ m, N ≤ m → yT_takeTurn m S 2 (Int32.ofNat p) = some (szM S1 (zMI S) (zMA S), ans) ∧ x_stepOf m I A (Int32.ofNat p) = some (I', B', ans)) ∧ RI (szM S1 I' B') K ∧ S1.1 = S.1 ∧ zI S1 1 0 = zI S 1 0 ∧ I' 0 = 0 ∧ I' 10 = I 10 ∧ (ans = 0 ∨ ans = 1 ∨ ans = 2) := by
  obtain ⟨S1, I', B', ans, k, ⟨N, hN⟩, hR, hk, c, hI, ha⟩ := RI_step h hp
  have e0 : zM0 (szM S I A) = I := upd_id h0
  rw [e0] at hN hI
  refine ⟨S1, I', B', ans, N, fun m hm => ⟨?_, (hN m hm).2⟩, hR, c.1.1, c.2.1 1 0 (by omega) (by omega) (by omega), (hI 0 (by decide) (by decide) (by decide)).trans h0, hI 10 (by decide) (by decide) (by decide), ha⟩
  have e1 : szM (szM S I A) (zMI S) (zMA S) = S := rfl
  have e2 := m_23 (S := szM S I A) (I := zMI S) (B := zMA S) (n := m) (th := 2) (x1 := Int32.ofNat p)
  rw [e1, (hN m hm).1] at e2
  exact e2
theorem md6 {a : Nat} (h : a < 2000) : Int32.ofNat a - Int32.ofNat a / 6 * 6 = Int32.ofNat (a % 6) := by
  have : ∀ a, a < 2000 → Int32.ofNat a - Int32.ofNat a / 6 * 6 = Int32.ofNat (a % 6) := by decide +kernel
  exact this a h
theorem run_lp (hf : f < 6) (hn : n ≤ 300) : ∀ (d i did : Nat) (S : hS) (I : Nat → Int32) (A : Nat → Nat → Int32), i + d = n → RI (szM S I A) K → I 0 = 0 → ∃ S1 I' B' ans N, (∀ m, N ≤ m → y_run_32 0 m S (Int32.ofNat f) (Int32.ofNat n) (Int32.ofNat did) (Int32.ofNat i) = some (szM S1 (zMI S) (zMA S), .inr ans) ∧ x_run_56 m I A (Int32.ofNat f) (Int32.ofNat n) (Int32.ofNat did) (Int32.ofNat i) = some (I', B', ans)) ∧ RI (szM S1 I' B') K ∧ S1.1 = S.1 ∧ zI S1 1 0 = zI S 1 0 ∧ I' 0 = 0 ∧ I' 10 = I 10
  | 0, i, did, S, I, A, hi, h, h0 => by
    refine ⟨S, I, A, Int32.ofNat did, 1, fun m hm => ⟨?_, ?_⟩, h, rfl, rfl, h0, rfl⟩
    · obtain ⟨m, rfl⟩ : ∃ j, m = j + 1 := ⟨m - 1, by omega⟩
      rw [y_run_32, if_pos ((j_le (by omega) (by omega)).mpr (by omega)), szM_e]
    · obtain ⟨m, rfl⟩ : ∃ j, m = j + 1 := ⟨m - 1, by omega⟩
      rw [x_run_56, if_pos ((j_le (by omega) (by omega)).mpr (by omega))]
  | d + 1, i, did, S, I, A, hi, h, h0 => by
    have hfx : Fix S := h.1.2.1
    obtain ⟨S1, I1, B1, ans, N, h1, h2, h3, h4, h5, h6, h7⟩ := RI_st2 (p := (f + i) % 6) h h0 (Nat.mod_lt _ (by decide))
    obtain ⟨⟨z1, z2, z3, z4⟩, _, ⟨c1, _⟩, _⟩ := hfx
    have go : ∀ did', (ans = 1 → did' = did + 1) → (¬ ans = 1 → did' = did) → ∃ S1' I' B' ans' N, (∀ m, N ≤ m → y_run_32 0 m S (Int32.ofNat f) (Int32.ofNat n) (Int32.ofNat did) (Int32.ofNat i) = some (szM S1' (zMI S) (zMA S), .inr ans') ∧ x_run_56 m I A (Int32.ofNat f) (Int32.ofNat n) (Int32.ofNat did) (Int32.ofNat i) = some (I', B', ans')) ∧ RI (szM S1' I' B') K ∧ S1'.1 = S.1 ∧ zI S1' 1 0 = zI S 1 0 ∧ I' 0 = 0 ∧ I' 10 = I 10 := by
      intro did' g1 g2
      obtain ⟨S2, I2, B2, ans2, N2, k1, k2, k3, k4, k5, k6⟩ := run_lp hf hn d (i + 1) did' (szM S1 (zMI S) (zMA S)) I1 B1 (by omega) h2 h5
      refine ⟨S2, I2, B2, ans2, N + N2 + 1, fun m hm => ⟨?_, ?_⟩, k2, k3.trans h3, k4.trans h4, k5, k6.trans h6⟩
      · obtain ⟨m, rfl⟩ : ∃ j, m = j + 1 := ⟨m - 1, by omega⟩
        rw [y_run_32, if_neg (mt (j_le (by omega) (by omega)).mp (by omega)), if_pos z1]
        refine zlb_s.trans ((zob_s z3).trans ?_)
        rw [if_pos c1, ty_add, md6 (by omega)]
        refine (zcP_s (h1 m (by omega)).1).trans ?_
        by_cases q : ans = 1
        · rw [if_pos q, o1, o1, ← g1 q]
          exact (k1 m (by omega)).1
        · rw [if_neg q, o1, ← g2 q]
          exact (k1 m (by omega)).1
      · obtain ⟨m, rfl⟩ : ∃ j, m = j + 1 := ⟨m - 1, by omega⟩
        rw [x_run_56, if_neg (mt (j_le (by omega) (by omega)).mp (by omega)), ty_add, md6 (by omega)]
        refine (xb_some (h1 m (by omega)).2).trans ?_
        by_cases q : ans = 1
        · rw [if_pos q, o1, o1, ← g1 q]
          exact (k1 m (by omega)).2
        · rw [if_neg q, o1, Int32.add_zero, ← g2 q]
          exact (k1 m (by omega)).2
    by_cases q : ans = 1
    · exact go (did + 1) (fun _ => rfl) (fun z => absurd q z)
    · exact go did (fun z => absurd z q) (fun _ => rfl)
theorem op_9 {a1 a2 a3 : Int32} (h : JJ S) : ∃ S', Alk_9 S a1 a2 a3 S' ∧ JJ S' ∧ RM S S' := by
  have h' := h
  obtain ⟨⟨hl, hf, ht, hq, hv, hfl⟩, hL, hP, hE, hD⟩ := h
  obtain ⟨⟨z1, z2, z3, z4⟩, ⟨b1, b2⟩, ⟨c1, c2, c3, c4, c5⟩, ⟨d1, d2, d3⟩, ⟨e1, e2, e3⟩, ⟨f1, f2⟩, ⟨g1, g2⟩, ⟨h1, h2⟩, ⟨i1, i2⟩, j1, k1⟩ := hf
  by_cases q1 : rd_rp a1 = true
  · obtain ⟨p, hp, rfl⟩ := pt_c a1 q1
    have n1 := (np_eq (Int32.ofNat p)).1.mpr q1
    cases hz : zR S 4 0 with
    | none =>
      have l0 := hL.mp hz
      refine ⟨_, ⟨0, 2, 0, szEx S 12, upd (zMI S) 0 2, zMA S, ?_, ?_, rfl, fun z => absurd z (by decide), rfl⟩, JJ_ro h' (RO_x 12 2)⟩
      · simp only [yL_step, y_step, y_needParty, y_needPlay, zob, zoc, zcH, zcHv, zcT, zcTv, zlb, z1, hz, (ty_b0 _), q1, if_false, if_true, reduceCtorEq]
        rfl
      · show x_step 0 (zMI S) (zMA S) _ = _
        simp only [x_step, n1, l0, if_true]
    | some b =>
      have l0 : ¬ zMI S 10 = 0 := fun z => by rw [hL.mpr z] at hz; cases hz
      have hJ0 := (JJ_ro h' (RO_r (S := S) 0)).1
      obtain ⟨K, hK⟩ := JJ_RI hJ0 l0
      obtain ⟨S1, I', B', ans, N, hN, r1, r2, r3, r4, r5, r6⟩ := RI_st2 hK rfl hp
      have hJ := RI_JJ r1
      have hro := JJ_ro hJ (RO_l (S := szM S1 I' B') (vp_updL (zAL S1 177) 0 (Int32.toInt64 ans)) 0)
      have eI : upd I' 0 0 = I' := upd_id r4
      refine ⟨szM (szAL S1 177 (vp_updL (zAL S1 177) 0 (Int32.toInt64 ans))) I' B', ⟨N, 0, ans, szM (szAL S1 177 (vp_updL (zAL S1 177) 0 (Int32.toInt64 ans))) (zMI S) (zMA S), I', B', ?_, ?_, r4, ?_, rfl⟩, ?_, ?_⟩
      · have hN1 := (hN N (Nat.le_refl _)).1
        have i1' : ztg (szM S1 (zMI S) (zMA S)) 177 = 23 := r1.1.2.1.2.2.2.2.2.2.2.2.1.1
        have i2' : zLen (szM S1 (zMI S) (zMA S)) 177 = 1 := r1.1.2.1.2.2.2.2.2.2.2.2.1.2
        have hy : y_step N S 0 (Int32.ofNat p) = some (szM S1 (zMI S) (zMA S), .inr ans) := by
          simp only [y_step, y_needParty, y_needPlay, zob, zoc, zcT, zcTv, zlb, z1, z3, hz, c1, (ty_b0 _), q1, if_false, if_true, reduceCtorEq]
          rw [hN1]
          rfl
        simp only [yL_step, zob, z1, if_true]
        rw [hy]
        simp only [zcH, zcHv, zob, i1', i2', if_true, if_pos ib0]
        rfl
      · show x_step N (zMI S) (zMA S) _ = _
        have := (hN N (Nat.le_refl _)).2
        simp only [x_step, n1, if_neg l0, if_true]
        exact (xb_some this).trans rfl
      · intro _
        show zAL (szAL S1 177 _) 177 0 = _
        rw [zAL_self]
        rfl
      · rw [show szM (szAL (szM S1 I' B') 177 (vp_updL (zAL S1 177) 0 (Int32.toInt64 ans))) (upd (zMI (szM S1 I' B')) 0 0) (zMA (szM S1 I' B')) = szM (szAL S1 177 (vp_updL (zAL S1 177) 0 (Int32.toInt64 ans))) (upd I' 0 0) B' from rfl, eI] at hro
        exact hro.1
      · exact ⟨Nat.le_succ_of_le (Nat.le_of_eq r2), r3⟩
  · have n1 : ¬ x_noParty a1 = 0 := mt (np_eq a1).1.mp q1
    have q1' : rd_rp a1 = false := by simpa using q1
    refine ⟨_, ⟨0, 1, 0, szEx S 14, upd (zMI S) 0 1, zMA S, ?_, ?_, rfl, fun z => absurd z (by decide), rfl⟩, JJ_ro h' (RO_x 14 1)⟩
    · simp only [yL_step, y_step, y_needParty, zob, zcH, zcHv, zcT, zcTv, z1, (ty_b0 _), q1', if_false, if_true, reduceCtorEq]
    · show x_step 0 (zMI S) (zMA S) _ = _
      simp only [x_step, n1, if_false]
end JO
