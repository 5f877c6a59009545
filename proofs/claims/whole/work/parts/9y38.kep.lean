section JP
variable {S S' : hS} {K : Nat → Fo} {p k f n j : Nat} {I : Nat → Int32} {A B : Nat → Nat → Int32} {T la : List Nat} {ks r : Fo}
theorem nat300 {x : Int32} {N : Nat} (hN : N < 2 ^ 31) (h0 : ¬ x < 0) (h1 : x ≤ Int32.ofNat N) : ∃ n, n ≤ N ∧ x = Int32.ofNat n := by
  rw [Int32.lt_iff_toInt_lt, show (0 : Int32).toInt = 0 by decide] at h0
  rw [Int32.le_iff_toInt_le, (j_n hN).1] at h1
  refine ⟨x.toInt.toNat, by omega, ?_⟩
  apply Int32.toInt_inj.mp
  rw [(j_n (by omega)).1]
  omega
theorem op_10 {a1 a2 a3 : Int32} (h : JJ S) : ∃ S', Alk_10 S a1 a2 a3 S' ∧ JJ S' ∧ RM S S' := by
  have h' := h
  obtain ⟨⟨hl, hf, ht, hq, hv, hfl⟩, hL, hP, hE, hD⟩ := h
  obtain ⟨⟨z1, z2, z3, z4⟩, ⟨b1, b2⟩, ⟨c1, c2, c3, c4, c5⟩, ⟨d1, d2, d3⟩, ⟨e1, e2, e3⟩, ⟨f1, f2⟩, ⟨g1, g2⟩, ⟨h1, h2⟩, ⟨i1, i2⟩, j1, k1⟩ := hf
  by_cases q1 : rd_rp a1 = true
  · obtain ⟨p, hp, rfl⟩ := pt_c a1 q1
    have n1 := (np_eq (Int32.ofNat p)).1.mpr q1
    by_cases q2 : a2 < 0
    · refine ⟨_, ⟨0, 2, 0, szEx S 11, upd (zMI S) 0 2, zMA S, ?_, ?_, rfl, fun z => absurd z (by decide), rfl⟩, JJ_ro h' (RO_x 11 2)⟩
      · simp only [yL_run, y_run, y_needParty, zob, zcH, zcHv, zcT, zcTv, z1, (ty_b0 _), q1, if_pos q2, if_false, if_true, reduceCtorEq]
        rfl
      · show x_run 0 (zMI S) (zMA S) _ _ = _
        simp only [x_run, n1, if_pos q2, if_true]
    · by_cases q3 : a2 ≤ 300
      · obtain ⟨n, hn, rfl⟩ := nat300 (N := 300) (by decide) q2 q3
        cases hz : zR S 4 0 with
        | none =>
          have l0 := hL.mp hz
          refine ⟨_, ⟨0, 3, 0, szEx S 12, upd (zMI S) 0 3, zMA S, ?_, ?_, rfl, fun z => absurd z (by decide), rfl⟩, JJ_ro h' (RO_x 12 3)⟩
          · simp only [yL_run, y_run, y_needParty, y_needPlay, zob, zoc, zcH, zcHv, zcT, zcTv, zlb, z1, hz, (ty_b0 _), q1, if_neg q2, if_pos q3, if_false, if_true, reduceCtorEq]
            rfl
          · show x_run 0 (zMI S) (zMA S) _ _ = _
            simp only [x_run, n1, l0, if_neg q2, if_pos q3, if_true]
        | some b =>
          have l0 : ¬ zMI S 10 = 0 := fun z => by rw [hL.mpr z] at hz; cases hz
          have hJ0 := (JJ_ro h' (RO_r (S := S) 0)).1
          obtain ⟨K, hK⟩ := JJ_RI hJ0 l0
          obtain ⟨S1, I', B', ans, N, hN, r1, r2, r3, r4, r5⟩ := run_lp hp hn n 0 0 S _ _ (by omega) hK rfl
          have hJ := RI_JJ r1
          have hro := JJ_ro hJ (RO_l (S := szM S1 I' B') (vp_updL (zAL S1 177) 0 (Int32.toInt64 ans)) 0)
          have eI : upd I' 0 0 = I' := upd_id r4
          refine ⟨szM (szAL S1 177 (vp_updL (zAL S1 177) 0 (Int32.toInt64 ans))) I' B', ⟨N, 0, ans, szM (szAL S1 177 (vp_updL (zAL S1 177) 0 (Int32.toInt64 ans))) (zMI S) (zMA S), I', B', ?_, ?_, r4, ?_, rfl⟩, ?_, ?_⟩
          · have hN1 := (hN N (Nat.le_refl _)).1
            have i1' : ztg (szM S1 (zMI S) (zMA S)) 177 = 23 := r1.1.2.1.2.2.2.2.2.2.2.2.1.1
            have i2' : zLen (szM S1 (zMI S) (zMA S)) 177 = 1 := r1.1.2.1.2.2.2.2.2.2.2.2.1.2
            have hy : y_run N S 0 (Int32.ofNat p) (Int32.ofNat n) = some (szM S1 (zMI S) (zMA S), .inr ans) := by
              simp only [y_run, y_needParty, y_needPlay, zoc, zcT, zcTv, zlb, z1, hz, (ty_b0 _), q1, if_neg q2, if_pos q3, if_false, if_true, reduceCtorEq]
              exact hN1
            simp only [yL_run, zob, z1, if_true]
            rw [hy]
            simp only [zcH, zcHv, zob, i1', i2', if_true, if_pos ib0]
            rfl
          · show x_run N (zMI S) (zMA S) _ _ = _
            have := (hN N (Nat.le_refl _)).2
            simp only [x_run, n1, if_neg l0, if_neg q2, if_pos q3, if_true]
            exact this
          · intro _
            show zAL (szAL S1 177 _) 177 0 = _
            rw [zAL_self]
            rfl
          · rw [show szM (szAL (szM S1 I' B') 177 (vp_updL (zAL S1 177) 0 (Int32.toInt64 ans))) (upd (zMI (szM S1 I' B')) 0 0) (zMA (szM S1 I' B')) = szM (szAL S1 177 (vp_updL (zAL S1 177) 0 (Int32.toInt64 ans))) (upd I' 0 0) B' from rfl, eI] at hro
            exact hro.1
          · exact ⟨Nat.le_succ_of_le (Nat.le_of_eq r2), r3⟩
      · refine ⟨_, ⟨0, 2, 0, szEx S 11, upd (zMI S) 0 2, zMA S, ?_, ?_, rfl, fun z => absurd z (by decide), rfl⟩, JJ_ro h' (RO_x 11 2)⟩
        · simp only [yL_run, y_run, y_needParty, zob, zcH, zcHv, zcT, zcTv, z1, (ty_b0 _), q1, if_neg q2, if_neg q3, if_false, if_true, reduceCtorEq]
          rfl
        · show x_run 0 (zMI S) (zMA S) _ _ = _
          simp only [x_run, n1, if_neg q2, if_neg q3, if_true]
  · have n1 : ¬ x_noParty a1 = 0 := mt (np_eq a1).1.mp q1
    have q1' : rd_rp a1 = false := by simpa using q1
    refine ⟨_, ⟨0, 1, 0, szEx S 14, upd (zMI S) 0 1, zMA S, ?_, ?_, rfl, fun z => absurd z (by decide), rfl⟩, JJ_ro h' (RO_x 14 1)⟩
    · simp only [yL_run, y_run, y_needParty, zob, zcH, zcHv, zcT, zcTv, z1, (ty_b0 _), q1', if_false, if_true, reduceCtorEq]
    · show x_run 0 (zMI S) (zMA S) _ _ = _
      simp only [x_run, n1, if_false]
theorem at_ref (ht : TX A p T) (h36 : A 36 p = Int32.ofNat j) (hs : Sfx T j (tx 0 (cn n ks r) ++ la)) (w1 : Hv n) (w2 : Hk n ks) (w3 : WK false ks) (h10 : ¬ I 10 = 0) : x_at I A (Int32.ofNat p) = some (upd I 0 0, A, Int32.ofNat (cK n)) := by
  have hp := ht.1
  have hl := ht.2.2.2.1
  have n1 : x_noParty (Int32.ofNat p) = 0 := by
    have : ∀ p, p < 6 → x_noParty (Int32.ofNat p) = 0 := by decide
    exact this p hp
  rw [show tx 0 (cn n ks r) = _ from tx_cn] at hs
  obtain ⟨c, l, hc, k1, k2, k3, k4, k6, k7⟩ := hd_c w1
  rw [hc] at hs
  have hs' : Sfx T j (c :: (l ++ (tx (if cK n = 5 then 1 else 2) ks ++ tx 0 r) ++ la)) := hs
  have hm := Sgt_m (Sfx_w hs')
  have c1 := ht.2.2.2.2 _ hm.2
  have c2 : T.getD (j + 1) 0 < 256 := getD_s ht.2.2.2.2
  have gd : T.getD (j + 1) 0 = (l ++ (tx (if cK n = 5 then 1 else 2) ks ++ tx 0 r) ++ la).getD 0 0 := Sfx_g (i := 0) (Sfx_c hs')
  unfold x_at
  rw [n1, if_pos rfl, if_neg h10, if_pos (j_in (by omega) hp), (j_n (n := p) (by omega)).2, h36, ht.2.1, if_pos ((j_lt (by omega) (by omega)).mpr hm.1)]
  refine (xb_some (chr ht (by omega))).trans ?_
  rw [h36, o1]
  refine (xb_some (chr ht (by omega))).trans ?_
  rw [Sgt_g (Sfx_w hs'), pty_o c1]
  have kk : cK n = 1 ∨ cK n = 2 ∨ cK n = 3 ∨ cK n = 4 ∨ cK n = 5 ∨ cK n = 6 ∨ cK n = 7 ∨ cK n = 8 := by
    rcases w1 with ⟨k, _⟩ | ⟨k, _⟩ | ⟨k, _⟩ | ⟨k, _⟩ | ⟨k, _⟩ | ⟨k, _⟩ | ⟨k, _⟩ | ⟨k, _⟩ <;> omega
  rcases kk with k | k | k | k | k | k | k | k
  · obtain ⟨u1, u2, u3, u4⟩ := k1 k
    have hd : T.getD (j + 1) 0 = 58 := by
      rw [gd]
      rw [hdk_1 k] at hc
      rw [← (List.cons.inj hc).2]
      rfl
    rw [u4, if_pos (by decide), if_neg (mt (cq33 c1).mp u1), if_neg (mt (cq63 c1).mp u2), if_neg (mt (cq64 c1).mp u3), if_pos ((cq58 c2).mpr hd), k]
    rfl
  · obtain ⟨u1, u2, u3, u4⟩ := k2 k
    have hX := hv_x w1 (Or.inr (Or.inr (Or.inr k)))
    have hd : T.getD (j + 1) 0 ≠ 58 := by
      rw [gd]
      rw [hdk_2 k] at hc
      cases hxt : xt (cE n) with
      | nil => exact absurd hxt hX.1
      | cons c' l' =>
        rw [hxt] at hc
        rw [← (List.cons.inj hc).2]
        cases l' with
        | nil => exact (by decide : (62 : Nat) ≠ 58)
        | cons d l2 => exact (xch_f (hX.2.2 d (by rw [hxt]; simp))).2.2.2.2.2.1
    rw [u4, if_pos (by decide), if_neg (mt (cq33 c1).mp u1), if_neg (mt (cq63 c1).mp u2), if_neg (mt (cq64 c1).mp u3), if_neg (mt (cq58 c2).mp hd), k]
    rfl
  · obtain ⟨u1, u2, u3, u4⟩ := k3 (Or.inl k)
    have hd : T.getD (j + 1) 0 = 62 := by
      rw [gd]
      rw [hdk_3 k] at hc
      rw [← (List.cons.inj hc).2]
      rfl
    rw [u4, if_neg (by decide), if_pos ((cq62 c2).mpr hd), k]
    rfl
  · have e := k4 k
    rw [e, show ptc 33 = false by decide, if_pos (by decide), if_pos (by decide), k]
    rfl
  · obtain ⟨u1, u2, u3, u4⟩ := k3 (Or.inr (Or.inl k))
    obtain ⟨l0, y0, t0, hks⟩ := w2.2.1 k
    have hl10 : l0 < 10 := by
      rw [hks] at w3
      exact w3.1
    have hd : T.getD (j + 1) 0 = 48 + l0 := by
      rw [gd]
      rw [hv_5 k] at hc
      rw [← (List.cons.inj hc).2, if_pos k, hks]
      rfl
    rw [hd] at c2
    rw [u4, if_neg (by decide), hd, if_neg (mt (cq62 c2).mp (by omega)), if_neg (mt (cq64 c2).mp (by omega)), k]
    rfl
  · have e := k6 k
    rw [e, show ptc 63 = false by decide, if_pos (by decide), if_neg (by decide), if_pos (by decide), k]
    rfl
  · have e := k7 k
    rw [e, show ptc 64 = false by decide, if_pos (by decide), if_neg (by decide), if_neg (by decide), if_pos (by decide), k]
    rfl
  · obtain ⟨u1, u2, u3, u4⟩ := k3 (Or.inr (Or.inr k))
    have hd : T.getD (j + 1) 0 = 64 := by
      rw [gd]
      rw [hv_8 k] at hc
      rw [← (List.cons.inj hc).2]
      rfl
    rw [u4, if_neg (by decide), hd, if_neg (by decide), if_pos (by decide), k]
    rfl
theorem op_11 {a1 a2 a3 : Int32} (h : JJ S) : ∃ S', Alk_11 S a1 a2 a3 S' ∧ JJ S' ∧ RM S S' := by
  have h' := h
  obtain ⟨⟨hl, hf, ht, hq, hv, hfl⟩, hL, hP, hE, hD⟩ := h
  obtain ⟨⟨z1, z2, z3, z4⟩, ⟨b1, b2⟩, ⟨c1, c2, c3, c4, c5⟩, ⟨d1, d2, d3⟩, ⟨e1, e2, e3⟩, ⟨f1, f2⟩, ⟨g1, g2⟩, ⟨h1, h2⟩, ⟨i1, i2⟩, j1, k1⟩ := hf
  by_cases q1 : rd_rp a1 = true
  · obtain ⟨p, hp, rfl⟩ := pt_c a1 q1
    have n1 := (np_eq (Int32.ofNat p)).1.mpr q1
    have hb : ib (Int32.ofNat p) 6 := j_in (by omega) hp
    have hn := (j_n (n := p) (by omega)).2
    have ha : zar S 3 := by unfold zar; rw [d1]; decide
    have y1 := (j1 p hp).1
    cases hz : zR S 4 0 with
    | none =>
      have l0 := hL.mp hz
      refine ⟨_, ⟨2, 0, szEx S 12, upd (zMI S) 0 2, zMA S, ?_, ?_, rfl, fun z => absurd z (by decide), rfl⟩, JJ_ro h' (RO_x 12 2)⟩
      · simp only [yL_at, y_at, y_needParty, y_needPlay, zob, zoc, zcH, zcHv, zcT, zcTv, zlb, z1, hz, (ty_b0 _), q1, if_false, if_true, reduceCtorEq]
        rfl
      · show x_at (zMI S) (zMA S) _ = _
        simp only [x_at, n1, l0, if_true]
    | some b =>
      have l0 : ¬ zMI S 10 = 0 := fun z => by rw [hL.mpr z] at hz; cases hz
      have key : ∃ w : Int32, (∀ o, zR S 2 (7 + 3 * p) = o → (o = none ∧ w = 0) ∨ ∃ a, o = some a ∧ ztg S a = 2 ∧ zI S 0 a = w) ∧ x_at (zMI S) (zMA S) (Int32.ofNat p) = some (upd (zMI S) 0 0, zMA S, w) := by
        obtain ⟨K, ⟨Q, Kr, hR⟩, _⟩ := hD l0
        obtain ⟨htx, L, j, hw, hst, h36, htp, hal⟩ := hR.2.2 p hp
        have nodec : ∀ a n ks r ks' r' L' E la, zR S 2 (7 + 3 * p) = some a → NdS S a n ks r ks' r' L' E → LW ((cn n ks r, cn a ks' r') :: L') → Sfx (tx 0 (K p)) j (tx 0 (cn n ks r) ++ la) → ∃ w : Int32, (∀ o, zR S 2 (7 + 3 * p) = o → (o = none ∧ w = 0) ∨ ∃ a, o = some a ∧ ztg S a = 2 ∧ zI S 0 a = w) ∧ x_at (zMI S) (zMA S) (Int32.ofNat p) = some (upd (zMI S) 0 0, zMA S, w) := by
          intro a n ks r ks' r' L' E la ha' nd hwL hs
          obtain ⟨s0, w1, w2, w3, w4⟩ := hwL _ List.mem_cons_self
          exact ⟨Int32.ofNat (cK n), fun o ho => Or.inr ⟨a, by rw [← ho, ha'], nd.1.1, nd.1.2.1.1⟩, at_ref htx h36 hs w1 w2 w3 l0⟩
        rcases hal with ⟨_, _, _⟩ | ⟨n, ks, r, sh, L', x, b', i, pos, w', rfl, _⟩
        · rcases Stk_norm L _ hw hst htp with ⟨h2', _, hj⟩ | ⟨a, n, ks, r, ks', r', L', E, h2', nd, hr, hwL, la, hs, hl', he⟩
          · refine ⟨0, fun o ho => Or.inl ⟨by rw [← ho, h2'], rfl⟩, ?_⟩
            have hl' := htx.2.2.2.1
            unfold x_at
            rw [n1, if_pos rfl, if_neg l0, if_pos hb, hn, h36, htx.2.1, if_neg (mt (j_lt (by omega) (by omega)).mp (by omega))]
          · exact nodec a n ks r ks' r' L' E la h2' nd hwL hs
        · obtain ⟨ks', r', E, a, rfl, h2', nd⟩ := Stk_nd hst
          rcases htp with ⟨e, _⟩ | ⟨_, _, _, la, e1', e2', e3'⟩
          · cases e
          · exact nodec a n ks r ks' r' L' E la h2' nd hw e1'
      obtain ⟨w, hw1, hw2⟩ := key
      refine ⟨_, ⟨0, w, szAL S 177 (vp_updL (zAL S 177) 0 (Int32.toInt64 w)), upd (zMI S) 0 0, zMA S, ?_, hw2, rfl, ?_, rfl⟩, JJ_ro h' (RO_l _ 0)⟩
      · rcases hw1 _ rfl with ⟨o1', rfl⟩ | ⟨a, o1', o2', o3'⟩
        · simp only [yL_at, y_at, y_needParty, y_needPlay, zob, zoc, zcH, zcHv, zcT, zcTv, zlb, z1, z3, hz, c1, c2, if_pos ha, d2, if_pos hb, hn, d3, rf3_at p hp, y1, o1', i1, i2, if_pos ib0, (ty_b0 _), q1, if_false, if_true, reduceCtorEq]
        · simp only [yL_at, y_at, y_needParty, y_needPlay, zob, zoc, zcH, zcHv, zcT, zcTv, zlb, z1, z3, hz, c1, c2, if_pos ha, d2, if_pos hb, hn, d3, rf3_at p hp, y1, o1', o2', o3', i1, i2, if_pos ib0, (ty_b0 _), q1, if_false, if_true, reduceCtorEq]
      · intro _
        rw [zAL_self]
        rfl
  · have n1 : ¬ x_noParty a1 = 0 := mt (np_eq a1).1.mp q1
    have q1' : rd_rp a1 = false := by simpa using q1
    refine ⟨_, ⟨1, 0, szEx S 14, upd (zMI S) 0 1, zMA S, ?_, ?_, rfl, fun z => absurd z (by decide), rfl⟩, JJ_ro h' (RO_x 14 1)⟩
    · simp only [yL_at, y_at, y_needParty, zob, zcH, zcHv, zcT, zcTv, z1, (ty_b0 _), q1', if_false, if_true, reduceCtorEq]
    · show x_at (zMI S) (zMA S) _ = _
      simp only [x_at, n1, if_false]
end JP
