section OC
variable {I : Nat → Int32} {A : Nat → Nat → Int32} {D : Nat → Nat} {h e one : Nat}
theorem oc_no {m k : Nat} {z : Bool} (hh : h < 200) (he : A 10 h = Int32.ofNat e) (he2 : e ≤ 200) (hk : k < e) (h3 : A 3 k = 6 ∨ A 3 k = 7) : x_occurs_7 (m + 1) I A (Int32.ofNat h) (Int32.ofNat one) (ty_b z) (Int32.ofNat k) = x_occurs_7 m I A (Int32.ofNat h) (Int32.ofNat one) (ty_b z) (Int32.ofNat (k + 1)) := by
  rw [x_occurs_7, if_pos (j_in (by omega) hh), (j_n (n := h) (by omega)).2, he, if_neg (mt (j_le (by omega) (by omega)).mp (by omega)), o1]
  cases z with
  | true => rfl
  | false =>
    rw [tb0, if_pos (j_in (by omega) (by omega)), (j_n (n := k) (by omega)).2, if_pos (by rcases h3 with h3 | h3 <;> rw [h3] <;> decide)]
    rfl
theorem oc_it {m k s : Nat} {z : Bool} (hh : h < 200) (he : A 10 h = Int32.ofNat e) (he2 : e ≤ 200) (hk : k < e) (it : ItC A s k) (ho : one < 6) (hd : cD s < 6) : x_occurs_7 (m + 1) I A (Int32.ofNat h) (Int32.ofNat one) (ty_b z) (Int32.ofNat k) = x_occurs_7 m I A (Int32.ofNat h) (Int32.ofNat one) (ty_b (z || soc s one)) (Int32.ofNat (k + 1)) := by
  have hO := cO_lt s
  rw [x_occurs_7, if_pos (j_in (by omega) hh), (j_n (n := h) (by omega)).2, he, if_neg (mt (j_le (by omega) (by omega)).mp (by omega)), o1]
  cases z with
  | true => rfl
  | false =>
    rw [tb0, if_pos (j_in (by omega) (by omega)), (j_n (n := k) (by omega)).2, it.1, Bool.false_or]
    unfold soc
    have eqd : (Int32.ofNat (cD s) = Int32.ofNat one) ↔ one = cD s := (j_eq (by omega) (by omega)).trans eq_comm
    have eqo : (Int32.ofNat (cO s) = Int32.ofNat one) ↔ one = cO s := (j_eq (by omega) (by omega)).trans eq_comm
    have h6 : ¬ (6 : Int32) ≤ A 3 k := by
      rcases it.2 with q | q | q | q | q <;> rw [q.2.1] <;> decide
    rw [if_neg h6]
    by_cases q : one = cD s
    · rw [if_pos (eqd.mpr q), decide_eq_true q, Bool.true_or]
      rfl
    · rw [if_neg (mt eqd.mp q), decide_eq_false q, Bool.false_or]
      rcases it.2 with g | g | g | g | g
      · rw [g.2.1, if_neg (by decide), if_neg (by decide), decide_eq_false (p := cK s = 2 ∨ cK s = 4) (by omega)]
        rfl
      · rw [g.2.1, if_pos rfl, g.2.2.1, decide_eq_true (p := cK s = 2 ∨ cK s = 4) (by omega)]
        by_cases q2 : one = cO s
        · rw [if_pos (eqo.mpr q2), decide_eq_true q2]
          rfl
        · rw [if_neg (mt eqo.mp q2), decide_eq_false q2]
          rfl
      · rw [g.2.1, if_neg (by decide), if_pos rfl, g.2.2.1, decide_eq_true (p := cK s = 2 ∨ cK s = 4) (by omega)]
        by_cases q2 : one = cO s
        · rw [if_pos (eqo.mpr q2), decide_eq_true q2]
          rfl
        · rw [if_neg (mt eqo.mp q2), decide_eq_false q2]
          rfl
      · rw [g.2.1, if_neg (by decide), if_neg (by decide), decide_eq_false (p := cK s = 2 ∨ cK s = 4) (by omega)]
        rfl
      · rw [g.2.1, if_neg (by decide), if_neg (by decide), decide_eq_false (p := cK s = 2 ∨ cK s = 4) (by omega)]
        rfl
theorem oc_all (hh : h < 200) (he : A 10 h = Int32.ofNat e) (he2 : e ≤ 200) (ho : one < 6) : ∀ (t : Fo), PW D t → ∀ lo hi, IC A D t lo hi → hi ≤ e → ∀ (m : Nat) (z : Bool), x_occurs_7 (m + (hi - lo)) I A (Int32.ofNat h) (Int32.ofNat one) (ty_b z) (Int32.ofNat lo) = x_occurs_7 m I A (Int32.ofNat h) (Int32.ofNat one) (ty_b (z || occ D t one)) (Int32.ofNat hi) := PW_ind (fun lo hi hi2 _ m z => by
    have e : lo = hi := hi2
    rw [e, Nat.sub_self, Nat.add_zero]
    show _ = x_occurs_7 m I A _ _ (ty_b (z || false)) _
    rw [Bool.or_false]) (fun q r hs pr ih lo hi hc hhi m z => by
    have hle := IC_le r pr _ _ hc.2
    rw [show m + (hi - lo) = (m + (hi - (lo + 1))) + 1 by omega, oc_it hh he he2 (by omega) hc.1 ho hs.1, ih _ _ hc.2 hhi]
    show _ = x_occurs_7 m I A _ _ (ty_b (z || (soc (D q) one || occ D r one))) _
    rw [Bool.or_assoc]) (fun q i t1 r hk hb p1 p2 ih1 ih2 lo hi hc hhi m z => by
    obtain ⟨it, bg, e1, c1, l1, l2, en, _, c2⟩ := hc
    rw [show m + (hi - lo) = (((((m + (hi - (e1 + 1))) + 1) + (e1 - (lo + 2))) + 1) + 1) by omega, oc_it hh he he2 (by omega) it ho hb.1, oc_no hh he he2 (by omega) (Or.inl bg.1), ih1 _ _ c1 (by omega), oc_no hh he he2 (by omega) (Or.inr en.1), ih2 _ _ c2 hhi]
    show _ = x_occurs_7 m I A _ _ (ty_b (z || (soc (D q) one || occ D t1 one || occ D r one))) _
    rw [Bool.or_assoc, Bool.or_assoc, Bool.or_assoc]) (fun q i j t1 t2 r hk hb p1 p2 p3 ih1 ih2 ih3 lo hi hc hhi m z => by
    obtain ⟨it, _, bg, e1, e2, c1, l1, en, _, bg2, c2, l2, l3, en2, _, c3⟩ := hc
    rw [show m + (hi - lo) = (((((((m + (hi - (e2 + 1))) + 1) + (e2 - (e1 + 2))) + 1) + 1) + (e1 - (lo + 2))) + 1) + 1 by omega, oc_it hh he he2 (by omega) it ho hb.1, oc_no hh he he2 (by omega) (Or.inl bg.1), ih1 _ _ c1 (by omega), oc_no hh he he2 (by omega) (Or.inr en.1), oc_no hh he he2 (by omega) (Or.inl bg2.1), ih2 _ _ c2 (by omega), oc_no hh he he2 (by omega) (Or.inr en2.1), ih3 _ _ c3 hhi]
    show _ = x_occurs_7 m I A _ _ (ty_b (z || (soc (D q) one || occ D t1 one || occ D t2 one || occ D r one))) _
    rw [Bool.or_assoc, Bool.or_assoc, Bool.or_assoc, Bool.or_assoc, Bool.or_assoc])
theorem s_occ {n : Nat} {t1 : Fo} (hh : h < 198) (he : A 10 h = Int32.ofNat e) (he2 : e ≤ 200) (ho : one < 6) (p1 : PW D t1) (c1 : IC A D t1 (h + 2) e) (hn : 200 < n) : x_occurs n I A (Int32.ofNat h) (Int32.ofNat one) = some (I, A, ty_b (occ D t1 one)) := by
  have hle := IC_le t1 p1 _ _ c1
  obtain ⟨m, rfl⟩ : ∃ m, n = (m + 1) + (e - (h + 2)) := ⟨n - (e - (h + 2)) - 1, by omega⟩
  unfold x_occurs
  rw [show (2 : Int32) = Int32.ofNat 2 from rfl, o_add]
  have := oc_all (I := I) (by omega) he he2 ho t1 p1 _ _ c1 (Nat.le_refl _) (m + 1) false
  rw [show (0 : Int32) = ty_b false from rfl, this, x_occurs_7, if_pos (j_in (by omega) (by omega)), (j_n (n := h) (by omega)).2, he, if_pos ((j_le (by omega) (by omega)).mpr (Nat.le_refl _)), Bool.false_or, if_pos]
  cases occ D t1 one
  · exact Or.inl rfl
  · exact Or.inr rfl
end OC
section RD
variable {I I' I2 : Nat → Int32} {A A' A2 : Nat → Nat → Int32} {D : Nat → Nat} {b os cur : List Nat} {i p q s e : Nat} {x t1 : Fo}
def lq (d q : Nat) : List Nat := if d.testBit q = true then [65 + q] else []
theorem lq_all (d : Nat) : lq d 5 ++ (lq d 4 ++ (lq d 3 ++ (lq d 2 ++ (lq d 1 ++ lq d 0)))) = (ldl d).reverse := by
  unfold lq ldl
  simp only [List.reverse_append, List.append_assoc]
  have r : ∀ (b : Bool) (c : Nat), (if b = true then [c] else []).reverse = if b = true then [c] else [] := fun b c => by cases b <;> rfl
  rw [r, r, r, r, r, r]
theorem IC_e (e : ∀ j, j < 28 → A' j = A j) : ∀ (t : Fo), PW D t → ∀ lo hi, IC A D t lo hi → IC A' D t lo hi := PW_ind (fun _ _ h => h) (fun q r _ _ ih lo hi h => ⟨ItC_e h.1 e, ih _ _ h.2⟩) (fun q i t1 r _ _ _ _ ih1 ih2 lo hi h => by
    obtain ⟨it, bg, e1, c1, l1, l2, en, h10, c2⟩ := h
    refine ⟨ItC_e it e, ?_, e1, ih1 _ _ c1, l1, l2, ?_, ?_, ih2 _ _ c2⟩
    · unfold Bg at bg ⊢
      rw [e 3 (by decide), e 12 (by decide), e 13 (by decide), e 14 (by decide)]
      exact bg
    · unfold En at en ⊢
      rw [e 3 (by decide), e 12 (by decide), e 13 (by decide)]
      exact en
    · rw [e 10 (by decide)]
      exact h10) (fun q i j t1 t2 r _ _ _ _ _ ih1 ih2 ih3 lo hi h => by
    obtain ⟨it, h14, bg, e1, e2, c1, l1, en, h10, bg2, c2, l2, l3, en2, h11, c3⟩ := h
    refine ⟨ItC_e it e, ?_, ?_, e1, e2, ih1 _ _ c1, l1, ?_, ?_, ?_, ih2 _ _ c2, l2, l3, ?_, ?_, ih3 _ _ c3⟩
    · rw [e 14 (by decide)]
      exact h14
    · unfold Bg at bg ⊢
      rw [e 3 (by decide), e 12 (by decide), e 13 (by decide), e 14 (by decide)]
      exact bg
    · unfold En at en ⊢
      rw [e 3 (by decide), e 12 (by decide), e 13 (by decide)]
      exact en
    · rw [e 10 (by decide)]
      exact h10
    · unfold Bg at bg2 ⊢
      rw [e 3 (by decide), e 12 (by decide), e 13 (by decide), e 14 (by decide)]
      exact bg2
    · unfold En at en2 ⊢
      rw [e 3 (by decide), e 12 (by decide), e 13 (by decide)]
      exact en2
    · rw [e 11 (by decide)]
      exact h11)
theorem r32 {n d : Nat} (hc : CS I A b os cur) (hi : i < 198) (he : A 10 i = Int32.ofNat e) (he2 : e ≤ 200) (p1 : PW D t1) (c1 : IC A D t1 (i + 2) e) (hd : d = led s (occ D t1)) (hp : p = cD s) (hs : cD s < 6) (hq : q < 6) (hb : b.length + cur.length + 1 ≤ 1100) (hn : 1200 < n) : ∃ I' A', x_addRound_32 (n + 1) I A (Int32.ofNat i) (Int32.ofNat p) (Int32.ofNat q) = x_addRound_32 n I' A' (Int32.ofNat i) (Int32.ofNat p) (Int32.ofNat q - 1) ∧ CS I' A' b os (cur ++ lq d q) ∧ FrC I A I' A' := by
  rw [x_addRound_32, if_neg (show ¬ Int32.ofNat q < 0 from mt (j_lt (n := 0) (by omega) (by decide)).mp (by omega)), o_add_m1]
  have hb1 : d.testBit q = (!decide (q = cD s) && occ D t1 q) := by
    rw [hd]
    unfold led
    rw [bts_t _ hq]
  unfold lq
  by_cases e1 : q = p
  · rw [if_pos (show Int32.ofNat q = Int32.ofNat p by rw [e1]), hb1, decide_eq_true (by omega), if_neg (show ¬ (!true && occ D t1 q) = true by rw [Bool.not_true, Bool.false_and]; decide), List.append_nil]
    exact ⟨I, A, rfl, hc, FrC_r⟩
  · rw [if_neg (mt (j_eq (by omega) (by omega)).mp e1)]
    have so := s_occ (I := I) (n := n) hi he he2 hq p1 c1 (by omega)
    rw [decide_eq_false (by omega), Bool.not_false, Bool.true_and] at hb1
    rw [hb1]
    cases ho : occ D t1 q with
    | false =>
      rw [ho] at so
      refine ⟨I, A, (xb_some so).trans rfl, ?_, FrC_r⟩
      rw [if_neg (by decide), List.append_nil]
      exact hc
    | true =>
      rw [ho] at so
      obtain ⟨I', A', k1, k2, k3, _⟩ := s_add (c := 65 + q) hc (by omega)
      refine ⟨I', A', (xb_some so).trans ?_, ?_, k3⟩
      · show (xb (x_add I A (65 + Int32.ofNat q)) fun I4 A4 v4 => x_addRound_32 n I4 A4 (Int32.ofNat i) (Int32.ofNat p) (Int32.ofNat q - 1)) = _
        rw [show (65 : Int32) + Int32.ofNat q = Int32.ofNat (65 + q) from o_add 65 q]
        exact xb_some k1
      · rw [if_pos rfl]
        exact k2
theorem s_round {n : Nat} {y : Fo} (hs : PWb s) (hk7 : cK s = 7) (hi : i < 198) (it : ItC A s i) (hp : p < 6) (he : A 10 i = Int32.ofNat e) (he2 : e ≤ 200) (p1 : PW D t1) (c1 : IC A D t1 (i + 2) e) (hc : CS I A (b ++ (tx 0 x).reverse) (os ++ [b.length]) (tx 0 y).reverse) (hy : occ D t1 p = false → y = .nil) (hb : b.length + (tx 0 x).length + (tx 0 y).length + (xt (cE s)).length + 16 ≤ 1000) (hn : 1300 < n) : ∃ I' A', x_addRound n I A (Int32.ofNat i) (Int32.ofNat p) = some (I', A', 0) ∧ CS I' A' b os (tx 0 (rdA s (led s (occ D t1)) y p x)).reverse ∧ FrC I A I' A' := by
  have rl : ∀ y : Fo, (tx 0 y).reverse.length = (tx 0 y).length := fun y => List.length_reverse
  have hlt : led s (occ D t1) < 64 := bts_lt _
  obtain ⟨I1, A1, e1, d1, f1, g1, h1, _⟩ := s_takeA (n := n) (o := 0) hc rfl rfl (by rw [rl]; omega) (by rw [List.length_append, rl, rl]; omega) (by rw [rl]; omega)
  rw [List.reverse_reverse] at h1
  rw [rl] at g1
  have i4 : A1 4 i = Int32.ofNat (cD s) := by
    rw [f1.2 4 (by omega)]
    exact it.1
  have ie : Exq A (cE s) i := by
    rcases it.2 with h | h | h | h | h <;> first | omega | exact h.2.2
  have e0 : x_addRound n I A (Int32.ofNat i) (Int32.ofNat p) = _ := xb_some e1
  rw [e0, if_pos (j_in (by omega) (by omega)), (j_n (n := i) (by omega)).2, i4]
  unfold rdA
  have icE : ∀ {I2 : Nat → Int32} {A2 : Nat → Nat → Int32}, FrC I A I2 A2 → A2 10 i = Int32.ofNat e ∧ IC A2 D t1 (i + 2) e := fun {I2} {A2} f => ⟨by rw [f.2 10 (by omega)]; exact he, IC_e (fun j hj => f.2 j (by omega)) t1 p1 _ _ c1⟩
  by_cases ep : p = cD s
  · rw [if_pos (show Int32.ofNat p = Int32.ofNat (cD s) by rw [ep]), if_pos ep]
    have k7 : ¬ cK (cd 7 0 0 0 (led s (occ D t1)) (cE s)) = 5 := by rw [cd_K (by decide)]; decide
    have ht : (tx 0 (cn (cd 7 0 0 0 (led s (occ D t1)) (cE s)) (cn 0 y .nil) x)).reverse = (tx 0 x).reverse ++ [125] ++ (tx 0 y).reverse ++ [123] ++ lq (led s (occ D t1)) 5 ++ lq (led s (occ D t1)) 4 ++ lq (led s (occ D t1)) 3 ++ lq (led s (occ D t1)) 2 ++ lq (led s (occ D t1)) 1 ++ lq (led s (occ D t1)) 0 ++ (xt (cE s)).reverse ++ [64] := by
      have := lq_all (led s (occ D t1))
      rw [tx_cn, if_neg k7, hd_7 hlt, tx_2, tx_n]
      simp only [List.append_assoc]
      rw [← List.append_assoc (lq (led s (occ D t1)) 1), ← List.append_assoc (lq (led s (occ D t1)) 2), ← List.append_assoc (lq (led s (occ D t1)) 3), ← List.append_assoc (lq (led s (occ D t1)) 4), ← List.append_assoc (lq (led s (occ D t1)) 5), this]
      simp
    rw [ht]
    have ll : ∀ q, (lq (led s (occ D t1)) q).length ≤ 1 := fun q => by
      unfold lq
      split <;> simp
    obtain ⟨I2, A2, a1, a2, a3, v14, _, _, v30, _⟩ := s_add (c := 125) d1 (by rw [rl]; omega)
    obtain ⟨I3, A3, b1, b2, b3, _⟩ := s_A (n := n) (l := tx 0 y) a2 (by rw [v14]; exact g1) (by rw [v30]; exact h1) (by omega) (by omega) (by simp only [List.length_append, List.length_singleton, List.length_reverse]; omega)
    obtain ⟨I4, A4, c1', c2', c3', _⟩ := s_add (c := 123) b2 (by simp only [List.length_append, List.length_singleton, List.length_reverse]; omega)
    have F4 := FrC_t f1 (FrC_t a3 (FrC_t b3 c3'))
    have step : ∀ (q m : Nat) (I1 : Nat → Int32) (A1 : Nat → Nat → Int32) (cu : List Nat), q < 6 → CS I1 A1 b os cu → FrC I A I1 A1 → b.length + cu.length + 1 ≤ 1100 → 1200 < m → ∃ I' A', x_addRound_32 (m + 1) I1 A1 (Int32.ofNat i) (Int32.ofNat p) (Int32.ofNat q) = x_addRound_32 m I' A' (Int32.ofNat i) (Int32.ofNat p) (Int32.ofNat q - 1) ∧ CS I' A' b os (cu ++ lq (led s (occ D t1)) q) ∧ FrC I A I' A' := by
      intro q m J1 B1 cu hq cc ff hb1 hm
      obtain ⟨w1, w2⟩ := icE ff
      obtain ⟨J2, B2, x1, x2, x3⟩ := r32 (n := m) cc hi w1 he2 p1 w2 rfl ep hs.1 hq hb1 hm
      exact ⟨J2, B2, x1, x2, FrC_t ff x3⟩
    obtain ⟨m, rfl⟩ : ∃ m, n = m + 7 := ⟨n - 7, by omega⟩
    have L5 := ll 5
    have L4 := ll 4
    have L3 := ll 3
    have L2 := ll 2
    have L1 := ll 1
    have L0 := ll 0
    obtain ⟨J5, B5, z5, y5, x5⟩ := step 5 (m + 6) I4 A4 _ (by decide) c2' F4 (by simp only [List.length_append, List.length_singleton, List.length_reverse]; omega) (by omega)
    obtain ⟨J4, B4, z4, y4, x4⟩ := step 4 (m + 5) J5 B5 _ (by decide) y5 x5 (by simp only [List.length_append, List.length_singleton, List.length_reverse]; omega) (by omega)
    obtain ⟨J3, B3, z3, y3, x3⟩ := step 3 (m + 4) J4 B4 _ (by decide) y4 x4 (by simp only [List.length_append, List.length_singleton, List.length_reverse]; omega) (by omega)
    obtain ⟨J2, B2, z2, y2, x2⟩ := step 2 (m + 3) J3 B3 _ (by decide) y3 x3 (by simp only [List.length_append, List.length_singleton, List.length_reverse]; omega) (by omega)
    obtain ⟨J1, B1, z1, y1, x1⟩ := step 1 (m + 2) J2 B2 _ (by decide) y2 x2 (by simp only [List.length_append, List.length_singleton, List.length_reverse]; omega) (by omega)
    obtain ⟨J0, B0, z0, y0, x0⟩ := step 0 (m + 1) J1 B1 _ (by decide) y1 x1 (by simp only [List.length_append, List.length_singleton, List.length_reverse]; omega) (by omega)
    obtain ⟨J, B, k1, k2, k3, _⟩ := s_exp (n := m) (e := cE s) y0 (show i < 200 by omega) (by
        obtain ⟨fr, q1, q2, q3, q4, q5⟩ := ie
        exact ⟨fr, by rw [x0.2 7 (by omega)]; exact q1, q2, by rw [x0.2 8 (by omega)]; exact q3, by rw [x0.2 2 (by omega)]; exact q4, q5⟩) (by omega) (by simp only [List.length_append, List.length_singleton, List.length_reverse]; omega)
    obtain ⟨J', B', l1, l2, l3, _⟩ := s_add (c := 64) k2 (by simp only [List.length_append, List.length_singleton, List.length_reverse]; omega)
    refine ⟨J', B', ?_, l2, FrC_t x0 (FrC_t k3 l3)⟩
    refine (xb_some a1).trans ((xb_some b1).trans ((xb_some c1').trans ?_))
    refine z5.trans ?_
    rw [show Int32.ofNat 5 - 1 = Int32.ofNat 4 from rfl]
    refine z4.trans ?_
    rw [show Int32.ofNat 4 - 1 = Int32.ofNat 3 from rfl]
    refine z3.trans ?_
    rw [show Int32.ofNat 3 - 1 = Int32.ofNat 2 from rfl]
    refine z2.trans ?_
    rw [show Int32.ofNat 2 - 1 = Int32.ofNat 1 from rfl]
    refine z1.trans ?_
    rw [show Int32.ofNat 1 - 1 = Int32.ofNat 0 from rfl]
    refine z0.trans ?_
    rw [x_addRound_32, if_pos (by decide)]
    exact (xb_some k1).trans ((xb_some l1).trans rfl)
  · rw [if_neg (mt (j_eq (by omega) (by have := hs.1; omega)).mp ep), if_neg ep]
    obtain ⟨w1, w2⟩ := icE f1
    have so := s_occ (I := I1) (n := n) hi w1 he2 hp p1 w2 (by omega)
    have hb1 : (led s (occ D t1)).testBit p = occ D t1 p := by
      unfold led
      rw [bts_t _ hp, decide_eq_false ep]
      rfl
    rw [hb1]
    cases ho : occ D t1 p with
    | false =>
      rw [ho] at so
      rw [if_neg (by decide)]
      exact ⟨I1, A1, (xb_some so).trans rfl, d1, f1⟩
    | true =>
      rw [ho] at so
      rw [if_pos rfl]
      have k8 : ¬ cK (cd 8 0 0 (cD s) 0 0) = 5 := by rw [cd_K (by decide)]; decide
      have ht : (tx 0 (cn (cd 8 0 0 (cD s) 0 0) (cn 0 y .nil) x)).reverse = (tx 0 x).reverse ++ [125] ++ (tx 0 y).reverse ++ [123] ++ [64] ++ [65 + cD s] := by
        rw [tx_cn, if_neg k8, hd_8 (by have := hs.1; omega), tx_2, tx_n]
        simp
      rw [ht]
      obtain ⟨I2, A2, a1, a2, a3, v14, _, _, v30, _⟩ := s_add (c := 125) d1 (by rw [rl]; omega)
      obtain ⟨I3, A3, b1, b2, b3, _⟩ := s_A (n := n) (l := tx 0 y) a2 (by rw [v14]; exact g1) (by rw [v30]; exact h1) (by omega) (by omega) (by simp only [List.length_append, List.length_singleton, List.length_reverse]; omega)
      obtain ⟨I4, A4, c1', c2', c3', _⟩ := s_add (c := 123) b2 (by simp only [List.length_append, List.length_singleton, List.length_reverse]; omega)
      obtain ⟨I5, A5, q1, q2, q3, _⟩ := s_add (c := 64) c2' (by simp only [List.length_append, List.length_singleton, List.length_reverse]; omega)
      obtain ⟨I6, A6, r1, r2, r3, _⟩ := s_add (c := 65 + cD s) q2 (by simp only [List.length_append, List.length_singleton, List.length_reverse]; omega)
      have F5 := FrC_t f1 (FrC_t a3 (FrC_t b3 (FrC_t c3' q3)))
      refine ⟨I6, A6, ?_, r2, FrC_t F5 r3⟩
      refine (xb_some so).trans ?_
      show (xb (x_add I1 A1 125) fun I6 A6 v6 => (xb (x_addA n I6 A6) fun I7 A7 v7 => (xb (x_add I7 A7 123) fun I8 A8 v8 => (xb (x_add I8 A8 64) fun I9 A9 v9 => (xb (x_add I9 A9 (65 + ((A9 4) i))) fun I10 A10 v10 => (some (I10, A10, 0))))))) = _
      refine (xb_some a1).trans ((xb_some b1).trans ((xb_some c1').trans ((xb_some q1).trans ?_)))
      rw [F5.2 4 (by omega), it.1, show (65 : Int32) + Int32.ofNat (cD s) = Int32.ofNat (65 + cD s) from o_add 65 _]
      exact (xb_some r1).trans rfl
end RD
