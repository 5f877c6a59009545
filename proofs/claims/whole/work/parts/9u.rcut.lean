section RC
variable {A0 : Nat → Nat → Int32} {D : Nat → Nat} {p low : Nat}
def RcP (A0 : Nat → Nat → Int32) (D : Nat → Nat) (p low : Nat) (t : Fo) : Prop := ∀ lo hi, IC A0 D t lo hi → hi ≤ 200 → low ≤ lo → ∀ (I : Nat → Int32) (A : Nat → Nat → Int32) (b os : List Nat) (m : Nat), (∀ j, j < 28 → A j = A0 j) → CS I A b os [] → b.length + wt D t + 100 ≤ 1000 → os.length + dpt t < 18 → 1400 ≤ m → ∃ I' A', x_cut_22 (m + (hi - lo)) I A (Int32.ofNat p) (Int32.ofNat low) (Int32.ofNat hi - 1) = x_cut_22 m I' A' (Int32.ofNat p) (Int32.ofNat low) (Int32.ofNat lo - 1) ∧ CS I' A' b os (tx 0 (cut D t p)).reverse ∧ FrC I A I' A'
theorem rc_simple (hp : p < 6) {q : Nat} {r : Fo} (hs : PWs (D q)) (pr : PW D r) (ih : RcP A0 D p low r) : RcP A0 D p low (cn q .nil r) := by
  intro lo hi hc hhi hlo I A b os m hA cs hb hd hm
  have hle := IC_le r pr _ _ hc.2
  have hw : wt D (cn q .nil r) = (if cK (D q) = 1 then (xt (cE (D q))).length + 4 else if cK (D q) = 2 then (xt (cE (D q))).length + 5 else 6) + wt D r := rfl
  have hdp : dpt (cn q .nil r) = dpt r := rfl
  have x8 := xt_8 (cE (D q))
  obtain ⟨I1, A1, e1, c1, f1⟩ := ih (lo + 1) hi hc.2 hhi (by omega) I A b os (m + 1) hA cs (by omega) (by omega) (by omega)
  have hl := cut_len hp r pr
  have hA1 : ∀ j, j < 28 → A1 j = A0 j := fun j hj => (f1.2 j (by omega)).trans (hA j hj)
  have it := ItC_e hc.1 hA1
  obtain ⟨I2, A2, e2, c2, f2, _⟩ := s_simple (n := m) (p := p) (i := lo) hs c1 (by omega) it hp (by omega) (by omega)
  refine ⟨I2, A2, ?_, c2, FrC_t f1 f2⟩
  rw [show m + (hi - lo) = m + 1 + (hi - (lo + 1)) by omega, e1, x_cut_22, o_p1, if_neg (mt (j_lt (by omega) (by omega)).mp (by omega)), if_pos (j_in (by omega) (by omega)), (j_n (n := lo) (by omega)).2]
  have hk : ¬ A1 3 lo = 7 ∧ ¬ A1 3 lo = 6 ∧ ¬ A1 3 lo = 4 ∧ ¬ A1 3 lo = 5 := by
    rcases hs.2.1 with k | ⟨k, _⟩
    · rcases it.2 with h | h | h | h | h <;> first | omega | (rw [h.2.1]; decide)
    · rcases it.2 with h | h | h | h | h <;> first | omega | (rw [h.2.1]; decide)
  rw [if_neg hk.1, if_neg hk.2.1, if_neg hk.2.2.1, if_neg hk.2.2.2, o_add_m1]
  exact xb_some e2
theorem CS_push {I : Nat → Int32} {A : Nat → Nat → Int32} {b os cur : List Nat} (h : CS I A b os cur) (hd : os.length < 18) : CS (upd I 13 (I 13 + 1)) (upA A 29 (upd (A 29) (Int32.toNatClampNeg (I 13 + 1)) (I 12))) (b ++ cur) (os ++ [b.length]) [] ∧ ib (I 13 + 1) 20 ∧ FrC I A (upd I 13 (I 13 + 1)) (upA A 29 (upd (A 29) (Int32.toNatClampNeg (I 13 + 1)) (I 12))) := by
  obtain ⟨h1, h2, h3, h4, h5⟩ := h
  have e : I 13 + 1 = Int32.ofNat (os.length + 1) := by rw [h3, o1]
  have el : (os ++ [b.length]).length = os.length + 1 := by rw [List.length_append]; rfl
  rw [e, (j_n (n := os.length + 1) (by omega)).2]
  refine ⟨⟨?_, ?_, ?_, ?_, by omega⟩, j_in (by omega) (by omega), ⟨fun k hk => upd_n (by omega), fun j hj => upA_ne (by omega)⟩⟩
  · rw [upd_n (by decide), h1, List.length_append]
    rfl
  · rw [upA_ne (by decide), List.append_nil]
    exact h2
  · rw [upd_s, el]
  · rw [upA_eq, h1, ← el, ← List.length_append]
    exact At_put h4
theorem rc_end {I : Nat → Int32} {A : Nat → Nat → Int32} {b os cur : List Nat} {k m : Nat} (h : CS I A b os cur) (hd : os.length < 18) (h7 : A 3 k = 7) (hk : k < 200) (hl : low ≤ k) : ∃ I' A', x_cut_22 (m + 1) I A (Int32.ofNat p) (Int32.ofNat low) (Int32.ofNat (k + 1) - 1) = x_cut_22 m I' A' (Int32.ofNat p) (Int32.ofNat low) (Int32.ofNat k - 1) ∧ CS I' A' (b ++ cur) (os ++ [b.length]) [] ∧ FrC I A I' A' := by
  obtain ⟨a1, a2, a3⟩ := CS_push h hd
  refine ⟨_, _, ?_, a1, a3⟩
  rw [x_cut_22, o_p1, if_neg (mt (j_lt (by omega) (by omega)).mp (by omega)), if_pos (j_in (by omega) hk), (j_n (n := k) (by omega)).2, if_pos h7, if_pos a2, o_add_m1]
theorem rc_round (hp : p < 6) {q i : Nat} {t1 r : Fo} (hk7 : cK (D q) = 7) (hs : PWb (D q)) (p1 : PW D t1) (pr : PW D r) (ih1 : RcP A0 D p low t1) (ih2 : RcP A0 D p low r) : RcP A0 D p low (cn q (cn i t1 .nil) r) := by
  intro lo hi hc hhi hlo I A b os m hA cs hb hd hm
  obtain ⟨it, bg, e1, c1, l1, l2, en, h10, c2⟩ := hc
  have hle := IC_le r pr _ _ c2
  have hw : wt D (cn q (cn i t1 .nil) r) = (xt (cE (D q))).length + 8 + wt D t1 + wt D r := rfl
  have hdp : dpt (cn q (cn i t1 .nil) r) = max (2 + dpt t1) (dpt r) := rfl
  have x8 := xt_8 (cE (D q))
  have hl1 := cut_len hp t1 p1
  have hl2 := cut_len hp r pr
  obtain ⟨I1, A1, a1, b1, f1⟩ := ih2 (e1 + 1) hi c2 hhi (by omega) I A b os (m + (e1 - lo) + 1) hA cs (by omega) (by omega) (by omega)
  have hA1 : ∀ j, j < 28 → A1 j = A0 j := fun j hj => (f1.2 j (by omega)).trans (hA j hj)
  obtain ⟨I2, A2, a2, b2, f2⟩ := rc_end (p := p) (low := low) (k := e1) (m := m + (e1 - lo)) b1 (by omega) (by rw [hA1 3 (by decide)]; exact en.1) (by omega) (by omega)
  have hA2 : ∀ j, j < 28 → A2 j = A0 j := fun j hj => (f2.2 j (by omega)).trans (hA1 j hj)
  obtain ⟨I3, A3, a3, b3, f3⟩ := ih1 (lo + 2) e1 c1 (by omega) (by omega) I2 A2 (b ++ (tx 0 (cut D r p)).reverse) (os ++ [b.length]) (m + 2) hA2 b2 (by rw [List.length_append, List.length_reverse]; omega) (by rw [List.length_append, List.length_singleton]; omega) (by omega)
  have hA3 : ∀ j, j < 28 → A3 j = A0 j := fun j hj => (f3.2 j (by omega)).trans (hA2 j hj)
  have k5 : A3 3 lo = 5 := by
    rw [hA3 3 (by decide)]
    rcases it.2 with h | h | h | h | h <;> first | omega | exact h.2.1
  have st4 : x_cut_22 (m + 2) I3 A3 (Int32.ofNat p) (Int32.ofNat low) (Int32.ofNat (lo + 2) - 1) = x_cut_22 (m + 1) I3 A3 (Int32.ofNat p) (Int32.ofNat low) (Int32.ofNat (lo + 1) - 1) := by
    rw [x_cut_22, o_p1, if_neg (mt (j_lt (by omega) (by omega)).mp (by omega)), if_pos (j_in (by omega) (by omega)), (j_n (n := lo + 1) (by omega)).2, hA3 3 (by decide), bg.1, if_neg (by decide), if_pos rfl, hA3 12 (by decide), bg.2.1]
    exact r_90 (n := m) k5 (by omega)
  obtain ⟨I4, A4, a4, b4, f4⟩ := s_round (n := m) (i := lo) hs hk7 (by omega) (ItC_e it hA3) hp (by rw [hA3 10 (by decide)]; exact h10) (by omega) p1 (IC_e hA3 t1 p1 _ _ c1) b3 (fun ho => cut_occ hp t1 p1 ho) (by omega) (by omega)
  refine ⟨I4, A4, ?_, b4, FrC_t f1 (FrC_t f2 (FrC_t f3 f4))⟩
  rw [show m + (hi - lo) = m + (e1 - lo) + 1 + (hi - (e1 + 1)) by omega, a1, a2, show m + (e1 - lo) = m + 2 + (e1 - (lo + 2)) by omega, a3, st4, x_cut_22, o_p1, if_neg (mt (j_lt (by omega) (by omega)).mp (by omega)), if_pos (j_in (by omega) (by omega)), (j_n (n := lo) (by omega)).2, k5, if_neg (by decide), if_neg (by decide), if_neg (by decide), if_pos rfl, o_add_m1]
  exact xb_some a4
theorem rc_choice (hp : p < 6) {q i j : Nat} {t1 t2 r : Fo} (hk6 : cK (D q) = 6) (hs : PWb (D q)) (p1 : PW D t1) (p2 : PW D t2) (pr : PW D r) (ih1 : RcP A0 D p low t1) (ih2 : RcP A0 D p low t2) (ih3 : RcP A0 D p low r) : RcP A0 D p low (cn q (cn i t1 (cn j t2 .nil)) r) := by
  intro lo hi hc hhi hlo I A b os m hA cs hb hd hm
  obtain ⟨it, h14, bg, e1, e2, c1, l1, en, h10, bg2, c2, l2, l3, en2, h11, c3⟩ := hc
  have hle := IC_le r pr _ _ c3
  generalize hu : unw (cD (D q)) (cut D t1) (cut D t2) = u at h14
  have hu64 : u < 64 := by rw [← hu]; exact bts_lt _
  have hud : u.testBit (cD (D q)) = false := by rw [← hu]; exact unw_no _ _ _ hs.1
  have hw : wt D (cn q (cn i t1 (cn j t2 .nil)) r) = (xt (cE (D q))).length + 6 + 10 * bpc u + wt D t1 + wt D t2 + wt D r := by rw [← hu]; rfl
  have hdp : dpt (cn q (cn i t1 (cn j t2 .nil)) r) = max (2 + max (dpt t1) (dpt t2)) (dpt r) := rfl
  have x8 := xt_8 (cE (D q))
  have hl1 := cut_len hp t1 p1
  have hl2 := cut_len hp t2 p2
  have hl3 := cut_len hp r pr
  have ht1 := tol_len2 (s := D q) (lab := 1) (u := u) (p := p) (x := cut D t1 p) hs.1 (by decide) hp
  have ht2 := tol_len2 (s := D q) (lab := 0) (u := u) (p := p) (x := cut D t2 p) hs.1 (by decide) hp
  obtain ⟨I1, A1, a1, b1, f1⟩ := ih3 (e2 + 1) hi c3 hhi (by omega) I A b os (m + (e2 - lo) + 1) hA cs (by omega) (by omega) (by omega)
  have hA1 : ∀ j, j < 28 → A1 j = A0 j := fun j hj => (f1.2 j (by omega)).trans (hA j hj)
  obtain ⟨I2, A2, a2, b2, f2⟩ := rc_end (p := p) (low := low) (k := e2) (m := m + (e2 - lo)) b1 (by omega) (by rw [hA1 3 (by decide)]; exact en2.1) (by omega) (by omega)
  have hA2 : ∀ j, j < 28 → A2 j = A0 j := fun j hj => (f2.2 j (by omega)).trans (hA1 j hj)
  obtain ⟨I3, A3, a3, b3, f3⟩ := ih2 (e1 + 2) e2 c2 (by omega) (by omega) I2 A2 (b ++ (tx 0 (cut D r p)).reverse) (os ++ [b.length]) (m + (e1 - lo) + 2) hA2 b2 (by rw [List.length_append, List.length_reverse]; omega) (by rw [List.length_append, List.length_singleton]; omega) (by omega)
  have hA3 : ∀ j, j < 28 → A3 j = A0 j := fun j hj => (f3.2 j (by omega)).trans (hA2 j hj)
  obtain ⟨I4, A4, a4, b4, f4⟩ := s_90 (rec22 := x_cut_22 (m + (e1 - lo) + 1)) (low := Int32.ofNat low) (n := m + (e1 - lo) + 1 - 7) (k := e1 + 1) (h := lo) (u := u) (lab := 0) (p := p) hs.1 hk6 (ItC_e it hA3) (by omega) (by omega) (by rw [hA3 14 (by decide)]; exact h14) hu64 (by rw [hA3 13 (by decide)]; exact bg2.2.2.1) (by decide) hud b3 hp (by rw [List.length_append, List.length_reverse]; omega) (by omega)
  have hA4 : ∀ j, j < 28 → A4 j = A0 j := fun j hj => (f4.2 j (by omega)).trans (hA3 j hj)
  have st4 : x_cut_22 (m + (e1 - lo) + 2) I3 A3 (Int32.ofNat p) (Int32.ofNat low) (Int32.ofNat (e1 + 2) - 1) = x_cut_22 (m + (e1 - lo) + 1) I4 A4 (Int32.ofNat p) (Int32.ofNat low) (Int32.ofNat (e1 + 1) - 1) := by
    rw [show m + (e1 - lo) + 1 - 7 + 7 = m + (e1 - lo) + 1 by omega] at a4
    rw [x_cut_22, o_p1, if_neg (mt (j_lt (by omega) (by omega)).mp (by omega)), if_pos (j_in (by omega) (by omega)), (j_n (n := e1 + 1) (by omega)).2, hA3 3 (by decide), bg2.1, if_neg (by decide), if_pos rfl, hA3 12 (by decide), bg2.2.1]
    exact a4
  obtain ⟨I5, A5, a5, b5, f5⟩ := rc_end (p := p) (low := low) (k := e1) (m := m + (e1 - lo)) b4 (by rw [List.length_append, List.length_singleton]; omega) (by rw [hA4 3 (by decide)]; exact en.1) (by omega) (by omega)
  have hA5 : ∀ j, j < 28 → A5 j = A0 j := fun j hj => (f5.2 j (by omega)).trans (hA4 j hj)
  obtain ⟨I6, A6, a6, b6, f6⟩ := ih1 (lo + 2) e1 c1 (by omega) (by omega) I5 A5 _ _ (m + 2) hA5 b5 (by rw [List.length_append, List.length_append, List.length_reverse, List.length_reverse]; omega) (by rw [List.length_append, List.length_append, List.length_singleton, List.length_singleton]; omega) (by omega)
  have hA6 : ∀ j, j < 28 → A6 j = A0 j := fun j hj => (f6.2 j (by omega)).trans (hA5 j hj)
  obtain ⟨I7, A7, a7, b7, f7⟩ := s_90 (rec22 := x_cut_22 (m + 1)) (low := Int32.ofNat low) (n := m + 1 - 7) (k := lo + 1) (h := lo) (u := u) (lab := 1) (p := p) hs.1 hk6 (ItC_e it hA6) (by omega) (by omega) (by rw [hA6 14 (by decide)]; exact h14) hu64 (by rw [hA6 13 (by decide)]; exact bg.2.2.1) (by decide) hud b6 hp (by rw [List.length_append, List.length_append, List.length_reverse, List.length_reverse]; omega) (by omega)
  have hA7 : ∀ j, j < 28 → A7 j = A0 j := fun j hj => (f7.2 j (by omega)).trans (hA6 j hj)
  have st7 : x_cut_22 (m + 2) I6 A6 (Int32.ofNat p) (Int32.ofNat low) (Int32.ofNat (lo + 2) - 1) = x_cut_22 (m + 1) I7 A7 (Int32.ofNat p) (Int32.ofNat low) (Int32.ofNat (lo + 1) - 1) := by
    rw [show m + 1 - 7 + 7 = m + 1 by omega] at a7
    rw [x_cut_22, o_p1, if_neg (mt (j_lt (by omega) (by omega)).mp (by omega)), if_pos (j_in (by omega) (by omega)), (j_n (n := lo + 1) (by omega)).2, hA6 3 (by decide), bg.1, if_neg (by decide), if_pos rfl, hA6 12 (by decide), bg.2.1]
    exact a7
  obtain ⟨I8, A8, a8, b8, f8⟩ := s_choice (n := m) (i := lo) (u := u) (c1 := cut D t1) (c2 := cut D t2) hs hk6 (by omega) (ItC_e it hA7) hp ⟨hu.symm, cut_so t1 p1 p, cut_so t2 p2 p, cut_wk t1 p1 p, cut_wk t2 p2 p⟩ b7 (by omega) (by omega)
  have k4 : A7 3 lo = 4 := by
    rw [hA7 3 (by decide)]
    rcases it.2 with h | h | h | h | h <;> first | omega | exact h.2.1
  refine ⟨I8, A8, ?_, b8, FrC_t f1 (FrC_t f2 (FrC_t f3 (FrC_t f4 (FrC_t f5 (FrC_t f6 (FrC_t f7 f8))))))⟩
  rw [show m + (hi - lo) = m + (e2 - lo) + 1 + (hi - (e2 + 1)) by omega, a1, a2, show m + (e2 - lo) = m + (e1 - lo) + 2 + (e2 - (e1 + 2)) by omega, a3, st4, a5, show m + (e1 - lo) = m + 2 + (e1 - (lo + 2)) by omega, a6, st7, x_cut_22, o_p1, if_neg (mt (j_lt (by omega) (by omega)).mp (by omega)), if_pos (j_in (by omega) (by omega)), (j_n (n := lo) (by omega)).2, k4, if_neg (by decide), if_neg (by decide), if_pos rfl, o_add_m1]
  exact xb_some a8
theorem rcut (hp : p < 6) : ∀ (t : Fo), PW D t → RcP A0 D p low t := PW_ind (fun lo hi hc _ _ I A b os m _ cs _ _ _ => by
    have e : lo = hi := hc
    rw [e, Nat.sub_self]
    exact ⟨I, A, rfl, cs, FrC_r⟩) (fun q r hs pr ih => rc_simple hp hs pr ih) (fun q i t1 r hk hs p1 pr ih1 ih2 => rc_round hp hk hs p1 pr ih1 ih2) (fun q i j t1 t2 r hk hs p1 p2 pr ih1 ih2 ih3 => rc_choice hp hk hs p1 p2 pr ih1 ih2 ih3)
theorem x_cut_ok {I : Nat → Int32} {A : Nat → Nat → Int32} {t : Fo} {lo hi n : Nat} (hp : p < 6) (pt : PW D t) (hc : IC A D t lo hi) (hhi : hi ≤ 200) (hw : wt D t ≤ 900) (hd : dpt t < 18) (hn : 1700 ≤ n) : ∃ I' A', x_cut n I A (Int32.ofNat p) (Int32.ofNat lo) (Int32.ofNat hi) = some (I', A', 0) ∧ CS I' A' [] [] (tx 0 (cut D t p)).reverse ∧ FrC I A I' A' := by
  have hle := IC_le t pt _ _ hc
  have f0 : FrC I A (upd (upd I 12 0) 13 0) (upA A 29 (upd (A 29) 0 0)) := ⟨fun k hk => by rw [upd_n (by omega), upd_n (by omega)], fun j hj => upA_ne (by omega)⟩
  have c0 : CS (upd (upd I 12 0) 13 0) (upA A 29 (upd (A 29) 0 0)) [] [] [] := by
    refine ⟨?_, trivial, ?_, ?_, by decide⟩
    · rw [upd_n (by decide), upd_s]
      rfl
    · rw [upd_s]
      rfl
    · rw [upA_eq]
      exact ⟨upd_s, trivial⟩
  obtain ⟨m, rfl⟩ : ∃ m, n = (m + 1) + (hi - lo) := ⟨n - (hi - lo) - 1, by omega⟩
  obtain ⟨I', A', e, c, f⟩ := rcut (A0 := A) (low := lo) hp t pt lo hi hc hhi (Nat.le_refl _) (upd (upd I 12 0) 13 0) (upA A 29 (upd (A 29) 0 0)) [] [] (m + 1) (fun j hj => upA_ne (by omega)) c0 (by simp; omega) (by simp; omega) (by omega)
  refine ⟨I', A', ?_, c, FrC_t f0 f⟩
  have : x_cut (m + 1 + (hi - lo)) I A (Int32.ofNat p) (Int32.ofNat lo) (Int32.ofNat hi) = x_cut_22 (m + 1 + (hi - lo)) (upd (upd I 12 0) 13 0) (upA A 29 (upd (A 29) 0 0)) (Int32.ofNat p) (Int32.ofNat lo) (Int32.ofNat hi - 1) := rfl
  rw [this, e, x_cut_22]
  have hl : Int32.ofNat lo - 1 < Int32.ofNat lo := by
    by_cases q : lo = 0
    · rw [q]
      decide
    · rw [o_s1 (by omega)]
      exact (j_lt (by omega) (by omega)).mpr (by omega)
  rw [if_pos hl]
end RC
