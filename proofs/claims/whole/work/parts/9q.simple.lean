def ItC (A : Nat → Nat → Int32) (s k : Nat) : Prop := A 4 k = Int32.ofNat (cD s) ∧ ((cK s = 1 ∧ A 3 k = 1 ∧ A 6 k = Int32.ofNat (cV s) ∧ Exq A (cE s) k) ∨ (cK s = 2 ∧ A 3 k = 2 ∧ A 5 k = Int32.ofNat (cO s) ∧ A 6 k = Int32.ofNat (cV s) ∧ Exq A (cE s) k) ∨ (cK s = 4 ∧ A 3 k = 3 ∧ A 5 k = Int32.ofNat (cO s) ∧ A 6 k = Int32.ofNat (cL s)) ∨ (cK s = 6 ∧ A 3 k = 4 ∧ Exq A (cE s) k) ∨ (cK s = 7 ∧ A 3 k = 5 ∧ Exq A (cE s) k))
section CX
variable {I I' I2 : Nat → Int32} {A A' A2 : Nat → Nat → Int32} {b os cur : List Nat} {i p s : Nat} {x : Fo}
theorem ItC_e (h : ItC A s i) (e : ∀ j, j < 28 → A' j = A j) : ItC A' s i := by
  have ex : Exq A (cE s) i → Exq A' (cE s) i := fun ⟨fr, h1, h2, h3, h4, h5⟩ => ⟨fr, by rw [e 7 (by decide)]; exact h1, h2, by rw [e 8 (by decide)]; exact h3, by rw [e 2 (by decide)]; exact h4, h5⟩
  unfold ItC at h ⊢
  rw [e 3 (by decide), e 4 (by decide), e 5 (by decide), e 6 (by decide)]
  refine ⟨h.1, ?_⟩
  rcases h.2 with h | h | h | h | h
  · exact Or.inl ⟨h.1, h.2.1, h.2.2.1, ex h.2.2.2⟩
  · exact Or.inr (Or.inl ⟨h.1, h.2.1, h.2.2.1, h.2.2.2.1, ex h.2.2.2.2⟩)
  · exact Or.inr (Or.inr (Or.inl h))
  · exact Or.inr (Or.inr (Or.inr (Or.inl ⟨h.1, h.2.1, ex h.2.2⟩)))
  · exact Or.inr (Or.inr (Or.inr (Or.inr ⟨h.1, h.2.1, ex h.2.2⟩)))
theorem tx_sm {n : Nat} : (tx 0 (cn n .nil x)).reverse = (tx 0 x).reverse ++ (hdt n).reverse := by
  rw [tx_cn, tx_n, List.nil_append, List.reverse_append]
theorem tx_he {o l : Nat} (ho : o < 8) : (tx 0 (cn (cd 5 0 0 o 0 0) (cn l x .nil) .nil)).reverse = 125 :: (tx 0 x).reverse ++ [123, 48 + l, 65 + o] := by
  have k : cK (cd 5 0 0 o 0 0) = 5 := cd_K (by decide)
  rw [tx_cn, hdt_5 k, if_pos k, tx_1, cd_O (by decide) (by decide) (by decide) ho, tx_n (m := 1), tx_n (m := 0)]
  simp
theorem hd_1 {v e : Nat} (hv : v < 4) : hdt (cd 1 v 0 0 0 e) = (119 + v) :: 58 :: (xt e ++ [59]) := by
  have k : cK (cd 1 v 0 0 0 e) = 1 := cd_K (by decide)
  unfold hdt
  rw [if_pos k, cd_V (by decide) hv, cd_E (by decide) hv (by decide) (by decide) (by decide)]
theorem hd_2 {o e : Nat} (ho : o < 8) : hdt (cd 2 0 0 o 0 e) = xt e ++ [62, 65 + o, 59] := by
  have k : cK (cd 2 0 0 o 0 e) = 2 := cd_K (by decide)
  unfold hdt
  rw [if_neg (by omega), if_pos k, cd_O (by decide) (by decide) (by decide) ho, cd_E (by decide) (by decide) (by decide) ho (by decide)]
theorem hd_3 {v o : Nat} (hv : v < 4) (ho : o < 8) : hdt (cd 3 v 0 o 0 0) = [65 + o, 62, 119 + v, 59] := by
  have k : cK (cd 3 v 0 o 0 0) = 3 := cd_K (by decide)
  unfold hdt
  rw [if_neg (by omega), if_neg (by omega), if_pos k, cd_O (by decide) hv (by decide) ho, cd_V (by decide) hv]
theorem hd_4 {l o : Nat} (hl : l < 16) (ho : o < 8) : hdt (cd 4 0 l o 0 0) = [33, 48 + l, 62, 65 + o, 59] := by
  have k : cK (cd 4 0 l o 0 0) = 4 := cd_K (by decide)
  unfold hdt
  rw [if_neg (by omega), if_neg (by omega), if_neg (by omega), if_pos k, cd_O (by decide) (by decide) hl ho, cd_L (by decide) (by decide) hl]
theorem s_simple {n : Nat} (hs : PWs s) (hc : CS I A b os (tx 0 x).reverse) (hi : i < 200) (it : ItC A s i) (hp : p < 6) (hb : b.length + (tx 0 x).length + (xt (cE s)).length + 8 ≤ 1000) (hn : 1200 < n) : Adw I A b os (tx 0 (smA s p x)).reverse (x_addSimple n I A (Int32.ofNat i) (Int32.ofNat p)) := by
  obtain ⟨hd, hk, _, _⟩ := hs
  obtain ⟨i4, it⟩ := it
  have hv := cV_lt s
  have ho := cO_lt s
  have hl := cL_lt s
  have rl : (tx 0 x).reverse.length = (tx 0 x).length := List.length_reverse
  have ni : (Int32.ofNat i).toNatClampNeg = i := (j_n (by omega)).2
  have ii : ib (Int32.ofNat i) 200 := j_in (by omega) hi
  have eqp : ∀ y, y < 64 → (Int32.ofNat p = Int32.ofNat y ↔ p = y) := fun y hy => j_eq (by omega) (by omega)
  have w0 : Adw I A b os (tx 0 x).reverse (some (I, A, 0)) := by
    have := Ads_0 hc
    unfold Ads at this
    rw [List.append_nil] at this
    exact this
  rcases hk with k | ⟨k | k, ho6, hne⟩
  · have hit : A 3 i = 1 ∧ A 6 i = Int32.ofNat (cV s) ∧ Exq A (cE s) i := by
      rcases it with h | h | h | h | h <;> first | omega | exact h.2
    obtain ⟨i3, i6, ie⟩ := hit
    unfold smA x_addSimple
    rw [if_pos k, if_pos ii, ni, i3, if_pos rfl, i4]
    by_cases e : p = cD s
    · rw [if_pos e, if_pos ((eqp _ (by omega)).mpr e), tx_sm, hd_1 hv]
      have : ((119 + cV s) :: 58 :: (xt (cE s) ++ [59])).reverse = [59] ++ ((xt (cE s)).reverse ++ ([58] ++ ([119 + cV s] ++ []))) := by simp
      rw [this]
      refine Ads_w (Ads_b (s_add hc (by omega)) (fun I1 A1 k1 f1 _ _ _ _ _ _ => ?_))
      refine Ads_b (s_exp k1 hi (by
        obtain ⟨fr, a1, a2, a3, a4, a5⟩ := ie
        exact ⟨fr, by rw [f1.2 7 (by omega)]; exact a1, a2, by rw [f1.2 8 (by omega)]; exact a3, by rw [f1.2 2 (by omega)]; exact a4, a5⟩) (by omega) (by simp only [List.length_append, List.length_singleton]; omega)) (fun I2 A2 k2 f2 _ _ _ _ _ _ => ?_)
      refine Ads_b (s_add k2 (by simp only [List.length_append, List.length_singleton, List.length_reverse]; omega)) (fun I3 A3 k3 f3 _ _ _ _ _ _ => ?_)
      rw [f3.2 6 (by omega), f2.2 6 (by omega), f1.2 6 (by omega), i6, show (119 : Int32) + Int32.ofNat (cV s) = Int32.ofNat (119 + cV s) from o_add 119 _]
      refine Ads_b (s_add k3 (by simp only [List.length_append, List.length_singleton, List.length_reverse]; omega)) (fun I4 A4 k4 f4 _ _ _ _ _ _ => ?_)
      exact Ads_0 k4
    · rw [if_neg e, if_neg (mt (eqp _ (by omega)).mp e)]
      unfold x_addSimple_53 x_addSimple_106 x_addSimple_167
      rw [if_pos ii, ni, i3, if_neg (by decide), if_pos ii, if_neg (by decide), if_pos ii, if_neg (by decide)]
      exact w0
  · have hit : A 3 i = 2 ∧ A 5 i = Int32.ofNat (cO s) ∧ A 6 i = Int32.ofNat (cV s) ∧ Exq A (cE s) i := by
      rcases it with h | h | h | h | h <;> first | omega | exact h.2
    obtain ⟨i3, i5, i6, ie⟩ := hit
    unfold smA x_addSimple
    rw [if_neg (show ¬ cK s = 1 by omega), if_pos k, if_pos ii, ni, i3, if_neg (show ¬ (2 : Int32) = 1 by decide)]
    unfold x_addSimple_53
    rw [if_pos ii, ni, i3, if_pos rfl, i4]
    by_cases e : p = cD s
    · rw [if_pos e, if_pos ((eqp _ (by omega)).mpr e), tx_sm, hd_2 ho]
      have : (xt (cE s) ++ [62, 65 + cO s, 59]).reverse = [59] ++ ([65 + cO s] ++ ([62] ++ ((xt (cE s)).reverse ++ []))) := by simp
      rw [this]
      refine Ads_w (Ads_b (s_add hc (by omega)) (fun I1 A1 k1 f1 _ _ _ _ _ _ => ?_))
      rw [f1.2 5 (by omega), i5, show (65 : Int32) + Int32.ofNat (cO s) = Int32.ofNat (65 + cO s) from o_add 65 _]
      refine Ads_b (s_add k1 (by simp only [List.length_append, List.length_singleton, List.length_reverse]; omega)) (fun I2 A2 k2 f2 _ _ _ _ _ _ => ?_)
      refine Ads_b (s_add k2 (by simp only [List.length_append, List.length_singleton, List.length_reverse]; omega)) (fun I3 A3 k3 f3 _ _ _ _ _ _ => ?_)
      refine Ads_b (s_exp k3 hi (by
        obtain ⟨fr, a1, a2, a3, a4, a5⟩ := ie
        exact ⟨fr, by rw [f3.2 7 (by omega), f2.2 7 (by omega), f1.2 7 (by omega)]; exact a1, a2, by rw [f3.2 8 (by omega), f2.2 8 (by omega), f1.2 8 (by omega)]; exact a3, by rw [f3.2 2 (by omega), f2.2 2 (by omega), f1.2 2 (by omega)]; exact a4, a5⟩) (by omega) (by simp only [List.length_append, List.length_singleton]; omega)) (fun I4 A4 k4 f4 _ _ _ _ _ _ => ?_)
      exact Ads_0 k4
    · rw [if_neg e, if_neg (mt (eqp _ (by omega)).mp e)]
      unfold x_addSimple_106
      rw [if_pos ii, ni, i3, if_pos rfl, i5]
      by_cases e2 : p = cO s
      · rw [if_pos e2, if_pos ((eqp _ (by omega)).mpr e2), tx_sm, hd_3 hv (by omega)]
        have : ([65 + cD s, 62, 119 + cV s, 59]).reverse = [59] ++ ([119 + cV s] ++ ([62] ++ ([65 + cD s] ++ []))) := by simp
        rw [this]
        refine Ads_w (Ads_b (s_add hc (by omega)) (fun I1 A1 k1 f1 _ _ _ _ _ _ => ?_))
        rw [f1.2 6 (by omega), i6, show (119 : Int32) + Int32.ofNat (cV s) = Int32.ofNat (119 + cV s) from o_add 119 _]
        refine Ads_b (s_add k1 (by simp only [List.length_append, List.length_singleton, List.length_reverse]; omega)) (fun I2 A2 k2 f2 _ _ _ _ _ _ => ?_)
        refine Ads_b (s_add k2 (by simp only [List.length_append, List.length_singleton, List.length_reverse]; omega)) (fun I3 A3 k3 f3 _ _ _ _ _ _ => ?_)
        rw [f3.2 4 (by omega), f2.2 4 (by omega), f1.2 4 (by omega), i4, show (65 : Int32) + Int32.ofNat (cD s) = Int32.ofNat (65 + cD s) from o_add 65 _]
        refine Ads_b (s_add k3 (by simp only [List.length_append, List.length_singleton, List.length_reverse]; omega)) (fun I4 A4 k4 f4 _ _ _ _ _ _ => ?_)
        exact Ads_0 k4
      · rw [if_neg e2, if_neg (mt (eqp _ (by omega)).mp e2)]
        unfold x_addSimple_167
        rw [if_pos ii, ni, i3, if_neg (by decide)]
        exact w0
  · have hit : A 3 i = 3 ∧ A 5 i = Int32.ofNat (cO s) ∧ A 6 i = Int32.ofNat (cL s) := by
      rcases it with h | h | h | h | h <;> first | omega | exact h.2
    obtain ⟨i3, i5, i6⟩ := hit
    unfold smA x_addSimple
    rw [if_neg (show ¬ cK s = 1 by omega), if_neg (show ¬ cK s = 2 by omega), if_pos ii, ni, i3, if_neg (show ¬ (3 : Int32) = 1 by decide)]
    unfold x_addSimple_53 x_addSimple_106 x_addSimple_167
    rw [if_pos ii, ni, i3, if_neg (show ¬ (3 : Int32) = 2 by decide), if_pos ii, if_neg (show ¬ (3 : Int32) = 2 by decide), if_pos ii, if_pos rfl, i4, i5, i6]
    have fin : ∀ {y : Option xR} {c : List Nat}, Adw I A b os c y → Adw I A b os c (xb y fun I1 A1 v1 => some (I1, A1, 0)) := fun {y} {c} h => by
      obtain ⟨I', A', e, r⟩ := h
      exact ⟨I', A', (xb_some e).trans rfl, r⟩
    by_cases e : p = cD s
    · rw [if_pos e, tx_sm, hd_4 hl ho]
      have : ([33, 48 + cL s, 62, 65 + cO s, 59]).reverse = [59, 65 + cO s, 62, 48 + cL s, 33] := by simp
      rw [this, e]
      exact fin (Ads_w (s_tell hc (by omega) ho (by omega) hl))
    · rw [if_neg e]
      by_cases e2 : p = cO s
      · rw [if_pos e2, tx_he (by omega), e2]
        exact fin (s_told hc (by omega) ho (by omega) hne (by omega))
      · rw [if_neg e2]
        exact fin (s_no hc (by omega) ho (by omega) e e2)
end CX
theorem bit_o : ∀ u, u < 64 → ∀ q, q < 6 → ((Int32.ofNat u >>> (Int32.ofNat q &&& 31)) &&& 1 = 1 ↔ u.testBit q = true) := by decide +kernel
def wq (s lab u p q : Nat) (x : Fo) : Fo := if u.testBit q = true then (if p = cD s then cn (cd 4 0 lab q 0 0) .nil x else if p = q then cn (cd 5 0 0 (cD s) 0 0) (cn lab x .nil) .nil else x) else x
def tol (s lab u p : Nat) (x : Fo) : Fo := if p = cD s then tel lab u x else if u.testBit p then cn (cd 5 0 0 (cD s) 0 0) (cn lab x .nil) .nil else x
theorem wq_all {s lab u p : Nat} {x : Fo} (hp : p < 6) : wq s lab u p 0 (wq s lab u p 1 (wq s lab u p 2 (wq s lab u p 3 (wq s lab u p 4 (wq s lab u p 5 x))))) = tol s lab u p x := by
  unfold tol
  by_cases e : p = cD s
  · rw [if_pos e]
    unfold tel tl1 wq
    simp only [if_pos e]
  · rw [if_neg e]
    unfold wq
    simp only [if_neg e]
    have h : p = 0 ∨ p = 1 ∨ p = 2 ∨ p = 3 ∨ p = 4 ∨ p = 5 := by omega
    rcases h with rfl | rfl | rfl | rfl | rfl | rfl <;> simp
section CY
variable {I I' I2 : Nat → Int32} {A A' A2 : Nat → Nat → Int32} {b os cur : List Nat} {i p q s h k lab u : Nat} {x : Fo} {rec22 : (Nat → Int32) → (Nat → Nat → Int32) → Int32 → Int32 → Int32 → Option xR} {low : Int32}
theorem wq_len (ho : cD s < 6) (hl : lab < 10) (hq : q < 6) : (tx 0 (wq s lab u p q x)).length ≤ (tx 0 x).length + 5 := by
  unfold wq
  split
  · split
    · have := congrArg List.length (tx_sm (n := cd 4 0 lab q 0 0) (x := x))
      rw [hd_4 (by omega) (by omega)] at this
      simp at this
      omega
    · split
      · have := congrArg List.length (tx_he (o := cD s) (l := lab) (x := x) (by omega))
        simp at this
        omega
      · omega
  · omega
theorem c90 {n : Nat} (hs : cD s < 6) (hk6 : cK s = 6) (it : ItC A s h) (hh : h < 200) (hk : k < 200) (h14 : A 14 h = Int32.ofNat u) (hu : u < 64) (h13 : A 13 k = Int32.ofNat lab) (hl : lab < 10) (hud : u.testBit (cD s) = false) (hc : CS I A b os (tx 0 x).reverse) (hp : p < 6) (hq : q < 6) (hb : b.length + (tx 0 x).length + 8 ≤ 1000) (hn : 1200 < n) : ∃ I' A', x_cut_90 rec22 (n + 1) I A (Int32.ofNat p) low (Int32.ofNat k) (Int32.ofNat h) (Int32.ofNat q) = x_cut_90 rec22 n I' A' (Int32.ofNat p) low (Int32.ofNat k) (Int32.ofNat h) (Int32.ofNat q - 1) ∧ CS I' A' b os (tx 0 (wq s lab u p q x)).reverse ∧ FrC I A I' A' := by
  have i3 : A 3 h = 4 := by
    rcases it.2 with h | h | h | h | h <;> first | omega | exact h.2.1
  have rl : (tx 0 x).reverse.length = (tx 0 x).length := List.length_reverse
  rw [x_cut_90, if_neg (show ¬ Int32.ofNat q < 0 from mt (j_lt (n := 0) (by omega) (by decide)).mp (by omega)), if_pos (j_in (by omega) hh), (j_n (n := h) (by omega)).2, i3, if_pos rfl, h14, o_add_m1]
  unfold wq
  by_cases e : u.testBit q = true
  · rw [if_pos ((bit_o u hu q hq).mpr e), if_pos e, if_pos (j_in (by omega) hk), (j_n (n := k) (by omega)).2, it.1, h13]
    have fin : ∀ c, Adw I A b os c (x_addTold n I A (Int32.ofNat (cD s)) (Int32.ofNat q) (Int32.ofNat lab) (Int32.ofNat p)) → ∃ I' A', (xb (x_addTold n I A (Int32.ofNat (cD s)) (Int32.ofNat q) (Int32.ofNat lab) (Int32.ofNat p)) fun I1 A1 v1 => x_cut_90 rec22 n I1 A1 (Int32.ofNat p) low (Int32.ofNat k) (Int32.ofNat h) (Int32.ofNat q - 1)) = x_cut_90 rec22 n I' A' (Int32.ofNat p) low (Int32.ofNat k) (Int32.ofNat h) (Int32.ofNat q - 1) ∧ CS I' A' b os c ∧ FrC I A I' A' := fun c ⟨I', A', e1, e2, e3, _⟩ => ⟨I', A', xb_some e1, e2, e3⟩
    have hqd : q ≠ cD s := fun z => by
      rw [z, hud] at e
      cases e
    by_cases e2 : p = cD s
    · rw [if_pos e2, tx_sm, hd_4 (by omega) (by omega), e2]
      rw [e2] at fin
      have : ([33, 48 + lab, 62, 65 + q, 59]).reverse = [59, 65 + q, 62, 48 + lab, 33] := by simp
      rw [this]
      exact fin _ (Ads_w (s_tell hc (by omega) (by omega) (by omega) (by omega)))
    · rw [if_neg e2]
      by_cases e3 : p = q
      · rw [if_pos e3, tx_he (by omega)]
        refine fin _ ?_
        rw [e3]
        exact s_told hc (by omega) (by omega) (by omega) hqd (by omega)
      · rw [if_neg e3]
        exact fin _ (s_no hc (by omega) (by omega) (by omega) e2 e3)
  · rw [if_neg (mt (bit_o u hu q hq).mp e), if_neg e]
    exact ⟨I, A, rfl, hc, FrC_r⟩
theorem s_90 {n : Nat} (hs : cD s < 6) (hk6 : cK s = 6) (it : ItC A s h) (hh : h < 200) (hk : k < 200) (h14 : A 14 h = Int32.ofNat u) (hu : u < 64) (h13 : A 13 k = Int32.ofNat lab) (hl : lab < 10) (hud : u.testBit (cD s) = false) (hc : CS I A b os (tx 0 x).reverse) (hp : p < 6) (hb : b.length + (tx 0 x).length + 40 ≤ 1000) (hn : 1200 < n) : ∃ I' A', x_cut_90 rec22 (n + 7) I A (Int32.ofNat p) low (Int32.ofNat k) (Int32.ofNat h) 5 = rec22 I' A' (Int32.ofNat p) low (Int32.ofNat k - 1) ∧ CS I' A' b os (tx 0 (tol s lab u p x)).reverse ∧ FrC I A I' A' := by
  have step : ∀ (q m : Nat) (I1 : Nat → Int32) (A1 : Nat → Nat → Int32) (y : Fo), q < 6 → CS I1 A1 b os (tx 0 y).reverse → FrC I A I1 A1 → b.length + (tx 0 y).length + 8 ≤ 1000 → 1200 < m → ∃ I' A', x_cut_90 rec22 (m + 1) I1 A1 (Int32.ofNat p) low (Int32.ofNat k) (Int32.ofNat h) (Int32.ofNat q) = x_cut_90 rec22 m I' A' (Int32.ofNat p) low (Int32.ofNat k) (Int32.ofNat h) (Int32.ofNat q - 1) ∧ CS I' A' b os (tx 0 (wq s lab u p q y)).reverse ∧ FrC I A I' A' := by
    intro q m I1 A1 y hq c1 f1 hb1 hm
    obtain ⟨I2, A2, e1, e2, e3⟩ := c90 (rec22 := rec22) (low := low) (n := m) hs hk6 (ItC_e it (fun j hj => f1.2 j (by omega))) hh hk ((congrFun (f1.2 14 (by omega)) h).trans h14) hu ((congrFun (f1.2 13 (by omega)) k).trans h13) hl hud c1 hp hq hb1 hm
    exact ⟨I2, A2, e1, e2, FrC_t f1 e3⟩
  have L := fun q (hq : q < 6) y => wq_len (u := u) (p := p) (x := y) hs hl hq
  obtain ⟨I1, A1, a1, b1, c1⟩ := step 5 (n + 6) I A x (by decide) hc FrC_r (by omega) (by omega)
  have l5 := L 5 (by decide) x
  obtain ⟨I2, A2, a2, b2, c2⟩ := step 4 (n + 5) I1 A1 _ (by decide) b1 c1 (by omega) (by omega)
  have l4 := L 4 (by decide) (wq s lab u p 5 x)
  obtain ⟨I3, A3, a3, b3, c3⟩ := step 3 (n + 4) I2 A2 _ (by decide) b2 c2 (by omega) (by omega)
  have l3 := L 3 (by decide) (wq s lab u p 4 (wq s lab u p 5 x))
  obtain ⟨I4, A4, a4, b4, c4⟩ := step 2 (n + 3) I3 A3 _ (by decide) b3 c3 (by omega) (by omega)
  have l2 := L 2 (by decide) (wq s lab u p 3 (wq s lab u p 4 (wq s lab u p 5 x)))
  obtain ⟨I5, A5, a5, b5, c5⟩ := step 1 (n + 2) I4 A4 _ (by decide) b4 c4 (by omega) (by omega)
  have l1 := L 1 (by decide) (wq s lab u p 2 (wq s lab u p 3 (wq s lab u p 4 (wq s lab u p 5 x))))
  obtain ⟨I6, A6, a6, b6, c6⟩ := step 0 (n + 1) I5 A5 _ (by decide) b5 c5 (by omega) (by omega)
  rw [wq_all hp] at b6
  refine ⟨I6, A6, ?_, b6, c6⟩
  refine a1.trans ?_
  rw [show Int32.ofNat 5 - 1 = Int32.ofNat 4 from rfl]
  refine a2.trans ?_
  rw [show Int32.ofNat 4 - 1 = Int32.ofNat 3 from rfl]
  refine a3.trans ?_
  rw [show Int32.ofNat 3 - 1 = Int32.ofNat 2 from rfl]
  refine a4.trans ?_
  rw [show Int32.ofNat 2 - 1 = Int32.ofNat 1 from rfl]
  refine a5.trans ?_
  rw [show Int32.ofNat 1 - 1 = Int32.ofNat 0 from rfl]
  refine a6.trans ?_
  rw [x_cut_90, if_pos (by decide), o_add_m1]
theorem tol_len (ho : cD s < 6) (hl : lab < 10) (hp : p < 6) : (tx 0 (tol s lab u p x)).length ≤ (tx 0 x).length + 30 := by
  rw [← wq_all hp]
  have L := fun q (hq : q < 6) y => wq_len (u := u) (p := p) (x := y) ho hl hq
  have l5 := L 5 (by decide) x
  have l4 := L 4 (by decide) (wq s lab u p 5 x)
  have l3 := L 3 (by decide) (wq s lab u p 4 (wq s lab u p 5 x))
  have l2 := L 2 (by decide) (wq s lab u p 3 (wq s lab u p 4 (wq s lab u p 5 x)))
  have l1 := L 1 (by decide) (wq s lab u p 2 (wq s lab u p 3 (wq s lab u p 4 (wq s lab u p 5 x))))
  have l0 := L 0 (by decide) (wq s lab u p 1 (wq s lab u p 2 (wq s lab u p 3 (wq s lab u p 4 (wq s lab u p 5 x)))))
  omega
theorem r_90 {n : Nat} (hk7 : A 3 h = 5) (hh : h < 200) : x_cut_90 rec22 (n + 1) I A (Int32.ofNat p) low (Int32.ofNat k) (Int32.ofNat h) 5 = rec22 I A (Int32.ofNat p) low (Int32.ofNat k - 1) := by
  rw [x_cut_90, if_neg (by decide), if_pos (j_in (by omega) hh), (j_n (n := h) (by omega)).2, hk7, if_neg (by decide), o_add_m1]
end CY
theorem tx_ap {a b : Fo} (ha : So true a) : tx 0 (ap a b) = tx 0 a ++ tx 0 b := So_ind (P := fun m a => m = true → tx 0 (ap a b) = tx 0 a ++ tx 0 b) (fun _ _ => rfl) (fun m n k r _ _ _ _ ih hm => by
    rw [cn_ap, tx_cn, tx_cn, ih hm, List.append_assoc, List.append_assoc]) a true ha rfl
