def En (A : Nat → Nat → Int32) (k h : Nat) (wh : Int32) : Prop := A 3 k = 7 ∧ A 12 k = Int32.ofNat h ∧ A 13 k = wh
def eA (A : Nat → Nat → Int32) (k h : Nat) (wh : Int32) : Nat → Nat → Int32 := upA (upA (upA A 3 (upd (A 3) k 7)) 12 (upd (A 12) k (Int32.ofNat h))) 13 (upd (A 13) k wh)
section EN
variable {I : Nat → Int32} {A : Nat → Nat → Int32} {k P n e c o h9 : Nat} {f : Nat → Int32} {wh : Int32}
theorem eA_x {j x : Nat} (hx : x ≠ k) : eA A k h9 wh j x = A j x := by
  unfold eA
  by_cases h13 : j = 13
  · subst h13; rw [upA_eq, upd_n hx]
  · rw [upA_ne h13]
    by_cases h12 : j = 12
    · subst h12; rw [upA_eq, upd_n hx]
    · rw [upA_ne h12]
      by_cases h3 : j = 3
      · subst h3; rw [upA_eq, upd_n hx]
      · rw [upA_ne h3]
theorem eA_j {j : Nat} (h3 : j ≠ 3) (h12 : j ≠ 12) (h13 : j ≠ 13) : eA A k h9 wh j = A j := by
  unfold eA
  rw [upA_ne h13, upA_ne h12, upA_ne h3]
theorem eA_e : En (eA A k h9 wh) k h9 wh := by
  unfold eA
  refine ⟨?_, ?_, ?_⟩
  · rw [upA_ne (by decide), upA_ne (by decide), upA_eq, upd_s]
  · rw [upA_ne (by decide), upA_eq, upd_s]
  · rw [upA_eq, upd_s]
theorem v_end0 (hk : k < 200) (he : e < 8) (ho : A 15 e = Int32.ofNat o) (ho2 : o < 200) (hh : A 12 o = Int32.ofNat h9) (hh2 : h9 < k) (hw : A 13 o = wh) : x_readEnd (V I k P false n (e + 1)) A = if A 3 h9 = 4 then (if wh = 1 then x_readEnd_122 (V I k (P + 1) false n e) (eA A k h9 wh) (Int32.ofNat h9) 1 else x_readEnd_106 (V I k (P + 1) false n e) (eA A k h9 wh) (Int32.ofNat h9)) else x_readEnd_106 (V I k (P + 1) false n e) (eA A k h9 wh) (Int32.ofNat h9) := by
  have e1 : V I k P false n (e + 1) 9 - 1 = Int32.ofNat e := by
    show Int32.ofNat (e + 1) - 1 = _
    rw [← ty_add e 1]
    exact Int32.add_sub_cancel _ _
  unfold x_readEnd
  rw [e1, if_pos (show ib (Int32.ofNat e) 8 from j_in (by omega) he), (j_n (n := e) (by omega)).2, ho, if_pos (show ib (Int32.ofNat o) 200 from j_in (by omega) ho2), show V I k P false n (e + 1) 5 = Int32.ofNat k from rfl, if_pos (show ib (Int32.ofNat k) 200 from j_in (by omega) hk), (j_n (n := o) (by omega)).2, hh, if_pos (show ib (Int32.ofNat h9) 200 from j_in (by omega) (by omega)), (j_n (n := h9) (by omega)).2, (j_n (n := k) (by omega)).2, hw, upd_n (show h9 ≠ k by omega), upd_s, V_9, show V I k P false n (e + 1) 6 = Int32.ofNat P from rfl, show Int32.ofNat P + 1 = Int32.ofNat (P + 1) from ty_add P 1, V_6]
  rfl
theorem v_endR (hk : k < 200) (he : e < 8) (ho : A 15 e = Int32.ofNat o) (ho2 : o < 200) (hh : A 12 o = Int32.ofNat h9) (hh2 : h9 < k) (hw : A 13 o = wh) (hkd : A 3 h9 = 5) : x_readEnd (V I k P false n (e + 1)) A = some (V I (k + 1) (P + 1) false n e, upA (eA A k h9 wh) 10 (upd (eA A k h9 wh 10) h9 (Int32.ofNat k)), 0) := by
  rw [v_end0 hk he ho ho2 hh hh2 hw, if_neg (by rw [hkd]; decide)]
  unfold x_readEnd_106
  rw [if_pos (show ib (Int32.ofNat h9) 200 from j_in (by omega) (by omega)), (j_n (n := h9) (by omega)).2, eA_x (show h9 ≠ k by omega), if_pos hkd]
  unfold x_readEnd_122
  rw [if_pos (show ib (Int32.ofNat h9) 200 from j_in (by omega) (by omega)), (j_n (n := h9) (by omega)).2, show V I k (P + 1) false n e 5 = Int32.ofNat k from rfl]
  unfold x_readEnd_145
  rw [if_pos rfl, show V I k (P + 1) false n e 5 = Int32.ofNat k from rfl, show Int32.ofNat k + 1 = Int32.ofNat (k + 1) from ty_add k 1, V_5]
theorem v_end2 (hk : k < 200) (he : e < 8) (ho : A 15 e = Int32.ofNat o) (ho2 : o < 200) (hh : A 12 o = Int32.ofNat h9) (hh2 : h9 < k) (hw : A 13 o = 0) (hkd : A 3 h9 = 4) : x_readEnd (V I k P false n (e + 1)) A = some (V I (k + 1) (P + 1) false n e, upA (eA A k h9 0) 11 (upd (eA A k h9 0 11) h9 (Int32.ofNat k)), 0) := by
  rw [v_end0 hk he ho ho2 hh hh2 hw, if_pos hkd, if_neg (by decide)]
  unfold x_readEnd_106
  rw [if_pos (show ib (Int32.ofNat h9) 200 from j_in (by omega) (by omega)), (j_n (n := h9) (by omega)).2, eA_x (show h9 ≠ k by omega), if_neg (by rw [hkd]; decide), show V I k (P + 1) false n e 5 = Int32.ofNat k from rfl]
  unfold x_readEnd_145
  rw [if_pos rfl, show V I k (P + 1) false n e 5 = Int32.ofNat k from rfl, show Int32.ofNat k + 1 = Int32.ofNat (k + 1) from ty_add k 1, V_5]
def fA (A : Nat → Nat → Int32) (k h : Nat) : Nat → Nat → Int32 := upA (eA A k h 1) 10 (upd (eA A k h 1 10) h (Int32.ofNat k))
theorem v_end1 (hf : Rf I A c f) (hP : P + 1 ≤ c) (hk0 : k < 200) (hk : P + 1 < c → k + 1 < 200) (he : e < 8) (ho : A 15 e = Int32.ofNat o) (ho2 : o < 200) (hh : A 12 o = Int32.ofNat h9) (hh2 : h9 < k) (hw : A 13 o = 1) (hkd : A 3 h9 = 4) : ∃ k' e' A', x_readEnd (V I k P false n (e + 1)) A = some (V I k' (mwp f c (isc 123) (P + 1, false)).1 (mwp f c (isc 123) (P + 1, false)).2 n e', A', 0) ∧ (∀ j, j ≠ 15 → ([3, 12, 13, 14] : List Nat).contains j = false → A' j = fA A k h9 j) ∧ (∀ j x, j ≠ 15 → x ≠ k + 1 → A' j x = fA A k h9 j x) ∧ (∀ x, x ≠ e → A' 15 x = A 15 x) ∧ ((mwp f c (isc 123) (P + 1, false)).1 = P + 2 → k' = k + 2 ∧ e' = e + 1 ∧ Bg A' (k + 1) h9 0 ∧ A' 15 e = Int32.ofNat (k + 1)) ∧ (P + 1 = c → e' = e + 1) ∧ e' ≤ e + 1 := by
  have hc := hf.2.1
  have f15 : fA A k h9 15 = A 15 := by
    unfold fA
    rw [upA_ne (by decide), eA_j (by decide) (by decide) (by decide)]
  have f2 : fA A k h9 2 = A 2 := by
    unfold fA
    rw [upA_ne (by decide), eA_j (by decide) (by decide) (by decide)]
  have hR : Rf I (fA A k h9) c f := ⟨hf.1, hf.2.1, by rw [f2]; exact hf.2.2⟩
  have start : x_readEnd (V I k P false n (e + 1)) A = x_readEnd_145 (V I k (P + 1) false n e) (fA A k h9) (Int32.ofNat h9) 1 := by
    rw [v_end0 (by omega) he ho ho2 hh hh2 hw, if_pos hkd, if_pos rfl]
    unfold x_readEnd_122
    rw [if_pos (show ib (Int32.ofNat h9) 200 from j_in (by omega) (by omega)), (j_n (n := h9) (by omega)).2]
    rfl
  rw [start]
  unfold x_readEnd_145
  rw [if_neg (by decide), show V I k (P + 1) false n e 4 = Int32.ofNat c from hf.1, show V I k (P + 1) false n e 6 = Int32.ofNat (P + 1) from rfl, show V I k (P + 1) false n e 5 = Int32.ofNat k from rfl, show V I k (P + 1) false n e 9 = Int32.ofNat e from rfl, show Int32.ofNat k + 1 = Int32.ofNat (k + 1) from ty_add k 1, V_5]
  by_cases q : P + 1 < c
  · rw [if_pos (show Int32.ofNat (P + 1) < Int32.ofNat c from (j_lt (by omega) (by omega)).mpr q)]
    obtain ⟨k', e', A', u1, u2, u3, u4⟩ := v_rbegin (I := I) (k := k + 1) (P := P + 1) (b := false) (n := n) (e := e) (h9 := h9) (lab := 0) hR (by omega) (hk q) he
    refine ⟨k', e', A', ?_, u2.1, u2.2.1, fun x hx => by rw [u2.2.2 x hx, f15], fun z => ?_, fun z => by omega, ?_⟩
    · refine (xb_some u1).trans ?_
      rfl
    · obtain ⟨w1, w2, w3, w4⟩ := u3 z
      exact ⟨w1, w2, w3, w4⟩
    · by_cases z : (mwp f c (isc 123) (P + 1, false)).1 = P + 1 + 1
      · rw [(u3 z).2.1]
        exact Nat.le_refl _
      · rw [(u4 z).2.1]
        exact Nat.le_succ _
  · rw [if_neg (show ¬ Int32.ofNat (P + 1) < Int32.ofNat c from mt (j_lt (by omega) (by omega)).mp q), if_pos (show ib (Int32.ofNat e) 8 from j_in (by omega) he), (j_n (n := e) (by omega)).2, show Int32.ofNat e + 1 = Int32.ofNat (e + 1) from ty_add e 1, V_9, mwp_e q]
    refine ⟨k + 1, e + 1, _, rfl, fun j hj _ => upA_ne hj, fun j x hj _ => by rw [upA_ne hj], fun x hx => ?_, fun z => ?_, fun _ => rfl, Nat.le_refl _⟩
    · rw [upA_eq, upd_n hx, f15]
    · have z' : P + 1 = P + 2 := z
      omega
end EN
