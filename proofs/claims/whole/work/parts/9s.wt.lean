def bpc (u : Nat) : Nat := (if u.testBit 0 then 1 else 0) + (if u.testBit 1 then 1 else 0) + (if u.testBit 2 then 1 else 0) + (if u.testBit 3 then 1 else 0) + (if u.testBit 4 then 1 else 0) + (if u.testBit 5 then 1 else 0)
def wt (D : Nat → Nat) : Fo → Nat
  | .append (.tag P (.append (.tag _ t1) (.append (.tag _ t2) _))) r => (xt (cE (D P))).length + 6 + 10 * bpc (unw (cD (D P)) (cut D t1) (cut D t2)) + wt D t1 + wt D t2 + wt D r
  | .append (.tag P (.append (.tag _ t1) _)) r => (xt (cE (D P))).length + 8 + wt D t1 + wt D r
  | .append (.tag P _) r => (if cK (D P) = 1 then (xt (cE (D P))).length + 4 else if cK (D P) = 2 then (xt (cE (D P))).length + 5 else 6) + wt D r
  | _ => 0
def dpt : Fo → Nat
  | .append (.tag _ (.append (.tag _ t1) (.append (.tag _ t2) _))) r => max (2 + max (dpt t1) (dpt t2)) (dpt r)
  | .append (.tag _ (.append (.tag _ t1) _)) r => max (2 + dpt t1) (dpt r)
  | .append (.tag _ _) r => dpt r
  | _ => 0
theorem xt_len : ∀ (f e : Nat), (xtf f e).length ≤ f
  | 0, _ => Nat.le_refl _
  | f + 1, e => by
    unfold xtf
    split
    · exact Nat.zero_le _
    · have := xt_len f (e / 256)
      rw [List.length_cons]
      omega
theorem xt_8 (e : Nat) : (xt e).length ≤ 8 := xt_len 8 e
section CL
variable {s p q lab u : Nat} {x y : Fo}
theorem tx_sml' {n : Nat} : (tx 0 (cn n .nil x)).length = (hdt n).length + (tx 0 x).length := by
  rw [tx_cn, tx_n, List.nil_append, List.length_append]
theorem tx_hel {o l : Nat} (ho : o < 8) : (tx 0 (cn (cd 5 0 0 o 0 0) (cn l x .nil) .nil)).length = (tx 0 x).length + 4 := by
  have := congrArg List.length (tx_he (o := o) (l := l) (x := x) ho)
  simp at this
  omega
theorem wq_len2 (ho : cD s < 6) (hl : lab < 10) (hq : q < 6) : (tx 0 (wq s lab u p q x)).length ≤ (tx 0 x).length + 5 * (if u.testBit q then 1 else 0) := by
  have := wq_len (u := u) (p := p) (x := x) ho hl hq
  by_cases e : u.testBit q = true
  · rw [if_pos e]
    exact this
  · unfold wq
    rw [if_neg e, if_neg e]
    omega
theorem tol_len2 (ho : cD s < 6) (hl : lab < 10) (hp : p < 6) : (tx 0 (tol s lab u p x)).length ≤ (tx 0 x).length + 5 * bpc u := by
  rw [← wq_all hp]
  have L := fun q (hq : q < 6) y => wq_len2 (u := u) (p := p) (x := y) ho hl hq
  have l5 := L 5 (by decide) x
  have l4 := L 4 (by decide) (wq s lab u p 5 x)
  have l3 := L 3 (by decide) (wq s lab u p 4 (wq s lab u p 5 x))
  have l2 := L 2 (by decide) (wq s lab u p 3 (wq s lab u p 4 (wq s lab u p 5 x)))
  have l1 := L 1 (by decide) (wq s lab u p 2 (wq s lab u p 3 (wq s lab u p 4 (wq s lab u p 5 x))))
  have l0 := L 0 (by decide) (wq s lab u p 1 (wq s lab u p 2 (wq s lab u p 3 (wq s lab u p 4 (wq s lab u p 5 x)))))
  unfold bpc
  omega
theorem sm_len (hs : PWs s) : (tx 0 (smA s p x)).length ≤ (if cK s = 1 then (xt (cE s)).length + 4 else if cK s = 2 then (xt (cE s)).length + 5 else 6) + (tx 0 x).length := by
  obtain ⟨hd, hk, _, _⟩ := hs
  have hv := cV_lt s
  have ho := cO_lt s
  have hl := cL_lt s
  unfold smA
  split
  · split
    · rw [tx_sml', hd_1 hv]
      simp <;> omega
    · omega
  · split
    · split
      · rw [tx_sml', hd_2 ho]
        simp <;> omega
      · split
        · rw [tx_sml', hd_3 hv (by omega)]
          simp <;> omega
        · omega
    · split
      · rw [tx_sml', hd_4 hl ho]
        simp
      · split
        · rw [tx_hel (by omega)]
          omega
        · omega
theorem ldl_len (d : Nat) : (ldl d).length ≤ 6 := by
  unfold ldl
  simp only [List.length_append]
  split <;> split <;> split <;> split <;> split <;> split <;> simp
theorem ldl_len5 {d c : Nat} (hc : c < 6) (h : d.testBit c = false) : (ldl d).length ≤ 5 := by
  have hq : c = 0 ∨ c = 1 ∨ c = 2 ∨ c = 3 ∨ c = 4 ∨ c = 5 := by omega
  unfold ldl
  simp only [List.length_append]
  rcases hq with rfl | rfl | rfl | rfl | rfl | rfl
  · rw [if_neg (show ¬ d.testBit 0 = true by rw [h]; decide)]
    split <;> split <;> split <;> split <;> split <;> simp
  · rw [if_neg (show ¬ d.testBit 1 = true by rw [h]; decide)]
    split <;> split <;> split <;> split <;> split <;> simp
  · rw [if_neg (show ¬ d.testBit 2 = true by rw [h]; decide)]
    split <;> split <;> split <;> split <;> split <;> simp
  · rw [if_neg (show ¬ d.testBit 3 = true by rw [h]; decide)]
    split <;> split <;> split <;> split <;> split <;> simp
  · rw [if_neg (show ¬ d.testBit 4 = true by rw [h]; decide)]
    split <;> split <;> split <;> split <;> split <;> simp
  · rw [if_neg (show ¬ d.testBit 5 = true by rw [h]; decide)]
    split <;> split <;> split <;> split <;> split <;> simp
theorem rd_len {l : Nat} (hs : PWb s) (hl : l < 64) (hd : l.testBit (cD s) = false) : (tx 0 (rdA s l y p x)).length ≤ (xt (cE s)).length + 8 + (tx 0 y).length + (tx 0 x).length := by
  unfold rdA
  have h5 := ldl_len5 hs.1 hd
  split
  · have k : ¬ cK (cd 7 0 0 0 l (cE s)) = 5 := by rw [cd_K (by decide)]; decide
    rw [tx_cn, if_neg k, hd_7 hl, tx_2, tx_n]
    simp
    omega
  · split
    · have k : ¬ cK (cd 8 0 0 (cD s) 0 0) = 5 := by rw [cd_K (by decide)]; decide
      rw [tx_cn, if_neg k, hd_8 (by have := hs.1; omega), tx_2, tx_n]
      simp
      omega
    · omega
theorem bpc_pos (hp : p < 6) (h : u.testBit p = true) : 1 ≤ bpc u := by
  have hq : p = 0 ∨ p = 1 ∨ p = 2 ∨ p = 3 ∨ p = 4 ∨ p = 5 := by omega
  unfold bpc
  rcases hq with rfl | rfl | rfl | rfl | rfl | rfl <;> rw [if_pos h] <;> omega
theorem ch_len {c1 c2 : Nat → Fo} (hs : PWb s) (hp : p < 6) (s1 : So true (c1 p)) (s2 : So true (c2 p)) (w1 : WK true (c1 p)) (w2 : WK true (c2 p)) : (tx 0 (chA s c1 c2 p x)).length ≤ (xt (cE s)).length + 6 + 10 * bpc (unw (cD s) c1 c2) + (tx 0 (c1 p)).length + (tx 0 (c2 p)).length + (tx 0 x).length := by
  have hx : 1 ≤ (xt (cE s)).length := by
    have := hs.2.1
    exact List.length_pos_iff.mpr this
  have t1 := tol_len2 (s := s) (lab := 1) (u := unw (cD s) c1 c2) (p := p) (x := c1 p) hs.1 (by decide) hp
  have t2 := tol_len2 (s := s) (lab := 0) (u := unw (cD s) c1 c2) (p := p) (x := c2 p) hs.1 (by decide) hp
  by_cases e : p = cD s
  · have k : ¬ cK (cd 6 0 0 0 0 (cE s)) = 5 := by rw [cd_K (by decide)]; decide
    unfold tol at t1 t2
    rw [if_pos e] at t1 t2
    unfold chA
    rw [if_pos e, tx_cn, if_neg k, hd_6, tx_2, tx_2, tx_n]
    simp
    omega
  · obtain ⟨c, jc, sc, hc⟩ := tol_J (u := unw (cD s) c1 c2) hp e ⟨rfl, s1, s2, w1, w2⟩
    have := J_len (tol_so s1) (tol_so s2) (tol_wk hs.1 (by decide) w1) (tol_wk hs.1 (by decide) w2) jc
    rw [hc x, tx_ap sc, List.length_append]
    omega
end CL
theorem led_no (s : Nat) (o : Nat → Bool) (h : cD s < 6) : (led s o).testBit (cD s) = false := by
  unfold led
  rw [bts_t _ h]
  simp
theorem unw_no (s : Nat) (c1 c2 : Nat → Fo) (h : cD s < 6) : (unw (cD s) c1 c2).testBit (cD s) = false := by
  unfold unw
  rw [bts_t _ h]
  simp
theorem cut_len {D : Nat → Nat} {p : Nat} (hp : p < 6) : ∀ (t : Fo), PW D t → (tx 0 (cut D t p)).length ≤ wt D t := PW_ind (by
    show (tx 0 (.nil : Fo)).length ≤ 0
    rw [tx_n]
    exact Nat.le_refl _) (fun q r hs _ ih => by
    show (tx 0 (smA (D q) p (cut D r p))).length ≤ (if cK (D q) = 1 then (xt (cE (D q))).length + 4 else if cK (D q) = 2 then (xt (cE (D q))).length + 5 else 6) + wt D r
    have := sm_len (p := p) (x := cut D r p) hs
    omega) (fun q i t1 r _ hb p1 p2 ih1 ih2 => by
    show (tx 0 (rdA (D q) (led (D q) (occ D t1)) (cut D t1 p) p (cut D r p))).length ≤ (xt (cE (D q))).length + 8 + wt D t1 + wt D r
    have := rd_len (p := p) (x := cut D r p) (y := cut D t1 p) hb (bts_lt _) (led_no (D q) (occ D t1) hb.1)
    unfold led at this ⊢
    omega) (fun q i j t1 t2 r _ hb p1 p2 p3 ih1 ih2 ih3 => by
    show (tx 0 (chA (D q) (cut D t1) (cut D t2) p (cut D r p))).length ≤ (xt (cE (D q))).length + 6 + 10 * bpc (unw (cD (D q)) (cut D t1) (cut D t2)) + wt D t1 + wt D t2 + wt D r
    have := ch_len (p := p) (x := cut D r p) hb hp (cut_so t1 p1 p) (cut_so t2 p2 p) (cut_wk t1 p1 p) (cut_wk t2 p2 p)
    omega)
def IC (A : Nat → Nat → Int32) (D : Nat → Nat) : Fo → Nat → Nat → Prop
  | .append (.tag q .nil) r, lo, hi => ItC A (D q) lo ∧ IC A D r (lo + 1) hi
  | .append (.tag q (.append (.tag _ t1) .nil)) r, lo, hi => ItC A (D q) lo ∧ Bg A (lo + 1) lo 1 ∧ ∃ e1, IC A D t1 (lo + 2) e1 ∧ lo + 2 ≤ e1 ∧ e1 + 1 ≤ hi ∧ En A e1 lo 1 ∧ A 10 lo = Int32.ofNat e1 ∧ IC A D r (e1 + 1) hi
  | .append (.tag q (.append (.tag _ t1) (.append (.tag _ t2) .nil))) r, lo, hi => ItC A (D q) lo ∧ A 14 lo = Int32.ofNat (unw (cD (D q)) (cut D t1) (cut D t2)) ∧ Bg A (lo + 1) lo 1 ∧ ∃ e1 e2, IC A D t1 (lo + 2) e1 ∧ lo + 2 ≤ e1 ∧ En A e1 lo 1 ∧ A 10 lo = Int32.ofNat e1 ∧ Bg A (e1 + 1) lo 0 ∧ IC A D t2 (e1 + 2) e2 ∧ e1 + 2 ≤ e2 ∧ e2 + 1 ≤ hi ∧ En A e2 lo 0 ∧ A 11 lo = Int32.ofNat e2 ∧ IC A D r (e2 + 1) hi
  | .nil, lo, hi => lo = hi
  | _, _, _ => False
theorem IC_le {A : Nat → Nat → Int32} {D : Nat → Nat} : ∀ (t : Fo), PW D t → ∀ lo hi, IC A D t lo hi → lo ≤ hi := PW_ind (fun lo hi h => Nat.le_of_eq h) (fun q r _ _ ih lo hi h => by
    have := ih (lo + 1) hi h.2
    omega) (fun q i t1 r _ _ _ _ ih1 ih2 lo hi h => by
    obtain ⟨_, _, e1, _, h2, h3, _⟩ := h
    omega) (fun q i j t1 t2 r _ _ _ _ _ ih1 ih2 ih3 lo hi h => by
    obtain ⟨_, _, _, e1, e2, _, h2, _, _, _, _, h3, h4, _⟩ := h
    omega)
