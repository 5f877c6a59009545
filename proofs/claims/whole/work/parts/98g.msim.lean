def IT (A : Nat → Nat → Int32) (f : Nat → Int32) (c k P : Nat) : Prop := A 9 k = Int32.ofNat P ∧ A 4 k = dP f c (P, false) ∧ A 14 k = 0 ∧ A 5 k = dO f c (P, false) ∧
  (if dC f c (P, false) = 33 then A 3 k = 3 ∧ A 6 k = dL f c (P, false)
  else if dC f c (P, false) = 63 then A 3 k = 4 ∧ A 7 k = Int32.ofNat (P + 2) ∧ A 8 k = Int32.ofNat (dE f c (P, false)).1
  else if dC f c (P, false) = 64 then A 3 k = 5 ∧ A 7 k = Int32.ofNat (P + 2) ∧ A 8 k = Int32.ofNat (dE f c (P, false)).1
  else if rd_var (dC f c (P, false)) = true ∧ ka f c (dS1 f c (P, false)) 1 = 58 then A 3 k = 1 ∧ A 6 k = dV f c (P, false) ∧ A 7 k = Int32.ofNat (P + 3) ∧ A 8 k = Int32.ofNat (r30_3 f c (dP f c (P, false)) (dS1 f c (P, false))).1
  else A 3 k = 2 ∧ A 6 k = dV f c (P, false) ∧ A 7 k = Int32.ofNat (P + 1) ∧ A 8 k = Int32.ofNat (r31_1 f c (dP f c (P, false)) (dS1 f c (P, false))).1)
section KV
variable {f : Nat → Int32} {c P : Nat} {p x y : Int32} {s : rs}
theorem ka_y (hw : s.2.1 = false) (hP : s.1 < c) : ka f c s 0 = f s.1 := by
  rw [ka_s, if_neg (by rw [hw]; decide)]
  unfold rd_la
  rw [if_pos hP]
theorem kv_y (hw : s.2.1 = false) (hP : s.1 < c) (h : rd_in (f s.1 - x) y = true) : kv_one f c x y s = f s.1 - x := by
  unfold kv_one
  rw [ka_y hw hP, if_pos h]
theorem ko_y (hw : s.2.1 = false) (hP : s.1 < c) (h : prO p (f s.1) = true) : kv_other f c p s = f s.1 - 65 := by
  unfold prO at h
  rw [Bool.and_eq_true, Bool.not_eq_true', decide_eq_false_iff_not] at h
  unfold kv_other ks_oth0
  rw [ka_y hw hP, if_neg h.1]
  exact kv_y hw hP h.2
theorem ex_f (hx : isc x 0 = false) (h : (ks_expect f c x s).2.1 = false) : s.2.1 = false ∧ s.1 < c ∧ f s.1 = x ∧ (ks_expect f c x s).1 = s.1 + 1 := by
  rw [ksp_ex] at h ⊢
  obtain ⟨h1, h2, h3, h4⟩ := ksp_f h hx
  exact ⟨h1, h2, of_decide_eq_true h3, h4⟩
theorem one_f (hx : rd_in (0 - x) y = false) (h : (ks_one f c x y s).2.1 = false) : s.2.1 = false ∧ s.1 < c ∧ rd_in (f s.1 - x) y = true ∧ (ks_one f c x y s).1 = s.1 + 1 := by
  rw [ksp_one] at h ⊢
  exact ksp_f h hx
theorem ot_f (h : (ks_other f c p s).2.1 = false) : s.2.1 = false ∧ s.1 < c ∧ prO p (f s.1) = true ∧ (ks_other f c p s).1 = s.1 + 1 := by
  have e := ksp_other (f := f) (c := c) (s := s) p
  have h' : (ksp f c (fun ch => !decide (ch = 65 + p) && rd_in (ch - 65) 6) s).2.1 = false := by
    have : (pj (ksp f c (fun ch => !decide (ch = 65 + p) && rd_in (ch - 65) 6) s)).2 = false := by rw [← e]; exact h
    exact this
  obtain ⟨h1, h2, h3, h4⟩ := ksp_f h' (by show (!decide ((0 : Int32) = 65 + p) && rd_in (0 - 65) 6) = false; rw [show rd_in (0 - 65) 6 = false by decide, Bool.and_false])
  refine ⟨h1, h2, h3, ?_⟩
  have : (pj (ks_other f c p s)).1 = s.1 + 1 := by rw [e]; exact h4
  exact this
theorem pj_2 (s : rs) : (pj s).2 = s.2.1 := rfl
theorem pj_1 (s : rs) : (pj s).1 = s.1 := rfl
theorem ok19 {s0 s1 s2 s3 s4 s5 : rs} (e1 : s1 = ks_expect f c 33 s0) (e2 : s2 = ks_one f c 48 10 s1) (e3 : s3 = ks_expect f c 62 s2) (e4 : s4 = ks_other f c p s3) (e5 : s5 = ks_expect f c 59 s4) (h0 : s0.1 = P) (h : s5.2.1 = false) : s5.1 = P + 5 ∧ kv_one f c 48 10 s1 = f (P + 1) - 48 ∧ kv_other f c p s3 = f (P + 3) - 65 ∧ f (P + 4) = 59 := by
  rw [e5] at h
  obtain ⟨a1, a2, a3, a4⟩ := ex_f (x := 59) (by decide) h
  rw [← e5] at a4
  have a1' := a1
  rw [e4] at a1'
  obtain ⟨b1, b2, b3, b4⟩ := ot_f a1'
  rw [← e4] at b4
  have b1' := b1
  rw [e3] at b1'
  obtain ⟨c1, c2, c3, c4⟩ := ex_f (x := 62) (by decide) b1'
  rw [← e3] at c4
  have c1' := c1
  rw [e2] at c1'
  obtain ⟨d1, d2, d3, d4⟩ := one_f (x := 48) (y := 10) (by decide) c1'
  rw [← e2] at d4
  have d1' := d1
  rw [e1] at d1'
  obtain ⟨g1, g2, g3, g4⟩ := ex_f (x := 33) (by decide) d1'
  rw [← e1] at g4
  have k1 := kv_y d1 d2 d3
  have k2 := ko_y b1 b2 b3
  have p1 : s1.1 = P + 1 := by rw [g4, h0]
  have p2 : s2.1 = P + 2 := by rw [d4, p1]
  have p3 : s3.1 = P + 3 := by rw [c4, p2]
  have p4 : s4.1 = P + 4 := by rw [b4, p3]
  rw [p1] at k1
  rw [p3] at k2
  rw [p4] at a3 a4
  exact ⟨a4, k1, k2, a3⟩
theorem ok31 {s1 s2 s3 s4 s5 : rs} (e2 : s2 = ks_expect f c 62 s1) (e3 : s3 = ks_other f c p s2) (e4 : s4 = ks_one f c 119 4 s3) (e5 : s5 = ks_expect f c 59 s4) (h : s5.2.1 = false) : s5.1 = s1.1 + 4 ∧ kv_other f c p s2 = f (s1.1 + 1) - 65 ∧ kv_one f c 119 4 s3 = f (s1.1 + 2) - 119 ∧ f (s1.1 + 3) = 59 ∧ s1.2.1 = false := by
  rw [e5] at h
  obtain ⟨a1, a2, a3, a4⟩ := ex_f (x := 59) (by decide) h
  rw [← e5] at a4
  have a1' := a1
  rw [e4] at a1'
  obtain ⟨b1, b2, b3, b4⟩ := one_f (x := 119) (y := 4) (by decide) a1'
  rw [← e4] at b4
  have b1' := b1
  rw [e3] at b1'
  obtain ⟨c1, c2, c3, c4⟩ := ot_f b1'
  rw [← e3] at c4
  have c1' := c1
  rw [e2] at c1'
  obtain ⟨d1, d2, d3, d4⟩ := ex_f (x := 62) (by decide) c1'
  rw [← e2] at d4
  have k1 := kv_y b1 b2 b3
  have k2 := ko_y c1 c2 c3
  have p3 : s3.1 = s1.1 + 2 := by rw [c4, d4]
  have p4 : s4.1 = s1.1 + 3 := by rw [b4, p3]
  rw [p3] at k1
  rw [d4] at k2
  rw [p4] at a3 a4
  exact ⟨a4, k2, k1, a3, d1⟩
theorem mw_fig_gp : ∀ (j i P : Nat), P ≤ (mw_fig f c j i P).1
  | 0, i, P => Nat.le_refl _
  | j + 1, i, P => by
    rw [mw_fig]
    split
    · have := mw_fig_gp j (i + 1) (P + 1)
      omega
    · exact Nat.le_refl _
theorem mw_term_gp {b : Bool} : P ≤ (mw_term f c (P, b)).1 := by
  unfold mw_term
  split
  · exact Nat.le_refl _
  · split
    · split
      · exact Nat.le_succ _
      · exact mw_fig_gp 3 0 P
    · exact Nat.le_refl _
theorem mw_expr_gp {b : Bool} : P ≤ (mw_expr f c (P, b)).1 := by
  have h1 := mw_term_gp (f := f) (c := c) (P := P) (b := b)
  unfold mw_expr
  split
  · exact h1
  · split
    · have h2 := mw_term_gp (f := f) (c := c) (P := (mw_term f c (P, b)).1 + 1) (b := false)
      omega
    · exact h1
theorem alF_2 {x r : pw} (al : AlF f c x r) (h : x.2 = false) : r.2 = false := by
  cases hz : r.2 with
  | false => rfl
  | true => exact absurd (al.2.2.1 hz) (by rw [h]; decide)
end KV
section MSI
variable {I : Nat → Int32} {A : Nat → Nat → Int32} {k P n e c m : Nat} {f : Nat → Int32} {p : Int32}
theorem ms_tell (h : Rf I A c f) (hl : Ltr f c) (q : P < c) (hk : k < 200) (q1 : f P = 33) (y4 : A 4 k = p) : ∃ A' r, x_readTell (V I (k + 1) P false n e) A (Int32.ofNat k) = some (V I (k + 1) r.1 r.2 n e, A', 0) ∧ GrI A A' k [3, 6, 5] ∧ A' 3 k = 3 ∧ AlF f c (pj (r19_5 f c p (P, false, 0, 0))) r ∧ ((pj (r19_5 f c p (P, false, 0, 0))).2 = false → P < r.1 ∧ f (r.1 - 1) = 59 ∧ A' 6 k = kv_one f c 48 10 (r19_1 f c p (P, false, 0, 0)) ∧ A' 5 k = kv_other f c p (r19_3 f c p (P, false, 0, 0))) := by
  obtain ⟨A', u1, u2, u3, u4⟩ := v_tell (I := I) (k := k + 1) (n := n) (e := e) h hl q hk
  rw [y4] at u1 u4
  have al := alT (p := p) hl q q1
  refine ⟨A', mT f c p P, u1, u2, u3, al, fun z => ?_⟩
  have hal1 := al.1
  rw [pj_2] at z
  rw [pj_1] at hal1
  have ok := ok19 (f := f) (c := c) (p := p) (P := P) (s0 := (P, false, 0, 0)) (s1 := r19_1 f c p (P, false, 0, 0)) (s2 := r19_2 f c p (P, false, 0, 0)) (s3 := r19_3 f c p (P, false, 0, 0)) (s4 := r19_4 f c p (P, false, 0, 0)) (s5 := r19_5 f c p (P, false, 0, 0)) (by unfold r19_1; rfl) (by unfold r19_2; rfl) (by unfold r19_3; rfl) (by unfold r19_4; rfl) (by unfold r19_5; rfl) rfl z
  obtain ⟨o1, o2, o3, o4⟩ := ok
  have hr1 : (mT f c p P).1 = P + 5 := hal1.symm.trans o1
  obtain ⟨w6, w5⟩ := u4 hr1
  refine ⟨by rw [hr1]; omega, ?_, w6.trans o2.symm, w5.trans o3.symm⟩
  rw [hr1]
  exact o4
theorem ms_send (h : Rf I A c f) (hl : Ltr f c) (q : P < c) (hL : Lc f P) (hk : k < 200) (hv : ¬ (rd_var (f P) = true ∧ P + 1 < c ∧ f (P + 1) = 58)) (y4 : A 4 k = p) : ∃ A' r, (∀ m, 4 ≤ m → x_readValue m (V I (k + 1) P false n e) A (Int32.ofNat k) = some (V I (k + 1) r.1 r.2 n e, A', 0)) ∧ GrI A A' k [3, 7, 8, 5, 6] ∧ A' 3 k = 2 ∧ AlF f c (pj (r31_5 f c p (P, false, 0, 0))) r ∧ A' 7 k = Int32.ofNat P ∧ A' 8 k = Int32.ofNat (r31_1 f c p (P, false, 0, 0)).1 ∧ ((pj (r31_5 f c p (P, false, 0, 0))).2 = false → P < r.1 ∧ f (r.1 - 1) = 59 ∧ A' 5 k = kv_other f c p (r31_2 f c p (P, false, 0, 0)) ∧ A' 6 k = kv_one f c 119 4 (r31_3 f c p (P, false, 0, 0))) := by
  obtain ⟨A', u1, u2, u3, u4, u5, u6⟩ := v_send (I := I) (k := k + 1) (n := n) (e := e) h hl q hk hv
  rw [y4] at u6
  have u1' : ∀ m, 4 ≤ m → x_readValue m (V I (k + 1) P false n e) A (Int32.ofNat k) = some (V I (k + 1) (mD f c p P).1 (mD f c p P).2 n e, A', 0) := fun m hm => by rw [u1 m hm, y4]
  have al := alD (p := p) hl (Nat.le_of_lt q) hL
  have hx : (r31_1 f c p (P, false, 0, 0)).1 = (mw_expr f c (P, false)).1 := (expr_alike 0 0 (Nat.le_of_lt q)).1
  refine ⟨A', mD f c p P, u1', u2, u3, al, u4, by rw [hx]; exact u5, fun z => ?_⟩
  have hal1 := al.1
  rw [pj_2] at z
  rw [pj_1] at hal1
  obtain ⟨o1, o2, o3, o4, o5⟩ := ok31 (f := f) (c := c) (p := p) (s1 := r31_1 f c p (P, false, 0, 0)) (s2 := r31_2 f c p (P, false, 0, 0)) (s3 := r31_3 f c p (P, false, 0, 0)) (s4 := r31_4 f c p (P, false, 0, 0)) (s5 := r31_5 f c p (P, false, 0, 0)) (by unfold r31_2; rfl) (by unfold r31_3; rfl) (by unfold r31_4; rfl) (by unfold r31_5; rfl) z
  have hr1 : (mD f c p P).1 = (mw_expr f c (P, false)).1 + 4 := by rw [← hx, ← o1]; exact hal1.symm
  obtain ⟨w5, w6⟩ := u6 hr1
  rw [hx] at o2 o3 o4
  have hgp := mw_expr_gp (f := f) (c := c) (P := P) (b := false)
  refine ⟨by rw [hr1]; omega, ?_, w5.trans o2.symm, w6.trans o3.symm⟩
  rw [hr1]
  exact o4
theorem ms_set (h : Rf I A c f) (hl : Ltr f c) (q : P + 1 < c) (hk : k < 200) (hv : rd_var (f P) = true) (h58 : f (P + 1) = 58) : ∃ A' r, (∀ m, 4 ≤ m → x_readValue m (V I (k + 1) P false n e) A (Int32.ofNat k) = some (V I (k + 1) r.1 r.2 n e, A', 0)) ∧ GrI A A' k [3, 6, 7, 8] ∧ A' 3 k = 1 ∧ AlF f c (pj (r30_4 f c p (P, false, 0, 0))) r ∧ A' 6 k = kv_one f c 119 4 (P, false, 0, 0) ∧ A' 7 k = Int32.ofNat (P + 2) ∧ A' 8 k = Int32.ofNat (r30_3 f c p (P, false, 0, 0)).1 ∧ ((pj (r30_4 f c p (P, false, 0, 0))).2 = false → P < r.1 ∧ f (r.1 - 1) = 59) := by
  obtain ⟨A', u1, u2, u3, u4, u5, u6⟩ := v_set (I := I) (k := k + 1) (n := n) (e := e) h q hk hv h58
  have al := alS (p := p) hl q hv h58
  have hin : rd_in (f P - 119) 4 = true := by
    obtain ⟨mm, hmm, em⟩ := lt_n hl (show P < c by omega)
    rw [em] at hv ⊢
    rw [← (lt_f mm hmm).2.2]
    exact hv
  have hkv : kv_one f c 119 4 (P, false, 0, 0) = f P - 119 := kv_y rfl (show P < c by omega) hin
  have hx : (r30_3 f c p (P, false, 0, 0)).1 = (mw_expr f c (P + 2, false)).1 := by
    have e1 : r30_1 f c p (P, false, 0, 0) = (P + 1, false, 0, 0) := by
      unfold r30_1 ks_one
      rw [ka_1 (show P < c by omega), if_pos hin]
      rfl
    have e2 : r30_2 f c p (P, false, 0, 0) = (P + 2, false, 0, 0) := by
      unfold r30_2 ks_expect
      rw [e1, ka_1 q, if_pos h58]
      rfl
    unfold r30_3
    rw [e2]
    exact (expr_alike 0 0 (show P + 2 ≤ c by omega)).1
  refine ⟨A', mS f c P, u1, u2, u3, al, u4.trans hkv.symm, u5, by rw [hx]; exact u6, fun z => ?_⟩
  have hal1 := al.1
  rw [pj_2] at z
  rw [pj_1] at hal1
  have e5 : r30_4 f c p (P, false, 0, 0) = ks_expect f c 59 (r30_3 f c p (P, false, 0, 0)) := by unfold r30_4; rfl
  rw [e5] at z hal1
  obtain ⟨a1, a2, a3, a4⟩ := ex_f (x := 59) (by decide) z
  have hr1 : (mS f c P).1 = (r30_3 f c p (P, false, 0, 0)).1 + 1 := hal1.symm.trans a4
  have hgp := mw_expr_gp (f := f) (c := c) (P := P + 2) (b := false)
  refine ⟨by rw [hr1, hx]; omega, ?_⟩
  rw [hr1]
  exact a3
end MSI
