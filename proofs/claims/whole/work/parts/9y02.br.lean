def i2n (x : Int32) : Nat := x.toInt.toNat
def Dd (f : Nat → Int32) (c P : Nat) : Nat := cd (i2n (dK f c (P, false))) (i2n (dV f c (P, false))) (i2n (dL f c (P, false))) (i2n (dO f c (P, false))) (i2n (dP f c (P, false))) (dX f c (P, false)).toInt.toNat
def Exs (g : Nat → Nat) (c e a b : Nat) : Prop := Xok e ∧ b = a + (xt e).length ∧ xt e = sgm g a (xt e).length ∧ b < c ∧ (g b = 59 ∨ g b = 62 ∨ g b = 123)
def DQ (f : Nat → Int32) (g : Nat → Nat) (c P D : Nat) : Prop := dP f c (P, false) = Int32.ofNat (cD D) ∧ cD D < 6 ∧ dK f c (P, false) = Int32.ofNat (cK D) ∧ dV f c (P, false) = Int32.ofNat (cV D) ∧ dL f c (P, false) = Int32.ofNat (cL D) ∧ dX f c (P, false) = Int64.ofNat (cE D) ∧
  ((dC f c (P, false) = 33 ∧ cK D = 4 ∧ dO f c (P, false) = Int32.ofNat (cO D) ∧ cO D < 6 ∧ cO D ≠ cD D ∧ cL D < 10) ∨
  (dC f c (P, false) = 63 ∧ cK D = 6 ∧ dO f c (P, false) = -1 ∧ Exs g c (cE D) (P + 2) (dE f c (P, false)).1) ∨
  (dC f c (P, false) = 64 ∧ cK D = 7 ∧ dO f c (P, false) = -1 ∧ Exs g c (cE D) (P + 2) (dE f c (P, false)).1) ∨
  (¬ dC f c (P, false) = 33 ∧ ¬ dC f c (P, false) = 63 ∧ ¬ dC f c (P, false) = 64 ∧ (rd_var (dC f c (P, false)) = true ∧ ka f c (dS1 f c (P, false)) 1 = 58) ∧ cK D = 1 ∧ dO f c (P, false) = -1 ∧ Exs g c (cE D) (P + 3) (r30_3 f c (dP f c (P, false)) (dS1 f c (P, false))).1) ∨
  (¬ dC f c (P, false) = 33 ∧ ¬ dC f c (P, false) = 63 ∧ ¬ dC f c (P, false) = 64 ∧ ¬ (rd_var (dC f c (P, false)) = true ∧ ka f c (dS1 f c (P, false)) 1 = 58) ∧ cK D = 2 ∧ dO f c (P, false) = Int32.ofNat (cO D) ∧ cO D < 6 ∧ cO D ≠ cD D ∧ Exs g c (cE D) (P + 1) (r31_1 f c (dP f c (P, false)) (dS1 f c (P, false))).1))
section DQS
variable {f : Nat → Int32} {g : Nat → Nat} {c P : Nat}
theorem i2n_o {n : Nat} (h : n < 2 ^ 31) : i2n (Int32.ofNat n) = n := by
  unfold i2n
  rw [Int32.toInt_ofNat_of_lt h]
  rfl
theorem Dd_of {k v l o p e : Nat} (hk : dK f c (P, false) = Int32.ofNat k) (k1 : k < 16) (hv : dV f c (P, false) = Int32.ofNat v) (v1 : v < 4) (hl : dL f c (P, false) = Int32.ofNat l) (l1 : l < 16) (ho : i2n (dO f c (P, false)) = o) (o1 : o < 8) (hp : dP f c (P, false) = Int32.ofNat p) (p1 : p < 64) (he : dX f c (P, false) = Int64.ofNat e) (e1 : e < 2 ^ 63) : cK (Dd f c P) = k ∧ cV (Dd f c P) = v ∧ cL (Dd f c P) = l ∧ cO (Dd f c P) = o ∧ cD (Dd f c P) = p ∧ cE (Dd f c P) = e := by
  have e0 : (dX f c (P, false)).toInt.toNat = e := by
    rw [he, Int64.toInt_ofNat_of_lt e1]
    rfl
  unfold Dd
  rw [e0, hk, hv, hl, ho, hp, i2n_o (by omega), i2n_o (by omega), i2n_o (by omega), i2n_o (by omega)]
  exact ⟨cd_K k1, cd_V k1 v1, cd_L k1 v1 l1, cd_O k1 v1 l1 o1, cd_D k1 v1 l1 o1 p1, cd_E k1 v1 l1 o1 p1⟩
theorem in65 {x : Nat} (h : x ≤ 126) (h2 : rd_in (Int32.ofNat x - 65) 6 = true) : Int32.ofNat x - 65 = Int32.ofNat (x - 65) ∧ 65 ≤ x ∧ x < 71 := by
  have : ∀ x, x < 127 → rd_in (Int32.ofNat x - 65) 6 = true → Int32.ofNat x - 65 = Int32.ofNat (x - 65) ∧ 65 ≤ x ∧ x < 71 := by decide +kernel
  exact this x (by omega) h2
theorem in119 {x : Nat} (h : x ≤ 126) (h2 : rd_in (Int32.ofNat x - 119) 4 = true) : Int32.ofNat x - 119 = Int32.ofNat (x - 119) ∧ 119 ≤ x ∧ x < 123 := by
  have : ∀ x, x < 127 → rd_in (Int32.ofNat x - 119) 4 = true → Int32.ofNat x - 119 = Int32.ofNat (x - 119) ∧ 119 ≤ x ∧ x < 123 := by decide +kernel
  exact this x (by omega) h2
theorem in48 {x : Nat} (h : x ≤ 126) (h2 : rd_in (Int32.ofNat x - 48) 10 = true) : Int32.ofNat x - 48 = Int32.ofNat (x - 48) ∧ 48 ≤ x ∧ x < 58 := by
  have : ∀ x, x < 127 → rd_in (Int32.ofNat x - 48) 10 = true → Int32.ofNat x - 48 = Int32.ofNat (x - 48) ∧ 48 ≤ x ∧ x < 58 := by decide +kernel
  exact this x (by omega) h2
theorem hd_P (hg : Gf f g c) (h : (dS1 f c (P, false)).2.1 = false) : P < c ∧ dS1 f c (P, false) = (P + 1, false, 0, 0) ∧ ∃ p, p < 6 ∧ dP f c (P, false) = Int32.ofNat p := by
  obtain ⟨a1, a2, a3, a4⟩ := one_f (by decide) h
  have a2' : P < c := a2
  obtain ⟨d1, d2⟩ := d_yes a2' a3
  obtain ⟨g1, g2, g3⟩ := hg P a2'
  have a3' : rd_in (f P - 65) 6 = true := a3
  rw [g1] at a3'
  obtain ⟨b1, b2, b3⟩ := in65 g3 a3'
  refine ⟨a2', d1, g P - 65, by omega, ?_⟩
  rw [d2, g1, b1]
theorem othr (hg : Gf f g c) {s : rs} {p : Nat} (hp : p < 6) (h1 : s.2.1 = false) (h2 : s.1 < c) (h3 : prO (Int32.ofNat p) (f s.1) = true) : ∃ o, o < 6 ∧ o ≠ p ∧ kv_other f c (Int32.ofNat p) s = Int32.ofNat o := by
  rw [ko_y h1 h2 h3]
  obtain ⟨g1, g2, g3⟩ := hg s.1 h2
  rw [g1] at h3 ⊢
  unfold prO at h3
  rw [Bool.and_eq_true] at h3
  obtain ⟨b1, b2, b3⟩ := in65 g3 h3.2
  refine ⟨g s.1 - 65, by omega, fun z => ?_, b1⟩
  have h4 := h3.1
  rw [Bool.not_eq_true', decide_eq_false_iff_not] at h4
  refine h4 ?_
  rw [← z, show (65 : Int32) = Int32.ofNat 65 from rfl, ← Int32.ofNat_add]
  congr 1
  omega
theorem vl7 {a k : Nat} (hg : Gf f g c) (h : a + k ≤ c) (h7 : k ≤ 7) : vlx (sgm g a k) < 2 ^ 63 := by
  have hv := vlx_l (sgm g a k) (fun d hd => by have := sgm_b hg h d hd; omega)
  rw [sgm_len] at hv
  have b : 256 ^ k ≤ 256 ^ 7 := Nat.pow_le_pow_right (by decide) h7
  have c : (256 : Nat) ^ 7 < 2 ^ 63 := by decide
  omega
theorem gq (hg : Gf f g c) {a e : Nat} (ha : a < c) (he : e < 127) (h : f a = Int32.ofNat e) : g a = e := by
  obtain ⟨g1, g2, g3⟩ := hg a ha
  rw [g1] at h
  have := congrArg i2n h
  rw [i2n_o (by omega), i2n_o (by omega)] at this
  exact this
theorem q_tell (hg : Gf f g c) {p : Nat} (hp : p < 6) {s0 s1 s2 s3 s4 s5 : rs} (e1 : s1 = ks_expect f c 33 s0) (e2 : s2 = ks_one f c 48 10 s1) (e3 : s3 = ks_expect f c 62 s2) (e4 : s4 = ks_other f c (Int32.ofNat p) s3) (e5 : s5 = ks_expect f c 59 s4) (h0 : s0.1 = P + 1) (h : s5.2.1 = false) : s5.1 = P + 6 ∧ P + 6 ≤ c ∧ (∃ l, l < 10 ∧ kv_one f c 48 10 s1 = Int32.ofNat l) ∧ ∃ o, o < 6 ∧ o ≠ p ∧ kv_other f c (Int32.ofNat p) s3 = Int32.ofNat o := by
  rw [e5] at h
  obtain ⟨a1, a2, a3, a4⟩ := ex_f (by decide) h
  rw [← e5] at a4
  rw [e4] at a1
  obtain ⟨b1, b2, b3, b4⟩ := ot_f a1
  rw [← e4] at b4
  have o1 := othr hg hp b1 b2 b3
  rw [e3] at b1
  obtain ⟨c1, c2, c3, c4⟩ := ex_f (by decide) b1
  rw [← e3] at c4
  rw [e2] at c1
  obtain ⟨d1, d2, d3, d4⟩ := one_f (by decide) c1
  rw [← e2] at d4
  have d1' := d1
  rw [e1] at d1'
  obtain ⟨x1, x2, x3, x4⟩ := ex_f (by decide) d1'
  rw [← e1] at x4
  obtain ⟨g1, g2, g3⟩ := hg _ d2
  have d3' := d3
  rw [g1] at d3'
  obtain ⟨i1, i2, i3⟩ := in48 g3 d3'
  refine ⟨by omega, by omega, ⟨g s1.1 - 48, by omega, ?_⟩, o1⟩
  rw [kv_y d1 d2 d3, g1, i1]
theorem kx_le (s : rs) : s.1 ≤ (ks_expr f c s).1 := by
  have k0 : ∀ s : rs, s.1 ≤ (ks_keep f c s).1 := fun s => by
    unfold ks_keep
    split
    · exact Nat.le_succ _
    · exact Nat.le_refl _
  have k1 : ∀ (j : Nat) (s : rs), s.1 ≤ (ks_loop f c j s).1 := fun j => by
    induction j with
    | zero => exact fun s => Nat.le_refl _
    | succ j ih =>
      intro s
      show s.1 ≤ (if rd_fig (ka f c s 0) = true then ks_loop f c j (ks_keep f c s) else s).1
      split
      · exact Nat.le_trans (k0 s) (ih _)
      · exact Nat.le_refl _
  have k2 : ∀ s : rs, s.1 ≤ (ks_term f c s).1 := fun s => by
    unfold ks_term
    split
    · exact k0 s
    · refine Nat.le_trans ?_ (k1 3 _)
      split
      · exact Nat.le_refl _
      · exact Nat.le_refl _
  unfold ks_expr
  split
  · exact Nat.le_trans (k2 (s.1, s.2.1, 0, 0)) (Nat.le_trans (k0 _) (k2 _))
  · exact k2 (s.1, s.2.1, 0, 0)
theorem q_set (hg : Gf f g c) {s0 s1 s2 s3 s4 : rs} (e1 : s1 = ks_one f c 119 4 s0) (e2 : s2 = ks_expect f c 58 s1) (e3 : s3 = ks_expr f c s2) (e4 : s4 = ks_expect f c 59 s3) (h0 : s0.1 = P + 1) (h : s4.2.1 = false) : ∃ k, (s4.1 = P + 4 + k ∧ g (P + 3 + k) = 59) ∧ P + 4 + k ≤ c ∧ s3.1 = P + 3 + k ∧ s3.2.2.1 = Int64.ofNat (vlx (sgm g (P + 3) k)) ∧ Xok (vlx (sgm g (P + 3) k)) ∧ xt (vlx (sgm g (P + 3) k)) = sgm g (P + 3) k ∧ k ≤ 7 ∧ 0 < k ∧ ∃ v, v < 4 ∧ kv_one f c 119 4 s0 = Int32.ofNat v := by
  rw [e4] at h
  obtain ⟨a1, a2, a3, a4⟩ := ex_f (by decide) h
  rw [← e4] at a4
  rw [e3] at a1
  have hz : s2.1 ≤ c := by
    have := kx_le (f := f) (c := c) s2
    rw [← e3] at this
    omega
  obtain ⟨x1, k, x2, x3, x4, x5, x6, x7, x8⟩ := xs_expr hg rfl hz a1
  rw [← e3] at x2 x6
  rw [e2] at x1
  obtain ⟨b1, b2, b3, b4⟩ := ex_f (by decide) x1
  rw [← e2] at b4
  rw [e1] at b1
  obtain ⟨c1, c2, c3, c4⟩ := one_f (by decide) b1
  rw [← e1] at c4
  obtain ⟨g1, g2, g3⟩ := hg _ c2
  have c3' := c3
  rw [g1] at c3'
  obtain ⟨i1, i2, i3⟩ := in119 g3 c3'
  have h2 : s2.1 = P + 3 := by omega
  rw [h2] at x2 x3 x6 x7 x8
  refine ⟨k, ⟨by omega, ?_⟩, by omega, x2, x6, x7, x8, x5, x4, g s0.1 - 119, by omega, ?_⟩
  · rw [x2] at a2 a3
    exact gq hg a2 (e := 59) (by decide) a3
  rw [kv_y c1 c2 c3, g1, i1]
theorem q_send (hg : Gf f g c) {p : Nat} (hp : p < 6) {s0 s1 s2 s3 s4 s5 : rs} (e1 : s1 = ks_expr f c s0) (e2 : s2 = ks_expect f c 62 s1) (e3 : s3 = ks_other f c (Int32.ofNat p) s2) (e4 : s4 = ks_one f c 119 4 s3) (e5 : s5 = ks_expect f c 59 s4) (h0 : s0.1 = P + 1) (hP : P + 1 ≤ c) (h : s5.2.1 = false) : s0.2.1 = false ∧ ∃ k, (s5.1 = P + 5 + k ∧ g (P + 1 + k) = 62) ∧ P + 5 + k ≤ c ∧ s1.1 = P + 1 + k ∧ s1.2.2.1 = Int64.ofNat (vlx (sgm g (P + 1) k)) ∧ Xok (vlx (sgm g (P + 1) k)) ∧ xt (vlx (sgm g (P + 1) k)) = sgm g (P + 1) k ∧ k ≤ 7 ∧ 0 < k ∧ (∃ v, v < 4 ∧ kv_one f c 119 4 s3 = Int32.ofNat v) ∧ ∃ o, o < 6 ∧ o ≠ p ∧ kv_other f c (Int32.ofNat p) s2 = Int32.ofNat o := by
  rw [e5] at h
  obtain ⟨a1, a2, a3, a4⟩ := ex_f (by decide) h
  rw [← e5] at a4
  rw [e4] at a1
  obtain ⟨b1, b2, b3, b4⟩ := one_f (by decide) a1
  rw [← e4] at b4
  have b1' := b1
  rw [e3] at b1'
  obtain ⟨c1, c2, c3, c4⟩ := ot_f b1'
  rw [← e3] at c4
  have o1 := othr hg hp c1 c2 c3
  rw [e2] at c1
  obtain ⟨d1, d2, d3, d4⟩ := ex_f (by decide) c1
  rw [← e2] at d4
  rw [e1] at d1
  obtain ⟨x1, k, x2, x3, x4, x5, x6, x7, x8⟩ := xs_expr hg h0 hP d1
  rw [← e1] at x2 x6
  obtain ⟨g1, g2, g3⟩ := hg _ b2
  have b3' := b3
  rw [g1] at b3'
  obtain ⟨i1, i2, i3⟩ := in119 g3 b3'
  refine ⟨x1, k, ⟨by omega, ?_⟩, by omega, x2, x6, x7, x8, x5, x4, ⟨g s3.1 - 119, by omega, ?_⟩, o1⟩
  · rw [x2] at d2 d3
    exact gq hg d2 (e := 62) (by decide) d3
  rw [kv_y b1 b2 b3, g1, i1]
end DQS
