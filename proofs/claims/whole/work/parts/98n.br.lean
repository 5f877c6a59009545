section BR
variable {I : Nat → Int32} {R : pw → Nat → pw × Nat × Fo} {f : Nat → Int32} {c d : Nat}
theorem exw {x : Int32} {s : rs} (hx : ¬ (0 : Int32) = x) (h : s.2.1 = true) : pj (ks_expect f c x s) = (s.1, true) := by
  obtain ⟨P, w, a, b⟩ := s
  have h' : w = true := h
  subst h'
  unfold ks_expect
  rw [ka_w, if_neg hx]
  rfl
theorem ex_y {x : Int32} {P : Nat} (hP : P < c) (h : f P = x) : pj (ks_expect f c x (z0 (P, false))) = (P + 1, false) := by
  unfold ks_expect
  rw [show z0 (P, false) = (P, false, 0, 0) from rfl, ka_1 hP, if_pos h]
  rfl
theorem blk_w {x : pw} {n : Nat} (hW : ∀ (y : pw) (n : Nat), y.2 = true → R y n = (y, n, .nil)) (h : x.2 = true) : pBlk R f c x n = (x, n, .nil) := by
  obtain ⟨P, w⟩ := x
  have h' : w = true := h
  subst h'
  have e1 : pj (ks_expect f c 123 (z0 (P, true))) = (P, true) := exw (by decide) rfl
  have e2 : pj (ks_expect f c 125 (z0 (P, true))) = (P, true) := exw (by decide) rfl
  unfold pBlk
  rw [e1, hW (P, true) n rfl]
  show (pj (ks_expect f c 125 (z0 (P, true))), n, (.nil : Fo)) = _
  rw [e2]
theorem blk_f {x Y : pw} {n : Nat} {D : pw × Nat × Fo} (hY : pj (ks_expect f c 123 (z0 x)) = Y) (hD : R Y n = D) : pBlk R f c x n = (pj (ks_expect f c 125 (z0 D.1)), D.2.1, D.2.2) := by
  unfold pBlk
  rw [hY, hD]
theorem ends_y {Q : Nat} (h : ks_ends f c (d + 1) (Q, false, 0, 0) = true) : Q < c ∧ f Q = 125 := by
  unfold ks_ends at h
  rw [if_neg (Nat.succ_ne_zero d)] at h
  have h2 := of_decide_eq_true h
  rw [ka_la] at h2
  unfold rd_la at h2
  by_cases q : Q < c
  · rw [if_pos q] at h2
    exact ⟨q, h2⟩
  · rw [if_neg q] at h2
    exact absurd h2 (by decide)
theorem v_br6 {A : Nat → Nat → Int32} {k P n : Nat} {ch : Int32} (hk : k < 200) : ∃ A', (∀ m, x_readStatement_151 m (V I (k + 1) P false n 6) A (Int32.ofNat k) ch = some (V I (k + 1) P true n 6, A', 0)) ∧ GrI A A' k [3] := by
  refine ⟨upA A 3 (upd (A 3) k (kdc ch)), fun m => ?_, GrI_u _⟩
  unfold x_readStatement_151 kdc
  rw [if_pos (show ib (Int32.ofNat k) 200 from j_in (by omega) hk), if_pos (show ib (Int32.ofNat k) 200 from j_in (by omega) hk), (j_n (n := k) (by omega)).2, if_pos (show V I (k + 1) P false n 6 9 = 6 from rfl), if_pos (show V I (k + 1) P false n 6 9 = 6 from rfl), V_7t]
  by_cases q : ch = 63
  · rw [if_pos q, if_pos q]
  · rw [if_neg q, if_neg q]
theorem bC {P : Nat} (qp : rd_in (f P - 65) 6 = true) (hP : P < c) (q : P + 1 < c) (hb : f (P + 1) = 63 ∨ f (P + 1) = 64) {k : Nat} {A : Nat → Nat → Int32} (y9 : A 9 k = Int32.ofNat P) (y4 : A 4 k = f P - 65) (y5 : A 5 k = -1) (y14 : A 14 k = 0) (y3 : A 3 k = kdc (f (P + 1))) (y7 : A 7 k = Int32.ofNat (P + 2)) (y8 : A 8 k = Int32.ofNat (dE f c (P, false)).1) : IT A f c k P := by
  obtain ⟨s1, s2⟩ := d_yes hP qp
  have eC := dC_y q hP qp
  have n33 : ¬ dC f c (P, false) = 33 := by
    rw [eC]
    rcases hb with z | z
    · rw [z]; decide
    · rw [z]; decide
  have hO : dO f c (P, false) = -1 := by
    unfold dO
    rw [if_neg n33, eC]
    by_cases z : f (P + 1) = 63
    · rw [if_pos z]
    · rw [if_neg z, if_pos (hb.resolve_left z)]
  refine ⟨y9, by rw [s2]; exact y4, y14, by rw [hO]; exact y5, ?_⟩
  rw [if_neg n33, eC]
  unfold kdc at y3
  by_cases z : f (P + 1) = 63
  · rw [if_pos z] at y3
    rw [if_pos z]
    exact ⟨y3, y7, y8⟩
  · rw [if_neg z] at y3
    rw [if_neg z, if_pos (hb.resolve_left z)]
    exact ⟨y3, y7, y8⟩
theorem hd_al {s : rs} {r0 : pw} (aE : Al f c (pj s) r0) : Al f c (pj (ks_expect f c 123 (z0 (pj s)))) (mwp f c (isc 123) r0) ∧ ((pj (ks_expect f c 123 (z0 (pj s)))).2 = false → (mwp f c (isc 123) r0).1 = r0.1 + 1) := by
  have aX : Al f c (pj (ks_expect f c 123 (z0 (pj s)))) (mwp f c (isc 123) r0) := al_ex (s := z0 (pj s)) aE 123 (by decide) (by decide) (by decide)
  refine ⟨aX, fun z => ?_⟩
  obtain ⟨w1, w2, w3, w4⟩ := ex_f (x := 123) (s := z0 (pj s)) (by decide) z
  have p1 : (ks_expect f c 123 (z0 (pj s))).1 = (mwp f c (isc 123) r0).1 := aX.1.1
  have p2 : (z0 (pj s)).1 = r0.1 := aE.1.1
  rw [← p1, w4, p2]
theorem br_head (hl : Ltr f c) {P n k : Nat} {A : Nat → Nat → Int32} (h : Rf I A c f) (hk : k ≤ P) (hP : P < c) (hn : n < 40) (hd : d < 6) (qp : rd_in (f P - 65) 6 = true) (q : P + 1 < c) (hb : f (P + 1) = 63 ∨ f (P + 1) = 64) : ∃ k' e' r A', (∀ m, 4 ≤ m → x_readStatement m (V I k P false n d) A = some (V I k' r.1 r.2 (n + 1) e', A', 0)) ∧ e' ≤ 8 ∧ FrA A A' k d ∧ AlF f c (pj (ks_expect f c 123 (z0 (pj (dE f c (P, false)))))) r ∧ ((pj (ks_expect f c 123 (z0 (pj (dE f c (P, false)))))).2 = false → r.2 = false ∧ k' = k + 2 ∧ e' = d + 1 ∧ Bg A' (k + 1) k 1 ∧ A' 15 d = Int32.ofNat (k + 1) ∧ IT A' f c k P ∧ A' 3 k = kdc (f (P + 1)) ∧ P + 3 ≤ r.1) := by
  have hc := h.2.1
  obtain ⟨s1, s2⟩ := d_yes hP qp
  obtain ⟨A1, g1, y9, y4, y5, y14, key⟩ := m_head (n := n) (e := d) h hl hP hk hn qp
  have h1 : Rf I A1 c f := Rf_g h g1 rfl
  obtain ⟨k', e', A', u1, u2, u3, u4, u5, u6, u7, u8, u9, u10⟩ := v_br (I := I) (n := n + 1) (k := k) (e := d) h1 q (by omega) hd hb
  have eE : dE f c (P, false) = ks_expr f c (P + 2, false, 0, 0) := by
    unfold dE
    rw [s1]
  have n33 : ¬ f (P + 1) = 33 := by
    rcases hb with z | z
    · rw [z]; decide
    · rw [z]; decide
  have lc2 : Lc f (P + 2) := by
    refine ⟨Nat.succ_pos _, ?_, ?_⟩
    · show f (P + 1) ≠ 59
      rcases hb with z | z
      · rw [z]; decide
      · rw [z]; decide
    · show f (P + 1) ≠ 125
      rcases hb with z | z
      · rw [z]; decide
      · rw [z]; decide
  have aE : Al f c (pj (dE f c (P, false))) (mw_expr f c (P + 1 + 1, false)) := by
    rw [eE]
    exact al_expr (s := (P + 2, false, 0, 0)) (al_0 q lc2)
  have p2 : (dE f c (P, false)).1 = (mw_expr f c (P + 1 + 1, false)).1 := aE.1.1
  obtain ⟨aX, aY⟩ := hd_al aE
  generalize pj (ks_expect f c 123 (z0 (pj (dE f c (P, false))))) = Y at aX aY ⊢
  have hge : P + 1 + 1 ≤ (mw_expr f c (P + 1 + 1, false)).1 := mw_expr_gp
  generalize mw_expr f c (P + 1 + 1, false) = r0 at aX aY u1 u8 u9 hge p2
  generalize mwp f c (isc 123) r0 = r at aX aY u1 u9
  refine ⟨k', e', r, A', fun m hm => ?_, by omega, ⟨?_, ?_, ?_⟩, aX.1, fun z => ?_⟩
  · rw [key m, if_pos q, if_neg n33, if_pos hb]
    exact u1 m hm
  · intro j hj
    have hL1 : ([3, 7, 8, 12, 13, 14] : List Nat).contains j = false := by
      cases hc1 : ([3, 7, 8, 12, 13, 14] : List Nat).contains j with
      | false => rfl
      | true => simp at hc1; omega
    have hL2 : ([9, 4, 5, 14] : List Nat).contains j = false := by
      cases hc1 : ([9, 4, 5, 14] : List Nat).contains j with
      | false => rfl
      | true => simp at hc1; omega
    rw [u2 j (by omega) hL1, g1.1 j hL2]
  · intro j x hj hx
    rw [u3 j x hj (by omega) (by omega), g1.2 j x (by omega)]
  · intro x hx
    rw [u4 x (by omega), g1.1 15 rfl]
  · have p3 := aY z
    obtain ⟨t1, t2, t3, t4⟩ := u9 p3
    refine ⟨alF_2 aX.1 z, t1, t2, t3, t4, bC qp hP q hb ?_ ?_ ?_ ?_ u6 u7 ?_, u6, by omega⟩
    · rw [u5 9 (by decide) (by decide) (by decide) (by decide)]; exact y9
    · rw [u5 4 (by decide) (by decide) (by decide) (by decide)]; exact y4
    · rw [u5 5 (by decide) (by decide) (by decide) (by decide)]; exact y5
    · rw [u5 14 (by decide) (by decide) (by decide) (by decide)]; exact y14
    · rw [p2]; exact u8
theorem br_row (hl : Ltr f c) (hR : SimR I R f c (d + 1)) (hW : ∀ (y : pw) (n : Nat), y.2 = true → R y n = (y, n, .nil)) {P n k : Nat} {A : Nat → Nat → Int32} {l : Int32} {Y : pw} {D : pw × Nat × Fo} (hY : pj (ks_expect f c 123 (z0 (pj (dE f c (P, false))))) = Y) (hD : R Y (n + 1) = D) (h : Rf I A c f) (hk : k ≤ P) (hP : P < c) (hn : n < 40) (hd : d < 6) (hno : d = 0 ∨ ¬ f P = 125) (qp : rd_in (f P - 65) 6 = true) (q : P + 1 < c) (hb : f (P + 1) = 63 ∨ f (P + 1) = 64) :
  (D.1.2 = true → ∃ i, ∀ m, 4 ≤ m → Fl I A D.1.1 (x_isPlay_63 (m + i) (V I k P false n d) A l)) ∧
  (D.1.2 = false → ∃ i k1 A1 l1, (∀ m, 4 ≤ m → x_isPlay_63 (m + i) (V I k P false n d) A l = x_isPlay_63 m (V I k1 D.1.1 false D.2.1 (d + 1)) A1 l1) ∧ k + 2 ≤ k1 ∧ k1 ≤ D.1.1 ∧ D.1.1 < c ∧ f D.1.1 = 125 ∧ D.2.1 ≤ 40 ∧ n < D.2.1 ∧ IR A1 f c D.2.2 (k + 2) k1 ∧ FrA A A1 k d ∧ Bg A1 (k + 1) k 1 ∧ A1 15 d = Int32.ofNat (k + 1) ∧ IT A1 f c k P ∧ A1 3 k = kdc (f (P + 1))) := by
  obtain ⟨k', e', r, A', u1, u2, u3, u4, u5⟩ := br_head (d := d) hl h hk hP hn hd qp q hb
  rw [hY] at u4 u5
  have h' : Rf I A' c f := Rf_f h u3
  have hrc : r.1 ≤ c := by rw [← u4.1]; exact u4.2.1
  obtain ⟨Q, w⟩ := Y
  cases w with
  | true =>
    rw [hW (Q, true) (n + 1) rfl] at hD
    subst hD
    refine ⟨fun _ => ⟨2, fun m hm => ?_⟩, fun z => Bool.noConfusion z⟩
    rw [show m + 2 = (m + 1) + 1 from rfl, it_stm h h' hP hrc (by omega) u2 hno (u1 (m + 1) (by omega))]
    exact Fl_f u3 (it_fail (x := (Q, true)) h' u4 rfl)
  | false =>
    obtain ⟨v1, v2, v3, v4, v5, v6, v7, v8⟩ := u5 rfl
    obtain ⟨Q2, b2⟩ := r
    have hQ : Q = Q2 := u4.1
    have hb2 : b2 = false := v1
    subst hQ hb2 v2 v3
    have v8' : P + 3 ≤ Q := v8
    have w0 : wfl f c Q false (d + 1) = 0 := wfl_0 (fun z => by have := z.2.2.1; omega)
    have st : ∀ m, 4 ≤ m → x_isPlay_63 (m + 1) (V I k P false n d) A l = x_isPlay_63 m (V I (k + 2) Q false (n + 1) (d + 1)) A' (wfl f c Q false (d + 1)) := fun m hm => it_stm h h' hP hrc (by omega) u2 hno (u1 m hm)
    obtain ⟨ra, rb⟩ := hR Q (n + 1) (k + 2) A' (wfl f c Q false (d + 1)) h' (by omega) hrc (by omega) (fun _ => w0)
    rw [hD] at ra rb
    refine ⟨fun z => ?_, fun z => ?_⟩
    · obtain ⟨i, r1⟩ := rb z
      refine ⟨i + 1, fun m hm => ?_⟩
      rw [← Nat.add_assoc, st (m + i) (by omega)]
      exact Fl_f u3 (r1 m hm)
    · obtain ⟨i, k1, A1, l1, r1, r2, r3, r4, r5, r6, r7, r8, r9, -, -⟩ := ra z
      obtain ⟨z1, z2⟩ := ends_y r9
      refine ⟨i + 1, k1, A1, l1, fun m hm => ?_, r2, r3, z1, z2, r5, by omega, r7, FrA_t u3 r8 (by omega) (by omega), Bg_fr (fun j hj => r8.2.1 j (k + 1) hj (by omega)) v4, ?_, IT_fr (fun j hj => r8.2.1 j k hj (by omega)) v6, ?_⟩
      · rw [← Nat.add_assoc, st (m + i) (by omega)]
        exact r1 m hm
      · rw [r8.2.2 d (by omega)]; exact v5
      · rw [r8.2.1 3 k (by decide) (by omega)]; exact v7
end BR
