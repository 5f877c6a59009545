section CH
variable {I : Nat → Int32} {R : pw → Nat → pw × Nat × Fo} {f : Nat → Int32} {c d : Nat}
theorem ex_n {x : Int32} {P : Nat} (h : ¬ rd_la f c P = x) : pj (ks_expect f c x (z0 (P, false))) = (P, true) := by
  unfold ks_expect
  rw [show z0 (P, false) = (P, false, 0, 0) from rfl, ka_la, if_neg h]
  rfl
theorem ch_row (hR : SimR I R f c (d + 1)) (hW : ∀ (y : pw) (n : Nat), y.2 = true → R y n = (y, n, .nil)) {k k1 Q n1 : Nat} {A1 : Nat → Nat → Int32} {l1 : Int32} {Y : pw} {D : pw × Nat × Fo} (hY : pj (ks_expect f c 123 (z0 (Q + 1, false))) = Y) (hD : R Y n1 = D) (h1 : Rf I A1 c f) (hk : k + 2 ≤ k1) (hkQ : k1 ≤ Q) (hQ : Q < c) (h125 : f Q = 125) (hn : n1 ≤ 40) (hd : d < 6) (hbg : Bg A1 (k + 1) k 1) (h15 : A1 15 d = Int32.ofNat (k + 1)) (h3 : A1 3 k = 4) :
  (D.1.2 = true → ∃ i, ∀ m, 4 ≤ m → Fl I A1 D.1.1 (x_isPlay_63 (m + i) (V I k1 Q false n1 (d + 1)) A1 l1)) ∧
  (D.1.2 = false → ∃ i k2 A2 l2, (∀ m, 4 ≤ m → x_isPlay_63 (m + i) (V I k1 Q false n1 (d + 1)) A1 l1 = x_isPlay_63 m (V I k2 D.1.1 false D.2.1 (d + 1)) A2 l2) ∧ k1 + 2 ≤ k2 ∧ k2 ≤ D.1.1 ∧ D.1.1 < c ∧ f D.1.1 = 125 ∧ D.2.1 ≤ 40 ∧ n1 ≤ D.2.1 ∧ IR A2 f c D.2.2 (k1 + 2) k2 ∧ (∀ j, (j < 3 ∨ 15 < j) → A2 j = A1 j) ∧ (∀ j x, j ≠ 15 → x < k1 + 1 → A2 j x = gA A1 k1 k 1 10 j x) ∧ (∀ x, x < d → A2 15 x = A1 15 x) ∧ Bg A2 (k1 + 1) k 0 ∧ A2 15 d = Int32.ofNat (k1 + 1)) := by
  have hc := h1.2.1
  obtain ⟨k', e', A', u1, u2, u3, u4, u5, u6, u7⟩ := v_end1 (n := n1) (e := d) (o := k + 1) (h9 := k) h1 (show Q + 1 ≤ c from hQ) (show k1 < 200 by omega) (fun _ => by omega) (by omega) h15 (by omega) hbg.2.1 (by omega) hbg.2.2.1 h3
  have fg : fA A1 k1 k = gA A1 k1 k 1 10 := rfl
  rw [fg] at u2 u3
  have fr0 : ∀ j, (j < 3 ∨ 15 < j) → A' j = A1 j := fun j hj => by
    have hL : ([3, 12, 13, 14] : List Nat).contains j = false := by
      cases hc1 : ([3, 12, 13, 14] : List Nat).contains j with
      | false => rfl
      | true => simp at hc1; omega
    rw [u2 j (by omega) hL, gA_j (Or.inl rfl) (by omega)]
  have ff : FrA A1 A' 0 0 := ⟨fr0, fun _ _ _ hx => absurd hx (Nat.not_lt_zero _), fun _ hx => absurd hx (Nat.not_lt_zero _)⟩
  have h' : Rf I A' c f := Rf_f h1 ff
  by_cases q : Q + 1 < c
  · by_cases q1 : f (Q + 1) = 123
    · have em : mwp f c (isc 123) (Q + 1, false) = (Q + 2, false) := mwp_y q (decide_eq_true q1)
      have eY : pj (ks_expect f c 123 (z0 (Q + 1, false))) = (Q + 2, false) := ex_y q q1
      rw [eY] at hY
      subst hY
      rw [em] at u1 u5
      obtain ⟨v1, v2, v3, v4⟩ := u5 rfl
      subst v1 v2
      have w0 : wfl f c (Q + 2) false (d + 1) = 0 := wfl_0 (fun z => by have := z.2.2.1; omega)
      have st : ∀ m, x_isPlay_63 (m + 1) (V I k1 Q false n1 (d + 1)) A1 l1 = x_isPlay_63 m (V I (k1 + 2) (Q + 2) false n1 (d + 1)) A' (wfl f c (Q + 2) false (d + 1)) := fun m => it_end h1 h' hQ (show Q + 2 ≤ c from q) (by omega) (by omega) h125 u1
      obtain ⟨ra, rb⟩ := hR (Q + 2) n1 (k1 + 2) A' (wfl f c (Q + 2) false (d + 1)) h' (by omega) q hn (fun _ => w0)
      rw [hD] at ra rb
      refine ⟨fun z => ?_, fun z => ?_⟩
      · obtain ⟨i, r1⟩ := rb z
        refine ⟨i + 1, fun m hm => ?_⟩
        rw [← Nat.add_assoc, st (m + i)]
        exact Fl_f ff (r1 m hm)
      · obtain ⟨i, k2, A2, l2, r1, r2, r3, r4, r5, r6, r7, r8, r9, -, -⟩ := ra z
        obtain ⟨z1, z2⟩ := ends_y r9
        refine ⟨i + 1, k2, A2, l2, fun m hm => ?_, r2, r3, z1, z2, r5, r6, r7, fun j hj => (r8.1 j hj).trans (fr0 j hj), fun j x hj hx => (r8.2.1 j x hj (by omega)).trans (u3 j x hj (by omega)), fun x hx => (r8.2.2 x (by omega)).trans (u4 x (by omega)), Bg_fr (fun j hj => r8.2.1 j (k1 + 1) hj (by omega)) v3, (r8.2.2 d (by omega)).trans v4⟩
        rw [← Nat.add_assoc, st (m + i)]
        exact r1 m hm
    · have em : mwp f c (isc 123) (Q + 1, false) = (Q + 1, true) := mwp_n q (decide_eq_false q1)
      have eY : pj (ks_expect f c 123 (z0 (Q + 1, false))) = (Q + 1, true) := ex_n (by unfold rd_la; rw [if_pos q]; exact q1)
      rw [eY] at hY
      subst hY
      rw [em] at u1
      rw [hW _ _ rfl] at hD
      subst hD
      refine ⟨fun _ => ⟨2, fun m _ => ?_⟩, fun z => Bool.noConfusion z⟩
      rw [show m + 2 = (m + 1) + 1 from rfl, it_end h1 h' hQ (show Q + 1 ≤ c from hQ) (by omega) (by omega) h125 u1]
      exact Fl_f ff (it_fail (x := (Q + 1, true)) (r := (Q + 1, true)) h' ⟨rfl, hQ, fun _ => rfl, fun _ => Or.inl rfl⟩ rfl)
  · have hQc : Q + 1 = c := by omega
    have em : mwp f c (isc 123) (Q + 1, false) = (Q + 1, false) := mwp_e q
    have eY : pj (ks_expect f c 123 (z0 (Q + 1, false))) = (Q + 1, true) := ex_n (by unfold rd_la; rw [if_neg q]; decide)
    rw [eY] at hY
    subst hY
    rw [em] at u1
    rw [hW _ _ rfl] at hD
    subst hD
    have he := u6 hQc
    subst he
    refine ⟨fun _ => ⟨2, fun m _ => ?_⟩, fun z => Bool.noConfusion z⟩
    rw [show m + 2 = (m + 1) + 1 from rfl, it_end h1 h' hQ (show Q + 1 ≤ c from hQ) (by omega) (by omega) h125 u1]
    show Fl I A1 (Q + 1) (x_isPlay_63 (m + 1) (V I k' (Q + 1) false n1 (d + 1)) A' (wfl f c (Q + 1) false (d + 1)))
    rw [hQc]
    exact Fl_f ff (it_failE h' (Nat.succ_pos _))
theorem cho_IR {A1 A2 : Nat → Nat → Int32} {k k1 k2 P : Nat} {t1 t2 : Fo} (hk : k + 2 ≤ k1) (hk2 : k1 + 2 ≤ k2) (ht1 : IR A1 f c t1 (k + 2) k1) (hbg : Bg A1 (k + 1) k 1) (hit : IT A1 f c k P) (h3 : A1 3 k = 4) (ht2 : IR A2 f c t2 (k1 + 2) k2) (hf : ∀ j x, j ≠ 15 → x < k1 + 1 → A2 j x = gA A1 k1 k 1 10 j x) (hbg2 : Bg A2 (k1 + 1) k 0) : IR (gA A2 k2 k 0 11) f c (cn P (cn 0 t1 (cn 1 t2 .nil)) .nil) k (k2 + 1) := by
  show IR (gA A2 k2 k 0 11) f c (.append (.tag P (.append (.tag 0 t1) (.append (.tag 1 t2) .nil))) .nil) k (k2 + 1)
  unfold IR
  refine ⟨IT_f2 (fun j h10 h11 h15 => (gA_h (by omega) h11).trans ((hf j k h15 (by omega)).trans (gA_h (by omega) h10))) hit, ?_, Bg_fr (fun j h15 => (gA_x (by omega) (by omega)).trans ((hf j (k + 1) h15 (by omega)).trans (gA_x (by omega) (by omega)))) hbg, k1, k2, IR_fr _ _ _ ht1 (fun j x h15 a1 a2 => (gA_x (by omega) (by omega)).trans ((hf j x h15 (by omega)).trans (gA_x (by omega) (by omega)))), hk, En_fr (fun j h15 => (gA_x (by omega) (by omega)).trans (hf j k1 h15 (by omega))) (gA_e (A := A1) (k := k1) (h := k) (wh := 1) (Or.inl rfl)), ?_, Bg_fr (fun j h15 => gA_x (by omega) (by omega)) hbg2, IR_fr _ _ _ ht2 (fun j x h15 a1 a2 => gA_x (by omega) (by omega)), hk2, Nat.le_refl _, gA_e (Or.inr rfl), gA_w, rfl⟩
  · rw [gA_h (by omega) (by decide), hf 3 k (by decide) (by omega), gA_h (by omega) (by decide)]
    exact h3
  · rw [gA_h (by omega) (by decide), hf 10 k (by decide) (by omega), gA_w]
theorem sim_choice (hl : Ltr f c) (hR : SimR I R f c (d + 1)) (hW : ∀ (y : pw) (n : Nat), y.2 = true → R y n = (y, n, .nil)) {P n k : Nat} {A : Nat → Nat → Int32} {l : Int32} (h : Rf I A c f) (hk : k ≤ P) (hP : P < c) (hn : n < 40) (hd : d < 6) (hno : d = 0 ∨ ¬ f P = 125) (qp : rd_in (f P - 65) 6 = true) (q : P + 1 < c) (hb : f (P + 1) = 63) {B1 B2 : pw × Nat × Fo} (hB1 : B1 = pBlk R f c (pj (dE f c (P, false))) (n + 1)) (hB2 : B2 = pBlk R f c B1.1 B1.2.1) :
  (B2.1.2 = false → ∃ i k' A', (∀ m, 4 ≤ m → x_isPlay_63 (m + i) (V I k P false n d) A l = x_isPlay_63 m (V I k' B2.1.1 false B2.2.1 d) A' (wfl f c B2.1.1 false d)) ∧ k ≤ k' ∧ k' ≤ B2.1.1 ∧ B2.1.1 ≤ c ∧ B2.2.1 ≤ 40 ∧ n < B2.2.1 ∧ IR A' f c (cn P (cn 0 B1.2.2 (cn 1 B2.2.2 .nil)) .nil) k k' ∧ FrA A A' k d ∧ Nd f B2.1.1) ∧
  (B2.1.2 = true → ∃ i, ∀ m, 4 ≤ m → Fl I A B2.1.1 (x_isPlay_63 (m + i) (V I k P false n d) A l)) := by
  have hc := h.2.1
  obtain ⟨Y, hY⟩ : ∃ Y, pj (ks_expect f c 123 (z0 (pj (dE f c (P, false))))) = Y := ⟨_, rfl⟩
  obtain ⟨D, hD⟩ : ∃ D, R Y (n + 1) = D := ⟨_, rfl⟩
  rw [blk_f hY hD] at hB1
  obtain ⟨ra, rb⟩ := br_row (l := l) hl hR hW hY hD h hk hP hn hd hno qp q (Or.inl hb)
  obtain ⟨⟨Q, w⟩, n1, t⟩ := D
  cases w with
  | true =>
    have e1 : pj (ks_expect f c 125 (z0 (Q, true))) = (Q, true) := exw (by decide) rfl
    have hB' : B1 = ((Q, true), n1, t) := hB1.trans (by show (pj (ks_expect f c 125 (z0 (Q, true))), n1, t) = _; rw [e1])
    subst hB'
    have hB2' : B2 = ((Q, true), n1, .nil) := hB2.trans (blk_w hW rfl)
    subst hB2'
    exact ⟨fun z => Bool.noConfusion z, fun _ => ra rfl⟩
  | false =>
    obtain ⟨i, k1, A1, l1, r1, r2, r3, r4, r5, r6, r7, r8, r9, r10, r11, r12, r13⟩ := rb rfl
    have r4' : Q < c := r4
    have r3' : k1 ≤ Q := r3
    have r6' : n1 ≤ 40 := r6
    have r7' : n < n1 := r7
    have e1 : pj (ks_expect f c 125 (z0 (Q, false))) = (Q + 1, false) := ex_y r4 r5
    have hB' : B1 = ((Q + 1, false), n1, t) := hB1.trans (by show (pj (ks_expect f c 125 (z0 (Q, false))), n1, t) = _; rw [e1])
    subst hB'
    have h1 : Rf I A1 c f := Rf_f h r9
    have h34 : A1 3 k = 4 := by rw [r13, hb]; rfl
    obtain ⟨Y2, hY2⟩ : ∃ Y2, pj (ks_expect f c 123 (z0 (Q + 1, false))) = Y2 := ⟨_, rfl⟩
    obtain ⟨D2, hD2⟩ : ∃ D2, R Y2 n1 = D2 := ⟨_, rfl⟩
    have hB2' : B2 = (pj (ks_expect f c 125 (z0 D2.1)), D2.2.1, D2.2.2) := hB2.trans (blk_f hY2 hD2)
    obtain ⟨sa, sb⟩ := ch_row (l1 := l1) hR hW hY2 hD2 h1 r2 r3' r4' r5 r6' hd r10 r11 h34
    obtain ⟨⟨Q2, w2⟩, n2, t2⟩ := D2
    cases w2 with
    | true =>
      have e2 : pj (ks_expect f c 125 (z0 (Q2, true))) = (Q2, true) := exw (by decide) rfl
      have hB3 : B2 = ((Q2, true), n2, t2) := hB2'.trans (by show (pj (ks_expect f c 125 (z0 (Q2, true))), n2, t2) = _; rw [e2])
      subst hB3
      refine ⟨fun z => Bool.noConfusion z, fun _ => ?_⟩
      obtain ⟨i2, s1⟩ := sa rfl
      refine ⟨i2 + i, fun m hm => ?_⟩
      rw [← Nat.add_assoc, r1 (m + i2) (by omega)]
      exact Fl_f r9 (s1 m hm)
    | false =>
      obtain ⟨i2, k2, A2, l2, s1, s2, s3, s4, s5, s6, s7, s8, s9, s10, s11, s12, s13⟩ := sb rfl
      have s3' : k2 ≤ Q2 := s3
      have s4' : Q2 < c := s4
      have s7' : n1 ≤ n2 := s7
      have e2 : pj (ks_expect f c 125 (z0 (Q2, false))) = (Q2 + 1, false) := ex_y s4 s5
      have hB3 : B2 = ((Q2 + 1, false), n2, t2) := hB2'.trans (by show (pj (ks_expect f c 125 (z0 (Q2, false))), n2, t2) = _; rw [e2])
      subst hB3
      have fr2 : FrA A1 A2 k d := ⟨s9, fun j x hj hx => (s10 j x hj (by omega)).trans (gA_x (by omega) (by omega)), s11⟩
      have h2 : Rf I A2 c f := Rf_f h1 fr2
      have fr3 : FrA A2 (gA A2 k2 k 0 11) k d := ⟨fun j hj => gA_j (Or.inr rfl) (by omega), fun j x _ hx => gA_x (by omega) (by omega), fun x _ => by rw [gA_j (Or.inr rfl) (by decide)]⟩
      have h3 : Rf I (gA A2 k2 k 0 11) c f := Rf_f h2 fr3
      have a34 : A2 3 k = 4 := by rw [s10 3 k (by decide) (by omega), gA_h (by omega) (by decide)]; exact h34
      have ve : x_readEnd (V I k2 Q2 false n2 (d + 1)) A2 = some (V I (k2 + 1) (Q2 + 1) false n2 d, gA A2 k2 k 0 11, 0) := v_end2 (o := k1 + 1) (h9 := k) (by omega) (by omega) s13 (by omega) s12.2.1 (by omega) s12.2.2.1 a34
      refine ⟨fun _ => ⟨1 + i2 + i, k2 + 1, gA A2 k2 k 0 11, fun m hm => ?_, by omega, Nat.succ_le_succ s3', s4', s6, Nat.lt_of_lt_of_le r7' s7', cho_IR r2 s2 r8 r10 r12 h34 s8 s10 s12, FrA_t r9 (FrA_t fr2 fr3 (Nat.le_refl _) (Nat.le_refl _)) (Nat.le_refl _) (Nat.le_refl _), ⟨Nat.succ_pos _, Or.inr s5⟩⟩, fun z => Bool.noConfusion z⟩
      rw [← Nat.add_assoc, r1 (m + (1 + i2)) (by omega), ← Nat.add_assoc, s1 (m + 1) (by omega)]
      exact it_end h2 h3 s4' (show Q2 + 1 ≤ c from s4') (by omega) (by omega) s5 ve
end CH
