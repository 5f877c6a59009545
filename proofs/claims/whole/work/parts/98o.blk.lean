section BK
variable {I : Nat → Int32} {R : pw → Nat → pw × Nat × Fo} {f : Nat → Int32} {c d : Nat}
theorem IT_f2 {A B : Nat → Nat → Int32} {k P : Nat} (e : ∀ j, j ≠ 10 → j ≠ 11 → j ≠ 15 → B j k = A j k) (h : IT A f c k P) : IT B f c k P := by
  unfold IT at h ⊢
  rw [e 9 (by decide) (by decide) (by decide), e 4 (by decide) (by decide) (by decide), e 14 (by decide) (by decide) (by decide), e 5 (by decide) (by decide) (by decide), e 3 (by decide) (by decide) (by decide), e 6 (by decide) (by decide) (by decide), e 7 (by decide) (by decide) (by decide), e 8 (by decide) (by decide) (by decide)]
  exact h
def gA (A : Nat → Nat → Int32) (k h : Nat) (wh : Int32) (w : Nat) : Nat → Nat → Int32 := upA (eA A k h wh) w (upd (eA A k h wh w) h (Int32.ofNat k))
theorem gA_x {A : Nat → Nat → Int32} {k h w j x : Nat} {wh : Int32} (h1 : x ≠ k) (h2 : x ≠ h) : gA A k h wh w j x = A j x := by
  unfold gA
  by_cases q : j = w
  · subst q
    rw [upA_eq, upd_n h2, eA_x h1]
  · rw [upA_ne q, eA_x h1]
theorem gA_h {A : Nat → Nat → Int32} {k h w j : Nat} {wh : Int32} (h1 : h ≠ k) (hj : j ≠ w) : gA A k h wh w j h = A j h := by
  unfold gA
  rw [upA_ne hj, eA_x h1]
theorem gA_w {A : Nat → Nat → Int32} {k h w : Nat} {wh : Int32} : gA A k h wh w w h = Int32.ofNat k := by
  unfold gA
  rw [upA_eq, upd_s]
theorem gA_e {A : Nat → Nat → Int32} {k h w : Nat} {wh : Int32} (hw : w = 10 ∨ w = 11) : En (gA A k h wh w) k h wh := by
  have z := eA_e (A := A) (k := k) (h9 := h) (wh := wh)
  unfold gA
  unfold En at z ⊢
  rw [upA_ne (show 3 ≠ w by omega), upA_ne (show 12 ≠ w by omega), upA_ne (show 13 ≠ w by omega)]
  exact z
theorem gA_j {A : Nat → Nat → Int32} {k h w j : Nat} {wh : Int32} (hw : w = 10 ∨ w = 11) (hj : j < 3 ∨ 14 < j) : gA A k h wh w j = A j := by
  unfold gA
  rw [upA_ne (by omega), eA_j (by omega) (by omega) (by omega)]
theorem rnd_IR {A : Nat → Nat → Int32} {k k1 P : Nat} {t : Fo} (hk : k + 2 ≤ k1) (ht : IR A f c t (k + 2) k1) (hbg : Bg A (k + 1) k 1) (hit : IT A f c k P) (h3 : A 3 k = 5) : IR (gA A k1 k 1 10) f c (cn P (cn 0 t .nil) .nil) k (k1 + 1) := by
  show IR (gA A k1 k 1 10) f c (.append (.tag P (.append (.tag 0 t) .nil)) .nil) k (k1 + 1)
  unfold IR
  refine ⟨IT_f2 (fun j h10 _ _ => gA_h (by omega) h10) hit, ?_, Bg_fr (fun j _ => gA_x (by omega) (by omega)) hbg, k1, IR_fr _ _ _ ht (fun j x _ a1 a2 => gA_x (by omega) (by omega)), hk, Nat.le_refl _, gA_e (Or.inl rfl), gA_w, rfl⟩
  rw [gA_h (by omega) (by decide)]
  exact h3
theorem sim_round (hl : Ltr f c) (hR : SimR I R f c (d + 1)) (hW : ∀ (y : pw) (n : Nat), y.2 = true → R y n = (y, n, .nil)) {P n k : Nat} {A : Nat → Nat → Int32} {l : Int32} (h : Rf I A c f) (hk : k ≤ P) (hP : P < c) (hn : n < 40) (hd : d < 6) (hno : d = 0 ∨ ¬ f P = 125) (qp : rd_in (f P - 65) 6 = true) (q : P + 1 < c) (hb : f (P + 1) = 64) {B : pw × Nat × Fo} (hB : B = pBlk R f c (pj (dE f c (P, false))) (n + 1)) :
  (B.1.2 = false → ∃ i k' A', (∀ m, 4 ≤ m → x_isPlay_63 (m + i) (V I k P false n d) A l = x_isPlay_63 m (V I k' B.1.1 false B.2.1 d) A' (wfl f c B.1.1 false d)) ∧ k ≤ k' ∧ k' ≤ B.1.1 ∧ B.1.1 ≤ c ∧ B.2.1 ≤ 40 ∧ n < B.2.1 ∧ IR A' f c (cn P (cn 0 B.2.2 .nil) .nil) k k' ∧ FrA A A' k d ∧ Nd f B.1.1) ∧
  (B.1.2 = true → ∃ i, ∀ m, 4 ≤ m → Fl I A B.1.1 (x_isPlay_63 (m + i) (V I k P false n d) A l)) := by
  have hc := h.2.1
  obtain ⟨Y, hY⟩ : ∃ Y, pj (ks_expect f c 123 (z0 (pj (dE f c (P, false))))) = Y := ⟨_, rfl⟩
  obtain ⟨D, hD⟩ : ∃ D, R Y (n + 1) = D := ⟨_, rfl⟩
  rw [blk_f hY hD] at hB
  obtain ⟨ra, rb⟩ := br_row (l := l) hl hR hW hY hD h hk hP hn hd hno qp q (Or.inr hb)
  obtain ⟨⟨Q, w⟩, n1, t⟩ := D
  cases w with
  | true =>
    have e1 : pj (ks_expect f c 125 (z0 (Q, true))) = (Q, true) := exw (by decide) rfl
    have hB' : B = ((Q, true), n1, t) := hB.trans (by show (pj (ks_expect f c 125 (z0 (Q, true))), n1, t) = _; rw [e1])
    subst hB'
    exact ⟨fun z => Bool.noConfusion z, fun _ => ra rfl⟩
  | false =>
    obtain ⟨i, k1, A1, l1, r1, r2, r3, r4, r5, r6, r7, r8, r9, r10, r11, r12, r13⟩ := rb rfl
    have r4' : Q < c := r4
    have r3' : k1 ≤ Q := r3
    have e1 : pj (ks_expect f c 125 (z0 (Q, false))) = (Q + 1, false) := ex_y r4 r5
    have hB' : B = ((Q + 1, false), n1, t) := hB.trans (by show (pj (ks_expect f c 125 (z0 (Q, false))), n1, t) = _; rw [e1])
    subst hB'
    have h1 : Rf I A1 c f := Rf_f h r9
    have h35 : A1 3 k = 5 := by rw [r13, hb]; rfl
    have fr : FrA A1 (gA A1 k1 k 1 10) k d := ⟨fun j hj => gA_j (Or.inl rfl) (by omega), fun j x _ hx => gA_x (by omega) (by omega), fun x _ => by rw [gA_j (Or.inl rfl) (by decide)]⟩
    have h2 : Rf I (gA A1 k1 k 1 10) c f := Rf_f h1 fr
    have ve : x_readEnd (V I k1 Q false n1 (d + 1)) A1 = some (V I (k1 + 1) (Q + 1) false n1 d, gA A1 k1 k 1 10, 0) := v_endR (o := k + 1) (h9 := k) (wh := 1) (by omega) (by omega) r11 (by omega) r10.2.1 (by omega) r10.2.2.1 h35
    refine ⟨fun _ => ⟨1 + i, k1 + 1, gA A1 k1 k 1 10, fun m hm => ?_, by omega, Nat.succ_le_succ r3', r4', r6, r7, rnd_IR r2 r8 r10 r12 h35, FrA_t r9 fr (Nat.le_refl _) (Nat.le_refl _), ⟨Nat.succ_pos _, Or.inr r5⟩⟩, fun z => Bool.noConfusion z⟩
    rw [← Nat.add_assoc, r1 (m + 1) (by omega)]
    exact it_end h1 h2 r4' (show Q + 1 ≤ c from r4') (by omega) (by omega) r5 ve
end BK
