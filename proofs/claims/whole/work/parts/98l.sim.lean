def FrA (A B : Nat → Nat → Int32) (k d : Nat) : Prop := (∀ j, (j < 3 ∨ 15 < j) → B j = A j) ∧ (∀ j x, j ≠ 15 → x < k → B j x = A j x) ∧ (∀ x, x < d → B 15 x = A 15 x)
def Nd (f : Nat → Int32) (P : Nat) : Prop := 0 < P ∧ (f (P - 1) = 59 ∨ f (P - 1) = 125)
section IRR
variable {A B C : Nat → Nat → Int32} {f : Nat → Int32} {c k k' d d' : Nat}
theorem FrA_r : FrA A A k d := ⟨fun _ _ => rfl, fun _ _ _ _ => rfl, fun _ _ => rfl⟩
theorem FrA_t (h1 : FrA A B k d) (h2 : FrA B C k' d') (hk : k ≤ k') (hd : d ≤ d') : FrA A C k d := ⟨fun j hj => (h2.1 j hj).trans (h1.1 j hj), fun j x hj hx => (h2.2.1 j x hj (by omega)).trans (h1.2.1 j x hj hx), fun x hx => (h2.2.2 x (by omega)).trans (h1.2.2 x hx)⟩
theorem IR_le (t : Fo) (lo hi : Nat) (h : IR A f c t lo hi) : lo ≤ hi := by
  induction t, lo, hi using IR.induct with
  | case1 q r lo hi ih =>
    unfold IR at h
    have := ih h.2.2.2
    omega
  | case2 q n t1 r lo hi ih1 ih2 =>
    unfold IR at h
    obtain ⟨-, -, -, e1, -, h2, h3, -⟩ := h
    omega
  | case3 q n t1 m t2 r lo hi ih1 ih2 ih3 =>
    unfold IR at h
    obtain ⟨-, -, -, e1, e2, -, h2, -, -, -, -, h3, h4, -⟩ := h
    omega
  | case4 lo hi =>
    unfold IR at h
    omega
  | case5 t lo hi h1 h2 h3 h4 =>
    unfold IR at h
    split at h <;> first | exact (h1 _ _ rfl).elim | exact (h2 _ _ _ rfl).elim | exact (h2 _ _ _ _ rfl).elim | exact (h3 _ _ _ _ _ rfl).elim | exact (h3 _ _ _ _ _ _ rfl).elim | exact (h4 rfl).elim | exact h.elim
theorem IT_fr {P : Nat} (e : ∀ j, j ≠ 15 → B j k = A j k) (h : IT A f c k P) : IT B f c k P := by
  unfold IT at h ⊢
  rw [e 9 (by decide), e 4 (by decide), e 14 (by decide), e 5 (by decide), e 3 (by decide), e 6 (by decide), e 7 (by decide), e 8 (by decide)]
  exact h
theorem Bg_fr {h9 : Nat} {lab : Int32} (e : ∀ j, j ≠ 15 → B j k = A j k) (h : Bg A k h9 lab) : Bg B k h9 lab := by
  unfold Bg at h ⊢
  rw [e 3 (by decide), e 12 (by decide), e 13 (by decide), e 14 (by decide)]
  exact h
theorem En_fr {h9 : Nat} {lab : Int32} (e : ∀ j, j ≠ 15 → B j k = A j k) (h : En A k h9 lab) : En B k h9 lab := by
  unfold En at h ⊢
  rw [e 3 (by decide), e 12 (by decide), e 13 (by decide)]
  exact h
theorem IR_fr (t : Fo) (lo hi : Nat) (h : IR A f c t lo hi) (e : ∀ j x, j ≠ 15 → lo ≤ x → x < hi → B j x = A j x) : IR B f c t lo hi := by
  have hle := IR_le t lo hi h
  induction t, lo, hi using IR.induct with
  | case1 q r lo hi ih =>
    unfold IR at h ⊢
    obtain ⟨h1, h2, h3, h4⟩ := h
    have l1 := IR_le _ _ _ h4
    refine ⟨IT_fr (fun j hj => e j lo hj (Nat.le_refl _) (by omega)) h1, ?_, ?_, ih h4 (fun j x hj a1 a2 => e j x hj (by omega) a2) l1⟩
    · rw [e 3 lo (by decide) (Nat.le_refl _) (by omega)]; exact h2
    · rw [e 3 lo (by decide) (Nat.le_refl _) (by omega)]; exact h3
  | case2 q n t1 r lo hi ih1 ih2 =>
    unfold IR at h ⊢
    obtain ⟨h1, h2, h3, e1, h4, h5, h6, h7, h8, h9⟩ := h
    refine ⟨IT_fr (fun j hj => e j lo hj (Nat.le_refl _) (by omega)) h1, ?_, Bg_fr (fun j hj => e j (lo + 1) hj (by omega) (by omega)) h3, e1, ih1 e1 h4 (fun j x hj a1 a2 => e j x hj (by omega) (by omega)) h5, h5, h6, En_fr (fun j hj => e j e1 hj (by omega) (by omega)) h7, ?_, ih2 e1 h9 (fun j x hj a1 a2 => e j x hj (by omega) a2) h6⟩
    · rw [e 3 lo (by decide) (Nat.le_refl _) (by omega)]; exact h2
    · rw [e 10 lo (by decide) (Nat.le_refl _) (by omega)]; exact h8
  | case3 q n t1 m t2 r lo hi ih1 ih2 ih3 =>
    unfold IR at h ⊢
    obtain ⟨h1, h2, h3, e1, e2, h4, h5, h6, h7, h8, h9, h10, h11, h12, h13, h14⟩ := h
    refine ⟨IT_fr (fun j hj => e j lo hj (Nat.le_refl _) (by omega)) h1, ?_, Bg_fr (fun j hj => e j (lo + 1) hj (by omega) (by omega)) h3, e1, e2, ih1 e1 h4 (fun j x hj a1 a2 => e j x hj (by omega) (by omega)) h5, h5, En_fr (fun j hj => e j e1 hj (by omega) (by omega)) h6, ?_, Bg_fr (fun j hj => e j (e1 + 1) hj (by omega) (by omega)) h8, ih2 e1 e2 h9 (fun j x hj a1 a2 => e j x hj (by omega) (by omega)) h10, h10, h11, En_fr (fun j hj => e j e2 hj (by omega) (by omega)) h12, ?_, ih3 e2 h14 (fun j x hj a1 a2 => e j x hj (by omega) a2) h11⟩
    · rw [e 3 lo (by decide) (Nat.le_refl _) (by omega)]; exact h2
    · rw [e 10 lo (by decide) (Nat.le_refl _) (by omega)]; exact h7
    · rw [e 11 lo (by decide) (Nat.le_refl _) (by omega)]; exact h13
  | case4 lo hi => unfold IR at h ⊢; exact h
  | case5 t lo hi h1 h2 h3 h4 =>
    unfold IR at h
    split at h <;> first | exact (h1 _ _ rfl).elim | exact (h2 _ _ _ rfl).elim | exact (h2 _ _ _ _ rfl).elim | exact (h3 _ _ _ _ _ rfl).elim | exact (h3 _ _ _ _ _ _ rfl).elim | exact (h4 rfl).elim | exact h.elim
theorem IR_cons {q : Nat} {kd r : Fo} {lo mi hi : Nat} (h : IR A f c (cn q kd .nil) lo mi) (hr : IR A f c r mi hi) : IR A f c (cn q kd r) lo hi := by
  have hle := IR_le _ _ _ hr
  have h' : IR A f c (.append (.tag q kd) .nil) lo mi := h
  show IR A f c (.append (.tag q kd) r) lo hi
  unfold IR at h'
  split at h'
  · rename_i heq
    cases heq
    obtain ⟨h1, h2, h3, h4⟩ := h'
    unfold IR at h4
    subst h4
    unfold IR
    exact ⟨h1, h2, h3, hr⟩
  · rename_i heq
    cases heq
    obtain ⟨h1, h2, h3, e1, h4, h5, h6, h7, h8, h9⟩ := h'
    unfold IR at h9
    subst h9
    unfold IR
    exact ⟨h1, h2, h3, e1, h4, h5, hle, h7, h8, hr⟩
  · rename_i heq
    cases heq
    obtain ⟨h1, h2, h3, e1, e2, h4, h5, h6, h7, h8, h9, h10, h11, h12, h13, h14⟩ := h'
    unfold IR at h14
    subst h14
    unfold IR
    exact ⟨h1, h2, h3, e1, e2, h4, h5, h6, h7, h8, h9, h10, hle, h12, h13, hr⟩
  · rename_i heq
    cases heq
  · exact h'.elim
end IRR
def SimS (I : Nat → Int32) (R : pw → Nat → pw × Nat × Fo) (f : Nat → Int32) (c d : Nat) : Prop := ∀ (P n k : Nat) (A : Nat → Nat → Int32) (l : Int32), Rf I A c f → k ≤ P → P < c → n ≤ 40 → (d = 0 ∨ ¬ f P = 125) →
  ((pStm R f c d (P, false) n).1.2 = false → ∃ i k' A', (∀ m, 4 ≤ m → x_isPlay_63 (m + i) (V I k P false n d) A l = x_isPlay_63 m (V I k' (pStm R f c d (P, false) n).1.1 false (pStm R f c d (P, false) n).2.1 d) A' (wfl f c (pStm R f c d (P, false) n).1.1 false d)) ∧ k ≤ k' ∧ k' ≤ (pStm R f c d (P, false) n).1.1 ∧ (pStm R f c d (P, false) n).1.1 ≤ c ∧ (pStm R f c d (P, false) n).2.1 ≤ 40 ∧ n < (pStm R f c d (P, false) n).2.1 ∧ IR A' f c (cn P (pStm R f c d (P, false) n).2.2 .nil) k k' ∧ FrA A A' k d ∧ Nd f (pStm R f c d (P, false) n).1.1) ∧
  ((pStm R f c d (P, false) n).1.2 = true → ∃ i, ∀ m, 4 ≤ m → Fl I A (pStm R f c d (P, false) n).1.1 (x_isPlay_63 (m + i) (V I k P false n d) A l))
def SimR (I : Nat → Int32) (R : pw → Nat → pw × Nat × Fo) (f : Nat → Int32) (c d : Nat) : Prop := ∀ (P n k : Nat) (A : Nat → Nat → Int32) (l : Int32), Rf I A c f → k ≤ P → P ≤ c → n ≤ 40 → (d ≠ 0 → l = 0) →
  ((R (P, false) n).1.2 = false → ∃ i k' A' l', (∀ m, 4 ≤ m → x_isPlay_63 (m + i) (V I k P false n d) A l = x_isPlay_63 m (V I k' (R (P, false) n).1.1 false (R (P, false) n).2.1 d) A' l') ∧ k ≤ k' ∧ k' ≤ (R (P, false) n).1.1 ∧ (R (P, false) n).1.1 ≤ c ∧ (R (P, false) n).2.1 ≤ 40 ∧ n ≤ (R (P, false) n).2.1 ∧ IR A' f c (R (P, false) n).2.2 k k' ∧ FrA A A' k d ∧ ks_ends f c d ((R (P, false) n).1.1, false, 0, 0) = true ∧ ((R (P, false) n).2.2 = .nil → l' = l ∧ (R (P, false) n).1.1 = P) ∧ ((R (P, false) n).2.2 ≠ .nil → l' = wfl f c (R (P, false) n).1.1 false d ∧ Nd f (R (P, false) n).1.1)) ∧
  ((R (P, false) n).1.2 = true → ∃ i, ∀ m, 4 ≤ m → Fl I A (R (P, false) n).1.1 (x_isPlay_63 (m + i) (V I k P false n d) A l))
section SL
variable {I : Nat → Int32} {R : pw → Nat → pw × Nat × Fo} {f : Nat → Int32} {c d : Nat}
theorem Rf_f {A B : Nat → Nat → Int32} {k d : Nat} (h : Rf I A c f) (g : FrA A B k d) : Rf I B c f := ⟨h.1, h.2.1, by rw [g.1 2 (Or.inl (by decide))]; exact h.2.2⟩
theorem Fl_f {A B : Nat → Nat → Int32} {k d Q : Nat} {x : Option xR} (g : FrA A B k d) (h : Fl I B Q x) : Fl I A Q x := by
  obtain ⟨k1, P, b, n, e, A', h1, h2⟩ := h
  exact ⟨k1, P, b, n, e, A', h1, fun j hj => (h2 j hj).trans (g.1 j hj)⟩
theorem ends_n {P : Nat} (hP : P ≤ c) (h : ks_ends f c d (P, false, 0, 0) = false) : P < c ∨ ¬ d = 0 := by
  by_cases q : d = 0
  · left
    unfold ks_ends at h
    rw [if_pos q] at h
    have := of_decide_eq_false h
    have : ¬ P = c := this
    omega
  · exact Or.inr q
theorem stm_end (hl : Ltr f c) {n : Nat} : (pStm R f c d (c, false) n).1 = (c, true) := by
  have s1 : dS1 f c (c, false) = (c, true, 0, 0) := by
    unfold dS1 ks_one
    rw [show z0 (c, false) = (c, false, 0, 0) from rfl, ka_la, show rd_la f c c = 0 by unfold rd_la; rw [if_neg (Nat.lt_irrefl _)], if_neg (by decide)]
    rfl
  have s2 : dC f c (c, false) = 0 := by
    unfold dC
    rw [s1, ka_w]
  unfold pStm
  by_cases q0 : n = 40
  · rw [if_pos q0]
  · rw [if_neg q0, if_neg (by rw [s2]; decide), if_neg (by rw [s2]; decide), if_neg (by rw [s2]; decide), if_neg (fun z => by rw [s2] at z; exact absurd z.1 (by decide)), s1]
    exact r31_w hl (Nat.le_refl _)
theorem loop_w {j : Nat} {x : pw} {n : Nat} (h : x.2 = true) : pLoop R f c d j x n = (x, n, .nil) := by
  cases j with
  | zero => rfl
  | succ j =>
    unfold pLoop
    rw [if_pos h]
theorem sim_loop (hl : Ltr f c) (hd : d ≤ 7) (hS : SimS I R f c d) : ∀ (j P n k : Nat) (A : Nat → Nat → Int32) (l : Int32), 41 ≤ j + n → Rf I A c f → k ≤ P → P ≤ c → n ≤ 40 → (d ≠ 0 → l = 0) →
  ((pLoop R f c d j (P, false) n).1.2 = false → ∃ i k' A' l', (∀ m, 4 ≤ m → x_isPlay_63 (m + i) (V I k P false n d) A l = x_isPlay_63 m (V I k' (pLoop R f c d j (P, false) n).1.1 false (pLoop R f c d j (P, false) n).2.1 d) A' l') ∧ k ≤ k' ∧ k' ≤ (pLoop R f c d j (P, false) n).1.1 ∧ (pLoop R f c d j (P, false) n).1.1 ≤ c ∧ (pLoop R f c d j (P, false) n).2.1 ≤ 40 ∧ n ≤ (pLoop R f c d j (P, false) n).2.1 ∧ IR A' f c (pLoop R f c d j (P, false) n).2.2 k k' ∧ FrA A A' k d ∧ ks_ends f c d ((pLoop R f c d j (P, false) n).1.1, false, 0, 0) = true ∧ ((pLoop R f c d j (P, false) n).2.2 = .nil → l' = l ∧ (pLoop R f c d j (P, false) n).1.1 = P) ∧ ((pLoop R f c d j (P, false) n).2.2 ≠ .nil → l' = wfl f c (pLoop R f c d j (P, false) n).1.1 false d ∧ Nd f (pLoop R f c d j (P, false) n).1.1)) ∧
  ((pLoop R f c d j (P, false) n).1.2 = true → ∃ i, ∀ m, 4 ≤ m → Fl I A (pLoop R f c d j (P, false) n).1.1 (x_isPlay_63 (m + i) (V I k P false n d) A l))
  | 0, P, n, k, A, l, hj, h, hk, hP, hn, hl0 => by omega
  | j + 1, P, n, k, A, l, hj, h, hk, hP, hn, hl0 => by
    unfold pLoop
    rw [if_neg (show ¬ ((P, false) : pw).2 = true from fun z => Bool.noConfusion z)]
    cases he : ks_ends f c d (z0 (P, false)) with
    | true =>
      rw [ift]
      refine ⟨fun _ => ⟨0, k, A, l, fun m _ => rfl, Nat.le_refl _, hk, hP, hn, Nat.le_refl _, rfl, FrA_r, he, fun _ => ⟨rfl, rfl⟩, fun z => absurd rfl z⟩, fun z => Bool.noConfusion z⟩
    | false =>
      rw [iff']
      by_cases hlt : P < c
      · have hno : d = 0 ∨ ¬ f P = 125 := by
          by_cases q : d = 0
          · exact Or.inl q
          · right
            intro z
            unfold ks_ends at he
            rw [if_neg q, show ka f c (z0 (P, false)) 0 = f P from ka_1 hlt, decide_eq_true z] at he
            cases he
        obtain ⟨sa, sb⟩ := hS P n k A l h hk hlt hn hno
        generalize pStm R f c d (P, false) n = B at sa sb ⊢
        obtain ⟨⟨Q, w⟩, n1, kd⟩ := B
        cases w with
        | true =>
          rw [show pLoop R f c d j (Q, true) n1 = ((Q, true), n1, .nil) from loop_w rfl]
          refine ⟨fun z => Bool.noConfusion z, fun _ => sb rfl⟩
        | false =>
          obtain ⟨i1, k1, A1, s1, s2, s3, s4, s5, s6, s7, s8, s9⟩ := sa rfl
          have hw0 : d ≠ 0 → wfl f c Q false d = 0 := fun z => wfl_0 (fun y => z y.2.2.1)
          have s5' : n1 ≤ 40 := s5
          have s6' : n < n1 := s6
          obtain ⟨ra, rb⟩ := sim_loop hl hd hS j Q n1 k1 A1 (wfl f c Q false d) (by omega) (Rf_f h s8) s3 s4 s5 hw0
          generalize pLoop R f c d j (Q, false) n1 = D at ra rb ⊢
          obtain ⟨⟨Q2, w2⟩, n2, t2⟩ := D
          cases w2 with
          | true =>
            refine ⟨fun z => Bool.noConfusion z, fun _ => ?_⟩
            obtain ⟨i2, r1⟩ := rb rfl
            refine ⟨i2 + i1, fun m hm => ?_⟩
            rw [← Nat.add_assoc, s1 (m + i2) (by omega)]
            exact Fl_f s8 (r1 m hm)
          | false =>
            refine ⟨fun _ => ?_, fun z => Bool.noConfusion z⟩
            obtain ⟨i2, k2, A2, l2, r1, r2, r3, r4, r5, r6, r7, r8, r9, r10, r11⟩ := ra rfl
            refine ⟨i2 + i1, k2, A2, l2, fun m hm => ?_, Nat.le_trans s2 r2, r3, r4, r5, ?_, ?_, FrA_t s8 r8 s2 (Nat.le_refl _), r9, fun z => ?_, fun _ => ?_⟩
            · rw [← Nat.add_assoc, s1 (m + i2) (by omega)]
              exact r1 m hm
            · have r6' : n1 ≤ n2 := r6
              show n ≤ n2
              omega
            · exact IR_cons (IR_fr _ _ _ s7 (fun jj x hjj _ hx => r8.2.1 jj x hjj hx)) r7
            · cases z
            · by_cases q : t2 = .nil
              · obtain ⟨y1, y2⟩ := r10 q
                have y2' : Q2 = Q := y2
                show l2 = wfl f c Q2 false d ∧ Nd f Q2
                rw [y2', y1]
                exact ⟨rfl, s9⟩
              · exact r11 q
      · have hPc : P = c := by omega
        subst hPc
        have hd0 : d ≠ 0 := fun z => (ends_n hP he).elim hlt (fun y => y z)
        have e1 := stm_end (R := R) (d := d) (n := n) hl
        generalize pStm R f P d (P, false) n = B at e1 ⊢
        obtain ⟨x1, n1, kd⟩ := B
        have e1' : x1 = (P, true) := e1
        subst e1'
        rw [show pLoop R f P d j (P, true) n1 = ((P, true), n1, .nil) from loop_w rfl]
        refine ⟨fun z => Bool.noConfusion z, fun _ => ⟨1, fun m hm => ?_⟩⟩
        have hwl : l = wfl f P P false d := by rw [hl0 hd0, wfl_0 (fun y => hd0 y.2.2.1)]
        rw [hwl]
        exact it_failE h (by omega)
end SL
