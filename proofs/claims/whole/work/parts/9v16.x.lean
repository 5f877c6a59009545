def L4P (D : Nat → Nat) (pi : Bool) (cnt : Nat) (t : Fo) : Prop := ∀ (lo hi : Nat) (I : Nat → Int32) (A : Nat → Nat → Int32) (items m put : Nat), IC0 A D t lo hi → hi ≤ items → items ≤ 200 → I 5 = Int32.ofNat items → I 0 = 0 → I 8 = Int32.ofNat cnt → cnt ≤ 40 → put ≤ 80 → bas D t ≤ 400 → dpt t < 18 → 5100 ≤ m → (∀ p, ck D pi cnt t put = .inl p → ∃ I' A', x_load_41 (m + (hi - lo)) I A (ty_b pi) (Int32.ofNat put) (Int32.ofNat lo) = x_load_41 m I' A' (ty_b pi) (Int32.ofNat p) (Int32.ofNat hi) ∧ IC A' D t lo hi ∧ Fr4 I A I' A' lo hi) ∧ (∀ P w, ck D pi cnt t put = .inr (P, w) → ∃ I' A', x_load_41 (m + (hi - lo)) I A (ty_b pi) (Int32.ofNat put) (Int32.ofNat lo) = some (I', A', 0) ∧ FlL I A I' A' P w)
section L5
variable {D : Nat → Nat} {pi : Bool} {cnt : Nat}
theorem ckb_r {x : ckR} {f : Nat → ckR} {e : Nat × Nat} (h : ckb x f = .inr e) : x = .inr e ∨ ∃ q, x = .inl q ∧ f q = .inr e := by
  cases x with
  | inl q => exact Or.inr ⟨q, rfl, h⟩
  | inr e' => exact Or.inl h
theorem ItC_3 {A : Nat → Nat → Int32} {s k : Nat} (h : ItC A s k) : ¬ A 3 k = 7 := by
  rcases h.2 with h | h | h | h | h <;> rw [h.2.1] <;> decide
theorem Bg_3 {A : Nat → Nat → Int32} {k h : Nat} {l : Int32} (b : Bg A k h l) : ¬ A 3 k = 7 := by
  rw [b.1]
  decide
theorem ckle80 {t : Fo} (pt : PW D t) {put p : Nat} (h : ck D pi cnt t put = .inl p) (hp : put ≤ 80) : p ≤ 80 := by
  have := (ck_wt t pt put p h).2.2
  omega
theorem l4_sm {q : Nat} {r : Fo} (hs : PWs (D q)) (pr : PW D r) (ih : L4P D pi cnt r) : L4P D pi cnt (cn q .nil r) := by
  intro lo hi I A items m put hc hhi hit h5 h0 h8 hcnt hput hb hd hm
  have hle := IC0_le r pr _ _ hc.2
  have e2 : bas D (cn q .nil r) = (if cK (D q) = 1 then (xt (cE (D q))).length + 4 else if cK (D q) = 2 then (xt (cE (D q))).length + 5 else 6) + bas D r := rfl
  have hdp : dpt (cn q .nil r) = dpt r := rfl
  obtain ⟨g1, g2⟩ := ih (lo + 1) hi I A items m put hc.2 hhi hit h5 h0 h8 hcnt hput (by omega) (by omega) hm
  have st := l41_s (m := m + (hi - (lo + 1))) (l1 := ty_b pi) (l3 := Int32.ofNat put) h5 hit (show lo < items by omega) (ItC_3 hc.1)
  rw [show m + (hi - (lo + 1)) + 1 = m + (hi - lo) by omega] at st
  rw [st]
  refine ⟨fun p hp => ?_, fun P w hp => g2 P w hp⟩
  obtain ⟨I', A', a, b, f⟩ := g1 p hp
  exact ⟨I', A', a, ⟨ItC_4 hc.1 (fun j h1 h2 => f.2.1 j (by omega) (by omega) h2), b⟩, ⟨f.1, f.2.1, fun k hk => f.2.2 k (by omega)⟩⟩
theorem l4_rd {q i : Nat} {t1 r : Fo} (hk7 : cK (D q) = 7) (hs : PWb (D q)) (p1 : PW D t1) (pr : PW D r) (ih1 : L4P D pi cnt t1) (ih2 : L4P D pi cnt r) : L4P D pi cnt (cn q (cn i t1 .nil) r) := by
  intro lo hi I A items m put hc hhi hit h5 h0 h8 hcnt hput hb hd hm
  obtain ⟨it, bg, e1, c1, l1, l2, en, h10, c2⟩ := hc
  have hle := IC0_le r pr _ _ c2
  have e2 : bas D (cn q (cn i t1 .nil) r) = (xt (cE (D q))).length + 8 + bas D t1 + bas D r := rfl
  have hdp : dpt (cn q (cn i t1 .nil) r) = max (2 + dpt t1) (dpt r) := rfl
  have k5 : ¬ A 3 lo = 4 := by
    rcases it.2 with g | g | g | g | g <;> first | omega | (rw [g.2.1]; decide)
  have st1 := l41_s (m := m + (hi - (lo + 1))) (l1 := ty_b pi) (l3 := Int32.ofNat put) h5 hit (show lo < items by omega) (ItC_3 it)
  rw [show m + (hi - (lo + 1)) + 1 = m + (hi - lo) by omega] at st1
  have st2 := l41_s (m := m + (hi - (lo + 2))) (l1 := ty_b pi) (l3 := Int32.ofNat put) h5 hit (show lo + 1 < items by omega) (Bg_3 bg)
  rw [show m + (hi - (lo + 2)) + 1 = m + (hi - (lo + 1)) by omega] at st2
  obtain ⟨g1, g2⟩ := ih1 (lo + 2) e1 I A items (m + (hi - e1)) put c1 (by omega) hit h5 h0 h8 hcnt hput (by omega) (by omega) (by omega)
  rw [show m + (hi - e1) + (e1 - (lo + 2)) = m + (hi - (lo + 2)) by omega] at g1 g2
  rw [st1, st2]
  have after : ∀ p1', ck D pi cnt t1 put = .inl p1' → ∃ I2 A2, x_load_41 (m + (hi - (lo + 2))) I A (ty_b pi) (Int32.ofNat put) (Int32.ofNat (lo + 2)) = x_load_41 (m + (hi - (e1 + 1))) I2 A2 (ty_b pi) (Int32.ofNat p1') (Int32.ofNat (e1 + 1)) ∧ IC A2 D t1 (lo + 2) e1 ∧ Fr4 I A I2 A2 (lo + 2) e1 := by
    intro p1' hp1
    obtain ⟨I2, A2, a, b, f⟩ := g1 p1' hp1
    have eA : ∀ j, j < 28 → j ≠ 14 → A2 j = A j := fun j h1 h2 => f.2.1 j (by omega) (by omega) h2
    refine ⟨I2, A2, ?_, b, f⟩
    have en2 := En_4 en eA
    have st3 := l41_e (I := I2) (A := A2) (m := m + (hi - (e1 + 1))) (l1 := ty_b pi) (l3 := Int32.ofNat p1') ((f.1 5 (by omega)).trans h5) hit (show e1 < items by omega) (show lo < 200 by omega) en2.1 en2.2.1 (Or.inr en2.2.2)
    rw [show m + (hi - (e1 + 1)) + 1 = m + (hi - e1) by omega] at st3
    rw [a, st3]
  refine ⟨fun p hp => ?_, fun P w hp => ?_⟩
  · obtain ⟨p1', hp1, hp2⟩ := ckb_l hp
    obtain ⟨I2, A2, a, b, f⟩ := after p1' hp1
    have eA : ∀ j, j < 28 → j ≠ 14 → A2 j = A j := fun j h1 h2 => f.2.1 j (by omega) (by omega) h2
    obtain ⟨I3, A3, a3, b3, f3⟩ := (ih2 (e1 + 1) hi I2 A2 items m p1' (IC0_4 eA r pr _ _ c2 (fun k h1 h2 => f.2.2 k (by omega))) hhi hit ((f.1 5 (by omega)).trans h5) ((f.1 0 (by omega)).trans h0) ((f.1 8 (by omega)).trans h8) hcnt (ckle80 p1 hp1 hput) (by omega) (by omega) hm).1 p hp2
    have eA3 : ∀ j, j < 28 → j ≠ 14 → A3 j = A2 j := fun j h1 h2 => f3.2.1 j (by omega) (by omega) h2
    have eA4 : ∀ j, j < 28 → j ≠ 14 → A3 j = A j := fun j h1 h2 => (eA3 j h1 h2).trans (eA j h1 h2)
    refine ⟨I3, A3, a.trans a3, ⟨ItC_4 it eA4, Bg_4 bg eA4 ((f3.2.2 _ (by omega)).trans (f.2.2 _ (by omega))), e1, IC_4 eA3 t1 p1 _ _ b (fun k h1 h2 => f3.2.2 k (by omega)), l1, l2, En_4 en eA4, by rw [eA4 10 (by decide) (by decide)]; exact h10, b3⟩, Fr4_t f f3 (by omega) (by omega) (by omega) (by omega)⟩
  · rcases ckb_r hp with hp1 | ⟨p1', hp1, hp2⟩
    · exact g2 P w hp1
    · obtain ⟨I2, A2, a, b, f⟩ := after p1' hp1
      have eA : ∀ j, j < 28 → j ≠ 14 → A2 j = A j := fun j h1 h2 => f.2.1 j (by omega) (by omega) h2
      obtain ⟨I3, A3, a3, f3⟩ := (ih2 (e1 + 1) hi I2 A2 items m p1' (IC0_4 eA r pr _ _ c2 (fun k h1 h2 => f.2.2 k (by omega))) hhi hit ((f.1 5 (by omega)).trans h5) ((f.1 0 (by omega)).trans h0) ((f.1 8 (by omega)).trans h8) hcnt (ckle80 p1 hp1 hput) (by omega) (by omega) hm).2 P w hp2
      exact ⟨I3, A3, a.trans a3, FlL_4 f f3⟩
theorem l4_ch {q i j : Nat} {t1 t2 r : Fo} (hk6 : cK (D q) = 6) (hs : PWb (D q)) (p1 : PW D t1) (p2 : PW D t2) (pr : PW D r) (ih1 : L4P D pi cnt t1) (ih2 : L4P D pi cnt t2) (ih3 : L4P D pi cnt r) : L4P D pi cnt (cn q (cn i t1 (cn j t2 .nil)) r) := by
  intro lo hi I A items m put hc hhi hit h5 h0 h8 hcnt hput hb hd hm
  obtain ⟨⟨it, h9⟩, h14, bg, e1, e2, c1, l1, en, h10, bg2, c2, l2, l3, en2, h11, c3⟩ := hc
  have hle := IC0_le r pr _ _ c3
  have hbs : bas D (cn q (cn i t1 (cn j t2 .nil)) r) = (xt (cE (D q))).length + 6 + bas D t1 + bas D t2 + bas D r := rfl
  have hdp : dpt (cn q (cn i t1 (cn j t2 .nil)) r) = max (2 + max (dpt t1) (dpt t2)) (dpt r) := rfl
  have st1 := l41_s (m := m + (hi - (lo + 1))) (l1 := ty_b pi) (l3 := Int32.ofNat put) h5 hit (show lo < items by omega) (ItC_3 it)
  rw [show m + (hi - (lo + 1)) + 1 = m + (hi - lo) by omega] at st1
  have st2 := l41_s (m := m + (hi - (lo + 2))) (l1 := ty_b pi) (l3 := Int32.ofNat put) h5 hit (show lo + 1 < items by omega) (Bg_3 bg)
  rw [show m + (hi - (lo + 2)) + 1 = m + (hi - (lo + 1)) by omega] at st2
  obtain ⟨g1, g2⟩ := ih1 (lo + 2) e1 I A items (m + (hi - e1)) put c1 (by omega) hit h5 h0 h8 hcnt hput (by omega) (by omega) (by omega)
  rw [show m + (hi - e1) + (e1 - (lo + 2)) = m + (hi - (lo + 2)) by omega] at g1 g2
  rw [st1, st2]
  have after1 : ∀ p1', ck D pi cnt t1 put = .inl p1' → ∃ I2 A2, x_load_41 (m + (hi - (lo + 2))) I A (ty_b pi) (Int32.ofNat put) (Int32.ofNat (lo + 2)) = x_load_41 (m + (hi - (e1 + 2))) I2 A2 (ty_b pi) (Int32.ofNat p1') (Int32.ofNat (e1 + 2)) ∧ IC A2 D t1 (lo + 2) e1 ∧ Fr4 I A I2 A2 (lo + 2) e1 := by
    intro p1' hp1
    obtain ⟨I2, A2, a, b, f⟩ := g1 p1' hp1
    have eA : ∀ j, j < 28 → j ≠ 14 → A2 j = A j := fun j h1 h2 => f.2.1 j (by omega) (by omega) h2
    refine ⟨I2, A2, ?_, b, f⟩
    have en' := En_4 en eA
    have st3 := l41_e (I := I2) (A := A2) (m := m + (hi - (e1 + 1))) (l1 := ty_b pi) (l3 := Int32.ofNat p1') ((f.1 5 (by omega)).trans h5) hit (show e1 < items by omega) (show lo < 200 by omega) en'.1 en'.2.1 (Or.inr en'.2.2)
    rw [show m + (hi - (e1 + 1)) + 1 = m + (hi - e1) by omega] at st3
    have st4 := l41_s (I := I2) (A := A2) (m := m + (hi - (e1 + 2))) (l1 := ty_b pi) (l3 := Int32.ofNat p1') ((f.1 5 (by omega)).trans h5) hit (show e1 + 1 < items by omega) (Bg_3 (Bg_4 bg2 eA (f.2.2 _ (by omega))))
    rw [show m + (hi - (e1 + 2)) + 1 = m + (hi - (e1 + 1)) by omega] at st4
    rw [a, st3, st4]
  have go2 : ∀ p1' I2 A2, ck D pi cnt t1 put = .inl p1' → IC A2 D t1 (lo + 2) e1 → Fr4 I A I2 A2 (lo + 2) e1 → (∀ p, ck D pi cnt t2 p1' = .inl p → ∃ I' A', x_load_41 (m + (hi - (e1 + 2))) I2 A2 (ty_b pi) (Int32.ofNat p1') (Int32.ofNat (e1 + 2)) = x_load_41 (m + (hi - e2)) I' A' (ty_b pi) (Int32.ofNat p) (Int32.ofNat e2) ∧ IC A' D t1 (lo + 2) e1 ∧ IC A' D t2 (e1 + 2) e2 ∧ Fr4 I A I' A' (lo + 2) e2 ∧ A' 14 (e1 + 1) = A 14 (e1 + 1)) ∧ (∀ P w, ck D pi cnt t2 p1' = .inr (P, w) → ∃ I' A', x_load_41 (m + (hi - (e1 + 2))) I2 A2 (ty_b pi) (Int32.ofNat p1') (Int32.ofNat (e1 + 2)) = some (I', A', 0) ∧ FlL I A I' A' P w) := by
    intro p1' I2 A2 hp1 b f
    have eA : ∀ j, j < 28 → j ≠ 14 → A2 j = A j := fun j h1 h2 => f.2.1 j (by omega) (by omega) h2
    obtain ⟨k1, k2⟩ := ih2 (e1 + 2) e2 I2 A2 items (m + (hi - e2)) p1' (IC0_4 eA t2 p2 _ _ c2 (fun k h1 h2 => f.2.2 k (by omega))) (by omega) hit ((f.1 5 (by omega)).trans h5) ((f.1 0 (by omega)).trans h0) ((f.1 8 (by omega)).trans h8) hcnt (ckle80 p1 hp1 hput) (by omega) (by omega) (by omega)
    rw [show m + (hi - e2) + (e2 - (e1 + 2)) = m + (hi - (e1 + 2)) by omega] at k1 k2
    refine ⟨fun p hp => ?_, fun P w hp => ?_⟩
    · obtain ⟨I3, A3, a3, b3, f3⟩ := k1 p hp
      refine ⟨I3, A3, a3, IC_4 (fun j h1 h2 => f3.2.1 j (by omega) (by omega) h2) t1 p1 _ _ b (fun k h1 h2 => f3.2.2 k (by omega)), b3, Fr4_t f f3 (by omega) (by omega) (by omega) (by omega), (f3.2.2 _ (by omega)).trans (f.2.2 _ (by omega))⟩
    · obtain ⟨I3, A3, a3, f3⟩ := k2 P w hp
      exact ⟨I3, A3, a3, FlL_4 f f3⟩
  have go3 : ∀ p1' p2' I2 A2, ck D pi cnt t1 put = .inl p1' → ck D pi cnt t2 p1' = .inl p2' → IC A2 D t1 (lo + 2) e1 → IC A2 D t2 (e1 + 2) e2 → Fr4 I A I2 A2 (lo + 2) e2 → (∀ p, ckc pi cnt (unw (cD (D q)) (cut D t1) (cut D t2)) q p2' = .inl p → ∃ I' A', x_load_41 (m + (hi - e2)) I2 A2 (ty_b pi) (Int32.ofNat p2') (Int32.ofNat e2) = x_load_41 (m + (hi - (e2 + 1))) I' A' (ty_b pi) (Int32.ofNat p) (Int32.ofNat (e2 + 1)) ∧ A' 14 lo = Int32.ofNat (unw (cD (D q)) (cut D t1) (cut D t2)) ∧ Fr4 I2 A2 I' A' lo (lo + 1)) ∧ (∀ P w, ckc pi cnt (unw (cD (D q)) (cut D t1) (cut D t2)) q p2' = .inr (P, w) → ∃ I' A', x_load_41 (m + (hi - e2)) I2 A2 (ty_b pi) (Int32.ofNat p2') (Int32.ofNat e2) = some (I', A', 0) ∧ FlL I A I' A' P w) := by
    intro p1' p2' I2 A2 hp1 hp2 b1 b2 f
    have eA : ∀ j, j < 28 → j ≠ 14 → A2 j = A j := fun j h1 h2 => f.2.1 j (by omega) (by omega) h2
    have w1 := ck_wt t1 p1 _ _ hp1
    have w2 := ck_wt t2 p2 _ _ hp2
    have u1 := ckle80 p1 hp1 hput
    have u2 := ckle80 p2 hp2 u1
    obtain ⟨k1, k2⟩ := l41_c (I := I2) (A := A2) (m := m + (hi - (e2 + 1))) (pi := pi) (put := p2') hs hk6 p1 p2 ((f.1 5 (by omega)).trans h5) hit ((f.1 0 (by omega)).trans h0) ((f.1 8 (by omega)).trans h8) hcnt u2 (ItC_4 it eA) (by rw [eA 9 (by decide) (by decide)]; exact h9) (by rw [eA 10 (by decide) (by decide)]; exact h10) (by rw [eA 11 (by decide) (by decide)]; exact h11) b1 b2 (En_4 en2 eA) (by omega) (by omega) (by omega) (by omega) (by omega) (by omega) (by omega) (by rw [f.2.2 lo (by omega)]; exact h14)
    rw [show m + (hi - (e2 + 1)) + 1 = m + (hi - e2) by omega] at k1 k2
    refine ⟨k1, fun P w hp => ?_⟩
    obtain ⟨I3, A3, a3, f3⟩ := k2 P w hp
    exact ⟨I3, A3, a3, FlL_4 f f3⟩
  refine ⟨fun p hp => ?_, fun P w hp => ?_⟩
  · obtain ⟨p1', hp1, hp⟩ := ckb_l hp
    obtain ⟨p2', hp2, hp⟩ := ckb_l hp
    obtain ⟨p3', hp3, hp4⟩ := ckb_l hp
    obtain ⟨I1, A1, a1, b1, f1⟩ := after1 p1' hp1
    obtain ⟨I2, A2, a2, b2, b2', f2, g2'⟩ := (go2 p1' I1 A1 hp1 b1 f1).1 p2' hp2
    obtain ⟨I3, A3, a3, b3, f3⟩ := (go3 p1' p2' I2 A2 hp1 hp2 b2 b2' f2).1 p3' hp3
    have eA2 : ∀ j, j < 28 → j ≠ 14 → A2 j = A j := fun j h1 h2 => f2.2.1 j (by omega) (by omega) h2
    have eA3 : ∀ j, j < 28 → j ≠ 14 → A3 j = A2 j := fun j h1 h2 => f3.2.1 j (by omega) (by omega) h2
    have F3 : Fr4 I A I3 A3 lo (e2 + 1) := Fr4_t f2 f3 (by omega) (by omega) (by omega) (by omega)
    have eA30 : ∀ j, j < 28 → j ≠ 14 → A3 j = A j := fun j h1 h2 => (eA3 j h1 h2).trans (eA2 j h1 h2)
    obtain ⟨p3w, p3x⟩ := ckc_l hp3
    have u3 : p3' ≤ 80 := by
      have u1 := ckle80 p1 hp1 hput
      have u2 := ckle80 p2 hp2 u1
      omega
    obtain ⟨I4, A4, a4, b4, f4⟩ := (ih3 (e2 + 1) hi I3 A3 items m p3' (IC0_4 eA30 r pr _ _ c3 (fun k h1 h2 => F3.2.2 k (by omega))) hhi hit ((F3.1 5 (by omega)).trans h5) ((F3.1 0 (by omega)).trans h0) ((F3.1 8 (by omega)).trans h8) hcnt u3 (by omega) (by omega) hm).1 p hp4
    have eA4 : ∀ j, j < 28 → j ≠ 14 → A4 j = A3 j := fun j h1 h2 => f4.2.1 j (by omega) (by omega) h2
    have eA40 : ∀ j, j < 28 → j ≠ 14 → A4 j = A j := fun j h1 h2 => (eA4 j h1 h2).trans (eA30 j h1 h2)
    refine ⟨I4, A4, a1.trans (a2.trans (a3.trans a4)), ⟨ItC_4 it eA40, by rw [f4.2.2 lo (by omega)]; exact b3, Bg_4 bg eA40 ((f4.2.2 _ (by omega)).trans ((f3.2.2 _ (by omega)).trans (f2.2.2 _ (by omega)))), e1, e2, IC_4 eA4 t1 p1 _ _ (IC_4 eA3 t1 p1 _ _ b2 (fun k h1 h2 => f3.2.2 k (by omega))) (fun k h1 h2 => f4.2.2 k (by omega)), l1, En_4 en eA40, by rw [eA40 10 (by decide) (by decide)]; exact h10, Bg_4 bg2 eA40 ((f4.2.2 _ (by omega)).trans ((f3.2.2 _ (by omega)).trans g2')), IC_4 eA4 t2 p2 _ _ (IC_4 eA3 t2 p2 _ _ b2' (fun k h1 h2 => f3.2.2 k (by omega))) (fun k h1 h2 => f4.2.2 k (by omega)), l2, l3, En_4 en2 eA40, by rw [eA40 11 (by decide) (by decide)]; exact h11, b4⟩, Fr4_t F3 f4 (by omega) (by omega) (by omega) (by omega)⟩
  · rcases ckb_r hp with hp1 | ⟨p1', hp1, hp⟩
    · exact g2 P w hp1
    · obtain ⟨I1, A1, a1, b1, f1⟩ := after1 p1' hp1
      rcases ckb_r hp with hp2 | ⟨p2', hp2, hp⟩
      · obtain ⟨I2, A2, a2, f2⟩ := (go2 p1' I1 A1 hp1 b1 f1).2 P w hp2
        exact ⟨I2, A2, a1.trans a2, f2⟩
      · obtain ⟨I2, A2, a2, b2, b2', f2, g2'⟩ := (go2 p1' I1 A1 hp1 b1 f1).1 p2' hp2
        rcases ckb_r hp with hp3 | ⟨p3', hp3, hp4⟩
        · obtain ⟨I3, A3, a3, f3⟩ := (go3 p1' p2' I2 A2 hp1 hp2 b2 b2' f2).2 P w hp3
          exact ⟨I3, A3, a1.trans (a2.trans a3), f3⟩
        · obtain ⟨I3, A3, a3, b3, f3⟩ := (go3 p1' p2' I2 A2 hp1 hp2 b2 b2' f2).1 p3' hp3
          have eA2 : ∀ j, j < 28 → j ≠ 14 → A2 j = A j := fun j h1 h2 => f2.2.1 j (by omega) (by omega) h2
          have eA3 : ∀ j, j < 28 → j ≠ 14 → A3 j = A2 j := fun j h1 h2 => f3.2.1 j (by omega) (by omega) h2
          have F3 : Fr4 I A I3 A3 lo (e2 + 1) := Fr4_t f2 f3 (by omega) (by omega) (by omega) (by omega)
          have eA30 : ∀ j, j < 28 → j ≠ 14 → A3 j = A j := fun j h1 h2 => (eA3 j h1 h2).trans (eA2 j h1 h2)
          obtain ⟨p3w, p3x⟩ := ckc_l hp3
          have u3 : p3' ≤ 80 := by
            have u1 := ckle80 p1 hp1 hput
            have u2 := ckle80 p2 hp2 u1
            omega
          obtain ⟨I4, A4, a4, f4⟩ := (ih3 (e2 + 1) hi I3 A3 items m p3' (IC0_4 eA30 r pr _ _ c3 (fun k h1 h2 => F3.2.2 k (by omega))) hhi hit ((F3.1 5 (by omega)).trans h5) ((F3.1 0 (by omega)).trans h0) ((F3.1 8 (by omega)).trans h8) hcnt u3 (by omega) (by omega) hm).2 P w hp4
          exact ⟨I4, A4, a1.trans (a2.trans (a3.trans a4)), FlL_4 F3 f4⟩
theorem l4_all : ∀ (t : Fo), PW D t → L4P D pi cnt t := PW_ind (fun lo hi I A items m put hc hhi hit h5 h0 h8 hcnt hput hb hd hm => by
    have e : lo = hi := hc
    rw [e, Nat.sub_self]
    refine ⟨fun p hp => ?_, fun P w hp => by cases hp⟩
    have hp' : put = p := Sum.inl.inj hp
    subst hp'
    exact ⟨I, A, rfl, rfl, Fr4_r⟩) (fun q r hs pr ih => l4_sm hs pr ih) (fun q i t1 r hk hs p1 pr ih1 ih2 => l4_rd hk hs p1 pr ih1 ih2) (fun q i j t1 t2 r hk hs p1 p2 pr ih1 ih2 ih3 => l4_ch hk hs p1 p2 pr ih1 ih2 ih3)
end L5
