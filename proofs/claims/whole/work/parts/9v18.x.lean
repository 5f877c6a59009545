def Tkn (I : Nat → Int32) (A : Nat → Nat → Int32) (I' : Nat → Int32) (A' : Nat → Nat → Int32) (K : Nat → Fo) (c items : Nat) : Prop := I' 10 = 1 ∧ I' 11 = Int32.ofNat items ∧ I' 18 = 0 ∧ (∀ k, k < 10 ∨ k = 17 ∨ 18 < k → I' k = I k) ∧ (∀ x, x < c → A' 16 x = A 2 x) ∧ Cp9 A A' items ∧ Pts A' K 6 ∧ (∀ k, k < 24 → A' 33 k = 0 ∧ A' 34 k = 0 ∧ A' 35 k = 0) ∧ (∀ k, k < 36 → A' 39 k = 0) ∧ (∀ p, p < 6 → A' 36 p = 0 ∧ A' 37 p = -1) ∧ (∀ j, j < 16 ∨ j = 38 ∨ j = 40 ∨ j = 41 → A' j = A j)
theorem s_take {I : Nat → Int32} {A : Nat → Nat → Int32} {D : Nat → Nat} {t : Fo} {c items n : Nat} (pt : PW D t) (h4 : I 4 = Int32.ofNat c) (hc : c ≤ 200) (h5 : I 5 = Int32.ofNat items) (hi : items ≤ 200) (ic : IC A D t 0 items) (hw : wt D t ≤ 900) (hd : dpt t < 18) (hn : 4000 ≤ n) : ∃ I' A', x_take n I A = some (I', A', 0) ∧ Tkn I A I' A' (cut D t) c items := by
  have k4 : upd (upd I 10 1) 11 (I 5) 4 = Int32.ofNat c := by rw [upd_n (by decide), upd_n (by decide)]; exact h4
  have k5 : upd (upd I 10 1) 11 (I 5) 5 = Int32.ofNat items := by rw [upd_n (by decide), upd_n (by decide)]; exact h5
  obtain ⟨m, rfl⟩ : ∃ m, n = ((((m + 1 + 24) + 1 + 6) + 1 + items) + 1 + c) := ⟨n - (items + c + 34), by omega⟩
  obtain ⟨A1, e1, a1, b1⟩ := tk_15 k4 hc c 0 (((m + 1 + 24) + 1 + 6) + 1 + items) A (Nat.zero_add _) (fun x hx => by omega)
  obtain ⟨A2, e2, a2, b2⟩ := tk_43 k5 hi items 0 ((m + 1 + 24) + 1 + 6) A1 (Nat.zero_add _) (fun x hx => by omega)
  have ic2 : IC A2 D t 0 items := IC_15 (fun j hj => (b2 j (by omega)).trans (b1 j (by omega))) t pt _ _ ic
  obtain ⟨I3, A3, e3, a3, c3, b3⟩ := tk_167 pt hi hw hd 6 0 (m + 1 + 24) (upd (upd I 10 1) 11 (I 5)) A2 rfl k5 ic2 (fun p hp => by omega) (by omega)
  obtain ⟨A4, e4, a4, b4⟩ := tk_242 (I := I3) 24 0 m A3 rfl (fun p hp => by omega)
  obtain ⟨A5, e5, a5, b5, c5, d5⟩ := s_restart (I := I3) (A := A4) (n := m) (by omega)
  refine ⟨upd I3 18 0, A5, ?_, ?_⟩
  · exact e1.trans (e2.trans (e3.trans (e4.trans (xb_some e5))))
  · have lo : ∀ j, j < 16 ∨ j = 38 ∨ j = 40 ∨ j = 41 → A5 j = A j := fun j hj => by
      rw [d5 j (by omega) (by omega) (by omega) (by omega), b4 j (by omega) (by omega), b3 j (by omega), b2 j (by omega), b1 j (by omega)]
    refine ⟨?_, ?_, upd_s, fun k hk => ?_, fun x hx => ?_, fun x hx => ?_, fun p hp => ?_, fun k hk => ?_, b5, c5, lo⟩
    · rw [upd_n (by decide), c3 10 (by omega), upd_n (by decide), upd_s]
    · rw [upd_n (by decide), c3 11 (by omega), upd_s, h5]
    · rw [upd_n (by omega), c3 k (by omega), upd_n (by omega), upd_n (by omega)]
    · rw [d5 16 (by decide) (by decide) (by decide) (by decide), b4 16 (by decide) (by decide), b3 16 (by omega), b2 16 (by omega)]
      exact a1 x hx
    · have := a2 x hx
      rw [b1 3 (by decide), b1 4 (by decide), b1 5 (by decide), b1 6 (by decide), b1 7 (by decide), b1 10 (by decide), b1 11 (by decide), b1 12 (by decide), b1 14 (by decide)] at this
      rw [d5 17 (by decide) (by decide) (by decide) (by decide), b4 17 (by decide) (by decide), b3 17 (by omega), d5 18 (by decide) (by decide) (by decide) (by decide), b4 18 (by decide) (by decide), b3 18 (by omega), d5 19 (by decide) (by decide) (by decide) (by decide), b4 19 (by decide) (by decide), b3 19 (by omega), d5 20 (by decide) (by decide) (by decide) (by decide), b4 20 (by decide) (by decide), b3 20 (by omega), d5 21 (by decide) (by decide) (by decide) (by decide), b4 21 (by decide) (by decide), b3 21 (by omega), d5 22 (by decide) (by decide) (by decide) (by decide), b4 22 (by decide) (by decide), b3 22 (by omega), d5 23 (by decide) (by decide) (by decide) (by decide), b4 23 (by decide) (by decide), b3 23 (by omega), d5 24 (by decide) (by decide) (by decide) (by decide), b4 24 (by decide) (by decide), b3 24 (by omega), d5 25 (by decide) (by decide) (by decide) (by decide), b4 25 (by decide) (by decide), b3 25 (by omega)]
      exact this
    · have := a3 p hp
      rw [d5 27 (by decide) (by decide) (by decide) (by decide), b4 27 (by decide) (by decide), d5 26 (by decide) (by decide) (by decide) (by decide), b4 26 (by decide) (by decide)]
      exact this
    · have z33 : A5 33 k = 0 := by
        rw [d5 33 (by decide) (by decide) (by decide) (by decide)]
        exact (a4 k hk).1
      refine ⟨z33, ?_, ?_⟩
      · rw [a5 k hk]
        exact (a4 k hk).1
      · rw [d5 35 (by decide) (by decide) (by decide) (by decide)]
        exact (a4 k hk).2
theorem load_41 {I : Nat → Int32} {A : Nat → Nat → Int32} {D : Nat → Nat} {t : Fo} {pi : Bool} {c cnt items n : Nat} (pt : PW D t) (h4 : I 4 = Int32.ofNat c) (hc : c ≤ 200) (h5 : I 5 = Int32.ofNat items) (hi : items ≤ 200) (h0 : I 0 = 0) (h8 : I 8 = Int32.ofNat cnt) (hcnt : cnt ≤ 40) (ic : IC0 A D t 0 items) (hb : bas D t ≤ 400) (hd : dpt t < 18) (hn : 5500 ≤ n) : (∀ p, ck D pi cnt t 0 = .inl p → ∃ I1 A1 I' A', x_load_41 n I A (ty_b pi) 0 0 = some (I', A', Int32.ofNat p) ∧ Fr4 I A I1 A1 0 items ∧ IC A1 D t 0 items ∧ Tkn I1 A1 I' A' (cut D t) c items) ∧ (∀ P w, ck D pi cnt t 0 = .inr (P, w) → ∃ I' A', x_load_41 n I A (ty_b pi) 0 0 = some (I', A', 0) ∧ FlL I A I' A' P w) := by
  obtain ⟨g1, g2⟩ := l4_all (D := D) (pi := pi) (cnt := cnt) t pt 0 items I A items (n - items) 0 ic (Nat.le_refl _) hi h5 h0 h8 hcnt (by decide) hb hd (by omega)
  rw [Nat.sub_zero, show n - items + items = n by omega] at g1 g2
  refine ⟨fun p hp => ?_, fun P w hp => g2 P w hp⟩
  obtain ⟨I1, A1, e1, b1, f1⟩ := g1 p hp
  have hwt := ck_wt t pt 0 p hp
  obtain ⟨I', A', e2, tk⟩ := s_take (I := I1) (n := n - items - 1) pt ((f1.1 4 (by omega)).trans h4) hc ((f1.1 5 (by omega)).trans h5) hi b1 (by omega) hd (by omega)
  refine ⟨I1, A1, I', A', ?_, f1, b1, tk⟩
  refine (show _ = x_load_41 (n - items) I1 A1 (ty_b pi) (Int32.ofNat p) (Int32.ofNat items) from e1).trans ?_
  obtain ⟨m, hm⟩ : ∃ m, n - items = m + 1 := ⟨n - items - 1, by omega⟩
  rw [show n - items - 1 = m by omega] at e2
  rw [hm, x_load_41, f1.1 5 (by omega), h5, if_pos ((j_le (by omega) (by omega)).mpr (Nat.le_refl _))]
  exact xb_some e2
