section SS
variable {I : Nat → Int32} {R : pw → Nat → pw × Nat × Fo} {f : Nat → Int32} {c d : Nat}
theorem FrA_g {A B : Nat → Nat → Int32} {k : Nat} (g : GrI A B k [9, 4, 5, 14, 3, 6, 7, 8]) : FrA A B k d := by
  refine ⟨fun j hj => g.1 j ?_, fun j x _ hx => g.2 j x (by omega), fun x _ => by rw [g.1 15 rfl]⟩
  cases hc1 : ([9, 4, 5, 14, 3, 6, 7, 8] : List Nat).contains j with
  | false => rfl
  | true => simp at hc1; omega
theorem it_kd {A : Nat → Nat → Int32} {k P : Nat} (h1 : ¬ dC f c (P, false) = 63) (h2 : ¬ dC f c (P, false) = 64) (h : IT A f c k P) : ¬ A 3 k = 4 ∧ ¬ A 3 k = 5 := by
  obtain ⟨-, -, -, -, h⟩ := h
  by_cases q1 : dC f c (P, false) = 33
  · rw [if_pos q1] at h
    rw [h.1]
    exact ⟨by decide, by decide⟩
  · rw [if_neg q1, if_neg h1, if_neg h2] at h
    by_cases q5 : rd_var (dC f c (P, false)) = true ∧ ka f c (dS1 f c (P, false)) 1 = 58
    · rw [if_pos q5] at h
      rw [h.1]
      exact ⟨by decide, by decide⟩
    · rw [if_neg q5] at h
      rw [h.1]
      exact ⟨by decide, by decide⟩
theorem sim_simple (hl : Ltr f c) (hd : d ≤ 7) {P n k : Nat} {A : Nat → Nat → Int32} {l : Int32} (h : Rf I A c f) (hk : k ≤ P) (hP : P < c) (hn : n ≤ 40) (hno : d = 0 ∨ ¬ f P = 125) (hb : (¬ dC f c (P, false) = 63 ∧ ¬ dC f c (P, false) = 64) ∨ n = 40) :
  ((pStm R f c d (P, false) n).1.2 = false → ∃ i k' A', (∀ m, 4 ≤ m → x_isPlay_63 (m + i) (V I k P false n d) A l = x_isPlay_63 m (V I k' (pStm R f c d (P, false) n).1.1 false (pStm R f c d (P, false) n).2.1 d) A' (wfl f c (pStm R f c d (P, false) n).1.1 false d)) ∧ k ≤ k' ∧ k' ≤ (pStm R f c d (P, false) n).1.1 ∧ (pStm R f c d (P, false) n).1.1 ≤ c ∧ (pStm R f c d (P, false) n).2.1 ≤ 40 ∧ n < (pStm R f c d (P, false) n).2.1 ∧ IR A' f c (cn P (pStm R f c d (P, false) n).2.2 .nil) k k' ∧ FrA A A' k d ∧ Nd f (pStm R f c d (P, false) n).1.1) ∧
  ((pStm R f c d (P, false) n).1.2 = true → ∃ i, ∀ m, 4 ≤ m → Fl I A (pStm R f c d (P, false) n).1.1 (x_isPlay_63 (m + i) (V I k P false n d) A l)) := by
  have hms := ms (I := I) (A := A) (k := k) (e := d) (R := R) (d := d) h hl hP hk hn hb
  have hn40 : n = 40 → (pStm R f c d (P, false) n).1.2 = true := by
    intro z
    unfold pStm
    rw [if_pos z]
  generalize pStm R f c d (P, false) n = ps at hms hn40 ⊢
  obtain ⟨⟨Q, w⟩, n1, kd⟩ := ps
  obtain ⟨k', r, n', A', e1, g, al, ok⟩ := hms
  obtain ⟨Q2, b2⟩ := r
  have hQ : Q = Q2 := al.1
  subst hQ
  have hfr : FrA A A' k d := FrA_g g
  have h' : Rf I A' c f := Rf_f h hfr
  have hQc : Q ≤ c := al.2.1
  cases w with
  | false =>
    refine ⟨fun _ => ?_, fun z => Bool.noConfusion z⟩
    have hne : ¬ n = 40 := fun z => Bool.noConfusion (hn40 z)
    obtain ⟨o1, o2, o3, o4, o5, o6, o7, o8⟩ := ok rfl
    have o1' : b2 = false := o1
    have o4' : n1 = n + 1 := o4
    have o5' : kd = .nil := o5
    have o7' : P < Q := o7
    subst o1' o4' o5' o2 o3
    have hkd := it_kd (hb.resolve_right hne).1 (hb.resolve_right hne).2 o6
    refine ⟨1, k + 1, A', fun m hm => it_stm h h' hP hQc (by omega) (by omega) hno (e1 m hm), Nat.le_succ _, show k + 1 ≤ Q by omega, hQc, show n + 1 ≤ 40 by omega, Nat.lt_succ_self _, ?_, hfr, ⟨show 0 < Q by omega, Or.inl o8⟩⟩
    show IR A' f c (.append (.tag P .nil) .nil) k (k + 1)
    unfold IR
    exact ⟨o6, hkd.1, hkd.2, rfl⟩
  | true =>
    refine ⟨fun z => Bool.noConfusion z, fun _ => ⟨2, fun m hm => ?_⟩⟩
    rw [show m + 2 = (m + 1) + 1 from rfl, it_stm h h' hP hQc (by omega) (by omega) hno (e1 (m + 1) (by omega))]
    exact Fl_f hfr (it_fail (x := (Q, true)) (r := (Q, b2)) h' al rfl)
end SS
