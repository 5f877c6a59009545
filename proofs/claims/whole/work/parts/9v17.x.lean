section F15
variable {I I' I2 : Nat → Int32} {A A' A2 : Nat → Nat → Int32} {D : Nat → Nat} {i s : Nat}
theorem ItC_15 (h : ItC A s i) (e : ∀ j, j < 15 → A' j = A j) : ItC A' s i := by
  have ex : Exq A (cE s) i → Exq A' (cE s) i := fun ⟨fr, h1, h2, h3, h4, h5⟩ => ⟨fr, by rw [e 7 (by decide)]; exact h1, h2, by rw [e 8 (by decide)]; exact h3, by rw [e 2 (by decide)]; exact h4, h5⟩
  unfold ItC at h ⊢
  rw [e 3 (by decide), e 4 (by decide), e 5 (by decide), e 6 (by decide)]
  refine ⟨h.1, ?_⟩
  rcases h.2 with h | h | h | h | h
  · exact Or.inl ⟨h.1, h.2.1, h.2.2.1, ex h.2.2.2⟩
  · exact Or.inr (Or.inl ⟨h.1, h.2.1, h.2.2.1, h.2.2.2.1, ex h.2.2.2.2⟩)
  · exact Or.inr (Or.inr (Or.inl h))
  · exact Or.inr (Or.inr (Or.inr (Or.inl ⟨h.1, h.2.1, ex h.2.2⟩)))
  · exact Or.inr (Or.inr (Or.inr (Or.inr ⟨h.1, h.2.1, ex h.2.2⟩)))
theorem IC_15 (e : ∀ j, j < 15 → A' j = A j) : ∀ (t : Fo), PW D t → ∀ lo hi, IC A D t lo hi → IC A' D t lo hi := PW_ind (fun _ _ h => h) (fun q r _ _ ih lo hi h => ⟨ItC_15 h.1 e, ih _ _ h.2⟩) (fun q i t1 r _ _ _ _ ih1 ih2 lo hi h => by
    obtain ⟨it, bg, e1, c1, l1, l2, en, h10, c2⟩ := h
    refine ⟨ItC_15 it e, ?_, e1, ih1 _ _ c1, l1, l2, ?_, ?_, ih2 _ _ c2⟩
    · unfold Bg at bg ⊢
      rw [e 3 (by decide), e 12 (by decide), e 13 (by decide), e 14 (by decide)]
      exact bg
    · unfold En at en ⊢
      rw [e 3 (by decide), e 12 (by decide), e 13 (by decide)]
      exact en
    · rw [e 10 (by decide)]
      exact h10) (fun q i j t1 t2 r _ _ _ _ _ ih1 ih2 ih3 lo hi h => by
    obtain ⟨it, h14, bg, e1, e2, c1, l1, en, h10, bg2, c2, l2, l3, en2, h11, c3⟩ := h
    refine ⟨ItC_15 it e, ?_, ?_, e1, e2, ih1 _ _ c1, l1, ?_, ?_, ?_, ih2 _ _ c2, l2, l3, ?_, ?_, ih3 _ _ c3⟩
    · rw [e 14 (by decide)]
      exact h14
    · unfold Bg at bg ⊢
      rw [e 3 (by decide), e 12 (by decide), e 13 (by decide), e 14 (by decide)]
      exact bg
    · unfold En at en ⊢
      rw [e 3 (by decide), e 12 (by decide), e 13 (by decide)]
      exact en
    · rw [e 10 (by decide)]
      exact h10
    · unfold Bg at bg2 ⊢
      rw [e 3 (by decide), e 12 (by decide), e 13 (by decide), e 14 (by decide)]
      exact bg2
    · unfold En at en2 ⊢
      rw [e 3 (by decide), e 12 (by decide), e 13 (by decide)]
      exact en2
    · rw [e 11 (by decide)]
      exact h11)
end F15
section TK
variable {I I' I2 : Nat → Int32} {A A' A2 : Nat → Nat → Int32} {D : Nat → Nat}
theorem rs_54 : ∀ (d k m : Nat) (A : Nat → Nat → Int32), k + d = 6 → (∀ p, p < k → A 36 p = 0 ∧ A 37 p = -1) → ∃ A', x_restart_54 (m + 1 + d) I A (Int32.ofNat k) = some (I, A', 0) ∧ (∀ p, p < 6 → A' 36 p = 0 ∧ A' 37 p = -1) ∧ (∀ j, j ≠ 36 → j ≠ 37 → A' j = A j)
  | 0, k, m, A, hk, h => by
    have : k = 6 := by omega
    subst this
    refine ⟨A, ?_, h, fun _ _ _ => rfl⟩
    rw [Nat.add_zero, x_restart_54, if_pos (by decide)]
  | d + 1, k, m, A, hk, h => by
    rw [← Nat.add_assoc, x_restart_54, if_neg (show ¬ (6 : Int32) ≤ Int32.ofNat k from mt (j_le (m := 6) (by decide) (by omega)).mp (by omega)), if_pos (j_in (by omega) (by omega)), (j_n (n := k) (by omega)).2, o1]
    obtain ⟨A', e, a, b⟩ := rs_54 d (k + 1) m (upA (upA A 36 (upd (A 36) k 0)) 37 (upd (A 37) k (-1))) (by omega) (fun p hp => by
      rw [upA_ne (show 36 ≠ 37 by decide), upA_eq, upA_eq]
      by_cases q : p = k
      · rw [q, upd_s, upd_s]
        exact ⟨rfl, rfl⟩
      · rw [upd_n q, upd_n q]
        exact h p (by omega))
    exact ⟨A', e, a, fun j h1 h2 => by rw [b j h1 h2, upA_ne h2, upA_ne h1]⟩
theorem rs_33 : ∀ (d k m : Nat) (A : Nat → Nat → Int32), k + d = 36 → (∀ p, p < k → A 39 p = 0) → ∃ A', x_restart_33 (m + 1 + d) I A (Int32.ofNat k) = x_restart_54 m I A' 0 ∧ (∀ p, p < 36 → A' 39 p = 0) ∧ (∀ j, j ≠ 39 → A' j = A j)
  | 0, k, m, A, hk, h => by
    have : k = 36 := by omega
    subst this
    refine ⟨A, ?_, h, fun _ _ => rfl⟩
    rw [Nat.add_zero, x_restart_33, if_pos (by decide)]
  | d + 1, k, m, A, hk, h => by
    rw [← Nat.add_assoc, x_restart_33, if_neg (show ¬ (36 : Int32) ≤ Int32.ofNat k from mt (j_le (m := 36) (by decide) (by omega)).mp (by omega)), if_pos (j_in (by omega) (by omega)), (j_n (n := k) (by omega)).2, o1]
    obtain ⟨A', e, a, b⟩ := rs_33 d (k + 1) m (upA A 39 (upd (A 39) k 0)) (by omega) (fun p hp => by
      rw [upA_eq]
      by_cases q : p = k
      · rw [q, upd_s]
      · rw [upd_n q]
        exact h p (by omega))
    exact ⟨A', e, a, fun j h1 => by rw [b j h1, upA_ne h1]⟩
theorem rs_7 : ∀ (d k m : Nat) (A : Nat → Nat → Int32), k + d = 24 → (∀ p, p < k → A 34 p = A 33 p) → ∃ A', x_restart_7 (m + 1 + d) I A (Int32.ofNat k) = x_restart_33 m I A' 0 ∧ (∀ p, p < 24 → A' 34 p = A 33 p) ∧ (∀ j, j ≠ 34 → A' j = A j)
  | 0, k, m, A, hk, h => by
    have : k = 24 := by omega
    subst this
    refine ⟨A, ?_, h, fun _ _ => rfl⟩
    rw [Nat.add_zero, x_restart_7, if_pos (by decide)]
  | d + 1, k, m, A, hk, h => by
    rw [← Nat.add_assoc, x_restart_7, if_neg (show ¬ (24 : Int32) ≤ Int32.ofNat k from mt (j_le (m := 24) (by decide) (by omega)).mp (by omega)), if_pos (j_in (by omega) (by omega)), (j_n (n := k) (by omega)).2, o1]
    have e33 : upA A 34 (upd (A 34) k (A 33 k)) 33 = A 33 := upA_ne (by decide)
    obtain ⟨A', e, a, b⟩ := rs_7 d (k + 1) m (upA A 34 (upd (A 34) k (A 33 k))) (by omega) (fun p hp => by
      rw [upA_eq, e33]
      by_cases q : p = k
      · rw [q, upd_s]
      · rw [upd_n q]
        exact h p (by omega))
    exact ⟨A', e, fun p hp => by rw [a p hp, e33], fun j h1 => by rw [b j h1, upA_ne h1]⟩
theorem s_restart {n : Nat} (hn : 80 ≤ n) : ∃ A', x_restart n I A = some (upd I 18 0, A', 0) ∧ (∀ k, k < 24 → A' 34 k = A 33 k) ∧ (∀ k, k < 36 → A' 39 k = 0) ∧ (∀ p, p < 6 → A' 36 p = 0 ∧ A' 37 p = -1) ∧ (∀ j, j ≠ 34 → j ≠ 36 → j ≠ 37 → j ≠ 39 → A' j = A j) := by
  obtain ⟨m, rfl⟩ : ∃ m, n = (((m + 1 + 6) + 1 + 36) + 1 + 24) := ⟨n - 69, by omega⟩
  obtain ⟨A1, e1, a1, b1⟩ := rs_7 (I := upd I 18 0) 24 0 (m + 1 + 6 + 1 + 36) A rfl (fun p hp => by omega)
  obtain ⟨A2, e2, a2, b2⟩ := rs_33 (I := upd I 18 0) 36 0 (m + 1 + 6) A1 rfl (fun p hp => by omega)
  obtain ⟨A3, e3, a3, b3⟩ := rs_54 (I := upd I 18 0) 6 0 m A2 rfl (fun p hp => by omega)
  refine ⟨A3, e1.trans (e2.trans e3), fun k hk => ?_, fun k hk => ?_, a3, fun j h1 h2 h3 h4 => ?_⟩
  · rw [b3 34 (by decide) (by decide), b2 34 (by decide)]
    exact a1 k hk
  · rw [b3 39 (by decide) (by decide)]
    exact a2 k hk
  · rw [b3 j h2 h3, b2 j h4, b1 j h1]
theorem tk_242 : ∀ (d k m : Nat) (A : Nat → Nat → Int32), k + d = 24 → (∀ p, p < k → A 33 p = 0 ∧ A 35 p = 0) → ∃ A', x_take_242 (m + 1 + d) I A (Int32.ofNat k) = (xb (x_restart m I A') fun I1 A1 v1 => some (I1, A1, 0)) ∧ (∀ p, p < 24 → A' 33 p = 0 ∧ A' 35 p = 0) ∧ (∀ j, j ≠ 33 → j ≠ 35 → A' j = A j)
  | 0, k, m, A, hk, h => by
    have : k = 24 := by omega
    subst this
    refine ⟨A, ?_, h, fun _ _ _ => rfl⟩
    rw [Nat.add_zero, x_take_242, if_pos (by decide)]
  | d + 1, k, m, A, hk, h => by
    rw [← Nat.add_assoc, x_take_242, if_neg (show ¬ (24 : Int32) ≤ Int32.ofNat k from mt (j_le (m := 24) (by decide) (by omega)).mp (by omega)), if_pos (j_in (by omega) (by omega)), (j_n (n := k) (by omega)).2, o1]
    obtain ⟨A', e, a, b⟩ := tk_242 d (k + 1) m (upA (upA A 33 (upd (A 33) k 0)) 35 (upd (A 35) k 0)) (by omega) (fun p hp => by
      rw [upA_ne (show 33 ≠ 35 by decide), upA_eq, upA_eq]
      by_cases q : p = k
      · rw [q, upd_s, upd_s]
        exact ⟨rfl, rfl⟩
      · rw [upd_n q, upd_n q]
        exact h p (by omega))
    exact ⟨A', e, a, fun j h1 h2 => by rw [b j h1 h2, upA_ne h2, upA_ne h1]⟩
theorem tk_15 {c : Nat} (h4 : I 4 = Int32.ofNat c) (hc : c ≤ 200) : ∀ (d k m : Nat) (A : Nat → Nat → Int32), k + d = c → (∀ x, x < k → A 16 x = A 2 x) → ∃ A', x_take_15 (m + 1 + d) I A (Int32.ofNat k) = x_take_43 m I A' 0 ∧ (∀ x, x < c → A' 16 x = A 2 x) ∧ (∀ j, j ≠ 16 → A' j = A j)
  | 0, k, m, A, hk, h => by
    have : k = c := by omega
    subst this
    refine ⟨A, ?_, h, fun _ _ => rfl⟩
    rw [Nat.add_zero, x_take_15, h4, if_pos ((j_le (by omega) (by omega)).mpr (Nat.le_refl _))]
  | d + 1, k, m, A, hk, h => by
    rw [← Nat.add_assoc, x_take_15, h4, if_neg (mt (j_le (by omega) (by omega)).mp (by omega)), if_pos (j_in (by omega) (by omega)), (j_n (n := k) (by omega)).2, o1]
    have e2 : upA A 16 (upd (A 16) k (A 2 k)) 2 = A 2 := upA_ne (by decide)
    obtain ⟨A', e, a, b⟩ := tk_15 h4 hc d (k + 1) m (upA A 16 (upd (A 16) k (A 2 k))) (by omega) (fun p hp => by
      rw [upA_eq, e2]
      by_cases q : p = k
      · rw [q, upd_s]
      · rw [upd_n q]
        exact h p (by omega))
    exact ⟨A', e, fun x hx => by rw [a x hx, e2], fun j h1 => by rw [b j h1, upA_ne h1]⟩
def Cp9 (A A' : Nat → Nat → Int32) (k : Nat) : Prop := ∀ x, x < k → A' 17 x = A 3 x ∧ A' 18 x = A 4 x ∧ A' 19 x = A 5 x ∧ A' 20 x = A 6 x ∧ A' 21 x = A 7 x ∧ A' 22 x = A 10 x ∧ A' 23 x = A 11 x ∧ A' 24 x = A 12 x ∧ A' 25 x = A 14 x
theorem tk_43 {c : Nat} (h4 : I 5 = Int32.ofNat c) (hc : c ≤ 200) : ∀ (d k m : Nat) (A : Nat → Nat → Int32), k + d = c → Cp9 A A k → ∃ A', x_take_43 (m + 1 + d) I A (Int32.ofNat k) = x_take_167 m I A' 0 ∧ Cp9 A A' c ∧ (∀ j, j < 17 ∨ 25 < j → A' j = A j)
  | 0, k, m, A, hk, h => by
    have : k = c := by omega
    subst this
    refine ⟨A, ?_, h, fun _ _ => rfl⟩
    rw [Nat.add_zero, x_take_43, h4, if_pos ((j_le (by omega) (by omega)).mpr (Nat.le_refl _))]
  | d + 1, k, m, A, hk, h => by
    rw [← Nat.add_assoc, x_take_43, h4, if_neg (mt (j_le (by omega) (by omega)).mp (by omega)), if_pos (j_in (by omega) (by omega)), (j_n (n := k) (by omega)).2, o1]
    generalize hB : (upA (upA (upA (upA (upA (upA (upA (upA (upA A 17 (upd (A 17) k (A 3 k))) 18 (upd (A 18) k (A 4 k))) 19 (upd (A 19) k (A 5 k))) 20 (upd (A 20) k (A 6 k))) 21 (upd (A 21) k (A 7 k))) 22 (upd (A 22) k (A 10 k))) 23 (upd (A 23) k (A 11 k))) 24 (upd (A 24) k (A 12 k))) 25 (upd (A 25) k (A 14 k))) = B
    have lo : ∀ j, j < 17 ∨ 25 < j → B j = A j := fun j hj => by
      rw [← hB, upA_ne (by omega), upA_ne (by omega), upA_ne (by omega), upA_ne (by omega), upA_ne (by omega), upA_ne (by omega), upA_ne (by omega), upA_ne (by omega), upA_ne (by omega)]
    have b17 : B 17 = upd (A 17) k (A 3 k) := by rw [← hB, upA_ne (by decide), upA_ne (by decide), upA_ne (by decide), upA_ne (by decide), upA_ne (by decide), upA_ne (by decide), upA_ne (by decide), upA_ne (by decide), upA_eq]
    have b18 : B 18 = upd (A 18) k (A 4 k) := by rw [← hB, upA_ne (by decide), upA_ne (by decide), upA_ne (by decide), upA_ne (by decide), upA_ne (by decide), upA_ne (by decide), upA_ne (by decide), upA_eq]
    have b19 : B 19 = upd (A 19) k (A 5 k) := by rw [← hB, upA_ne (by decide), upA_ne (by decide), upA_ne (by decide), upA_ne (by decide), upA_ne (by decide), upA_ne (by decide), upA_eq]
    have b20 : B 20 = upd (A 20) k (A 6 k) := by rw [← hB, upA_ne (by decide), upA_ne (by decide), upA_ne (by decide), upA_ne (by decide), upA_ne (by decide), upA_eq]
    have b21 : B 21 = upd (A 21) k (A 7 k) := by rw [← hB, upA_ne (by decide), upA_ne (by decide), upA_ne (by decide), upA_ne (by decide), upA_eq]
    have b22 : B 22 = upd (A 22) k (A 10 k) := by rw [← hB, upA_ne (by decide), upA_ne (by decide), upA_ne (by decide), upA_eq]
    have b23 : B 23 = upd (A 23) k (A 11 k) := by rw [← hB, upA_ne (by decide), upA_ne (by decide), upA_eq]
    have b24 : B 24 = upd (A 24) k (A 12 k) := by rw [← hB, upA_ne (by decide), upA_eq]
    have b25 : B 25 = upd (A 25) k (A 14 k) := by rw [← hB, upA_eq]
    have key : ∀ A', Cp9 B A' c → Cp9 A A' c := fun A' hh x hx => by
      have := hh x hx
      rw [lo 3 (by omega), lo 4 (by omega), lo 5 (by omega), lo 6 (by omega), lo 7 (by omega), lo 10 (by omega), lo 11 (by omega), lo 12 (by omega), lo 14 (by omega)] at this
      exact this
    obtain ⟨A', e, a, b⟩ := tk_43 h4 hc d (k + 1) m B (by omega) (fun x hx => by
      rw [lo 3 (by omega), lo 4 (by omega), lo 5 (by omega), lo 6 (by omega), lo 7 (by omega), lo 10 (by omega), lo 11 (by omega), lo 12 (by omega), lo 14 (by omega), b17, b18, b19, b20, b21, b22, b23, b24, b25]
      by_cases q : x = k
      · rw [q, upd_s, upd_s, upd_s, upd_s, upd_s, upd_s, upd_s, upd_s, upd_s]
        exact ⟨rfl, rfl, rfl, rfl, rfl, rfl, rfl, rfl, rfl⟩
      · rw [upd_n q, upd_n q, upd_n q, upd_n q, upd_n q, upd_n q, upd_n q, upd_n q, upd_n q]
        exact h x (by omega))
    exact ⟨A', e, key A' a, fun j hj => (b j hj).trans (lo j hj)⟩
theorem mul1000 : ∀ p, p < 6 → (1000 : Int32) * Int32.ofNat p = Int32.ofNat (1000 * p) := by decide +kernel
theorem tk_195 {rec167 : (Nat → Int32) → (Nat → Nat → Int32) → Int32 → Option xR} {p : Nat} (hp : p < 6) : ∀ (v : List Nat) (m : Nat) (A : Nat → Nat → Int32) (u : List Nat), I 12 = Int32.ofNat (v.length + u.length) → At (A 28) 0 v.reverse → At (A 26) (1000 * p) u → v.length + u.length ≤ 1000 → ∃ g, x_take_195 rec167 (m + v.length) I A (Int32.ofNat p) (Int32.ofNat u.length) = x_take_195 rec167 m I (upA A 26 g) (Int32.ofNat p) (Int32.ofNat (v.length + u.length)) ∧ At g (1000 * p) (u ++ v) ∧ (∀ k, k < 1000 * p ∨ 1000 * p + (v.length + u.length) ≤ k → g k = A 26 k)
  | [], m, A, u, _, _, hu, _ => ⟨A 26, by rw [upA_id]; simp, by rw [List.append_nil]; exact hu, fun _ _ => rfl⟩
  | c :: v, m, A, u, h12, ha, hu, hl => by
    rw [List.length_cons] at h12 hl ⊢
    rw [List.reverse_cons, At_app] at ha
    have hc : A 28 v.length = Int32.ofNat c := by
      have := ha.2.1
      rw [List.length_reverse, Nat.zero_add] at this
      exact this
    have e12 : I 12 - 1 - Int32.ofNat u.length = Int32.ofNat v.length := by
      rw [h12, o_s1 (by omega), o_sub (by omega)]
      congr 1
      omega
    rw [← Nat.add_assoc, x_take_195, h12, if_neg (mt (j_le (by omega) (by omega)).mp (by omega)), ← h12, e12, if_pos (j_in (by omega) (by omega)), mul1000 p hp, o_add, if_pos (j_in (by omega) (by omega)), (j_n (n := 1000 * p + u.length) (by omega)).2, (j_n (n := v.length) (by omega)).2, hc, o1]
    have hput : At (upd (A 26) (1000 * p + u.length) (Int32.ofNat c)) (1000 * p) (u ++ [c]) := by
      rw [At_app]
      exact ⟨At_fr u _ (fun k h1 h2 => upd_n (by omega)) hu, upd_s, trivial⟩
    obtain ⟨g, e1, e2, e3⟩ := tk_195 (rec167 := rec167) hp v m (upA A 26 (upd (A 26) (1000 * p + u.length) (Int32.ofNat c))) (u ++ [c]) (by rw [h12, List.length_append, List.length_singleton]; congr 1; omega) (by rw [upA_ne (by decide)]; exact ha.1) (by rw [upA_eq]; exact hput) (by rw [List.length_append, List.length_singleton]; omega)
    rw [List.length_append, List.length_singleton] at e1 e3
    rw [upA_u] at e1
    rw [List.append_assoc] at e2
    refine ⟨g, ?_, e2, fun k hk => ?_⟩
    · rw [e1, show v.length + (u.length + 1) = v.length + 1 + u.length by omega, ← h12]
    · rw [e3 k (by omega), upA_eq, upd_n (by omega)]
def Pts (A : Nat → Nat → Int32) (K : Nat → Fo) (q : Nat) : Prop := ∀ p, p < q → A 27 p = Int32.ofNat (tx 0 (K p)).length ∧ At (A 26) (1000 * p) (tx 0 (K p)) ∧ (tx 0 (K p)).length ≤ 900
theorem tk_167 {t : Fo} {items : Nat} (pt : PW D t) (hi : items ≤ 200) (hw : wt D t ≤ 900) (hd : dpt t < 18) : ∀ (d p m : Nat) (I : Nat → Int32) (A : Nat → Nat → Int32), p + d = 6 → I 5 = Int32.ofNat items → IC A D t 0 items → Pts A (cut D t) p → 3000 ≤ m → ∃ I' A', x_take_167 (m + 1 + d) I A (Int32.ofNat p) = x_take_242 m I' A' 0 ∧ Pts A' (cut D t) 6 ∧ (∀ k, k < 12 ∨ 16 < k → I' k = I k) ∧ (∀ j, j < 26 ∨ 32 < j → A' j = A j)
  | 0, p, m, I, A, hp, _, _, h, _ => by
    have : p = 6 := by omega
    subst this
    refine ⟨I, A, ?_, h, fun _ _ => rfl, fun _ _ => rfl⟩
    rw [Nat.add_zero, x_take_167, if_pos (by decide)]
  | d + 1, p, m, I, A, hp, h5, hc, h, hm => by
    have hl := cut_len (p := p) (by omega) t pt
    obtain ⟨I1, A1, e1, c1, f1⟩ := x_cut_ok (I := I) (p := p) (n := m + 1 + d) (by omega) pt hc hi hw hd (by omega)
    have i12 : I1 12 = Int32.ofNat (tx 0 (cut D t p)).length := by
      have := c1.1
      rw [List.length_reverse] at this
      rw [this]
      congr 1
      simp
    obtain ⟨m', hm'⟩ : ∃ m', m + 1 + d = (m' + 1) + (tx 0 (cut D t p)).length := ⟨m + 1 + d - (tx 0 (cut D t p)).length - 1, by omega⟩
    obtain ⟨g, z1, z2, z3⟩ := tk_195 (I := I1) (rec167 := x_take_167 (m + 1 + d)) (p := p) (by omega) (tx 0 (cut D t p)) (m' + 1) (upA A1 27 (upd (A1 27) p (I1 12))) [] i12 (by rw [upA_ne (by decide)]; exact c1.2.1) trivial (by simp; omega)
    rw [List.nil_append] at z2
    generalize hB : upA (upA A1 27 (upd (A1 27) p (I1 12))) 26 g = B at z1
    have bf : ∀ j, j < 26 ∨ 32 < j → B j = A j := fun j hj => by
      rw [← hB, upA_ne (by omega), upA_ne (by omega)]
      exact f1.2 j (by omega)
    have b27 : B 27 = upd (A 27) p (I1 12) := by
      rw [← hB, upA_ne (by decide), upA_eq, f1.2 27 (by omega)]
    have b26 : B 26 = g := by rw [← hB, upA_eq]
    have hP : Pts B (cut D t) (p + 1) := by
      intro q hq
      rw [b27, b26]
      by_cases e : q = p
      · rw [e, upd_s]
        exact ⟨i12, z2, by omega⟩
      · rw [upd_n e]
        obtain ⟨k1, k2, k3⟩ := h q (by omega)
        refine ⟨k1, At_fr _ _ (fun k h1 h2 => ?_) k2, k3⟩
        rw [z3 k (by omega), upA_ne (by decide), f1.2 26 (by omega)]
    obtain ⟨I', A', w1, w2, w3, w4⟩ := tk_167 pt hi hw hd d (p + 1) m I1 B (by omega) ((f1.1 5 (by omega)).trans h5) (by
      have : ∀ j, j < 26 → B j = A j := fun j hj => bf j (Or.inl hj)
      exact IC_15 (fun j hj => this j (by omega)) t pt _ _ hc) hP hm
    refine ⟨I', A', ?_, w2, fun k hk => (w3 k hk).trans (f1.1 k hk), fun j hj => (w4 j hj).trans (bf j hj)⟩
    rw [← Nat.add_assoc, x_take_167, if_neg (show ¬ (6 : Int32) ≤ Int32.ofNat p from mt (j_le (m := 6) (by decide) (by omega)).mp (by omega)), h5]
    refine (xb_some e1).trans ?_
    rw [if_pos (j_in (by omega) (by omega)), (j_n (n := p) (by omega)).2]
    rw [← hm'] at z1
    refine (show _ = x_take_195 (x_take_167 (m + 1 + d)) (m' + 1) I1 B (Int32.ofNat p) (Int32.ofNat ((tx 0 (cut D t p)).length + ([] : List Nat).length)) from z1).trans ?_
    rw [x_take_195, i12, if_pos ((j_le (by omega) (by simp; omega)).mpr (by simp)), o1]
    exact w1
end TK
