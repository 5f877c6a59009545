def stY (S : hS) (f : Nat → Nat → Int32) (g : Nat → Nat → Option Nat) (h : Nat → Nat → Int32) : hS := (S.1, S.2.1, S.2.2.1, f, S.2.2.2.2.1, g, h, S.2.2.2.2.2.2.2.1, S.2.2.2.2.2.2.2.2.1, S.2.2.2.2.2.2.2.2.2.1, S.2.2.2.2.2.2.2.2.2.2)
section BG
variable {S : hS} {n a N : Nat}
theorem zal_20 (h : ztg S a = 20) : zal S a := by
  unfold zal
  rw [h]
  decide
theorem szAI_q {g : Nat → Int32} : zAI (szAI S a g) a = g := if_pos rfl
theorem clr {N : Nat} (hN : N < 2 ^ 31) : ∀ (e i m : Nat) (S : hS), ztg S a = 20 → zLen S a = N → i + e = N → ∃ g, y_clear_2 (m + 1 + e) S (some a) (Int32.ofNat i) = some (szAI S a g) ∧ (∀ j, j < i → g j = zAI S a j) ∧ (∀ j, i ≤ j → j < N → g j = 0)
  | 0, i, m, S, h1, h2, hi => by
    refine ⟨zAI S a, ?_, fun _ _ => rfl, fun j h3 h4 => by omega⟩
    rw [Nat.add_zero, y_clear_2]
    refine (zob_s rfl).trans ?_
    rw [if_pos (zal_20 h1), h2, if_pos ((j_le hN (by omega)).mpr (by omega))]
    congr 1
    exact szAI_id.symm
  | e + 1, i, m, S, h1, h2, hi => by
    obtain ⟨g, e1, e2, e3⟩ := clr hN e (i + 1) m (szAI S a (upd (zAI S a) i 0)) h1 h2 (by omega)
    refine ⟨g, ?_, fun j hj => ?_, fun j h3 h4 => ?_⟩
    · rw [← Nat.add_assoc, y_clear_2]
      refine (zob_s rfl).trans ?_
      rw [if_pos (zal_20 h1), h2, if_neg (mt (j_le hN (by omega)).mp (by omega)), if_pos h1, if_pos (j_in (by omega) (by omega)), (j_n (n := i) (by omega)).2, o1]
      refine e1.trans ?_
      rw [szAI_2]
    · rw [e2 j (by omega), szAI_q]
      exact upd_n (by omega)
    · by_cases q : j = i
      · subst q
        rw [e2 j (by omega), szAI_q]
        exact upd_s
      · exact e3 j (by omega) h4
theorem clear_ok (h1 : ztg S a = 20) (h2 : zLen S a = N) (hN : N < 2 ^ 31) (hn : N + 1 ≤ n) : ∃ g, y_clear n S (some a) = some (szAI S a g) ∧ ∀ j, j < N → g j = 0 := by
  obtain ⟨m, rfl⟩ : ∃ m, n = m + 1 + N := ⟨n - 1 - N, by omega⟩
  obtain ⟨g, e1, _, e3⟩ := clr hN N 0 m S h1 h2 (Nat.zero_add _)
  exact ⟨g, e1, fun j hj => e3 j (Nat.zero_le _) hj⟩
theorem rf3_o : ∀ p, p < 6 → rf_3 p = some (7 + 3 * p) := by decide
theorem rf4_o : ∀ k, k < 36 → rf_4 k = some (25 + 3 * k) := by decide
theorem zal_r (h : ztg S a = 24 ∨ ztg S a = 25) : zal S a ∧ zar S a := by
  unfold zal zar
  rcases h with h | h <;> rw [h] <;> decide
def BGI (S : hS) (f : Nat → Nat → Int32) (i j : Nat) : Prop := (∀ k, k < i → f 3 (25 + 3 * k) = 0) ∧ (∀ p, p < j → f 3 (7 + 3 * p) = 0) ∧ ∀ m b, (m = 3 → (∀ k, k < i → b ≠ 25 + 3 * k) ∧ (∀ p, p < j → b ≠ 7 + 3 * p)) → f m b = zI S m b
theorem bg60 : ∀ (e i m : Nat) (S : hS) (S0 : hS), ztg S 2 = 9 → ztg S 3 = 24 → zLen S 3 = 6 → zAR S 3 = rf_3 → (∀ p, p < 6 → ztg S (7 + 3 * p) = 5) → i + e = 6 → BGI S0 (zI S) 36 i → (∀ p, p < i → zR S 2 (7 + 3 * p) = zR S0 1 (7 + 3 * p)) → (∀ m b, (m = 2 → ∀ p, p < i → b ≠ 7 + 3 * p) → zR S m b = zR S0 m b) → ∃ f g, yT_beginAgain_60 2 (m + 1 + e) S (some 3) 6 (Int32.ofNat i) = some (szI (stY S f g (zAI S)) 5 2 0) ∧ BGI S0 f 36 6 ∧ (∀ p, p < 6 → g 2 (7 + 3 * p) = zR S0 1 (7 + 3 * p)) ∧ (∀ m b, (m = 2 → ∀ p, p < 6 → b ≠ 7 + 3 * p) → g m b = zR S0 m b)
  | 0, i, m, S, S0, h1, h2, h3, h4, h5, hi, b1, b2, b3 => by
    have hi6 : i = 6 := by omega
    subst hi6
    refine ⟨zI S, zR S, ?_, b1, b2, b3⟩
    rw [Nat.add_zero, yT_beginAgain_60, if_pos (by decide), if_pos h1]
    rfl
  | e + 1, i, m, S, S0, h1, h2, h3, h4, h5, hi, b1, b2, b3 => by
    have hx : ztg S (7 + 3 * i) = 5 := h5 i (by omega)
    have r1 : zR S 1 (7 + 3 * i) = zR S0 1 (7 + 3 * i) := b3 1 _ (fun e => absurd e (by decide))
    have hA : BGI S0 (zI (szI (szR S 2 (7 + 3 * i) (zR S 1 (7 + 3 * i))) 3 (7 + 3 * i) 0)) 36 (i + 1) := by
      refine ⟨fun k hk => ?_, fun p hp => ?_, fun m b hb => ?_⟩
      · rw [zI_ne (by omega)]
        exact b1.1 k hk
      · by_cases q : p = i
        · subst q
          exact zI_self _ _ _ _
        · rw [zI_ne (by omega)]
          exact b1.2.1 p (by omega)
      · by_cases q : m = 3
        · rw [zI_ne ((hb q).2 i (by omega))]
          exact b1.2.2 m b (fun z => ⟨(hb z).1, fun p hp => (hb z).2 p (by omega)⟩)
        · rw [zI_k q]
          exact b1.2.2 m b (fun z => ⟨(hb z).1, fun p hp => (hb z).2 p (by omega)⟩)
    have hB : ∀ p, p < i + 1 → zR (szI (szR S 2 (7 + 3 * i) (zR S 1 (7 + 3 * i))) 3 (7 + 3 * i) 0) 2 (7 + 3 * p) = zR S0 1 (7 + 3 * p) := fun p hp => by
      by_cases q : p = i
      · subst q
        exact (zR_self _ _ _ _).trans r1
      · refine (zR_ne (by omega)).trans ?_
        exact b2 p (by omega)
    have hC : ∀ m b, (m = 2 → ∀ p, p < i + 1 → b ≠ 7 + 3 * p) → zR (szI (szR S 2 (7 + 3 * i) (zR S 1 (7 + 3 * i))) 3 (7 + 3 * i) 0) m b = zR S0 m b := fun m b hb => by
      refine (zR_q (fun z => ?_)).trans (b3 m b (fun z p hp => hb z p (by omega)))
      exact hb z i (by omega)
    obtain ⟨f, g, e1, e2, e3, e4⟩ := bg60 e (i + 1) m (szI (szR S 2 (7 + 3 * i) (zR S 1 (7 + 3 * i))) 3 (7 + 3 * i) 0) S0 h1 h2 h3 h4 h5 (by omega) hA hB hC
    refine ⟨f, g, ?_, e2, e3, e4⟩
    rw [← Nat.add_assoc, yT_beginAgain_60, if_neg (show ¬ (6 : Int32) ≤ Int32.ofNat i from mt (j_le (m := 6) (by decide) (by omega)).mp (by omega))]
    refine (zob_s rfl).trans ?_
    rw [if_pos (zal_r (Or.inl h2)).2, h3, if_pos (j_in (by omega) (by omega)), (j_n (n := i) (by omega)).2, h4, rf3_o i (by omega)]
    refine zlb_s.trans ((zob_s rfl).trans ?_)
    rw [if_pos hx, o1]
    refine (zcV_s (show yP_begin S (7 + 3 * i) = some _ by unfold yP_begin; rw [if_pos hx]; rfl)).trans ?_
    exact e1
theorem bg28 : ∀ (e i m : Nat) (S : hS) (S0 : hS), ztg S 2 = 9 → zR S 0 2 = some 3 → ztg S 3 = 24 → zLen S 3 = 6 → zAR S 3 = rf_3 → (∀ p, p < 6 → ztg S (7 + 3 * p) = 5) → ztg S 4 = 25 → zLen S 4 = 36 → zAR S 4 = rf_4 → (∀ k, k < 36 → ztg S (25 + 3 * k) = 7) → i + e = 36 → BGI S0 (zI S) i 0 → zR S = zR S0 → ∃ f g, yT_beginAgain_28 2 (m + 8 + e) S (some 4) 36 (Int32.ofNat i) = some (szI (stY S f g (zAI S)) 5 2 0) ∧ BGI S0 f 36 6 ∧ (∀ p, p < 6 → g 2 (7 + 3 * p) = zR S0 1 (7 + 3 * p)) ∧ (∀ m b, (m = 2 → ∀ p, p < 6 → b ≠ 7 + 3 * p) → g m b = zR S0 m b)
  | 0, i, m, S, S0, h1, h2, h3, h4, h5, h6, h7, h8, h9, h10, hi, b1, b2 => by
    have hi6 : i = 36 := by omega
    subst hi6
    obtain ⟨f, g, e1, e2, e3, e4⟩ := bg60 6 0 m S S0 h1 h3 h4 h5 h6 rfl b1 (fun p hp => by omega) (fun m b _ => by rw [b2])
    refine ⟨f, g, ?_, e2, e3, e4⟩
    rw [Nat.add_zero, show m + 8 = (m + 1 + 6) + 1 by omega, yT_beginAgain_28, if_pos (by decide), if_pos h1]
    refine zlb_s.trans ((zob_s h2).trans ?_)
    rw [if_pos (zal_r (Or.inl h3)).1, h4]
    exact e1
  | e + 1, i, m, S, S0, h1, h2, h3, h4, h5, h6, h7, h8, h9, h10, hi, b1, b2 => by
    have hA : BGI S0 (zI (szI S 3 (25 + 3 * i) 0)) (i + 1) 0 := by
      refine ⟨fun k hk => ?_, fun p hp => by omega, fun m b hb => ?_⟩
      · by_cases q : k = i
        · subst q
          exact zI_self _ _ _ _
        · rw [zI_ne (by omega)]
          exact b1.1 k (by omega)
      · by_cases q : m = 3
        · rw [zI_ne ((hb q).1 i (by omega))]
          exact b1.2.2 m b (fun z => ⟨fun k hk => (hb z).1 k (by omega), (hb z).2⟩)
        · rw [zI_k q]
          exact b1.2.2 m b (fun z => ⟨fun k hk => (hb z).1 k (by omega), (hb z).2⟩)
    obtain ⟨f, g, e1, e2⟩ := bg28 e (i + 1) m (szI S 3 (25 + 3 * i) 0) S0 h1 h2 h3 h4 h5 h6 h7 h8 h9 h10 (by omega) hA b2
    refine ⟨f, g, ?_, e2⟩
    rw [← Nat.add_assoc, yT_beginAgain_28, if_neg (show ¬ (36 : Int32) ≤ Int32.ofNat i from mt (j_le (m := 36) (by decide) (by omega)).mp (by omega))]
    refine (zob_s rfl).trans ?_
    rw [if_pos (zal_r (Or.inr h7)).2, h8, if_pos (j_in (by omega) (by omega)), (j_n (n := i) (by omega)).2, h9, rf4_o i (by omega)]
    refine zlb_s.trans ((zob_s rfl).trans ?_)
    rw [if_pos (h10 i (by omega)), o1]
    exact e1
def BG (S S' : hS) : Prop := ∃ f g h, S' = stY S f g h ∧ (∀ i, i < 24 → h 6 i = zAI S 5 i) ∧ (∀ b, b ≠ 6 → h b = zAI S b) ∧ (∀ k, k < 36 → f 3 (25 + 3 * k) = 0) ∧ (∀ p, p < 6 → f 3 (7 + 3 * p) = 0) ∧ f 5 2 = 0 ∧ (∀ m b, (m = 3 → (∀ k, k < 36 → b ≠ 25 + 3 * k) ∧ (∀ p, p < 6 → b ≠ 7 + 3 * p)) → (m = 5 → b ≠ 2) → f m b = zI S m b) ∧ (∀ p, p < 6 → g 2 (7 + 3 * p) = zR S 1 (7 + 3 * p)) ∧ (∀ m b, (m = 2 → ∀ p, p < 6 → b ≠ 7 + 3 * p) → g m b = zR S m b)
theorem begin_ok (hx : Fix S) (hn : 50 ≤ n) : ∃ S', yT_beginAgain n S 2 = some S' ∧ BG S S' := by
  obtain ⟨-, -, ⟨h1, h2, h3, h4, h5⟩, ⟨p1, p2, p3⟩, ⟨q1, q2, q3⟩, ⟨i1, i2⟩, ⟨v1, v2⟩, -, -, hp, hq⟩ := hx
  obtain ⟨m, rfl⟩ : ∃ m, n = m + 8 + 36 := ⟨n - 44, by omega⟩
  have hc : zcpk (Int32.ofNat (zLen S 6)) S 5 6 := by
    unfold zcpk
    rw [v2, i2]
    decide
  obtain ⟨f, g, e1, e2, e3, e4⟩ := bg28 36 0 m (szAI S 6 (va_cpy (zAI S 5) (zAI S 6) 0 0 (Int32.toNatClampNeg (Int32.ofNat (zLen S 6))))) S h1 h2 p1 p2 p3 (fun p hh => (hp p hh).1) q1 q2 q3 (fun k hk => (hq k hk).1) rfl ⟨fun k hk => by omega, fun p hp => by omega, fun _ _ _ => rfl⟩ rfl
  refine ⟨_, ?_, zI (szI (stY S f g (zAI S)) 5 2 0), g, zAI (szAI S 6 (va_cpy (zAI S 5) (zAI S 6) 0 0 (Int32.toNatClampNeg (Int32.ofNat (zLen S 6))))), rfl, fun i hi => ?_, fun b hb => zup_ne hb, fun k hk => ?_, fun p hp => ?_, zI_self _ _ _ _, fun m b hb hc => ?_, e3, e4⟩
  · unfold yT_beginAgain
    rw [if_pos h1]
    refine zlb_s.trans (zlb_s.trans (zlb_s.trans ((zob_s h5).trans ?_)))
    rw [if_pos (zal_20 v1)]
    refine (zob_s h5).trans ((zob_s h4).trans ?_)
    rw [if_pos i1, if_pos v1, if_pos hc]
    refine zlb_s.trans ((zob_s h3).trans ?_)
    rw [if_pos (zal_r (Or.inr q1)).1, q2]
    exact e1
  · rw [szAI_q, v2]
    show (if 0 ≤ i ∧ i < 0 + 24 then zAI S 5 (0 + (i - 0)) else _) = _
    rw [if_pos (by omega), Nat.zero_add, Nat.sub_zero]
  · rw [zI_k (by decide)]
    exact e2.1 k hk
  · rw [zI_k (by decide)]
    exact e2.2.1 p hp
  · by_cases q : m = 5
    · rw [zI_ne (hc q)]
      exact e2.2.2 m b hb
    · rw [zI_k q]
      exact e2.2.2 m b hb
end BG
