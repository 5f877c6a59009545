theorem p1_31 (x : Int32) : 0 ≤ (x &&& 31).toInt ∧ (x &&& 31).toInt ≤ 31 := by
  have h1 : (x &&& 31).toBitVec.toNat ≤ 31 := by
    show (x.toBitVec &&& 31#32).toNat ≤ 31
    rw [BitVec.toNat_and]
    exact Nat.and_le_right
  have h2 : (x &&& 31).toInt = ((x &&& 31).toBitVec.toNat : Int) := by
    show (x &&& 31).toBitVec.toInt = _
    rw [BitVec.toInt_eq_toNat_of_lt (by omega)]
  omega
theorem p1_k (x : Int32) : (∃ k : Nat, k ≤ 17 ∧ x &&& 31 = Int32.ofNat k) ∨ 17 < (x &&& 31).toInt := by
  by_cases h : 17 < (x &&& 31).toInt
  · exact Or.inr h
  · refine Or.inl ⟨(x &&& 31).toInt.toNat, ?_, ?_⟩
    · have := (p1_31 x).1; omega
    · apply Int32.toInt_inj.mp
      have h0 := (p1_31 x).1
      have h1 : (x &&& 31).toInt.toNat ≤ 17 := by omega
      have h2 : ∀ n : Nat, n ≤ 17 → (Int32.ofNat n).toInt = n := by decide
      rw [h2 _ h1]; omega
theorem p1_any (xs : Nat → Int32) : ∃ h9 : ie_H, Go (4, xs) 10 222 (32, [some (.ref ie_S), some (.ref 0), some (.ref 134), some (.ref 177), some (.int 0), none, none], [], hp_0) (.inl (some (.int 1))) h9 ∧ h9.length ≤ 600002 ∧ ie_sm h9 ≤ 7302232 := by
  rcases p1_k (xs 0) with ⟨k, hk, h⟩ | h
  · match k, hk with
    | 0, _ => exact p1_0 xs h
    | 1, _ =>
      by_cases hz : xs 1 = 0
      · exact p1_1z xs h hz
      · exact p1_1n xs h hz
    | 2, _ => exact p1_2 xs h
    | 3, _ => exact p1_3 xs h
    | 4, _ => exact p1_4 xs h
    | 5, _ => exact p1_5 xs h
    | 6, _ => exact p1_6 xs h
    | 7, _ => exact p1_7 xs h
    | 8, _ => exact p1_8 xs h
    | 9, _ => exact p1_9 xs h
    | 10, _ => exact p1_10 xs h
    | 11, _ => exact p1_11 xs h
    | 12, _ => exact p1_12 xs h
    | 13, _ => exact p1_13 xs h
    | 14, _ => exact p1_14 xs h
    | 15, _ => exact p1_15 xs h
    | 16, _ => exact p1_16 xs h
    | 17, _ => exact p1_17 xs h
    | k + 18, hk => exact absurd hk (by omega)
  · exact p1_18 xs h
theorem p1_claim (L : Nat) (xs : Nat → Int32) (hL : L ≤ 4) : ∃ (n d : Nat) (h' : ie_H), ie_ev (L, xs) n d 222 (0, ie_en 222 [.ref ie_S], [], []) = some (.inl (some (.int 1)), h') ∧ h'.length ≤ 600002 ∧ ie_sm h' ≤ 7302232 ∧ d ≤ 1000 := by
  by_cases h4 : L = 4
  · subst h4
    obtain ⟨h9, hg, hb, hs⟩ := p1_any xs
    obtain ⟨n, hn⟩ := lw_begin (X := (4, xs)) (lw_head (by show ¬ Int32.ofNat 4 - 4 < (0 : Int32); decide) hg)
    exact ⟨n, 10, h9, hn, hb, hs, by decide⟩
  · have hx : Int32.ofNat ((L, xs) : ie_X).1 - 4 < (0 : Int32) := by
      have h : ∀ n : Nat, n < 4 → Int32.ofNat n - 4 < (0 : Int32) := by decide
      exact h L (by omega)
    obtain ⟨n, hn⟩ := lw_begin (X := (L, xs)) (lw_exit hx)
    exact ⟨n, 10, hp_0, hn, by rw [hp_0n]; decide, hp_0s, by decide⟩
