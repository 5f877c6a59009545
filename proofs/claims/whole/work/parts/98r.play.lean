section PL
variable {I : Nat → Int32} {f : Nat → Int32} {c : Nat}
theorem V_00 : upd (upd (upd (upd (upd I 6 0) 7 0) 5 0) 8 0) 9 0 = V I 0 0 false 0 0 := by
  funext x
  unfold V
  by_cases h9 : x = 9
  · subst h9; rfl
  · rw [upd_n h9, upd_n h9]
    by_cases h8 : x = 8
    · subst h8; rfl
    · rw [upd_n h8, upd_n h8]
      by_cases h7 : x = 7
      · subst h7; rfl
      · rw [upd_n h7]
        by_cases h5 : x = 5
        · subst h5; rfl
        · rw [upd_n h5, upd_n h7]
          by_cases h6 : x = 6
          · subst h6; rfl
          · rw [upd_n h6, upd_n h6, upd_n h5]
theorem cp_10 (hI : I 1 = Int32.ofNat c) (hc : c ≤ 200) : ∀ (q j : Nat) (A : Nat → Nat → Int32), j + q = c → ∃ A', (∀ m, x_isPlay_10 (m + q + 1) I A (Int32.ofNat j) = x_isPlay_63 m (V I 0 0 false 0 0) A' 0) ∧ (∀ i, i ≠ 2 → A' i = A i) ∧ (∀ x, x < j → A' 2 x = A 2 x) ∧ (∀ x, j ≤ x → x < c → A' 2 x = A 1 x)
  | 0, j, A, h => by
    refine ⟨A, fun m => ?_, fun _ _ => rfl, fun _ _ => rfl, fun x h1 h2 => by omega⟩
    rw [x_isPlay_10, hI, if_pos (show Int32.ofNat c ≤ Int32.ofNat j from (j_le (by omega) (by omega)).mpr (by omega)), V_00]
  | q + 1, j, A, h => by
    obtain ⟨A', e1, e2, e3, e4⟩ := cp_10 hI hc q (j + 1) (upA A 2 (upd (A 2) j (A 1 j))) (by omega)
    refine ⟨A', fun m => ?_, fun i hi => (e2 i hi).trans (upA_ne hi), fun x hx => ?_, fun x h1 h2 => ?_⟩
    · rw [show m + (q + 1) + 1 = (m + q + 1) + 1 from rfl, x_isPlay_10, hI, if_neg (show ¬ Int32.ofNat c ≤ Int32.ofNat j from mt (j_le (by omega) (by omega)).mp (by omega)), if_pos (show ib (Int32.ofNat j) 200 from j_in (by omega) (by omega)), (j_n (n := j) (by omega)).2, show Int32.ofNat j + 1 = Int32.ofNat (j + 1) from ty_add j 1]
      exact e1 m
    · rw [e3 x (by omega), upA_eq, upd_n (by omega)]
    · by_cases z : x = j
      · subst z
        rw [e3 x (by omega), upA_eq, upd_s]
      · rw [e4 x (by omega) h2, upA_ne (by decide)]
theorem ref_play {A : Nat → Nat → Int32} {T : pw × Nat × Fo} (hT : T = pRow f c 9 0 (0, false) 0) (hI : I 1 = Int32.ofNat c) (hc : c ≤ 200) (hf : ∀ j, j < c → A 1 j = f j) (hl : Ltr f c) :
  ((T.1.2 = true ∨ T.2.2 = .nil) → ∃ N, ∀ m, N ≤ m → ∃ k P b n e A', x_isPlay m I A = some (upd (V (upd I 4 (I 1)) k P b n e) 2 (Int32.ofNat T.1.1), A', 0) ∧ (∀ j, (j < 2 ∨ 15 < j) → A' j = A j)) ∧
  (T.1.2 = false → T.2.2 ≠ .nil → T.1.1 = c ∧ ∃ N k' A', (∀ m, N ≤ m → x_isPlay m I A = some (V (upd I 4 (I 1)) k' c false T.2.1 0, A', 1)) ∧ k' ≤ c ∧ T.2.1 ≤ 40 ∧ IR A' f c T.2.2 0 k' ∧ (∀ j, (j < 2 ∨ 15 < j) → A' j = A j) ∧ (∀ x, x < c → A' 2 x = f x) ∧ Nd f c) := by
  have h1 : upd I 4 (I 1) 1 = Int32.ofNat c := hI
  obtain ⟨A1, e1, e2, -, e4⟩ := cp_10 (I := upd I 4 (I 1)) h1 hc c 0 A (by omega)
  have hR : Rf (upd I 4 (I 1)) A1 c f := ⟨hI, hc, fun j hj => (e4 j (Nat.zero_le _) hj).trans (hf j hj)⟩
  have start : ∀ m, x_isPlay (m + c + 1) I A = x_isPlay_63 m (V (upd I 4 (I 1)) 0 0 false 0 0) A1 0 := fun m => e1 m
  obtain ⟨ra, rb⟩ := sim_row (I := upd I 4 (I 1)) hl 9 0 rfl (by decide) 0 0 0 A1 0 hR (Nat.le_refl _) (Nat.zero_le _) (by decide) (fun z => absurd rfl z)
  rw [← hT] at ra rb
  clear hT
  obtain ⟨⟨Q, w⟩, n1, t⟩ := T
  have fr : ∀ (A' : Nat → Nat → Int32), (∀ j, (j < 3 ∨ 15 < j) → A' j = A1 j) → ∀ j, (j < 2 ∨ 15 < j) → A' j = A j := fun A' hA j hj => (hA j (by omega)).trans (e2 j (by omega))
  cases w with
  | true =>
    refine ⟨fun _ => ?_, fun z => Bool.noConfusion z⟩
    obtain ⟨i, r1⟩ := rb rfl
    refine ⟨4 + i + c + 1, fun m hm => ?_⟩
    obtain ⟨m', hm'⟩ : ∃ m', m = (4 + m') + i + c + 1 := ⟨m - (4 + i + c + 1), by omega⟩
    obtain ⟨k, P, b, n, e, A', s1, s2⟩ := r1 (4 + m') (by omega)
    refine ⟨k, P, b, n, e, A', ?_, fr A' s2⟩
    rw [hm', start ((4 + m') + i)]
    exact s1
  | false =>
    obtain ⟨i, k', A', l', r1, r2, r3, r4, r5, r6, r7, r8, r9, r10, r11⟩ := ra rfl
    have hQ : Q = c := by
      unfold ks_ends at r9
      rw [if_pos rfl] at r9
      exact of_decide_eq_true r9
    have h2 : Rf (upd I 4 (I 1)) A' c f := Rf_f hR r8
    refine ⟨fun z => ?_, fun _ hne => ?_⟩
    · have ht : t = .nil := z.resolve_left (fun y => Bool.noConfusion y)
      obtain ⟨y1, y2⟩ := r10 ht
      have y2' : Q = 0 := y2
      refine ⟨5 + i + c + 1, fun m hm => ?_⟩
      obtain ⟨m', hm'⟩ : ∃ m', m = (4 + m' + 1) + i + c + 1 := ⟨m - (5 + i + c + 1), by omega⟩
      refine ⟨k', Q, false, n1, 0, A', ?_, fr A' r8.1⟩
      rw [hm', start ((4 + m' + 1) + i), r1 (4 + m' + 1) (by omega), y1]
      show x_isPlay_63 (4 + m' + 1) (V (upd I 4 (I 1)) k' Q false n1 0) A' 0 = _
      rw [it_stop h2 r4 (Or.inl hQ)]
      unfold x_isPlay_155
      rw [if_pos rfl, show V (upd I 4 (I 1)) k' Q false n1 0 7 = ty_b false from rfl, tb0, show V (upd I 4 (I 1)) k' Q false n1 0 4 = Int32.ofNat c from h2.1]
      show _ = some (upd (V (upd I 4 (I 1)) k' Q false n1 0) 2 (Int32.ofNat Q), A', 0)
      rw [hQ]
    · obtain ⟨y1, y2⟩ := r11 hne
      subst hQ
      have hw : l' = 1 := by
        rw [y1]
        exact if_pos ⟨rfl, rfl, rfl, y2.2⟩
      refine ⟨rfl, 5 + i + Q + 1, k', A', fun m hm => ?_, r3, r5, r7, fr A' r8.1, fun x hx => h2.2.2 x hx, y2⟩
      obtain ⟨m', hm'⟩ : ∃ m', m = (4 + m' + 1) + i + Q + 1 := ⟨m - (5 + i + Q + 1), by omega⟩
      rw [hm', start ((4 + m' + 1) + i), r1 (4 + m' + 1) (by omega), hw]
      show x_isPlay_63 (4 + m' + 1) (V (upd I 4 (I 1)) k' Q false n1 0) A' 1 = _
      rw [it_stop h2 (Nat.le_refl _) (Or.inl rfl)]
      unfold x_isPlay_155
      rw [if_neg (by decide)]
end PL
