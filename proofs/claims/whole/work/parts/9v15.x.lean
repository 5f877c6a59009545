def IC0 (A : Nat → Nat → Int32) (D : Nat → Nat) : Fo → Nat → Nat → Prop
  | .append (.tag q .nil) r, lo, hi => ItC A (D q) lo ∧ IC0 A D r (lo + 1) hi
  | .append (.tag q (.append (.tag _ t1) .nil)) r, lo, hi => ItC A (D q) lo ∧ Bg A (lo + 1) lo 1 ∧ ∃ e1, IC0 A D t1 (lo + 2) e1 ∧ lo + 2 ≤ e1 ∧ e1 + 1 ≤ hi ∧ En A e1 lo 1 ∧ A 10 lo = Int32.ofNat e1 ∧ IC0 A D r (e1 + 1) hi
  | .append (.tag q (.append (.tag _ t1) (.append (.tag _ t2) .nil))) r, lo, hi => (ItC A (D q) lo ∧ A 9 lo = Int32.ofNat q) ∧ A 14 lo = 0 ∧ Bg A (lo + 1) lo 1 ∧ ∃ e1 e2, IC0 A D t1 (lo + 2) e1 ∧ lo + 2 ≤ e1 ∧ En A e1 lo 1 ∧ A 10 lo = Int32.ofNat e1 ∧ Bg A (e1 + 1) lo 0 ∧ IC0 A D t2 (e1 + 2) e2 ∧ e1 + 2 ≤ e2 ∧ e2 + 1 ≤ hi ∧ En A e2 lo 0 ∧ A 11 lo = Int32.ofNat e2 ∧ IC0 A D r (e2 + 1) hi
  | .nil, lo, hi => lo = hi
  | _, _, _ => False
def Fr4 (I : Nat → Int32) (A : Nat → Nat → Int32) (I' : Nat → Int32) (A' : Nat → Nat → Int32) (lo hi : Nat) : Prop := (∀ k, k < 12 ∨ 16 < k → I' k = I k) ∧ (∀ j, j < 28 ∨ 32 < j → j ≠ 42 → j ≠ 14 → A' j = A j) ∧ (∀ k, k < lo ∨ hi ≤ k → A' 14 k = A 14 k)
section L4
variable {I I' I2 : Nat → Int32} {A A' A2 : Nat → Nat → Int32} {D : Nat → Nat} {s k lo hi : Nat}
theorem Fr4_t {I3 : Nat → Int32} {A3 : Nat → Nat → Int32} {l1 h1 l2 h2 : Nat} (f : Fr4 I A I2 A2 l1 h1) (g : Fr4 I2 A2 I3 A3 l2 h2) (a : lo ≤ l1) (b : h1 ≤ hi) (c : lo ≤ l2) (d : h2 ≤ hi) : Fr4 I A I3 A3 lo hi := ⟨fun k hk => (g.1 k hk).trans (f.1 k hk), fun j h1 h2 h3 => (g.2.1 j h1 h2 h3).trans (f.2.1 j h1 h2 h3), fun k hk => (g.2.2 k (by omega)).trans (f.2.2 k (by omega))⟩
theorem Fr4_r : Fr4 I A I A lo hi := ⟨fun _ _ => rfl, fun _ _ _ _ => rfl, fun _ _ => rfl⟩
theorem ItC_4 (h : ItC A s k) (e : ∀ j, j < 28 → j ≠ 14 → A' j = A j) : ItC A' s k := by
  have ex : Exq A (cE s) k → Exq A' (cE s) k := fun ⟨fr, h1, h2, h3, h4, h5⟩ => ⟨fr, by rw [e 7 (by decide) (by decide)]; exact h1, h2, by rw [e 8 (by decide) (by decide)]; exact h3, by rw [e 2 (by decide) (by decide)]; exact h4, h5⟩
  unfold ItC at h ⊢
  rw [e 3 (by decide) (by decide), e 4 (by decide) (by decide), e 5 (by decide) (by decide), e 6 (by decide) (by decide)]
  refine ⟨h.1, ?_⟩
  rcases h.2 with h | h | h | h | h
  · exact Or.inl ⟨h.1, h.2.1, h.2.2.1, ex h.2.2.2⟩
  · exact Or.inr (Or.inl ⟨h.1, h.2.1, h.2.2.1, h.2.2.2.1, ex h.2.2.2.2⟩)
  · exact Or.inr (Or.inr (Or.inl h))
  · exact Or.inr (Or.inr (Or.inr (Or.inl ⟨h.1, h.2.1, ex h.2.2⟩)))
  · exact Or.inr (Or.inr (Or.inr (Or.inr ⟨h.1, h.2.1, ex h.2.2⟩)))
theorem Bg_4 {h : Nat} {l : Int32} (b : Bg A k h l) (e : ∀ j, j < 28 → j ≠ 14 → A' j = A j) (e2 : A' 14 k = A 14 k) : Bg A' k h l := by
  unfold Bg at b ⊢
  rw [e 3 (by decide) (by decide), e 12 (by decide) (by decide), e 13 (by decide) (by decide), e2]
  exact b
theorem En_4 {h : Nat} {l : Int32} (b : En A k h l) (e : ∀ j, j < 28 → j ≠ 14 → A' j = A j) : En A' k h l := by
  unfold En at b ⊢
  rw [e 3 (by decide) (by decide), e 12 (by decide) (by decide), e 13 (by decide) (by decide)]
  exact b
theorem IC0_le : ∀ (t : Fo), PW D t → ∀ lo hi, IC0 A D t lo hi → lo ≤ hi := PW_ind (fun lo hi h => Nat.le_of_eq h) (fun q r _ _ ih lo hi h => by
    have := ih (lo + 1) hi h.2
    omega) (fun q i t1 r _ _ _ _ ih1 ih2 lo hi h => by
    obtain ⟨_, _, e1, _, h2, h3, _⟩ := h
    omega) (fun q i j t1 t2 r _ _ _ _ _ ih1 ih2 ih3 lo hi h => by
    obtain ⟨_, _, _, e1, e2, _, h2, _, _, _, _, h3, h4, _⟩ := h
    omega)
theorem IC_4 (e : ∀ j, j < 28 → j ≠ 14 → A' j = A j) : ∀ (t : Fo), PW D t → ∀ lo hi, IC A D t lo hi → (∀ k, lo ≤ k → k < hi → A' 14 k = A 14 k) → IC A' D t lo hi := PW_ind (fun _ _ h _ => h) (fun q r _ _ ih lo hi h e2 => ⟨ItC_4 h.1 e, ih _ _ h.2 (fun k h1 h2 => e2 k (by omega) h2)⟩) (fun q i t1 r _ _ p1 p2 ih1 ih2 lo hi h e2 => by
    obtain ⟨it, bg, e1, c1, l1, l2, en, h10, c2⟩ := h
    have := IC_le r p2 _ _ c2
    exact ⟨ItC_4 it e, Bg_4 bg e (e2 _ (by omega) (by omega)), e1, ih1 _ _ c1 (fun k h1 h2 => e2 k (by omega) (by omega)), l1, l2, En_4 en e, by rw [e 10 (by decide) (by decide)]; exact h10, ih2 _ _ c2 (fun k h1 h2 => e2 k (by omega) (by omega))⟩) (fun q i j t1 t2 r _ _ p1 p2 p3 ih1 ih2 ih3 lo hi h e2 => by
    obtain ⟨it, h14, bg, e1, e3, c1, l1, en, h10, bg2, c2, l2, l3, en2, h11, c3⟩ := h
    have := IC_le r p3 _ _ c3
    exact ⟨ItC_4 it e, by rw [e2 lo (by omega) (by omega)]; exact h14, Bg_4 bg e (e2 _ (by omega) (by omega)), e1, e3, ih1 _ _ c1 (fun k h1 h2 => e2 k (by omega) (by omega)), l1, En_4 en e, by rw [e 10 (by decide) (by decide)]; exact h10, Bg_4 bg2 e (e2 _ (by omega) (by omega)), ih2 _ _ c2 (fun k h1 h2 => e2 k (by omega) (by omega)), l2, l3, En_4 en2 e, by rw [e 11 (by decide) (by decide)]; exact h11, ih3 _ _ c3 (fun k h1 h2 => e2 k (by omega) (by omega))⟩)
theorem IC0_4 (e : ∀ j, j < 28 → j ≠ 14 → A' j = A j) : ∀ (t : Fo), PW D t → ∀ lo hi, IC0 A D t lo hi → (∀ k, lo ≤ k → k < hi → A' 14 k = A 14 k) → IC0 A' D t lo hi := PW_ind (fun _ _ h _ => h) (fun q r _ _ ih lo hi h e2 => ⟨ItC_4 h.1 e, ih _ _ h.2 (fun k h1 h2 => e2 k (by omega) h2)⟩) (fun q i t1 r _ _ p1 p2 ih1 ih2 lo hi h e2 => by
    obtain ⟨it, bg, e1, c1, l1, l2, en, h10, c2⟩ := h
    have := IC0_le r p2 _ _ c2
    exact ⟨ItC_4 it e, Bg_4 bg e (e2 _ (by omega) (by omega)), e1, ih1 _ _ c1 (fun k h1 h2 => e2 k (by omega) (by omega)), l1, l2, En_4 en e, by rw [e 10 (by decide) (by decide)]; exact h10, ih2 _ _ c2 (fun k h1 h2 => e2 k (by omega) (by omega))⟩) (fun q i j t1 t2 r _ _ p1 p2 p3 ih1 ih2 ih3 lo hi h e2 => by
    obtain ⟨⟨it, h9⟩, h14, bg, e1, e3, c1, l1, en, h10, bg2, c2, l2, l3, en2, h11, c3⟩ := h
    have := IC0_le r p3 _ _ c3
    exact ⟨⟨ItC_4 it e, by rw [e 9 (by decide) (by decide)]; exact h9⟩, by rw [e2 lo (by omega) (by omega)]; exact h14, Bg_4 bg e (e2 _ (by omega) (by omega)), e1, e3, ih1 _ _ c1 (fun k h1 h2 => e2 k (by omega) (by omega)), l1, En_4 en e, by rw [e 10 (by decide) (by decide)]; exact h10, Bg_4 bg2 e (e2 _ (by omega) (by omega)), ih2 _ _ c2 (fun k h1 h2 => e2 k (by omega) (by omega)), l2, l3, En_4 en2 e, by rw [e 11 (by decide) (by decide)]; exact h11, ih3 _ _ c3 (fun k h1 h2 => e2 k (by omega) (by omega))⟩)
theorem l41_s {m items k : Nat} {l1 l3 : Int32} (h5 : I 5 = Int32.ofNat items) (hi : items ≤ 200) (hk : k < items) (h3 : ¬ A 3 k = 7) : x_load_41 (m + 1) I A l1 l3 (Int32.ofNat k) = x_load_41 m I A l1 l3 (Int32.ofNat (k + 1)) := by
  rw [x_load_41, h5, if_neg (mt (j_le (by omega) (by omega)).mp (by omega)), if_pos (j_in (by omega) (by omega)), (j_n (n := k) (by omega)).2, if_neg h3]
  unfold x_load_92
  rw [o1]
theorem l41_e {m items k h : Nat} {l1 l3 : Int32} (h5 : I 5 = Int32.ofNat items) (hi : items ≤ 200) (hk : k < items) (hh : h < 200) (h3 : A 3 k = 7) (h12 : A 12 k = Int32.ofNat h) (hn : ¬ A 3 h = 4 ∨ A 13 k = 1) : x_load_41 (m + 1) I A l1 l3 (Int32.ofNat k) = x_load_41 m I A l1 l3 (Int32.ofNat (k + 1)) := by
  rw [x_load_41, h5, if_neg (mt (j_le (by omega) (by omega)).mp (by omega)), if_pos (j_in (by omega) (by omega)), (j_n (n := k) (by omega)).2, if_pos h3, h12, if_pos (j_in (by omega) hh), (j_n (n := h) (by omega)).2]
  unfold x_load_92
  rw [o1]
  by_cases q : A 3 h = 4
  · rw [if_pos q, hn.resolve_left (fun z => z q), if_neg (by decide)]
  · rw [if_neg q]
def FlL (I : Nat → Int32) (A : Nat → Nat → Int32) (I' : Nat → Int32) (A' : Nat → Nat → Int32) (P w : Nat) : Prop := I' 0 = (if w < 6 then 2 else 3) ∧ I' 2 = Int32.ofNat P ∧ I' 3 = (if w < 6 then Int32.ofNat w else I 3) ∧ (∀ k, k < 12 ∨ 16 < k → k ≠ 0 → k ≠ 2 → k ≠ 3 → I' k = I k) ∧ (∀ j, j < 28 ∨ 32 < j → j ≠ 42 → j ≠ 14 → A' j = A j)
theorem FlL_4 {P w : Nat} (f : Fr4 I A I2 A2 lo hi) (g : FlL I2 A2 I' A' P w) : FlL I A I' A' P w := by
  obtain ⟨g1, g2, g3, g4, g5⟩ := g
  refine ⟨g1, g2, ?_, fun k h1 h2 h3 h4 => (g4 k h1 h2 h3 h4).trans (f.1 k h1), fun j h1 h2 h3 => (g5 j h1 h2 h3).trans (f.2.1 j h1 h2 h3)⟩
  rw [g3, f.1 3 (by omega)]
theorem mul2_o : ∀ b, b < 7 → (2 : Int32) * Int32.ofNat b = Int32.ofNat (2 * b) := by decide +kernel
theorem bpc_le (u : Nat) : bpc u ≤ 6 := by
  unfold bpc
  split <;> split <;> split <;> split <;> split <;> split <;> omega
theorem lob_lt (u : Nat) : lob u < 6 := by
  unfold lob
  split
  · omega
  · split
    · omega
    · split
      · omega
      · split
        · omega
        · split <;> omega
theorem l41_c {m items h e1 e2 q put cnt : Nat} {pi : Bool} {t1 t2 : Fo} (hs : PWb (D q)) (hk6 : cK (D q) = 6) (p1 : PW D t1) (p2 : PW D t2) (h5 : I 5 = Int32.ofNat items) (hi : items ≤ 200) (h0 : I 0 = 0) (h8 : I 8 = Int32.ofNat cnt) (hcnt : cnt ≤ 40) (hput : put ≤ 80) (it : ItC A (D q) h) (h9 : A 9 h = Int32.ofNat q) (h10 : A 10 h = Int32.ofNat e1) (h11 : A 11 h = Int32.ofNat e2) (c1 : IC A D t1 (h + 2) e1) (c2 : IC A D t2 (e1 + 2) e2) (en : En A e2 h 0) (le1 : h + 2 ≤ e1) (le2 : e1 + 2 ≤ e2) (le3 : e2 < items) (hw : wt D t1 + wt D t2 ≤ 900) (d1 : dpt t1 < 18) (d2 : dpt t2 < 18) (hm : 5010 ≤ m) (h14 : A 14 h = 0) :
  (∀ p, ckc pi cnt (unw (cD (D q)) (cut D t1) (cut D t2)) q put = .inl p → ∃ I' A', x_load_41 (m + 1) I A (ty_b pi) (Int32.ofNat put) (Int32.ofNat e2) = x_load_41 m I' A' (ty_b pi) (Int32.ofNat p) (Int32.ofNat (e2 + 1)) ∧ A' 14 h = Int32.ofNat (unw (cD (D q)) (cut D t1) (cut D t2)) ∧ Fr4 I A I' A' h (h + 1)) ∧ (∀ P w, ckc pi cnt (unw (cD (D q)) (cut D t1) (cut D t2)) q put = .inr (P, w) → ∃ I' A', x_load_41 (m + 1) I A (ty_b pi) (Int32.ofNat put) (Int32.ofNat e2) = some (I', A', 0) ∧ FlL I A I' A' P w) := by
  have k4 : A 3 h = 4 := by
    rcases it.2 with g | g | g | g | g <;> first | omega | exact g.2.1
  obtain ⟨I1, A1, x1, f1⟩ := s_unaware (I := I) (n := m) hs p1 p2 (by omega) it.1 h10 h11 c1 c2 (by omega) (by omega) hw d1 d2 (by omega)
  generalize hu : unw (cD (D q)) (cut D t1) (cut D t2) = u at x1
  have hu64 : u < 64 := by rw [← hu]; exact bts_lt _
  have hb := bpc_le u
  have start : x_load_41 (m + 1) I A (ty_b pi) (Int32.ofNat put) (Int32.ofNat e2) = (if Int32.ofNat u = 0 then (x_load_41 m I1 A1 (ty_b pi) (Int32.ofNat put) (Int32.ofNat (e2 + 1))) else (xb (x_bitsOf m I1 A1 (Int32.ofNat u)) fun I3 A3 v3 => (if ty_b pi = 0 then (if ib (Int32.ofNat h) 200 then (x_load_193 m (upd (upd I3 0 2) 2 ((A3 9) (Int32.toNatClampNeg (Int32.ofNat h)))) A3 (Int32.ofNat u) 5) else none) else (if (I3 8) + (Int32.ofNat put + (2 * v3)) ≤ 80 then (if ib (Int32.ofNat h) 200 then (x_load_41 m (upd I3 0 0) (upA A3 14 (upd (A3 14) (Int32.toNatClampNeg (Int32.ofNat h)) (Int32.ofNat u))) (ty_b pi) (Int32.ofNat put + (2 * v3)) (Int32.ofNat (e2 + 1))) else none) else (if ib (Int32.ofNat h) 200 then (x_load_193 m (upd (upd I3 0 3) 2 ((A3 9) (Int32.toNatClampNeg (Int32.ofNat h)))) A3 (Int32.ofNat u) 5) else none))))) := by
    rw [x_load_41, h5, if_neg (mt (j_le (by omega) (by omega)).mp (by omega)), if_pos (j_in (by omega) (by omega)), (j_n (n := e2) (by omega)).2, if_pos en.1, en.2.1, if_pos (j_in (by omega) (by omega)), (j_n (n := h) (by omega)).2, if_pos k4, en.2.2, if_pos rfl]
    refine (xb_some x1).trans ?_
    rw [f1.2 12 (by omega) (by omega), en.2.1, o1, (j_n (n := h) (by omega)).2]
  have e0 : (Int32.ofNat u = 0) ↔ u = 0 := j_eq (n := 0) (by omega) (by decide)
  rw [start]
  have bt := s_bitsOf (I := I1) (A := A1) (n := m) hu64 (by omega)
  have hI8 : I1 8 = Int32.ofNat cnt := by rw [f1.1 8 (by omega)]; exact h8
  have esum : I1 8 + (Int32.ofNat put + 2 * Int32.ofNat (bpc u)) = Int32.ofNat (cnt + (put + 2 * bpc u)) := by
    rw [hI8, mul2_o _ (by omega), o_add, o_add]
  have e9 : A1 9 h = Int32.ofNat q := by rw [f1.2 9 (by omega) (by omega)]; exact h9
  unfold ckc
  by_cases q0 : u = 0
  · rw [if_pos (e0.mpr q0), if_pos q0]
    refine ⟨fun p hp => ?_, fun P w hp => by cases hp⟩
    cases hp
    refine ⟨I1, A1, rfl, ?_, ⟨f1.1, fun j a b _ => f1.2 j a b, fun k _ => by rw [f1.2 14 (by omega) (by omega)]⟩⟩
    rw [f1.2 14 (by omega) (by omega), h14, q0]
    rfl
  · rw [if_neg (mt e0.mp q0), if_neg q0, xb_some bt]
    rw [if_pos (j_in (show h < 2 ^ 31 by omega) (show h < 200 by omega)), if_pos (j_in (show h < 2 ^ 31 by omega) (show h < 200 by omega)), if_pos (j_in (show h < 2 ^ 31 by omega) (show h < 200 by omega)), (j_n (n := h) (by omega)).2, e9, esum, mul2_o _ (by omega), o_add]
    cases pi with
    | false =>
      rw [tb0, if_pos rfl]
      refine ⟨fun p hp => (by cases hp), fun P w hp => ?_⟩
      cases hp
      obtain ⟨I', y1, y2, y3⟩ := s_193 (I := upd (upd I1 0 2) 2 (Int32.ofNat q)) (A := A1) (n := m) hu64 q0 (by rw [upd_n (by decide), upd_s]) (by omega)
      refine ⟨I', A1, y1, ?_⟩
      have hl := lob_lt u
      unfold FlL
      rw [if_pos hl, if_pos hl]
      refine ⟨?_, ?_, y2, fun k a b c d => ?_, fun j a b _ => f1.2 j a b⟩
      · rw [y3 0 (by decide), upd_n (by decide), upd_s]
      · rw [y3 2 (by decide), upd_s]
      · rw [y3 k d, upd_n c, upd_n b]
        exact f1.1 k a
    | true =>
      rw [tb1, if_neg (show ¬ true = false by decide)]
      by_cases q8 : cnt + (put + 2 * bpc u) ≤ 80
      · rw [if_pos (show Int32.ofNat (cnt + (put + 2 * bpc u)) ≤ 80 from (j_le (n := 80) (by omega) (by decide)).mpr q8), if_pos q8]
        refine ⟨fun p hp => ?_, fun P w hp => by cases hp⟩
        cases hp
        refine ⟨upd I1 0 0, upA A1 14 (upd (A1 14) h (Int32.ofNat u)), rfl, ?_, fun k hk => ?_, fun j a b c => ?_, fun k hk => ?_⟩
        · rw [upA_eq, upd_s]
        · by_cases e : k = 0
          · rw [e, upd_s, h0]
          · rw [upd_n e]
            exact f1.1 k hk
        · rw [upA_ne c]
          exact f1.2 j a b
        · rw [upA_eq, upd_n (by omega), f1.2 14 (by omega) (by omega)]
      · rw [if_neg (show ¬ Int32.ofNat (cnt + (put + 2 * bpc u)) ≤ 80 from mt (j_le (n := 80) (by omega) (by decide)).mp q8), if_neg q8]
        refine ⟨fun p hp => (by cases hp), fun P w hp => ?_⟩
        cases hp
        have y1 := s_193b (I := upd (upd I1 0 3) 2 (Int32.ofNat q)) (A := A1) (n := m) (u := Int32.ofNat u) (by rw [upd_n (by decide), upd_s]) (by omega)
        refine ⟨_, A1, y1, ?_⟩
        unfold FlL
        rw [if_neg (by decide), if_neg (by decide)]
        refine ⟨?_, upd_s, ?_, fun k a b c d => ?_, fun j a b _ => f1.2 j a b⟩
        · rw [upd_n (by decide), upd_s]
        · rw [upd_n (by decide), upd_n (by decide)]
          exact f1.1 3 (by omega)
        · rw [upd_n c, upd_n b]
          exact f1.1 k a
end L4
