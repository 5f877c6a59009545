def TYP (S S' : hS) : Prop := ∃ g v A', S' = szM (szI (szAI S 1 g) 1 0 v) (upd (upd (zMI S) 0 0) 1 v) A' ∧ (∀ k, k ≠ 1 → A' k = zMA S k) ∧ Txt S'
theorem zAI_n {S : hS} {a b : Nat} {g : Nat → Int32} (h : b ≠ a) : zAI (szAI S a g) b = zAI S b := if_neg h
theorem Bas_ty {S S' : hS} (h : Bas S) (r : TYP S S') : Bas S' := by
  obtain ⟨g, v, A', rfl, ha, ht'⟩ := r
  obtain ⟨hl, hf, ht, hq, hv, hfl⟩ := h
  refine ⟨hl, hf, ht', ?_, ?_, ?_⟩
  · obtain ⟨r, q1, q2, q3, q4, q5⟩ := hq
    refine ⟨r, q1, q2, ?_, ?_, fun k hk => ?_⟩
    · show zI (szI (szAI S 1 g) 1 0 v) 4 2 = _
      rw [zI_k (by decide)]
      exact q3
    · show upd (upd (zMI S) 0 0) 1 v 17 = _
      rw [upd_n (by decide), upd_n (by decide)]
      exact q4
    · obtain ⟨h, z, p1, p2, p3, p4, p5, p6⟩ := q5 k hk
      refine ⟨h, z, p1, p2, ?_, ?_, ?_, fun i hi => ?_⟩
      · show zI (szI (szAI S 1 g) 1 0 v) 2 _ = _
        rw [zI_k (by decide)]
        exact p3
      · show zI (szI (szAI S 1 g) 1 0 v) 3 _ = _
        rw [zI_k (by decide)]
        exact p4
      · show A' 39 k = _
        rw [ha 39 (by decide)]
        exact p5
      · show zAI (szAI S 1 g) (26 + 3 * k) ((h + i) % 8) = A' 40 (8 * k + i) ∧ zAI (szAI S 1 g) (27 + 3 * k) ((h + i) % 8) = A' 41 (8 * k + i) ∧ (A' 41 (8 * k + i) = 0 ∨ A' 41 (8 * k + i) = 1)
        rw [zAI_n (by omega), zAI_n (by omega), ha 40 (by decide), ha 41 (by decide)]
        exact p6 i hi
  · intro i hi
    show zAI (szAI S 1 g) 5 i = A' 33 i ∧ zAI (szAI S 1 g) 6 i = A' 34 i ∧ zAI (szAI S 1 g) 133 i = A' 35 i
    rw [zAI_n (by decide), zAI_n (by decide), zAI_n (by decide), ha 33 (by decide), ha 34 (by decide), ha 35 (by decide)]
    exact hv i hi
  · obtain ⟨q1, q2, q3⟩ := hfl
    refine ⟨?_, ?_, ?_⟩
    · show zI (szI (szAI S 1 g) 1 0 v) 2 0 = upd (upd (zMI S) 0 0) 1 v 2
      rw [zI_k (by decide), upd_n (by decide), upd_n (by decide)]
      exact q1
    · show zI (szI (szAI S 1 g) 1 0 v) 3 0 = upd (upd (zMI S) 0 0) 1 v 3
      rw [zI_k (by decide), upd_n (by decide), upd_n (by decide)]
      exact q2
    · show zI (szI (szAI S 1 g) 1 0 v) 5 2 = upd (upd (zMI S) 0 0) 1 v 18 ∧ (upd (upd (zMI S) 0 0) 1 v 18 = 0 ∨ upd (upd (zMI S) 0 0) 1 v 18 = 1)
      rw [zI_k (by decide), upd_n (by decide), upd_n (by decide)]
      exact q3
theorem op_0 {S : hS} {a1 a2 a3 : Int32} (h : Bas S) : ∃ S', Alk_0 S a1 a2 a3 S' ∧ (RO S S' ∨ TYP S S') := by
  obtain ⟨hl, hf, ht, hq, hv, hfl⟩ := h
  obtain ⟨⟨h0, r0, -, -⟩, ⟨h1, h2⟩, -⟩ := hf
  obtain ⟨c, hc, t1, t2, t3⟩ := ht
  unfold Alk_0
  generalize ((Int32.toInt64 a1) <<< (Int32.toInt64 32 &&& 63)) ||| ((Int32.toInt64 a2) &&& 4294967295) = w
  obtain ⟨m1, q1, e1⟩ := ys (w := w) (S := S) h0 8 0 18 rfl (Nat.le_refl _)
  obtain ⟨m2, q2, e2⟩ := xs (w := w) (I := upd (zMI S) 0 0) (A := zMA S) 8 0 18 true rfl (Nat.le_refl _)
  have k := ty_ms_sc w 8 0
  have t2' : upd (zMI S) 0 0 1 = Int32.ofNat c := t2
  have Y : ∀ {z}, y_type_2 0 18 S w (Int32.ofNat 0) = z → y_type 18 S 0 w = z := fun z => by unfold y_type; exact z
  have X : ∀ {z}, x_type_10 18 (upd (zMI S) 0 0) (zMA S) w (Int32.ofNat 0) (ty_b true) = z → x_type 18 (zMI S) (zMA S) w = z := fun z => by unfold x_type; exact z
  cases hs : ty_sc (by_g w) 8 0 with
  | none =>
    rw [hs] at k e1
    have k' : (ty_ms (by_g w) 8 0 true).2 = false := k
    exact ⟨szM S (upd (zMI S) 0 0) (zMA S), ⟨18, 0, S, upd (zMI S) 0 0, zMA S, Y e1, X (e2.trans (if_pos k')), rfl⟩, Or.inl (RO_r 0)⟩
  | some n =>
    rw [hs] at k e1
    have k' : ty_ms (by_g w) 8 0 true = (n, true) := k
    rw [k'] at e2
    obtain ⟨hn, hok⟩ := sc_ok w 8 0 n hs
    unfold yout at e1
    unfold xout at e2
    rw [if_neg (show ¬ ((n, true) : Nat × Bool).2 = false from fun z => Bool.noConfusion z), t2', show ((n, true) : Nat × Bool).1 = n from rfl, ty_add] at e2
    simp only [] at e1
    rw [t1, ty_add] at e1
    by_cases q : c + n ≤ 200
    · rw [if_pos ((ty_le200 (c + n) (by omega)).mpr q)] at e1 e2
      obtain ⟨g, y1, y2, y3⟩ := ya (w := w) (n := n) (c := c) hn q n 0 m1 S (by omega) (by omega) h0 r0 h1 h2 t1
      obtain ⟨A', x1, x0, x2, x3⟩ := xa (w := w) (n := n) (c := c) (I := upd (zMI S) 0 0) hn q t2' n 0 m2 (zMA S) (by omega) (by omega)
      refine ⟨szM (szI (szAI S 1 g) 1 0 (Int32.ofNat (c + n))) (upd (upd (zMI S) 0 0) 1 (Int32.ofNat (c + n))) A', ⟨18, 1, szI (szAI S 1 g) 1 0 (Int32.ofNat (c + n)), _, A', Y (e1.trans y1), X (e2.trans x1), rfl⟩, Or.inr ⟨g, _, A', rfl, x0, c + n, q, (show zI (szI (szAI S 1 g) 1 0 (Int32.ofNat (c + n))) 1 0 = Int32.ofNat (c + n) from zI_self _ _ _ _), (show upd (upd (zMI S) 0 0) 1 (Int32.ofNat (c + n)) 1 = Int32.ofNat (c + n) from upd_s), fun i hi => ?_⟩⟩
      show zAI (szAI S 1 g) 1 i = A' 1 i ∧ 33 ≤ (zAI (szAI S 1 g) 1 i).toInt ∧ (zAI (szAI S 1 g) 1 i).toInt ≤ 126
      rw [zAI_s]
      by_cases z : i < c
      · rw [y2 i (by omega), x2 i (by omega)]
        exact t3 i z
      · obtain ⟨x, hx⟩ : ∃ x, i = c + x := ⟨i - c, by omega⟩
        subst hx
        rw [y3 x (Nat.zero_le _) (by omega), x3 x (Nat.zero_le _) (by omega)]
        exact ⟨rfl, hok x (Nat.zero_le _) (by omega)⟩
    · rw [if_neg (mt (ty_le200 (c + n) (by omega)).mp q)] at e1 e2
      exact ⟨szM S (upd (zMI S) 0 0) (zMA S), ⟨18, 0, S, upd (zMI S) 0 0, zMA S, Y e1, X e2, rfl⟩, Or.inl (RO_r 0)⟩
