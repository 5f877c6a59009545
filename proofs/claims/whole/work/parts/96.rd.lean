theorem tb1 {α : Type} {x y : α} : (if ty_b true = 0 then x else y) = y := rfl
theorem tb0 {α : Type} {x y : α} : (if ty_b false = 0 then x else y) = x := rfl
theorem ift {α : Type} {x y : α} : (if true = true then x else y) = x := rfl
theorem iff' {α : Type} {x y : α} : (if false = true then x else y) = y := rfl
theorem zup2_eq {α : Type} (f : Nat → Nat → α) (k a : Nat) (v w : α) : zup2 (zup2 f k a v) k a w = zup2 f k a w := by
  funext j b
  unfold zup2
  by_cases q : j = k
  · rw [if_pos q, if_pos q]
    by_cases q2 : b = a
    · rw [if_pos q2, if_pos q2, if_pos q]
    · rw [if_neg q2, if_neg q2, if_neg q2, if_pos q]
  · rw [if_neg q, if_neg q, if_neg q]
theorem zup2_co {α : Type} (f : Nat → Nat → α) {k l a b : Nat} (v w : α) (h : k ≠ l) : zup2 (zup2 f k a v) l b w = zup2 (zup2 f l b w) k a v := by
  funext j c
  unfold zup2
  by_cases q : j = k
  · subst q
    rw [if_neg h, if_pos rfl, if_pos rfl, if_neg h]
  · by_cases q2 : j = l
    · rw [if_pos q2, if_neg q, if_neg q, if_pos q2]
    · rw [if_neg q2, if_neg q, if_neg q, if_neg q2]
theorem zup_eq {α : Type} (f : Nat → α) (a : Nat) (v w : α) : zup (zup f a v) a w = zup f a w := by
  funext b
  unfold zup
  by_cases q : b = a
  · rw [if_pos q, if_pos q]
  · rw [if_neg q, if_neg q, if_neg q]
theorem szI_eq (S : hS) (k a : Nat) (v w : Int32) : szI (szI S k a v) k a w = szI S k a w := by
  show (S.1, S.2.1, S.2.2.1, zup2 (zup2 S.2.2.2.1 k a v) k a w, _) = _
  rw [zup2_eq]
  rfl
theorem szI_co (S : hS) {k l a b : Nat} (v w : Int32) (h : k ≠ l) : szI (szI S k a v) l b w = szI (szI S l b w) k a v := by
  show (S.1, S.2.1, S.2.2.1, zup2 (zup2 S.2.2.2.1 k a v) l b w, _) = _
  rw [zup2_co _ _ _ h]
  rfl
theorem szL_eq (S : hS) (a : Nat) (v w : Int64) : szL (szL S a v) a w = szL S a w := by
  show (S.1, S.2.1, S.2.2.1, S.2.2.2.1, zup (zup S.2.2.2.2.1 a v) a w, _) = _
  rw [zup_eq]
  rfl
theorem szL_I (S : hS) (k a b : Nat) (v : Int32) (w : Int64) : szL (szI S k a v) b w = szI (szL S b w) k a v := rfl
def U (S : hS) (a : Nat) (s : rs) (n : Nat) : hS := szI (szI (szI (szI (szL S a s.2.2.1) 2 a (Int32.ofNat s.1)) 3 a (Int32.ofNat n)) 4 a (ty_b s.2.1)) 6 a (Int32.ofNat s.2.2.2)
section US
variable {S : hS} {a n : Nat} {s : rs}
theorem U_g2 : zI (U S a s n) 2 a = Int32.ofNat s.1 := by simp [U, zI, szI, zup2]
theorem U_g3 : zI (U S a s n) 3 a = Int32.ofNat n := by simp [U, zI, szI, zup2]
theorem U_g4 : zI (U S a s n) 4 a = ty_b s.2.1 := by simp [U, zI, szI, zup2]
theorem U_g6 : zI (U S a s n) 6 a = Int32.ofNat s.2.2.2 := by simp [U, zI, szI, zup2]
theorem U_gL : zL (U S a s n) a = s.2.2.1 := by simp [U, zL, szI, szL, zup]
theorem U_s2 (p : Nat) : szI (U S a s n) 2 a (Int32.ofNat p) = U S a (p, s.2) n := by
  unfold U
  rw [szI_co _ _ _ (by decide : (6 : Nat) ≠ 2), szI_co _ _ _ (by decide : (4 : Nat) ≠ 2), szI_co _ _ _ (by decide : (3 : Nat) ≠ 2), szI_eq]
theorem U_s3 (m : Nat) : szI (U S a s n) 3 a (Int32.ofNat m) = U S a s m := by
  unfold U
  rw [szI_co _ _ _ (by decide : (6 : Nat) ≠ 3), szI_co _ _ _ (by decide : (4 : Nat) ≠ 3), szI_eq]
theorem U_s4 : szI (U S a s n) 4 a 1 = U S a (ks_wrong s) n := by
  unfold U
  rw [szI_co _ _ _ (by decide : (6 : Nat) ≠ 4), szI_eq]
  rfl
theorem U_s6 (l : Nat) : szI (U S a s n) 6 a (Int32.ofNat l) = U S a (s.1, s.2.1, s.2.2.1, l) n := by
  unfold U
  rw [szI_eq]
theorem U_sL (e : Int64) : szL (U S a s n) a e = U S a (s.1, s.2.1, e, s.2.2.2) n := by
  unfold U
  rw [szL_I, szL_I, szL_I, szL_I, szL_eq]
end US
def Rd (S : hS) (a c : Nat) (f : Nat → Int32) : Prop := ztg S a = 6 ∧ zR S 0 a = some 1 ∧ ztg S 1 = 21 ∧ zLen S 1 = 200 ∧ zI S 1 a = Int32.ofNat c ∧ c ≤ 200 ∧ zAI S 1 = f ∧ ∀ j, j < c → 0 ≤ (f j).toInt ∧ (f j).toInt < 65536
section UA
variable {S : hS} {a c n m : Nat} {s : rs} {f : Nat → Int32}
theorem u_ahead (h : Rd S a c f) (hs : s.1 ≤ c) {i : Nat} (hi : i ≤ 1) : yR_ahead (U S a s n) a (Int32.ofNat i) = some (U S a s n, ka f c s i) := by
  obtain ⟨h1, h2, h3, h4, h5, h6, h7, h8⟩ := h
  have e1 : zI (U S a s n) 1 a = Int32.ofNat c := h5
  unfold yR_ahead
  rw [if_pos (show ztg (U S a s n) a = 6 from h1), U_g4, e1, U_g2, ty_add]
  unfold ka rd_ah
  cases hw : s.2.1 with
  | true => rw [tb1, ift]
  | false =>
    rw [tb0, iff']
    by_cases q : s.1 + i < c
    · rw [if_neg (show ¬ Int32.ofNat c ≤ Int32.ofNat (s.1 + i) from mt (j_le (by omega) (by omega)).mp (by omega)), if_pos q]
      show zob (zR S 0 a) _ = _
      rw [h2]
      show (if ztg S 1 = 21 then _ else none) = _
      rw [if_pos h3, if_pos (show ib (Int32.ofNat (s.1 + i)) (zLen (U S a s n) 1) by rw [show zLen (U S a s n) 1 = 200 from h4]; exact j_in (by omega) (by omega)), (j_n (n := s.1 + i) (by omega)).2]
      have e2 : zAI (U S a s n) 1 = f := h7
      rw [e2, if_pos (h8 _ q)]
    · rw [if_pos (show Int32.ofNat c ≤ Int32.ofNat (s.1 + i) from (j_le (by omega) (by omega)).mpr (by omega)), if_neg q]
theorem u_expect (h : Rd S a c f) (hs : s.1 ≤ c) (x : Int32) : yR_expect (U S a s n) a x = some (U S a (ks_expect f c x s) n) := by
  have h1 : ztg (U S a s n) a = 6 := h.1
  have e : yR_ahead (U S a s n) a 0 = some (U S a s n, ka f c s 0) := u_ahead h hs (i := 0) (by decide)
  unfold yR_expect ks_expect
  rw [if_pos h1, e]
  show (if ka f c s 0 = x then _ else _) = _
  by_cases q : ka f c s 0 = x
  · rw [if_pos q, if_pos q, if_pos h1, U_g2, show (1 : Int32) = Int32.ofNat 1 from rfl, ty_add, U_s2]
    rfl
  · rw [if_neg q, if_neg q, if_pos h1, U_s4]
theorem rd_in_e (x y : Int32) : rd_in x y = true ↔ ¬ x < 0 ∧ x < y := by
  unfold rd_in
  rw [Bool.and_eq_true, decide_eq_true_eq, decide_eq_true_eq, Int32.lt_iff_toInt_lt, Int32.lt_iff_toInt_lt]
theorem u_one (h : Rd S a c f) (hs : s.1 ≤ c) (x y : Int32) : yR_readOneOf (U S a s n) a x y = some (U S a (ks_one f c x y s) n, kv_one f c x y s) := by
  have h1 : ztg (U S a s n) a = 6 := h.1
  have e : yR_ahead (U S a s n) a 0 = some (U S a s n, ka f c s 0) := u_ahead h hs (i := 0) (by decide)
  unfold yR_readOneOf ks_one kv_one
  rw [if_pos h1, e]
  show (if ka f c s 0 - x < 0 then _ else _) = _
  by_cases q : ka f c s 0 - x < 0
  · have : ¬ rd_in (ka f c s 0 - x) y = true := fun z => ((rd_in_e _ _).mp z).1 q
    rw [if_pos q, if_pos h1, U_s4, if_neg this, if_neg this]
  · rw [if_neg q]
    by_cases q2 : ka f c s 0 - x < y
    · have : rd_in (ka f c s 0 - x) y = true := (rd_in_e _ _).mpr ⟨q, q2⟩
      rw [if_pos q2, if_pos h1, U_g2, show (1 : Int32) = Int32.ofNat 1 from rfl, ty_add, U_s2, if_pos this, if_pos this]
      rfl
    · have : ¬ rd_in (ka f c s 0 - x) y = true := fun z => q2 ((rd_in_e _ _).mp z).2
      rw [if_neg q2, if_pos h1, U_s4, if_neg this, if_neg this]
theorem u_other (h : Rd S a c f) (hs : s.1 ≤ c) (p : Int32) : yR_readOther (U S a s n) a p = some (U S a (ks_other f c p s) n, kv_other f c p s) := by
  have h1 : ztg (U S a s n) a = 6 := h.1
  have e : yR_ahead (U S a s n) a 0 = some (U S a s n, ka f c s 0) := u_ahead h hs (i := 0) (by decide)
  unfold yR_readOther ks_other kv_other
  rw [if_pos h1, e]
  show (if ka f c s 0 = 65 + p then _ else _) = _
  unfold ks_oth0
  by_cases q : ka f c s 0 = 65 + p
  · rw [if_pos q, if_pos h1, U_s4, u_one h (show (ks_wrong s).1 ≤ c from hs), if_pos q]
    rfl
  · rw [if_neg q, if_pos h1, u_one h hs, if_neg q]
    rfl
theorem u_keep (h : Rd S a c f) (hs : s.1 ≤ c) : yR_keep (U S a s n) a = some (U S a (ks_keep f c s) n) := by
  obtain ⟨h1, h2, h3, h4, h5, h6, h7, h8⟩ := h
  have e1 : zI (U S a s n) 1 a = Int32.ofNat c := h5
  unfold yR_keep ks_keep
  rw [if_pos (show ztg (U S a s n) a = 6 from h1), e1, U_g2]
  by_cases q : s.1 < c
  · rw [if_neg (show ¬ Int32.ofNat c ≤ Int32.ofNat s.1 from mt (j_le (by omega) (by omega)).mp (by omega)), if_pos q]
    show zob (zR S 0 a) _ = _
    rw [h2]
    show (if ztg S 1 = 21 then _ else none) = _
    rw [if_pos h3, if_pos (show ib (Int32.ofNat s.1) (zLen (U S a s n) 1) by rw [show zLen (U S a s n) 1 = 200 from h4]; exact j_in (by omega) (by omega)), (j_n (n := s.1) (by omega)).2]
    have e2 : zAI (U S a s n) 1 = f := h7
    rw [e2, U_gL, U_g6, U_sL, show (1 : Int32) = Int32.ofNat 1 from rfl, ty_add, ty_add, U_s6, U_s2]
    rfl
  · rw [if_pos (show Int32.ofNat c ≤ Int32.ofNat s.1 from (j_le (by omega) (by omega)).mpr (by omega)), if_neg q]
theorem u_loop (h : Rd S a c f) : ∀ (j i m : Nat) (s : rs), i + j = 3 → j + 1 ≤ m → s.1 ≤ c → yR_readTerm_34 a m (U S a s n) (Int32.ofNat i) = some (U S a (ks_loop f c j s) n)
  | 0, i, m + 1, s, hi, hm, hs => by
    have : i = 3 := by omega
    subst this
    unfold yR_readTerm_34
    rw [if_pos (by decide)]
    rfl
  | j + 1, i, m + 1, s, hi, hm, hs => by
    have h1 : ztg (U S a s n) a = 6 := h.1
    have e : yR_ahead (U S a s n) a 0 = some (U S a s n, ka f c s 0) := u_ahead h hs (i := 0) (by decide)
    unfold yR_readTerm_34
    rw [if_neg (show ¬ 3 ≤ Int32.ofNat i from mt (j_le (m := 3) (by decide) (by omega)).mp (by omega)), if_pos h1, e]
    show (if ty_b (rd_fig (ka f c s 0)) = 0 then _ else _) = _
    unfold ks_loop
    cases q : rd_fig (ka f c s 0) with
    | false => rw [tb0, iff']
    | true =>
      rw [tb1, if_pos h1, u_keep h hs, ift]
      show yR_readTerm_34 a m (U S a (ks_keep f c s) n) _ = _
      rw [show (1 : Int32) = Int32.ofNat 1 from rfl, ty_add]
      exact u_loop h j (i + 1) m (ks_keep f c s) (by omega) (by omega) (ks_keep_le hs)
theorem u_term (h : Rd S a c f) (hs : s.1 ≤ c) (hm : 4 ≤ m) : yR_readTerm m (U S a s n) a = some (U S a (ks_term f c s) n) := by
  have h1 : ztg (U S a s n) a = 6 := h.1
  have e : yR_ahead (U S a s n) a 0 = some (U S a s n, ka f c s 0) := u_ahead h hs (i := 0) (by decide)
  unfold yR_readTerm ks_term
  rw [if_pos h1, e]
  show (if ty_b (rd_var (ka f c s 0)) = 0 then _ else _) = _
  cases q : rd_var (ka f c s 0) with
  | true =>
    rw [tb1, if_pos h1, u_keep h hs, ift]
    rfl
  | false =>
    rw [tb0, if_pos h1, e, iff']
    show (if ty_b (rd_fig (ka f c s 0)) = 0 then _ else _) = _
    cases q2 : rd_fig (ka f c s 0) with
    | true =>
      rw [tb1, ift]
      exact u_loop h 3 0 m s rfl (by omega) hs
    | false =>
      rw [tb0, if_pos h1, iff', U_s4]
      exact u_loop h 3 0 m (ks_wrong s) rfl (by omega) hs
theorem u_expr (h : Rd S a c f) (hs : s.1 ≤ c) (hm : 4 ≤ m) : yR_readExpression m (U S a s n) a = some (U S a (ks_expr f c s) n, (ks_expr f c s).2.2.1) := by
  have h1 : ∀ s : rs, ztg (U S a s n) a = 6 := fun _ => h.1
  have hs0 : (ks_term f c (s.1, s.2.1, 0, 0)).1 ≤ c := ks_term_le hs
  unfold yR_readExpression ks_expr
  rw [if_pos (h1 s), U_sL, show (0 : Int32) = Int32.ofNat 0 from rfl, U_s6]
  rw [u_term h (s := (s.1, s.2.1, 0, 0)) hs hm]
  show (if ztg (U S a (ks_term f c (s.1, s.2.1, 0, 0)) n) a = 6 then _ else none) = _
  rw [if_pos (h1 _), u_ahead h hs0 (i := 0) (by decide)]
  show (if ty_b (rd_op (ka f c (ks_term f c (s.1, s.2.1, 0, 0)) 0)) = Int32.ofNat 0 then _ else _) = _
  cases q : rd_op (ka f c (ks_term f c (s.1, s.2.1, 0, 0)) 0) with
  | false =>
    rw [show (Int32.ofNat 0) = 0 from rfl, tb0, if_pos (h1 _), U_gL, iff']
  | true =>
    rw [show (Int32.ofNat 0) = 0 from rfl, tb1, if_pos (h1 _), u_keep h hs0, ift]
    show (if ztg (U S a (ks_keep f c (ks_term f c (s.1, s.2.1, 0, 0))) n) a = 6 then _ else none) = _
    rw [if_pos (h1 _), u_term h (ks_keep_le hs0) hm]
    show (if ztg (U S a (ks_term f c (ks_keep f c (ks_term f c (s.1, s.2.1, 0, 0)))) n) a = 6 then _ else none) = _
    rw [if_pos (h1 _), U_gL]
end UA
