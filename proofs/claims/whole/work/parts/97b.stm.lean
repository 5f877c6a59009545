theorem zcV_s {β : Type} {x : Option hS} {f : hS → Option β} {S : hS} (h : x = some S) : zcV x f = f S := by rw [h]; rfl
theorem zcP_s {α β : Type} {x : Option (hS × α)} {f : hS → α → Option β} {S : hS} {v : α} (h : x = some (S, v)) : zcP x f = f S v := by rw [h]; rfl
theorem zob_s {β : Type} {o : Option Nat} {f : Nat → Option β} {a : Nat} (h : o = some a) : zob o f = f a := by rw [h]; rfl
theorem zup2_ca {α : Type} (f : Nat → Nat → α) {k l a b : Nat} (v w : α) (h : a ≠ b) : zup2 (zup2 f k a v) l b w = zup2 (zup2 f l b w) k a v := by
  by_cases q : k = l
  · subst q
    funext j c
    unfold zup2
    by_cases q1 : j = k
    · rw [if_pos q1, if_pos q1, if_pos q1, if_pos q1]
      by_cases q2 : c = b
      · rw [if_pos q2, if_neg (by omega)]
        rw [if_pos q2]
      · rw [if_neg q2]
        by_cases q3 : c = a
        · rw [if_pos q3, if_pos q3]
        · rw [if_neg q3, if_neg q3, if_neg q2]
    · rw [if_neg q1, if_neg q1, if_neg q1, if_neg q1]
  · exact zup2_co f v w q
theorem szI_ca (S : hS) {k l a b : Nat} (v w : Int32) (h : a ≠ b) : szI (szI S k a v) l b w = szI (szI S l b w) k a v := by
  show (S.1, S.2.1, S.2.2.1, zup2 (zup2 S.2.2.2.1 k a v) l b w, _) = _
  rw [zup2_ca _ _ _ h]
  rfl
theorem zup_ca {α : Type} (f : Nat → α) {a b : Nat} (v w : α) (h : a ≠ b) : zup (zup f a v) b w = zup (zup f b w) a v := by
  funext c
  unfold zup
  by_cases q2 : c = b
  · rw [if_pos q2, if_neg (by omega), if_pos q2]
  · rw [if_neg q2]
    by_cases q3 : c = a
    · rw [if_pos q3, if_pos q3]
    · rw [if_neg q3, if_neg q3, if_neg q2]
theorem szL_ca (S : hS) {a b : Nat} (v w : Int64) (h : a ≠ b) : szL (szL S a v) b w = szL (szL S b w) a v := by
  show (S.1, S.2.1, S.2.2.1, S.2.2.2.1, zup (zup S.2.2.2.2.1 a v) b w, _) = _
  rw [zup_ca _ _ _ h]
  rfl
section UB
variable {S : hS} {a b c n m k : Nat} {s : rs} {f : Nat → Int32}
theorem U_I (h : a ≠ b) (v : Int32) : szI (U S a s n) k b v = U (szI S k b v) a s n := by
  unfold U
  rw [szI_ca _ _ _ h, szI_ca _ _ _ h, szI_ca _ _ _ h, szI_ca _ _ _ h]
  rfl
theorem U_L (h : a ≠ b) (v : Int64) : szL (U S a s n) b v = U (szL S b v) a s n := by
  unfold U
  rw [szL_I, szL_I, szL_I, szL_I, szL_ca _ _ _ h]
theorem U_R (v : Option Nat) : szR (U S a s n) k b v = U (szR S k b v) a s n := rfl
theorem zI_ne {v : Int32} {j : Nat} (h : b ≠ a) : zI (szI S k a v) j b = zI S j b := zup2_ne (fun _ => h)
theorem zL_ne {v : Int64} (h : b ≠ a) : zL (szL S a v) b = zL S b := zup_ne h
theorem zR_ne {v : Option Nat} {j : Nat} (h : b ≠ a) : zR (szR S k a v) j b = zR S j b := zup2_ne (fun _ => h)
theorem U_gI (h : b ≠ a) : zI (U S a s n) k b = zI S k b := by
  unfold U
  rw [zI_ne h, zI_ne h, zI_ne h, zI_ne h]
  rfl
theorem U_gL' (h : b ≠ a) : zL (U S a s n) b = zL S b := by
  unfold U
  exact zL_ne h
theorem Rd_I (h : a ≠ b) (v : Int32) (r : Rd S a c f) : Rd (szI S k b v) a c f := by
  obtain ⟨h1, h2, h3, h4, h5, h6, h7, h8⟩ := r
  exact ⟨h1, h2, h3, h4, by rw [zI_ne h]; exact h5, h6, h7, h8⟩
theorem Rd_L (v : Int64) (r : Rd S a c f) : Rd (szL S b v) a c f := r
theorem Rd_R (h : a ≠ b) (v : Option Nat) (r : Rd S a c f) : Rd (szR S k b v) a c f := by
  obtain ⟨h1, h2, h3, h4, h5, h6, h7, h8⟩ := r
  exact ⟨h1, by rw [zR_ne h]; exact h2, h3, h4, h5, h6, h7, h8⟩
theorem st_tell (h : Rd S a c f) (hs : s.1 ≤ c) (hab : a ≠ b) (hb : ztg S b = 10) : yR_readTell (U S a s n) a (some b) = some (U (szI (szI (szI S 1 b 4) 5 b (kv_one f c 48 10 (r19_1 f c (zI S 2 b) s))) 3 b (kv_other f c (zI S 2 b) (r19_3 f c (zI S 2 b) s))) a (r19_5 f c (zI S 2 b) s) n) := by
  have l1 : (r19_1 f c (zI S 2 b) s).1 ≤ c := ks_expect_le (by decide) hs
  have l2 : (r19_2 f c (zI S 2 b) s).1 ≤ c := ks_one_le (by decide) l1
  have l3 : (r19_3 f c (zI S 2 b) s).1 ≤ c := ks_expect_le (by decide) l2
  have l4 : (r19_4 f c (zI S 2 b) s).1 ≤ c := ks_other_le l3
  unfold yR_readTell
  show (if ztg (U S a s n) b = 10 then _ else none) = _
  refine (if_pos hb).trans ?_
  refine (if_pos h.1).trans ?_
  rw [U_I hab]
  refine (zcV_s (u_expect (Rd_I hab _ h) hs 33)).trans ?_
  refine (if_pos h.1).trans ?_
  refine (zcP_s (u_one (Rd_I hab _ h) l1 48 10)).trans ?_
  refine (if_pos hb).trans ?_
  refine (if_pos h.1).trans ?_
  rw [U_I hab]
  refine (zcV_s (u_expect (Rd_I hab _ (Rd_I hab _ h)) l2 62)).trans ?_
  refine (if_pos hb).trans ?_
  refine (if_pos h.1).trans ?_
  rw [U_gI (Ne.symm hab)]
  refine (zcP_s (u_other (Rd_I hab _ (Rd_I hab _ h)) l3 _)).trans ?_
  refine (if_pos hb).trans ?_
  refine (if_pos h.1).trans ?_
  rw [U_I hab]
  refine (zcV_s (u_expect (Rd_I hab _ (Rd_I hab _ (Rd_I hab _ h))) l4 59)).trans ?_
  rfl
theorem st_set (h : Rd S a c f) (hs : s.1 ≤ c) (hab : a ≠ b) (hb : ztg S b = 10) (hm : 4 ≤ m) : yR_readSet m (U S a s n) a (some b) = some (U (szL (szI (szI S 1 b 1) 4 b (kv_one f c 119 4 s)) b (r30_3 f c (zI S 2 b) s).2.2.1) a (r30_4 f c (zI S 2 b) s) n) := by
  have l1 : (r30_1 f c (zI S 2 b) s).1 ≤ c := ks_one_le (by decide) hs
  have l2 : (r30_2 f c (zI S 2 b) s).1 ≤ c := ks_expect_le (by decide) l1
  have l3 : (r30_3 f c (zI S 2 b) s).1 ≤ c := ks_expr_le l2
  unfold yR_readSet
  show (if ztg (U S a s n) b = 10 then _ else none) = _
  refine (if_pos hb).trans ?_
  refine (if_pos h.1).trans ?_
  rw [U_I hab]
  refine (zcP_s (u_one (Rd_I hab _ h) hs 119 4)).trans ?_
  refine (if_pos hb).trans ?_
  refine (if_pos h.1).trans ?_
  rw [U_I hab]
  refine (zcV_s (u_expect (Rd_I hab _ (Rd_I hab _ h)) l1 58)).trans ?_
  refine (if_pos h.1).trans ?_
  refine (zcP_s (u_expr (Rd_I hab _ (Rd_I hab _ h)) l2 hm)).trans ?_
  refine (if_pos hb).trans ?_
  refine (if_pos h.1).trans ?_
  rw [U_L hab]
  refine (zcV_s (u_expect (Rd_L _ (Rd_I hab _ (Rd_I hab _ h))) l3 59)).trans ?_
  rfl
theorem st_send (h : Rd S a c f) (hs : s.1 ≤ c) (hab : a ≠ b) (hb : ztg S b = 10) (hm : 4 ≤ m) : yR_readSend m (U S a s n) a (some b) = some (U (szI (szI (szL (szI S 1 b 2) b (r31_1 f c (zI S 2 b) s).2.2.1) 3 b (kv_other f c (zI S 2 b) (r31_2 f c (zI S 2 b) s))) 4 b (kv_one f c 119 4 (r31_3 f c (zI S 2 b) s))) a (r31_5 f c (zI S 2 b) s) n) := by
  have l1 : (r31_1 f c (zI S 2 b) s).1 ≤ c := ks_expr_le hs
  have l2 : (r31_2 f c (zI S 2 b) s).1 ≤ c := ks_expect_le (by decide) l1
  have l3 : (r31_3 f c (zI S 2 b) s).1 ≤ c := ks_other_le l2
  have l4 : (r31_4 f c (zI S 2 b) s).1 ≤ c := ks_one_le (by decide) l3
  unfold yR_readSend
  show (if ztg (U S a s n) b = 10 then _ else none) = _
  refine (if_pos hb).trans ?_
  refine (if_pos h.1).trans ?_
  rw [U_I hab]
  refine (zcP_s (u_expr (Rd_I hab _ h) hs hm)).trans ?_
  refine (if_pos hb).trans ?_
  refine (if_pos h.1).trans ?_
  rw [U_L hab]
  refine (zcV_s (u_expect (Rd_L _ (Rd_I hab _ h)) l1 62)).trans ?_
  refine (if_pos hb).trans ?_
  refine (if_pos h.1).trans ?_
  rw [U_gI (Ne.symm hab)]
  refine (zcP_s (u_other (Rd_L _ (Rd_I hab _ h)) l2 _)).trans ?_
  refine (if_pos hb).trans ?_
  refine (if_pos h.1).trans ?_
  rw [U_I hab]
  refine (zcP_s (u_one (Rd_I hab _ (Rd_L _ (Rd_I hab _ h))) l3 119 4)).trans ?_
  refine (if_pos hb).trans ?_
  refine (if_pos h.1).trans ?_
  rw [U_I hab]
  refine (zcV_s (u_expect (Rd_I hab _ (Rd_I hab _ (Rd_L _ (Rd_I hab _ h)))) l4 59)).trans ?_
  rfl
end UB
