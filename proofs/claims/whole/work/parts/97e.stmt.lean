theorem zlb_s {β : Type} {o : Option Nat} {f : Option Nat → Option β} : zlb o f = f o := rfl
section SX
variable {rc : hS → Nat → Int32 → Option (hS × Option Nat)} {R : pw → Nat → pw × Nat × Fo} {a b c d M n m : Nat} {f : Nat → Int32} {S T : hS} {s : rs} {w : Bool}
theorem r121 (h : Rd T a c f) (hab : a < b) (hb : ztg T b = 10) {t1 t2 : Fo} (h1 : RS T f c w t1 (b + 1) (zR T 7 b)) (h2 : RS T f c w t2 (b + 1) (zR T 8 b)) (l1 : rln t1 ≤ 41) (l2 : rln t2 ≤ 41) (hm : 42 ≤ m) : ∃ o, yR_readStatement_121 a rc m (U T a s n) (some b) = some (U (szI T 11 b o) a s n, some b) ∧ (w = false → o = (((rd_bo (zI T 2 b) ||| rd_bo (zI T 3 b)) ||| ocf f c t1) ||| ocf f c t2)) := by
  have hne : a ≠ b := by omega
  obtain ⟨o1, p1, p2⟩ := ocL t1 (b + 1) _ (RS_fr _ _ _ h1 (Sme_U (s := s) (n := n) (by omega : a < b + 1))) m 0 (by omega)
  obtain ⟨o2, q1, q2⟩ := ocL t2 (b + 1) _ (RS_fr _ _ _ h2 (Sme_U (s := s) (n := n) (by omega : a < b + 1))) m 0 (by omega)
  refine ⟨((rd_bo (zI T 2 b) ||| rd_bo (zI T 3 b)) ||| o1) ||| o2, ?_, ?_⟩
  · unfold yR_readStatement_121
    refine (zob_s rfl).trans ?_
    refine (if_pos hb).trans ?_
    refine zlb_s.trans ?_
    refine (zcP_s p1).trans ?_
    refine (if_pos hb).trans ?_
    refine zlb_s.trans ?_
    refine (zcP_s q1).trans ?_
    refine (if_pos hb).trans ?_
    rw [U_I hne, U_gI (Ne.symm hne), U_gI (Ne.symm hne)]
  · intro z
    rw [p2 z, q2 z, Int32.zero_or, Int32.zero_or]
theorem RSnil {lo : Nat} : RS T f c w .nil lo none := rfl
theorem rd_in_lt {x y : Int32} {s : rs} (hx : rd_in (0 - x) y = false) (h : (ks_one f c x y s).2.1 = false) : s.1 < c ∧ s.2.1 = false ∧ (ks_one f c x y s).1 = s.1 + 1 := by
  unfold ks_one at h ⊢
  split at h
  · rename_i q
    rw [if_pos q]
    have : ka f c s 0 ≠ 0 := by
      intro z
      rw [z, hx] at q
      cases q
    exact ⟨(ka_lt this).1, (ka_lt this).2, rfl⟩
  · cases h
def nst (S : hS) (q : Nat) (p : Int32) : hS := szI (szI (szI (szN S 9) 3 S.1 (-1)) 0 S.1 (Int32.ofNat q)) 2 S.1 p
theorem nst_g (q : Nat) (p : Int32) : Grw S (nst S q p) := Grw_I (Grw_I (Grw_I (Grw_N 9) (Nat.le_refl _) _) (Nat.le_refl _) _) (Nat.le_refl _) _
theorem nst_t (q : Nat) (p : Int32) (h : S.1 < ie_S) : ztg (nst S q p) S.1 = 10 := by
  show ztg (szN S 9) S.1 = 10
  exact ztg_newN ⟨rfl, h⟩ rfl
theorem nst_0 (q : Nat) (p : Int32) : zI (nst S q p) 0 S.1 = Int32.ofNat q := zI_self _ 0 S.1 _
theorem nst_2 (q : Nat) (p : Int32) : zI (nst S q p) 2 S.1 = p := zI_self _ 2 S.1 _
theorem nst_3 (q : Nat) (p : Int32) : zI (nst S q p) 3 S.1 = -1 := zI_self (szN S 9) 3 S.1 _
theorem nst_4 (q : Nat) (p : Int32) : zI (nst S q p) 4 S.1 = 0 := zI_new 9 4
theorem nst_5 (q : Nat) (p : Int32) : zI (nst S q p) 5 S.1 = 0 := zI_new 9 5
theorem nst_R (q : Nat) (p : Int32) (k : Nat) : zR (nst S q p) k S.1 = none := zR_new 9 k
theorem nst_L (q : Nat) (p : Int32) : zL (nst S q p) S.1 = 0 := zL_new 9
theorem rstA (h : Rd S a c f) (hs : s.1 ≤ c) (hN : S.1 < ie_S) (hn : n ≤ 40) (K : hS → Nat → Option (hS × Option Nat)) (hK : K = fun S1 a1 => (if ztg S1 a = 6 then (zcV (yS_new S1 a1 (zI S1 2 a)) fun S2 => (if ztg S2 a = 6 then (if zI S2 3 a = 40 then (some (szI S2 4 a 1, some a1)) else (zcP (yR_readOneOf (szI S2 3 a ((zI S2 3 a) + 1)) a 65 6) fun S3 v3 => (if ztg S3 a1 = 10 then (if ztg S3 a = 6 then (zcP (yR_ahead (szI S3 2 a1 v3) a 0) fun S4 v4 => (if v4 = 33 then (if ztg S4 a = 6 then (zcV (yR_readTell S4 a (some a1)) fun S5 => (yR_readStatement_121 a rc m S5 (some a1))) else none) else (if v4 = 63 then (yR_readStatement_82 a rc m S4 (Int32.ofNat d) (some a1)) else (if v4 = 64 then (yR_readStatement_82 a rc m S4 (Int32.ofNat d) (some a1)) else (if ty_b (rd_var v4) = 0 then (yR_readStatement_116 a rc m S4 (some a1)) else (if ztg S4 a = 6 then (zcP (yR_ahead S4 a 1) fun S6 v6 => (if v6 = 58 then (if ztg S6 a = 6 then (zcV (yR_readSet m S6 a (some a1)) fun S7 => (yR_readStatement_121 a rc m S7 (some a1))) else none) else (yR_readStatement_116 a rc m S6 (some a1)))) else none)))))) else none) else none))) else none)) else none)) : yR_readStatement rc m (U S a s n) a (Int32.ofNat d) = if n = 40 then some (U (szI (szI (szN S 9) 3 S.1 (-1)) 0 S.1 (Int32.ofNat s.1)) a (ks_wrong s) n, some S.1) else (if ka f c (ks_one f c 65 6 s) 0 = 33 then zcV (yR_readTell (U (nst S s.1 (kv_one f c 65 6 s)) a (ks_one f c 65 6 s) (n + 1)) a (some S.1)) (fun S5 => yR_readStatement_121 a rc m S5 (some S.1)) else if ka f c (ks_one f c 65 6 s) 0 = 63 ∨ ka f c (ks_one f c 65 6 s) 0 = 64 then zcV (yR_readBranches rc m (U (nst S s.1 (kv_one f c 65 6 s)) a (ks_one f c 65 6 s) (n + 1)) a (some S.1) (Int32.ofNat d)) (fun S5 => yR_readStatement_121 a rc m S5 (some S.1)) else if rd_var (ka f c (ks_one f c 65 6 s) 0) = true ∧ ka f c (ks_one f c 65 6 s) 1 = 58 then zcV (yR_readSet m (U (nst S s.1 (kv_one f c 65 6 s)) a (ks_one f c 65 6 s) (n + 1)) a (some S.1)) (fun S5 => yR_readStatement_121 a rc m S5 (some S.1)) else zcV (yR_readSend m (U (nst S s.1 (kv_one f c 65 6 s)) a (ks_one f c 65 6 s) (n + 1)) a (some S.1)) (fun S5 => yR_readStatement_121 a rc m S5 (some S.1))) := by
  have ha := (ztg_lt h.1).1
  have hne : a ≠ S.1 := by omega
  have g1 : Grw S (szN S 9) := Grw_N 9
  have r1 : Rd (szN S 9) a c f := Rd_g h g1
  have r2 : Rd (szI (szI (szN S 9) 3 S.1 (-1)) 0 S.1 (Int32.ofNat s.1)) a c f := Rd_I hne _ (Rd_I hne _ r1)
  have r3 : Rd (nst S s.1 (kv_one f c 65 6 s)) a c f := Rd_I hne _ r2
  have t3 : ztg (nst S s.1 (kv_one f c 65 6 s)) S.1 = 10 := nst_t _ _ hN
  have l1 : (ks_one f c 65 6 s).1 ≤ c := ks_one_le (by decide) hs
  unfold yR_readStatement
  refine (show _ = K (szN (U S a s n) 9) (U S a s n).1 from ?_).trans ?_
  · rw [hK]
    unfold znw
    exact if_pos hN
  rw [hK, U_N 9 ha]
  show (if ztg (U (szN S 9) a s n) a = 6 then _ else none) = _
  refine (if_pos r1.1).trans ?_
  refine (zcV_s (S := U (szI (szI (szN S 9) 3 S.1 (-1)) 0 S.1 (Int32.ofNat s.1)) a s n) ?_).trans ?_
  · unfold yS_new
    refine (if_pos (show ztg (szN S 9) S.1 = 10 from ztg_newN ⟨rfl, hN⟩ rfl)).trans ?_
    rw [U_g2]
    show some (szI (szI (U (szN S 9) a s n) 3 S.1 (-1)) 0 S.1 (Int32.ofNat s.1)) = _
    rw [U_I hne, U_I hne]
  refine (if_pos r2.1).trans ?_
  rw [U_g3]
  by_cases q0 : n = 40
  · rw [if_pos (show Int32.ofNat n = 40 by rw [q0]; rfl), if_pos q0, U_s4]
    rfl
  · rw [if_neg (show ¬ Int32.ofNat n = 40 from fun z => q0 ((j_eq (n := 40) (by omega) (by decide)).mp z)), if_neg q0, show (1 : Int32) = Int32.ofNat 1 from rfl, ty_add, U_s3]
    refine (zcP_s (u_one r2 hs 65 6)).trans ?_
    refine (if_pos (show ztg (szN S 9) S.1 = 10 from ztg_newN ⟨rfl, hN⟩ rfl)).trans ?_
    refine (if_pos r2.1).trans ?_
    have eU : szI (U (szI (szI (szN S 9) 3 S.1 (-1)) 0 S.1 (Int32.ofNat s.1)) a (ks_one f c 65 6 s) (n + 1)) 2 S.1 (kv_one f c 65 6 s) = U (nst S s.1 (kv_one f c 65 6 s)) a (ks_one f c 65 6 s) (n + 1) := U_I hne _
    refine (zcP_s (S := U (nst S s.1 (kv_one f c 65 6 s)) a (ks_one f c 65 6 s) (n + 1)) (v := ka f c (ks_one f c 65 6 s) 0) ?_).trans ?_
    · exact (congrArg (fun z => yR_ahead z a 0) eU).trans (u_ahead r3 l1 (i := 0) (by decide))
    by_cases q1 : ka f c (ks_one f c 65 6 s) 0 = 33
    · refine (if_pos q1).trans ?_
      rw [if_pos q1]
      exact if_pos r3.1
    · refine (if_neg q1).trans ?_
      rw [if_neg q1]
      by_cases q2 : ka f c (ks_one f c 65 6 s) 0 = 63
      · rw [if_pos (Or.inl q2)]
        refine (if_pos q2).trans ?_
        unfold yR_readStatement_82
        exact if_pos r3.1
      · refine (if_neg q2).trans ?_
        by_cases q3 : ka f c (ks_one f c 65 6 s) 0 = 64
        · rw [if_pos (Or.inr q3)]
          refine (if_pos q3).trans ?_
          unfold yR_readStatement_82
          exact if_pos r3.1
        · refine (if_neg q3).trans ?_
          rw [if_neg (show ¬ (ka f c (ks_one f c 65 6 s) 0 = 63 ∨ ka f c (ks_one f c 65 6 s) 0 = 64) from fun z => Or.elim z q2 q3)]
          cases q4 : rd_var (ka f c (ks_one f c 65 6 s) 0) with
          | false =>
            rw [tb0, if_neg (show ¬ (false = true ∧ ka f c (ks_one f c 65 6 s) 1 = 58) from fun z => Bool.noConfusion z.1)]
            unfold yR_readStatement_116
            exact if_pos r3.1
          | true =>
            rw [tb1]
            refine (if_pos r3.1).trans ?_
            refine (zcP_s (u_ahead r3 l1 (i := 1) (by decide))).trans ?_
            by_cases q5 : ka f c (ks_one f c 65 6 s) 1 = 58
            · refine (if_pos q5).trans ?_
              rw [if_pos (show true = true ∧ ka f c (ks_one f c 65 6 s) 1 = 58 from ⟨rfl, q5⟩)]
              exact if_pos r3.1
            · refine (if_neg q5).trans ?_
              rw [if_neg (show ¬ (true = true ∧ ka f c (ks_one f c 65 6 s) 1 = 58) from fun z => q5 z.2)]
              unfold yR_readStatement_116
              exact if_pos r3.1
end SX
