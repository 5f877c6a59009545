theorem RS_fl {S : hS} {f : Nat → Int32} {c lo : Nat} {w w' : Bool} {t : Fo} {v : Option Nat} (h : RS S f c w t lo v) (hw : w' = false → w = false) : RS S f c w' t lo v := by
  cases hw' : w' with
  | true => exact RS_w _ _ _ h
  | false => rw [← hw hw']; exact h
section BR
variable {rc : hS → Nat → Int32 → Option (hS × Option Nat)} {R : pw → Nat → pw × Nat × Fo} {a b c d M n m : Nat} {f : Nat → Int32} {S : hS} {s : rs}
theorem rbr63 (hR : RCs rc R a c f (d + 1) M) (h : Rd S a c f) (hs : s.1 < c) (hn : n ≤ 40) (hm : 4 ≤ m) (hM : s.2.1 = false → S.1 + 41 ≤ M + n) (hab : a < b) (hb : ztg S b = 10) (hb1 : b + 1 = S.1) (hd : d < 6) (hc : ka f c s 0 = 63) : ∃ T s', yR_readBranches rc m (U S a s n) a (some b) (Int32.ofNat d) = some (U T a s' (pBlk R f c (pBlk R f c (pj (ks_expr f c (s.1 + 1, s.2))) n).1 (pBlk R f c (pj (ks_expr f c (s.1 + 1, s.2))) n).2.1).2.1) ∧ pj s' = (pBlk R f c (pBlk R f c (pj (ks_expr f c (s.1 + 1, s.2))) n).1 (pBlk R f c (pj (ks_expr f c (s.1 + 1, s.2))) n).2.1).1 ∧ s'.1 ≤ c ∧ (pBlk R f c (pBlk R f c (pj (ks_expr f c (s.1 + 1, s.2))) n).1 (pBlk R f c (pj (ks_expr f c (s.1 + 1, s.2))) n).2.1).2.1 ≤ 40 ∧ (∀ V, Grw V S → V.1 ≤ b → Grw V T) ∧ (s'.2.1 = false → T.1 + 41 ≤ M + (pBlk R f c (pBlk R f c (pj (ks_expr f c (s.1 + 1, s.2))) n).1 (pBlk R f c (pj (ks_expr f c (s.1 + 1, s.2))) n).2.1).2.1) ∧ ztg T b = 10 ∧ zI T 1 b = 6 ∧ (∀ k, k ≠ 1 → zI T k b = zI S k b) ∧ zL T b = (ks_expr f c (s.1 + 1, s.2)).2.2.1 ∧ zR T 9 b = zR S 9 b ∧ RS T f c s'.2.1 (pBlk R f c (pj (ks_expr f c (s.1 + 1, s.2))) n).2.2 (b + 1) (zR T 7 b) ∧ RS T f c s'.2.1 (pBlk R f c (pBlk R f c (pj (ks_expr f c (s.1 + 1, s.2))) n).1 (pBlk R f c (pj (ks_expr f c (s.1 + 1, s.2))) n).2.1).2.2 (b + 1) (zR T 8 b) ∧ rln (pBlk R f c (pj (ks_expr f c (s.1 + 1, s.2))) n).2.2 ≤ 41 ∧ rln (pBlk R f c (pBlk R f c (pj (ks_expr f c (s.1 + 1, s.2))) n).1 (pBlk R f c (pj (ks_expr f c (s.1 + 1, s.2))) n).2.1).2.2 ≤ 41 ∧ T.1 ≤ max S.1 M := by
  have hne : a ≠ b := by omega
  have le3 : (ks_expr f c (s.1 + 1, s.2)).1 ≤ c := ks_expr_le (show s.1 + 1 ≤ c by omega)
  have r3 : Rd (szL (szI S 1 b 6) b (ks_expr f c (s.1 + 1, s.2)).2.2.1) a c f := Rd_L _ (Rd_I hne _ h)
  have hw3 : (ks_expr f c (s.1 + 1, s.2)).2.1 = false → s.2.1 = false := by
    intro z
    cases hw : s.2.1 with
    | false => rfl
    | true =>
      exfalso
      unfold ka rd_ah at hc
      rw [hw, ift] at hc
      exact absurd hc (by decide)
  obtain ⟨S4, s4, v1, e1, e2, e3, e4, e5, e6, e7, e8, e9⟩ := rb (m := m) (s := ks_expr f c (s.1 + 1, s.2)) (n := n) hR r3 le3 hn (fun z => hM (hw3 z))
  generalize pBlk R f c (pj (ks_expr f c (s.1 + 1, s.2))) n = B1 at e1 e2 e4 e6 e7 e8 ⊢
  have r5 : Rd (szR S4 7 b v1) a c f := Rd_R hne _ (Rd_g r3 e5)
  obtain ⟨S6, s6, v2, g1, g2, g3, g4, g5, g6, g7, g8, g9⟩ := rb (m := m) (s := s4) (n := B1.2.1) (S := szR S4 7 b v1) hR r5 e3 e4 (fun z => (e6 z).2)
  rw [e2] at g1 g2 g4 g6 g7 g8
  generalize pBlk R f c B1.1 B1.2.1 = B2 at g1 g2 g4 g6 g7 g8 ⊢
  have b4 : b < S4.1 := by have := e5.1; have : (szL (szI S 1 b 6) b (ks_expr f c (s.1 + 1, s.2)).2.2.1).1 = S.1 := rfl; omega
  have b6 : b < S6.1 := Nat.lt_of_lt_of_le b4 g5.1
  have q4 := e5.2.1 b (show b < S.1 by omega)
  have q6 := g5.2.1 b b4
  have z41 : zI S4 1 b = 6 := by rw [q4.1]; exact zI_self _ 1 b 6
  refine ⟨szR S6 8 b v2, s6, ?_, g2, g3, g4, ?_, ?_, ?_, ?_, ?_, ?_, ?_, ?_, ?_, e8, g8, ?_⟩
  · unfold yR_readBranches
    refine (if_pos ((j_lt (n := 6) (by omega) (by decide)).mpr hd)).trans ?_
    refine (if_pos h.1).trans ?_
    refine (zcP_s (u_ahead h (by omega) (i := 0) (by decide))).trans ?_
    refine (if_pos hc).trans ?_
    refine (zob_s rfl).trans ?_
    refine (if_pos hb).trans ?_
    refine (if_pos h.1).trans ?_
    rw [U_I hne, U_g2, show (1 : Int32) = Int32.ofNat 1 from rfl, ty_add, U_s2]
    refine (zcP_s (u_expr (Rd_I hne _ h) (show s.1 + 1 ≤ c by omega) hm)).trans ?_
    refine (if_pos hb).trans ?_
    refine (if_pos h.1).trans ?_
    rw [U_L hne, ty_add]
    refine (zcP_s e1).trans ?_
    refine (if_pos (ztg_g (S := szL (szI S 1 b 6) b (ks_expr f c (s.1 + 1, s.2)).2.2.1) hb e5)).trans ?_
    refine (if_pos (by rw [U_gI (Ne.symm hne)]; exact z41)).trans ?_
    refine (if_pos r5.1).trans ?_
    rw [U_R]
    refine (zcP_s g1).trans ?_
    refine (if_pos (ztg_g (S := szR S4 7 b v1) (show ztg S4 b = 10 from ztg_g (S := szL (szI S 1 b 6) b (ks_expr f c (s.1 + 1, s.2)).2.2.1) hb e5) g5)).trans ?_
    rfl
  · intro V hV hVb
    exact Grw_R (Grw_t (Grw_R (Grw_t (Grw_L (Grw_I hV hVb _) hVb _) e5) hVb _) g5) hVb _
  · intro z
    exact (g6 z).2
  · show ztg S6 b = 10
    exact ztg_g (S := szR S4 7 b v1) (show ztg S4 b = 10 from ztg_g (S := szL (szI S 1 b 6) b (ks_expr f c (s.1 + 1, s.2)).2.2.1) hb e5) g5
  · show zI S6 1 b = 6
    rw [q6.1]
    exact z41
  · intro k hk
    show zI S6 k b = _
    rw [q6.1]
    show zI S4 k b = _
    rw [q4.1]
    exact zup2_ne (fun e => absurd e hk)
  · show zL S6 b = _
    rw [q6.2.2.1]
    show zL S4 b = _
    rw [q4.2.2.1]
    exact zL_self _ b _
  · show zR S6 9 b = _
    rw [q6.2.1]
    show zR S4 9 b = _
    rw [q4.2.1]
    rfl
  · have zz : zR (szR S6 8 b v2) 7 b = v1 := by
      show zR S6 7 b = _
      rw [q6.2.1]
      exact zR_self _ 7 b v1
    rw [zz]
    have lo1 : (szL (szI S 1 b 6) b (ks_expr f c (s.1 + 1, s.2)).2.2.1).1 = b + 1 := hb1.symm
    rw [lo1] at e7
    refine RS_fr _ _ _ ?_ (Sme_R (by omega) v2)
    refine RS_fr _ _ _ ?_ (Sme_g g5)
    refine RS_fr _ _ _ ?_ (Sme_R (by omega) v1)
    exact RS_fl e7 (fun z => (g6 z).1)
  · have zz : zR (szR S6 8 b v2) 8 b = v2 := zR_self _ 8 b v2
    rw [zz]
    refine RS_fr _ _ _ ?_ (Sme_R (by omega) v2)
    refine RS_lo _ _ _ g7 ?_
    show b + 1 ≤ S4.1
    omega
  · have h9 : S4.1 ≤ max S.1 M := e9
    have h10 : S6.1 ≤ max S4.1 M := g9
    show S6.1 ≤ max S.1 M
    omega
theorem rbr64 (hR : RCs rc R a c f (d + 1) M) (h : Rd S a c f) (hs : s.1 < c) (hn : n ≤ 40) (hm : 4 ≤ m) (hM : s.2.1 = false → S.1 + 41 ≤ M + n) (hab : a < b) (hb : ztg S b = 10) (hb1 : b + 1 = S.1) (hd : d < 6) (hc : ka f c s 0 = 64) (h8 : zR S 8 b = none) : ∃ T s', yR_readBranches rc m (U S a s n) a (some b) (Int32.ofNat d) = some (U T a s' (pBlk R f c (pj (ks_expr f c (s.1 + 1, s.2))) n).2.1) ∧ pj s' = (pBlk R f c (pj (ks_expr f c (s.1 + 1, s.2))) n).1 ∧ s'.1 ≤ c ∧ (pBlk R f c (pj (ks_expr f c (s.1 + 1, s.2))) n).2.1 ≤ 40 ∧ (∀ V, Grw V S → V.1 ≤ b → Grw V T) ∧ (s'.2.1 = false → T.1 + 41 ≤ M + (pBlk R f c (pj (ks_expr f c (s.1 + 1, s.2))) n).2.1) ∧ ztg T b = 10 ∧ zI T 1 b = 7 ∧ (∀ k, k ≠ 1 → zI T k b = zI S k b) ∧ zL T b = (ks_expr f c (s.1 + 1, s.2)).2.2.1 ∧ zR T 9 b = zR S 9 b ∧ RS T f c s'.2.1 (pBlk R f c (pj (ks_expr f c (s.1 + 1, s.2))) n).2.2 (b + 1) (zR T 7 b) ∧ zR T 8 b = none ∧ rln (pBlk R f c (pj (ks_expr f c (s.1 + 1, s.2))) n).2.2 ≤ 41 ∧ T.1 ≤ max S.1 M := by
  have hne : a ≠ b := by omega
  have le3 : (ks_expr f c (s.1 + 1, s.2)).1 ≤ c := ks_expr_le (show s.1 + 1 ≤ c by omega)
  have r3 : Rd (szL (szI S 1 b 7) b (ks_expr f c (s.1 + 1, s.2)).2.2.1) a c f := Rd_L _ (Rd_I hne _ h)
  have hw3 : (ks_expr f c (s.1 + 1, s.2)).2.1 = false → s.2.1 = false := by
    intro z
    cases hw : s.2.1 with
    | false => rfl
    | true =>
      exfalso
      unfold ka rd_ah at hc
      rw [hw, ift] at hc
      exact absurd hc (by decide)
  obtain ⟨S4, s4, v1, e1, e2, e3, e4, e5, e6, e7, e8, e9⟩ := rb (m := m) (s := ks_expr f c (s.1 + 1, s.2)) (n := n) hR r3 le3 hn (fun z => hM (hw3 z))
  generalize pBlk R f c (pj (ks_expr f c (s.1 + 1, s.2))) n = B1 at e1 e2 e4 e6 e7 e8 ⊢
  have b4 : b < S4.1 := by have := e5.1; have : (szL (szI S 1 b 7) b (ks_expr f c (s.1 + 1, s.2)).2.2.1).1 = S.1 := rfl; omega
  have q4 := e5.2.1 b (show b < S.1 by omega)
  have z41 : zI S4 1 b = 7 := by rw [q4.1]; exact zI_self _ 1 b 7
  refine ⟨szR S4 7 b v1, s4, ?_, e2, e3, e4, ?_, ?_, ?_, ?_, ?_, ?_, ?_, ?_, ?_, e8, e9⟩
  · unfold yR_readBranches
    refine (if_pos ((j_lt (n := 6) (by omega) (by decide)).mpr hd)).trans ?_
    refine (if_pos h.1).trans ?_
    refine (zcP_s (u_ahead h (by omega) (i := 0) (by decide))).trans ?_
    refine (if_neg (by rw [hc]; decide)).trans ?_
    refine (zob_s rfl).trans ?_
    refine (if_pos hb).trans ?_
    refine (if_pos h.1).trans ?_
    rw [U_I hne, U_g2, show (1 : Int32) = Int32.ofNat 1 from rfl, ty_add, U_s2]
    refine (zcP_s (u_expr (Rd_I hne _ h) (show s.1 + 1 ≤ c by omega) hm)).trans ?_
    refine (if_pos hb).trans ?_
    refine (if_pos h.1).trans ?_
    rw [U_L hne, ty_add]
    refine (zcP_s e1).trans ?_
    refine (if_pos (ztg_g (S := szL (szI S 1 b 7) b (ks_expr f c (s.1 + 1, s.2)).2.2.1) hb e5)).trans ?_
    refine (if_neg (by rw [U_gI (Ne.symm hne), z41]; decide)).trans ?_
    rfl
  · intro V hV hVb
    exact Grw_R (Grw_t (Grw_L (Grw_I hV hVb _) hVb _) e5) hVb _
  · intro z
    exact (e6 z).2
  · show ztg S4 b = 10
    exact ztg_g (S := szL (szI S 1 b 7) b (ks_expr f c (s.1 + 1, s.2)).2.2.1) hb e5
  · exact z41
  · intro k hk
    show zI S4 k b = _
    rw [q4.1]
    exact zup2_ne (fun e => absurd e hk)
  · show zL S4 b = _
    rw [q4.2.2.1]
    exact zL_self _ b _
  · show zR S4 9 b = _
    rw [q4.2.1]
    rfl
  · have zz : zR (szR S4 7 b v1) 7 b = v1 := zR_self _ 7 b v1
    rw [zz]
    have lo1 : (szL (szI S 1 b 7) b (ks_expr f c (s.1 + 1, s.2)).2.2.1).1 = b + 1 := hb1.symm
    rw [lo1] at e7
    exact RS_fr _ _ _ e7 (Sme_R (by omega) v1)
  · show zR S4 8 b = none
    rw [q4.2.1]
    exact h8
theorem rbrX (h : Rd S a c f) (hd : 6 ≤ d) (hd2 : d ≤ 10) : yR_readBranches rc m (U S a s n) a (some b) (Int32.ofNat d) = some (U S a (ks_wrong s) n) := by
  unfold yR_readBranches
  refine (if_neg (mt (j_lt (n := 6) (by omega) (by decide)).mp (by omega))).trans ?_
  refine (if_pos h.1).trans ?_
  rw [U_s4]
end BR
