section EV
variable {f : Nat → Int32} {c : Nat} {p : Int32} {s t : rs}
theorem e19_1 (h : eqv s t) : eqv (r19_1 f c p s) (r19_1 f c p t) := eqv_ex h 33
theorem e19_2 (h : eqv s t) : eqv (r19_2 f c p s) (r19_2 f c p t) := eqv_one (e19_1 h) 48 10
theorem e19_3 (h : eqv s t) : eqv (r19_3 f c p s) (r19_3 f c p t) := eqv_ex (e19_2 h) 62
theorem e19_4 (h : eqv s t) : eqv (r19_4 f c p s) (r19_4 f c p t) := eqv_ot (e19_3 h) p
theorem e19_5 (h : eqv s t) : eqv (r19_5 f c p s) (r19_5 f c p t) := eqv_ex (e19_4 h) 59
theorem e30_1 (h : eqv s t) : eqv (r30_1 f c p s) (r30_1 f c p t) := eqv_one h 119 4
theorem e30_2 (h : eqv s t) : eqv (r30_2 f c p s) (r30_2 f c p t) := eqv_ex (e30_1 h) 58
theorem e30_3 (h : eqv s t) : r30_3 f c p s = r30_3 f c p t := eqv_xp (e30_2 h)
theorem e30_4 (h : eqv s t) : r30_4 f c p s = r30_4 f c p t := by unfold r30_4; rw [e30_3 h]
theorem e31_1 (h : eqv s t) : r31_1 f c p s = r31_1 f c p t := eqv_xp h
theorem e31_2 (h : eqv s t) : r31_2 f c p s = r31_2 f c p t := by unfold r31_2; rw [e31_1 h]
theorem e31_3 (h : eqv s t) : r31_3 f c p s = r31_3 f c p t := by unfold r31_3; rw [e31_2 h]
theorem e31_5 (h : eqv s t) : r31_5 f c p s = r31_5 f c p t := by unfold r31_5 r31_4; rw [e31_3 h]
end EV
section ST9
variable {rc : hS → Nat → Int32 → Option (hS × Option Nat)} {R : pw → Nat → pw × Nat × Fo} {a b c d M n m q : Nat} {f : Nat → Int32} {S T : hS} {s : rs} {w : Bool}
theorem RS1 (hb : ztg T b = 10) (h7 : zR T 7 b = none) (h8 : zR T 8 b = none) (h9 : zR T 9 b = none) (hd : w = false → SD T f c b (q, false) ∧ zI T 11 b = (((rd_bo (dP f c (q, false)) ||| rd_bo (dO f c (q, false))) ||| 0) ||| 0)) : RS T f c w (cn q .nil .nil) b (some b) := by
  show RS T f c w (.append (.tag q .nil) .nil) b (some b)
  unfold RS
  exact ⟨b, rfl, Nat.le_refl _, hb, hd, h7, h8, by rw [h9]; rfl⟩
theorem rstS {T1 : hS} {s' : rs} {n' : Nat} (hR : Rd T1 a c f) (hab : a < b) (hb : ztg T1 b = 10) (h7 : zR T1 7 b = none) (h8 : zR T1 8 b = none) (h9 : zR T1 9 b = none) (hm : 42 ≤ m) (hd : SD T1 f c b (q, false)) : ∃ T, yR_readStatement_121 a rc m (U T1 a s' n') (some b) = some (U T a s' n', some b) ∧ (∀ V, Grw V T1 → V.1 ≤ b → Grw V T) ∧ T.1 = T1.1 ∧ zR T 9 b = none ∧ RS T f c s'.2.1 (cn q .nil .nil) b (some b) := by
  obtain ⟨o, e1, e2⟩ := r121 (rc := rc) (s := s') (n := n') (w := s'.2.1) (t1 := .nil) (t2 := .nil) hR hab hb (by rw [h7]; rfl) (by rw [h8]; rfl) (by decide) (by decide) hm
  refine ⟨szI T1 11 b o, e1, fun V hV hVb => Grw_I hV hVb _, rfl, h9, RS1 hb h7 h8 h9 (fun z => ⟨?_, ?_⟩)⟩
  · obtain ⟨d1, d2, d3, d4, d5, d6, d7⟩ := hd
    exact ⟨d1, d2, d3, d4, d5, d6, d7⟩
  · rw [zI_self, e2 z, hd.2.2.1, hd.2.2.2.1]
    rfl
theorem zI_k {N : hS} {k j a b : Nat} {v : Int32} (h : j ≠ k) : zI (szI N k a v) j b = zI N j b := zup2_ne (fun e => absurd e h)
def Nw (N : hS) (f : Nat → Int32) (c b q : Nat) : Prop := zI N 0 b = Int32.ofNat q ∧ zI N 2 b = dP f c (q, false) ∧ zI N 3 b = -1 ∧ zI N 4 b = 0 ∧ zI N 5 b = 0 ∧ zL N b = 0 ∧ (∀ k, zR N k b = none) ∧ ztg N b = 10
theorem nwN (h : S.1 < ie_S) : Nw (nst S q (dP f c (q, false))) f c S.1 q := ⟨nst_0 _ _, nst_2 _ _, nst_3 _ _, nst_4 _ _, nst_5 _ _, nst_L _ _, fun k => nst_R _ _ k, nst_t _ _ h⟩
theorem tellN {N : hS} {x : pw} (hx : x = (q, false)) (h : Rd N a c f) (hs : s.1 ≤ c) (hab : a < b) (hN : Nw N f c b q) (ev : eqv s (dS1 f c x)) (q1 : dC f c x = 33) (hm : 42 ≤ m) : ∃ T, zcV (yR_readTell (U N a s n) a (some b)) (fun S5 => yR_readStatement_121 a rc m S5 (some b)) = some (U T a (r19_5 f c (dP f c x) s) n, some b) ∧ (∀ V, Grw V N → V.1 ≤ b → Grw V T) ∧ T.1 = N.1 ∧ zR T 9 b = none ∧ RS T f c (r19_5 f c (dP f c x) s).2.1 (cn q .nil .nil) b (some b) := by
  subst hx
  obtain ⟨n0, n2, n3, n4, n5, nL, nR, nt⟩ := hN
  have hne : a ≠ b := by omega
  have e := st_tell (n := n) h hs hne nt
  rw [n2] at e
  have hsd : SD (szI (szI (szI N 1 b 4) 5 b (kv_one f c 48 10 (r19_1 f c (dP f c (q, false)) s))) 3 b (kv_other f c (dP f c (q, false)) (r19_3 f c (dP f c (q, false)) s))) f c b (q, false) := by
    refine ⟨?_, ?_, ?_, ?_, ?_, ?_, ?_⟩
    · rw [zI_k (by decide), zI_k (by decide), zI_k (by decide)]
      exact n0
    · unfold dK
      rw [if_pos q1, zI_k (by decide), zI_k (by decide), zI_self]
    · rw [zI_k (by decide), zI_k (by decide), zI_k (by decide)]
      exact n2
    · unfold dO
      rw [if_pos q1, zI_self]
      exact eqv_ko (e19_3 ev) _
    · unfold dV
      rw [if_pos q1, zI_k (by decide), zI_k (by decide), zI_k (by decide)]
      exact n4
    · unfold dL
      rw [if_pos q1, zI_k (by decide), zI_self]
      exact eqv_kv (e19_1 ev) 48 10
    · unfold dX
      rw [if_pos q1]
      exact nL
  obtain ⟨T, u1, u2, u3, u4, u5⟩ := rstS (rc := rc) (m := m) (n' := n) (s' := r19_5 f c (dP f c (q, false)) s) (q := q) (Rd_I hne _ (Rd_I hne _ (Rd_I hne _ h))) hab nt (nR 7) (nR 8) (nR 9) hm hsd
  exact ⟨T, (zcV_s e).trans u1, fun V hV hVb => u2 V (Grw_I (Grw_I (Grw_I hV hVb _) hVb _) hVb _) hVb, u3, u4, u5⟩
theorem setN {N : hS} {x : pw} (hx : x = (q, false)) (h : Rd N a c f) (hs : s.1 ≤ c) (hab : a < b) (hN : Nw N f c b q) (ev : eqv s (dS1 f c x)) (q1 : ¬ dC f c x = 33) (q2 : ¬ dC f c x = 63) (q4 : ¬ dC f c x = 64) (q5 : rd_var (dC f c x) = true ∧ ka f c (dS1 f c x) 1 = 58) (hm : 42 ≤ m) : ∃ T, zcV (yR_readSet m (U N a s n) a (some b)) (fun S5 => yR_readStatement_121 a rc m S5 (some b)) = some (U T a (r30_4 f c (dP f c x) s) n, some b) ∧ (∀ V, Grw V N → V.1 ≤ b → Grw V T) ∧ T.1 = N.1 ∧ zR T 9 b = none ∧ RS T f c (r30_4 f c (dP f c x) s).2.1 (cn q .nil .nil) b (some b) := by
  subst hx
  obtain ⟨n0, n2, n3, n4, n5, nL, nR, nt⟩ := hN
  have hne : a ≠ b := by omega
  have e := st_set (n := n) (m := m) h hs hne nt (by omega)
  rw [n2] at e
  have hsd : SD (szL (szI (szI N 1 b 1) 4 b (kv_one f c 119 4 s)) b (r30_3 f c (dP f c (q, false)) s).2.2.1) f c b (q, false) := by
    have zLI : ∀ (X : hS) (v : Int64) (j : Nat), zI (szL X b v) j b = zI X j b := fun _ _ _ => rfl
    refine ⟨?_, ?_, ?_, ?_, ?_, ?_, ?_⟩
    · rw [zLI, zI_k (by decide), zI_k (by decide)]
      exact n0
    · unfold dK
      rw [if_neg q1, if_neg q2, if_neg q4, if_pos q5, zLI, zI_k (by decide), zI_self]
    · rw [zLI, zI_k (by decide), zI_k (by decide)]
      exact n2
    · unfold dO
      rw [if_neg q1, if_neg q2, if_neg q4, if_pos q5, zLI, zI_k (by decide), zI_k (by decide)]
      exact n3
    · unfold dV
      rw [if_neg q1, if_neg q2, if_neg q4, if_pos q5, zLI, zI_self]
      exact eqv_kv ev 119 4
    · unfold dL
      rw [if_neg q1, zLI, zI_k (by decide), zI_k (by decide)]
      exact n5
    · unfold dX
      rw [if_neg q1, if_neg q2, if_neg q4, if_pos q5, zL_self, e30_3 ev]
  obtain ⟨T, u1, u2, u3, u4, u5⟩ := rstS (rc := rc) (m := m) (n' := n) (s' := r30_4 f c (dP f c (q, false)) s) (q := q) (Rd_L _ (Rd_I hne _ (Rd_I hne _ h))) hab nt (nR 7) (nR 8) (nR 9) hm hsd
  exact ⟨T, (zcV_s e).trans u1, fun V hV hVb => u2 V (Grw_L (Grw_I (Grw_I hV hVb _) hVb _) hVb _) hVb, u3, u4, u5⟩
theorem sendN {N : hS} {x : pw} (hx : x = (q, false)) (h : Rd N a c f) (hs : s.1 ≤ c) (hab : a < b) (hN : Nw N f c b q) (ev : eqv s (dS1 f c x)) (q1 : ¬ dC f c x = 33) (q2 : ¬ dC f c x = 63) (q4 : ¬ dC f c x = 64) (q5 : ¬ (rd_var (dC f c x) = true ∧ ka f c (dS1 f c x) 1 = 58)) (hm : 42 ≤ m) : ∃ T, zcV (yR_readSend m (U N a s n) a (some b)) (fun S5 => yR_readStatement_121 a rc m S5 (some b)) = some (U T a (r31_5 f c (dP f c x) s) n, some b) ∧ (∀ V, Grw V N → V.1 ≤ b → Grw V T) ∧ T.1 = N.1 ∧ zR T 9 b = none ∧ RS T f c (r31_5 f c (dP f c x) s).2.1 (cn q .nil .nil) b (some b) := by
  subst hx
  obtain ⟨n0, n2, n3, n4, n5, nL, nR, nt⟩ := hN
  have hne : a ≠ b := by omega
  have e := st_send (n := n) (m := m) h hs hne nt (by omega)
  rw [n2] at e
  have hsd : SD (szI (szI (szL (szI N 1 b 2) b (r31_1 f c (dP f c (q, false)) s).2.2.1) 3 b (kv_other f c (dP f c (q, false)) (r31_2 f c (dP f c (q, false)) s))) 4 b (kv_one f c 119 4 (r31_3 f c (dP f c (q, false)) s))) f c b (q, false) := by
    have zLI : ∀ (X : hS) (v : Int64) (j : Nat), zI (szL X b v) j b = zI X j b := fun _ _ _ => rfl
    have zIL : ∀ (X : hS) (v : Int32) (j : Nat), zL (szI X j b v) b = zL X b := fun _ _ _ => rfl
    refine ⟨?_, ?_, ?_, ?_, ?_, ?_, ?_⟩
    · rw [zI_k (by decide), zI_k (by decide), zLI, zI_k (by decide)]
      exact n0
    · unfold dK
      rw [if_neg q1, if_neg q2, if_neg q4, if_neg q5, zI_k (by decide), zI_k (by decide), zLI, zI_self]
    · rw [zI_k (by decide), zI_k (by decide), zLI, zI_k (by decide)]
      exact n2
    · unfold dO
      rw [if_neg q1, if_neg q2, if_neg q4, if_neg q5, zI_k (by decide), zI_self, e31_2 ev]
    · unfold dV
      rw [if_neg q1, if_neg q2, if_neg q4, if_neg q5, zI_self, e31_3 ev]
    · unfold dL
      rw [if_neg q1, zI_k (by decide), zI_k (by decide), zLI, zI_k (by decide)]
      exact n5
    · unfold dX
      rw [if_neg q1, if_neg q2, if_neg q4, if_neg q5, zIL, zIL, zL_self, e31_1 ev]
  obtain ⟨T, u1, u2, u3, u4, u5⟩ := rstS (rc := rc) (m := m) (n' := n) (s' := r31_5 f c (dP f c (q, false)) s) (q := q) (Rd_I hne _ (Rd_I hne _ (Rd_L _ (Rd_I hne _ h)))) hab nt (nR 7) (nR 8) (nR 9) hm hsd
  exact ⟨T, (zcV_s e).trans u1, fun V hV hVb => u2 V (Grw_I (Grw_I (Grw_L (Grw_I hV hVb _) hVb _) hVb _) hVb _) hVb, u3, u4, u5⟩
theorem rstK (h : Rd S a c f) (hs : s.1 ≤ c) (hN : S.1 < ie_S) (hn : n ≤ 40) : yR_readStatement rc m (U S a s n) a (Int32.ofNat d) = if n = 40 then some (U (szI (szI (szN S 9) 3 S.1 (-1)) 0 S.1 (Int32.ofNat s.1)) a (ks_wrong s) n, some S.1) else (if dC f c (pj s) = 33 then zcV (yR_readTell (U (nst S s.1 (dP f c (pj s))) a (ks_one f c 65 6 s) (n + 1)) a (some S.1)) (fun S5 => yR_readStatement_121 a rc m S5 (some S.1)) else if dC f c (pj s) = 63 ∨ dC f c (pj s) = 64 then zcV (yR_readBranches rc m (U (nst S s.1 (dP f c (pj s))) a (ks_one f c 65 6 s) (n + 1)) a (some S.1) (Int32.ofNat d)) (fun S5 => yR_readStatement_121 a rc m S5 (some S.1)) else if rd_var (dC f c (pj s)) = true ∧ ka f c (dS1 f c (pj s)) 1 = 58 then zcV (yR_readSet m (U (nst S s.1 (dP f c (pj s))) a (ks_one f c 65 6 s) (n + 1)) a (some S.1)) (fun S5 => yR_readStatement_121 a rc m S5 (some S.1)) else zcV (yR_readSend m (U (nst S s.1 (dP f c (pj s))) a (ks_one f c 65 6 s) (n + 1)) a (some S.1)) (fun S5 => yR_readStatement_121 a rc m S5 (some S.1))) := by
  have ev : eqv (ks_one f c 65 6 s) (dS1 f c (pj s)) := eqv_one eqv_z 65 6
  have hp : dP f c (pj s) = kv_one f c 65 6 s := (eqv_kv eqv_z 65 6).symm
  have hC : dC f c (pj s) = ka f c (ks_one f c 65 6 s) 0 := (eqv_ka ev 0).symm
  have hC1 : ka f c (dS1 f c (pj s)) 1 = ka f c (ks_one f c 65 6 s) 1 := (eqv_ka ev 1).symm
  rw [hp, hC, hC1]
  exact rstA (rc := rc) (m := m) (d := d) (n := n) h hs hN hn _ rfl
theorem rst_40 (hR : d < 6 → RCs rc R a c f (d + 1) M) (h : Rd S a c f) (hs : s.1 ≤ c) (hw : s.2.1 = false) (hn : n ≤ 40) (hM : S.1 + 41 ≤ M + n) (hMS : M ≤ ie_S) (hm : 42 ≤ m) (hd : d ≤ 9) (q0 : n = 40) : ∃ T s', yR_readStatement rc m (U S a s n) a (Int32.ofNat d) = some (U T a s' (pStm R f c d (pj s) n).2.1, some S.1) ∧ pj s' = (pStm R f c d (pj s) n).1 ∧ s'.1 ≤ c ∧ (pStm R f c d (pj s) n).2.1 ≤ 40 ∧ Grw S T ∧ (s'.2.1 = false → T.1 + 41 ≤ M + (pStm R f c d (pj s) n).2.1) ∧ S.1 < T.1 ∧ zR T 9 S.1 = none ∧ RS T f c s'.2.1 (cn s.1 (pStm R f c d (pj s) n).2.2 .nil) S.1 (some S.1) ∧ T.1 ≤ max S.1 M := by
  have ha := (ztg_lt h.1).1
  have hne : a ≠ S.1 := by omega
  have hN : S.1 < ie_S := by omega
  have hx : pj s = (s.1, false) := by unfold pj; rw [hw]
  have ev : eqv (ks_one f c 65 6 s) (dS1 f c (pj s)) := eqv_one eqv_z 65 6
  have hp : kv_one f c 65 6 s = dP f c (pj s) := eqv_kv eqv_z 65 6
  have hC : ka f c (ks_one f c 65 6 s) 0 = dC f c (pj s) := eqv_ka ev 0
  have hC1 : ka f c (ks_one f c 65 6 s) 1 = ka f c (dS1 f c (pj s)) 1 := eqv_ka ev 1
  have l1 : (ks_one f c 65 6 s).1 ≤ c := ks_one_le (by decide) hs
  have key := rstK (rc := rc) (m := m) (d := d) (n := n) h hs hN hn
  have r3 : Rd (nst S s.1 (dP f c (pj s))) a c f := Rd_g h (nst_g _ _)
  have t3 : ztg (nst S s.1 (dP f c (pj s))) S.1 = 10 := nst_t _ _ hN
  have N3 : (nst S s.1 (dP f c (pj s))).1 = S.1 + 1 := rfl
  have g3 : Grw S (nst S s.1 (dP f c (pj s))) := nst_g _ _
  have p2 : zI (nst S s.1 (dP f c (pj s))) 2 S.1 = dP f c (pj s) := nst_2 _ _
  have ep : pStm R f c d (pj s) n = ((s.1, true), n, .nil) := by
    unfold pStm
    rw [if_pos q0]
    rw [show (pj s).1 = s.1 from rfl]
  rw [ep]
  rw [if_pos q0] at key
  refine ⟨szI (szI (szN S 9) 3 S.1 (-1)) 0 S.1 (Int32.ofNat s.1), ks_wrong s, key, rfl, hs, hn, Grw_I (Grw_I (Grw_N 9) (Nat.le_refl _) _) (Nat.le_refl _) _, fun z => Bool.noConfusion z, Nat.lt_succ_self _, zR_new 9 9, ?_, ?_⟩
  · exact RS1 (show ztg (szN S 9) S.1 = 10 from ztg_newN ⟨rfl, hN⟩ rfl) (zR_new 9 7) (zR_new 9 8) (zR_new 9 9) (fun z => Bool.noConfusion z)
  · show S.1 + 1 ≤ max S.1 M
    omega
theorem rst_tell (hR : d < 6 → RCs rc R a c f (d + 1) M) (h : Rd S a c f) (hs : s.1 ≤ c) (hw : s.2.1 = false) (hn : n ≤ 40) (hM : S.1 + 41 ≤ M + n) (hMS : M ≤ ie_S) (hm : 42 ≤ m) (hd : d ≤ 9) (q0 : ¬ n = 40) (q1 : dC f c (pj s) = 33) : ∃ T s', yR_readStatement rc m (U S a s n) a (Int32.ofNat d) = some (U T a s' (pStm R f c d (pj s) n).2.1, some S.1) ∧ pj s' = (pStm R f c d (pj s) n).1 ∧ s'.1 ≤ c ∧ (pStm R f c d (pj s) n).2.1 ≤ 40 ∧ Grw S T ∧ (s'.2.1 = false → T.1 + 41 ≤ M + (pStm R f c d (pj s) n).2.1) ∧ S.1 < T.1 ∧ zR T 9 S.1 = none ∧ RS T f c s'.2.1 (cn s.1 (pStm R f c d (pj s) n).2.2 .nil) S.1 (some S.1) ∧ T.1 ≤ max S.1 M := by
  have ha := (ztg_lt h.1).1
  have hne : a ≠ S.1 := by omega
  have hN : S.1 < ie_S := by omega
  have hx : pj s = (s.1, false) := by unfold pj; rw [hw]
  have ev : eqv (ks_one f c 65 6 s) (dS1 f c (pj s)) := eqv_one eqv_z 65 6
  have hp : kv_one f c 65 6 s = dP f c (pj s) := eqv_kv eqv_z 65 6
  have hC : ka f c (ks_one f c 65 6 s) 0 = dC f c (pj s) := eqv_ka ev 0
  have hC1 : ka f c (ks_one f c 65 6 s) 1 = ka f c (dS1 f c (pj s)) 1 := eqv_ka ev 1
  have l1 : (ks_one f c 65 6 s).1 ≤ c := ks_one_le (by decide) hs
  have key := rstK (rc := rc) (m := m) (d := d) (n := n) h hs hN hn
  have r3 : Rd (nst S s.1 (dP f c (pj s))) a c f := Rd_g h (nst_g _ _)
  have t3 : ztg (nst S s.1 (dP f c (pj s))) S.1 = 10 := nst_t _ _ hN
  have N3 : (nst S s.1 (dP f c (pj s))).1 = S.1 + 1 := rfl
  have g3 : Grw S (nst S s.1 (dP f c (pj s))) := nst_g _ _
  have p2 : zI (nst S s.1 (dP f c (pj s))) 2 S.1 = dP f c (pj s) := nst_2 _ _
  have ep : pStm R f c d (pj s) n = (pj (r19_5 f c (dP f c (pj s)) (dS1 f c (pj s))), n + 1, .nil) := by
    unfold pStm
    rw [if_neg q0, if_pos q1]
  rw [ep]
  rw [if_neg q0, if_pos q1] at key
  obtain ⟨T, u1, u2, u3, u4, u5⟩ := tellN (rc := rc) (m := m) (n := n + 1) hx r3 l1 (show a < S.1 by omega) (show Nw (nst S s.1 (dP f c (pj s))) f c S.1 s.1 by rw [hx]; exact nwN hN) ev q1 hm
  refine ⟨T, _, key.trans u1, pj_e (e19_5 ev), ?_, (show n + 1 ≤ 40 by omega), u2 S g3 (Nat.le_refl _), fun _ => ?_, ?_, u4, u5, ?_⟩
  · exact ks_expect_le (by decide) (ks_other_le (ks_expect_le (by decide) (ks_one_le (by decide) (ks_expect_le (by decide) l1))))
  · rw [u3, N3]
    show S.1 + 1 + 41 ≤ M + (n + 1)
    omega
  · rw [u3, N3]
    exact Nat.lt_succ_self _
  · rw [u3, N3]
    omega
theorem rst_63 (hR : d < 6 → RCs rc R a c f (d + 1) M) (h : Rd S a c f) (hs : s.1 ≤ c) (hw : s.2.1 = false) (hn : n ≤ 40) (hM : S.1 + 41 ≤ M + n) (hMS : M ≤ ie_S) (hm : 42 ≤ m) (hd : d ≤ 9) (q0 : ¬ n = 40) (q1 : ¬ dC f c (pj s) = 33) (q2 : dC f c (pj s) = 63) (q3 : d < 6) : ∃ T s', yR_readStatement rc m (U S a s n) a (Int32.ofNat d) = some (U T a s' (pStm R f c d (pj s) n).2.1, some S.1) ∧ pj s' = (pStm R f c d (pj s) n).1 ∧ s'.1 ≤ c ∧ (pStm R f c d (pj s) n).2.1 ≤ 40 ∧ Grw S T ∧ (s'.2.1 = false → T.1 + 41 ≤ M + (pStm R f c d (pj s) n).2.1) ∧ S.1 < T.1 ∧ zR T 9 S.1 = none ∧ RS T f c s'.2.1 (cn s.1 (pStm R f c d (pj s) n).2.2 .nil) S.1 (some S.1) ∧ T.1 ≤ max S.1 M := by
  have ha := (ztg_lt h.1).1
  have hne : a ≠ S.1 := by omega
  have hN : S.1 < ie_S := by omega
  have hx : pj s = (s.1, false) := by unfold pj; rw [hw]
  have ev : eqv (ks_one f c 65 6 s) (dS1 f c (pj s)) := eqv_one eqv_z 65 6
  have hp : kv_one f c 65 6 s = dP f c (pj s) := eqv_kv eqv_z 65 6
  have hC : ka f c (ks_one f c 65 6 s) 0 = dC f c (pj s) := eqv_ka ev 0
  have hC1 : ka f c (ks_one f c 65 6 s) 1 = ka f c (dS1 f c (pj s)) 1 := eqv_ka ev 1
  have l1 : (ks_one f c 65 6 s).1 ≤ c := ks_one_le (by decide) hs
  have key := rstK (rc := rc) (m := m) (d := d) (n := n) h hs hN hn
  have r3 : Rd (nst S s.1 (dP f c (pj s))) a c f := Rd_g h (nst_g _ _)
  have t3 : ztg (nst S s.1 (dP f c (pj s))) S.1 = 10 := nst_t _ _ hN
  have N3 : (nst S s.1 (dP f c (pj s))).1 = S.1 + 1 := rfl
  have g3 : Grw S (nst S s.1 (dP f c (pj s))) := nst_g _ _
  have p2 : zI (nst S s.1 (dP f c (pj s))) 2 S.1 = dP f c (pj s) := nst_2 _ _
  have ep : pStm R f c d (pj s) n = ((pBlk R f c (pBlk R f c (pj (dE f c (pj s))) (n + 1)).1 (pBlk R f c (pj (dE f c (pj s))) (n + 1)).2.1).1, (pBlk R f c (pBlk R f c (pj (dE f c (pj s))) (n + 1)).1 (pBlk R f c (pj (dE f c (pj s))) (n + 1)).2.1).2.1, cn 0 (pBlk R f c (pj (dE f c (pj s))) (n + 1)).2.2 (cn 1 (pBlk R f c (pBlk R f c (pj (dE f c (pj s))) (n + 1)).1 (pBlk R f c (pj (dE f c (pj s))) (n + 1)).2.1).2.2 .nil)) := by
    unfold pStm
    rw [if_neg q0, if_neg q1, if_pos q2, if_pos q3]
  rw [ep]
  rw [if_neg q0, if_neg q1, if_pos (Or.inl q2)] at key
  have hC0 : ka f c (ks_one f c 65 6 s) 0 = 63 := hC.trans q2
  have hlt := ka_lt (f := f) (c := c) (s := ks_one f c 65 6 s) (by rw [hC0]; decide)
  have eE : ks_expr f c ((ks_one f c 65 6 s).1 + 1, (ks_one f c 65 6 s).2) = dE f c (pj s) := by
    unfold dE
    exact eqv_xp ⟨by show (ks_one f c 65 6 s).1 + 1 = _ + 1; rw [ev.1], ev.2⟩
  obtain ⟨T1, s', w1, w2, w3, w4, w5, w6, w7, w8, w9, w10, w11, w12, w13, w14, w15, w16⟩ := rbr63 (n := n + 1) (m := m) (hR q3) r3 hlt.1 (by omega) (by omega) (fun _ => by rw [N3]; omega) (by omega : a < S.1) t3 N3.symm q3 hC0
  rw [eE] at w1 w2 w4 w6 w10 w12 w13 w14 w15
  have rT : Rd T1 a c f := Rd_g h (w5 S g3 (Nat.le_refl _))
  obtain ⟨o, v1, v2⟩ := r121 (rc := rc) (s := s') (n := (pBlk R f c (pBlk R f c (pj (dE f c (pj s))) (n + 1)).1 (pBlk R f c (pj (dE f c (pj s))) (n + 1)).2.1).2.1) (w := s'.2.1) rT (by omega : a < S.1) w7 w12 w13 w14 w15 hm
  refine ⟨szI T1 11 S.1 o, s', key.trans ((zcV_s w1).trans v1), w2, w3, w4, Grw_I (w5 S g3 (Nat.le_refl _)) (Nat.le_refl _) _, w6, (ztg_lt w7).1, ?_, ?_, ?_⟩
  · show zR T1 9 S.1 = none
    rw [w11]
    exact nst_R s.1 (dP f c (pj s)) 9
  · show RS _ f c s'.2.1 (.append (.tag s.1 (.append (.tag 0 _) (.append (.tag 1 _) .nil))) .nil) S.1 (some S.1)
    unfold RS
    refine ⟨S.1, rfl, Nat.le_refl _, w7, fun z => ?_, RS_fr _ _ _ w12 (Sme_I (by omega) o), RS_fr _ _ _ w13 (Sme_I (by omega) o), ?_⟩
    · rw [← hx]
      have d0 : zI T1 0 S.1 = Int32.ofNat (pj s).1 := by rw [w9 0 (by decide)]; exact nst_0 s.1 (dP f c (pj s))
      have d2 : zI T1 2 S.1 = dP f c (pj s) := by rw [w9 2 (by decide)]; exact p2
      have d3 : zI T1 3 S.1 = dO f c (pj s) := by
        rw [w9 3 (by decide)]
        unfold dO
        rw [if_neg q1, if_pos q2]
        exact nst_3 s.1 (dP f c (pj s))
      refine ⟨⟨d0, ?_, d2, d3, ?_, ?_, ?_⟩, ?_⟩
      · unfold dK
        rw [if_neg q1, if_pos q2]
        exact w8
      · unfold dV
        rw [if_neg q1, if_pos q2]
        exact (w9 4 (by decide)).trans (nst_4 s.1 (dP f c (pj s)))
      · unfold dL
        rw [if_neg q1]
        exact (w9 5 (by decide)).trans (nst_5 s.1 (dP f c (pj s)))
      · unfold dX
        rw [if_neg q1, if_pos q2]
        exact w10
      · rw [zI_self, v2 z, d2, d3]
    · show RS _ f c s'.2.1 .nil S.1 (zR T1 9 S.1)
      rw [w11]
      exact nst_R s.1 (dP f c (pj s)) 9
  · have h9 : T1.1 ≤ max (S.1 + 1) M := w16
    show T1.1 ≤ max S.1 M
    omega
theorem rst_63x (hR : d < 6 → RCs rc R a c f (d + 1) M) (h : Rd S a c f) (hs : s.1 ≤ c) (hw : s.2.1 = false) (hn : n ≤ 40) (hM : S.1 + 41 ≤ M + n) (hMS : M ≤ ie_S) (hm : 42 ≤ m) (hd : d ≤ 9) (q0 : ¬ n = 40) (q1 : ¬ dC f c (pj s) = 33) (q2 : dC f c (pj s) = 63) (q3 : ¬ d < 6) : ∃ T s', yR_readStatement rc m (U S a s n) a (Int32.ofNat d) = some (U T a s' (pStm R f c d (pj s) n).2.1, some S.1) ∧ pj s' = (pStm R f c d (pj s) n).1 ∧ s'.1 ≤ c ∧ (pStm R f c d (pj s) n).2.1 ≤ 40 ∧ Grw S T ∧ (s'.2.1 = false → T.1 + 41 ≤ M + (pStm R f c d (pj s) n).2.1) ∧ S.1 < T.1 ∧ zR T 9 S.1 = none ∧ RS T f c s'.2.1 (cn s.1 (pStm R f c d (pj s) n).2.2 .nil) S.1 (some S.1) ∧ T.1 ≤ max S.1 M := by
  have ha := (ztg_lt h.1).1
  have hne : a ≠ S.1 := by omega
  have hN : S.1 < ie_S := by omega
  have hx : pj s = (s.1, false) := by unfold pj; rw [hw]
  have ev : eqv (ks_one f c 65 6 s) (dS1 f c (pj s)) := eqv_one eqv_z 65 6
  have hp : kv_one f c 65 6 s = dP f c (pj s) := eqv_kv eqv_z 65 6
  have hC : ka f c (ks_one f c 65 6 s) 0 = dC f c (pj s) := eqv_ka ev 0
  have hC1 : ka f c (ks_one f c 65 6 s) 1 = ka f c (dS1 f c (pj s)) 1 := eqv_ka ev 1
  have l1 : (ks_one f c 65 6 s).1 ≤ c := ks_one_le (by decide) hs
  have key := rstK (rc := rc) (m := m) (d := d) (n := n) h hs hN hn
  have r3 : Rd (nst S s.1 (dP f c (pj s))) a c f := Rd_g h (nst_g _ _)
  have t3 : ztg (nst S s.1 (dP f c (pj s))) S.1 = 10 := nst_t _ _ hN
  have N3 : (nst S s.1 (dP f c (pj s))).1 = S.1 + 1 := rfl
  have g3 : Grw S (nst S s.1 (dP f c (pj s))) := nst_g _ _
  have p2 : zI (nst S s.1 (dP f c (pj s))) 2 S.1 = dP f c (pj s) := nst_2 _ _
  have ep : pStm R f c d (pj s) n = (((dS1 f c (pj s)).1, true), n + 1, .nil) := by
    unfold pStm
    rw [if_neg q0, if_neg q1, if_pos q2, if_neg q3]
  rw [ep]
  rw [if_neg q0, if_neg q1, if_pos (Or.inl q2)] at key
  have hC0 : ka f c (ks_one f c 65 6 s) 0 = 63 := hC.trans q2
  have hlt := ka_lt (f := f) (c := c) (s := ks_one f c 65 6 s) (by rw [hC0]; decide)
  have eE : ks_expr f c ((ks_one f c 65 6 s).1 + 1, (ks_one f c 65 6 s).2) = dE f c (pj s) := by
    unfold dE
    exact eqv_xp ⟨by show (ks_one f c 65 6 s).1 + 1 = _ + 1; rw [ev.1], ev.2⟩
  have e := rbrX (rc := rc) (m := m) (n := n + 1) (s := ks_one f c 65 6 s) (b := S.1) r3 (by omega : 6 ≤ d) (by omega)
  obtain ⟨o, v1, v2⟩ := r121 (rc := rc) (m := m) (s := ks_wrong (ks_one f c 65 6 s)) (n := n + 1) (w := true) (t1 := .nil) (t2 := .nil) r3 (by omega : a < S.1) t3 (by rw [nst_R]; rfl) (by rw [nst_R]; rfl) (by decide) (by decide) hm
  refine ⟨szI (nst S s.1 (dP f c (pj s))) 11 S.1 o, ks_wrong (ks_one f c 65 6 s), key.trans ((zcV_s e).trans v1), ?_, l1, (show n + 1 ≤ 40 by omega), Grw_I g3 (Nat.le_refl _) _, fun z => Bool.noConfusion z, Nat.lt_succ_self _, nst_R s.1 (dP f c (pj s)) 9, RS1 t3 (nst_R s.1 (dP f c (pj s)) 7) (nst_R s.1 (dP f c (pj s)) 8) (nst_R s.1 (dP f c (pj s)) 9) (fun z => Bool.noConfusion z), (show S.1 + 1 ≤ max S.1 M by omega)⟩
  show ((ks_one f c 65 6 s).1, true) = _
  rw [ev.1]
theorem rst_64 (hR : d < 6 → RCs rc R a c f (d + 1) M) (h : Rd S a c f) (hs : s.1 ≤ c) (hw : s.2.1 = false) (hn : n ≤ 40) (hM : S.1 + 41 ≤ M + n) (hMS : M ≤ ie_S) (hm : 42 ≤ m) (hd : d ≤ 9) (q0 : ¬ n = 40) (q1 : ¬ dC f c (pj s) = 33) (q2 : ¬ dC f c (pj s) = 63) (q4 : dC f c (pj s) = 64) (q3 : d < 6) : ∃ T s', yR_readStatement rc m (U S a s n) a (Int32.ofNat d) = some (U T a s' (pStm R f c d (pj s) n).2.1, some S.1) ∧ pj s' = (pStm R f c d (pj s) n).1 ∧ s'.1 ≤ c ∧ (pStm R f c d (pj s) n).2.1 ≤ 40 ∧ Grw S T ∧ (s'.2.1 = false → T.1 + 41 ≤ M + (pStm R f c d (pj s) n).2.1) ∧ S.1 < T.1 ∧ zR T 9 S.1 = none ∧ RS T f c s'.2.1 (cn s.1 (pStm R f c d (pj s) n).2.2 .nil) S.1 (some S.1) ∧ T.1 ≤ max S.1 M := by
  have ha := (ztg_lt h.1).1
  have hne : a ≠ S.1 := by omega
  have hN : S.1 < ie_S := by omega
  have hx : pj s = (s.1, false) := by unfold pj; rw [hw]
  have ev : eqv (ks_one f c 65 6 s) (dS1 f c (pj s)) := eqv_one eqv_z 65 6
  have hp : kv_one f c 65 6 s = dP f c (pj s) := eqv_kv eqv_z 65 6
  have hC : ka f c (ks_one f c 65 6 s) 0 = dC f c (pj s) := eqv_ka ev 0
  have hC1 : ka f c (ks_one f c 65 6 s) 1 = ka f c (dS1 f c (pj s)) 1 := eqv_ka ev 1
  have l1 : (ks_one f c 65 6 s).1 ≤ c := ks_one_le (by decide) hs
  have key := rstK (rc := rc) (m := m) (d := d) (n := n) h hs hN hn
  have r3 : Rd (nst S s.1 (dP f c (pj s))) a c f := Rd_g h (nst_g _ _)
  have t3 : ztg (nst S s.1 (dP f c (pj s))) S.1 = 10 := nst_t _ _ hN
  have N3 : (nst S s.1 (dP f c (pj s))).1 = S.1 + 1 := rfl
  have g3 : Grw S (nst S s.1 (dP f c (pj s))) := nst_g _ _
  have p2 : zI (nst S s.1 (dP f c (pj s))) 2 S.1 = dP f c (pj s) := nst_2 _ _
  have ep : pStm R f c d (pj s) n = ((pBlk R f c (pj (dE f c (pj s))) (n + 1)).1, (pBlk R f c (pj (dE f c (pj s))) (n + 1)).2.1, cn 0 (pBlk R f c (pj (dE f c (pj s))) (n + 1)).2.2 .nil) := by
    unfold pStm
    rw [if_neg q0, if_neg q1, if_neg q2, if_pos q4, if_pos q3]
  rw [ep]
  rw [if_neg q0, if_neg q1, if_pos (Or.inr q4)] at key
  have hC0 : ka f c (ks_one f c 65 6 s) 0 = 64 := hC.trans q4
  have hlt := ka_lt (f := f) (c := c) (s := ks_one f c 65 6 s) (by rw [hC0]; decide)
  have eE : ks_expr f c ((ks_one f c 65 6 s).1 + 1, (ks_one f c 65 6 s).2) = dE f c (pj s) := by
    unfold dE
    exact eqv_xp ⟨by show (ks_one f c 65 6 s).1 + 1 = _ + 1; rw [ev.1], ev.2⟩
  obtain ⟨T1, s', w1, w2, w3, w4, w5, w6, w7, w8, w9, w10, w11, w12, w13, w14, w15⟩ := rbr64 (n := n + 1) (m := m) (hR q3) r3 hlt.1 (by omega) (by omega) (fun _ => by rw [N3]; omega) (by omega : a < S.1) t3 N3.symm q3 hC0 (nst_R s.1 (dP f c (pj s)) 8)
  rw [eE] at w1 w2 w4 w6 w10 w12 w14
  have rT : Rd T1 a c f := Rd_g h (w5 S g3 (Nat.le_refl _))
  obtain ⟨o, v1, v2⟩ := r121 (rc := rc) (s := s') (n := (pBlk R f c (pj (dE f c (pj s))) (n + 1)).2.1) (w := s'.2.1) (t2 := .nil) rT (by omega : a < S.1) w7 w12 (by rw [w13]; rfl) w14 (by decide) hm
  refine ⟨szI T1 11 S.1 o, s', key.trans ((zcV_s w1).trans v1), w2, w3, w4, Grw_I (w5 S g3 (Nat.le_refl _)) (Nat.le_refl _) _, w6, (ztg_lt w7).1, ?_, ?_, ?_⟩
  · show zR T1 9 S.1 = none
    rw [w11]
    exact nst_R s.1 (dP f c (pj s)) 9
  · show RS _ f c s'.2.1 (.append (.tag s.1 (.append (.tag 0 _) .nil)) .nil) S.1 (some S.1)
    unfold RS
    refine ⟨S.1, rfl, Nat.le_refl _, w7, fun z => ?_, RS_fr _ _ _ w12 (Sme_I (by omega) o), w13, ?_⟩
    · rw [← hx]
      have d0 : zI T1 0 S.1 = Int32.ofNat (pj s).1 := by rw [w9 0 (by decide)]; exact nst_0 s.1 (dP f c (pj s))
      have d2 : zI T1 2 S.1 = dP f c (pj s) := by rw [w9 2 (by decide)]; exact p2
      have d3 : zI T1 3 S.1 = dO f c (pj s) := by
        rw [w9 3 (by decide)]
        unfold dO
        rw [if_neg q1, if_neg q2, if_pos q4]
        exact nst_3 s.1 (dP f c (pj s))
      refine ⟨⟨d0, ?_, d2, d3, ?_, ?_, ?_⟩, ?_⟩
      · unfold dK
        rw [if_neg q1, if_neg q2, if_pos q4]
        exact w8
      · unfold dV
        rw [if_neg q1, if_neg q2, if_pos q4]
        exact (w9 4 (by decide)).trans (nst_4 s.1 (dP f c (pj s)))
      · unfold dL
        rw [if_neg q1]
        exact (w9 5 (by decide)).trans (nst_5 s.1 (dP f c (pj s)))
      · unfold dX
        rw [if_neg q1, if_neg q2, if_pos q4]
        exact w10
      · rw [zI_self, v2 z, d2, d3]
        rfl
    · show RS _ f c s'.2.1 .nil S.1 (zR T1 9 S.1)
      rw [w11]
      exact nst_R s.1 (dP f c (pj s)) 9
  · have h9 : T1.1 ≤ max (S.1 + 1) M := w15
    show T1.1 ≤ max S.1 M
    omega
theorem rst_64x (hR : d < 6 → RCs rc R a c f (d + 1) M) (h : Rd S a c f) (hs : s.1 ≤ c) (hw : s.2.1 = false) (hn : n ≤ 40) (hM : S.1 + 41 ≤ M + n) (hMS : M ≤ ie_S) (hm : 42 ≤ m) (hd : d ≤ 9) (q0 : ¬ n = 40) (q1 : ¬ dC f c (pj s) = 33) (q2 : ¬ dC f c (pj s) = 63) (q4 : dC f c (pj s) = 64) (q3 : ¬ d < 6) : ∃ T s', yR_readStatement rc m (U S a s n) a (Int32.ofNat d) = some (U T a s' (pStm R f c d (pj s) n).2.1, some S.1) ∧ pj s' = (pStm R f c d (pj s) n).1 ∧ s'.1 ≤ c ∧ (pStm R f c d (pj s) n).2.1 ≤ 40 ∧ Grw S T ∧ (s'.2.1 = false → T.1 + 41 ≤ M + (pStm R f c d (pj s) n).2.1) ∧ S.1 < T.1 ∧ zR T 9 S.1 = none ∧ RS T f c s'.2.1 (cn s.1 (pStm R f c d (pj s) n).2.2 .nil) S.1 (some S.1) ∧ T.1 ≤ max S.1 M := by
  have ha := (ztg_lt h.1).1
  have hne : a ≠ S.1 := by omega
  have hN : S.1 < ie_S := by omega
  have hx : pj s = (s.1, false) := by unfold pj; rw [hw]
  have ev : eqv (ks_one f c 65 6 s) (dS1 f c (pj s)) := eqv_one eqv_z 65 6
  have hp : kv_one f c 65 6 s = dP f c (pj s) := eqv_kv eqv_z 65 6
  have hC : ka f c (ks_one f c 65 6 s) 0 = dC f c (pj s) := eqv_ka ev 0
  have hC1 : ka f c (ks_one f c 65 6 s) 1 = ka f c (dS1 f c (pj s)) 1 := eqv_ka ev 1
  have l1 : (ks_one f c 65 6 s).1 ≤ c := ks_one_le (by decide) hs
  have key := rstK (rc := rc) (m := m) (d := d) (n := n) h hs hN hn
  have r3 : Rd (nst S s.1 (dP f c (pj s))) a c f := Rd_g h (nst_g _ _)
  have t3 : ztg (nst S s.1 (dP f c (pj s))) S.1 = 10 := nst_t _ _ hN
  have N3 : (nst S s.1 (dP f c (pj s))).1 = S.1 + 1 := rfl
  have g3 : Grw S (nst S s.1 (dP f c (pj s))) := nst_g _ _
  have p2 : zI (nst S s.1 (dP f c (pj s))) 2 S.1 = dP f c (pj s) := nst_2 _ _
  have ep : pStm R f c d (pj s) n = (((dS1 f c (pj s)).1, true), n + 1, .nil) := by
    unfold pStm
    rw [if_neg q0, if_neg q1, if_neg q2, if_pos q4, if_neg q3]
  rw [ep]
  rw [if_neg q0, if_neg q1, if_pos (Or.inr q4)] at key
  have hC0 : ka f c (ks_one f c 65 6 s) 0 = 64 := hC.trans q4
  have hlt := ka_lt (f := f) (c := c) (s := ks_one f c 65 6 s) (by rw [hC0]; decide)
  have eE : ks_expr f c ((ks_one f c 65 6 s).1 + 1, (ks_one f c 65 6 s).2) = dE f c (pj s) := by
    unfold dE
    exact eqv_xp ⟨by show (ks_one f c 65 6 s).1 + 1 = _ + 1; rw [ev.1], ev.2⟩
  have e := rbrX (rc := rc) (m := m) (n := n + 1) (s := ks_one f c 65 6 s) (b := S.1) r3 (by omega : 6 ≤ d) (by omega)
  obtain ⟨o, v1, v2⟩ := r121 (rc := rc) (m := m) (s := ks_wrong (ks_one f c 65 6 s)) (n := n + 1) (w := true) (t1 := .nil) (t2 := .nil) r3 (by omega : a < S.1) t3 (by rw [nst_R]; rfl) (by rw [nst_R]; rfl) (by decide) (by decide) hm
  refine ⟨szI (nst S s.1 (dP f c (pj s))) 11 S.1 o, ks_wrong (ks_one f c 65 6 s), key.trans ((zcV_s e).trans v1), ?_, l1, (show n + 1 ≤ 40 by omega), Grw_I g3 (Nat.le_refl _) _, fun z => Bool.noConfusion z, Nat.lt_succ_self _, nst_R s.1 (dP f c (pj s)) 9, RS1 t3 (nst_R s.1 (dP f c (pj s)) 7) (nst_R s.1 (dP f c (pj s)) 8) (nst_R s.1 (dP f c (pj s)) 9) (fun z => Bool.noConfusion z), (show S.1 + 1 ≤ max S.1 M by omega)⟩
  show ((ks_one f c 65 6 s).1, true) = _
  rw [ev.1]
theorem rst_set (hR : d < 6 → RCs rc R a c f (d + 1) M) (h : Rd S a c f) (hs : s.1 ≤ c) (hw : s.2.1 = false) (hn : n ≤ 40) (hM : S.1 + 41 ≤ M + n) (hMS : M ≤ ie_S) (hm : 42 ≤ m) (hd : d ≤ 9) (q0 : ¬ n = 40) (q1 : ¬ dC f c (pj s) = 33) (q2 : ¬ dC f c (pj s) = 63) (q4 : ¬ dC f c (pj s) = 64) (q5 : rd_var (dC f c (pj s)) = true ∧ ka f c (dS1 f c (pj s)) 1 = 58) : ∃ T s', yR_readStatement rc m (U S a s n) a (Int32.ofNat d) = some (U T a s' (pStm R f c d (pj s) n).2.1, some S.1) ∧ pj s' = (pStm R f c d (pj s) n).1 ∧ s'.1 ≤ c ∧ (pStm R f c d (pj s) n).2.1 ≤ 40 ∧ Grw S T ∧ (s'.2.1 = false → T.1 + 41 ≤ M + (pStm R f c d (pj s) n).2.1) ∧ S.1 < T.1 ∧ zR T 9 S.1 = none ∧ RS T f c s'.2.1 (cn s.1 (pStm R f c d (pj s) n).2.2 .nil) S.1 (some S.1) ∧ T.1 ≤ max S.1 M := by
  have ha := (ztg_lt h.1).1
  have hne : a ≠ S.1 := by omega
  have hN : S.1 < ie_S := by omega
  have hx : pj s = (s.1, false) := by unfold pj; rw [hw]
  have ev : eqv (ks_one f c 65 6 s) (dS1 f c (pj s)) := eqv_one eqv_z 65 6
  have hp : kv_one f c 65 6 s = dP f c (pj s) := eqv_kv eqv_z 65 6
  have hC : ka f c (ks_one f c 65 6 s) 0 = dC f c (pj s) := eqv_ka ev 0
  have hC1 : ka f c (ks_one f c 65 6 s) 1 = ka f c (dS1 f c (pj s)) 1 := eqv_ka ev 1
  have l1 : (ks_one f c 65 6 s).1 ≤ c := ks_one_le (by decide) hs
  have key := rstK (rc := rc) (m := m) (d := d) (n := n) h hs hN hn
  have r3 : Rd (nst S s.1 (dP f c (pj s))) a c f := Rd_g h (nst_g _ _)
  have t3 : ztg (nst S s.1 (dP f c (pj s))) S.1 = 10 := nst_t _ _ hN
  have N3 : (nst S s.1 (dP f c (pj s))).1 = S.1 + 1 := rfl
  have g3 : Grw S (nst S s.1 (dP f c (pj s))) := nst_g _ _
  have p2 : zI (nst S s.1 (dP f c (pj s))) 2 S.1 = dP f c (pj s) := nst_2 _ _
  have ep : pStm R f c d (pj s) n = (pj (r30_4 f c (dP f c (pj s)) (dS1 f c (pj s))), n + 1, .nil) := by
    unfold pStm
    rw [if_neg q0, if_neg q1, if_neg q2, if_neg q4, if_pos q5]
  rw [ep]
  rw [if_neg q0, if_neg q1, if_neg (show ¬ (dC f c (pj s) = 63 ∨ dC f c (pj s) = 64) from fun z => Or.elim z q2 q4), if_pos q5] at key
  obtain ⟨T, u1, u2, u3, u4, u5⟩ := setN (rc := rc) (m := m) (n := n + 1) hx r3 l1 (show a < S.1 by omega) (show Nw (nst S s.1 (dP f c (pj s))) f c S.1 s.1 by rw [hx]; exact nwN hN) ev q1 q2 q4 q5 hm
  refine ⟨T, _, key.trans u1, by rw [e30_4 ev], ?_, (show n + 1 ≤ 40 by omega), u2 S g3 (Nat.le_refl _), fun _ => ?_, ?_, u4, u5, ?_⟩
  · exact ks_expect_le (by decide) (ks_expr_le (ks_expect_le (by decide) (ks_one_le (by decide) l1)))
  · rw [u3, N3]
    show S.1 + 1 + 41 ≤ M + (n + 1)
    omega
  · rw [u3, N3]
    exact Nat.lt_succ_self _
  · rw [u3, N3]
    omega
theorem rst_send (hR : d < 6 → RCs rc R a c f (d + 1) M) (h : Rd S a c f) (hs : s.1 ≤ c) (hw : s.2.1 = false) (hn : n ≤ 40) (hM : S.1 + 41 ≤ M + n) (hMS : M ≤ ie_S) (hm : 42 ≤ m) (hd : d ≤ 9) (q0 : ¬ n = 40) (q1 : ¬ dC f c (pj s) = 33) (q2 : ¬ dC f c (pj s) = 63) (q4 : ¬ dC f c (pj s) = 64) (q5 : ¬ (rd_var (dC f c (pj s)) = true ∧ ka f c (dS1 f c (pj s)) 1 = 58)) : ∃ T s', yR_readStatement rc m (U S a s n) a (Int32.ofNat d) = some (U T a s' (pStm R f c d (pj s) n).2.1, some S.1) ∧ pj s' = (pStm R f c d (pj s) n).1 ∧ s'.1 ≤ c ∧ (pStm R f c d (pj s) n).2.1 ≤ 40 ∧ Grw S T ∧ (s'.2.1 = false → T.1 + 41 ≤ M + (pStm R f c d (pj s) n).2.1) ∧ S.1 < T.1 ∧ zR T 9 S.1 = none ∧ RS T f c s'.2.1 (cn s.1 (pStm R f c d (pj s) n).2.2 .nil) S.1 (some S.1) ∧ T.1 ≤ max S.1 M := by
  have ha := (ztg_lt h.1).1
  have hne : a ≠ S.1 := by omega
  have hN : S.1 < ie_S := by omega
  have hx : pj s = (s.1, false) := by unfold pj; rw [hw]
  have ev : eqv (ks_one f c 65 6 s) (dS1 f c (pj s)) := eqv_one eqv_z 65 6
  have hp : kv_one f c 65 6 s = dP f c (pj s) := eqv_kv eqv_z 65 6
  have hC : ka f c (ks_one f c 65 6 s) 0 = dC f c (pj s) := eqv_ka ev 0
  have hC1 : ka f c (ks_one f c 65 6 s) 1 = ka f c (dS1 f c (pj s)) 1 := eqv_ka ev 1
  have l1 : (ks_one f c 65 6 s).1 ≤ c := ks_one_le (by decide) hs
  have key := rstK (rc := rc) (m := m) (d := d) (n := n) h hs hN hn
  have r3 : Rd (nst S s.1 (dP f c (pj s))) a c f := Rd_g h (nst_g _ _)
  have t3 : ztg (nst S s.1 (dP f c (pj s))) S.1 = 10 := nst_t _ _ hN
  have N3 : (nst S s.1 (dP f c (pj s))).1 = S.1 + 1 := rfl
  have g3 : Grw S (nst S s.1 (dP f c (pj s))) := nst_g _ _
  have p2 : zI (nst S s.1 (dP f c (pj s))) 2 S.1 = dP f c (pj s) := nst_2 _ _
  have ep : pStm R f c d (pj s) n = (pj (r31_5 f c (dP f c (pj s)) (dS1 f c (pj s))), n + 1, .nil) := by
    unfold pStm
    rw [if_neg q0, if_neg q1, if_neg q2, if_neg q4, if_neg q5]
  rw [ep]
  rw [if_neg q0, if_neg q1, if_neg (show ¬ (dC f c (pj s) = 63 ∨ dC f c (pj s) = 64) from fun z => Or.elim z q2 q4), if_neg q5] at key
  obtain ⟨T, u1, u2, u3, u4, u5⟩ := sendN (rc := rc) (m := m) (n := n + 1) hx r3 l1 (show a < S.1 by omega) (show Nw (nst S s.1 (dP f c (pj s))) f c S.1 s.1 by rw [hx]; exact nwN hN) ev q1 q2 q4 q5 hm
  refine ⟨T, _, key.trans u1, by rw [e31_5 ev], ?_, (show n + 1 ≤ 40 by omega), u2 S g3 (Nat.le_refl _), fun _ => ?_, ?_, u4, u5, ?_⟩
  · exact ks_expect_le (by decide) (ks_one_le (by decide) (ks_other_le (ks_expect_le (by decide) (ks_expr_le l1))))
  · rw [u3, N3]
    show S.1 + 1 + 41 ≤ M + (n + 1)
    omega
  · rw [u3, N3]
    exact Nat.lt_succ_self _
  · rw [u3, N3]
    omega
theorem rst (hR : d < 6 → RCs rc R a c f (d + 1) M) (h : Rd S a c f) (hs : s.1 ≤ c) (hw : s.2.1 = false) (hn : n ≤ 40) (hM : S.1 + 41 ≤ M + n) (hMS : M ≤ ie_S) (hm : 42 ≤ m) (hd : d ≤ 9) : ∃ T s', yR_readStatement rc m (U S a s n) a (Int32.ofNat d) = some (U T a s' (pStm R f c d (pj s) n).2.1, some S.1) ∧ pj s' = (pStm R f c d (pj s) n).1 ∧ s'.1 ≤ c ∧ (pStm R f c d (pj s) n).2.1 ≤ 40 ∧ Grw S T ∧ (s'.2.1 = false → T.1 + 41 ≤ M + (pStm R f c d (pj s) n).2.1) ∧ S.1 < T.1 ∧ zR T 9 S.1 = none ∧ RS T f c s'.2.1 (cn s.1 (pStm R f c d (pj s) n).2.2 .nil) S.1 (some S.1) ∧ T.1 ≤ max S.1 M := by
  by_cases q0 : n = 40
  · exact rst_40 hR h hs hw hn hM hMS hm hd q0
  by_cases q1 : dC f c (pj s) = 33
  · exact rst_tell hR h hs hw hn hM hMS hm hd q0 q1
  by_cases q2 : dC f c (pj s) = 63
  · by_cases q3 : d < 6
    · exact rst_63 hR h hs hw hn hM hMS hm hd q0 q1 q2 q3
    · exact rst_63x hR h hs hw hn hM hMS hm hd q0 q1 q2 q3
  by_cases q4 : dC f c (pj s) = 64
  · by_cases q3 : d < 6
    · exact rst_64 hR h hs hw hn hM hMS hm hd q0 q1 q2 q4 q3
    · exact rst_64x hR h hs hw hn hM hMS hm hd q0 q1 q2 q4 q3
  by_cases q5 : rd_var (dC f c (pj s)) = true ∧ ka f c (dS1 f c (pj s)) 1 = 58
  · exact rst_set hR h hs hw hn hM hMS hm hd q0 q1 q2 q4 q5
  · exact rst_send hR h hs hw hn hM hMS hm hd q0 q1 q2 q4 q5
end ST9
