def MS (I : Nat → Int32) (A : Nat → Nat → Int32) (k P n e c : Nat) (f : Nat → Int32) (ps : pw × Nat × Fo) : Prop := ∃ k' r n' A', (∀ m, 4 ≤ m → x_readStatement m (V I k P false n e) A = some (V I k' r.1 r.2 n' e, A', 0)) ∧ GrI A A' k [9, 4, 5, 14, 3, 6, 7, 8] ∧ AlF f c ps.1 r ∧ (ps.1.2 = false → r.2 = false ∧ k' = k + 1 ∧ n' = n + 1 ∧ ps.2.1 = n + 1 ∧ ps.2.2 = .nil ∧ IT A' f c k P ∧ P < r.1 ∧ f (r.1 - 1) = 59)
section MX
variable {I : Nat → Int32} {A : Nat → Nat → Int32} {k P n e c d : Nat} {f : Nat → Int32} {R : pw → Nat → pw × Nat × Fo}
theorem ms_a (h : Rf I A c f) (hl : Ltr f c) (hP : P < c) (hn : n ≤ 40) (hb : rd_in (f P - 65) 6 = false ∨ n = 40) : MS I A k P n e c f (pStm R f c d (P, false) n) := by
  have ep : (pStm R f c d (P, false) n).1 = (P, true) := by
    unfold pStm
    by_cases q0 : n = 40
    · rw [if_pos q0]
    · have qp' := hb.resolve_right q0
      obtain ⟨s1, s2⟩ := d_no hP qp'
      rw [if_neg q0, if_neg (by rw [s2]; decide), if_neg (by rw [s2]; decide), if_neg (by rw [s2]; decide), if_neg (fun z => by rw [s2] at z; exact absurd z.1 (by decide)), s1]
      exact r31_w hl (Nat.le_of_lt hP)
  unfold MS
  rw [ep]
  exact ⟨k, (P, true), n, A, fun m _ => m_bad h hl hP hn hb, GrI_r, ⟨rfl, Nat.le_of_lt hP, fun _ => rfl, fun _ => Or.inl rfl⟩, fun z => Bool.noConfusion z⟩
theorem pt_lc (qp : rd_in (f P - 65) 6 = true) : Lc f (P + 1) := by
  refine ⟨Nat.succ_pos _, ?_, ?_⟩
  · intro y
    have y' : f P = 59 := y
    rw [y'] at qp
    exact absurd qp (by decide)
  · intro y
    have y' : f P = 125 := y
    rw [y'] at qp
    exact absurd qp (by decide)
theorem dC_y (q : P + 1 < c) (hP : P < c) (qp : rd_in (f P - 65) 6 = true) : dC f c (P, false) = f (P + 1) := by
  unfold dC
  rw [(d_yes hP qp).1]
  exact ka_1 q
theorem ms_b (h : Rf I A c f) (hl : Ltr f c) (hP : P < c) (hk : k ≤ P) (hn : n < 40) (qp : rd_in (f P - 65) 6 = true) (q : P + 1 < c) (q1 : f (P + 1) = 33) : MS I A k P n e c f (pStm R f c d (P, false) n) := by
  have hc := h.2.1
  obtain ⟨s1, s2⟩ := d_yes hP qp
  obtain ⟨A1, g1, y9, y4, y5, y14, key⟩ := m_head (n := n) (e := e) h hl hP hk hn qp
  have h1 : Rf I A1 c f := Rf_g h g1 rfl
  have q1' : dC f c (P, false) = 33 := (dC_y q hP qp).trans q1
  have ep : pStm R f c d (P, false) n = (pj (r19_5 f c (f P - 65) (P + 1, false, 0, 0)), n + 1, .nil) := by
    unfold pStm
    rw [if_neg (by omega), if_pos q1', s1, s2]
  have eL : dL f c (P, false) = kv_one f c 48 10 (r19_1 f c (f P - 65) (P + 1, false, 0, 0)) := by
    unfold dL
    rw [if_pos q1', s1, s2]
  have eO : dO f c (P, false) = kv_other f c (f P - 65) (r19_3 f c (f P - 65) (P + 1, false, 0, 0)) := by
    unfold dO
    rw [if_pos q1', s1, s2]
  have key2 : ∀ m, x_readStatement m (V I k P false n e) A = xb (x_readTell (V I (k + 1) (P + 1) false (n + 1) e) A1 (Int32.ofNat k)) (fun I4 A4 _ => some (I4, A4, 0)) := fun m => by rw [key m, if_pos q, if_pos q1]
  obtain ⟨A', r, u1, u2, u3, u4, u5⟩ := ms_tell (n := n + 1) (e := e) h1 hl q (show k < 200 by omega) q1 y4
  unfold MS
  rw [ep]
  refine ⟨k + 1, r, n + 1, A', fun m _ => (key2 m).trans (xb_some u1), GrI_m (by decide) (GrI_t g1 u2), u4, fun z => ?_⟩
  obtain ⟨w1, w2, w3, w4⟩ := u5 z
  refine ⟨alF_2 u4 z, rfl, rfl, rfl, rfl, ⟨?_, ?_, ?_, ?_, ?_⟩, by omega, w2⟩
  · rw [u2.1 9 rfl]; exact y9
  · rw [u2.1 4 rfl, s2]; exact y4
  · rw [u2.1 14 rfl]; exact y14
  · rw [eO]; exact w4
  · rw [if_pos q1', eL]
    exact ⟨u3, w3⟩
theorem eK_y (hP : P < c) (qp : rd_in (f P - 65) 6 = true) : ka f c (dS1 f c (P, false)) 1 = if P + 2 < c then f (P + 2) else 0 := by
  rw [(d_yes hP qp).1]
  unfold ka rd_ah
  rw [iff']
theorem ms_c (h : Rf I A c f) (hl : Ltr f c) (hP : P < c) (hk : k ≤ P) (hn : n < 40) (qp : rd_in (f P - 65) 6 = true) (q : P + 1 + 1 < c) (q1 : ¬ f (P + 1) = 33) (q2 : ¬ f (P + 1) = 63) (q3 : ¬ f (P + 1) = 64) (hv : rd_var (f (P + 1)) = true) (h58 : f (P + 1 + 1) = 58) : MS I A k P n e c f (pStm R f c d (P, false) n) := by
  have hc := h.2.1
  have qq : P + 1 < c := by omega
  obtain ⟨s1, s2⟩ := d_yes hP qp
  obtain ⟨A1, g1, y9, y4, y5, y14, key⟩ := m_head (n := n) (e := e) h hl hP hk hn qp
  have h1 : Rf I A1 c f := Rf_g h g1 rfl
  have eC := dC_y qq hP qp
  have q1' : ¬ dC f c (P, false) = 33 := by rw [eC]; exact q1
  have q2' : ¬ dC f c (P, false) = 63 := by rw [eC]; exact q2
  have q3' : ¬ dC f c (P, false) = 64 := by rw [eC]; exact q3
  have q5' : rd_var (dC f c (P, false)) = true ∧ ka f c (dS1 f c (P, false)) 1 = 58 := by
    refine ⟨by rw [eC]; exact hv, ?_⟩
    rw [eK_y hP qp, if_pos (show P + 2 < c from q)]
    exact h58
  have ep : pStm R f c d (P, false) n = (pj (r30_4 f c (f P - 65) (P + 1, false, 0, 0)), n + 1, .nil) := by
    unfold pStm
    rw [if_neg (by omega), if_neg q1', if_neg q2', if_neg q3', if_pos q5', s1, s2]
  have eV : dV f c (P, false) = kv_one f c 119 4 (P + 1, false, 0, 0) := by
    unfold dV
    rw [if_neg q1', if_neg q2', if_neg q3', if_pos q5', s1]
  have eO : dO f c (P, false) = -1 := by
    unfold dO
    rw [if_neg q1', if_neg q2', if_neg q3', if_pos q5']
  have key2 : ∀ m, x_readStatement m (V I k P false n e) A = xb (x_readValue m (V I (k + 1) (P + 1) false (n + 1) e) A1 (Int32.ofNat k)) (fun I4 A4 _ => some (I4, A4, 0)) := fun m => by rw [key m, if_pos qq, if_neg q1, if_neg (show ¬ (f (P + 1) = 63 ∨ f (P + 1) = 64) from fun z => Or.elim z q2 q3)]
  obtain ⟨A', r, u1, u2, u3, u4, u5, u6, u7, u8⟩ := ms_set (n := n + 1) (e := e) (p := f P - 65) h1 hl q (show k < 200 by omega) hv h58
  unfold MS
  rw [ep]
  refine ⟨k + 1, r, n + 1, A', fun m hm => (key2 m).trans (xb_some (u1 m hm)), GrI_m (by decide) (GrI_t g1 u2), u4, fun z => ?_⟩
  obtain ⟨w1, w2⟩ := u8 z
  refine ⟨alF_2 u4 z, rfl, rfl, rfl, rfl, ⟨?_, ?_, ?_, ?_, ?_⟩, by omega, w2⟩
  · rw [u2.1 9 rfl]; exact y9
  · rw [u2.1 4 rfl, s2]; exact y4
  · rw [u2.1 14 rfl]; exact y14
  · rw [eO, u2.1 5 rfl]; exact y5
  · rw [if_neg q1', if_neg q2', if_neg q3', if_pos q5', eV, s1, s2]
    exact ⟨u3, u5, u6, u7⟩
theorem ms_d (h : Rf I A c f) (hl : Ltr f c) (hP : P < c) (hk : k ≤ P) (hn : n < 40) (qp : rd_in (f P - 65) 6 = true) (q : P + 1 < c) (q1 : ¬ f (P + 1) = 33) (q2 : ¬ f (P + 1) = 63) (q3 : ¬ f (P + 1) = 64) (hv : ¬ (rd_var (f (P + 1)) = true ∧ P + 1 + 1 < c ∧ f (P + 1 + 1) = 58)) : MS I A k P n e c f (pStm R f c d (P, false) n) := by
  have hc := h.2.1
  obtain ⟨s1, s2⟩ := d_yes hP qp
  obtain ⟨A1, g1, y9, y4, y5, y14, key⟩ := m_head (n := n) (e := e) h hl hP hk hn qp
  have h1 : Rf I A1 c f := Rf_g h g1 rfl
  have eC := dC_y q hP qp
  have q1' : ¬ dC f c (P, false) = 33 := by rw [eC]; exact q1
  have q2' : ¬ dC f c (P, false) = 63 := by rw [eC]; exact q2
  have q3' : ¬ dC f c (P, false) = 64 := by rw [eC]; exact q3
  have q5' : ¬ (rd_var (dC f c (P, false)) = true ∧ ka f c (dS1 f c (P, false)) 1 = 58) := by
    intro z
    rw [eC, eK_y hP qp] at z
    by_cases y : P + 2 < c
    · rw [if_pos y] at z
      exact hv ⟨z.1, y, z.2⟩
    · rw [if_neg y] at z
      exact absurd z.2 (by decide)
  have ep : pStm R f c d (P, false) n = (pj (r31_5 f c (f P - 65) (P + 1, false, 0, 0)), n + 1, .nil) := by
    unfold pStm
    rw [if_neg (by omega), if_neg q1', if_neg q2', if_neg q3', if_neg q5', s1, s2]
  have eV : dV f c (P, false) = kv_one f c 119 4 (r31_3 f c (f P - 65) (P + 1, false, 0, 0)) := by
    unfold dV
    rw [if_neg q1', if_neg q2', if_neg q3', if_neg q5', s1, s2]
  have eO : dO f c (P, false) = kv_other f c (f P - 65) (r31_2 f c (f P - 65) (P + 1, false, 0, 0)) := by
    unfold dO
    rw [if_neg q1', if_neg q2', if_neg q3', if_neg q5', s1, s2]
  have key2 : ∀ m, x_readStatement m (V I k P false n e) A = xb (x_readValue m (V I (k + 1) (P + 1) false (n + 1) e) A1 (Int32.ofNat k)) (fun I4 A4 _ => some (I4, A4, 0)) := fun m => by rw [key m, if_pos q, if_neg q1, if_neg (show ¬ (f (P + 1) = 63 ∨ f (P + 1) = 64) from fun z => Or.elim z q2 q3)]
  obtain ⟨A', r, u1, u2, u3, u4, u5, u6, u7⟩ := ms_send (n := n + 1) (e := e) h1 hl q (pt_lc qp) (show k < 200 by omega) hv y4
  unfold MS
  rw [ep]
  refine ⟨k + 1, r, n + 1, A', fun m hm => (key2 m).trans (xb_some (u1 m hm)), GrI_m (by decide) (GrI_t g1 u2), u4, fun z => ?_⟩
  obtain ⟨w1, w2, w3, w4⟩ := u7 z
  refine ⟨alF_2 u4 z, rfl, rfl, rfl, rfl, ⟨?_, ?_, ?_, ?_, ?_⟩, by omega, w2⟩
  · rw [u2.1 9 rfl]; exact y9
  · rw [u2.1 4 rfl, s2]; exact y4
  · rw [u2.1 14 rfl]; exact y14
  · rw [eO]; exact w3
  · rw [if_neg q1', if_neg q2', if_neg q3', if_neg q5', eV, s1, s2]
    exact ⟨u3, w4, u5, u6⟩
theorem xp_end (q : ¬ P < c) (w : Bool) : ks_expr f c (P, w, 0, 0) = (P, true, 0, 0) := by
  have et : ks_term f c (P, w, 0, 0) = (P, true, 0, 0) := by
    have e0 : ka f c (P, w, 0, 0) 0 = 0 := by
      cases w with
      | true => exact ka_w
      | false =>
        rw [ka_la]
        unfold rd_la
        rw [if_neg q]
    unfold ks_term
    rw [e0, if_neg (by decide), if_neg (by decide)]
    exact ks_loop_w 3 P 0 0
  unfold ks_expr
  show (if rd_op (ka f c (ks_term f c (P, w, 0, 0)) 0) = true then _ else ks_term f c (P, w, 0, 0)) = _
  rw [et, ka_w, if_neg (by decide)]
theorem ms_e (h : Rf I A c f) (hl : Ltr f c) (hP : P < c) (hk : k ≤ P) (hn : n < 40) (qp : rd_in (f P - 65) 6 = true) (q : ¬ P + 1 < c) : MS I A k P n e c f (pStm R f c d (P, false) n) := by
  obtain ⟨s1, s2⟩ := d_yes hP qp
  obtain ⟨A1, g1, y9, y4, y5, y14, key⟩ := m_head (n := n) (e := e) h hl hP hk hn qp
  have hPc : P + 1 = c := by omega
  have eC : dC f c (P, false) = 0 := by
    unfold dC
    rw [s1, ka_la]
    unfold rd_la
    rw [if_neg q]
  have e31 : r31_1 f c (f P - 65) (P + 1, false, 0, 0) = r31_1 f c (f P - 65) (P + 1, true, 0, 0) := by
    unfold r31_1
    rw [xp_end q, xp_end q]
  have ew : pj (r31_5 f c (f P - 65) (P + 1, false, 0, 0)) = (P + 1, true) := by
    have : r31_5 f c (f P - 65) (P + 1, false, 0, 0) = r31_5 f c (f P - 65) (P + 1, true, 0, 0) := by
      unfold r31_5 r31_4 r31_3 r31_2
      rw [e31]
    rw [this]
    exact r31_w hl (by omega)
  have ep : pStm R f c d (P, false) n = ((P + 1, true), n + 1, .nil) := by
    unfold pStm
    rw [if_neg (by omega), if_neg (by rw [eC]; decide), if_neg (by rw [eC]; decide), if_neg (by rw [eC]; decide), if_neg (fun z => by rw [eC] at z; exact absurd z.1 (by decide)), s1, s2, ew]
  unfold MS
  rw [ep]
  refine ⟨k + 1, (P + 1, false), n + 1, A1, fun m _ => by rw [key m, if_neg q], GrI_m (by decide) g1, ⟨rfl, Nat.le_of_eq hPc, fun _ => rfl, fun _ => Or.inr ⟨hPc, ?_⟩⟩, fun z => Bool.noConfusion z⟩
  rw [← hPc]
  exact pt_lc qp
theorem ms (h : Rf I A c f) (hl : Ltr f c) (hP : P < c) (hk : k ≤ P) (hn : n ≤ 40) (hb : (¬ dC f c (P, false) = 63 ∧ ¬ dC f c (P, false) = 64) ∨ n = 40) : MS I A k P n e c f (pStm R f c d (P, false) n) := by
  by_cases q0 : n = 40
  · exact ms_a h hl hP hn (Or.inr q0)
  have hbb := hb.resolve_right q0
  cases qp : rd_in (f P - 65) 6 with
  | false => exact ms_a h hl hP hn (Or.inl qp)
  | true =>
    by_cases q : P + 1 < c
    · have eC := dC_y q hP qp
      rw [eC] at hbb
      by_cases q1 : f (P + 1) = 33
      · exact ms_b h hl hP hk (by omega) qp q q1
      · by_cases q5 : rd_var (f (P + 1)) = true ∧ P + 1 + 1 < c ∧ f (P + 1 + 1) = 58
        · exact ms_c h hl hP hk (by omega) qp q5.2.1 q1 hbb.1 hbb.2 q5.1 q5.2.2
        · exact ms_d h hl hP hk (by omega) qp q q1 hbb.1 hbb.2 q5
    · exact ms_e h hl hP hk (by omega) qp q
end MX
