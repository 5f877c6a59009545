section RO
variable {I : Nat → Int32} {R : pw → Nat → pw × Nat × Fo} {f : Nat → Int32} {c d : Nat}
theorem br_q {P : Nat} (hP : P < c) (hb : dC f c (P, false) = 63 ∨ dC f c (P, false) = 64) : rd_in (f P - 65) 6 = true ∧ P + 1 < c ∧ dC f c (P, false) = f (P + 1) := by
  cases qp : rd_in (f P - 65) 6 with
  | false =>
    have z := (d_no hP qp).2
    rw [z] at hb
    exact absurd hb (by decide)
  | true =>
    by_cases q : P + 1 < c
    · exact ⟨rfl, q, dC_y q hP qp⟩
    · have eC : dC f c (P, false) = 0 := by
        unfold dC
        rw [(d_yes hP qp).1, ka_la]
        unfold rd_la
        rw [if_neg q]
      rw [eC] at hb
      exact absurd hb (by decide)
theorem sim_six (hl : Ltr f c) {P n k : Nat} {A : Nat → Nat → Int32} {l : Int32} (h : Rf I A c f) (hk : k ≤ P) (hP : P < c) (hn : n < 40) (hno : ¬ f P = 125) (qp : rd_in (f P - 65) 6 = true) (q : P + 1 < c) (hb : f (P + 1) = 63 ∨ f (P + 1) = 64) : ∃ i, ∀ m, 4 ≤ m → Fl I A (P + 1) (x_isPlay_63 (m + i) (V I k P false n 6) A l) := by
  have hc := h.2.1
  obtain ⟨A1, g1, y9, y4, y5, y14, key⟩ := m_head (n := n) (e := 6) h hl hP hk hn qp
  obtain ⟨A', u1, u2⟩ := v_br6 (I := I) (A := A1) (k := k) (P := P + 1) (n := n + 1) (ch := f (P + 1)) (show k < 200 by omega)
  have n33 : ¬ f (P + 1) = 33 := by
    rcases hb with z | z
    · rw [z]; decide
    · rw [z]; decide
  have g2 : GrI A A' k [9, 4, 5, 14, 3, 6, 7, 8] := GrI_m (by decide) (GrI_t g1 u2)
  have fr : FrA A A' k 0 := FrA_g g2
  have h' : Rf I A' c f := Rf_f h fr
  refine ⟨2, fun m hm => ?_⟩
  rw [show m + 2 = (m + 1) + 1 from rfl, it_stm (k' := k + 1) (P' := P + 1) (b' := true) (n' := n + 1) (e' := 6) h h' hP (show P + 1 ≤ c from hP) (by decide) (by decide) (Or.inr hno) ((key (m + 1)).trans (by rw [if_pos q, if_neg n33, if_pos hb]; exact u1 (m + 1)))]
  exact Fl_f fr (it_fail (x := (P + 1, true)) (r := (P + 1, true)) h' ⟨rfl, hP, fun _ => rfl, fun _ => Or.inl rfl⟩ rfl)
theorem sim_stm (hl : Ltr f c) (hd : d ≤ 6) (hR : d < 6 → SimR I R f c (d + 1)) (hW : ∀ (y : pw) (n : Nat), y.2 = true → R y n = (y, n, .nil)) : SimS I R f c d := by
  intro P n k A l h hk hP hn hno
  by_cases hb : (¬ dC f c (P, false) = 63 ∧ ¬ dC f c (P, false) = 64) ∨ n = 40
  · exact sim_simple hl (by omega) h hk hP hn hno hb
  · have n40 : ¬ n = 40 := fun z => hb (Or.inr z)
    have hb2 : dC f c (P, false) = 63 ∨ dC f c (P, false) = 64 := by
      by_cases z : dC f c (P, false) = 63
      · exact Or.inl z
      · by_cases y : dC f c (P, false) = 64
        · exact Or.inr y
        · exact absurd (Or.inl ⟨z, y⟩) hb
    obtain ⟨qp, q, eC⟩ := br_q hP hb2
    have n33 : ¬ dC f c (P, false) = 33 := by
      rcases hb2 with z | z
      · rw [z]; decide
      · rw [z]; decide
    by_cases d6 : d < 6
    · by_cases z : dC f c (P, false) = 63
      · have ep : pStm R f c d (P, false) n = ((pBlk R f c (pBlk R f c (pj (dE f c (P, false))) (n + 1)).1 (pBlk R f c (pj (dE f c (P, false))) (n + 1)).2.1).1, (pBlk R f c (pBlk R f c (pj (dE f c (P, false))) (n + 1)).1 (pBlk R f c (pj (dE f c (P, false))) (n + 1)).2.1).2.1, cn 0 (pBlk R f c (pj (dE f c (P, false))) (n + 1)).2.2 (cn 1 (pBlk R f c (pBlk R f c (pj (dE f c (P, false))) (n + 1)).1 (pBlk R f c (pj (dE f c (P, false))) (n + 1)).2.1).2.2 .nil)) := by
          unfold pStm
          rw [if_neg n40, if_neg n33, if_pos z, if_pos d6]
        rw [ep]
        exact sim_choice hl (hR d6) hW h hk hP (by omega) d6 hno qp q (eC.symm.trans z) rfl rfl
      · have y := hb2.resolve_left z
        have ep : pStm R f c d (P, false) n = ((pBlk R f c (pj (dE f c (P, false))) (n + 1)).1, (pBlk R f c (pj (dE f c (P, false))) (n + 1)).2.1, cn 0 (pBlk R f c (pj (dE f c (P, false))) (n + 1)).2.2 .nil) := by
          unfold pStm
          rw [if_neg n40, if_neg n33, if_neg z, if_pos y, if_pos d6]
        rw [ep]
        exact sim_round hl (hR d6) hW h hk hP (by omega) d6 hno qp q (eC.symm.trans y) rfl
    · have e6 : d = 6 := by omega
      subst e6
      have ep : pStm R f c 6 (P, false) n = ((P + 1, true), n + 1, .nil) := by
        unfold pStm
        rw [if_neg n40, if_neg n33]
        rcases hb2 with z | z
        · rw [if_pos z, if_neg d6, (d_yes hP qp).1]
        · rw [if_neg (show ¬ dC f c (P, false) = 63 by rw [z]; decide), if_pos z, if_neg d6, (d_yes hP qp).1]
      rw [ep]
      refine ⟨fun z => Bool.noConfusion z, fun _ => ?_⟩
      exact sim_six hl h hk hP (by omega) (hno.resolve_left (by decide)) qp q (by rw [← eC]; exact hb2)
theorem row_w {r d : Nat} (y : pw) (n : Nat) (h : y.2 = true) : pRow f c r d y n = (y, n, .nil) := by
  cases r with
  | zero => rfl
  | succ r => exact loop_w h
theorem sim_row (hl : Ltr f c) : ∀ (r d : Nat), r + d = 9 → d ≤ 6 → SimR I (pRow f c r d) f c d
  | 0, d, hr, hd => by omega
  | r + 1, d, hr, hd => by
    have ih : d < 6 → SimR I (pRow f c r (d + 1)) f c (d + 1) := fun z => sim_row hl r (d + 1) (by omega) (by omega)
    have hS : SimS I (pRow f c r (d + 1)) f c d := sim_stm hl hd ih (fun y n => row_w y n)
    have e : ∀ x n, pRow f c (r + 1) d x n = pLoop (pRow f c r (d + 1)) f c d 41 x n := fun _ _ => rfl
    intro P n k A l h hk hP hn hl0
    rw [e (P, false) n]
    exact sim_loop hl (by omega) hS 41 P n k A l (by omega) h hk hP hn hl0
end RO
