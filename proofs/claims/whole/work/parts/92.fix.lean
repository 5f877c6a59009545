theorem ztg_ex {S T : hS} {a t : Nat} (h : ztg S a = t + 1) (e : Ex S T) : ztg T a = t + 1 := by
  obtain ⟨h1, -, h3⟩ := ztg_lt h
  have h4 : a < ie_S := by
    unfold ztg at h
    by_cases q : a < S.1 ∧ a < ie_S
    · exact q.2
    · rw [if_neg q] at h; cases h
  unfold ztg
  rw [if_pos ⟨Nat.lt_of_lt_of_le h1 e.1, h4⟩, (e.2.1 a h1).1]
  exact h3
theorem zLen_ex {S T : hS} {a t : Nat} (h : ztg S a = t + 1) (e : Ex S T) : zLen T a = zLen S a := (e.2.1 a (ztg_lt h).1).2
theorem zR_fw {W : List (Nat × Nat × Nat)} {S T : hS} {a t k : Nat} (h : ztg S a = t + 1) (e : Fw W S T) (hw : W.contains (1, t + 1, k) = false) : zR T k a = zR S k a := by
  obtain ⟨h1, -, h3⟩ := ztg_lt h
  refine (e.2 a h1).2.1 k ?_
  rw [h3]
  intro hc
  have : W.contains (1, t + 1, k) = true := by simpa using hc
  rw [hw] at this
  cases this
theorem zI_fw {W : List (Nat × Nat × Nat)} {S T : hS} {a t k : Nat} (h : ztg S a = t + 1) (e : Fw W S T) (hw : W.contains (0, t + 1, k) = false) : zI T k a = zI S k a := by
  obtain ⟨h1, -, h3⟩ := ztg_lt h
  refine (e.2 a h1).1 k ?_
  rw [h3]
  intro hc
  have : W.contains (0, t + 1, k) = true := by simpa using hc
  rw [hw] at this
  cases this
theorem zL_fw {W : List (Nat × Nat × Nat)} {S T : hS} {a t : Nat} (h : ztg S a = t + 1) (e : Fw W S T) (hw : W.contains (2, t + 1, 0) = false) : zL T a = zL S a := by
  obtain ⟨h1, -, h3⟩ := ztg_lt h
  refine (e.2 a h1).2.2.1 ?_
  rw [h3]
  intro hc
  have : W.contains (2, t + 1, 0) = true := by simpa using hc
  rw [hw] at this
  cases this
theorem zAI_fw {W : List (Nat × Nat × Nat)} {S T : hS} {a t : Nat} (h : ztg S a = t + 1) (e : Fw W S T) (hw : W.contains (3, t + 1, 0) = false) : zAI T a = zAI S a := by
  obtain ⟨h1, -, h3⟩ := ztg_lt h
  refine (e.2 a h1).2.2.2.1 ?_
  rw [h3]
  intro hc
  have : W.contains (3, t + 1, 0) = true := by simpa using hc
  rw [hw] at this
  cases this
theorem zAR_fw {W : List (Nat × Nat × Nat)} {S T : hS} {a t : Nat} (h : ztg S a = t + 1) (e : Fw W S T) (hw : W.contains (4, t + 1, 0) = false) : zAR T a = zAR S a := by
  obtain ⟨h1, -, h3⟩ := ztg_lt h
  refine (e.2 a h1).2.2.2.2 ?_
  rw [h3]
  intro hc
  have : W.contains (4, t + 1, 0) = true := by simpa using hc
  rw [hw] at this
  cases this
def Fix (S : hS) : Prop := (ztg S 0 = 1 ∧ zR S 0 0 = some 1 ∧ zR S 5 0 = some 2 ∧ zR S 6 0 = some 133) ∧ (ztg S 1 = 21 ∧ zLen S 1 = 200) ∧ (ztg S 2 = 9 ∧ zR S 0 2 = some 3 ∧ zR S 1 2 = some 4 ∧ zR S 2 2 = some 5 ∧ zR S 3 2 = some 6) ∧ (ztg S 3 = 24 ∧ zLen S 3 = 6 ∧ zAR S 3 = rf_3) ∧ (ztg S 4 = 25 ∧ zLen S 4 = 36 ∧ zAR S 4 = rf_4) ∧ (ztg S 5 = 20 ∧ zLen S 5 = 24) ∧ (ztg S 6 = 20 ∧ zLen S 6 = 24) ∧ (ztg S 133 = 20 ∧ zLen S 133 = 24) ∧ (ztg S 177 = 23 ∧ zLen S 177 = 1) ∧ (∀ p, p < 6 → ztg S (7 + 3 * p) = 5 ∧ zR S 0 (7 + 3 * p) = some (8 + 3 * p) ∧ ztg S (8 + 3 * p) = 4 ∧ zR S 0 (8 + 3 * p) = some (9 + 3 * p) ∧ ztg S (9 + 3 * p) = 21 ∧ zLen S (9 + 3 * p) = 600) ∧ (∀ k, k < 36 → ztg S (25 + 3 * k) = 7 ∧ zR S 0 (25 + 3 * k) = some (26 + 3 * k) ∧ zR S 1 (25 + 3 * k) = some (27 + 3 * k) ∧ ztg S (26 + 3 * k) = 20 ∧ zLen S (26 + 3 * k) = 8 ∧ ztg S (27 + 3 * k) = 22 ∧ zLen S (27 + 3 * k) = 8)
def okW (W : List (Nat × Nat × Nat)) : Bool := ([(1, 1, 0), (1, 1, 5), (1, 1, 6), (1, 9, 0), (1, 9, 1), (1, 9, 2), (1, 9, 3), (4, 24, 0), (4, 25, 0), (1, 5, 0), (1, 4, 0), (1, 7, 0), (1, 7, 1)] : List (Nat × Nat × Nat)).all (fun x => !W.contains x)
theorem okW_e {W : List (Nat × Nat × Nat)} (h : okW W = true) {x : Nat × Nat × Nat} (hx : ([(1, 1, 0), (1, 1, 5), (1, 1, 6), (1, 9, 0), (1, 9, 1), (1, 9, 2), (1, 9, 3), (4, 24, 0), (4, 25, 0), (1, 5, 0), (1, 4, 0), (1, 7, 0), (1, 7, 1)] : List (Nat × Nat × Nat)).contains x = true) : W.contains x = false := by
  unfold okW at h
  have := List.all_eq_true.mp h x (by simpa using hx)
  simpa using this
theorem Fix_fw {W : List (Nat × Nat × Nat)} {S T : hS} (hk : okW W = true) (h : Fix S) (e : Fw W S T) : Fix T := by
  obtain ⟨⟨a1, a2, a3, a4⟩, ⟨b1, b2⟩, ⟨c1, c2, c3, c4, c5⟩, ⟨d1, d2, d3⟩, ⟨e1, e2, e3⟩, ⟨f1, f2⟩, ⟨g1, g2⟩, ⟨h1, h2⟩, ⟨i1, i2⟩, j1, k1⟩ := h
  refine ⟨⟨ztg_ex a1 e.1, ?_, ?_, ?_⟩, ⟨ztg_ex b1 e.1, ?_⟩, ⟨ztg_ex c1 e.1, ?_, ?_, ?_, ?_⟩, ⟨ztg_ex d1 e.1, ?_, ?_⟩, ⟨ztg_ex e1 e.1, ?_, ?_⟩, ⟨ztg_ex f1 e.1, ?_⟩, ⟨ztg_ex g1 e.1, ?_⟩, ⟨ztg_ex h1 e.1, ?_⟩, ⟨ztg_ex i1 e.1, ?_⟩, ?_, ?_⟩
  · rw [zR_fw a1 e (okW_e hk rfl)]; exact a2
  · rw [zR_fw a1 e (okW_e hk rfl)]; exact a3
  · rw [zR_fw a1 e (okW_e hk rfl)]; exact a4
  · rw [zLen_ex b1 e.1]; exact b2
  · rw [zR_fw c1 e (okW_e hk rfl)]; exact c2
  · rw [zR_fw c1 e (okW_e hk rfl)]; exact c3
  · rw [zR_fw c1 e (okW_e hk rfl)]; exact c4
  · rw [zR_fw c1 e (okW_e hk rfl)]; exact c5
  · rw [zLen_ex d1 e.1]; exact d2
  · rw [zAR_fw d1 e (okW_e hk rfl)]; exact d3
  · rw [zLen_ex e1 e.1]; exact e2
  · rw [zAR_fw e1 e (okW_e hk rfl)]; exact e3
  · rw [zLen_ex f1 e.1]; exact f2
  · rw [zLen_ex g1 e.1]; exact g2
  · rw [zLen_ex h1 e.1]; exact h2
  · rw [zLen_ex i1 e.1]; exact i2
  · intro p hp
    obtain ⟨q1, q2, q3, q4, q5, q6⟩ := j1 p hp
    exact ⟨ztg_ex q1 e.1, by rw [zR_fw q1 e (okW_e hk rfl)]; exact q2, ztg_ex q3 e.1, by rw [zR_fw q3 e (okW_e hk rfl)]; exact q4, ztg_ex q5 e.1, by rw [zLen_ex q5 e.1]; exact q6⟩
  · intro k hk2
    obtain ⟨q1, q2, q3, q4, q5, q6, q7⟩ := k1 k hk2
    exact ⟨ztg_ex q1 e.1, by rw [zR_fw q1 e (okW_e hk rfl)]; exact q2, by rw [zR_fw q1 e (okW_e hk rfl)]; exact q3, ztg_ex q4 e.1, by rw [zLen_ex q4 e.1]; exact q5, ztg_ex q6 e.1, by rw [zLen_ex q6 e.1]; exact q7⟩
theorem Fix_M {S : hS} {I : Nat → Int32} {B : Nat → Nat → Int32} (h : Fix S) : Fix (szM S I B) := h
theorem rf3_at : ∀ p, p < 6 → rf_3 p = some (7 + 3 * p) := by decide
theorem rf4_at : ∀ k, k < 36 → rf_4 k = some (25 + 3 * k) := by decide +kernel
theorem Fix_0 : Fix S0 := by
  refine ⟨⟨rfl, rfl, rfl, rfl⟩, ⟨rfl, rfl⟩, ⟨rfl, rfl, rfl, rfl, rfl⟩, ⟨rfl, rfl, rfl⟩, ⟨rfl, rfl, rfl⟩, ⟨rfl, rfl⟩, ⟨rfl, rfl⟩, ⟨rfl, rfl⟩, ⟨rfl, rfl⟩, ?_, ?_⟩
  · decide +kernel
  · decide +kernel
theorem pt_c : ∀ x : Int32, rd_rp x = true → ∃ p : Nat, p < 6 ∧ x = Int32.ofNat p := by
  intro x h
  unfold rd_rp at h
  rw [Bool.and_eq_true, decide_eq_true_eq, decide_eq_true_eq, Int32.lt_iff_toInt_lt, Int32.le_iff_toInt_le] at h
  have e0 : (0 : Int32).toInt = 0 := by decide
  have e6 : (6 : Int32).toInt = 6 := by decide
  rw [e0, e6] at h
  refine ⟨x.toInt.toNat, by omega, ?_⟩
  apply Int32.toInt_inj.mp
  rw [(i_n x.toInt.toNat (by omega)).1]
  omega
theorem pt_n : ∀ p : Nat, p < 6 → rd_rp (Int32.ofNat p) = true := by decide
