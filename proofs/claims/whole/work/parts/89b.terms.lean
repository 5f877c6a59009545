theorem ka_la {f : Nat → Int32} {c P : Nat} {ex : Int64} {el : Nat} : ka f c (P, false, ex, el) 0 = rd_la f c P := by
  unfold ka rd_ah rd_la
  rw [if_neg (fun z => Bool.noConfusion z)]
  rfl
theorem ka_w {f : Nat → Int32} {c P : Nat} {ex : Int64} {el i : Nat} : ka f c (P, true, ex, el) i = 0 := by
  unfold ka rd_ah
  rw [if_pos rfl]
theorem ks_keep_lt {f : Nat → Int32} {c P : Nat} {w : Bool} {ex : Int64} {el : Nat} (h : P < c) : ks_keep f c (P, w, ex, el) = (P + 1, w, rd_ex ex el (f P), el + 1) := by
  unfold ks_keep
  rw [if_pos h]
theorem ks_loop_mw {f : Nat → Int32} {c : Nat} : ∀ (j i P : Nat) (ex : Int64) (el : Nat), (ks_loop f c j (P, false, ex, el)).1 = (mw_fig f c j i P).1 ∧ (ks_loop f c j (P, false, ex, el)).2.1 = false
  | 0, i, P, ex, el => ⟨rfl, rfl⟩
  | j + 1, i, P, ex, el => by
    rw [ks_loop, mw_fig, ka_la]
    by_cases q : rd_fig (rd_la f c P) = true
    · rw [if_pos q, if_pos q, ks_keep_lt (rd_fig_ne q)]
      exact ks_loop_mw j (i + 1) (P + 1) _ _
    · rw [if_neg q, if_neg q]
      exact ⟨rfl, rfl⟩
theorem mw_fig_ge {f : Nat → Int32} {c : Nat} : ∀ (j i P : Nat), i ≤ (mw_fig f c j i P).2
  | 0, i, P => Nat.le_refl _
  | j + 1, i, P => by
    rw [mw_fig]
    split
    · have := mw_fig_ge (f := f) (c := c) j (i + 1) (P + 1)
      omega
    · exact Nat.le_refl _
theorem ks_loop_w {f : Nat → Int32} {c : Nat} : ∀ (j P : Nat) (ex : Int64) (el : Nat), ks_loop f c j (P, true, ex, el) = (P, true, ex, el)
  | 0, P, ex, el => rfl
  | j + 1, P, ex, el => by
    rw [ks_loop, ka_w, if_neg (by decide)]
theorem term_alike {f : Nat → Int32} {c P : Nat} (ex : Int64) (el : Nat) (hP : P ≤ c) : (ks_term f c (P, false, ex, el)).1 = (mw_term f c (P, false)).1 ∧ ((ks_term f c (P, false, ex, el)).2.1 = true ↔ (mw_term f c (P, false)).2 = true ∨ P = c) := by
  unfold ks_term mw_term
  rw [ka_la, if_neg (fun z => Bool.noConfusion z : ¬ ((P, false) : Nat × Bool).2 = true)]
  by_cases q : P < c
  · rw [if_pos (show ((P, false) : Nat × Bool).1 < c from q)]
    by_cases q1 : rd_var (rd_la f c P) = true
    · rw [if_pos q1, if_pos (show rd_var (rd_la f c ((P, false) : Nat × Bool).1) = true from q1), ks_keep_lt q]
      refine ⟨rfl, ?_⟩
      constructor
      · intro z; cases z
      · intro z
        rcases z with z | z
        · cases z
        · omega
    · rw [if_neg q1, if_neg (show ¬ rd_var (rd_la f c ((P, false) : Nat × Bool).1) = true from q1)]
      by_cases q2 : rd_fig (rd_la f c P) = true
      · rw [if_pos q2]
        obtain ⟨h1, h2⟩ := ks_loop_mw (f := f) (c := c) 3 0 P ex el
        refine ⟨h1, ?_⟩
        have h3 : 1 ≤ (mw_fig f c 3 0 P).2 := by
          rw [mw_fig, if_pos q2]
          exact mw_fig_ge 2 1 (P + 1)
        rw [h2]
        constructor
        · intro z; cases z
        · intro z
          rcases z with z | z
          · have : (mw_fig f c 3 0 P).2 = 0 := of_decide_eq_true z
            omega
          · omega
      · rw [if_neg q2]
        have e : mw_fig f c 3 0 P = (P, 0) := by rw [mw_fig, if_neg q2]
        show (ks_loop f c 3 (P, true, ex, el)).1 = (mw_fig f c 3 0 P).1 ∧ ((ks_loop f c 3 (P, true, ex, el)).2.1 = true ↔ decide ((mw_fig f c 3 0 P).2 = 0) = true ∨ P = c)
        rw [ks_loop_w, e]
        exact ⟨rfl, fun _ => Or.inl rfl, fun _ => rfl⟩
  · have hc : P = c := by omega
    rw [if_neg (show ¬ ((P, false) : Nat × Bool).1 < c from q)]
    have e : rd_la f c P = 0 := by unfold rd_la; rw [if_neg q]
    rw [e, if_neg (by decide), if_neg (by decide)]
    show (ks_loop f c 3 (P, true, ex, el)).1 = P ∧ ((ks_loop f c 3 (P, true, ex, el)).2.1 = true ↔ false = true ∨ P = c)
    rw [ks_loop_w]
    exact ⟨rfl, fun _ => Or.inr hc, fun _ => rfl⟩
