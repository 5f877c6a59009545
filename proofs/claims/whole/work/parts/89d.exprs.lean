theorem mw_term_end {f : Nat → Int32} {c : Nat} : mw_term f c (c, false) = (c, false) := by
  unfold mw_term
  rw [if_neg (fun z => Bool.noConfusion z), if_neg (Nat.lt_irrefl c)]
theorem expr_alike {f : Nat → Int32} {c P : Nat} (ex : Int64) (el : Nat) (hP : P ≤ c) : (ks_expr f c (P, false, ex, el)).1 = (mw_expr f c (P, false)).1 ∧ ((mw_expr f c (P, false)).2 = true → (ks_expr f c (P, false, ex, el)).2.1 = true) ∧ ((ks_expr f c (P, false, ex, el)).2.1 = true → (mw_expr f c (P, false)).2 = true ∨ (mw_expr f c (P, false)).1 = c) := by
  obtain ⟨h1, h2⟩ := term_alike (f := f) (c := c) (P := P) 0 0 hP
  have hend : P = c → mw_term f c (P, false) = (c, false) := by
    intro z; subst z; exact mw_term_end
  have ek : ks_expr f c (P, false, ex, el) = if rd_op (ka f c (ks_term f c (P, false, 0, 0)) 0) = true then ks_term f c (ks_keep f c (ks_term f c (P, false, 0, 0))) else ks_term f c (P, false, 0, 0) := rfl
  have em : mw_expr f c (P, false) = if (mw_term f c (P, false)).2 = true then mw_term f c (P, false) else if rd_op (rd_la f c (mw_term f c (P, false)).1) = true then mw_term f c ((mw_term f c (P, false)).1 + 1, false) else mw_term f c (P, false) := rfl
  rw [ek, em]
  generalize ks_term f c (P, false, 0, 0) = k1 at h1 h2 ⊢
  generalize mw_term f c (P, false) = m1 at h1 h2 hend ⊢
  obtain ⟨P1, w1, e1, l1⟩ := k1
  obtain ⟨P2, b2⟩ := m1
  have h1' : P1 = P2 := h1
  subst h1'
  have h2' : w1 = true ↔ b2 = true ∨ P = c := h2
  cases w1 with
  | true =>
    rw [ka_w, if_neg (by decide)]
    cases b2 with
    | true =>
      rw [if_pos rfl]
      exact ⟨rfl, fun _ => rfl, fun _ => Or.inl rfl⟩
    | false =>
      have hc : P = c := by
        rcases h2'.mp rfl with z | z
        · cases z
        · exact z
      have hp : P1 = c := congrArg Prod.fst (hend hc)
      subst hp
      rw [if_neg (fun z => Bool.noConfusion z)]
      have e0 : rd_la f P1 P1 = 0 := by unfold rd_la; rw [if_neg (Nat.lt_irrefl _)]
      rw [if_neg (by show ¬ rd_op (rd_la f P1 P1) = true; rw [e0]; decide)]
      exact ⟨rfl, fun z => Bool.noConfusion z, fun _ => Or.inr rfl⟩
  | false =>
    cases b2 with
    | true => exact absurd (h2'.mpr (Or.inl rfl)) (fun z => Bool.noConfusion z)
    | false =>
      rw [ka_la, if_neg (fun z => Bool.noConfusion z : ¬ ((P1, false) : Nat × Bool).2 = true)]
      by_cases q : rd_op (rd_la f c P1) = true
      · rw [if_pos q, if_pos (show rd_op (rd_la f c ((P1, false) : Nat × Bool).1) = true from q), ks_keep_lt (rd_op_ne q)]
        obtain ⟨g1, g2⟩ := term_alike (f := f) (c := c) (P := P1 + 1) (rd_ex e1 l1 (f P1)) (l1 + 1) (rd_op_ne q)
        refine ⟨g1, fun z => g2.mpr (Or.inl z), fun z => ?_⟩
        rcases g2.mp z with y | y
        · exact Or.inl y
        · right
          show (mw_term f c (P1 + 1, false)).1 = c
          rw [y, mw_term_end]
      · rw [if_neg q, if_neg (show ¬ rd_op (rd_la f c ((P1, false) : Nat × Bool).1) = true from q)]
        exact ⟨rfl, fun z => Bool.noConfusion z, fun z => Bool.noConfusion z⟩
