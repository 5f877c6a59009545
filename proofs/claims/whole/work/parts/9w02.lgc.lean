theorem lgc {a b : Int64} : lg_cmp a b = 0 ↔ a = b := by
  unfold lg_cmp
  constructor
  · intro h
    by_cases q : a > b
    · rw [if_pos q] at h
      cases h
    · rw [if_neg q] at h
      by_cases q2 : a = b
      · exact q2
      · rw [if_neg q2] at h
        cases h
  · intro h
    subst h
    rw [if_neg (show ¬ a > a from Int64.lt_irrefl), if_pos rfl]
theorem bc_o : ∀ u, u < 64 → yJ_bitCount (Int32.ofNat u) = Int32.ofNat (bpc u) := by decide +kernel
