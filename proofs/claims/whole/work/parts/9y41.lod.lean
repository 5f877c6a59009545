def KO (S S' : hS) : Prop := S.1 ≤ S'.1 ∧ (∀ x, x < S.1 → S'.2.1 x = S.2.1 x ∧ zLen S' x = zLen S x ∧ zAI S' x = zAI S x ∧ zAR S' x = zAR S x ∧ zL S' x = zL S x ∧ (∀ k, zR S' k x = zR S k x) ∧ (∀ k, (x = 0 → k ≠ 1 ∧ k ≠ 2 ∧ k ≠ 3) → zI S' k x = zI S k x)) ∧ zMI S' = zMI S ∧ zMA S' = zMA S
section LK
variable {S S' T U : hS} {a k t : Nat} {v : Int32} {D : Nat → Nat}
theorem KO_g (g : Grw S T) : KO S T := by
  obtain ⟨g1, g2, g3, g4, g5, g6, g7⟩ := g
  exact ⟨g1, fun x hx => ⟨(g2 x hx).2.2.2, congrFun g3 x, by rw [g4], by rw [g5], (g2 x hx).2.2.1, (g2 x hx).2.1, fun k _ => (g2 x hx).1 k⟩, g6, g7⟩
theorem KO_I (h : KO S T) (ha : S.1 ≤ a ∨ (a = 0 ∧ (k = 1 ∨ k = 2 ∨ k = 3))) : KO S (szI T k a v) := by
  obtain ⟨h1, h2, h3, h4⟩ := h
  refine ⟨h1, fun x hx => ?_, h3, h4⟩
  obtain ⟨a1, a2, a3, a4, a5, a6, a7⟩ := h2 x hx
  refine ⟨a1, a2, a3, a4, a5, a6, fun j hj => ?_⟩
  by_cases e : x = a
  · have hk : j ≠ k := by
      rcases ha with ha | ⟨ha, hk⟩
      · omega
      · have := hj (by omega)
        omega
    rw [zI_k hk]
    exact a7 j hj
  · rw [zI_ne e]
    exact a7 j hj
theorem KO_G2 (h : KO S T) (g : Grw T U) : KO S U := by
  obtain ⟨g1, g2, g3, g4, g5, g6, g7⟩ := g
  obtain ⟨h1, h2, h3, h4⟩ := h
  refine ⟨Nat.le_trans h1 g1, fun x hx => ?_, g6.trans h3, g7.trans h4⟩
  obtain ⟨a1, a2, a3, a4, a5, a6, a7⟩ := h2 x hx
  have hx' : x < T.1 := Nat.lt_of_lt_of_le hx h1
  obtain ⟨b1, b2, b3, b4⟩ := g2 x hx'
  exact ⟨b4.trans a1, (congrFun g3 x).trans a2, by rw [g4]; exact a3, by rw [g5]; exact a4, b3.trans a5, fun k => (b2 k).trans (a6 k), fun k hk => (b1 k).trans (a7 k hk)⟩
theorem KO_B {B th : Nat} (h : KO S T) (hB : S.1 ≤ B) (hth : S.1 ≤ th) (m : MdB B th T U) : KO S U := by
  obtain ⟨L, ⟨m1, m2, m3, m4, m5, m6, m7⟩, mL⟩ := m
  obtain ⟨h1, h2, h3, h4⟩ := h
  refine ⟨Nat.le_trans h1 m1, fun x hx => ?_, m6.trans h3, m7.trans h4⟩
  obtain ⟨a1, a2, a3, a4, a5, a6, a7⟩ := h2 x hx
  have hx' : x < T.1 := Nat.lt_of_lt_of_le hx h1
  have hn : x ∉ L := fun z => by
    rcases mL x z with e | e <;> omega
  obtain ⟨b1, b2, b3⟩ := m2 x hx'
  refine ⟨b1.trans a1, b2.trans a2, b3.trans a3, (m5 x hx' (Or.inr (fun y hy e => ?_))).trans a4, (m4 x hx' hn).trans a5, fun k => ((m3 k x hx' hn).2).trans (a6 k), fun k hk => ((m3 k x hx' hn).1).trans (a7 k hk)⟩
  rcases mL y hy with e' | e' <;> omega
theorem KO_tg (h : KO S T) (ht : ztg S a = t + 1) : ztg T a = t + 1 := by
  obtain ⟨l1, l2, l3⟩ := ztg_lt ht
  have h4 : a < ie_S := by
    unfold ztg at ht
    by_cases q : a < S.1 ∧ a < ie_S
    · exact q.2
    · rw [if_neg q] at ht; cases ht
  unfold ztg
  rw [if_pos ⟨Nat.lt_of_lt_of_le l1 h.1, h4⟩, (h.2.1 a l1).1]
  exact l3
theorem KO_of (hx : ztg S 0 = 1) (h : KO S T) : OF S T := by
  refine ⟨h.1, fun x h1 h2 => ?_, fun x h1 => ?_⟩
  · obtain ⟨a1, a2, a3, a4, a5, a6, a7⟩ := h.2.1 x (ztg_lt h1).1
    obtain ⟨b1, b2, b3, b4, b5, b6, b7⟩ := h.2.1 (x + 1) (ztg_lt h2).1
    have n0 : x ≠ 0 := fun z => by rw [z, hx] at h1; omega
    exact ⟨⟨fun m => a7 m (fun z => absurd z n0), a6 6, a6 8, a5, by rw [h1]; exact KO_tg h h1, by rw [h2]; exact KO_tg h h2, b2, b4⟩, a6 9⟩
  · obtain ⟨a1, a2, a3, a4, a5, a6, a7⟩ := h.2.1 x (ztg_lt h1).1
    have n0 : x ≠ 0 := fun z => by rw [z, hx] at h1; omega
    exact ⟨fun m => a7 m (fun z => absurd z n0), a6, a5, by rw [h1]; exact KO_tg h h1⟩
theorem KO_fix (hx : Fix S) (h : KO S T) : Fix T := by
  obtain ⟨⟨a1, a2, a3, a4⟩, ⟨b1, b2⟩, ⟨d1, d2, d3, d4, d5⟩, ⟨e1, e2, e3⟩, ⟨f1, f2, f3⟩, ⟨g1, g2⟩, ⟨h1, h2⟩, ⟨i1, i2⟩, ⟨j1, j2⟩, kk, ll⟩ := hx
  have R : ∀ {x t : Nat} (m : Nat), ztg S x = t + 1 → zR T m x = zR S m x := fun m e => (h.2.1 _ (ztg_lt e).1).2.2.2.2.2.1 m
  have l : ∀ {x t : Nat}, ztg S x = t + 1 → zLen T x = zLen S x := fun e => (h.2.1 _ (ztg_lt e).1).2.1
  have A : ∀ {x t : Nat}, ztg S x = t + 1 → zAR T x = zAR S x := fun e => (h.2.1 _ (ztg_lt e).1).2.2.2.1
  refine ⟨⟨KO_tg h a1, by rw [R 0 a1]; exact a2, by rw [R 5 a1]; exact a3, by rw [R 6 a1]; exact a4⟩, ⟨KO_tg h b1, by rw [l b1]; exact b2⟩, ⟨KO_tg h d1, by rw [R 0 d1]; exact d2, by rw [R 1 d1]; exact d3, by rw [R 2 d1]; exact d4, by rw [R 3 d1]; exact d5⟩, ⟨KO_tg h e1, by rw [l e1]; exact e2, by rw [A e1]; exact e3⟩, ⟨KO_tg h f1, by rw [l f1]; exact f2, by rw [A f1]; exact f3⟩, ⟨KO_tg h g1, by rw [l g1]; exact g2⟩, ⟨KO_tg h h1, by rw [l h1]; exact h2⟩, ⟨KO_tg h i1, by rw [l i1]; exact i2⟩, ⟨KO_tg h j1, by rw [l j1]; exact j2⟩, ?_, ?_⟩
  · intro p' hp
    obtain ⟨u1, u2, u3, u4, u5, u6⟩ := kk p' hp
    exact ⟨KO_tg h u1, by rw [R 0 u1]; exact u2, KO_tg h u3, by rw [R 0 u3]; exact u4, KO_tg h u5, by rw [l u5]; exact u6⟩
  · intro k' hk
    obtain ⟨u1, u2, u3, u4, u5, u6, u7⟩ := ll k' hk
    exact ⟨KO_tg h u1, by rw [R 0 u1]; exact u2, by rw [R 1 u1]; exact u3, KO_tg h u4, by rw [l u4]; exact u5, KO_tg h u6, by rw [l u6]; exact u7⟩
theorem SR_o {B : Nat} (ho : OF S S') : ∀ (t : Fo), PW D t → ∀ v, SR S D B t v → SR S' D B t v := PW_ind (fun v h => h) (fun q r _ _ ih v h => by
    obtain ⟨b, e, l1, sd, z0, hr⟩ := h
    obtain ⟨e1, e2, e3, e4⟩ := ho.2.2 b sd.1
    exact ⟨b, e, l1, StD_o ho sd, by rw [e1]; exact z0, by rw [e2]; exact ih _ hr⟩) (fun q i t1 r _ _ _ _ ih1 ih2 v h => by
    obtain ⟨b, e, l1, sd, z0, z11, h7, hr⟩ := h
    obtain ⟨e1, e2, e3, e4⟩ := ho.2.2 b sd.1
    exact ⟨b, e, l1, StD_o ho sd, by rw [e1]; exact z0, by rw [e1]; exact z11, by rw [e2]; exact ih1 _ h7, by rw [e2]; exact ih2 _ hr⟩) (fun q i j t1 t2 r _ _ _ _ _ ih1 ih2 ih3 v h => by
    obtain ⟨b, e, l1, sd, z0, h7, h8, hr⟩ := h
    obtain ⟨e1, e2, e3, e4⟩ := ho.2.2 b sd.1
    exact ⟨b, e, l1, StD_o ho sd, by rw [e1]; exact z0, by rw [e2]; exact ih1 _ h7, by rw [e2]; exact ih2 _ h8, by rw [e2]; exact ih3 _ hr⟩)
end LK
