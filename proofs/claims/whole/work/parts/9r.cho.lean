section CZ
variable {I I' I2 : Nat → Int32} {A A' A2 : Nat → Nat → Int32} {b os cur : List Nat} {i p q s h k lab u : Nat} {x ta tb : Fo}
theorem hd_6 {e : Nat} : hdt (cd 6 0 0 0 0 e) = 63 :: xt e := by
  have k : cK (cd 6 0 0 0 0 e) = 6 := cd_K (by decide)
  unfold hdt
  rw [if_neg (by omega), if_neg (by omega), if_neg (by omega), if_neg (by omega), if_neg (by omega), if_pos k, cd_E (by decide) (by decide) (by decide) (by decide) (by decide)]
theorem hd_7 {d e : Nat} (hd : d < 64) : hdt (cd 7 0 0 0 d e) = 64 :: (xt e ++ ldl d) := by
  have k : cK (cd 7 0 0 0 d e) = 7 := cd_K (by decide)
  unfold hdt
  rw [if_neg (by omega), if_neg (by omega), if_neg (by omega), if_neg (by omega), if_neg (by omega), if_neg (by omega), if_pos k, cd_D (by decide) (by decide) (by decide) (by decide) hd, cd_E (by decide) (by decide) (by decide) (by decide) hd]
theorem hd_8 {o : Nat} (ho : o < 8) : hdt (cd 8 0 0 o 0 0) = [65 + o, 64] := by
  have k : cK (cd 8 0 0 o 0 0) = 8 := cd_K (by decide)
  unfold hdt
  rw [if_neg (by omega), if_neg (by omega), if_neg (by omega), if_neg (by omega), if_neg (by omega), if_neg (by omega), if_neg (by omega), cd_O (by decide) (by decide) (by decide) ho]
def Lv2 (s u p : Nat) (c1 c2 : Nat → Fo) : Prop := u = unw (cD s) c1 c2 ∧ So true (c1 p) ∧ So true (c2 p) ∧ WK true (c1 p) ∧ WK true (c2 p)
theorem tol_so {y : Fo} (h : So true y) : So true (tol s lab u p y) := by
  unfold tol
  split
  · exact tel_so h
  · split
    · exact ⟨⟨h, So_nil, fun _ => trivial⟩, So_nil, fun z => Bool.noConfusion z⟩
    · exact h
theorem tol_wk {y : Fo} (hs : cD s < 6) (hl : lab < 10) (h : WK true y) : WK true (tol s lab u p y) := by
  unfold tol
  split
  · exact tel_wk hl h
  · split
    · have a : cK (cd 5 0 0 (cD s) 0 0) = 5 := cd_K (by decide)
      have b : cO (cd 5 0 0 (cD s) 0 0) = cD s := cd_O (by decide) (by decide) (by decide) (by omega)
      exact ⟨Or.inr (Or.inr (Or.inr (Or.inr (Or.inl ⟨a, by rw [b], by rw [b]; exact hs⟩)))), ⟨fun z => by omega, fun _ => ⟨_, _, _, rfl⟩, fun z => by omega, fun z => by omega⟩, ⟨hl, h, trivial⟩, trivial⟩
    · exact h
theorem tol_J {c1 c2 : Nat → Fo} (hp : p < 6) (hne : p ≠ cD s) (h : Lv2 s u p c1 c2) : ∃ c, J true (tol s 1 u p (c1 p)) (tol s 0 u p (c2 p)) = some c ∧ So true c ∧ ∀ x, chA s c1 c2 p x = ap c x := by
  obtain ⟨hu, s1, s2, w1, w2⟩ := h
  unfold tol chA
  rw [if_neg hne, if_neg hne, ← hu]
  by_cases e : u.testBit p = true
  · rw [if_pos e, if_pos e]
    refine ⟨cn (cd 5 0 0 (cD s) 0 0) (cn 0 (c2 p) (cn 1 (c1 p) .nil)) .nil, ?_, ⟨⟨s2, ⟨s1, So_nil, fun _ => trivial⟩, fun _ => ⟨Nat.le_refl _, trivial⟩⟩, So_nil, fun z => Bool.noConfusion z⟩, fun x => ?_⟩
    · rw [J_r, if_pos rfl]
      rfl
    · rw [if_neg hne, if_pos e]
      rfl
  · rw [if_neg e, if_neg e]
    have e' := e
    rw [hu] at e'
    unfold unw at e'
    rw [bts_t _ hp, decide_eq_false hne] at e'
    cases hj : J true (c1 p) (c2 p) with
    | none =>
      rw [hj] at e'
      exact (e' rfl).elim
    | some c =>
      refine ⟨c, rfl, (Jm _ true s1 _ _ s2 hj).2.2.1, fun x => ?_⟩
      rw [if_neg hne, if_neg e]
      rfl
theorem J_len {a b c : Fo} (sa : So true a) (sb : So true b) (wa : WK true a) (wb : WK true b) (hj : J true a b = some c) : (tx 0 c).length ≤ (tx 0 a).length + (tx 0 b).length := by
  have key : ∀ (n : Nat) (s : tjS) (r : Bool × List Nat), tj n s = some r → r.2.length ≤ s.2.2.2.2.length + (s.2.1.length + s.2.2.2.1.length) := by
    intro n
    induction n with
    | zero => exact fun s r h => by cases h
    | succ n ih =>
      intro ⟨pa, la, pb, lb, out⟩ r h
      show r.2.length ≤ out.length + (la.length + lb.length)
      rw [tj] at h
      split at h
      · cases h
        show out.length ≤ _
        omega
      · next q0 =>
        split at h
        · rw [Option.bind_eq_some_iff] at h
          obtain ⟨⟨u, w⟩, h1, h2⟩ := h
          have a1 := ih _ _ h2
          have a2 := congrArg List.length (cpy_le _ _ _ _ h1).1
          rw [List.length_append] at a2
          have a3 : r.2.length ≤ (out ++ u).length + (w.length + lb.length) := a1
          rw [List.length_append] at a3
          omega
        · split at h
          · rw [Option.bind_eq_some_iff] at h
            obtain ⟨⟨u, w⟩, h1, h2⟩ := h
            have a1 := ih _ _ h2
            have a2 := congrArg List.length (cpy_le _ _ _ _ h1).1
            rw [List.length_append] at a2
            have a3 : r.2.length ≤ (out ++ u).length + (la.length + w.length) := a1
            rw [List.length_append] at a3
            omega
          · have hpos : 0 < la.length + lb.length := by
              by_cases e : la = []
              · have : lb ≠ [] := fun z => q0 ⟨e, z⟩
                have := List.length_pos_iff.mpr this
                omega
              · have := List.length_pos_iff.mpr e
                omega
            split at h
            · split at h
              · cases h
                show (out ++ _).length ≤ _
                rw [List.length_append, List.length_singleton]
                omega
              · have a1 := ih _ _ h
                have a3 : r.2.length ≤ (out ++ [la.headD 0]).length + (la.tail.length + lb.tail.length) := a1
                rw [List.length_append, List.length_singleton, List.length_tail, List.length_tail] at a3
                omega
            · cases h
              show out.length ≤ _
              omega
  have := key _ _ _ ((tj_J sa sb wa wb ((tx 0 a).length + (tx 0 b).length + 1) (by omega)).1 c hj)
  have this' : (tx 0 c).length ≤ 0 + ((tx 0 a).length + (tx 0 b).length) := this
  omega
theorem s_choice {n : Nat} {c1 c2 : Nat → Fo} (hs : PWb s) (hk6 : cK s = 6) (hi : i < 200) (it : ItC A s i) (hp : p < 6) (hL : Lv2 s u p c1 c2) (hc : CS I A (b ++ (tx 0 x).reverse ++ (tx 0 (tol s 0 u p (c2 p))).reverse) (os ++ [b.length] ++ [(b ++ (tx 0 x).reverse).length]) (tx 0 (tol s 1 u p (c1 p))).reverse) (hb : b.length + (tx 0 x).length + (tx 0 (tol s 0 u p (c2 p))).length + (tx 0 (tol s 1 u p (c1 p))).length + (xt (cE s)).length + 8 ≤ 1000) (hn : 1200 < n) : ∃ I' A', x_addChoice n I A (Int32.ofNat i) (Int32.ofNat p) = some (I', A', 0) ∧ CS I' A' b os (tx 0 (chA s c1 c2 p x)).reverse ∧ FrC I A I' A' := by
  have rl : ∀ y : Fo, (tx 0 y).reverse.length = (tx 0 y).length := fun y => List.length_reverse
  obtain ⟨I1, A1, e1, d1, f1, g1, h1, _⟩ := s_takeA (n := n) (o := 0) hc rfl rfl (by rw [rl]; omega) (by rw [List.length_append, List.length_append, rl, rl, rl]; omega) (by rw [rl]; omega)
  obtain ⟨I2, A2, e2, d2, f2, g2, h2, k14, _, k30, _⟩ := s_takeB (n := n) (o := 0) d1 rfl rfl (by rw [rl]; omega) (by rw [List.length_append, rl, rl]; omega) (by rw [rl]; omega)
  rw [List.reverse_reverse] at h1 h2
  rw [rl] at g1 g2
  have i4 : A2 4 i = Int32.ofNat (cD s) := by
    rw [f2.2 4 (by omega), f1.2 4 (by omega)]
    exact it.1
  have ie : Exq A (cE s) i := by
    rcases it.2 with h | h | h | h | h <;> first | omega | exact h.2.2
  have i14 : I2 14 = Int32.ofNat (tx 0 (tol s 1 u p (c1 p))).length := k14.trans g1
  have a30 : At (A2 30) 0 (tx 0 (tol s 1 u p (c1 p))) := by rw [k30]; exact h1
  have e0 : x_addChoice n I A (Int32.ofNat i) (Int32.ofNat p) = _ := (xb_some e1).trans (xb_some e2)
  rw [e0]
  rw [if_pos (j_in (by omega) hi), (j_n (n := i) (by omega)).2, i4]
  obtain ⟨hu, s1, s2, w1, w2⟩ := hL
  by_cases e : p = cD s
  · rw [if_pos (show Int32.ofNat p = Int32.ofNat (cD s) by rw [e])]
    have ht : (tx 0 (chA s c1 c2 p x)).reverse = (tx 0 x).reverse ++ ([125] ++ ((tx 0 (tol s 0 u p (c2 p))).reverse ++ ([123] ++ ([125] ++ ((tx 0 (tol s 1 u p (c1 p))).reverse ++ ([123] ++ ((xt (cE s)).reverse ++ ([63] ++ [])))))))) := by
      have k6 : ¬ cK (cd 6 0 0 0 0 (cE s)) = 5 := by rw [cd_K (by decide)]; decide
      unfold chA tol
      rw [if_pos e, if_pos e, if_pos e, ← hu, tx_cn, if_neg k6, hd_6, tx_2, tx_2, tx_n]
      simp
    rw [ht]
    have st : Ads I2 A2 b os (tx 0 x).reverse ([125] ++ ((tx 0 (tol s 0 u p (c2 p))).reverse ++ ([123] ++ ([125] ++ ((tx 0 (tol s 1 u p (c1 p))).reverse ++ ([123] ++ ((xt (cE s)).reverse ++ ([63] ++ [])))))))) (xb (x_add I2 A2 125) fun I3 A3 v3 => (xb (x_addB n I3 A3) fun I4 A4 v4 => (xb (x_add I4 A4 123) fun I5 A5 v5 => (xb (x_add I5 A5 125) fun I6 A6 v6 => (xb (x_addA n I6 A6) fun I7 A7 v7 => (xb (x_add I7 A7 123) fun I8 A8 v8 => (xb (x_addExpression n I8 A8 (Int32.ofNat i)) fun I9 A9 v9 => (xb (x_add I9 A9 63) fun I10 A10 v10 => (some (I10, A10, 0)))))))))) := by
      refine Ads_b (s_add d2 (by rw [rl]; omega)) (fun I3 A3 m3 f3 _ x3 _ _ y3 _ => ?_)
      refine Ads_b (s_B m3 (by rw [x3]; exact g2) (by rw [y3]; exact h2) (by omega) (by omega) (by simp only [List.length_append, List.length_singleton, List.length_reverse]; omega)) (fun I4 A4 m4 f4 _ _ _ _ _ _ => ?_)
      refine Ads_b (s_add m4 (by simp only [List.length_append, List.length_singleton, List.length_reverse]; omega)) (fun I5 A5 m5 f5 _ _ _ _ _ _ => ?_)
      refine Ads_b (s_add m5 (by simp only [List.length_append, List.length_singleton, List.length_reverse]; omega)) (fun I6 A6 m6 f6 _ _ _ _ _ _ => ?_)
      refine Ads_b (s_A (l := tx 0 (tol s 1 u p (c1 p))) m6 ?_ ?_ (by omega) (by omega) (by simp only [List.length_append, List.length_singleton, List.length_reverse]; omega)) (fun I7 A7 m7 f7 _ _ _ _ _ _ => ?_)
      · simp_all
      · simp_all
      refine Ads_b (s_add m7 (by simp only [List.length_append, List.length_singleton, List.length_reverse]; omega)) (fun I8 A8 m8 f8 _ _ _ _ _ _ => ?_)
      refine Ads_b (s_exp m8 hi (by
        obtain ⟨fr, a1, a2, a3, a4, a5⟩ := ie
        have ff := FrC_t f1 (FrC_t f2 (FrC_t f3 (FrC_t f4 (FrC_t f5 (FrC_t f6 (FrC_t f7 f8))))))
        exact ⟨fr, by rw [ff.2 7 (by omega)]; exact a1, a2, by rw [ff.2 8 (by omega)]; exact a3, by rw [ff.2 2 (by omega)]; exact a4, a5⟩) (by omega) (by simp only [List.length_append, List.length_singleton, List.length_reverse]; omega)) (fun I9 A9 m9 f9 _ _ _ _ _ _ => ?_)
      refine Ads_b (s_add m9 (by simp only [List.length_append, List.length_singleton, List.length_reverse]; omega)) (fun I10 A10 m10 f10 _ _ _ _ _ _ => ?_)
      exact Ads_0 m10
    obtain ⟨I', A', q1, q2, q3, _⟩ := st
    exact ⟨I', A', q1, q2, FrC_t (FrC_t f1 f2) q3⟩
  · rw [if_neg (mt (j_eq (by omega) (by have := hs.1; omega)).mp e)]
    obtain ⟨c, jc, sc, hx⟩ := tol_J hp e ⟨hu, s1, s2, w1, w2⟩
    have ws1 := tol_so (s := s) (lab := 1) (u := u) (p := p) s1
    have ws2 := tol_so (s := s) (lab := 0) (u := u) (p := p) s2
    have ww1 := tol_wk (s := s) (lab := 1) (u := u) (p := p) hs.1 (by decide) w1
    have ww2 := tol_wk (s := s) (lab := 0) (u := u) (p := p) hs.1 (by decide) w2
    have hlen := J_len ws1 ws2 ww1 ww2 jc
    obtain ⟨g, q1, q2, q3⟩ := (join_ok (n := n) ws1 ws2 ww1 ww2 i14 g2 a30 h2 (by omega) (by omega)).1 c jc
    rw [hx x, tx_ap sc, List.reverse_append]
    have d3 : CS (upd I2 16 (Int32.ofNat (tx 0 c).length)) (upA A2 32 g) b os (tx 0 x).reverse := by
      obtain ⟨v1, v2, v3, v4, v5⟩ := d2
      exact ⟨by rw [upd_n (by decide)]; exact v1, by rw [upA_ne (by decide)]; exact v2, by rw [upd_n (by decide)]; exact v3, by rw [upA_ne (by decide)]; exact v4, v5⟩
    obtain ⟨I', A', r1, r2, r3, _⟩ := s_J (n := n) (l := tx 0 c) d3 upd_s (by rw [upA_eq]; exact q2) q3 (by omega) (by rw [rl]; omega)
    exact ⟨I', A', (xb_some q1).trans r1, r2, FrC_t (FrC_t f1 f2) (FrC_t ⟨fun k hk => upd_n (by omega), fun j hj => upA_ne (by omega)⟩ r3)⟩
end CZ
