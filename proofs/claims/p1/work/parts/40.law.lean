theorem go_thrown {X : ie_X} {d : Nat} {h : ie_H} {fs : List Value} {k : Int32} (m2 : h[134]? = some (.inr (10, fs))) (t2 : fs[0]? = some (.int k)) : Go X d 134 (0, ie_en 134 [.ref 134], [], h) (.inl (some (.int k))) h := by
  refine go_run 1 (F' := (1, [some (.ref 134)], [.ref 134], h)) rfl ?_
  refine go_gf rfl m2 t2 ?_
  exact go_end rfl rfl
set_option maxRecDepth 100000 in
theorem lw_op0 {X : ie_X} {d : Nat} {i a0 a1 a2 b : Int32} {u5 u6 : Option Value} {o : ie_O} {h h1 h2 h9 : ie_H} {fs0 fs1 : List Value} (hop : a0 &&& 31 = 0) (hi0 : 0 ≤ i.toInt ∧ i.toInt < (X.1 : Int)) (e0 : X.2 i.toNatClampNeg = a0) (hi1 : 0 ≤ (i + 1).toInt ∧ (i + 1).toInt < (X.1 : Int)) (e1 : X.2 (i + 1).toNatClampNeg = a1) (hi2 : 0 ≤ (i + 2).toInt ∧ (i + 2).toInt < (X.1 : Int)) (e2 : X.2 (i + 2).toNatClampNeg = a2) (c1 : Go X d 5 (0, ie_en 5 [.ref 0, .long (((Int32.toInt64 a1) <<< (Int32.toInt64 32 &&& 63)) ||| ((Int32.toInt64 a2) &&& 4294967295))], [], h) (.inl (some (.int b))) h1) (c2 : Go X d 135 (0, ie_en 135 [.ref 134, .long (((Int32.toInt64 a1) <<< (Int32.toInt64 32 &&& 63)) ||| ((Int32.toInt64 a2) &&& 4294967295))], [], h1) (.inl (some (.int b))) h2) (m0 : h[0]? = some (.inr (0, fs0))) (m1 : h1[134]? = some (.inr (10, fs1))) (kk : Go X (d + 1) 222 (1150, [some (.ref ie_S), some (.ref 0), some (.ref 134), some (.ref 177), some (.int i), u5, u6], [], h2) o h9) : Go X (d + 1) 222 (32, [some (.ref ie_S), some (.ref 0), some (.ref 134), some (.ref 177), some (.int i), u5, u6], [], h) o h9 := by
  refine go_run 2 (F' := (35, [some (.ref ie_S), some (.ref 0), some (.ref 134), some (.ref 177), some (.int i), u5, u6], [.int i, .ref ie_S], h)) rfl ?_
  refine go_sald rfl hi0 e0 ?_
  refine go_run 0 (F' := (36, [some (.ref ie_S), some (.ref 0), some (.ref 134), some (.ref 177), some (.int i), u5, u6], [.int a0], h)) rfl ?_
  refine go_run 2 (F' := (39, [some (.ref ie_S), some (.ref 0), some (.ref 134), some (.ref 177), some (.int i), u5, u6], [.int (a0 &&& 31)], h)) rfl ?_
  rw [hop]
  refine go_run 1 (F' := (124, [some (.ref ie_S), some (.ref 0), some (.ref 134), some (.ref 177), some (.int i), u5, u6], [], h)) rfl ?_
  refine go_run 5 (F' := (130, [some (.ref ie_S), some (.ref 0), some (.ref 134), some (.ref 177), some (.int i), u5, u6], [.int (i + 1), .ref ie_S, .ref 0], h)) rfl ?_
  refine go_sald rfl hi1 e1 ?_
  refine go_run 0 (F' := (131, [some (.ref ie_S), some (.ref 0), some (.ref 134), some (.ref 177), some (.int i), u5, u6], [.int a1, .ref 0], h)) rfl ?_
  refine go_run 7 (F' := (140, [some (.ref ie_S), some (.ref 0), some (.ref 134), some (.ref 177), some (.int i), u5, u6], [.int (i + 2), .ref ie_S, .long ((Int32.toInt64 a1) <<< (Int32.toInt64 32 &&& 63)), .ref 0], h)) rfl ?_
  refine go_sald rfl hi2 e2 ?_
  refine go_run 0 (F' := (141, [some (.ref ie_S), some (.ref 0), some (.ref 134), some (.ref 177), some (.int i), u5, u6], [.int a2, .long ((Int32.toInt64 a1) <<< (Int32.toInt64 32 &&& 63)), .ref 0], h)) rfl ?_
  refine go_run 4 (F' := (147, [some (.ref ie_S), some (.ref 0), some (.ref 134), some (.ref 177), some (.int i), u5, u6], [.long (((Int32.toInt64 a1) <<< (Int32.toInt64 32 &&& 63)) ||| ((Int32.toInt64 a2) &&& 4294967295)), .ref 0], h)) rfl ?_
  refine go_call rfl (by simp only [ie_step, ie_iv, List.drop, m0, if_true]; rfl) ⟨rfl, Nat.le_of_ble_eq_true rfl⟩ c1 ?_
  refine go_run 0 (F' := (150, [some (.ref ie_S), some (.ref 0), some (.ref 134), some (.ref 177), some (.int i), u5, u6], [.int b], h1)) rfl ?_
  refine go_run 5 (F' := (156, [some (.ref ie_S), some (.ref 0), some (.ref 134), some (.ref 177), some (.int i), u5, u6], [.int (i + 1), .ref ie_S, .ref 134, .int b], h1)) rfl ?_
  refine go_sald rfl hi1 e1 ?_
  refine go_run 0 (F' := (157, [some (.ref ie_S), some (.ref 0), some (.ref 134), some (.ref 177), some (.int i), u5, u6], [.int a1, .ref 134, .int b], h1)) rfl ?_
  refine go_run 7 (F' := (166, [some (.ref ie_S), some (.ref 0), some (.ref 134), some (.ref 177), some (.int i), u5, u6], [.int (i + 2), .ref ie_S, .long ((Int32.toInt64 a1) <<< (Int32.toInt64 32 &&& 63)), .ref 134, .int b], h1)) rfl ?_
  refine go_sald rfl hi2 e2 ?_
  refine go_run 0 (F' := (167, [some (.ref ie_S), some (.ref 0), some (.ref 134), some (.ref 177), some (.int i), u5, u6], [.int a2, .long ((Int32.toInt64 a1) <<< (Int32.toInt64 32 &&& 63)), .ref 134, .int b], h1)) rfl ?_
  refine go_run 4 (F' := (173, [some (.ref ie_S), some (.ref 0), some (.ref 134), some (.ref 177), some (.int i), u5, u6], [.long (((Int32.toInt64 a1) <<< (Int32.toInt64 32 &&& 63)) ||| ((Int32.toInt64 a2) &&& 4294967295)), .ref 134, .int b], h1)) rfl ?_
  refine go_call rfl (by simp only [ie_step, ie_iv, List.drop, m1, if_true]; rfl) ⟨rfl, Nat.le_of_ble_eq_true rfl⟩ c2 ?_
  refine go_run 0 (F' := (176, [some (.ref ie_S), some (.ref 0), some (.ref 134), some (.ref 177), some (.int i), u5, u6], [.int b, .int b], h2)) rfl ?_
  refine go_step rfl rfl ?_
  rw [if_pos rfl]
  refine go_run 0 (F' := (1150, [some (.ref ie_S), some (.ref 0), some (.ref 134), some (.ref 177), some (.int i), u5, u6], [], h2)) rfl ?_
  exact kk
set_option maxRecDepth 100000 in
theorem lw_op1z {X : ie_X} {d : Nat} {i a0 a1 k b : Int32} {u5 u6 : Option Value} {o : ie_O} {h h1 h2 h9 : ie_H} {fs1 fs2 : List Value} (hop : a0 &&& 31 = 1) (hi0 : 0 ≤ i.toInt ∧ i.toInt < (X.1 : Int)) (e0 : X.2 i.toNatClampNeg = a0) (hi1 : 0 ≤ (i + 1).toInt ∧ (i + 1).toInt < (X.1 : Int)) (e1 : X.2 (i + 1).toNatClampNeg = a1) (hz : a1 = 0) (c1 : Go X d 9 (0, ie_en 9 [.ref 0, .int 0, .ref 177], [], h) (.inl (some (.int k))) h1) (c2 : Go X d 136 (0, ie_en 136 [.ref 134, .int 0], [], h1) (.inl (some (.int b))) h2) (m1 : h1[134]? = some (.inr (10, fs1))) (m2 : h2[134]? = some (.inr (10, fs2))) (t2 : fs2[0]? = some (.int k)) (ho : k = 0 → ∃ f : Nat → Int64, h2[177]? = some (.inl (3, 1, .inr (.inl f))) ∧ f 0 = Int32.toInt64 b) (kk : Go X (d + 1) 222 (1150, [some (.ref ie_S), some (.ref 0), some (.ref 134), some (.ref 177), some (.int i), some (.int k), some (.int b)], [], h2) o h9) : Go X (d + 1) 222 (32, [some (.ref ie_S), some (.ref 0), some (.ref 134), some (.ref 177), some (.int i), u5, u6], [], h) o h9 := by
  refine go_run 2 (F' := (35, [some (.ref ie_S), some (.ref 0), some (.ref 134), some (.ref 177), some (.int i), u5, u6], [.int i, .ref ie_S], h)) rfl ?_
  refine go_sald rfl hi0 e0 ?_
  refine go_run 0 (F' := (36, [some (.ref ie_S), some (.ref 0), some (.ref 134), some (.ref 177), some (.int i), u5, u6], [.int a0], h)) rfl ?_
  refine go_run 2 (F' := (39, [some (.ref ie_S), some (.ref 0), some (.ref 134), some (.ref 177), some (.int i), u5, u6], [.int (a0 &&& 31)], h)) rfl ?_
  rw [hop]
  refine go_run 1 (F' := (181, [some (.ref ie_S), some (.ref 0), some (.ref 134), some (.ref 177), some (.int i), u5, u6], [], h)) rfl ?_
  refine go_run 5 (F' := (187, [some (.ref ie_S), some (.ref 0), some (.ref 134), some (.ref 177), some (.int i), u5, u6], [.int (i + 1), .ref ie_S, .ref 0], h)) rfl ?_
  refine go_sald rfl hi1 e1 ?_
  refine go_run 0 (F' := (188, [some (.ref ie_S), some (.ref 0), some (.ref 134), some (.ref 177), some (.int i), u5, u6], [.int a1, .ref 0], h)) rfl ?_
  refine go_step rfl rfl ?_
  rw [if_pos hz]
  refine go_run 0 (F' := (195, [some (.ref ie_S), some (.ref 0), some (.ref 134), some (.ref 177), some (.int i), u5, u6], [.ref 0], h)) rfl ?_
  refine go_run 2 (F' := (197, [some (.ref ie_S), some (.ref 0), some (.ref 134), some (.ref 177), some (.int i), u5, u6], [.ref 177, .int 0, .ref 0], h)) rfl ?_
  refine go_call rfl rfl ⟨rfl, Nat.le_of_ble_eq_true rfl⟩ c1 ?_
  refine go_run 0 (F' := (200, [some (.ref ie_S), some (.ref 0), some (.ref 134), some (.ref 177), some (.int i), u5, u6], [.int k], h1)) rfl ?_
  refine go_run 6 (F' := (208, [some (.ref ie_S), some (.ref 0), some (.ref 134), some (.ref 177), some (.int i), some (.int k), u6], [.int (i + 1), .ref ie_S, .ref 134], h1)) rfl ?_
  refine go_sald rfl hi1 e1 ?_
  refine go_run 0 (F' := (209, [some (.ref ie_S), some (.ref 0), some (.ref 134), some (.ref 177), some (.int i), some (.int k), u6], [.int a1, .ref 134], h1)) rfl ?_
  refine go_step rfl rfl ?_
  rw [if_pos hz]
  refine go_run 0 (F' := (216, [some (.ref ie_S), some (.ref 0), some (.ref 134), some (.ref 177), some (.int i), some (.int k), u6], [.ref 134], h1)) rfl ?_
  refine go_run 1 (F' := (217, [some (.ref ie_S), some (.ref 0), some (.ref 134), some (.ref 177), some (.int i), some (.int k), u6], [.int 0, .ref 134], h1)) rfl ?_
  refine go_call rfl (by simp only [ie_step, ie_iv, List.drop, m1, if_true]; rfl) ⟨rfl, Nat.le_of_ble_eq_true rfl⟩ c2 ?_
  refine go_run 0 (F' := (220, [some (.ref ie_S), some (.ref 0), some (.ref 134), some (.ref 177), some (.int i), some (.int k), u6], [.int b], h2)) rfl ?_
  refine go_run 2 (F' := (223, [some (.ref ie_S), some (.ref 0), some (.ref 134), some (.ref 177), some (.int i), some (.int k), some (.int b)], [.ref 134], h2)) rfl ?_
  refine go_call rfl (by simp only [ie_step, ie_iv, List.drop, m2, if_true]; rfl) ⟨rfl, Nat.le_of_ble_eq_true rfl⟩ (go_thrown m2 t2) ?_
  refine go_run 0 (F' := (226, [some (.ref ie_S), some (.ref 0), some (.ref 134), some (.ref 177), some (.int i), some (.int k), some (.int b)], [.int k], h2)) rfl ?_
  refine go_run 1 (F' := (228, [some (.ref ie_S), some (.ref 0), some (.ref 134), some (.ref 177), some (.int i), some (.int k), some (.int b)], [.int k, .int k], h2)) rfl ?_
  refine go_step rfl rfl ?_
  rw [if_pos rfl]
  refine go_run 0 (F' := (233, [some (.ref ie_S), some (.ref 0), some (.ref 134), some (.ref 177), some (.int i), some (.int k), some (.int b)], [], h2)) rfl ?_
  refine go_run 1 (F' := (235, [some (.ref ie_S), some (.ref 0), some (.ref 134), some (.ref 177), some (.int i), some (.int k), some (.int b)], [.int k], h2)) rfl ?_
  refine go_step rfl rfl ?_
  by_cases hk : k = 0
  · rw [if_pos hk]
    refine go_run 0 (F' := (238, [some (.ref ie_S), some (.ref 0), some (.ref 134), some (.ref 177), some (.int i), some (.int k), some (.int b)], [], h2)) rfl ?_
    refine go_run 2 (F' := (240, [some (.ref ie_S), some (.ref 0), some (.ref 134), some (.ref 177), some (.int i), some (.int k), some (.int b)], [.int 0, .ref 177], h2)) rfl ?_
    obtain ⟨f, hf, ef⟩ := ho hk
    refine go_lald rfl hf (by decide) ef ?_
    refine go_run 0 (F' := (241, [some (.ref ie_S), some (.ref 0), some (.ref 134), some (.ref 177), some (.int i), some (.int k), some (.int b)], [.long (Int32.toInt64 b)], h2)) rfl ?_
    refine go_run 2 (F' := (244, [some (.ref ie_S), some (.ref 0), some (.ref 134), some (.ref 177), some (.int i), some (.int k), some (.int b)], [.long (Int32.toInt64 b), .long (Int32.toInt64 b)], h2)) rfl ?_
    refine go_run 1 (F' := (245, [some (.ref ie_S), some (.ref 0), some (.ref 134), some (.ref 177), some (.int i), some (.int k), some (.int b)], [.int (lg_cmp (Int32.toInt64 b) (Int32.toInt64 b))], h2)) rfl ?_
    rw [show lg_cmp (Int32.toInt64 b) (Int32.toInt64 b) = 0 from (lg_cmp_eq _ _).mpr rfl]
    refine go_run 2 (F' := (1150, [some (.ref ie_S), some (.ref 0), some (.ref 134), some (.ref 177), some (.int i), some (.int k), some (.int b)], [], h2)) rfl ?_
    exact kk
  · rw [if_neg hk]
    refine go_run 1 (F' := (1150, [some (.ref ie_S), some (.ref 0), some (.ref 134), some (.ref 177), some (.int i), some (.int k), some (.int b)], [], h2)) rfl ?_
    exact kk
set_option maxRecDepth 100000 in
theorem lw_op1n {X : ie_X} {d : Nat} {i a0 a1 k b : Int32} {u5 u6 : Option Value} {o : ie_O} {h h1 h2 h9 : ie_H} {fs1 fs2 : List Value} (hop : a0 &&& 31 = 1) (hi0 : 0 ≤ i.toInt ∧ i.toInt < (X.1 : Int)) (e0 : X.2 i.toNatClampNeg = a0) (hi1 : 0 ≤ (i + 1).toInt ∧ (i + 1).toInt < (X.1 : Int)) (e1 : X.2 (i + 1).toNatClampNeg = a1) (hz : ¬ a1 = 0) (c1 : Go X d 9 (0, ie_en 9 [.ref 0, .int 1, .ref 177], [], h) (.inl (some (.int k))) h1) (c2 : Go X d 136 (0, ie_en 136 [.ref 134, .int 1], [], h1) (.inl (some (.int b))) h2) (m1 : h1[134]? = some (.inr (10, fs1))) (m2 : h2[134]? = some (.inr (10, fs2))) (t2 : fs2[0]? = some (.int k)) (ho : k = 0 → ∃ f : Nat → Int64, h2[177]? = some (.inl (3, 1, .inr (.inl f))) ∧ f 0 = Int32.toInt64 b) (kk : Go X (d + 1) 222 (1150, [some (.ref ie_S), some (.ref 0), some (.ref 134), some (.ref 177), some (.int i), some (.int k), some (.int b)], [], h2) o h9) : Go X (d + 1) 222 (32, [some (.ref ie_S), some (.ref 0), some (.ref 134), some (.ref 177), some (.int i), u5, u6], [], h) o h9 := by
  refine go_run 2 (F' := (35, [some (.ref ie_S), some (.ref 0), some (.ref 134), some (.ref 177), some (.int i), u5, u6], [.int i, .ref ie_S], h)) rfl ?_
  refine go_sald rfl hi0 e0 ?_
  refine go_run 0 (F' := (36, [some (.ref ie_S), some (.ref 0), some (.ref 134), some (.ref 177), some (.int i), u5, u6], [.int a0], h)) rfl ?_
  refine go_run 2 (F' := (39, [some (.ref ie_S), some (.ref 0), some (.ref 134), some (.ref 177), some (.int i), u5, u6], [.int (a0 &&& 31)], h)) rfl ?_
  rw [hop]
  refine go_run 1 (F' := (181, [some (.ref ie_S), some (.ref 0), some (.ref 134), some (.ref 177), some (.int i), u5, u6], [], h)) rfl ?_
  refine go_run 5 (F' := (187, [some (.ref ie_S), some (.ref 0), some (.ref 134), some (.ref 177), some (.int i), u5, u6], [.int (i + 1), .ref ie_S, .ref 0], h)) rfl ?_
  refine go_sald rfl hi1 e1 ?_
  refine go_run 0 (F' := (188, [some (.ref ie_S), some (.ref 0), some (.ref 134), some (.ref 177), some (.int i), u5, u6], [.int a1, .ref 0], h)) rfl ?_
  refine go_step rfl rfl ?_
  rw [if_neg hz]
  refine go_run 0 (F' := (191, [some (.ref ie_S), some (.ref 0), some (.ref 134), some (.ref 177), some (.int i), u5, u6], [.ref 0], h)) rfl ?_
  refine go_run 3 (F' := (197, [some (.ref ie_S), some (.ref 0), some (.ref 134), some (.ref 177), some (.int i), u5, u6], [.ref 177, .int 1, .ref 0], h)) rfl ?_
  refine go_call rfl rfl ⟨rfl, Nat.le_of_ble_eq_true rfl⟩ c1 ?_
  refine go_run 0 (F' := (200, [some (.ref ie_S), some (.ref 0), some (.ref 134), some (.ref 177), some (.int i), u5, u6], [.int k], h1)) rfl ?_
  refine go_run 6 (F' := (208, [some (.ref ie_S), some (.ref 0), some (.ref 134), some (.ref 177), some (.int i), some (.int k), u6], [.int (i + 1), .ref ie_S, .ref 134], h1)) rfl ?_
  refine go_sald rfl hi1 e1 ?_
  refine go_run 0 (F' := (209, [some (.ref ie_S), some (.ref 0), some (.ref 134), some (.ref 177), some (.int i), some (.int k), u6], [.int a1, .ref 134], h1)) rfl ?_
  refine go_step rfl rfl ?_
  rw [if_neg hz]
  refine go_run 0 (F' := (212, [some (.ref ie_S), some (.ref 0), some (.ref 134), some (.ref 177), some (.int i), some (.int k), u6], [.ref 134], h1)) rfl ?_
  refine go_run 2 (F' := (217, [some (.ref ie_S), some (.ref 0), some (.ref 134), some (.ref 177), some (.int i), some (.int k), u6], [.int 1, .ref 134], h1)) rfl ?_
  refine go_call rfl (by simp only [ie_step, ie_iv, List.drop, m1, if_true]; rfl) ⟨rfl, Nat.le_of_ble_eq_true rfl⟩ c2 ?_
  refine go_run 0 (F' := (220, [some (.ref ie_S), some (.ref 0), some (.ref 134), some (.ref 177), some (.int i), some (.int k), u6], [.int b], h2)) rfl ?_
  refine go_run 2 (F' := (223, [some (.ref ie_S), some (.ref 0), some (.ref 134), some (.ref 177), some (.int i), some (.int k), some (.int b)], [.ref 134], h2)) rfl ?_
  refine go_call rfl (by simp only [ie_step, ie_iv, List.drop, m2, if_true]; rfl) ⟨rfl, Nat.le_of_ble_eq_true rfl⟩ (go_thrown m2 t2) ?_
  refine go_run 0 (F' := (226, [some (.ref ie_S), some (.ref 0), some (.ref 134), some (.ref 177), some (.int i), some (.int k), some (.int b)], [.int k], h2)) rfl ?_
  refine go_run 1 (F' := (228, [some (.ref ie_S), some (.ref 0), some (.ref 134), some (.ref 177), some (.int i), some (.int k), some (.int b)], [.int k, .int k], h2)) rfl ?_
  refine go_step rfl rfl ?_
  rw [if_pos rfl]
  refine go_run 0 (F' := (233, [some (.ref ie_S), some (.ref 0), some (.ref 134), some (.ref 177), some (.int i), some (.int k), some (.int b)], [], h2)) rfl ?_
  refine go_run 1 (F' := (235, [some (.ref ie_S), some (.ref 0), some (.ref 134), some (.ref 177), some (.int i), some (.int k), some (.int b)], [.int k], h2)) rfl ?_
  refine go_step rfl rfl ?_
  by_cases hk : k = 0
  · rw [if_pos hk]
    refine go_run 0 (F' := (238, [some (.ref ie_S), some (.ref 0), some (.ref 134), some (.ref 177), some (.int i), some (.int k), some (.int b)], [], h2)) rfl ?_
    refine go_run 2 (F' := (240, [some (.ref ie_S), some (.ref 0), some (.ref 134), some (.ref 177), some (.int i), some (.int k), some (.int b)], [.int 0, .ref 177], h2)) rfl ?_
    obtain ⟨f, hf, ef⟩ := ho hk
    refine go_lald rfl hf (by decide) ef ?_
    refine go_run 0 (F' := (241, [some (.ref ie_S), some (.ref 0), some (.ref 134), some (.ref 177), some (.int i), some (.int k), some (.int b)], [.long (Int32.toInt64 b)], h2)) rfl ?_
    refine go_run 2 (F' := (244, [some (.ref ie_S), some (.ref 0), some (.ref 134), some (.ref 177), some (.int i), some (.int k), some (.int b)], [.long (Int32.toInt64 b), .long (Int32.toInt64 b)], h2)) rfl ?_
    refine go_run 1 (F' := (245, [some (.ref ie_S), some (.ref 0), some (.ref 134), some (.ref 177), some (.int i), some (.int k), some (.int b)], [.int (lg_cmp (Int32.toInt64 b) (Int32.toInt64 b))], h2)) rfl ?_
    rw [show lg_cmp (Int32.toInt64 b) (Int32.toInt64 b) = 0 from (lg_cmp_eq _ _).mpr rfl]
    refine go_run 2 (F' := (1150, [some (.ref ie_S), some (.ref 0), some (.ref 134), some (.ref 177), some (.int i), some (.int k), some (.int b)], [], h2)) rfl ?_
    exact kk
  · rw [if_neg hk]
    refine go_run 1 (F' := (1150, [some (.ref ie_S), some (.ref 0), some (.ref 134), some (.ref 177), some (.int i), some (.int k), some (.int b)], [], h2)) rfl ?_
    exact kk
set_option maxRecDepth 100000 in
theorem lw_op2 {X : ie_X} {d : Nat} {i a0 b : Int32} {u5 u6 : Option Value} {o : ie_O} {h h1 h2 h9 : ie_H} {fs0 fs1 : List Value} (hop : a0 &&& 31 = 2) (hi0 : 0 ≤ i.toInt ∧ i.toInt < (X.1 : Int)) (e0 : X.2 i.toNatClampNeg = a0) (c1 : Go X d 7 (0, ie_en 7 [.ref 0], [], h) (.inl (some (.int b))) h1) (c2 : Go X d 180 (0, ie_en 180 [.ref 134], [], h1) (.inl (some (.int b))) h2) (m0 : h[0]? = some (.inr (0, fs0))) (m1 : h1[134]? = some (.inr (10, fs1))) (kk : Go X (d + 1) 222 (1150, [some (.ref ie_S), some (.ref 0), some (.ref 134), some (.ref 177), some (.int i), u5, u6], [], h2) o h9) : Go X (d + 1) 222 (32, [some (.ref ie_S), some (.ref 0), some (.ref 134), some (.ref 177), some (.int i), u5, u6], [], h) o h9 := by
  refine go_run 2 (F' := (35, [some (.ref ie_S), some (.ref 0), some (.ref 134), some (.ref 177), some (.int i), u5, u6], [.int i, .ref ie_S], h)) rfl ?_
  refine go_sald rfl hi0 e0 ?_
  refine go_run 0 (F' := (36, [some (.ref ie_S), some (.ref 0), some (.ref 134), some (.ref 177), some (.int i), u5, u6], [.int a0], h)) rfl ?_
  refine go_run 2 (F' := (39, [some (.ref ie_S), some (.ref 0), some (.ref 134), some (.ref 177), some (.int i), u5, u6], [.int (a0 &&& 31)], h)) rfl ?_
  rw [hop]
  refine go_run 1 (F' := (253, [some (.ref ie_S), some (.ref 0), some (.ref 134), some (.ref 177), some (.int i), u5, u6], [], h)) rfl ?_
  refine go_run 1 (F' := (254, [some (.ref ie_S), some (.ref 0), some (.ref 134), some (.ref 177), some (.int i), u5, u6], [.ref 0], h)) rfl ?_
  refine go_call rfl (by simp only [ie_step, ie_iv, List.drop, m0, if_true]; rfl) ⟨rfl, Nat.le_of_ble_eq_true rfl⟩ c1 ?_
  refine go_run 0 (F' := (257, [some (.ref ie_S), some (.ref 0), some (.ref 134), some (.ref 177), some (.int i), u5, u6], [.int b], h1)) rfl ?_
  refine go_run 1 (F' := (258, [some (.ref ie_S), some (.ref 0), some (.ref 134), some (.ref 177), some (.int i), u5, u6], [.ref 134, .int b], h1)) rfl ?_
  refine go_call rfl (by simp only [ie_step, ie_iv, List.drop, m1, if_true]; rfl) ⟨rfl, Nat.le_of_ble_eq_true rfl⟩ c2 ?_
  refine go_run 0 (F' := (261, [some (.ref ie_S), some (.ref 0), some (.ref 134), some (.ref 177), some (.int i), u5, u6], [.int b, .int b], h2)) rfl ?_
  refine go_step rfl rfl ?_
  rw [if_pos rfl]
  refine go_run 0 (F' := (1150, [some (.ref ie_S), some (.ref 0), some (.ref 134), some (.ref 177), some (.int i), u5, u6], [], h2)) rfl ?_
  exact kk
set_option maxRecDepth 100000 in
theorem lw_op3 {X : ie_X} {d : Nat} {i a0 b : Int32} {u5 u6 : Option Value} {o : ie_O} {h h1 h2 h9 : ie_H} {fs0 fs1 : List Value} (hop : a0 &&& 31 = 3) (hi0 : 0 ≤ i.toInt ∧ i.toInt < (X.1 : Int)) (e0 : X.2 i.toNatClampNeg = a0) (c1 : Go X d 8 (0, ie_en 8 [.ref 0], [], h) (.inl (some (.int b))) h1) (c2 : Go X d 181 (0, ie_en 181 [.ref 134], [], h1) (.inl (some (.int b))) h2) (m0 : h[0]? = some (.inr (0, fs0))) (m1 : h1[134]? = some (.inr (10, fs1))) (kk : Go X (d + 1) 222 (1150, [some (.ref ie_S), some (.ref 0), some (.ref 134), some (.ref 177), some (.int i), u5, u6], [], h2) o h9) : Go X (d + 1) 222 (32, [some (.ref ie_S), some (.ref 0), some (.ref 134), some (.ref 177), some (.int i), u5, u6], [], h) o h9 := by
  refine go_run 2 (F' := (35, [some (.ref ie_S), some (.ref 0), some (.ref 134), some (.ref 177), some (.int i), u5, u6], [.int i, .ref ie_S], h)) rfl ?_
  refine go_sald rfl hi0 e0 ?_
  refine go_run 0 (F' := (36, [some (.ref ie_S), some (.ref 0), some (.ref 134), some (.ref 177), some (.int i), u5, u6], [.int a0], h)) rfl ?_
  refine go_run 2 (F' := (39, [some (.ref ie_S), some (.ref 0), some (.ref 134), some (.ref 177), some (.int i), u5, u6], [.int (a0 &&& 31)], h)) rfl ?_
  rw [hop]
  refine go_run 1 (F' := (266, [some (.ref ie_S), some (.ref 0), some (.ref 134), some (.ref 177), some (.int i), u5, u6], [], h)) rfl ?_
  refine go_run 1 (F' := (267, [some (.ref ie_S), some (.ref 0), some (.ref 134), some (.ref 177), some (.int i), u5, u6], [.ref 0], h)) rfl ?_
  refine go_call rfl (by simp only [ie_step, ie_iv, List.drop, m0, if_true]; rfl) ⟨rfl, Nat.le_of_ble_eq_true rfl⟩ c1 ?_
  refine go_run 0 (F' := (270, [some (.ref ie_S), some (.ref 0), some (.ref 134), some (.ref 177), some (.int i), u5, u6], [.int b], h1)) rfl ?_
  refine go_run 1 (F' := (271, [some (.ref ie_S), some (.ref 0), some (.ref 134), some (.ref 177), some (.int i), u5, u6], [.ref 134, .int b], h1)) rfl ?_
  refine go_call rfl (by simp only [ie_step, ie_iv, List.drop, m1, if_true]; rfl) ⟨rfl, Nat.le_of_ble_eq_true rfl⟩ c2 ?_
  refine go_run 0 (F' := (274, [some (.ref ie_S), some (.ref 0), some (.ref 134), some (.ref 177), some (.int i), u5, u6], [.int b, .int b], h2)) rfl ?_
  refine go_step rfl rfl ?_
  rw [if_pos rfl]
  refine go_run 0 (F' := (1150, [some (.ref ie_S), some (.ref 0), some (.ref 134), some (.ref 177), some (.int i), u5, u6], [], h2)) rfl ?_
  exact kk
set_option maxRecDepth 100000 in
theorem lw_op4 {X : ie_X} {d : Nat} {i a0 a1 k b : Int32} {u5 u6 : Option Value} {o : ie_O} {h h1 h2 h9 : ie_H} {fs1 fs2 : List Value} (hop : a0 &&& 31 = 4) (hi0 : 0 ≤ i.toInt ∧ i.toInt < (X.1 : Int)) (e0 : X.2 i.toNatClampNeg = a0) (hi1 : 0 ≤ (i + 1).toInt ∧ (i + 1).toInt < (X.1 : Int)) (e1 : X.2 (i + 1).toNatClampNeg = a1) (c1 : Go X d 78 (0, ie_en 78 [.ref 0, .int a1, .ref 177], [], h) (.inl (some (.int k))) h1) (c2 : Go X d 182 (0, ie_en 182 [.ref 134, .int a1], [], h1) (.inl (some (.int b))) h2) (m1 : h1[134]? = some (.inr (10, fs1))) (m2 : h2[134]? = some (.inr (10, fs2))) (t2 : fs2[0]? = some (.int k)) (ho : k = 0 → ∃ f : Nat → Int64, h2[177]? = some (.inl (3, 1, .inr (.inl f))) ∧ f 0 = Int32.toInt64 b) (kk : Go X (d + 1) 222 (1150, [some (.ref ie_S), some (.ref 0), some (.ref 134), some (.ref 177), some (.int i), some (.int k), some (.int b)], [], h2) o h9) : Go X (d + 1) 222 (32, [some (.ref ie_S), some (.ref 0), some (.ref 134), some (.ref 177), some (.int i), u5, u6], [], h) o h9 := by
  refine go_run 2 (F' := (35, [some (.ref ie_S), some (.ref 0), some (.ref 134), some (.ref 177), some (.int i), u5, u6], [.int i, .ref ie_S], h)) rfl ?_
  refine go_sald rfl hi0 e0 ?_
  refine go_run 0 (F' := (36, [some (.ref ie_S), some (.ref 0), some (.ref 134), some (.ref 177), some (.int i), u5, u6], [.int a0], h)) rfl ?_
  refine go_run 2 (F' := (39, [some (.ref ie_S), some (.ref 0), some (.ref 134), some (.ref 177), some (.int i), u5, u6], [.int (a0 &&& 31)], h)) rfl ?_
  rw [hop]
  refine go_run 1 (F' := (279, [some (.ref ie_S), some (.ref 0), some (.ref 134), some (.ref 177), some (.int i), u5, u6], [], h)) rfl ?_
  refine go_run 5 (F' := (285, [some (.ref ie_S), some (.ref 0), some (.ref 134), some (.ref 177), some (.int i), u5, u6], [.int (i + 1), .ref ie_S, .ref 0], h)) rfl ?_
  refine go_sald rfl hi1 e1 ?_
  refine go_run 0 (F' := (286, [some (.ref ie_S), some (.ref 0), some (.ref 134), some (.ref 177), some (.int i), u5, u6], [.int a1, .ref 0], h)) rfl ?_
  refine go_run 1 (F' := (287, [some (.ref ie_S), some (.ref 0), some (.ref 134), some (.ref 177), some (.int i), u5, u6], [.ref 177, .int a1, .ref 0], h)) rfl ?_
  refine go_call rfl rfl ⟨rfl, Nat.le_of_ble_eq_true rfl⟩ c1 ?_
  refine go_run 0 (F' := (290, [some (.ref ie_S), some (.ref 0), some (.ref 134), some (.ref 177), some (.int i), u5, u6], [.int k], h1)) rfl ?_
  refine go_run 6 (F' := (298, [some (.ref ie_S), some (.ref 0), some (.ref 134), some (.ref 177), some (.int i), some (.int k), u6], [.int (i + 1), .ref ie_S, .ref 134], h1)) rfl ?_
  refine go_sald rfl hi1 e1 ?_
  refine go_run 0 (F' := (299, [some (.ref ie_S), some (.ref 0), some (.ref 134), some (.ref 177), some (.int i), some (.int k), u6], [.int a1, .ref 134], h1)) rfl ?_
  refine go_call rfl (by simp only [ie_step, ie_iv, List.drop, m1, if_true]; rfl) ⟨rfl, Nat.le_of_ble_eq_true rfl⟩ c2 ?_
  refine go_run 0 (F' := (302, [some (.ref ie_S), some (.ref 0), some (.ref 134), some (.ref 177), some (.int i), some (.int k), u6], [.int b], h2)) rfl ?_
  refine go_run 2 (F' := (305, [some (.ref ie_S), some (.ref 0), some (.ref 134), some (.ref 177), some (.int i), some (.int k), some (.int b)], [.ref 134], h2)) rfl ?_
  refine go_call rfl (by simp only [ie_step, ie_iv, List.drop, m2, if_true]; rfl) ⟨rfl, Nat.le_of_ble_eq_true rfl⟩ (go_thrown m2 t2) ?_
  refine go_run 0 (F' := (308, [some (.ref ie_S), some (.ref 0), some (.ref 134), some (.ref 177), some (.int i), some (.int k), some (.int b)], [.int k], h2)) rfl ?_
  refine go_run 1 (F' := (310, [some (.ref ie_S), some (.ref 0), some (.ref 134), some (.ref 177), some (.int i), some (.int k), some (.int b)], [.int k, .int k], h2)) rfl ?_
  refine go_step rfl rfl ?_
  rw [if_pos rfl]
  refine go_run 0 (F' := (315, [some (.ref ie_S), some (.ref 0), some (.ref 134), some (.ref 177), some (.int i), some (.int k), some (.int b)], [], h2)) rfl ?_
  refine go_run 1 (F' := (317, [some (.ref ie_S), some (.ref 0), some (.ref 134), some (.ref 177), some (.int i), some (.int k), some (.int b)], [.int k], h2)) rfl ?_
  refine go_step rfl rfl ?_
  by_cases hk : k = 0
  · rw [if_pos hk]
    refine go_run 0 (F' := (320, [some (.ref ie_S), some (.ref 0), some (.ref 134), some (.ref 177), some (.int i), some (.int k), some (.int b)], [], h2)) rfl ?_
    refine go_run 2 (F' := (322, [some (.ref ie_S), some (.ref 0), some (.ref 134), some (.ref 177), some (.int i), some (.int k), some (.int b)], [.int 0, .ref 177], h2)) rfl ?_
    obtain ⟨f, hf, ef⟩ := ho hk
    refine go_lald rfl hf (by decide) ef ?_
    refine go_run 0 (F' := (323, [some (.ref ie_S), some (.ref 0), some (.ref 134), some (.ref 177), some (.int i), some (.int k), some (.int b)], [.long (Int32.toInt64 b)], h2)) rfl ?_
    refine go_run 2 (F' := (326, [some (.ref ie_S), some (.ref 0), some (.ref 134), some (.ref 177), some (.int i), some (.int k), some (.int b)], [.long (Int32.toInt64 b), .long (Int32.toInt64 b)], h2)) rfl ?_
    refine go_run 1 (F' := (327, [some (.ref ie_S), some (.ref 0), some (.ref 134), some (.ref 177), some (.int i), some (.int k), some (.int b)], [.int (lg_cmp (Int32.toInt64 b) (Int32.toInt64 b))], h2)) rfl ?_
    rw [show lg_cmp (Int32.toInt64 b) (Int32.toInt64 b) = 0 from (lg_cmp_eq _ _).mpr rfl]
    refine go_run 2 (F' := (1150, [some (.ref ie_S), some (.ref 0), some (.ref 134), some (.ref 177), some (.int i), some (.int k), some (.int b)], [], h2)) rfl ?_
    exact kk
  · rw [if_neg hk]
    refine go_run 1 (F' := (1150, [some (.ref ie_S), some (.ref 0), some (.ref 134), some (.ref 177), some (.int i), some (.int k), some (.int b)], [], h2)) rfl ?_
    exact kk
set_option maxRecDepth 100000 in
theorem lw_op5 {X : ie_X} {d : Nat} {i a0 a1 a2 k b : Int32} {u5 u6 : Option Value} {o : ie_O} {h h1 h2 h9 : ie_H} {fs1 fs2 : List Value} (hop : a0 &&& 31 = 5) (hi0 : 0 ≤ i.toInt ∧ i.toInt < (X.1 : Int)) (e0 : X.2 i.toNatClampNeg = a0) (hi1 : 0 ≤ (i + 1).toInt ∧ (i + 1).toInt < (X.1 : Int)) (e1 : X.2 (i + 1).toNatClampNeg = a1) (hi2 : 0 ≤ (i + 2).toInt ∧ (i + 2).toInt < (X.1 : Int)) (e2 : X.2 (i + 2).toNatClampNeg = a2) (c1 : Go X d 82 (0, ie_en 82 [.ref 0, .int a1, .int a2, .ref 177], [], h) (.inl (some (.int k))) h1) (c2 : Go X d 184 (0, ie_en 184 [.ref 134, .int a1, .int a2], [], h1) (.inl (some (.int b))) h2) (m1 : h1[134]? = some (.inr (10, fs1))) (m2 : h2[134]? = some (.inr (10, fs2))) (t2 : fs2[0]? = some (.int k)) (ho : k = 0 → ∃ f : Nat → Int64, h2[177]? = some (.inl (3, 1, .inr (.inl f))) ∧ f 0 = Int32.toInt64 b) (kk : Go X (d + 1) 222 (1150, [some (.ref ie_S), some (.ref 0), some (.ref 134), some (.ref 177), some (.int i), some (.int k), some (.int b)], [], h2) o h9) : Go X (d + 1) 222 (32, [some (.ref ie_S), some (.ref 0), some (.ref 134), some (.ref 177), some (.int i), u5, u6], [], h) o h9 := by
  refine go_run 2 (F' := (35, [some (.ref ie_S), some (.ref 0), some (.ref 134), some (.ref 177), some (.int i), u5, u6], [.int i, .ref ie_S], h)) rfl ?_
  refine go_sald rfl hi0 e0 ?_
  refine go_run 0 (F' := (36, [some (.ref ie_S), some (.ref 0), some (.ref 134), some (.ref 177), some (.int i), u5, u6], [.int a0], h)) rfl ?_
  refine go_run 2 (F' := (39, [some (.ref ie_S), some (.ref 0), some (.ref 134), some (.ref 177), some (.int i), u5, u6], [.int (a0 &&& 31)], h)) rfl ?_
  rw [hop]
  refine go_run 1 (F' := (335, [some (.ref ie_S), some (.ref 0), some (.ref 134), some (.ref 177), some (.int i), u5, u6], [], h)) rfl ?_
  refine go_run 5 (F' := (341, [some (.ref ie_S), some (.ref 0), some (.ref 134), some (.ref 177), some (.int i), u5, u6], [.int (i + 1), .ref ie_S, .ref 0], h)) rfl ?_
  refine go_sald rfl hi1 e1 ?_
  refine go_run 0 (F' := (342, [some (.ref ie_S), some (.ref 0), some (.ref 134), some (.ref 177), some (.int i), u5, u6], [.int a1, .ref 0], h)) rfl ?_
  refine go_run 4 (F' := (347, [some (.ref ie_S), some (.ref 0), some (.ref 134), some (.ref 177), some (.int i), u5, u6], [.int (i + 2), .ref ie_S, .int a1, .ref 0], h)) rfl ?_
  refine go_sald rfl hi2 e2 ?_
  refine go_run 0 (F' := (348, [some (.ref ie_S), some (.ref 0), some (.ref 134), some (.ref 177), some (.int i), u5, u6], [.int a2, .int a1, .ref 0], h)) rfl ?_
  refine go_run 1 (F' := (349, [some (.ref ie_S), some (.ref 0), some (.ref 134), some (.ref 177), some (.int i), u5, u6], [.ref 177, .int a2, .int a1, .ref 0], h)) rfl ?_
  refine go_call rfl rfl ⟨rfl, Nat.le_of_ble_eq_true rfl⟩ c1 ?_
  refine go_run 0 (F' := (352, [some (.ref ie_S), some (.ref 0), some (.ref 134), some (.ref 177), some (.int i), u5, u6], [.int k], h1)) rfl ?_
  refine go_run 6 (F' := (360, [some (.ref ie_S), some (.ref 0), some (.ref 134), some (.ref 177), some (.int i), some (.int k), u6], [.int (i + 1), .ref ie_S, .ref 134], h1)) rfl ?_
  refine go_sald rfl hi1 e1 ?_
  refine go_run 0 (F' := (361, [some (.ref ie_S), some (.ref 0), some (.ref 134), some (.ref 177), some (.int i), some (.int k), u6], [.int a1, .ref 134], h1)) rfl ?_
  refine go_run 4 (F' := (366, [some (.ref ie_S), some (.ref 0), some (.ref 134), some (.ref 177), some (.int i), some (.int k), u6], [.int (i + 2), .ref ie_S, .int a1, .ref 134], h1)) rfl ?_
  refine go_sald rfl hi2 e2 ?_
  refine go_run 0 (F' := (367, [some (.ref ie_S), some (.ref 0), some (.ref 134), some (.ref 177), some (.int i), some (.int k), u6], [.int a2, .int a1, .ref 134], h1)) rfl ?_
  refine go_call rfl (by simp only [ie_step, ie_iv, List.drop, m1, if_true]; rfl) ⟨rfl, Nat.le_of_ble_eq_true rfl⟩ c2 ?_
  refine go_run 0 (F' := (370, [some (.ref ie_S), some (.ref 0), some (.ref 134), some (.ref 177), some (.int i), some (.int k), u6], [.int b], h2)) rfl ?_
  refine go_run 2 (F' := (373, [some (.ref ie_S), some (.ref 0), some (.ref 134), some (.ref 177), some (.int i), some (.int k), some (.int b)], [.ref 134], h2)) rfl ?_
  refine go_call rfl (by simp only [ie_step, ie_iv, List.drop, m2, if_true]; rfl) ⟨rfl, Nat.le_of_ble_eq_true rfl⟩ (go_thrown m2 t2) ?_
  refine go_run 0 (F' := (376, [some (.ref ie_S), some (.ref 0), some (.ref 134), some (.ref 177), some (.int i), some (.int k), some (.int b)], [.int k], h2)) rfl ?_
  refine go_run 1 (F' := (378, [some (.ref ie_S), some (.ref 0), some (.ref 134), some (.ref 177), some (.int i), some (.int k), some (.int b)], [.int k, .int k], h2)) rfl ?_
  refine go_step rfl rfl ?_
  rw [if_pos rfl]
  refine go_run 0 (F' := (383, [some (.ref ie_S), some (.ref 0), some (.ref 134), some (.ref 177), some (.int i), some (.int k), some (.int b)], [], h2)) rfl ?_
  refine go_run 1 (F' := (385, [some (.ref ie_S), some (.ref 0), some (.ref 134), some (.ref 177), some (.int i), some (.int k), some (.int b)], [.int k], h2)) rfl ?_
  refine go_step rfl rfl ?_
  by_cases hk : k = 0
  · rw [if_pos hk]
    refine go_run 0 (F' := (388, [some (.ref ie_S), some (.ref 0), some (.ref 134), some (.ref 177), some (.int i), some (.int k), some (.int b)], [], h2)) rfl ?_
    refine go_run 2 (F' := (390, [some (.ref ie_S), some (.ref 0), some (.ref 134), some (.ref 177), some (.int i), some (.int k), some (.int b)], [.int 0, .ref 177], h2)) rfl ?_
    obtain ⟨f, hf, ef⟩ := ho hk
    refine go_lald rfl hf (by decide) ef ?_
    refine go_run 0 (F' := (391, [some (.ref ie_S), some (.ref 0), some (.ref 134), some (.ref 177), some (.int i), some (.int k), some (.int b)], [.long (Int32.toInt64 b)], h2)) rfl ?_
    refine go_run 2 (F' := (394, [some (.ref ie_S), some (.ref 0), some (.ref 134), some (.ref 177), some (.int i), some (.int k), some (.int b)], [.long (Int32.toInt64 b), .long (Int32.toInt64 b)], h2)) rfl ?_
    refine go_run 1 (F' := (395, [some (.ref ie_S), some (.ref 0), some (.ref 134), some (.ref 177), some (.int i), some (.int k), some (.int b)], [.int (lg_cmp (Int32.toInt64 b) (Int32.toInt64 b))], h2)) rfl ?_
    rw [show lg_cmp (Int32.toInt64 b) (Int32.toInt64 b) = 0 from (lg_cmp_eq _ _).mpr rfl]
    refine go_run 2 (F' := (1150, [some (.ref ie_S), some (.ref 0), some (.ref 134), some (.ref 177), some (.int i), some (.int k), some (.int b)], [], h2)) rfl ?_
    exact kk
  · rw [if_neg hk]
    refine go_run 1 (F' := (1150, [some (.ref ie_S), some (.ref 0), some (.ref 134), some (.ref 177), some (.int i), some (.int k), some (.int b)], [], h2)) rfl ?_
    exact kk
set_option maxRecDepth 100000 in
theorem lw_op6 {X : ie_X} {d : Nat} {i a0 a1 a2 a3 k b : Int32} {u5 u6 : Option Value} {o : ie_O} {h h1 h2 h9 : ie_H} {fs1 fs2 : List Value} (hop : a0 &&& 31 = 6) (hi0 : 0 ≤ i.toInt ∧ i.toInt < (X.1 : Int)) (e0 : X.2 i.toNatClampNeg = a0) (hi1 : 0 ≤ (i + 1).toInt ∧ (i + 1).toInt < (X.1 : Int)) (e1 : X.2 (i + 1).toNatClampNeg = a1) (hi2 : 0 ≤ (i + 2).toInt ∧ (i + 2).toInt < (X.1 : Int)) (e2 : X.2 (i + 2).toNatClampNeg = a2) (hi3 : 0 ≤ (i + 3).toInt ∧ (i + 3).toInt < (X.1 : Int)) (e3 : X.2 (i + 3).toNatClampNeg = a3) (c1 : Go X d 84 (0, ie_en 84 [.ref 0, .int a1, .int a2, .int a3, .ref 177], [], h) (.inl (some (.int k))) h1) (c2 : Go X d 185 (0, ie_en 185 [.ref 134, .int a1, .int a2, .int a3], [], h1) (.inl (some (.int b))) h2) (m1 : h1[134]? = some (.inr (10, fs1))) (m2 : h2[134]? = some (.inr (10, fs2))) (t2 : fs2[0]? = some (.int k)) (ho : k = 0 → ∃ f : Nat → Int64, h2[177]? = some (.inl (3, 1, .inr (.inl f))) ∧ f 0 = Int32.toInt64 b) (kk : Go X (d + 1) 222 (1150, [some (.ref ie_S), some (.ref 0), some (.ref 134), some (.ref 177), some (.int i), some (.int k), some (.int b)], [], h2) o h9) : Go X (d + 1) 222 (32, [some (.ref ie_S), some (.ref 0), some (.ref 134), some (.ref 177), some (.int i), u5, u6], [], h) o h9 := by
  refine go_run 2 (F' := (35, [some (.ref ie_S), some (.ref 0), some (.ref 134), some (.ref 177), some (.int i), u5, u6], [.int i, .ref ie_S], h)) rfl ?_
  refine go_sald rfl hi0 e0 ?_
  refine go_run 0 (F' := (36, [some (.ref ie_S), some (.ref 0), some (.ref 134), some (.ref 177), some (.int i), u5, u6], [.int a0], h)) rfl ?_
  refine go_run 2 (F' := (39, [some (.ref ie_S), some (.ref 0), some (.ref 134), some (.ref 177), some (.int i), u5, u6], [.int (a0 &&& 31)], h)) rfl ?_
  rw [hop]
  refine go_run 1 (F' := (403, [some (.ref ie_S), some (.ref 0), some (.ref 134), some (.ref 177), some (.int i), u5, u6], [], h)) rfl ?_
  refine go_run 5 (F' := (409, [some (.ref ie_S), some (.ref 0), some (.ref 134), some (.ref 177), some (.int i), u5, u6], [.int (i + 1), .ref ie_S, .ref 0], h)) rfl ?_
  refine go_sald rfl hi1 e1 ?_
  refine go_run 0 (F' := (410, [some (.ref ie_S), some (.ref 0), some (.ref 134), some (.ref 177), some (.int i), u5, u6], [.int a1, .ref 0], h)) rfl ?_
  refine go_run 4 (F' := (415, [some (.ref ie_S), some (.ref 0), some (.ref 134), some (.ref 177), some (.int i), u5, u6], [.int (i + 2), .ref ie_S, .int a1, .ref 0], h)) rfl ?_
  refine go_sald rfl hi2 e2 ?_
  refine go_run 0 (F' := (416, [some (.ref ie_S), some (.ref 0), some (.ref 134), some (.ref 177), some (.int i), u5, u6], [.int a2, .int a1, .ref 0], h)) rfl ?_
  refine go_run 4 (F' := (421, [some (.ref ie_S), some (.ref 0), some (.ref 134), some (.ref 177), some (.int i), u5, u6], [.int (i + 3), .ref ie_S, .int a2, .int a1, .ref 0], h)) rfl ?_
  refine go_sald rfl hi3 e3 ?_
  refine go_run 0 (F' := (422, [some (.ref ie_S), some (.ref 0), some (.ref 134), some (.ref 177), some (.int i), u5, u6], [.int a3, .int a2, .int a1, .ref 0], h)) rfl ?_
  refine go_run 1 (F' := (423, [some (.ref ie_S), some (.ref 0), some (.ref 134), some (.ref 177), some (.int i), u5, u6], [.ref 177, .int a3, .int a2, .int a1, .ref 0], h)) rfl ?_
  refine go_call rfl rfl ⟨rfl, Nat.le_of_ble_eq_true rfl⟩ c1 ?_
  refine go_run 0 (F' := (426, [some (.ref ie_S), some (.ref 0), some (.ref 134), some (.ref 177), some (.int i), u5, u6], [.int k], h1)) rfl ?_
  refine go_run 6 (F' := (434, [some (.ref ie_S), some (.ref 0), some (.ref 134), some (.ref 177), some (.int i), some (.int k), u6], [.int (i + 1), .ref ie_S, .ref 134], h1)) rfl ?_
  refine go_sald rfl hi1 e1 ?_
  refine go_run 0 (F' := (435, [some (.ref ie_S), some (.ref 0), some (.ref 134), some (.ref 177), some (.int i), some (.int k), u6], [.int a1, .ref 134], h1)) rfl ?_
  refine go_run 4 (F' := (440, [some (.ref ie_S), some (.ref 0), some (.ref 134), some (.ref 177), some (.int i), some (.int k), u6], [.int (i + 2), .ref ie_S, .int a1, .ref 134], h1)) rfl ?_
  refine go_sald rfl hi2 e2 ?_
  refine go_run 0 (F' := (441, [some (.ref ie_S), some (.ref 0), some (.ref 134), some (.ref 177), some (.int i), some (.int k), u6], [.int a2, .int a1, .ref 134], h1)) rfl ?_
  refine go_run 4 (F' := (446, [some (.ref ie_S), some (.ref 0), some (.ref 134), some (.ref 177), some (.int i), some (.int k), u6], [.int (i + 3), .ref ie_S, .int a2, .int a1, .ref 134], h1)) rfl ?_
  refine go_sald rfl hi3 e3 ?_
  refine go_run 0 (F' := (447, [some (.ref ie_S), some (.ref 0), some (.ref 134), some (.ref 177), some (.int i), some (.int k), u6], [.int a3, .int a2, .int a1, .ref 134], h1)) rfl ?_
  refine go_call rfl (by simp only [ie_step, ie_iv, List.drop, m1, if_true]; rfl) ⟨rfl, Nat.le_of_ble_eq_true rfl⟩ c2 ?_
  refine go_run 0 (F' := (450, [some (.ref ie_S), some (.ref 0), some (.ref 134), some (.ref 177), some (.int i), some (.int k), u6], [.int b], h2)) rfl ?_
  refine go_run 2 (F' := (453, [some (.ref ie_S), some (.ref 0), some (.ref 134), some (.ref 177), some (.int i), some (.int k), some (.int b)], [.ref 134], h2)) rfl ?_
  refine go_call rfl (by simp only [ie_step, ie_iv, List.drop, m2, if_true]; rfl) ⟨rfl, Nat.le_of_ble_eq_true rfl⟩ (go_thrown m2 t2) ?_
  refine go_run 0 (F' := (456, [some (.ref ie_S), some (.ref 0), some (.ref 134), some (.ref 177), some (.int i), some (.int k), some (.int b)], [.int k], h2)) rfl ?_
  refine go_run 1 (F' := (458, [some (.ref ie_S), some (.ref 0), some (.ref 134), some (.ref 177), some (.int i), some (.int k), some (.int b)], [.int k, .int k], h2)) rfl ?_
  refine go_step rfl rfl ?_
  rw [if_pos rfl]
  refine go_run 0 (F' := (463, [some (.ref ie_S), some (.ref 0), some (.ref 134), some (.ref 177), some (.int i), some (.int k), some (.int b)], [], h2)) rfl ?_
  refine go_run 1 (F' := (465, [some (.ref ie_S), some (.ref 0), some (.ref 134), some (.ref 177), some (.int i), some (.int k), some (.int b)], [.int k], h2)) rfl ?_
  refine go_step rfl rfl ?_
  by_cases hk : k = 0
  · rw [if_pos hk]
    refine go_run 0 (F' := (468, [some (.ref ie_S), some (.ref 0), some (.ref 134), some (.ref 177), some (.int i), some (.int k), some (.int b)], [], h2)) rfl ?_
    refine go_run 2 (F' := (470, [some (.ref ie_S), some (.ref 0), some (.ref 134), some (.ref 177), some (.int i), some (.int k), some (.int b)], [.int 0, .ref 177], h2)) rfl ?_
    obtain ⟨f, hf, ef⟩ := ho hk
    refine go_lald rfl hf (by decide) ef ?_
    refine go_run 0 (F' := (471, [some (.ref ie_S), some (.ref 0), some (.ref 134), some (.ref 177), some (.int i), some (.int k), some (.int b)], [.long (Int32.toInt64 b)], h2)) rfl ?_
    refine go_run 2 (F' := (474, [some (.ref ie_S), some (.ref 0), some (.ref 134), some (.ref 177), some (.int i), some (.int k), some (.int b)], [.long (Int32.toInt64 b), .long (Int32.toInt64 b)], h2)) rfl ?_
    refine go_run 1 (F' := (475, [some (.ref ie_S), some (.ref 0), some (.ref 134), some (.ref 177), some (.int i), some (.int k), some (.int b)], [.int (lg_cmp (Int32.toInt64 b) (Int32.toInt64 b))], h2)) rfl ?_
    rw [show lg_cmp (Int32.toInt64 b) (Int32.toInt64 b) = 0 from (lg_cmp_eq _ _).mpr rfl]
    refine go_run 2 (F' := (1150, [some (.ref ie_S), some (.ref 0), some (.ref 134), some (.ref 177), some (.int i), some (.int k), some (.int b)], [], h2)) rfl ?_
    exact kk
  · rw [if_neg hk]
    refine go_run 1 (F' := (1150, [some (.ref ie_S), some (.ref 0), some (.ref 134), some (.ref 177), some (.int i), some (.int k), some (.int b)], [], h2)) rfl ?_
    exact kk
set_option maxRecDepth 100000 in
theorem lw_op7 {X : ie_X} {d : Nat} {i a0 a1 k : Int32} {u5 u6 : Option Value} {o : ie_O} {h h1 h2 h9 : ie_H} {fs1 fs2 : List Value} (hop : a0 &&& 31 = 7) (hi0 : 0 ≤ i.toInt ∧ i.toInt < (X.1 : Int)) (e0 : X.2 i.toNatClampNeg = a0) (hi1 : 0 ≤ (i + 1).toInt ∧ (i + 1).toInt < (X.1 : Int)) (e1 : X.2 (i + 1).toNatClampNeg = a1) (c1 : Go X d 89 (0, ie_en 89 [.ref 0, .int a1], [], h) (.inl (some (.int k))) h1) (c2 : Go X d 187 (0, ie_en 187 [.ref 134, .int a1], [], h1) (.inl none) h2) (m1 : h1[134]? = some (.inr (10, fs1))) (m2 : h2[134]? = some (.inr (10, fs2))) (t2 : fs2[0]? = some (.int k)) (kk : Go X (d + 1) 222 (1150, [some (.ref ie_S), some (.ref 0), some (.ref 134), some (.ref 177), some (.int i), some (.int k), u6], [], h2) o h9) : Go X (d + 1) 222 (32, [some (.ref ie_S), some (.ref 0), some (.ref 134), some (.ref 177), some (.int i), u5, u6], [], h) o h9 := by
  refine go_run 2 (F' := (35, [some (.ref ie_S), some (.ref 0), some (.ref 134), some (.ref 177), some (.int i), u5, u6], [.int i, .ref ie_S], h)) rfl ?_
  refine go_sald rfl hi0 e0 ?_
  refine go_run 0 (F' := (36, [some (.ref ie_S), some (.ref 0), some (.ref 134), some (.ref 177), some (.int i), u5, u6], [.int a0], h)) rfl ?_
  refine go_run 2 (F' := (39, [some (.ref ie_S), some (.ref 0), some (.ref 134), some (.ref 177), some (.int i), u5, u6], [.int (a0 &&& 31)], h)) rfl ?_
  rw [hop]
  refine go_run 1 (F' := (483, [some (.ref ie_S), some (.ref 0), some (.ref 134), some (.ref 177), some (.int i), u5, u6], [], h)) rfl ?_
  refine go_run 5 (F' := (489, [some (.ref ie_S), some (.ref 0), some (.ref 134), some (.ref 177), some (.int i), u5, u6], [.int (i + 1), .ref ie_S, .ref 0], h)) rfl ?_
  refine go_sald rfl hi1 e1 ?_
  refine go_run 0 (F' := (490, [some (.ref ie_S), some (.ref 0), some (.ref 134), some (.ref 177), some (.int i), u5, u6], [.int a1, .ref 0], h)) rfl ?_
  refine go_call rfl rfl ⟨rfl, Nat.le_of_ble_eq_true rfl⟩ c1 ?_
  refine go_run 0 (F' := (493, [some (.ref ie_S), some (.ref 0), some (.ref 134), some (.ref 177), some (.int i), u5, u6], [.int k], h1)) rfl ?_
  refine go_run 6 (F' := (501, [some (.ref ie_S), some (.ref 0), some (.ref 134), some (.ref 177), some (.int i), some (.int k), u6], [.int (i + 1), .ref ie_S, .ref 134], h1)) rfl ?_
  refine go_sald rfl hi1 e1 ?_
  refine go_run 0 (F' := (502, [some (.ref ie_S), some (.ref 0), some (.ref 134), some (.ref 177), some (.int i), some (.int k), u6], [.int a1, .ref 134], h1)) rfl ?_
  refine go_call rfl (by simp only [ie_step, ie_iv, List.drop, m1, if_true]; rfl) ⟨rfl, Nat.le_of_ble_eq_true rfl⟩ c2 ?_
  refine go_run 0 (F' := (505, [some (.ref ie_S), some (.ref 0), some (.ref 134), some (.ref 177), some (.int i), some (.int k), u6], [], h2)) rfl ?_
  refine go_run 1 (F' := (506, [some (.ref ie_S), some (.ref 0), some (.ref 134), some (.ref 177), some (.int i), some (.int k), u6], [.ref 134], h2)) rfl ?_
  refine go_call rfl (by simp only [ie_step, ie_iv, List.drop, m2, if_true]; rfl) ⟨rfl, Nat.le_of_ble_eq_true rfl⟩ (go_thrown m2 t2) ?_
  refine go_run 0 (F' := (509, [some (.ref ie_S), some (.ref 0), some (.ref 134), some (.ref 177), some (.int i), some (.int k), u6], [.int k], h2)) rfl ?_
  refine go_run 1 (F' := (511, [some (.ref ie_S), some (.ref 0), some (.ref 134), some (.ref 177), some (.int i), some (.int k), u6], [.int k, .int k], h2)) rfl ?_
  refine go_step rfl rfl ?_
  rw [if_pos rfl]
  refine go_run 0 (F' := (516, [some (.ref ie_S), some (.ref 0), some (.ref 134), some (.ref 177), some (.int i), some (.int k), u6], [], h2)) rfl ?_
  refine go_run 1 (F' := (1150, [some (.ref ie_S), some (.ref 0), some (.ref 134), some (.ref 177), some (.int i), some (.int k), u6], [], h2)) rfl ?_
  exact kk
set_option maxRecDepth 100000 in
theorem lw_op8 {X : ie_X} {d : Nat} {i a0 k : Int32} {u5 u6 : Option Value} {o : ie_O} {h h1 h2 h9 : ie_H} {fs1 fs2 : List Value} (hop : a0 &&& 31 = 8) (hi0 : 0 ≤ i.toInt ∧ i.toInt < (X.1 : Int)) (e0 : X.2 i.toNatClampNeg = a0) (c1 : Go X d 91 (0, ie_en 91 [.ref 0], [], h) (.inl (some (.int k))) h1) (c2 : Go X d 188 (0, ie_en 188 [.ref 134], [], h1) (.inl none) h2) (m1 : h1[134]? = some (.inr (10, fs1))) (m2 : h2[134]? = some (.inr (10, fs2))) (t2 : fs2[0]? = some (.int k)) (kk : Go X (d + 1) 222 (1150, [some (.ref ie_S), some (.ref 0), some (.ref 134), some (.ref 177), some (.int i), some (.int k), u6], [], h2) o h9) : Go X (d + 1) 222 (32, [some (.ref ie_S), some (.ref 0), some (.ref 134), some (.ref 177), some (.int i), u5, u6], [], h) o h9 := by
  refine go_run 2 (F' := (35, [some (.ref ie_S), some (.ref 0), some (.ref 134), some (.ref 177), some (.int i), u5, u6], [.int i, .ref ie_S], h)) rfl ?_
  refine go_sald rfl hi0 e0 ?_
  refine go_run 0 (F' := (36, [some (.ref ie_S), some (.ref 0), some (.ref 134), some (.ref 177), some (.int i), u5, u6], [.int a0], h)) rfl ?_
  refine go_run 2 (F' := (39, [some (.ref ie_S), some (.ref 0), some (.ref 134), some (.ref 177), some (.int i), u5, u6], [.int (a0 &&& 31)], h)) rfl ?_
  rw [hop]
  refine go_run 1 (F' := (519, [some (.ref ie_S), some (.ref 0), some (.ref 134), some (.ref 177), some (.int i), u5, u6], [], h)) rfl ?_
  refine go_run 1 (F' := (520, [some (.ref ie_S), some (.ref 0), some (.ref 134), some (.ref 177), some (.int i), u5, u6], [.ref 0], h)) rfl ?_
  refine go_call rfl rfl ⟨rfl, Nat.le_of_ble_eq_true rfl⟩ c1 ?_
  refine go_run 0 (F' := (523, [some (.ref ie_S), some (.ref 0), some (.ref 134), some (.ref 177), some (.int i), u5, u6], [.int k], h1)) rfl ?_
  refine go_run 2 (F' := (526, [some (.ref ie_S), some (.ref 0), some (.ref 134), some (.ref 177), some (.int i), some (.int k), u6], [.ref 134], h1)) rfl ?_
  refine go_call rfl (by simp only [ie_step, ie_iv, List.drop, m1, if_true]; rfl) ⟨rfl, Nat.le_of_ble_eq_true rfl⟩ c2 ?_
  refine go_run 0 (F' := (529, [some (.ref ie_S), some (.ref 0), some (.ref 134), some (.ref 177), some (.int i), some (.int k), u6], [], h2)) rfl ?_
  refine go_run 1 (F' := (530, [some (.ref ie_S), some (.ref 0), some (.ref 134), some (.ref 177), some (.int i), some (.int k), u6], [.ref 134], h2)) rfl ?_
  refine go_call rfl (by simp only [ie_step, ie_iv, List.drop, m2, if_true]; rfl) ⟨rfl, Nat.le_of_ble_eq_true rfl⟩ (go_thrown m2 t2) ?_
  refine go_run 0 (F' := (533, [some (.ref ie_S), some (.ref 0), some (.ref 134), some (.ref 177), some (.int i), some (.int k), u6], [.int k], h2)) rfl ?_
  refine go_run 1 (F' := (535, [some (.ref ie_S), some (.ref 0), some (.ref 134), some (.ref 177), some (.int i), some (.int k), u6], [.int k, .int k], h2)) rfl ?_
  refine go_step rfl rfl ?_
  rw [if_pos rfl]
  refine go_run 0 (F' := (540, [some (.ref ie_S), some (.ref 0), some (.ref 134), some (.ref 177), some (.int i), some (.int k), u6], [], h2)) rfl ?_
  refine go_run 1 (F' := (1150, [some (.ref ie_S), some (.ref 0), some (.ref 134), some (.ref 177), some (.int i), some (.int k), u6], [], h2)) rfl ?_
  exact kk
set_option maxRecDepth 100000 in
theorem lw_op9 {X : ie_X} {d : Nat} {i a0 a1 k b : Int32} {u5 u6 : Option Value} {o : ie_O} {h h1 h2 h9 : ie_H} {fs1 fs2 : List Value} (hop : a0 &&& 31 = 9) (hi0 : 0 ≤ i.toInt ∧ i.toInt < (X.1 : Int)) (e0 : X.2 i.toNatClampNeg = a0) (hi1 : 0 ≤ (i + 1).toInt ∧ (i + 1).toInt < (X.1 : Int)) (e1 : X.2 (i + 1).toNatClampNeg = a1) (c1 : Go X d 93 (0, ie_en 93 [.ref 0, .int a1, .ref 177], [], h) (.inl (some (.int k))) h1) (c2 : Go X d 189 (0, ie_en 189 [.ref 134, .int a1], [], h1) (.inl (some (.int b))) h2) (m1 : h1[134]? = some (.inr (10, fs1))) (m2 : h2[134]? = some (.inr (10, fs2))) (t2 : fs2[0]? = some (.int k)) (ho : k = 0 → ∃ f : Nat → Int64, h2[177]? = some (.inl (3, 1, .inr (.inl f))) ∧ f 0 = Int32.toInt64 b) (kk : Go X (d + 1) 222 (1150, [some (.ref ie_S), some (.ref 0), some (.ref 134), some (.ref 177), some (.int i), some (.int k), some (.int b)], [], h2) o h9) : Go X (d + 1) 222 (32, [some (.ref ie_S), some (.ref 0), some (.ref 134), some (.ref 177), some (.int i), u5, u6], [], h) o h9 := by
  refine go_run 2 (F' := (35, [some (.ref ie_S), some (.ref 0), some (.ref 134), some (.ref 177), some (.int i), u5, u6], [.int i, .ref ie_S], h)) rfl ?_
  refine go_sald rfl hi0 e0 ?_
  refine go_run 0 (F' := (36, [some (.ref ie_S), some (.ref 0), some (.ref 134), some (.ref 177), some (.int i), u5, u6], [.int a0], h)) rfl ?_
  refine go_run 2 (F' := (39, [some (.ref ie_S), some (.ref 0), some (.ref 134), some (.ref 177), some (.int i), u5, u6], [.int (a0 &&& 31)], h)) rfl ?_
  rw [hop]
  refine go_run 1 (F' := (543, [some (.ref ie_S), some (.ref 0), some (.ref 134), some (.ref 177), some (.int i), u5, u6], [], h)) rfl ?_
  refine go_run 5 (F' := (549, [some (.ref ie_S), some (.ref 0), some (.ref 134), some (.ref 177), some (.int i), u5, u6], [.int (i + 1), .ref ie_S, .ref 0], h)) rfl ?_
  refine go_sald rfl hi1 e1 ?_
  refine go_run 0 (F' := (550, [some (.ref ie_S), some (.ref 0), some (.ref 134), some (.ref 177), some (.int i), u5, u6], [.int a1, .ref 0], h)) rfl ?_
  refine go_run 1 (F' := (551, [some (.ref ie_S), some (.ref 0), some (.ref 134), some (.ref 177), some (.int i), u5, u6], [.ref 177, .int a1, .ref 0], h)) rfl ?_
  refine go_call rfl rfl ⟨rfl, Nat.le_of_ble_eq_true rfl⟩ c1 ?_
  refine go_run 0 (F' := (554, [some (.ref ie_S), some (.ref 0), some (.ref 134), some (.ref 177), some (.int i), u5, u6], [.int k], h1)) rfl ?_
  refine go_run 6 (F' := (562, [some (.ref ie_S), some (.ref 0), some (.ref 134), some (.ref 177), some (.int i), some (.int k), u6], [.int (i + 1), .ref ie_S, .ref 134], h1)) rfl ?_
  refine go_sald rfl hi1 e1 ?_
  refine go_run 0 (F' := (563, [some (.ref ie_S), some (.ref 0), some (.ref 134), some (.ref 177), some (.int i), some (.int k), u6], [.int a1, .ref 134], h1)) rfl ?_
  refine go_call rfl (by simp only [ie_step, ie_iv, List.drop, m1, if_true]; rfl) ⟨rfl, Nat.le_of_ble_eq_true rfl⟩ c2 ?_
  refine go_run 0 (F' := (566, [some (.ref ie_S), some (.ref 0), some (.ref 134), some (.ref 177), some (.int i), some (.int k), u6], [.int b], h2)) rfl ?_
  refine go_run 2 (F' := (569, [some (.ref ie_S), some (.ref 0), some (.ref 134), some (.ref 177), some (.int i), some (.int k), some (.int b)], [.ref 134], h2)) rfl ?_
  refine go_call rfl (by simp only [ie_step, ie_iv, List.drop, m2, if_true]; rfl) ⟨rfl, Nat.le_of_ble_eq_true rfl⟩ (go_thrown m2 t2) ?_
  refine go_run 0 (F' := (572, [some (.ref ie_S), some (.ref 0), some (.ref 134), some (.ref 177), some (.int i), some (.int k), some (.int b)], [.int k], h2)) rfl ?_
  refine go_run 1 (F' := (574, [some (.ref ie_S), some (.ref 0), some (.ref 134), some (.ref 177), some (.int i), some (.int k), some (.int b)], [.int k, .int k], h2)) rfl ?_
  refine go_step rfl rfl ?_
  rw [if_pos rfl]
  refine go_run 0 (F' := (579, [some (.ref ie_S), some (.ref 0), some (.ref 134), some (.ref 177), some (.int i), some (.int k), some (.int b)], [], h2)) rfl ?_
  refine go_run 1 (F' := (581, [some (.ref ie_S), some (.ref 0), some (.ref 134), some (.ref 177), some (.int i), some (.int k), some (.int b)], [.int k], h2)) rfl ?_
  refine go_step rfl rfl ?_
  by_cases hk : k = 0
  · rw [if_pos hk]
    refine go_run 0 (F' := (584, [some (.ref ie_S), some (.ref 0), some (.ref 134), some (.ref 177), some (.int i), some (.int k), some (.int b)], [], h2)) rfl ?_
    refine go_run 2 (F' := (586, [some (.ref ie_S), some (.ref 0), some (.ref 134), some (.ref 177), some (.int i), some (.int k), some (.int b)], [.int 0, .ref 177], h2)) rfl ?_
    obtain ⟨f, hf, ef⟩ := ho hk
    refine go_lald rfl hf (by decide) ef ?_
    refine go_run 0 (F' := (587, [some (.ref ie_S), some (.ref 0), some (.ref 134), some (.ref 177), some (.int i), some (.int k), some (.int b)], [.long (Int32.toInt64 b)], h2)) rfl ?_
    refine go_run 2 (F' := (590, [some (.ref ie_S), some (.ref 0), some (.ref 134), some (.ref 177), some (.int i), some (.int k), some (.int b)], [.long (Int32.toInt64 b), .long (Int32.toInt64 b)], h2)) rfl ?_
    refine go_run 1 (F' := (591, [some (.ref ie_S), some (.ref 0), some (.ref 134), some (.ref 177), some (.int i), some (.int k), some (.int b)], [.int (lg_cmp (Int32.toInt64 b) (Int32.toInt64 b))], h2)) rfl ?_
    rw [show lg_cmp (Int32.toInt64 b) (Int32.toInt64 b) = 0 from (lg_cmp_eq _ _).mpr rfl]
    refine go_run 2 (F' := (1150, [some (.ref ie_S), some (.ref 0), some (.ref 134), some (.ref 177), some (.int i), some (.int k), some (.int b)], [], h2)) rfl ?_
    exact kk
  · rw [if_neg hk]
    refine go_run 1 (F' := (1150, [some (.ref ie_S), some (.ref 0), some (.ref 134), some (.ref 177), some (.int i), some (.int k), some (.int b)], [], h2)) rfl ?_
    exact kk
set_option maxRecDepth 100000 in
theorem lw_op10 {X : ie_X} {d : Nat} {i a0 a1 a2 k b : Int32} {u5 u6 : Option Value} {o : ie_O} {h h1 h2 h9 : ie_H} {fs1 fs2 : List Value} (hop : a0 &&& 31 = 10) (hi0 : 0 ≤ i.toInt ∧ i.toInt < (X.1 : Int)) (e0 : X.2 i.toNatClampNeg = a0) (hi1 : 0 ≤ (i + 1).toInt ∧ (i + 1).toInt < (X.1 : Int)) (e1 : X.2 (i + 1).toNatClampNeg = a1) (hi2 : 0 ≤ (i + 2).toInt ∧ (i + 2).toInt < (X.1 : Int)) (e2 : X.2 (i + 2).toNatClampNeg = a2) (c1 : Go X d 112 (0, ie_en 112 [.ref 0, .int a1, .int a2, .ref 177], [], h) (.inl (some (.int k))) h1) (c2 : Go X d 209 (0, ie_en 209 [.ref 134, .int a1, .int a2], [], h1) (.inl (some (.int b))) h2) (m1 : h1[134]? = some (.inr (10, fs1))) (m2 : h2[134]? = some (.inr (10, fs2))) (t2 : fs2[0]? = some (.int k)) (ho : k = 0 → ∃ f : Nat → Int64, h2[177]? = some (.inl (3, 1, .inr (.inl f))) ∧ f 0 = Int32.toInt64 b) (kk : Go X (d + 1) 222 (1150, [some (.ref ie_S), some (.ref 0), some (.ref 134), some (.ref 177), some (.int i), some (.int k), some (.int b)], [], h2) o h9) : Go X (d + 1) 222 (32, [some (.ref ie_S), some (.ref 0), some (.ref 134), some (.ref 177), some (.int i), u5, u6], [], h) o h9 := by
  refine go_run 2 (F' := (35, [some (.ref ie_S), some (.ref 0), some (.ref 134), some (.ref 177), some (.int i), u5, u6], [.int i, .ref ie_S], h)) rfl ?_
  refine go_sald rfl hi0 e0 ?_
  refine go_run 0 (F' := (36, [some (.ref ie_S), some (.ref 0), some (.ref 134), some (.ref 177), some (.int i), u5, u6], [.int a0], h)) rfl ?_
  refine go_run 2 (F' := (39, [some (.ref ie_S), some (.ref 0), some (.ref 134), some (.ref 177), some (.int i), u5, u6], [.int (a0 &&& 31)], h)) rfl ?_
  rw [hop]
  refine go_run 1 (F' := (599, [some (.ref ie_S), some (.ref 0), some (.ref 134), some (.ref 177), some (.int i), u5, u6], [], h)) rfl ?_
  refine go_run 5 (F' := (605, [some (.ref ie_S), some (.ref 0), some (.ref 134), some (.ref 177), some (.int i), u5, u6], [.int (i + 1), .ref ie_S, .ref 0], h)) rfl ?_
  refine go_sald rfl hi1 e1 ?_
  refine go_run 0 (F' := (606, [some (.ref ie_S), some (.ref 0), some (.ref 134), some (.ref 177), some (.int i), u5, u6], [.int a1, .ref 0], h)) rfl ?_
  refine go_run 4 (F' := (611, [some (.ref ie_S), some (.ref 0), some (.ref 134), some (.ref 177), some (.int i), u5, u6], [.int (i + 2), .ref ie_S, .int a1, .ref 0], h)) rfl ?_
  refine go_sald rfl hi2 e2 ?_
  refine go_run 0 (F' := (612, [some (.ref ie_S), some (.ref 0), some (.ref 134), some (.ref 177), some (.int i), u5, u6], [.int a2, .int a1, .ref 0], h)) rfl ?_
  refine go_run 1 (F' := (613, [some (.ref ie_S), some (.ref 0), some (.ref 134), some (.ref 177), some (.int i), u5, u6], [.ref 177, .int a2, .int a1, .ref 0], h)) rfl ?_
  refine go_call rfl rfl ⟨rfl, Nat.le_of_ble_eq_true rfl⟩ c1 ?_
  refine go_run 0 (F' := (616, [some (.ref ie_S), some (.ref 0), some (.ref 134), some (.ref 177), some (.int i), u5, u6], [.int k], h1)) rfl ?_
  refine go_run 6 (F' := (624, [some (.ref ie_S), some (.ref 0), some (.ref 134), some (.ref 177), some (.int i), some (.int k), u6], [.int (i + 1), .ref ie_S, .ref 134], h1)) rfl ?_
  refine go_sald rfl hi1 e1 ?_
  refine go_run 0 (F' := (625, [some (.ref ie_S), some (.ref 0), some (.ref 134), some (.ref 177), some (.int i), some (.int k), u6], [.int a1, .ref 134], h1)) rfl ?_
  refine go_run 4 (F' := (630, [some (.ref ie_S), some (.ref 0), some (.ref 134), some (.ref 177), some (.int i), some (.int k), u6], [.int (i + 2), .ref ie_S, .int a1, .ref 134], h1)) rfl ?_
  refine go_sald rfl hi2 e2 ?_
  refine go_run 0 (F' := (631, [some (.ref ie_S), some (.ref 0), some (.ref 134), some (.ref 177), some (.int i), some (.int k), u6], [.int a2, .int a1, .ref 134], h1)) rfl ?_
  refine go_call rfl (by simp only [ie_step, ie_iv, List.drop, m1, if_true]; rfl) ⟨rfl, Nat.le_of_ble_eq_true rfl⟩ c2 ?_
  refine go_run 0 (F' := (634, [some (.ref ie_S), some (.ref 0), some (.ref 134), some (.ref 177), some (.int i), some (.int k), u6], [.int b], h2)) rfl ?_
  refine go_run 2 (F' := (637, [some (.ref ie_S), some (.ref 0), some (.ref 134), some (.ref 177), some (.int i), some (.int k), some (.int b)], [.ref 134], h2)) rfl ?_
  refine go_call rfl (by simp only [ie_step, ie_iv, List.drop, m2, if_true]; rfl) ⟨rfl, Nat.le_of_ble_eq_true rfl⟩ (go_thrown m2 t2) ?_
  refine go_run 0 (F' := (640, [some (.ref ie_S), some (.ref 0), some (.ref 134), some (.ref 177), some (.int i), some (.int k), some (.int b)], [.int k], h2)) rfl ?_
  refine go_run 1 (F' := (642, [some (.ref ie_S), some (.ref 0), some (.ref 134), some (.ref 177), some (.int i), some (.int k), some (.int b)], [.int k, .int k], h2)) rfl ?_
  refine go_step rfl rfl ?_
  rw [if_pos rfl]
  refine go_run 0 (F' := (647, [some (.ref ie_S), some (.ref 0), some (.ref 134), some (.ref 177), some (.int i), some (.int k), some (.int b)], [], h2)) rfl ?_
  refine go_run 1 (F' := (649, [some (.ref ie_S), some (.ref 0), some (.ref 134), some (.ref 177), some (.int i), some (.int k), some (.int b)], [.int k], h2)) rfl ?_
  refine go_step rfl rfl ?_
  by_cases hk : k = 0
  · rw [if_pos hk]
    refine go_run 0 (F' := (652, [some (.ref ie_S), some (.ref 0), some (.ref 134), some (.ref 177), some (.int i), some (.int k), some (.int b)], [], h2)) rfl ?_
    refine go_run 2 (F' := (654, [some (.ref ie_S), some (.ref 0), some (.ref 134), some (.ref 177), some (.int i), some (.int k), some (.int b)], [.int 0, .ref 177], h2)) rfl ?_
    obtain ⟨f, hf, ef⟩ := ho hk
    refine go_lald rfl hf (by decide) ef ?_
    refine go_run 0 (F' := (655, [some (.ref ie_S), some (.ref 0), some (.ref 134), some (.ref 177), some (.int i), some (.int k), some (.int b)], [.long (Int32.toInt64 b)], h2)) rfl ?_
    refine go_run 2 (F' := (658, [some (.ref ie_S), some (.ref 0), some (.ref 134), some (.ref 177), some (.int i), some (.int k), some (.int b)], [.long (Int32.toInt64 b), .long (Int32.toInt64 b)], h2)) rfl ?_
    refine go_run 1 (F' := (659, [some (.ref ie_S), some (.ref 0), some (.ref 134), some (.ref 177), some (.int i), some (.int k), some (.int b)], [.int (lg_cmp (Int32.toInt64 b) (Int32.toInt64 b))], h2)) rfl ?_
    rw [show lg_cmp (Int32.toInt64 b) (Int32.toInt64 b) = 0 from (lg_cmp_eq _ _).mpr rfl]
    refine go_run 2 (F' := (1150, [some (.ref ie_S), some (.ref 0), some (.ref 134), some (.ref 177), some (.int i), some (.int k), some (.int b)], [], h2)) rfl ?_
    exact kk
  · rw [if_neg hk]
    refine go_run 1 (F' := (1150, [some (.ref ie_S), some (.ref 0), some (.ref 134), some (.ref 177), some (.int i), some (.int k), some (.int b)], [], h2)) rfl ?_
    exact kk
set_option maxRecDepth 100000 in
theorem lw_op11 {X : ie_X} {d : Nat} {i a0 a1 k b : Int32} {u5 u6 : Option Value} {o : ie_O} {h h1 h2 h9 : ie_H} {fs1 fs2 : List Value} (hop : a0 &&& 31 = 11) (hi0 : 0 ≤ i.toInt ∧ i.toInt < (X.1 : Int)) (e0 : X.2 i.toNatClampNeg = a0) (hi1 : 0 ≤ (i + 1).toInt ∧ (i + 1).toInt < (X.1 : Int)) (e1 : X.2 (i + 1).toNatClampNeg = a1) (c1 : Go X d 114 (0, ie_en 114 [.ref 0, .int a1, .ref 177], [], h) (.inl (some (.int k))) h1) (c2 : Go X d 210 (0, ie_en 210 [.ref 134, .int a1], [], h1) (.inl (some (.int b))) h2) (m1 : h1[134]? = some (.inr (10, fs1))) (m2 : h2[134]? = some (.inr (10, fs2))) (t2 : fs2[0]? = some (.int k)) (ho : k = 0 → ∃ f : Nat → Int64, h2[177]? = some (.inl (3, 1, .inr (.inl f))) ∧ f 0 = Int32.toInt64 b) (kk : Go X (d + 1) 222 (1150, [some (.ref ie_S), some (.ref 0), some (.ref 134), some (.ref 177), some (.int i), some (.int k), some (.int b)], [], h2) o h9) : Go X (d + 1) 222 (32, [some (.ref ie_S), some (.ref 0), some (.ref 134), some (.ref 177), some (.int i), u5, u6], [], h) o h9 := by
  refine go_run 2 (F' := (35, [some (.ref ie_S), some (.ref 0), some (.ref 134), some (.ref 177), some (.int i), u5, u6], [.int i, .ref ie_S], h)) rfl ?_
  refine go_sald rfl hi0 e0 ?_
  refine go_run 0 (F' := (36, [some (.ref ie_S), some (.ref 0), some (.ref 134), some (.ref 177), some (.int i), u5, u6], [.int a0], h)) rfl ?_
  refine go_run 2 (F' := (39, [some (.ref ie_S), some (.ref 0), some (.ref 134), some (.ref 177), some (.int i), u5, u6], [.int (a0 &&& 31)], h)) rfl ?_
  rw [hop]
  refine go_run 1 (F' := (667, [some (.ref ie_S), some (.ref 0), some (.ref 134), some (.ref 177), some (.int i), u5, u6], [], h)) rfl ?_
  refine go_run 5 (F' := (673, [some (.ref ie_S), some (.ref 0), some (.ref 134), some (.ref 177), some (.int i), u5, u6], [.int (i + 1), .ref ie_S, .ref 0], h)) rfl ?_
  refine go_sald rfl hi1 e1 ?_
  refine go_run 0 (F' := (674, [some (.ref ie_S), some (.ref 0), some (.ref 134), some (.ref 177), some (.int i), u5, u6], [.int a1, .ref 0], h)) rfl ?_
  refine go_run 1 (F' := (675, [some (.ref ie_S), some (.ref 0), some (.ref 134), some (.ref 177), some (.int i), u5, u6], [.ref 177, .int a1, .ref 0], h)) rfl ?_
  refine go_call rfl rfl ⟨rfl, Nat.le_of_ble_eq_true rfl⟩ c1 ?_
  refine go_run 0 (F' := (678, [some (.ref ie_S), some (.ref 0), some (.ref 134), some (.ref 177), some (.int i), u5, u6], [.int k], h1)) rfl ?_
  refine go_run 6 (F' := (686, [some (.ref ie_S), some (.ref 0), some (.ref 134), some (.ref 177), some (.int i), some (.int k), u6], [.int (i + 1), .ref ie_S, .ref 134], h1)) rfl ?_
  refine go_sald rfl hi1 e1 ?_
  refine go_run 0 (F' := (687, [some (.ref ie_S), some (.ref 0), some (.ref 134), some (.ref 177), some (.int i), some (.int k), u6], [.int a1, .ref 134], h1)) rfl ?_
  refine go_call rfl (by simp only [ie_step, ie_iv, List.drop, m1, if_true]; rfl) ⟨rfl, Nat.le_of_ble_eq_true rfl⟩ c2 ?_
  refine go_run 0 (F' := (690, [some (.ref ie_S), some (.ref 0), some (.ref 134), some (.ref 177), some (.int i), some (.int k), u6], [.int b], h2)) rfl ?_
  refine go_run 2 (F' := (693, [some (.ref ie_S), some (.ref 0), some (.ref 134), some (.ref 177), some (.int i), some (.int k), some (.int b)], [.ref 134], h2)) rfl ?_
  refine go_call rfl (by simp only [ie_step, ie_iv, List.drop, m2, if_true]; rfl) ⟨rfl, Nat.le_of_ble_eq_true rfl⟩ (go_thrown m2 t2) ?_
  refine go_run 0 (F' := (696, [some (.ref ie_S), some (.ref 0), some (.ref 134), some (.ref 177), some (.int i), some (.int k), some (.int b)], [.int k], h2)) rfl ?_
  refine go_run 1 (F' := (698, [some (.ref ie_S), some (.ref 0), some (.ref 134), some (.ref 177), some (.int i), some (.int k), some (.int b)], [.int k, .int k], h2)) rfl ?_
  refine go_step rfl rfl ?_
  rw [if_pos rfl]
  refine go_run 0 (F' := (703, [some (.ref ie_S), some (.ref 0), some (.ref 134), some (.ref 177), some (.int i), some (.int k), some (.int b)], [], h2)) rfl ?_
  refine go_run 1 (F' := (705, [some (.ref ie_S), some (.ref 0), some (.ref 134), some (.ref 177), some (.int i), some (.int k), some (.int b)], [.int k], h2)) rfl ?_
  refine go_step rfl rfl ?_
  by_cases hk : k = 0
  · rw [if_pos hk]
    refine go_run 0 (F' := (708, [some (.ref ie_S), some (.ref 0), some (.ref 134), some (.ref 177), some (.int i), some (.int k), some (.int b)], [], h2)) rfl ?_
    refine go_run 2 (F' := (710, [some (.ref ie_S), some (.ref 0), some (.ref 134), some (.ref 177), some (.int i), some (.int k), some (.int b)], [.int 0, .ref 177], h2)) rfl ?_
    obtain ⟨f, hf, ef⟩ := ho hk
    refine go_lald rfl hf (by decide) ef ?_
    refine go_run 0 (F' := (711, [some (.ref ie_S), some (.ref 0), some (.ref 134), some (.ref 177), some (.int i), some (.int k), some (.int b)], [.long (Int32.toInt64 b)], h2)) rfl ?_
    refine go_run 2 (F' := (714, [some (.ref ie_S), some (.ref 0), some (.ref 134), some (.ref 177), some (.int i), some (.int k), some (.int b)], [.long (Int32.toInt64 b), .long (Int32.toInt64 b)], h2)) rfl ?_
    refine go_run 1 (F' := (715, [some (.ref ie_S), some (.ref 0), some (.ref 134), some (.ref 177), some (.int i), some (.int k), some (.int b)], [.int (lg_cmp (Int32.toInt64 b) (Int32.toInt64 b))], h2)) rfl ?_
    rw [show lg_cmp (Int32.toInt64 b) (Int32.toInt64 b) = 0 from (lg_cmp_eq _ _).mpr rfl]
    refine go_run 2 (F' := (1150, [some (.ref ie_S), some (.ref 0), some (.ref 134), some (.ref 177), some (.int i), some (.int k), some (.int b)], [], h2)) rfl ?_
    exact kk
  · rw [if_neg hk]
    refine go_run 1 (F' := (1150, [some (.ref ie_S), some (.ref 0), some (.ref 134), some (.ref 177), some (.int i), some (.int k), some (.int b)], [], h2)) rfl ?_
    exact kk
set_option maxRecDepth 100000 in
theorem lw_op12 {X : ie_X} {d : Nat} {i a0 a1 a2 k b : Int32} {u5 u6 : Option Value} {o : ie_O} {h h1 h2 h9 : ie_H} {fs1 fs2 : List Value} (hop : a0 &&& 31 = 12) (hi0 : 0 ≤ i.toInt ∧ i.toInt < (X.1 : Int)) (e0 : X.2 i.toNatClampNeg = a0) (hi1 : 0 ≤ (i + 1).toInt ∧ (i + 1).toInt < (X.1 : Int)) (e1 : X.2 (i + 1).toNatClampNeg = a1) (hi2 : 0 ≤ (i + 2).toInt ∧ (i + 2).toInt < (X.1 : Int)) (e2 : X.2 (i + 2).toNatClampNeg = a2) (c1 : Go X d 116 (0, ie_en 116 [.ref 0, .int a1, .int a2, .ref 177], [], h) (.inl (some (.int k))) h1) (c2 : Go X d 211 (0, ie_en 211 [.ref 134, .int a1, .int a2], [], h1) (.inl (some (.int b))) h2) (m1 : h1[134]? = some (.inr (10, fs1))) (m2 : h2[134]? = some (.inr (10, fs2))) (t2 : fs2[0]? = some (.int k)) (ho : k = 0 → ∃ f : Nat → Int64, h2[177]? = some (.inl (3, 1, .inr (.inl f))) ∧ f 0 = Int32.toInt64 b) (kk : Go X (d + 1) 222 (1150, [some (.ref ie_S), some (.ref 0), some (.ref 134), some (.ref 177), some (.int i), some (.int k), some (.int b)], [], h2) o h9) : Go X (d + 1) 222 (32, [some (.ref ie_S), some (.ref 0), some (.ref 134), some (.ref 177), some (.int i), u5, u6], [], h) o h9 := by
  refine go_run 2 (F' := (35, [some (.ref ie_S), some (.ref 0), some (.ref 134), some (.ref 177), some (.int i), u5, u6], [.int i, .ref ie_S], h)) rfl ?_
  refine go_sald rfl hi0 e0 ?_
  refine go_run 0 (F' := (36, [some (.ref ie_S), some (.ref 0), some (.ref 134), some (.ref 177), some (.int i), u5, u6], [.int a0], h)) rfl ?_
  refine go_run 2 (F' := (39, [some (.ref ie_S), some (.ref 0), some (.ref 134), some (.ref 177), some (.int i), u5, u6], [.int (a0 &&& 31)], h)) rfl ?_
  rw [hop]
  refine go_run 1 (F' := (723, [some (.ref ie_S), some (.ref 0), some (.ref 134), some (.ref 177), some (.int i), u5, u6], [], h)) rfl ?_
  refine go_run 5 (F' := (729, [some (.ref ie_S), some (.ref 0), some (.ref 134), some (.ref 177), some (.int i), u5, u6], [.int (i + 1), .ref ie_S, .ref 0], h)) rfl ?_
  refine go_sald rfl hi1 e1 ?_
  refine go_run 0 (F' := (730, [some (.ref ie_S), some (.ref 0), some (.ref 134), some (.ref 177), some (.int i), u5, u6], [.int a1, .ref 0], h)) rfl ?_
  refine go_run 4 (F' := (735, [some (.ref ie_S), some (.ref 0), some (.ref 134), some (.ref 177), some (.int i), u5, u6], [.int (i + 2), .ref ie_S, .int a1, .ref 0], h)) rfl ?_
  refine go_sald rfl hi2 e2 ?_
  refine go_run 0 (F' := (736, [some (.ref ie_S), some (.ref 0), some (.ref 134), some (.ref 177), some (.int i), u5, u6], [.int a2, .int a1, .ref 0], h)) rfl ?_
  refine go_run 1 (F' := (737, [some (.ref ie_S), some (.ref 0), some (.ref 134), some (.ref 177), some (.int i), u5, u6], [.ref 177, .int a2, .int a1, .ref 0], h)) rfl ?_
  refine go_call rfl rfl ⟨rfl, Nat.le_of_ble_eq_true rfl⟩ c1 ?_
  refine go_run 0 (F' := (740, [some (.ref ie_S), some (.ref 0), some (.ref 134), some (.ref 177), some (.int i), u5, u6], [.int k], h1)) rfl ?_
  refine go_run 6 (F' := (748, [some (.ref ie_S), some (.ref 0), some (.ref 134), some (.ref 177), some (.int i), some (.int k), u6], [.int (i + 1), .ref ie_S, .ref 134], h1)) rfl ?_
  refine go_sald rfl hi1 e1 ?_
  refine go_run 0 (F' := (749, [some (.ref ie_S), some (.ref 0), some (.ref 134), some (.ref 177), some (.int i), some (.int k), u6], [.int a1, .ref 134], h1)) rfl ?_
  refine go_run 4 (F' := (754, [some (.ref ie_S), some (.ref 0), some (.ref 134), some (.ref 177), some (.int i), some (.int k), u6], [.int (i + 2), .ref ie_S, .int a1, .ref 134], h1)) rfl ?_
  refine go_sald rfl hi2 e2 ?_
  refine go_run 0 (F' := (755, [some (.ref ie_S), some (.ref 0), some (.ref 134), some (.ref 177), some (.int i), some (.int k), u6], [.int a2, .int a1, .ref 134], h1)) rfl ?_
  refine go_call rfl (by simp only [ie_step, ie_iv, List.drop, m1, if_true]; rfl) ⟨rfl, Nat.le_of_ble_eq_true rfl⟩ c2 ?_
  refine go_run 0 (F' := (758, [some (.ref ie_S), some (.ref 0), some (.ref 134), some (.ref 177), some (.int i), some (.int k), u6], [.int b], h2)) rfl ?_
  refine go_run 2 (F' := (761, [some (.ref ie_S), some (.ref 0), some (.ref 134), some (.ref 177), some (.int i), some (.int k), some (.int b)], [.ref 134], h2)) rfl ?_
  refine go_call rfl (by simp only [ie_step, ie_iv, List.drop, m2, if_true]; rfl) ⟨rfl, Nat.le_of_ble_eq_true rfl⟩ (go_thrown m2 t2) ?_
  refine go_run 0 (F' := (764, [some (.ref ie_S), some (.ref 0), some (.ref 134), some (.ref 177), some (.int i), some (.int k), some (.int b)], [.int k], h2)) rfl ?_
  refine go_run 1 (F' := (766, [some (.ref ie_S), some (.ref 0), some (.ref 134), some (.ref 177), some (.int i), some (.int k), some (.int b)], [.int k, .int k], h2)) rfl ?_
  refine go_step rfl rfl ?_
  rw [if_pos rfl]
  refine go_run 0 (F' := (771, [some (.ref ie_S), some (.ref 0), some (.ref 134), some (.ref 177), some (.int i), some (.int k), some (.int b)], [], h2)) rfl ?_
  refine go_run 1 (F' := (773, [some (.ref ie_S), some (.ref 0), some (.ref 134), some (.ref 177), some (.int i), some (.int k), some (.int b)], [.int k], h2)) rfl ?_
  refine go_step rfl rfl ?_
  by_cases hk : k = 0
  · rw [if_pos hk]
    refine go_run 0 (F' := (776, [some (.ref ie_S), some (.ref 0), some (.ref 134), some (.ref 177), some (.int i), some (.int k), some (.int b)], [], h2)) rfl ?_
    refine go_run 2 (F' := (778, [some (.ref ie_S), some (.ref 0), some (.ref 134), some (.ref 177), some (.int i), some (.int k), some (.int b)], [.int 0, .ref 177], h2)) rfl ?_
    obtain ⟨f, hf, ef⟩ := ho hk
    refine go_lald rfl hf (by decide) ef ?_
    refine go_run 0 (F' := (779, [some (.ref ie_S), some (.ref 0), some (.ref 134), some (.ref 177), some (.int i), some (.int k), some (.int b)], [.long (Int32.toInt64 b)], h2)) rfl ?_
    refine go_run 2 (F' := (782, [some (.ref ie_S), some (.ref 0), some (.ref 134), some (.ref 177), some (.int i), some (.int k), some (.int b)], [.long (Int32.toInt64 b), .long (Int32.toInt64 b)], h2)) rfl ?_
    refine go_run 1 (F' := (783, [some (.ref ie_S), some (.ref 0), some (.ref 134), some (.ref 177), some (.int i), some (.int k), some (.int b)], [.int (lg_cmp (Int32.toInt64 b) (Int32.toInt64 b))], h2)) rfl ?_
    rw [show lg_cmp (Int32.toInt64 b) (Int32.toInt64 b) = 0 from (lg_cmp_eq _ _).mpr rfl]
    refine go_run 2 (F' := (1150, [some (.ref ie_S), some (.ref 0), some (.ref 134), some (.ref 177), some (.int i), some (.int k), some (.int b)], [], h2)) rfl ?_
    exact kk
  · rw [if_neg hk]
    refine go_run 1 (F' := (1150, [some (.ref ie_S), some (.ref 0), some (.ref 134), some (.ref 177), some (.int i), some (.int k), some (.int b)], [], h2)) rfl ?_
    exact kk
set_option maxRecDepth 100000 in
theorem lw_op13 {X : ie_X} {d : Nat} {i a0 a1 a2 k b : Int32} {u5 u6 : Option Value} {o : ie_O} {h h1 h2 h9 : ie_H} {fs1 fs2 : List Value} (hop : a0 &&& 31 = 13) (hi0 : 0 ≤ i.toInt ∧ i.toInt < (X.1 : Int)) (e0 : X.2 i.toNatClampNeg = a0) (hi1 : 0 ≤ (i + 1).toInt ∧ (i + 1).toInt < (X.1 : Int)) (e1 : X.2 (i + 1).toNatClampNeg = a1) (hi2 : 0 ≤ (i + 2).toInt ∧ (i + 2).toInt < (X.1 : Int)) (e2 : X.2 (i + 2).toNatClampNeg = a2) (c1 : Go X d 118 (0, ie_en 118 [.ref 0, .int a1, .int a2, .ref 177], [], h) (.inl (some (.int k))) h1) (c2 : Go X d 212 (0, ie_en 212 [.ref 134, .int a1, .int a2], [], h1) (.inl (some (.int b))) h2) (m1 : h1[134]? = some (.inr (10, fs1))) (m2 : h2[134]? = some (.inr (10, fs2))) (t2 : fs2[0]? = some (.int k)) (ho : k = 0 → ∃ f : Nat → Int64, h2[177]? = some (.inl (3, 1, .inr (.inl f))) ∧ f 0 = Int32.toInt64 b) (kk : Go X (d + 1) 222 (1150, [some (.ref ie_S), some (.ref 0), some (.ref 134), some (.ref 177), some (.int i), some (.int k), some (.int b)], [], h2) o h9) : Go X (d + 1) 222 (32, [some (.ref ie_S), some (.ref 0), some (.ref 134), some (.ref 177), some (.int i), u5, u6], [], h) o h9 := by
  refine go_run 2 (F' := (35, [some (.ref ie_S), some (.ref 0), some (.ref 134), some (.ref 177), some (.int i), u5, u6], [.int i, .ref ie_S], h)) rfl ?_
  refine go_sald rfl hi0 e0 ?_
  refine go_run 0 (F' := (36, [some (.ref ie_S), some (.ref 0), some (.ref 134), some (.ref 177), some (.int i), u5, u6], [.int a0], h)) rfl ?_
  refine go_run 2 (F' := (39, [some (.ref ie_S), some (.ref 0), some (.ref 134), some (.ref 177), some (.int i), u5, u6], [.int (a0 &&& 31)], h)) rfl ?_
  rw [hop]
  refine go_run 1 (F' := (791, [some (.ref ie_S), some (.ref 0), some (.ref 134), some (.ref 177), some (.int i), u5, u6], [], h)) rfl ?_
  refine go_run 5 (F' := (797, [some (.ref ie_S), some (.ref 0), some (.ref 134), some (.ref 177), some (.int i), u5, u6], [.int (i + 1), .ref ie_S, .ref 0], h)) rfl ?_
  refine go_sald rfl hi1 e1 ?_
  refine go_run 0 (F' := (798, [some (.ref ie_S), some (.ref 0), some (.ref 134), some (.ref 177), some (.int i), u5, u6], [.int a1, .ref 0], h)) rfl ?_
  refine go_run 4 (F' := (803, [some (.ref ie_S), some (.ref 0), some (.ref 134), some (.ref 177), some (.int i), u5, u6], [.int (i + 2), .ref ie_S, .int a1, .ref 0], h)) rfl ?_
  refine go_sald rfl hi2 e2 ?_
  refine go_run 0 (F' := (804, [some (.ref ie_S), some (.ref 0), some (.ref 134), some (.ref 177), some (.int i), u5, u6], [.int a2, .int a1, .ref 0], h)) rfl ?_
  refine go_run 1 (F' := (805, [some (.ref ie_S), some (.ref 0), some (.ref 134), some (.ref 177), some (.int i), u5, u6], [.ref 177, .int a2, .int a1, .ref 0], h)) rfl ?_
  refine go_call rfl rfl ⟨rfl, Nat.le_of_ble_eq_true rfl⟩ c1 ?_
  refine go_run 0 (F' := (808, [some (.ref ie_S), some (.ref 0), some (.ref 134), some (.ref 177), some (.int i), u5, u6], [.int k], h1)) rfl ?_
  refine go_run 6 (F' := (816, [some (.ref ie_S), some (.ref 0), some (.ref 134), some (.ref 177), some (.int i), some (.int k), u6], [.int (i + 1), .ref ie_S, .ref 134], h1)) rfl ?_
  refine go_sald rfl hi1 e1 ?_
  refine go_run 0 (F' := (817, [some (.ref ie_S), some (.ref 0), some (.ref 134), some (.ref 177), some (.int i), some (.int k), u6], [.int a1, .ref 134], h1)) rfl ?_
  refine go_run 4 (F' := (822, [some (.ref ie_S), some (.ref 0), some (.ref 134), some (.ref 177), some (.int i), some (.int k), u6], [.int (i + 2), .ref ie_S, .int a1, .ref 134], h1)) rfl ?_
  refine go_sald rfl hi2 e2 ?_
  refine go_run 0 (F' := (823, [some (.ref ie_S), some (.ref 0), some (.ref 134), some (.ref 177), some (.int i), some (.int k), u6], [.int a2, .int a1, .ref 134], h1)) rfl ?_
  refine go_call rfl (by simp only [ie_step, ie_iv, List.drop, m1, if_true]; rfl) ⟨rfl, Nat.le_of_ble_eq_true rfl⟩ c2 ?_
  refine go_run 0 (F' := (826, [some (.ref ie_S), some (.ref 0), some (.ref 134), some (.ref 177), some (.int i), some (.int k), u6], [.int b], h2)) rfl ?_
  refine go_run 2 (F' := (829, [some (.ref ie_S), some (.ref 0), some (.ref 134), some (.ref 177), some (.int i), some (.int k), some (.int b)], [.ref 134], h2)) rfl ?_
  refine go_call rfl (by simp only [ie_step, ie_iv, List.drop, m2, if_true]; rfl) ⟨rfl, Nat.le_of_ble_eq_true rfl⟩ (go_thrown m2 t2) ?_
  refine go_run 0 (F' := (832, [some (.ref ie_S), some (.ref 0), some (.ref 134), some (.ref 177), some (.int i), some (.int k), some (.int b)], [.int k], h2)) rfl ?_
  refine go_run 1 (F' := (834, [some (.ref ie_S), some (.ref 0), some (.ref 134), some (.ref 177), some (.int i), some (.int k), some (.int b)], [.int k, .int k], h2)) rfl ?_
  refine go_step rfl rfl ?_
  rw [if_pos rfl]
  refine go_run 0 (F' := (839, [some (.ref ie_S), some (.ref 0), some (.ref 134), some (.ref 177), some (.int i), some (.int k), some (.int b)], [], h2)) rfl ?_
  refine go_run 1 (F' := (841, [some (.ref ie_S), some (.ref 0), some (.ref 134), some (.ref 177), some (.int i), some (.int k), some (.int b)], [.int k], h2)) rfl ?_
  refine go_step rfl rfl ?_
  by_cases hk : k = 0
  · rw [if_pos hk]
    refine go_run 0 (F' := (844, [some (.ref ie_S), some (.ref 0), some (.ref 134), some (.ref 177), some (.int i), some (.int k), some (.int b)], [], h2)) rfl ?_
    refine go_run 2 (F' := (846, [some (.ref ie_S), some (.ref 0), some (.ref 134), some (.ref 177), some (.int i), some (.int k), some (.int b)], [.int 0, .ref 177], h2)) rfl ?_
    obtain ⟨f, hf, ef⟩ := ho hk
    refine go_lald rfl hf (by decide) ef ?_
    refine go_run 0 (F' := (847, [some (.ref ie_S), some (.ref 0), some (.ref 134), some (.ref 177), some (.int i), some (.int k), some (.int b)], [.long (Int32.toInt64 b)], h2)) rfl ?_
    refine go_run 2 (F' := (850, [some (.ref ie_S), some (.ref 0), some (.ref 134), some (.ref 177), some (.int i), some (.int k), some (.int b)], [.long (Int32.toInt64 b), .long (Int32.toInt64 b)], h2)) rfl ?_
    refine go_run 1 (F' := (851, [some (.ref ie_S), some (.ref 0), some (.ref 134), some (.ref 177), some (.int i), some (.int k), some (.int b)], [.int (lg_cmp (Int32.toInt64 b) (Int32.toInt64 b))], h2)) rfl ?_
    rw [show lg_cmp (Int32.toInt64 b) (Int32.toInt64 b) = 0 from (lg_cmp_eq _ _).mpr rfl]
    refine go_run 2 (F' := (1150, [some (.ref ie_S), some (.ref 0), some (.ref 134), some (.ref 177), some (.int i), some (.int k), some (.int b)], [], h2)) rfl ?_
    exact kk
  · rw [if_neg hk]
    refine go_run 1 (F' := (1150, [some (.ref ie_S), some (.ref 0), some (.ref 134), some (.ref 177), some (.int i), some (.int k), some (.int b)], [], h2)) rfl ?_
    exact kk
set_option maxRecDepth 100000 in
theorem lw_op14 {X : ie_X} {d : Nat} {i a0 a1 a2 a3 k b : Int32} {u5 u6 : Option Value} {o : ie_O} {h h1 h2 h9 : ie_H} {fs1 fs2 : List Value} (hop : a0 &&& 31 = 14) (hi0 : 0 ≤ i.toInt ∧ i.toInt < (X.1 : Int)) (e0 : X.2 i.toNatClampNeg = a0) (hi1 : 0 ≤ (i + 1).toInt ∧ (i + 1).toInt < (X.1 : Int)) (e1 : X.2 (i + 1).toNatClampNeg = a1) (hi2 : 0 ≤ (i + 2).toInt ∧ (i + 2).toInt < (X.1 : Int)) (e2 : X.2 (i + 2).toNatClampNeg = a2) (hi3 : 0 ≤ (i + 3).toInt ∧ (i + 3).toInt < (X.1 : Int)) (e3 : X.2 (i + 3).toNatClampNeg = a3) (c1 : Go X d 121 (0, ie_en 121 [.ref 0, .int a1, .int a2, .int a3, .ref 177], [], h) (.inl (some (.int k))) h1) (c2 : Go X d 214 (0, ie_en 214 [.ref 134, .int a1, .int a2, .int a3], [], h1) (.inl (some (.int b))) h2) (m1 : h1[134]? = some (.inr (10, fs1))) (m2 : h2[134]? = some (.inr (10, fs2))) (t2 : fs2[0]? = some (.int k)) (ho : k = 0 → ∃ f : Nat → Int64, h2[177]? = some (.inl (3, 1, .inr (.inl f))) ∧ f 0 = Int32.toInt64 b) (kk : Go X (d + 1) 222 (1150, [some (.ref ie_S), some (.ref 0), some (.ref 134), some (.ref 177), some (.int i), some (.int k), some (.int b)], [], h2) o h9) : Go X (d + 1) 222 (32, [some (.ref ie_S), some (.ref 0), some (.ref 134), some (.ref 177), some (.int i), u5, u6], [], h) o h9 := by
  refine go_run 2 (F' := (35, [some (.ref ie_S), some (.ref 0), some (.ref 134), some (.ref 177), some (.int i), u5, u6], [.int i, .ref ie_S], h)) rfl ?_
  refine go_sald rfl hi0 e0 ?_
  refine go_run 0 (F' := (36, [some (.ref ie_S), some (.ref 0), some (.ref 134), some (.ref 177), some (.int i), u5, u6], [.int a0], h)) rfl ?_
  refine go_run 2 (F' := (39, [some (.ref ie_S), some (.ref 0), some (.ref 134), some (.ref 177), some (.int i), u5, u6], [.int (a0 &&& 31)], h)) rfl ?_
  rw [hop]
  refine go_run 1 (F' := (859, [some (.ref ie_S), some (.ref 0), some (.ref 134), some (.ref 177), some (.int i), u5, u6], [], h)) rfl ?_
  refine go_run 5 (F' := (865, [some (.ref ie_S), some (.ref 0), some (.ref 134), some (.ref 177), some (.int i), u5, u6], [.int (i + 1), .ref ie_S, .ref 0], h)) rfl ?_
  refine go_sald rfl hi1 e1 ?_
  refine go_run 0 (F' := (866, [some (.ref ie_S), some (.ref 0), some (.ref 134), some (.ref 177), some (.int i), u5, u6], [.int a1, .ref 0], h)) rfl ?_
  refine go_run 4 (F' := (871, [some (.ref ie_S), some (.ref 0), some (.ref 134), some (.ref 177), some (.int i), u5, u6], [.int (i + 2), .ref ie_S, .int a1, .ref 0], h)) rfl ?_
  refine go_sald rfl hi2 e2 ?_
  refine go_run 0 (F' := (872, [some (.ref ie_S), some (.ref 0), some (.ref 134), some (.ref 177), some (.int i), u5, u6], [.int a2, .int a1, .ref 0], h)) rfl ?_
  refine go_run 4 (F' := (877, [some (.ref ie_S), some (.ref 0), some (.ref 134), some (.ref 177), some (.int i), u5, u6], [.int (i + 3), .ref ie_S, .int a2, .int a1, .ref 0], h)) rfl ?_
  refine go_sald rfl hi3 e3 ?_
  refine go_run 0 (F' := (878, [some (.ref ie_S), some (.ref 0), some (.ref 134), some (.ref 177), some (.int i), u5, u6], [.int a3, .int a2, .int a1, .ref 0], h)) rfl ?_
  refine go_run 1 (F' := (879, [some (.ref ie_S), some (.ref 0), some (.ref 134), some (.ref 177), some (.int i), u5, u6], [.ref 177, .int a3, .int a2, .int a1, .ref 0], h)) rfl ?_
  refine go_call rfl rfl ⟨rfl, Nat.le_of_ble_eq_true rfl⟩ c1 ?_
  refine go_run 0 (F' := (882, [some (.ref ie_S), some (.ref 0), some (.ref 134), some (.ref 177), some (.int i), u5, u6], [.int k], h1)) rfl ?_
  refine go_run 6 (F' := (890, [some (.ref ie_S), some (.ref 0), some (.ref 134), some (.ref 177), some (.int i), some (.int k), u6], [.int (i + 1), .ref ie_S, .ref 134], h1)) rfl ?_
  refine go_sald rfl hi1 e1 ?_
  refine go_run 0 (F' := (891, [some (.ref ie_S), some (.ref 0), some (.ref 134), some (.ref 177), some (.int i), some (.int k), u6], [.int a1, .ref 134], h1)) rfl ?_
  refine go_run 4 (F' := (896, [some (.ref ie_S), some (.ref 0), some (.ref 134), some (.ref 177), some (.int i), some (.int k), u6], [.int (i + 2), .ref ie_S, .int a1, .ref 134], h1)) rfl ?_
  refine go_sald rfl hi2 e2 ?_
  refine go_run 0 (F' := (897, [some (.ref ie_S), some (.ref 0), some (.ref 134), some (.ref 177), some (.int i), some (.int k), u6], [.int a2, .int a1, .ref 134], h1)) rfl ?_
  refine go_run 4 (F' := (902, [some (.ref ie_S), some (.ref 0), some (.ref 134), some (.ref 177), some (.int i), some (.int k), u6], [.int (i + 3), .ref ie_S, .int a2, .int a1, .ref 134], h1)) rfl ?_
  refine go_sald rfl hi3 e3 ?_
  refine go_run 0 (F' := (903, [some (.ref ie_S), some (.ref 0), some (.ref 134), some (.ref 177), some (.int i), some (.int k), u6], [.int a3, .int a2, .int a1, .ref 134], h1)) rfl ?_
  refine go_call rfl (by simp only [ie_step, ie_iv, List.drop, m1, if_true]; rfl) ⟨rfl, Nat.le_of_ble_eq_true rfl⟩ c2 ?_
  refine go_run 0 (F' := (906, [some (.ref ie_S), some (.ref 0), some (.ref 134), some (.ref 177), some (.int i), some (.int k), u6], [.int b], h2)) rfl ?_
  refine go_run 2 (F' := (909, [some (.ref ie_S), some (.ref 0), some (.ref 134), some (.ref 177), some (.int i), some (.int k), some (.int b)], [.ref 134], h2)) rfl ?_
  refine go_call rfl (by simp only [ie_step, ie_iv, List.drop, m2, if_true]; rfl) ⟨rfl, Nat.le_of_ble_eq_true rfl⟩ (go_thrown m2 t2) ?_
  refine go_run 0 (F' := (912, [some (.ref ie_S), some (.ref 0), some (.ref 134), some (.ref 177), some (.int i), some (.int k), some (.int b)], [.int k], h2)) rfl ?_
  refine go_run 1 (F' := (914, [some (.ref ie_S), some (.ref 0), some (.ref 134), some (.ref 177), some (.int i), some (.int k), some (.int b)], [.int k, .int k], h2)) rfl ?_
  refine go_step rfl rfl ?_
  rw [if_pos rfl]
  refine go_run 0 (F' := (919, [some (.ref ie_S), some (.ref 0), some (.ref 134), some (.ref 177), some (.int i), some (.int k), some (.int b)], [], h2)) rfl ?_
  refine go_run 1 (F' := (921, [some (.ref ie_S), some (.ref 0), some (.ref 134), some (.ref 177), some (.int i), some (.int k), some (.int b)], [.int k], h2)) rfl ?_
  refine go_step rfl rfl ?_
  by_cases hk : k = 0
  · rw [if_pos hk]
    refine go_run 0 (F' := (924, [some (.ref ie_S), some (.ref 0), some (.ref 134), some (.ref 177), some (.int i), some (.int k), some (.int b)], [], h2)) rfl ?_
    refine go_run 2 (F' := (926, [some (.ref ie_S), some (.ref 0), some (.ref 134), some (.ref 177), some (.int i), some (.int k), some (.int b)], [.int 0, .ref 177], h2)) rfl ?_
    obtain ⟨f, hf, ef⟩ := ho hk
    refine go_lald rfl hf (by decide) ef ?_
    refine go_run 0 (F' := (927, [some (.ref ie_S), some (.ref 0), some (.ref 134), some (.ref 177), some (.int i), some (.int k), some (.int b)], [.long (Int32.toInt64 b)], h2)) rfl ?_
    refine go_run 2 (F' := (930, [some (.ref ie_S), some (.ref 0), some (.ref 134), some (.ref 177), some (.int i), some (.int k), some (.int b)], [.long (Int32.toInt64 b), .long (Int32.toInt64 b)], h2)) rfl ?_
    refine go_run 1 (F' := (931, [some (.ref ie_S), some (.ref 0), some (.ref 134), some (.ref 177), some (.int i), some (.int k), some (.int b)], [.int (lg_cmp (Int32.toInt64 b) (Int32.toInt64 b))], h2)) rfl ?_
    rw [show lg_cmp (Int32.toInt64 b) (Int32.toInt64 b) = 0 from (lg_cmp_eq _ _).mpr rfl]
    refine go_run 2 (F' := (1150, [some (.ref ie_S), some (.ref 0), some (.ref 134), some (.ref 177), some (.int i), some (.int k), some (.int b)], [], h2)) rfl ?_
    exact kk
  · rw [if_neg hk]
    refine go_run 1 (F' := (1150, [some (.ref ie_S), some (.ref 0), some (.ref 134), some (.ref 177), some (.int i), some (.int k), some (.int b)], [], h2)) rfl ?_
    exact kk
set_option maxRecDepth 100000 in
theorem lw_op15 {X : ie_X} {d : Nat} {i a0 a1 a2 a3 k b : Int32} {u5 u6 : Option Value} {o : ie_O} {h h1 h2 h9 : ie_H} {fs1 fs2 : List Value} (hop : a0 &&& 31 = 15) (hi0 : 0 ≤ i.toInt ∧ i.toInt < (X.1 : Int)) (e0 : X.2 i.toNatClampNeg = a0) (hi1 : 0 ≤ (i + 1).toInt ∧ (i + 1).toInt < (X.1 : Int)) (e1 : X.2 (i + 1).toNatClampNeg = a1) (hi2 : 0 ≤ (i + 2).toInt ∧ (i + 2).toInt < (X.1 : Int)) (e2 : X.2 (i + 2).toNatClampNeg = a2) (hi3 : 0 ≤ (i + 3).toInt ∧ (i + 3).toInt < (X.1 : Int)) (e3 : X.2 (i + 3).toNatClampNeg = a3) (c1 : Go X d 124 (0, ie_en 124 [.ref 0, .int a1, .int a2, .int a3, .ref 177], [], h) (.inl (some (.int k))) h1) (c2 : Go X d 216 (0, ie_en 216 [.ref 134, .int a1, .int a2, .int a3], [], h1) (.inl (some (.int b))) h2) (m1 : h1[134]? = some (.inr (10, fs1))) (m2 : h2[134]? = some (.inr (10, fs2))) (t2 : fs2[0]? = some (.int k)) (ho : k = 0 → ∃ f : Nat → Int64, h2[177]? = some (.inl (3, 1, .inr (.inl f))) ∧ f 0 = if b = 0 then 0 else 1) (kk : Go X (d + 1) 222 (1150, [some (.ref ie_S), some (.ref 0), some (.ref 134), some (.ref 177), some (.int i), some (.int k), some (.int b)], [], h2) o h9) : Go X (d + 1) 222 (32, [some (.ref ie_S), some (.ref 0), some (.ref 134), some (.ref 177), some (.int i), u5, u6], [], h) o h9 := by
  refine go_run 2 (F' := (35, [some (.ref ie_S), some (.ref 0), some (.ref 134), some (.ref 177), some (.int i), u5, u6], [.int i, .ref ie_S], h)) rfl ?_
  refine go_sald rfl hi0 e0 ?_
  refine go_run 0 (F' := (36, [some (.ref ie_S), some (.ref 0), some (.ref 134), some (.ref 177), some (.int i), u5, u6], [.int a0], h)) rfl ?_
  refine go_run 2 (F' := (39, [some (.ref ie_S), some (.ref 0), some (.ref 134), some (.ref 177), some (.int i), u5, u6], [.int (a0 &&& 31)], h)) rfl ?_
  rw [hop]
  refine go_run 1 (F' := (939, [some (.ref ie_S), some (.ref 0), some (.ref 134), some (.ref 177), some (.int i), u5, u6], [], h)) rfl ?_
  refine go_run 5 (F' := (945, [some (.ref ie_S), some (.ref 0), some (.ref 134), some (.ref 177), some (.int i), u5, u6], [.int (i + 1), .ref ie_S, .ref 0], h)) rfl ?_
  refine go_sald rfl hi1 e1 ?_
  refine go_run 0 (F' := (946, [some (.ref ie_S), some (.ref 0), some (.ref 134), some (.ref 177), some (.int i), u5, u6], [.int a1, .ref 0], h)) rfl ?_
  refine go_run 4 (F' := (951, [some (.ref ie_S), some (.ref 0), some (.ref 134), some (.ref 177), some (.int i), u5, u6], [.int (i + 2), .ref ie_S, .int a1, .ref 0], h)) rfl ?_
  refine go_sald rfl hi2 e2 ?_
  refine go_run 0 (F' := (952, [some (.ref ie_S), some (.ref 0), some (.ref 134), some (.ref 177), some (.int i), u5, u6], [.int a2, .int a1, .ref 0], h)) rfl ?_
  refine go_run 4 (F' := (957, [some (.ref ie_S), some (.ref 0), some (.ref 134), some (.ref 177), some (.int i), u5, u6], [.int (i + 3), .ref ie_S, .int a2, .int a1, .ref 0], h)) rfl ?_
  refine go_sald rfl hi3 e3 ?_
  refine go_run 0 (F' := (958, [some (.ref ie_S), some (.ref 0), some (.ref 134), some (.ref 177), some (.int i), u5, u6], [.int a3, .int a2, .int a1, .ref 0], h)) rfl ?_
  refine go_run 1 (F' := (959, [some (.ref ie_S), some (.ref 0), some (.ref 134), some (.ref 177), some (.int i), u5, u6], [.ref 177, .int a3, .int a2, .int a1, .ref 0], h)) rfl ?_
  refine go_call rfl rfl ⟨rfl, Nat.le_of_ble_eq_true rfl⟩ c1 ?_
  refine go_run 0 (F' := (962, [some (.ref ie_S), some (.ref 0), some (.ref 134), some (.ref 177), some (.int i), u5, u6], [.int k], h1)) rfl ?_
  refine go_run 6 (F' := (970, [some (.ref ie_S), some (.ref 0), some (.ref 134), some (.ref 177), some (.int i), some (.int k), u6], [.int (i + 1), .ref ie_S, .ref 134], h1)) rfl ?_
  refine go_sald rfl hi1 e1 ?_
  refine go_run 0 (F' := (971, [some (.ref ie_S), some (.ref 0), some (.ref 134), some (.ref 177), some (.int i), some (.int k), u6], [.int a1, .ref 134], h1)) rfl ?_
  refine go_run 4 (F' := (976, [some (.ref ie_S), some (.ref 0), some (.ref 134), some (.ref 177), some (.int i), some (.int k), u6], [.int (i + 2), .ref ie_S, .int a1, .ref 134], h1)) rfl ?_
  refine go_sald rfl hi2 e2 ?_
  refine go_run 0 (F' := (977, [some (.ref ie_S), some (.ref 0), some (.ref 134), some (.ref 177), some (.int i), some (.int k), u6], [.int a2, .int a1, .ref 134], h1)) rfl ?_
  refine go_run 4 (F' := (982, [some (.ref ie_S), some (.ref 0), some (.ref 134), some (.ref 177), some (.int i), some (.int k), u6], [.int (i + 3), .ref ie_S, .int a2, .int a1, .ref 134], h1)) rfl ?_
  refine go_sald rfl hi3 e3 ?_
  refine go_run 0 (F' := (983, [some (.ref ie_S), some (.ref 0), some (.ref 134), some (.ref 177), some (.int i), some (.int k), u6], [.int a3, .int a2, .int a1, .ref 134], h1)) rfl ?_
  refine go_call rfl (by simp only [ie_step, ie_iv, List.drop, m1, if_true]; rfl) ⟨rfl, Nat.le_of_ble_eq_true rfl⟩ c2 ?_
  refine go_run 0 (F' := (986, [some (.ref ie_S), some (.ref 0), some (.ref 134), some (.ref 177), some (.int i), some (.int k), u6], [.int b], h2)) rfl ?_
  refine go_run 2 (F' := (989, [some (.ref ie_S), some (.ref 0), some (.ref 134), some (.ref 177), some (.int i), some (.int k), some (.int b)], [.ref 134], h2)) rfl ?_
  refine go_call rfl (by simp only [ie_step, ie_iv, List.drop, m2, if_true]; rfl) ⟨rfl, Nat.le_of_ble_eq_true rfl⟩ (go_thrown m2 t2) ?_
  refine go_run 0 (F' := (992, [some (.ref ie_S), some (.ref 0), some (.ref 134), some (.ref 177), some (.int i), some (.int k), some (.int b)], [.int k], h2)) rfl ?_
  refine go_run 1 (F' := (994, [some (.ref ie_S), some (.ref 0), some (.ref 134), some (.ref 177), some (.int i), some (.int k), some (.int b)], [.int k, .int k], h2)) rfl ?_
  refine go_step rfl rfl ?_
  rw [if_pos rfl]
  refine go_run 0 (F' := (999, [some (.ref ie_S), some (.ref 0), some (.ref 134), some (.ref 177), some (.int i), some (.int k), some (.int b)], [], h2)) rfl ?_
  refine go_run 1 (F' := (1001, [some (.ref ie_S), some (.ref 0), some (.ref 134), some (.ref 177), some (.int i), some (.int k), some (.int b)], [.int k], h2)) rfl ?_
  refine go_step rfl rfl ?_
  by_cases hk : k = 0
  · rw [if_pos hk]
    refine go_run 0 (F' := (1004, [some (.ref ie_S), some (.ref 0), some (.ref 134), some (.ref 177), some (.int i), some (.int k), some (.int b)], [], h2)) rfl ?_
    refine go_run 2 (F' := (1006, [some (.ref ie_S), some (.ref 0), some (.ref 134), some (.ref 177), some (.int i), some (.int k), some (.int b)], [.int 0, .ref 177], h2)) rfl ?_
    obtain ⟨f, hf, ef⟩ := ho hk
    refine go_lald rfl hf (by decide) ef ?_
    refine go_run 0 (F' := (1007, [some (.ref ie_S), some (.ref 0), some (.ref 134), some (.ref 177), some (.int i), some (.int k), some (.int b)], [.long (if b = 0 then 0 else 1)], h2)) rfl ?_
    refine go_run 1 (F' := (1009, [some (.ref ie_S), some (.ref 0), some (.ref 134), some (.ref 177), some (.int i), some (.int k), some (.int b)], [.int b, .long (if b = 0 then 0 else 1)], h2)) rfl ?_
    refine go_step rfl rfl ?_
    by_cases hb : b = 0
    · rw [if_pos hb]
      rw [if_pos hb]
      refine go_run 2 (F' := (1018, [some (.ref ie_S), some (.ref 0), some (.ref 134), some (.ref 177), some (.int i), some (.int k), some (.int b)], [.int 0], h2)) rfl ?_
      refine go_run 2 (F' := (1150, [some (.ref ie_S), some (.ref 0), some (.ref 134), some (.ref 177), some (.int i), some (.int k), some (.int b)], [], h2)) rfl ?_
      exact kk
    · rw [if_neg hb]
      rw [if_neg hb]
      refine go_run 3 (F' := (1018, [some (.ref ie_S), some (.ref 0), some (.ref 134), some (.ref 177), some (.int i), some (.int k), some (.int b)], [.int 0], h2)) rfl ?_
      refine go_run 2 (F' := (1150, [some (.ref ie_S), some (.ref 0), some (.ref 134), some (.ref 177), some (.int i), some (.int k), some (.int b)], [], h2)) rfl ?_
      exact kk
  · rw [if_neg hk]
    refine go_run 1 (F' := (1150, [some (.ref ie_S), some (.ref 0), some (.ref 134), some (.ref 177), some (.int i), some (.int k), some (.int b)], [], h2)) rfl ?_
    exact kk
set_option maxRecDepth 100000 in
theorem lw_op16 {X : ie_X} {d : Nat} {i a0 a1 k b : Int32} {u5 u6 : Option Value} {o : ie_O} {h h1 h2 h9 : ie_H} {fs1 fs2 : List Value} (hop : a0 &&& 31 = 16) (hi0 : 0 ≤ i.toInt ∧ i.toInt < (X.1 : Int)) (e0 : X.2 i.toNatClampNeg = a0) (hi1 : 0 ≤ (i + 1).toInt ∧ (i + 1).toInt < (X.1 : Int)) (e1 : X.2 (i + 1).toNatClampNeg = a1) (c1 : Go X d 127 (0, ie_en 127 [.ref 0, .int a1, .ref 177], [], h) (.inl (some (.int k))) h1) (c2 : Go X d 217 (0, ie_en 217 [.ref 134, .int a1], [], h1) (.inl (some (.int b))) h2) (m1 : h1[134]? = some (.inr (10, fs1))) (m2 : h2[134]? = some (.inr (10, fs2))) (t2 : fs2[0]? = some (.int k)) (ho : k = 0 → ∃ f : Nat → Int64, h2[177]? = some (.inl (3, 1, .inr (.inl f))) ∧ f 0 = Int32.toInt64 b) (kk : Go X (d + 1) 222 (1150, [some (.ref ie_S), some (.ref 0), some (.ref 134), some (.ref 177), some (.int i), some (.int k), some (.int b)], [], h2) o h9) : Go X (d + 1) 222 (32, [some (.ref ie_S), some (.ref 0), some (.ref 134), some (.ref 177), some (.int i), u5, u6], [], h) o h9 := by
  refine go_run 2 (F' := (35, [some (.ref ie_S), some (.ref 0), some (.ref 134), some (.ref 177), some (.int i), u5, u6], [.int i, .ref ie_S], h)) rfl ?_
  refine go_sald rfl hi0 e0 ?_
  refine go_run 0 (F' := (36, [some (.ref ie_S), some (.ref 0), some (.ref 134), some (.ref 177), some (.int i), u5, u6], [.int a0], h)) rfl ?_
  refine go_run 2 (F' := (39, [some (.ref ie_S), some (.ref 0), some (.ref 134), some (.ref 177), some (.int i), u5, u6], [.int (a0 &&& 31)], h)) rfl ?_
  rw [hop]
  refine go_run 1 (F' := (1026, [some (.ref ie_S), some (.ref 0), some (.ref 134), some (.ref 177), some (.int i), u5, u6], [], h)) rfl ?_
  refine go_run 5 (F' := (1032, [some (.ref ie_S), some (.ref 0), some (.ref 134), some (.ref 177), some (.int i), u5, u6], [.int (i + 1), .ref ie_S, .ref 0], h)) rfl ?_
  refine go_sald rfl hi1 e1 ?_
  refine go_run 0 (F' := (1033, [some (.ref ie_S), some (.ref 0), some (.ref 134), some (.ref 177), some (.int i), u5, u6], [.int a1, .ref 0], h)) rfl ?_
  refine go_run 1 (F' := (1034, [some (.ref ie_S), some (.ref 0), some (.ref 134), some (.ref 177), some (.int i), u5, u6], [.ref 177, .int a1, .ref 0], h)) rfl ?_
  refine go_call rfl rfl ⟨rfl, Nat.le_of_ble_eq_true rfl⟩ c1 ?_
  refine go_run 0 (F' := (1037, [some (.ref ie_S), some (.ref 0), some (.ref 134), some (.ref 177), some (.int i), u5, u6], [.int k], h1)) rfl ?_
  refine go_run 6 (F' := (1045, [some (.ref ie_S), some (.ref 0), some (.ref 134), some (.ref 177), some (.int i), some (.int k), u6], [.int (i + 1), .ref ie_S, .ref 134], h1)) rfl ?_
  refine go_sald rfl hi1 e1 ?_
  refine go_run 0 (F' := (1046, [some (.ref ie_S), some (.ref 0), some (.ref 134), some (.ref 177), some (.int i), some (.int k), u6], [.int a1, .ref 134], h1)) rfl ?_
  refine go_call rfl (by simp only [ie_step, ie_iv, List.drop, m1, if_true]; rfl) ⟨rfl, Nat.le_of_ble_eq_true rfl⟩ c2 ?_
  refine go_run 0 (F' := (1049, [some (.ref ie_S), some (.ref 0), some (.ref 134), some (.ref 177), some (.int i), some (.int k), u6], [.int b], h2)) rfl ?_
  refine go_run 2 (F' := (1052, [some (.ref ie_S), some (.ref 0), some (.ref 134), some (.ref 177), some (.int i), some (.int k), some (.int b)], [.ref 134], h2)) rfl ?_
  refine go_call rfl (by simp only [ie_step, ie_iv, List.drop, m2, if_true]; rfl) ⟨rfl, Nat.le_of_ble_eq_true rfl⟩ (go_thrown m2 t2) ?_
  refine go_run 0 (F' := (1055, [some (.ref ie_S), some (.ref 0), some (.ref 134), some (.ref 177), some (.int i), some (.int k), some (.int b)], [.int k], h2)) rfl ?_
  refine go_run 1 (F' := (1057, [some (.ref ie_S), some (.ref 0), some (.ref 134), some (.ref 177), some (.int i), some (.int k), some (.int b)], [.int k, .int k], h2)) rfl ?_
  refine go_step rfl rfl ?_
  rw [if_pos rfl]
  refine go_run 0 (F' := (1062, [some (.ref ie_S), some (.ref 0), some (.ref 134), some (.ref 177), some (.int i), some (.int k), some (.int b)], [], h2)) rfl ?_
  refine go_run 1 (F' := (1064, [some (.ref ie_S), some (.ref 0), some (.ref 134), some (.ref 177), some (.int i), some (.int k), some (.int b)], [.int k], h2)) rfl ?_
  refine go_step rfl rfl ?_
  by_cases hk : k = 0
  · rw [if_pos hk]
    refine go_run 0 (F' := (1067, [some (.ref ie_S), some (.ref 0), some (.ref 134), some (.ref 177), some (.int i), some (.int k), some (.int b)], [], h2)) rfl ?_
    refine go_run 2 (F' := (1069, [some (.ref ie_S), some (.ref 0), some (.ref 134), some (.ref 177), some (.int i), some (.int k), some (.int b)], [.int 0, .ref 177], h2)) rfl ?_
    obtain ⟨f, hf, ef⟩ := ho hk
    refine go_lald rfl hf (by decide) ef ?_
    refine go_run 0 (F' := (1070, [some (.ref ie_S), some (.ref 0), some (.ref 134), some (.ref 177), some (.int i), some (.int k), some (.int b)], [.long (Int32.toInt64 b)], h2)) rfl ?_
    refine go_run 2 (F' := (1073, [some (.ref ie_S), some (.ref 0), some (.ref 134), some (.ref 177), some (.int i), some (.int k), some (.int b)], [.long (Int32.toInt64 b), .long (Int32.toInt64 b)], h2)) rfl ?_
    refine go_run 1 (F' := (1074, [some (.ref ie_S), some (.ref 0), some (.ref 134), some (.ref 177), some (.int i), some (.int k), some (.int b)], [.int (lg_cmp (Int32.toInt64 b) (Int32.toInt64 b))], h2)) rfl ?_
    rw [show lg_cmp (Int32.toInt64 b) (Int32.toInt64 b) = 0 from (lg_cmp_eq _ _).mpr rfl]
    refine go_run 2 (F' := (1150, [some (.ref ie_S), some (.ref 0), some (.ref 134), some (.ref 177), some (.int i), some (.int k), some (.int b)], [], h2)) rfl ?_
    exact kk
  · rw [if_neg hk]
    refine go_run 1 (F' := (1150, [some (.ref ie_S), some (.ref 0), some (.ref 134), some (.ref 177), some (.int i), some (.int k), some (.int b)], [], h2)) rfl ?_
    exact kk
set_option maxRecDepth 100000 in
theorem lw_op17 {X : ie_X} {d : Nat} {i a0 a1 a2 k b : Int32} {u5 u6 : Option Value} {o : ie_O} {h h1 h2 h9 : ie_H} {fs1 fs2 : List Value} (hop : a0 &&& 31 = 17) (hi0 : 0 ≤ i.toInt ∧ i.toInt < (X.1 : Int)) (e0 : X.2 i.toNatClampNeg = a0) (hi1 : 0 ≤ (i + 1).toInt ∧ (i + 1).toInt < (X.1 : Int)) (e1 : X.2 (i + 1).toNatClampNeg = a1) (hi2 : 0 ≤ (i + 2).toInt ∧ (i + 2).toInt < (X.1 : Int)) (e2 : X.2 (i + 2).toNatClampNeg = a2) (c1 : Go X d 131 (0, ie_en 131 [.ref 0, .int a1, .int a2, .ref 177], [], h) (.inl (some (.int k))) h1) (c2 : Go X d 221 (0, ie_en 221 [.ref 134, .int a1, .int a2], [], h1) (.inl (some (.int b))) h2) (m1 : h1[134]? = some (.inr (10, fs1))) (m2 : h2[134]? = some (.inr (10, fs2))) (t2 : fs2[0]? = some (.int k)) (ho : k = 0 → ∃ f : Nat → Int64, h2[177]? = some (.inl (3, 1, .inr (.inl f))) ∧ f 0 = Int32.toInt64 b) (kk : Go X (d + 1) 222 (1150, [some (.ref ie_S), some (.ref 0), some (.ref 134), some (.ref 177), some (.int i), some (.int k), some (.int b)], [], h2) o h9) : Go X (d + 1) 222 (32, [some (.ref ie_S), some (.ref 0), some (.ref 134), some (.ref 177), some (.int i), u5, u6], [], h) o h9 := by
  refine go_run 2 (F' := (35, [some (.ref ie_S), some (.ref 0), some (.ref 134), some (.ref 177), some (.int i), u5, u6], [.int i, .ref ie_S], h)) rfl ?_
  refine go_sald rfl hi0 e0 ?_
  refine go_run 0 (F' := (36, [some (.ref ie_S), some (.ref 0), some (.ref 134), some (.ref 177), some (.int i), u5, u6], [.int a0], h)) rfl ?_
  refine go_run 2 (F' := (39, [some (.ref ie_S), some (.ref 0), some (.ref 134), some (.ref 177), some (.int i), u5, u6], [.int (a0 &&& 31)], h)) rfl ?_
  rw [hop]
  refine go_run 1 (F' := (1082, [some (.ref ie_S), some (.ref 0), some (.ref 134), some (.ref 177), some (.int i), u5, u6], [], h)) rfl ?_
  refine go_run 5 (F' := (1088, [some (.ref ie_S), some (.ref 0), some (.ref 134), some (.ref 177), some (.int i), u5, u6], [.int (i + 1), .ref ie_S, .ref 0], h)) rfl ?_
  refine go_sald rfl hi1 e1 ?_
  refine go_run 0 (F' := (1089, [some (.ref ie_S), some (.ref 0), some (.ref 134), some (.ref 177), some (.int i), u5, u6], [.int a1, .ref 0], h)) rfl ?_
  refine go_run 4 (F' := (1094, [some (.ref ie_S), some (.ref 0), some (.ref 134), some (.ref 177), some (.int i), u5, u6], [.int (i + 2), .ref ie_S, .int a1, .ref 0], h)) rfl ?_
  refine go_sald rfl hi2 e2 ?_
  refine go_run 0 (F' := (1095, [some (.ref ie_S), some (.ref 0), some (.ref 134), some (.ref 177), some (.int i), u5, u6], [.int a2, .int a1, .ref 0], h)) rfl ?_
  refine go_run 1 (F' := (1096, [some (.ref ie_S), some (.ref 0), some (.ref 134), some (.ref 177), some (.int i), u5, u6], [.ref 177, .int a2, .int a1, .ref 0], h)) rfl ?_
  refine go_call rfl rfl ⟨rfl, Nat.le_of_ble_eq_true rfl⟩ c1 ?_
  refine go_run 0 (F' := (1099, [some (.ref ie_S), some (.ref 0), some (.ref 134), some (.ref 177), some (.int i), u5, u6], [.int k], h1)) rfl ?_
  refine go_run 6 (F' := (1107, [some (.ref ie_S), some (.ref 0), some (.ref 134), some (.ref 177), some (.int i), some (.int k), u6], [.int (i + 1), .ref ie_S, .ref 134], h1)) rfl ?_
  refine go_sald rfl hi1 e1 ?_
  refine go_run 0 (F' := (1108, [some (.ref ie_S), some (.ref 0), some (.ref 134), some (.ref 177), some (.int i), some (.int k), u6], [.int a1, .ref 134], h1)) rfl ?_
  refine go_run 4 (F' := (1113, [some (.ref ie_S), some (.ref 0), some (.ref 134), some (.ref 177), some (.int i), some (.int k), u6], [.int (i + 2), .ref ie_S, .int a1, .ref 134], h1)) rfl ?_
  refine go_sald rfl hi2 e2 ?_
  refine go_run 0 (F' := (1114, [some (.ref ie_S), some (.ref 0), some (.ref 134), some (.ref 177), some (.int i), some (.int k), u6], [.int a2, .int a1, .ref 134], h1)) rfl ?_
  refine go_call rfl (by simp only [ie_step, ie_iv, List.drop, m1, if_true]; rfl) ⟨rfl, Nat.le_of_ble_eq_true rfl⟩ c2 ?_
  refine go_run 0 (F' := (1117, [some (.ref ie_S), some (.ref 0), some (.ref 134), some (.ref 177), some (.int i), some (.int k), u6], [.int b], h2)) rfl ?_
  refine go_run 2 (F' := (1120, [some (.ref ie_S), some (.ref 0), some (.ref 134), some (.ref 177), some (.int i), some (.int k), some (.int b)], [.ref 134], h2)) rfl ?_
  refine go_call rfl (by simp only [ie_step, ie_iv, List.drop, m2, if_true]; rfl) ⟨rfl, Nat.le_of_ble_eq_true rfl⟩ (go_thrown m2 t2) ?_
  refine go_run 0 (F' := (1123, [some (.ref ie_S), some (.ref 0), some (.ref 134), some (.ref 177), some (.int i), some (.int k), some (.int b)], [.int k], h2)) rfl ?_
  refine go_run 1 (F' := (1125, [some (.ref ie_S), some (.ref 0), some (.ref 134), some (.ref 177), some (.int i), some (.int k), some (.int b)], [.int k, .int k], h2)) rfl ?_
  refine go_step rfl rfl ?_
  rw [if_pos rfl]
  refine go_run 0 (F' := (1130, [some (.ref ie_S), some (.ref 0), some (.ref 134), some (.ref 177), some (.int i), some (.int k), some (.int b)], [], h2)) rfl ?_
  refine go_run 1 (F' := (1132, [some (.ref ie_S), some (.ref 0), some (.ref 134), some (.ref 177), some (.int i), some (.int k), some (.int b)], [.int k], h2)) rfl ?_
  refine go_step rfl rfl ?_
  by_cases hk : k = 0
  · rw [if_pos hk]
    refine go_run 0 (F' := (1135, [some (.ref ie_S), some (.ref 0), some (.ref 134), some (.ref 177), some (.int i), some (.int k), some (.int b)], [], h2)) rfl ?_
    refine go_run 2 (F' := (1137, [some (.ref ie_S), some (.ref 0), some (.ref 134), some (.ref 177), some (.int i), some (.int k), some (.int b)], [.int 0, .ref 177], h2)) rfl ?_
    obtain ⟨f, hf, ef⟩ := ho hk
    refine go_lald rfl hf (by decide) ef ?_
    refine go_run 0 (F' := (1138, [some (.ref ie_S), some (.ref 0), some (.ref 134), some (.ref 177), some (.int i), some (.int k), some (.int b)], [.long (Int32.toInt64 b)], h2)) rfl ?_
    refine go_run 2 (F' := (1141, [some (.ref ie_S), some (.ref 0), some (.ref 134), some (.ref 177), some (.int i), some (.int k), some (.int b)], [.long (Int32.toInt64 b), .long (Int32.toInt64 b)], h2)) rfl ?_
    refine go_run 1 (F' := (1142, [some (.ref ie_S), some (.ref 0), some (.ref 134), some (.ref 177), some (.int i), some (.int k), some (.int b)], [.int (lg_cmp (Int32.toInt64 b) (Int32.toInt64 b))], h2)) rfl ?_
    rw [show lg_cmp (Int32.toInt64 b) (Int32.toInt64 b) = 0 from (lg_cmp_eq _ _).mpr rfl]
    refine go_run 2 (F' := (1150, [some (.ref ie_S), some (.ref 0), some (.ref 134), some (.ref 177), some (.int i), some (.int k), some (.int b)], [], h2)) rfl ?_
    exact kk
  · rw [if_neg hk]
    refine go_run 1 (F' := (1150, [some (.ref ie_S), some (.ref 0), some (.ref 134), some (.ref 177), some (.int i), some (.int k), some (.int b)], [], h2)) rfl ?_
    exact kk
set_option maxRecDepth 100000 in
theorem lw_op18 {X : ie_X} {d : Nat} {i a0 : Int32} {u5 u6 : Option Value} {o : ie_O} {h h9 : ie_H} (hop : 17 < (a0 &&& 31).toInt) (hi0 : 0 ≤ i.toInt ∧ i.toInt < (X.1 : Int)) (e0 : X.2 i.toNatClampNeg = a0) (kk : Go X (d + 1) 222 (1150, [some (.ref ie_S), some (.ref 0), some (.ref 134), some (.ref 177), some (.int i), u5, u6], [], h) o h9) : Go X (d + 1) 222 (32, [some (.ref ie_S), some (.ref 0), some (.ref 134), some (.ref 177), some (.int i), u5, u6], [], h) o h9 := by
  refine go_run 2 (F' := (35, [some (.ref ie_S), some (.ref 0), some (.ref 134), some (.ref 177), some (.int i), u5, u6], [.int i, .ref ie_S], h)) rfl ?_
  refine go_sald rfl hi0 e0 ?_
  refine go_run 2 (F' := (39, [some (.ref ie_S), some (.ref 0), some (.ref 134), some (.ref 177), some (.int i), u5, u6], [.int (a0 &&& 31)], h)) rfl ?_
  refine go_step rfl rfl ?_
  exact go_pc (by unfold ie_ts; rw [if_pos (Or.inr hop)]; rfl) kk
set_option maxRecDepth 100000 in
theorem lw_head {X : ie_X} {d : Nat} {i : Int32} {u5 u6 : Option Value} {o : ie_O} {h h9 : ie_H} (hh : ¬ Int32.ofNat X.1 - 4 < i) (kk : Go X (d + 1) 222 (32, [some (.ref ie_S), some (.ref 0), some (.ref 134), some (.ref 177), some (.int i), u5, u6], [], h) o h9) : Go X (d + 1) 222 (23, [some (.ref ie_S), some (.ref 0), some (.ref 134), some (.ref 177), some (.int i), u5, u6], [], h) o h9 := by
  refine go_run 2 (F' := (26, [some (.ref ie_S), some (.ref 0), some (.ref 134), some (.ref 177), some (.int i), u5, u6], [.ref ie_S, .int i], h)) rfl ?_
  refine go_slen rfl rfl ?_
  refine go_run 2 (F' := (29, [some (.ref ie_S), some (.ref 0), some (.ref 134), some (.ref 177), some (.int i), u5, u6], [.int (Int32.ofNat X.1 - 4), .int i], h)) rfl ?_
  refine go_step rfl rfl ?_
  rw [if_neg hh]
  exact kk
set_option maxRecDepth 100000 in
theorem lw_exit {X : ie_X} {d : Nat} {i : Int32} {u5 u6 : Option Value} {h : ie_H} (hh : Int32.ofNat X.1 - 4 < i) : Go X (d + 1) 222 (23, [some (.ref ie_S), some (.ref 0), some (.ref 134), some (.ref 177), some (.int i), u5, u6], [], h) (.inl (some (.int 1))) h := by
  refine go_run 2 (F' := (26, [some (.ref ie_S), some (.ref 0), some (.ref 134), some (.ref 177), some (.int i), u5, u6], [.ref ie_S, .int i], h)) rfl ?_
  refine go_slen rfl rfl ?_
  refine go_run 2 (F' := (29, [some (.ref ie_S), some (.ref 0), some (.ref 134), some (.ref 177), some (.int i), u5, u6], [.int (Int32.ofNat X.1 - 4), .int i], h)) rfl ?_
  refine go_step rfl rfl ?_
  rw [if_pos hh]
  refine go_run 1 (F' := (1157, [some (.ref ie_S), some (.ref 0), some (.ref 134), some (.ref 177), some (.int i), u5, u6], [.int 1], h)) rfl ?_
  exact go_end rfl rfl
set_option maxRecDepth 100000 in
theorem lw_next {X : ie_X} {d : Nat} {i : Int32} {u5 u6 : Option Value} {o : ie_O} {h h9 : ie_H} (kk : Go X (d + 1) 222 (23, [some (.ref ie_S), some (.ref 0), some (.ref 134), some (.ref 177), some (.int (i + 4)), u5, u6], [], h) o h9) : Go X (d + 1) 222 (1150, [some (.ref ie_S), some (.ref 0), some (.ref 134), some (.ref 177), some (.int i), u5, u6], [], h) o h9 := by
  refine go_run 2 (F' := (23, [some (.ref ie_S), some (.ref 0), some (.ref 134), some (.ref 177), some (.int (i + 4)), u5, u6], [], h)) rfl ?_
  exact kk
