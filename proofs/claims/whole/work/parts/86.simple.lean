def H2 (h : ie_H) (a b : Nat) (R T : ie_C) : ie_H := List.set (List.set h a R) b T
def st9 (pl k p o v l : Int32) (ex : Int64) (x y z w : Value) (oc : Int32) : ie_C := .inr (9, [.int pl, .int k, .int p, .int o, .int v, .int l, .long ex, x, y, z, w, .int oc])
theorem h2_a {h : ie_H} {a b : Nat} {R T : ie_C} (la : a < h.length) (hab : a ≠ b) : (H2 h a b R T)[a]? = some R := by
  unfold H2
  rw [List.getElem?_set_ne (Ne.symm hab), List.getElem?_set_self la]
theorem h2_b {h : ie_H} {a b : Nat} {R T : ie_C} (lb : b < h.length) : (H2 h a b R T)[b]? = some T := by
  unfold H2
  rw [List.getElem?_set_self (by rw [List.length_set]; exact lb)]
theorem h2_o {h : ie_H} {a b k : Nat} {R T : ie_C} {x : Option ie_C} (ha : a ≠ k) (hb : b ≠ k) (e : h[k]? = x) : (H2 h a b R T)[k]? = x := by
  unfold H2
  rw [List.getElem?_set_ne hb, List.getElem?_set_ne ha]; exact e
theorem h2_sa {h : ie_H} {a b : Nat} {R R' T : ie_C} (hab : a ≠ b) : List.set (H2 h a b R T) a R' = H2 h a b R' T := by
  unfold H2
  rw [List.set_comm _ _ (Ne.symm hab), List.set_set]
theorem h2_sb {h : ie_H} {a b : Nat} {R T T' : ie_C} : List.set (H2 h a b R T) b T' = H2 h a b R T' := by
  unfold H2
  rw [List.set_set]
theorem h2_id {h : ie_H} {a b : Nat} {R T : ie_C} (ca : h[a]? = some R) (cb : h[b]? = some T) : H2 h a b R T = h := by
  unfold H2
  rw [set_same ca, set_same cb]
def r30_1 (f : Nat → Int32) (c : Nat) (p : Int32) (s : rs) : rs := ks_one f c 119 4 (s)
def r30_2 (f : Nat → Int32) (c : Nat) (p : Int32) (s : rs) : rs := ks_expect f c 58 (r30_1 f c p s)
def r30_3 (f : Nat → Int32) (c : Nat) (p : Int32) (s : rs) : rs := ks_expr f c (r30_2 f c p s)
def r30_4 (f : Nat → Int32) (c : Nat) (p : Int32) (s : rs) : rs := ks_expect f c 59 (r30_3 f c p s)
def r31_1 (f : Nat → Int32) (c : Nat) (p : Int32) (s : rs) : rs := ks_expr f c (s)
def r31_2 (f : Nat → Int32) (c : Nat) (p : Int32) (s : rs) : rs := ks_expect f c 62 (r31_1 f c p s)
def r31_3 (f : Nat → Int32) (c : Nat) (p : Int32) (s : rs) : rs := ks_other f c p (r31_2 f c p s)
def r31_4 (f : Nat → Int32) (c : Nat) (p : Int32) (s : rs) : rs := ks_one f c 119 4 (r31_3 f c p s)
def r31_5 (f : Nat → Int32) (c : Nat) (p : Int32) (s : rs) : rs := ks_expect f c 59 (r31_4 f c p s)
def r19_1 (f : Nat → Int32) (c : Nat) (p : Int32) (s : rs) : rs := ks_expect f c 33 (s)
def r19_2 (f : Nat → Int32) (c : Nat) (p : Int32) (s : rs) : rs := ks_one f c 48 10 (r19_1 f c p s)
def r19_3 (f : Nat → Int32) (c : Nat) (p : Int32) (s : rs) : rs := ks_expect f c 62 (r19_2 f c p s)
def r19_4 (f : Nat → Int32) (c : Nat) (p : Int32) (s : rs) : rs := ks_other f c p (r19_3 f c p s)
def r19_5 (f : Nat → Int32) (c : Nat) (p : Int32) (s : rs) : rs := ks_expect f c 59 (r19_4 f c p s)
section RM
variable {X : ie_X} {d a b c n : Nat} {f : Nat → Int32}
theorem rd_m30 {h : ie_H} {s : rs} {pl k p o v l oc : Int32} {ex : Int64} {x y z w : Value} (la : a < h.length) (lb : b < h.length) (hab : a ≠ b) (ha1 : a ≠ 1) (hb1 : b ≠ 1) (hc : c ≤ 200) (hf : ∀ j, 0 ≤ (f j).toInt ∧ (f j).toInt < 65536) (ct : h[1]? = some (.inl (1, 200, .inl f))) (hP : s.1 ≤ c) : Go X (d + 3) 30 (0, ie_en 30 [.ref a, .ref b], [], H2 h a b (rk c n s) (st9 pl k p o v l ex x y z w oc)) (.inl none) (H2 h a b (rk c n (r30_4 f c p s)) (st9 pl 1 p o (kv_one f c 119 4 (s)) l ((ks_expr f c (r30_2 f c p s)).2.2.1) x y z w oc)) := by
  refine go_run 2 (F' := (2, [some (.ref a), some (.ref b)], [.int 1, .ref b], H2 h a b (rk c n (s)) (st9 pl k p o v l ex x y z w oc))) rfl ?_
  refine go_pf rfl (h2_b lb) (Nat.le_of_ble_eq_true rfl) rfl (h2_sb (T' := st9 pl 1 p o v l ex x y z w oc)) ?_
  refine go_run 4 (F' := (10, [some (.ref a), some (.ref b)], [.int 4, .int 119, .ref a, .ref b], H2 h a b (rk c n (s)) (st9 pl 1 p o v l ex x y z w oc))) rfl ?_
  have g1 := rd_oneS (X := X) (d := d + 1) (n := n) (f := f) (h := H2 h a b (rk c n (s)) (st9 pl 1 p o v l ex x y z w oc)) (x := 119) (y := 4) hc hf (h2_a la hab) (h2_o ha1 hb1 ct) hP
  rw [h2_sa hab] at g1
  refine go_call (m' := 18) (v := some (.int (kv_one f c 119 4 (s)))) (h1 := H2 h a b (rk c n (r30_1 f c p s)) (st9 pl 1 p o v l ex x y z w oc)) rfl (by simp only [ie_step, ie_iv, List.drop, h2_a la hab]; rfl) ⟨rfl, Nat.le_of_ble_eq_true rfl⟩ g1 ?_
  have l1 : (r30_1 f c p s).1 ≤ c := (ks_one_le (by decide) hP)
  refine go_run 0 (F' := (13, [some (.ref a), some (.ref b)], [.int (kv_one f c 119 4 (s)), .ref b], H2 h a b (rk c n (r30_1 f c p s)) (st9 pl 1 p o v l ex x y z w oc))) rfl ?_
  refine go_pf rfl (h2_b lb) (Nat.le_of_ble_eq_true rfl) rfl (h2_sb (T' := st9 pl 1 p o (kv_one f c 119 4 (s)) l ex x y z w oc)) ?_
  refine go_run 2 (F' := (19, [some (.ref a), some (.ref b)], [.int 58, .ref a], H2 h a b (rk c n (r30_1 f c p s)) (st9 pl 1 p o (kv_one f c 119 4 (s)) l ex x y z w oc))) rfl ?_
  have g2 := rd_expectS (X := X) (d := d + 1) (n := n) (f := f) (h := H2 h a b (rk c n (r30_1 f c p s)) (st9 pl 1 p o (kv_one f c 119 4 (s)) l ex x y z w oc)) (x := 58) hc hf (h2_a la hab) (h2_o ha1 hb1 ct) l1
  rw [h2_sa hab] at g2
  refine go_call (m' := 20) (v := none) (h1 := H2 h a b (rk c n (r30_2 f c p s)) (st9 pl 1 p o (kv_one f c 119 4 (s)) l ex x y z w oc)) rfl (by simp only [ie_step, ie_iv, List.drop, h2_a la hab]; rfl) ⟨rfl, Nat.le_of_ble_eq_true rfl⟩ g2 ?_
  have l2 : (r30_2 f c p s).1 ≤ c := (ks_expect_le (by decide) l1)
  refine go_run 2 (F' := (24, [some (.ref a), some (.ref b)], [.ref a, .ref b], H2 h a b (rk c n (r30_2 f c p s)) (st9 pl 1 p o (kv_one f c 119 4 (s)) l ex x y z w oc))) rfl ?_
  have g3 := rd_expr (X := X) (d := d) (n := n) (f := f) (h := H2 h a b (rk c n (r30_2 f c p s)) (st9 pl 1 p o (kv_one f c 119 4 (s)) l ex x y z w oc)) ha1 hc hf (h2_a la hab) (h2_o ha1 hb1 ct) l2
  rw [h2_sa hab] at g3
  refine go_call (m' := 23) (v := some (.long ((ks_expr f c (r30_2 f c p s)).2.2.1))) (h1 := H2 h a b (rk c n (r30_3 f c p s)) (st9 pl 1 p o (kv_one f c 119 4 (s)) l ex x y z w oc)) rfl (by simp only [ie_step, ie_iv, List.drop, h2_a la hab]; rfl) ⟨rfl, Nat.le_of_ble_eq_true rfl⟩ g3 ?_
  have l3 : (r30_3 f c p s).1 ≤ c := (ks_expr_le l2)
  refine go_run 0 (F' := (27, [some (.ref a), some (.ref b)], [.long ((ks_expr f c (r30_2 f c p s)).2.2.1), .ref b], H2 h a b (rk c n (r30_3 f c p s)) (st9 pl 1 p o (kv_one f c 119 4 (s)) l ex x y z w oc))) rfl ?_
  refine go_pf rfl (h2_b lb) (Nat.le_of_ble_eq_true rfl) rfl (h2_sb (T' := st9 pl 1 p o (kv_one f c 119 4 (s)) l ((ks_expr f c (r30_2 f c p s)).2.2.1) x y z w oc)) ?_
  refine go_run 2 (F' := (33, [some (.ref a), some (.ref b)], [.int 59, .ref a], H2 h a b (rk c n (r30_3 f c p s)) (st9 pl 1 p o (kv_one f c 119 4 (s)) l ((ks_expr f c (r30_2 f c p s)).2.2.1) x y z w oc))) rfl ?_
  have g4 := rd_expectS (X := X) (d := d + 1) (n := n) (f := f) (h := H2 h a b (rk c n (r30_3 f c p s)) (st9 pl 1 p o (kv_one f c 119 4 (s)) l ((ks_expr f c (r30_2 f c p s)).2.2.1) x y z w oc)) (x := 59) hc hf (h2_a la hab) (h2_o ha1 hb1 ct) l3
  rw [h2_sa hab] at g4
  refine go_call (m' := 20) (v := none) (h1 := H2 h a b (rk c n (r30_4 f c p s)) (st9 pl 1 p o (kv_one f c 119 4 (s)) l ((ks_expr f c (r30_2 f c p s)).2.2.1) x y z w oc)) rfl (by simp only [ie_step, ie_iv, List.drop, h2_a la hab]; rfl) ⟨rfl, Nat.le_of_ble_eq_true rfl⟩ g4 ?_
  have l4 : (r30_4 f c p s).1 ≤ c := (ks_expect_le (by decide) l3)
  refine go_run 0 (F' := (36, [some (.ref a), some (.ref b)], [], H2 h a b (rk c n (r30_4 f c p s)) (st9 pl 1 p o (kv_one f c 119 4 (s)) l ((ks_expr f c (r30_2 f c p s)).2.2.1) x y z w oc))) rfl ?_
  exact go_end rfl rfl
theorem rd_m31 {h : ie_H} {s : rs} {pl k p o v l oc : Int32} {ex : Int64} {x y z w : Value} (la : a < h.length) (lb : b < h.length) (hab : a ≠ b) (ha1 : a ≠ 1) (hb1 : b ≠ 1) (hc : c ≤ 200) (hf : ∀ j, 0 ≤ (f j).toInt ∧ (f j).toInt < 65536) (ct : h[1]? = some (.inl (1, 200, .inl f))) (hP : s.1 ≤ c) : Go X (d + 3) 31 (0, ie_en 31 [.ref a, .ref b], [], H2 h a b (rk c n s) (st9 pl k p o v l ex x y z w oc)) (.inl none) (H2 h a b (rk c n (r31_5 f c p s)) (st9 pl 2 p (kv_other f c p (r31_2 f c p s)) (kv_one f c 119 4 (r31_3 f c p s)) l ((ks_expr f c (s)).2.2.1) x y z w oc)) := by
  refine go_run 2 (F' := (2, [some (.ref a), some (.ref b)], [.int 2, .ref b], H2 h a b (rk c n (s)) (st9 pl k p o v l ex x y z w oc))) rfl ?_
  refine go_pf rfl (h2_b lb) (Nat.le_of_ble_eq_true rfl) rfl (h2_sb (T' := st9 pl 2 p o v l ex x y z w oc)) ?_
  refine go_run 2 (F' := (7, [some (.ref a), some (.ref b)], [.ref a, .ref b], H2 h a b (rk c n (s)) (st9 pl 2 p o v l ex x y z w oc))) rfl ?_
  have g1 := rd_expr (X := X) (d := d) (n := n) (f := f) (h := H2 h a b (rk c n (s)) (st9 pl 2 p o v l ex x y z w oc)) ha1 hc hf (h2_a la hab) (h2_o ha1 hb1 ct) hP
  rw [h2_sa hab] at g1
  refine go_call (m' := 23) (v := some (.long ((ks_expr f c (s)).2.2.1))) (h1 := H2 h a b (rk c n (r31_1 f c p s)) (st9 pl 2 p o v l ex x y z w oc)) rfl (by simp only [ie_step, ie_iv, List.drop, h2_a la hab]; rfl) ⟨rfl, Nat.le_of_ble_eq_true rfl⟩ g1 ?_
  have l1 : (r31_1 f c p s).1 ≤ c := (ks_expr_le hP)
  refine go_run 0 (F' := (10, [some (.ref a), some (.ref b)], [.long ((ks_expr f c (s)).2.2.1), .ref b], H2 h a b (rk c n (r31_1 f c p s)) (st9 pl 2 p o v l ex x y z w oc))) rfl ?_
  refine go_pf rfl (h2_b lb) (Nat.le_of_ble_eq_true rfl) rfl (h2_sb (T' := st9 pl 2 p o v l ((ks_expr f c (s)).2.2.1) x y z w oc)) ?_
  refine go_run 2 (F' := (16, [some (.ref a), some (.ref b)], [.int 62, .ref a], H2 h a b (rk c n (r31_1 f c p s)) (st9 pl 2 p o v l ((ks_expr f c (s)).2.2.1) x y z w oc))) rfl ?_
  have g2 := rd_expectS (X := X) (d := d + 1) (n := n) (f := f) (h := H2 h a b (rk c n (r31_1 f c p s)) (st9 pl 2 p o v l ((ks_expr f c (s)).2.2.1) x y z w oc)) (x := 62) hc hf (h2_a la hab) (h2_o ha1 hb1 ct) l1
  rw [h2_sa hab] at g2
  refine go_call (m' := 20) (v := none) (h1 := H2 h a b (rk c n (r31_2 f c p s)) (st9 pl 2 p o v l ((ks_expr f c (s)).2.2.1) x y z w oc)) rfl (by simp only [ie_step, ie_iv, List.drop, h2_a la hab]; rfl) ⟨rfl, Nat.le_of_ble_eq_true rfl⟩ g2 ?_
  have l2 : (r31_2 f c p s).1 ≤ c := (ks_expect_le (by decide) l1)
  refine go_run 3 (F' := (22, [some (.ref a), some (.ref b)], [.ref b, .ref a, .ref b], H2 h a b (rk c n (r31_2 f c p s)) (st9 pl 2 p o v l ((ks_expr f c (s)).2.2.1) x y z w oc))) rfl ?_
  refine go_gf rfl (h2_b lb) rfl ?_
  refine go_run 0 (F' := (25, [some (.ref a), some (.ref b)], [.int p, .ref a, .ref b], H2 h a b (rk c n (r31_2 f c p s)) (st9 pl 2 p o v l ((ks_expr f c (s)).2.2.1) x y z w oc))) rfl ?_
  have g3 := rd_otherS (X := X) (d := d) (n := n) (f := f) (h := H2 h a b (rk c n (r31_2 f c p s)) (st9 pl 2 p o v l ((ks_expr f c (s)).2.2.1) x y z w oc)) (p := p) ha1 hc hf (h2_a la hab) (h2_o ha1 hb1 ct) l2
  rw [h2_sa hab] at g3
  refine go_call (m' := 21) (v := some (.int (kv_other f c p (r31_2 f c p s)))) (h1 := H2 h a b (rk c n (r31_3 f c p s)) (st9 pl 2 p o v l ((ks_expr f c (s)).2.2.1) x y z w oc)) rfl (by simp only [ie_step, ie_iv, List.drop, h2_a la hab]; rfl) ⟨rfl, Nat.le_of_ble_eq_true rfl⟩ g3 ?_
  have l3 : (r31_3 f c p s).1 ≤ c := (ks_other_le l2)
  refine go_run 0 (F' := (28, [some (.ref a), some (.ref b)], [.int (kv_other f c p (r31_2 f c p s)), .ref b], H2 h a b (rk c n (r31_3 f c p s)) (st9 pl 2 p o v l ((ks_expr f c (s)).2.2.1) x y z w oc))) rfl ?_
  refine go_pf rfl (h2_b lb) (Nat.le_of_ble_eq_true rfl) rfl (h2_sb (T' := st9 pl 2 p (kv_other f c p (r31_2 f c p s)) v l ((ks_expr f c (s)).2.2.1) x y z w oc)) ?_
  refine go_run 4 (F' := (36, [some (.ref a), some (.ref b)], [.int 4, .int 119, .ref a, .ref b], H2 h a b (rk c n (r31_3 f c p s)) (st9 pl 2 p (kv_other f c p (r31_2 f c p s)) v l ((ks_expr f c (s)).2.2.1) x y z w oc))) rfl ?_
  have g4 := rd_oneS (X := X) (d := d + 1) (n := n) (f := f) (h := H2 h a b (rk c n (r31_3 f c p s)) (st9 pl 2 p (kv_other f c p (r31_2 f c p s)) v l ((ks_expr f c (s)).2.2.1) x y z w oc)) (x := 119) (y := 4) hc hf (h2_a la hab) (h2_o ha1 hb1 ct) l3
  rw [h2_sa hab] at g4
  refine go_call (m' := 18) (v := some (.int (kv_one f c 119 4 (r31_3 f c p s)))) (h1 := H2 h a b (rk c n (r31_4 f c p s)) (st9 pl 2 p (kv_other f c p (r31_2 f c p s)) v l ((ks_expr f c (s)).2.2.1) x y z w oc)) rfl (by simp only [ie_step, ie_iv, List.drop, h2_a la hab]; rfl) ⟨rfl, Nat.le_of_ble_eq_true rfl⟩ g4 ?_
  have l4 : (r31_4 f c p s).1 ≤ c := (ks_one_le (by decide) l3)
  refine go_run 0 (F' := (39, [some (.ref a), some (.ref b)], [.int (kv_one f c 119 4 (r31_3 f c p s)), .ref b], H2 h a b (rk c n (r31_4 f c p s)) (st9 pl 2 p (kv_other f c p (r31_2 f c p s)) v l ((ks_expr f c (s)).2.2.1) x y z w oc))) rfl ?_
  refine go_pf rfl (h2_b lb) (Nat.le_of_ble_eq_true rfl) rfl (h2_sb (T' := st9 pl 2 p (kv_other f c p (r31_2 f c p s)) (kv_one f c 119 4 (r31_3 f c p s)) l ((ks_expr f c (s)).2.2.1) x y z w oc)) ?_
  refine go_run 2 (F' := (45, [some (.ref a), some (.ref b)], [.int 59, .ref a], H2 h a b (rk c n (r31_4 f c p s)) (st9 pl 2 p (kv_other f c p (r31_2 f c p s)) (kv_one f c 119 4 (r31_3 f c p s)) l ((ks_expr f c (s)).2.2.1) x y z w oc))) rfl ?_
  have g5 := rd_expectS (X := X) (d := d + 1) (n := n) (f := f) (h := H2 h a b (rk c n (r31_4 f c p s)) (st9 pl 2 p (kv_other f c p (r31_2 f c p s)) (kv_one f c 119 4 (r31_3 f c p s)) l ((ks_expr f c (s)).2.2.1) x y z w oc)) (x := 59) hc hf (h2_a la hab) (h2_o ha1 hb1 ct) l4
  rw [h2_sa hab] at g5
  refine go_call (m' := 20) (v := none) (h1 := H2 h a b (rk c n (r31_5 f c p s)) (st9 pl 2 p (kv_other f c p (r31_2 f c p s)) (kv_one f c 119 4 (r31_3 f c p s)) l ((ks_expr f c (s)).2.2.1) x y z w oc)) rfl (by simp only [ie_step, ie_iv, List.drop, h2_a la hab]; rfl) ⟨rfl, Nat.le_of_ble_eq_true rfl⟩ g5 ?_
  have l5 : (r31_5 f c p s).1 ≤ c := (ks_expect_le (by decide) l4)
  refine go_run 0 (F' := (48, [some (.ref a), some (.ref b)], [], H2 h a b (rk c n (r31_5 f c p s)) (st9 pl 2 p (kv_other f c p (r31_2 f c p s)) (kv_one f c 119 4 (r31_3 f c p s)) l ((ks_expr f c (s)).2.2.1) x y z w oc))) rfl ?_
  exact go_end rfl rfl
theorem rd_m19 {h : ie_H} {s : rs} {pl k p o v l oc : Int32} {ex : Int64} {x y z w : Value} (la : a < h.length) (lb : b < h.length) (hab : a ≠ b) (ha1 : a ≠ 1) (hb1 : b ≠ 1) (hc : c ≤ 200) (hf : ∀ j, 0 ≤ (f j).toInt ∧ (f j).toInt < 65536) (ct : h[1]? = some (.inl (1, 200, .inl f))) (hP : s.1 ≤ c) : Go X (d + 3) 19 (0, ie_en 19 [.ref a, .ref b], [], H2 h a b (rk c n s) (st9 pl k p o v l ex x y z w oc)) (.inl none) (H2 h a b (rk c n (r19_5 f c p s)) (st9 pl 4 p (kv_other f c p (r19_3 f c p s)) v (kv_one f c 48 10 (r19_1 f c p s)) ex x y z w oc)) := by
  refine go_run 2 (F' := (2, [some (.ref a), some (.ref b)], [.int 4, .ref b], H2 h a b (rk c n (s)) (st9 pl k p o v l ex x y z w oc))) rfl ?_
  refine go_pf rfl (h2_b lb) (Nat.le_of_ble_eq_true rfl) rfl (h2_sb (T' := st9 pl 4 p o v l ex x y z w oc)) ?_
  refine go_run 2 (F' := (8, [some (.ref a), some (.ref b)], [.int 33, .ref a], H2 h a b (rk c n (s)) (st9 pl 4 p o v l ex x y z w oc))) rfl ?_
  have g1 := rd_expectS (X := X) (d := d + 1) (n := n) (f := f) (h := H2 h a b (rk c n (s)) (st9 pl 4 p o v l ex x y z w oc)) (x := 33) hc hf (h2_a la hab) (h2_o ha1 hb1 ct) hP
  rw [h2_sa hab] at g1
  refine go_call (m' := 20) (v := none) (h1 := H2 h a b (rk c n (r19_1 f c p s)) (st9 pl 4 p o v l ex x y z w oc)) rfl (by simp only [ie_step, ie_iv, List.drop, h2_a la hab]; rfl) ⟨rfl, Nat.le_of_ble_eq_true rfl⟩ g1 ?_
  have l1 : (r19_1 f c p s).1 ≤ c := (ks_expect_le (by decide) hP)
  refine go_run 4 (F' := (17, [some (.ref a), some (.ref b)], [.int 10, .int 48, .ref a, .ref b], H2 h a b (rk c n (r19_1 f c p s)) (st9 pl 4 p o v l ex x y z w oc))) rfl ?_
  have g2 := rd_oneS (X := X) (d := d + 1) (n := n) (f := f) (h := H2 h a b (rk c n (r19_1 f c p s)) (st9 pl 4 p o v l ex x y z w oc)) (x := 48) (y := 10) hc hf (h2_a la hab) (h2_o ha1 hb1 ct) l1
  rw [h2_sa hab] at g2
  refine go_call (m' := 18) (v := some (.int (kv_one f c 48 10 (r19_1 f c p s)))) (h1 := H2 h a b (rk c n (r19_2 f c p s)) (st9 pl 4 p o v l ex x y z w oc)) rfl (by simp only [ie_step, ie_iv, List.drop, h2_a la hab]; rfl) ⟨rfl, Nat.le_of_ble_eq_true rfl⟩ g2 ?_
  have l2 : (r19_2 f c p s).1 ≤ c := (ks_one_le (by decide) l1)
  refine go_run 0 (F' := (20, [some (.ref a), some (.ref b)], [.int (kv_one f c 48 10 (r19_1 f c p s)), .ref b], H2 h a b (rk c n (r19_2 f c p s)) (st9 pl 4 p o v l ex x y z w oc))) rfl ?_
  refine go_pf rfl (h2_b lb) (Nat.le_of_ble_eq_true rfl) rfl (h2_sb (T' := st9 pl 4 p o v (kv_one f c 48 10 (r19_1 f c p s)) ex x y z w oc)) ?_
  refine go_run 2 (F' := (26, [some (.ref a), some (.ref b)], [.int 62, .ref a], H2 h a b (rk c n (r19_2 f c p s)) (st9 pl 4 p o v (kv_one f c 48 10 (r19_1 f c p s)) ex x y z w oc))) rfl ?_
  have g3 := rd_expectS (X := X) (d := d + 1) (n := n) (f := f) (h := H2 h a b (rk c n (r19_2 f c p s)) (st9 pl 4 p o v (kv_one f c 48 10 (r19_1 f c p s)) ex x y z w oc)) (x := 62) hc hf (h2_a la hab) (h2_o ha1 hb1 ct) l2
  rw [h2_sa hab] at g3
  refine go_call (m' := 20) (v := none) (h1 := H2 h a b (rk c n (r19_3 f c p s)) (st9 pl 4 p o v (kv_one f c 48 10 (r19_1 f c p s)) ex x y z w oc)) rfl (by simp only [ie_step, ie_iv, List.drop, h2_a la hab]; rfl) ⟨rfl, Nat.le_of_ble_eq_true rfl⟩ g3 ?_
  have l3 : (r19_3 f c p s).1 ≤ c := (ks_expect_le (by decide) l2)
  refine go_run 3 (F' := (32, [some (.ref a), some (.ref b)], [.ref b, .ref a, .ref b], H2 h a b (rk c n (r19_3 f c p s)) (st9 pl 4 p o v (kv_one f c 48 10 (r19_1 f c p s)) ex x y z w oc))) rfl ?_
  refine go_gf rfl (h2_b lb) rfl ?_
  refine go_run 0 (F' := (35, [some (.ref a), some (.ref b)], [.int p, .ref a, .ref b], H2 h a b (rk c n (r19_3 f c p s)) (st9 pl 4 p o v (kv_one f c 48 10 (r19_1 f c p s)) ex x y z w oc))) rfl ?_
  have g4 := rd_otherS (X := X) (d := d) (n := n) (f := f) (h := H2 h a b (rk c n (r19_3 f c p s)) (st9 pl 4 p o v (kv_one f c 48 10 (r19_1 f c p s)) ex x y z w oc)) (p := p) ha1 hc hf (h2_a la hab) (h2_o ha1 hb1 ct) l3
  rw [h2_sa hab] at g4
  refine go_call (m' := 21) (v := some (.int (kv_other f c p (r19_3 f c p s)))) (h1 := H2 h a b (rk c n (r19_4 f c p s)) (st9 pl 4 p o v (kv_one f c 48 10 (r19_1 f c p s)) ex x y z w oc)) rfl (by simp only [ie_step, ie_iv, List.drop, h2_a la hab]; rfl) ⟨rfl, Nat.le_of_ble_eq_true rfl⟩ g4 ?_
  have l4 : (r19_4 f c p s).1 ≤ c := (ks_other_le l3)
  refine go_run 0 (F' := (38, [some (.ref a), some (.ref b)], [.int (kv_other f c p (r19_3 f c p s)), .ref b], H2 h a b (rk c n (r19_4 f c p s)) (st9 pl 4 p o v (kv_one f c 48 10 (r19_1 f c p s)) ex x y z w oc))) rfl ?_
  refine go_pf rfl (h2_b lb) (Nat.le_of_ble_eq_true rfl) rfl (h2_sb (T' := st9 pl 4 p (kv_other f c p (r19_3 f c p s)) v (kv_one f c 48 10 (r19_1 f c p s)) ex x y z w oc)) ?_
  refine go_run 2 (F' := (44, [some (.ref a), some (.ref b)], [.int 59, .ref a], H2 h a b (rk c n (r19_4 f c p s)) (st9 pl 4 p (kv_other f c p (r19_3 f c p s)) v (kv_one f c 48 10 (r19_1 f c p s)) ex x y z w oc))) rfl ?_
  have g5 := rd_expectS (X := X) (d := d + 1) (n := n) (f := f) (h := H2 h a b (rk c n (r19_4 f c p s)) (st9 pl 4 p (kv_other f c p (r19_3 f c p s)) v (kv_one f c 48 10 (r19_1 f c p s)) ex x y z w oc)) (x := 59) hc hf (h2_a la hab) (h2_o ha1 hb1 ct) l4
  rw [h2_sa hab] at g5
  refine go_call (m' := 20) (v := none) (h1 := H2 h a b (rk c n (r19_5 f c p s)) (st9 pl 4 p (kv_other f c p (r19_3 f c p s)) v (kv_one f c 48 10 (r19_1 f c p s)) ex x y z w oc)) rfl (by simp only [ie_step, ie_iv, List.drop, h2_a la hab]; rfl) ⟨rfl, Nat.le_of_ble_eq_true rfl⟩ g5 ?_
  have l5 : (r19_5 f c p s).1 ≤ c := (ks_expect_le (by decide) l4)
  refine go_run 0 (F' := (47, [some (.ref a), some (.ref b)], [], H2 h a b (rk c n (r19_5 f c p s)) (st9 pl 4 p (kv_other f c p (r19_3 f c p s)) v (kv_one f c 48 10 (r19_1 f c p s)) ex x y z w oc))) rfl ?_
  exact go_end rfl rfl
end RM
