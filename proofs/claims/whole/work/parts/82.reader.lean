theorem i_n : ∀ n : Nat, n ≤ 1000 → (Int32.ofNat n).toInt = n ∧ (Int32.ofNat n).toNatClampNeg = n := by decide +kernel
theorem i_le {m n : Nat} (hm : m ≤ 1000) (hn : n ≤ 1000) : Int32.ofNat m ≤ Int32.ofNat n ↔ m ≤ n := by
  rw [Int32.le_iff_toInt_le, (i_n m hm).1, (i_n n hn).1]
  omega
theorem i_lt {m n : Nat} (hm : m ≤ 1000) (hn : n ≤ 1000) : Int32.ofNat m < Int32.ofNat n ↔ m < n := by
  rw [Int32.lt_iff_toInt_lt, (i_n m hm).1, (i_n n hn).1]
  omega
theorem i_eq {m n : Nat} (hm : m ≤ 1000) (hn : n ≤ 1000) : Int32.ofNat m = Int32.ofNat n ↔ m = n := by
  rw [← Int32.toInt_inj, (i_n m hm).1, (i_n n hn).1]
  omega
def rdc (c P n : Nat) (w : Bool) (ex : Int64) (el : Nat) : ie_C := .inr (5, [.ref 1, .int (Int32.ofNat c), .int (Int32.ofNat P), .int (Int32.ofNat n), .int (ty_b w), .long ex, .int (Int32.ofNat el)])
def rd_ah (f : Nat → Int32) (c P : Nat) (w : Bool) (i : Nat) : Int32 := if w = true then 0 else if P + i < c then f (P + i) else 0
def rd_var (x : Int32) : Bool := decide (¬ x < 119) && decide (¬ 122 < x)
def rd_fig (x : Int32) : Bool := decide (¬ x < 48) && decide (¬ 57 < x)
def rd_op (x : Int32) : Bool := decide (x = 43) || decide (x = 45) || decide (x = 42) || decide (x = 47) || decide (x = 37) || decide (x = 60) || decide (x = 61)
section RD
variable {X : ie_X} {d a c P n el : Nat} {h : ie_H} {w : Bool} {ex : Int64} {f : Nat → Int32}
theorem rd_ahead {i : Nat} (ca : h[a]? = some (rdc c P n w ex el)) (ct : h[1]? = some (.inl (1, 200, .inl f))) (hc : c ≤ 200) (hP : P ≤ c) (hi : i ≤ 10) (hf : ∀ j, 0 ≤ (f j).toInt ∧ (f j).toInt < 65536) : Go X d 15 (0, ie_en 15 [.ref a, .int (Int32.ofNat i)], [], h) (.inl (some (.int (rd_ah f c P w i)))) h := by
  refine go_run 1 (F' := (1, [some (.ref a), some (.int (Int32.ofNat i))], [.ref a], h)) rfl ?_
  refine go_gf rfl ca rfl ?_
  cases w with
  | true =>
    refine go_run 2 (F' := (35, [some (.ref a), some (.int (Int32.ofNat i))], [.int 0], h)) rfl ?_
    exact go_end rfl rfl
  | false =>
    refine go_run 2 (F' := (8, [some (.ref a), some (.int (Int32.ofNat i))], [.ref a], h)) rfl ?_
    refine go_gf rfl ca rfl ?_
    refine go_run 3 (F' := (14, [some (.ref a), some (.int (Int32.ofNat i))], [.ref a, .int (Int32.ofNat P + Int32.ofNat i)], h)) rfl ?_
    refine go_gf rfl ca rfl ?_
    rw [ty_add]
    refine go_step rfl rfl ?_
    by_cases q : P + i < c
    · rw [if_neg (fun z => by have := (i_le (by omega) (by omega)).mp z; omega)]
      refine go_run 1 (F' := (21, [some (.ref a), some (.int (Int32.ofNat i))], [.ref a], h)) rfl ?_
      refine go_gf rfl ca rfl ?_
      refine go_run 1 (F' := (25, [some (.ref a), some (.int (Int32.ofNat i))], [.ref a, .ref 1], h)) rfl ?_
      refine go_gf rfl ca rfl ?_
      refine go_run 2 (F' := (30, [some (.ref a), some (.int (Int32.ofNat i))], [.int (Int32.ofNat P + Int32.ofNat i), .ref 1], h)) rfl ?_
      rw [ty_add]
      refine go_cald rfl (by decide) ct ?_ (congrArg f (i_n (P + i) (by omega)).2) ?_
      · rw [(i_n (P + i) (by omega)).1]; omega
      refine go_run 1 (F' := (35, [some (.ref a), some (.int (Int32.ofNat i))], [.int (f (P + i))], h)) rfl ?_
      have e : rd_ah f c P false i = f (P + i) := by unfold rd_ah; rw [if_neg (by decide), if_pos q]
      rw [e]
      exact go_ret rfl rfl rfl (decide_eq_true (hf _))
    · rw [if_pos ((i_le (by omega) (by omega)).mpr (by omega))]
      refine go_run 1 (F' := (35, [some (.ref a), some (.int (Int32.ofNat i))], [.int 0], h)) rfl ?_
      have e : rd_ah f c P false i = 0 := by unfold rd_ah; rw [if_neg (by decide), if_neg q]
      rw [e]
      exact go_end rfl rfl
theorem rd_expect {x : Int32} (ca : h[a]? = some (rdc c P n w ex el)) (ct : h[1]? = some (.inl (1, 200, .inl f))) (hc : c ≤ 200) (hP : P ≤ c) (hf : ∀ j, 0 ≤ (f j).toInt ∧ (f j).toInt < 65536) : Go X (d + 1) 20 (0, ie_en 20 [.ref a, .int x], [], h) (.inl none) (List.set h a (if rd_ah f c P w 0 = x then rdc c (P + 1) n w ex el else rdc c P n true ex el)) := by
  refine go_run 2 (F' := (2, [some (.ref a), some (.int x)], [.int (Int32.ofNat 0), .ref a], h)) rfl ?_
  refine go_call (m' := 15) (v := some (.int (rd_ah f c P w 0))) (h1 := h) rfl (by simp only [ie_step, ie_iv, List.drop, ca, rdc, if_true]; rfl) ⟨rfl, Nat.le_of_ble_eq_true rfl⟩ (rd_ahead ca ct hc hP (by decide) hf) ?_
  refine go_run 1 (F' := (6, [some (.ref a), some (.int x)], [.int x, .int (rd_ah f c P w 0)], h)) rfl ?_
  refine go_step rfl rfl ?_
  by_cases q : rd_ah f c P w 0 = x
  · rw [if_pos q, if_pos q]
    refine go_run 2 (F' := (11, [some (.ref a), some (.int x)], [.ref a, .ref a], h)) rfl ?_
    refine go_gf rfl ca rfl ?_
    refine go_run 2 (F' := (16, [some (.ref a), some (.int x)], [.int (Int32.ofNat P + Int32.ofNat 1), .ref a], h)) rfl ?_
    rw [ty_add]
    refine go_pf rfl ca (Nat.le_of_ble_eq_true rfl) rfl rfl ?_
    refine go_run 1 (F' := (27, [some (.ref a), some (.int x)], [], List.set h a (rdc c (P + 1) n w ex el))) rfl ?_
    exact go_end rfl rfl
  · rw [if_neg q, if_neg q]
    refine go_run 2 (F' := (24, [some (.ref a), some (.int x)], [.int 1, .ref a], h)) rfl ?_
    refine go_pf rfl ca (Nat.le_of_ble_eq_true rfl) rfl rfl ?_
    refine go_run 0 (F' := (27, [some (.ref a), some (.int x)], [], List.set h a (rdc c P n true ex el))) rfl ?_
    exact go_end rfl rfl
def rd_in (v y : Int32) : Bool := decide (¬ v < 0) && decide (v < y)
theorem rd_oneOf {x y : Int32} (ca : h[a]? = some (rdc c P n w ex el)) (ct : h[1]? = some (.inl (1, 200, .inl f))) (hc : c ≤ 200) (hP : P ≤ c) (hf : ∀ j, 0 ≤ (f j).toInt ∧ (f j).toInt < 65536) : Go X (d + 1) 18 (0, ie_en 18 [.ref a, .int x, .int y], [], h) (.inl (some (.int (if rd_in (rd_ah f c P w 0 - x) y = true then rd_ah f c P w 0 - x else 0)))) (List.set h a (if rd_in (rd_ah f c P w 0 - x) y = true then rdc c (P + 1) n w ex el else rdc c P n true ex el)) := by
  refine go_run 2 (F' := (2, [some (.ref a), some (.int x), some (.int y), none], [.int (Int32.ofNat 0), .ref a], h)) rfl ?_
  refine go_call (m' := 15) (v := some (.int (rd_ah f c P w 0))) (h1 := h) rfl (by simp only [ie_step, ie_iv, List.drop, ca, rdc, if_true]; rfl) ⟨rfl, Nat.le_of_ble_eq_true rfl⟩ (rd_ahead ca ct hc hP (by decide) hf) ?_
  refine go_run 4 (F' := (9, [some (.ref a), some (.int x), some (.int y), some (.int (rd_ah f c P w 0 - x))], [.int (rd_ah f c P w 0 - x)], h)) rfl ?_
  refine go_step rfl rfl ?_
  have bad : rd_in (rd_ah f c P w 0 - x) y = false → Go X (d + 1) 18 (17, [some (.ref a), some (.int x), some (.int y), some (.int (rd_ah f c P w 0 - x))], [], h) (.inl (some (.int (if rd_in (rd_ah f c P w 0 - x) y = true then rd_ah f c P w 0 - x else 0)))) (List.set h a (if rd_in (rd_ah f c P w 0 - x) y = true then rdc c (P + 1) n w ex el else rdc c P n true ex el)) := by
    intro e
    rw [e]
    refine go_run 2 (F' := (19, [some (.ref a), some (.int x), some (.int y), some (.int (rd_ah f c P w 0 - x))], [.int 1, .ref a], h)) rfl ?_
    refine go_pf rfl ca (Nat.le_of_ble_eq_true rfl) rfl rfl ?_
    refine go_run 1 (F' := (23, [some (.ref a), some (.int x), some (.int y), some (.int (rd_ah f c P w 0 - x))], [.int 0], List.set h a (rdc c P n true ex el))) rfl ?_
    exact go_end rfl rfl
  by_cases q1 : rd_ah f c P w 0 - x < 0
  · rw [if_pos q1]
    exact bad (by simp [rd_in, q1])
  · rw [if_neg q1]
    refine go_run 2 (F' := (14, [some (.ref a), some (.int x), some (.int y), some (.int (rd_ah f c P w 0 - x))], [.int y, .int (rd_ah f c P w 0 - x)], h)) rfl ?_
    refine go_step rfl rfl ?_
    by_cases q2 : rd_ah f c P w 0 - x < y
    · rw [if_pos q2]
      have e : rd_in (rd_ah f c P w 0 - x) y = true := by simp [rd_in, q1, q2]
      rw [e, if_pos rfl, if_pos rfl]
      refine go_run 2 (F' := (26, [some (.ref a), some (.int x), some (.int y), some (.int (rd_ah f c P w 0 - x))], [.ref a, .ref a], h)) rfl ?_
      refine go_gf rfl ca rfl ?_
      refine go_run 2 (F' := (31, [some (.ref a), some (.int x), some (.int y), some (.int (rd_ah f c P w 0 - x))], [.int (Int32.ofNat P + Int32.ofNat 1), .ref a], h)) rfl ?_
      rw [ty_add]
      refine go_pf rfl ca (Nat.le_of_ble_eq_true rfl) rfl rfl ?_
      refine go_run 1 (F' := (35, [some (.ref a), some (.int x), some (.int y), some (.int (rd_ah f c P w 0 - x))], [.int (rd_ah f c P w 0 - x)], List.set h a (rdc c (P + 1) n w ex el))) rfl ?_
      exact go_end rfl rfl
    · rw [if_neg q2]
      exact bad (by simp [rd_in, q2])
theorem rd_isVar (x : Int32) : Go X d 25 (0, ie_en 25 [.int x], [], h) (.inl (some (.int (ty_b (rd_var x))))) h := by
  refine go_run 2 (F' := (3, [some (.int x)], [.int 119, .int x], h)) rfl ?_
  refine go_step rfl rfl ?_
  by_cases q1 : x < 119
  · rw [if_pos q1, show rd_var x = false by simp [rd_var, q1]]
    refine go_run 1 (F' := (17, [some (.int x)], [.int 0], h)) rfl ?_
    exact go_end rfl rfl
  · rw [if_neg q1]
    refine go_run 2 (F' := (9, [some (.int x)], [.int 122, .int x], h)) rfl ?_
    refine go_step rfl rfl ?_
    by_cases q2 : 122 < x
    · rw [if_pos q2, show rd_var x = false by simp [rd_var, q2]]
      refine go_run 1 (F' := (17, [some (.int x)], [.int 0], h)) rfl ?_
      exact go_end rfl rfl
    · rw [if_neg q2, show rd_var x = true by simp [rd_var, q1, q2]]
      refine go_run 2 (F' := (17, [some (.int x)], [.int 1], h)) rfl ?_
      exact go_end rfl rfl
theorem rd_isFig (x : Int32) : Go X d 27 (0, ie_en 27 [.int x], [], h) (.inl (some (.int (ty_b (rd_fig x))))) h := by
  refine go_run 2 (F' := (3, [some (.int x)], [.int 48, .int x], h)) rfl ?_
  refine go_step rfl rfl ?_
  by_cases q1 : x < 48
  · rw [if_pos q1, show rd_fig x = false by simp [rd_fig, q1]]
    refine go_run 1 (F' := (17, [some (.int x)], [.int 0], h)) rfl ?_
    exact go_end rfl rfl
  · rw [if_neg q1]
    refine go_run 2 (F' := (9, [some (.int x)], [.int 57, .int x], h)) rfl ?_
    refine go_step rfl rfl ?_
    by_cases q2 : 57 < x
    · rw [if_pos q2, show rd_fig x = false by simp [rd_fig, q2]]
      refine go_run 1 (F' := (17, [some (.int x)], [.int 0], h)) rfl ?_
      exact go_end rfl rfl
    · rw [if_neg q2, show rd_fig x = true by simp [rd_fig, q1, q2]]
      refine go_run 2 (F' := (17, [some (.int x)], [.int 1], h)) rfl ?_
      exact go_end rfl rfl
theorem rd_isOp (x : Int32) : Go X d 28 (0, ie_en 28 [.int x], [], h) (.inl (some (.int (ty_b (rd_op x))))) h := by
  have yes : rd_op x = true → Go X d 28 (42, [some (.int x)], [], h) (.inl (some (.int (ty_b (rd_op x))))) h := by
    intro e
    rw [e]
    refine go_run 2 (F' := (47, [some (.int x)], [.int 1], h)) rfl ?_
    exact go_end rfl rfl
  refine go_run 2 (F' := (3, [some (.int x)], [.int 43, .int x], h)) rfl ?_
  refine go_step rfl rfl ?_
  by_cases q0 : x = 43
  · rw [if_pos q0]
    exact yes (by simp [rd_op, q0])
  rw [if_neg q0]
  refine go_run 2 (F' := (9, [some (.int x)], [.int 45, .int x], h)) rfl ?_
  refine go_step rfl rfl ?_
  by_cases q1 : x = 45
  · rw [if_pos q1]
    exact yes (by simp [rd_op, q1])
  rw [if_neg q1]
  refine go_run 2 (F' := (15, [some (.int x)], [.int 42, .int x], h)) rfl ?_
  refine go_step rfl rfl ?_
  by_cases q2 : x = 42
  · rw [if_pos q2]
    exact yes (by simp [rd_op, q2])
  rw [if_neg q2]
  refine go_run 2 (F' := (21, [some (.int x)], [.int 47, .int x], h)) rfl ?_
  refine go_step rfl rfl ?_
  by_cases q3 : x = 47
  · rw [if_pos q3]
    exact yes (by simp [rd_op, q3])
  rw [if_neg q3]
  refine go_run 2 (F' := (27, [some (.int x)], [.int 37, .int x], h)) rfl ?_
  refine go_step rfl rfl ?_
  by_cases q4 : x = 37
  · rw [if_pos q4]
    exact yes (by simp [rd_op, q4])
  rw [if_neg q4]
  refine go_run 2 (F' := (33, [some (.int x)], [.int 60, .int x], h)) rfl ?_
  refine go_step rfl rfl ?_
  by_cases q5 : x = 60
  · rw [if_pos q5]
    exact yes (by simp [rd_op, q5])
  rw [if_neg q5]
  refine go_run 2 (F' := (39, [some (.int x)], [.int 61, .int x], h)) rfl ?_
  refine go_step rfl rfl ?_
  by_cases q6 : x = 61
  · rw [if_pos q6]
    exact yes (by simp [rd_op, q6])
  · rw [if_neg q6, show rd_op x = false by simp [rd_op, q0, q1, q2, q3, q4, q5, q6]]
    refine go_run 1 (F' := (47, [some (.int x)], [.int 0], h)) rfl ?_
    exact go_end rfl rfl
end RD
