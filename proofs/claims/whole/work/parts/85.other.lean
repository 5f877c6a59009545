def ks_up (s : rs) : rs := (s.1 + 1, s.2.1, s.2.2.1, s.2.2.2)
def ks_expect (f : Nat → Int32) (c : Nat) (x : Int32) (s : rs) : rs := if ka f c s 0 = x then ks_up s else ks_wrong s
def ks_one (f : Nat → Int32) (c : Nat) (x y : Int32) (s : rs) : rs := if rd_in (ka f c s 0 - x) y = true then ks_up s else ks_wrong s
def kv_one (f : Nat → Int32) (c : Nat) (x y : Int32) (s : rs) : Int32 := if rd_in (ka f c s 0 - x) y = true then ka f c s 0 - x else 0
def ks_oth0 (f : Nat → Int32) (c : Nat) (p : Int32) (s : rs) : rs := if ka f c s 0 = 65 + p then ks_wrong s else s
def ks_other (f : Nat → Int32) (c : Nat) (p : Int32) (s : rs) : rs := ks_one f c 65 6 (ks_oth0 f c p s)
def kv_other (f : Nat → Int32) (c : Nat) (p : Int32) (s : rs) : Int32 := kv_one f c 65 6 (ks_oth0 f c p s)
theorem ka_lt {f : Nat → Int32} {c : Nat} {s : rs} (h : ka f c s 0 ≠ 0) : s.1 < c ∧ s.2.1 = false := by
  unfold ka rd_ah at h
  cases hw : s.2.1 with
  | true => rw [hw, if_pos rfl] at h; exact absurd rfl h
  | false =>
    rw [hw, if_neg (by decide)] at h
    by_cases q : s.1 + 0 < c
    · exact ⟨q, rfl⟩
    · rw [if_neg q] at h; exact absurd rfl h
theorem ks_expect_le {f : Nat → Int32} {c : Nat} {x : Int32} {s : rs} (hx : x ≠ 0) (h : s.1 ≤ c) : (ks_expect f c x s).1 ≤ c := by
  unfold ks_expect
  split
  · rename_i q
    have := (ka_lt (f := f) (c := c) (s := s) (by rw [q]; exact hx)).1
    show s.1 + 1 ≤ c
    omega
  · exact h
theorem ks_one_le {f : Nat → Int32} {c : Nat} {x y : Int32} {s : rs} (hx : rd_in (0 - x) y = false) (h : s.1 ≤ c) : (ks_one f c x y s).1 ≤ c := by
  unfold ks_one
  split
  · rename_i q
    have : ka f c s 0 ≠ 0 := by
      intro z
      rw [z, hx] at q
      cases q
    have := (ka_lt this).1
    show s.1 + 1 ≤ c
    omega
  · exact h
theorem ks_oth0_le {f : Nat → Int32} {c : Nat} {p : Int32} {s : rs} (h : s.1 ≤ c) : (ks_oth0 f c p s).1 ≤ c := by
  unfold ks_oth0
  split
  · exact h
  · exact h
theorem ks_other_le {f : Nat → Int32} {c : Nat} {p : Int32} {s : rs} (h : s.1 ≤ c) : (ks_other f c p s).1 ≤ c := ks_one_le (by decide) (ks_oth0_le h)
section RO
variable {X : ie_X} {d a c n : Nat} {f : Nat → Int32}
theorem rd_expectS {h : ie_H} {s : rs} {x : Int32} (hc : c ≤ 200) (hf : ∀ j, 0 ≤ (f j).toInt ∧ (f j).toInt < 65536) (ca : h[a]? = some (rk c n s)) (ct : h[1]? = some (.inl (1, 200, .inl f))) (hP : s.1 ≤ c) : Go X (d + 1) 20 (0, ie_en 20 [.ref a, .int x], [], h) (.inl none) (List.set h a (rk c n (ks_expect f c x s))) := by
  have k := rd_expect (X := X) (d := d) (x := x) ca ct hc hP hf
  have e : (if rd_ah f c s.1 s.2.1 0 = x then rdc c (s.1 + 1) n s.2.1 s.2.2.1 s.2.2.2 else rdc c s.1 n true s.2.2.1 s.2.2.2) = rk c n (ks_expect f c x s) := by
    unfold ks_expect ka
    split
    · rfl
    · rfl
  rw [e] at k
  exact k
theorem rd_oneS {h : ie_H} {s : rs} {x y : Int32} (hc : c ≤ 200) (hf : ∀ j, 0 ≤ (f j).toInt ∧ (f j).toInt < 65536) (ca : h[a]? = some (rk c n s)) (ct : h[1]? = some (.inl (1, 200, .inl f))) (hP : s.1 ≤ c) : Go X (d + 1) 18 (0, ie_en 18 [.ref a, .int x, .int y], [], h) (.inl (some (.int (kv_one f c x y s)))) (List.set h a (rk c n (ks_one f c x y s))) := by
  have k := rd_oneOf (X := X) (d := d) (x := x) (y := y) ca ct hc hP hf
  have e : (if rd_in (rd_ah f c s.1 s.2.1 0 - x) y = true then rdc c (s.1 + 1) n s.2.1 s.2.2.1 s.2.2.2 else rdc c s.1 n true s.2.2.1 s.2.2.2) = rk c n (ks_one f c x y s) := by
    unfold ks_one ka
    split
    · rfl
    · rfl
  rw [e] at k
  exact k
theorem rd_otherS {h : ie_H} {s : rs} {p : Int32} (ha1 : a ≠ 1) (hc : c ≤ 200) (hf : ∀ j, 0 ≤ (f j).toInt ∧ (f j).toInt < 65536) (ca : h[a]? = some (rk c n s)) (ct : h[1]? = some (.inl (1, 200, .inl f))) (hP : s.1 ≤ c) : Go X (d + 2) 21 (0, ie_en 21 [.ref a, .int p], [], h) (.inl (some (.int (kv_other f c p s)))) (List.set h a (rk c n (ks_other f c p s))) := by
  refine go_run 2 (F' := (2, [some (.ref a), some (.int p)], [.int (Int32.ofNat 0), .ref a], h)) rfl ?_
  refine go_call (m' := 15) (v := some (.int (ka f c s 0))) (h1 := h) rfl (by simp only [ie_step, ie_iv, List.drop, ca, rk, rdc, if_true]; rfl) ⟨rfl, Nat.le_of_ble_eq_true rfl⟩ (rd_ahead ca ct hc hP (by decide) hf) ?_
  refine go_run 3 (F' := (9, [some (.ref a), some (.int p)], [.int (65 + p), .int (ka f c s 0)], h)) rfl ?_
  refine go_step rfl rfl ?_
  have fin : Go X (d + 2) 21 (17, [some (.ref a), some (.int p)], [], List.set h a (rk c n (ks_oth0 f c p s))) (.inl (some (.int (kv_other f c p s)))) (List.set h a (rk c n (ks_other f c p s))) := by
    have c1 : (List.set h a (rk c n (ks_oth0 f c p s)))[a]? = some (rk c n (ks_oth0 f c p s)) := gs_self ca
    have t1 : (List.set h a (rk c n (ks_oth0 f c p s)))[1]? = some (.inl (1, 200, .inl f)) := gs_ne ha1 ct
    refine go_run 3 (F' := (22, [some (.ref a), some (.int p)], [.int 6, .int 65, .ref a], List.set h a (rk c n (ks_oth0 f c p s)))) rfl ?_
    have g := rd_oneS (X := X) (d := d) (x := 65) (y := 6) hc hf c1 t1 (ks_oth0_le hP)
    rw [List.set_set] at g
    refine go_call (m' := 18) (v := some (.int (kv_other f c p s))) (h1 := List.set h a (rk c n (ks_other f c p s))) rfl (by simp only [ie_step, ie_iv, List.drop, c1]; rfl) ⟨rfl, Nat.le_of_ble_eq_true rfl⟩ g ?_
    exact go_end rfl rfl
  by_cases q : ka f c s 0 = 65 + p
  · rw [if_pos q]
    have e : ks_oth0 f c p s = ks_wrong s := by unfold ks_oth0; rw [if_pos q]
    rw [e] at fin
    refine go_run 2 (F' := (14, [some (.ref a), some (.int p)], [.int 1, .ref a], h)) rfl ?_
    refine go_pf rfl ca (Nat.le_of_ble_eq_true rfl) rfl rfl ?_
    exact fin
  · rw [if_neg q]
    have e : ks_oth0 f c p s = s := by unfold ks_oth0; rw [if_neg q]
    rw [e, set_same ca] at fin
    exact fin
end RO
