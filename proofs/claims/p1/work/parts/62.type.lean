theorem ty_le200 : ∀ n : Nat, n ≤ 208 → (Int32.ofNat n ≤ 200 ↔ n ≤ 200) := by decide +kernel
def ty_no (w : Int64) (c : Nat) : Prop := match ty_sc (by_g w) 8 0 with
  | some n => 200 < c + n
  | none => True
theorem ty_sc_le (g : Nat → Int32) : ∀ (j k n : Nat), ty_sc g j k = some n → n ≤ j + k
  | 0, k, n, h => by unfold ty_sc at h; cases h; omega
  | j + 1, k, n, h => by
    unfold ty_sc at h
    split at h
    · cases h; omega
    · split at h
      · cases h
      · split at h
        · have := ty_sc_le g j (k + 1) n h; omega
        · cases h
theorem uc_type_no {X : ie_X} {d : Nat} {h : ie_H} {w : Int64} {c : Nat} {cf cw : Int32} {z5 z6 z7 : Value} (hc : c ≤ 200) (c0 : h[0]? = some (.inr (0, [.ref 1, .int (Int32.ofNat c), .int cf, .int cw, z5, z6, z7]))) (hno : ty_no w c) : Go X (d + 1) 5 (0, ie_en 5 [.ref 0, .long w], [], h) (.inl (some (.int 0))) h := by
  refine go_run 2 (F' := (2, [some (.ref 0), some (.long w), none, some (.int (Int32.ofNat 0)), none], [], h)) rfl ?_
  refine ty_c1 8 0 none rfl ?_ (fun _ => ⟨rfl, rfl⟩)
  intro n y4 hs
  have hn := ty_sc_le _ _ _ _ hs
  unfold ty_no at hno
  rw [hs] at hno
  refine go_run 1 (F' := (46, [some (.ref 0), some (.long w), none, some (.int (Int32.ofNat n)), y4], [.ref 0], h)) rfl ?_
  refine go_gf rfl c0 rfl ?_
  refine go_run 3 (F' := (54, [some (.ref 0), some (.long w), none, some (.int (Int32.ofNat n)), y4], [.int 200, .int (Int32.ofNat c + Int32.ofNat n)], h)) rfl ?_
  rw [ty_add]
  refine go_step rfl rfl ?_
  rw [if_neg (fun z => by have := (ty_le200 (c + n) (by omega)).mp z; simp only at hno; omega)]
  refine go_run 1 (F' := (58, [some (.ref 0), some (.long w), none, some (.int (Int32.ofNat n)), y4], [.int 0], h)) rfl ?_
  exact go_end rfl rfl
theorem uc_type_yes {X : ie_X} {d : Nat} {h : ie_H} {w : Int64} {c n : Nat} {cf cw : Int32} {z5 z6 z7 : Value} {f : Nat → Int32} (c0 : h[0]? = some (.inr (0, [.ref 1, .int (Int32.ofNat c), .int cf, .int cw, z5, z6, z7]))) (c1 : h[1]? = some (.inl (1, 200, .inl f))) (hs : ty_sc (by_g w) 8 0 = some n) (hc : c + n ≤ 200) : Go X (d + 1) 5 (0, ie_en 5 [.ref 0, .long w], [], h) (.inl (some (.int 1))) (List.set (List.set h 1 (.inl (1, 200, .inl (ty_cp (by_g w) f c n)))) 0 (.inr (0, [.ref 1, .int (Int32.ofNat (c + n)), .int cf, .int cw, z5, z6, z7]))) := by
  refine go_run 2 (F' := (2, [some (.ref 0), some (.long w), none, some (.int (Int32.ofNat 0)), none], [], h)) rfl ?_
  refine ty_c1 8 0 none rfl ?_ (fun z => by rw [hs] at z; cases z)
  intro n' y4 hs'
  rw [hs] at hs'
  cases hs'
  have hn := ty_sc_le _ _ _ _ hs
  refine go_run 1 (F' := (46, [some (.ref 0), some (.long w), none, some (.int (Int32.ofNat n)), y4], [.ref 0], h)) rfl ?_
  refine go_gf rfl c0 rfl ?_
  refine go_run 3 (F' := (54, [some (.ref 0), some (.long w), none, some (.int (Int32.ofNat n)), y4], [.int 200, .int (Int32.ofNat c + Int32.ofNat n)], h)) rfl ?_
  rw [ty_add]
  refine go_step rfl rfl ?_
  rw [if_pos ((ty_le200 (c + n) (by omega)).mpr hc)]
  refine go_run 2 (F' := (62, [some (.ref 0), some (.long w), none, some (.int (Int32.ofNat n)), some (.int (Int32.ofNat 0))], [], h)) rfl ?_
  refine ty_c2 (f := f) (by omega) hc n 0 h rfl c0 c1 ?_
  refine go_run 2 (F' := (94, [some (.ref 0), some (.long w), none, some (.int (Int32.ofNat n)), some (.int (Int32.ofNat n))], [.ref 0, .ref 0], List.set h 1 (.inl (1, 200, .inl (ty_cp (by_g w) f c n))))) rfl ?_
  refine go_gf rfl (gs_ne (by decide) c0) rfl ?_
  refine go_run 2 (F' := (99, [some (.ref 0), some (.long w), none, some (.int (Int32.ofNat n)), some (.int (Int32.ofNat n))], [.int (Int32.ofNat c + Int32.ofNat n), .ref 0], List.set h 1 (.inl (1, 200, .inl (ty_cp (by_g w) f c n))))) rfl ?_
  rw [ty_add]
  refine go_pf rfl (gs_ne (by decide) c0) (Nat.le_of_ble_eq_true rfl) rfl rfl ?_
  refine go_run 1 (F' := (103, [some (.ref 0), some (.long w), none, some (.int (Int32.ofNat n)), some (.int (Int32.ofNat n))], [.int 1], List.set (List.set h 1 (.inl (1, 200, .inl (ty_cp (by_g w) f c n)))) 0 (.inr (0, [.ref 1, .int (Int32.ofNat (c + n)), .int cf, .int cw, z5, z6, z7])))) rfl ?_
  exact go_end rfl rfl
def ty_b (b : Bool) : Int32 := if b then 1 else 0
def ty_ok (x : Int32) : Bool := decide (¬ x ≤ 32) && decide (¬ 127 ≤ x)
def ty_ms (g : Nat → Int32) : Nat → Nat → Bool → Nat × Bool
  | 0, k, b => (k, b)
  | j + 1, k, b => if g k = 0 then (k, b) else ty_ms g j (k + 1) (b && ty_ok (g k))
theorem ty_okk : ∀ n : Nat, n < 256 → (ty_ok (Int32.ofNat n) = true ↔ ¬ Int32.ofNat n < 33 ∧ Int32.ofNat n ≤ 126) := by decide +kernel
theorem ty_ms_false (g : Nat → Int32) : ∀ (j k : Nat), (ty_ms g j k false).2 = false
  | 0, k => rfl
  | j + 1, k => by
    unfold ty_ms
    split
    · rfl
    · exact ty_ms_false g j (k + 1)
theorem ty_ms_sc (w : Int64) : ∀ (j k : Nat), match ty_sc (by_g w) j k with
    | some n => ty_ms (by_g w) j k true = (n, true)
    | none => (ty_ms (by_g w) j k true).2 = false
  | 0, k => rfl
  | j + 1, k => by
    have hok := ty_okk _ (by_lt w k)
    unfold ty_sc ty_ms
    by_cases q0 : by_g w k = 0
    · rw [if_pos q0, if_pos q0]
    · rw [if_neg q0, if_neg q0]
      by_cases q1 : by_g w k < 33
      · rw [if_pos q1]
        have : ty_ok (by_g w k) = false := by
          cases hh : ty_ok (by_g w k)
          · rfl
          · exact absurd q1 (hok.mp hh).1
        rw [this]
        exact ty_ms_false _ _ _
      · rw [if_neg q1]
        by_cases q2 : by_g w k ≤ 126
        · rw [if_pos q2]
          rw [show ty_ok (by_g w k) = true from hok.mpr ⟨q1, q2⟩]
          exact ty_ms_sc w j (k + 1)
        · rw [if_neg q2]
          have : ty_ok (by_g w k) = false := by
            cases hh : ty_ok (by_g w k)
            · rfl
            · exact absurd (hok.mp hh).2 q2
          rw [this]
          exact ty_ms_false _ _ _
