theorem go_ret {X : ie_X} {d m pc len : Nat} {r : Nat × Nat × Nat} {ls : ie_L} {h : ie_H} {v : Value} {ty : FieldType} (hat : ie_at m pc = some ((.ireturn, len), r)) (hr : ie_ret m = some ty) (hk : ie_kv 0 v = true) (hf : ie_fitb ty v = true) : Go X d m (pc, ls, [v], h) (.inl (some v)) h := by
  refine go_end hat ?_
  simp only [ie_step, ie_rv, hr, hk, hf, if_true, ie_end]
theorem go_packed {X : ie_X} {d k : Nat} {h : ie_H} {w : Int64} (hk : k < 8) : Go X d 6 (0, ie_en 6 [.long w, .int (Int32.ofNat k)], [], h) (.inl (some (.int (by_g w k)))) h := by
  refine go_run 9 (F' := (12, [some (.long w), none, some (.int (Int32.ofNat k))], [.int (by_c w (Int32.ofNat k))], h)) rfl ?_
  rw [by_ce w k hk]
  refine go_ret rfl rfl rfl ?_
  have := (by_small _ (by_lt w k)).2.2.2
  show decide _ = true
  exact decide_eq_true this
def ty_sc (g : Nat → Int32) : Nat → Nat → Option Nat
  | 0, k => some k
  | j + 1, k => if g k = 0 then some k else if g k < 33 then none else if g k ≤ 126 then ty_sc g j (k + 1) else none
theorem ty_n8 : ∀ k : Nat, k < 8 → ¬ (8 : Int32) ≤ Int32.ofNat k ∧ Int32.ofNat k + 1 = Int32.ofNat (k + 1) := by decide
theorem ty_c1 {X : ie_X} {d : Nat} {h h' : ie_H} {o : ie_O} {w : Int64} : ∀ (j k : Nat) (x4 : Option Value), j + k = 8 → (∀ n y4, ty_sc (by_g w) j k = some n → Go X (d + 1) 5 (45, [some (.ref 0), some (.long w), none, some (.int (Int32.ofNat n)), y4], [], h) o h') → (ty_sc (by_g w) j k = none → o = .inl (some (.int 0)) ∧ h' = h) → Go X (d + 1) 5 (2, [some (.ref 0), some (.long w), none, some (.int (Int32.ofNat k)), x4], [], h) o h'
  | 0, k, x4, hk, h1, h2 => by
    have : k = 8 := by omega
    subst this
    refine go_run 3 (F' := (45, [some (.ref 0), some (.long w), none, some (.int (Int32.ofNat 8)), x4], [], h)) rfl ?_
    exact h1 8 x4 rfl
  | j + 1, k, x4, hk, h1, h2 => by
    have hk8 : k < 8 := by omega
    have n8 := ty_n8 k hk8
    refine go_run 2 (F' := (5, [some (.ref 0), some (.long w), none, some (.int (Int32.ofNat k)), x4], [.int 8, .int (Int32.ofNat k)], h)) rfl ?_
    refine go_step rfl rfl ?_
    rw [if_neg n8.1]
    refine go_run 2 (F' := (10, [some (.ref 0), some (.long w), none, some (.int (Int32.ofNat k)), x4], [.int (Int32.ofNat k), .long w], h)) rfl ?_
    refine go_call (m' := 6) (v := some (.int (by_g w k))) (h1 := h) rfl rfl ⟨rfl, Nat.le_of_ble_eq_true rfl⟩ (go_packed hk8) ?_
    refine go_step rfl rfl ?_
    unfold ty_sc at h1 h2
    by_cases q0 : by_g w k = 0
    · rw [if_pos q0] at h1 h2 ⊢
      exact h1 k x4 rfl
    · rw [if_neg q0] at h1 h2 ⊢
      refine go_run 2 (F' := (18, [some (.ref 0), some (.long w), none, some (.int (Int32.ofNat k)), x4], [.int (Int32.ofNat k), .long w], h)) rfl ?_
      refine go_call (m' := 6) (v := some (.int (by_g w k))) (h1 := h) rfl rfl ⟨rfl, Nat.le_of_ble_eq_true rfl⟩ (go_packed hk8) ?_
      refine go_run 3 (F' := (27, [some (.ref 0), some (.long w), none, some (.int (Int32.ofNat k)), some (.int (by_g w k))], [.int 33, .int (by_g w k)], h)) rfl ?_
      refine go_step rfl rfl ?_
      by_cases q1 : by_g w k < 33
      · rw [if_pos q1] at h1 h2 ⊢
        obtain ⟨rfl, rfl⟩ := h2 rfl
        refine go_run 1 (F' := (38, [some (.ref 0), some (.long w), none, some (.int (Int32.ofNat k)), some (.int (by_g w k))], [.int 0], h')) rfl ?_
        exact go_end rfl rfl
      · rw [if_neg q1] at h1 h2 ⊢
        refine go_run 2 (F' := (34, [some (.ref 0), some (.long w), none, some (.int (Int32.ofNat k)), some (.int (by_g w k))], [.int 126, .int (by_g w k)], h)) rfl ?_
        refine go_step rfl rfl ?_
        by_cases q2 : by_g w k ≤ 126
        · rw [if_pos q2] at h1 h2 ⊢
          refine go_run 2 (F' := (2, [some (.ref 0), some (.long w), none, some (.int (Int32.ofNat k + 1)), some (.int (by_g w k))], [], h)) rfl ?_
          rw [n8.2]
          exact ty_c1 j (k + 1) _ (by omega) h1 h2
        · rw [if_neg q2] at h1 h2 ⊢
          obtain ⟨rfl, rfl⟩ := h2 rfl
          refine go_run 1 (F' := (38, [some (.ref 0), some (.long w), none, some (.int (Int32.ofNat k)), some (.int (by_g w k))], [.int 0], h')) rfl ?_
          exact go_end rfl rfl
def ty_cp (g : Nat → Int32) (f : Nat → Int32) (n : Nat) : Nat → (Nat → Int32)
  | 0 => f
  | i + 1 => upd (ty_cp g f n i) (n + i) (g i)
theorem ty_nar (w : Int64) (k : Nat) : vp_nar .char (by_g w k) = by_g w k := by
  have h : ∀ n : Nat, n < 256 → vp_nar .char (Int32.ofNat n) = Int32.ofNat n := by decide +kernel
  exact h _ (by_lt w k)
theorem ty_small : ∀ n : Nat, n ≤ 208 → (Int32.ofNat n).toInt = n ∧ (Int32.ofNat n).toNatClampNeg = n := by decide +kernel
theorem ty_add (a b : Nat) : Int32.ofNat a + Int32.ofNat b = Int32.ofNat (a + b) := by rw [Int32.ofNat_add]
theorem ty_lt8 : ∀ i : Nat, i ≤ 8 → ∀ n : Nat, n ≤ 8 → (Int32.ofNat n ≤ Int32.ofNat i ↔ n ≤ i) := by decide +kernel
theorem ty_c2 {X : ie_X} {d : Nat} {w : Int64} {c n : Nat} {f : Nat → Int32} {cf cw : Int32} {z5 z6 z7 : Value} {h9 : ie_H} {o : ie_O} (hn : n ≤ 8) (hc : c + n ≤ 200) : ∀ (j i : Nat) (h : ie_H), j + i = n → h[0]? = some (.inr (0, [.ref 1, .int (Int32.ofNat c), .int cf, .int cw, z5, z6, z7])) → h[1]? = some (.inl (1, 200, .inl (ty_cp (by_g w) f c i))) → (Go X (d + 1) 5 (92, [some (.ref 0), some (.long w), none, some (.int (Int32.ofNat n)), some (.int (Int32.ofNat n))], [], List.set h 1 (.inl (1, 200, .inl (ty_cp (by_g w) f c n)))) o h9) → Go X (d + 1) 5 (62, [some (.ref 0), some (.long w), none, some (.int (Int32.ofNat n)), some (.int (Int32.ofNat i))], [], h) o h9
  | 0, i, h, hj, h0, h1, kk => by
    have : i = n := by omega
    subst this
    refine go_run 2 (F' := (65, [some (.ref 0), some (.long w), none, some (.int (Int32.ofNat i)), some (.int (Int32.ofNat i))], [.int (Int32.ofNat i), .int (Int32.ofNat i)], h)) rfl ?_
    refine go_step rfl rfl ?_
    rw [if_pos ((ty_lt8 i hn i hn).mpr (Nat.le_refl _))]
    have hs : List.set h 1 (.inl (1, 200, .inl (ty_cp (by_g w) f c i))) = h := by
      obtain ⟨hl, he⟩ := List.getElem?_eq_some_iff.mp h1
      rw [← he]; exact List.set_getElem_self hl
    rw [hs] at kk
    exact kk
  | j + 1, i, h, hj, h0, h1, kk => by
    have hi : i < n := by omega
    have hi8 : i < 8 := by omega
    refine go_run 2 (F' := (65, [some (.ref 0), some (.long w), none, some (.int (Int32.ofNat n)), some (.int (Int32.ofNat i))], [.int (Int32.ofNat n), .int (Int32.ofNat i)], h)) rfl ?_
    refine go_step rfl rfl ?_
    rw [if_neg (fun z => by have := (ty_lt8 i (by omega) n hn).mp z; omega)]
    refine go_run 1 (F' := (69, [some (.ref 0), some (.long w), none, some (.int (Int32.ofNat n)), some (.int (Int32.ofNat i))], [.ref 0], h)) rfl ?_
    refine go_gf rfl h0 rfl ?_
    refine go_run 1 (F' := (73, [some (.ref 0), some (.long w), none, some (.int (Int32.ofNat n)), some (.int (Int32.ofNat i))], [.ref 0, .ref 1], h)) rfl ?_
    refine go_gf rfl h0 rfl ?_
    refine go_run 4 (F' := (82, [some (.ref 0), some (.long w), none, some (.int (Int32.ofNat n)), some (.int (Int32.ofNat i))], [.int (Int32.ofNat i), .long w, .int (Int32.ofNat c + Int32.ofNat i), .ref 1], h)) rfl ?_
    refine go_call (m' := 6) (v := some (.int (by_g w i))) (h1 := h) rfl rfl ⟨rfl, Nat.le_of_ble_eq_true rfl⟩ (go_packed hi8) ?_
    refine go_run 0 (F' := (85, [some (.ref 0), some (.long w), none, some (.int (Int32.ofNat n)), some (.int (Int32.ofNat i))], [.int (by_g w i), .int (Int32.ofNat c + Int32.ofNat i), .ref 1], h)) rfl ?_
    rw [ty_add]
    have hs := ty_small (c + i) (by omega)
    refine go_cast rfl h1 ?_ rfl ?_
    · rw [hs.1]; omega
    rw [hs.2, ty_nar]
    refine go_run 2 (F' := (62, [some (.ref 0), some (.long w), none, some (.int (Int32.ofNat n)), some (.int (Int32.ofNat i + 1))], [], List.set h 1 (.inl (1, 200, .inl (upd (ty_cp (by_g w) f c i) (c + i) (by_g w i)))))) rfl ?_
    rw [(ty_n8 i hi8).2]
    refine ty_c2 hn hc j (i + 1) _ (by omega) (gs_ne (by decide) h0) (gs_self h1) ?_
    rw [List.set_set]
    exact kk
