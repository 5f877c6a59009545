theorem vlx_g : ∀ (l : List Nat) (i : Nat), (∀ c, c ∈ l → c < 256) → vlx l / 256 ^ i % 256 = l.getD i 0
  | [], i, _ => by
    show 0 / 256 ^ i % 256 = 0
    rw [Nat.zero_div]
  | c :: l, 0, h => by
    have := h c List.mem_cons_self
    show (c + 256 * vlx l) / 256 ^ 0 % 256 = c
    omega
  | c :: l, i + 1, h => by
    have := h c List.mem_cons_self
    show (c + 256 * vlx l) / 256 ^ (i + 1) % 256 = l.getD i 0
    rw [Nat.pow_succ, Nat.mul_comm (256 ^ i) 256, ← Nat.div_div_eq_div_mul, show (c + 256 * vlx l) / 256 = vlx l by omega]
    exact vlx_g l i (fun d hd => h d (List.mem_cons_of_mem _ hd))
theorem le8 {i : Nat} (h : i < 8) : ¬ (8 : Int32) ≤ Int32.ofNat i := fun z => by
  have := (j_le (m := 8) (n := i) (by decide) (by omega)).mp z
  omega
theorem cq0 {c : Nat} (hc : c < 256) : Int32.ofNat c = 0 ↔ c = 0 := cq hc (by decide) rfl
section CE
variable {S : hS} {e p ar fr : Nat} {a w : List Nat} {V : Nat → Int32}
theorem xt_s (e : Nat) : ∀ c, c ∈ xt e → c < 256 := fun c hc => (xtf_m _ _ _ hc).2
theorem byx {i : Nat} (hx : Xok e) (hi : i < 8) : by_c (Int64.ofNat e) (Int32.ofNat i) = Int32.ofNat ((xt e).getD i 0) := by
  rw [by_o (xok_lt hx) hi, ← vlx_g (xt e) i (xt_s e), hx.2.1.1]
theorem ctv : ∀ (a : List Nat) (fr n : Nat) (acc : Int32), Xok e → Sfx (xt e) fr (a ++ w) → (∀ c, c ∈ a → fgc c = true) → fgc (w.headD 0) = false → fr + a.length ≤ 7 → a.length + 1 ≤ n → yE_termValue_34 n S (Int64.ofNat e) acc (Int32.ofNat fr) = some (S, a.foldl (fun a c => 10 * a + Int32.ofNat c - 48) acc)
  | [], fr, n, acc, hx, hs, _, hw, h7, hn => by
    obtain ⟨n, rfl⟩ : ∃ m, n = m + 1 := ⟨n - 1, by omega⟩
    have h7' : fr ≤ 7 := h7
    have g := Sfx_g (i := 0) hs
    have g' : (xt e).getD fr 0 = w.headD 0 := by
      rw [Nat.add_zero] at g
      rw [g]
      cases w <;> rfl
    have c1 : (xt e).getD fr 0 < 256 := getD_s (xt_s e)
    rw [yE_termValue_34, if_neg (le8 (by omega)), byx hx (by omega), fig_o c1, g', hw, if_pos (by decide)]
    rfl
  | c :: a, fr, n, acc, hx, hs, hf, hw, h7, hn => by
    rw [List.length_cons] at h7 hn
    obtain ⟨n, rfl⟩ : ∃ m, n = m + 1 := ⟨n - 1, by omega⟩
    have g : (xt e).getD fr 0 = c := Sgt_g (Sfx_w hs)
    have c1 : c < 256 := xt_s e c (Sgt_m (Sfx_w hs)).2
    rw [yE_termValue_34, if_neg (le8 (by omega)), byx hx (by omega), g, fig_o c1, hf c List.mem_cons_self, if_neg (by decide), o1, ctv a (fr + 1) n _ hx (Sfx_c hs) (fun d hd => hf d (List.mem_cons_of_mem _ hd)) hw (by omega) (by omega)]
    rfl
theorem ctm {n : Nat} (h1 : ztg S ar = 20) (h2 : zLen S ar = 24) (hp : p < 6) (hV : ∀ v, v < 4 → V v = zAI S ar (4 * p + v)) (hx : Xok e) (hs : Sfx (xt e) fr (a ++ w)) (ha : trL a) (hw : fgc (w.headD 0) = false) (h7 : fr + a.length ≤ 7) (hn : 10 ≤ n) : yE_termValue n S (Int64.ofNat e) (Int32.ofNat fr) (some ar) (Int32.ofNat p) = some (S, tvl V a) := by
  unfold yE_termValue
  rw [byx hx (by omega)]
  rcases ha with ⟨v, rfl, hv⟩ | ⟨k1, k2, k3⟩
  · have hs' : Sfx (xt e) fr (v :: w) := hs
    have hv' := hv
    unfold vrc at hv'
    have hv' := of_decide_eq_true hv'
    rw [Sgt_g (Sfx_w hs'), (var_o (by omega)).1, hv, if_neg (by decide)]
    refine (zob_s rfl).trans ?_
    rw [if_pos h1, h2]
    have e0 : y_indexOf (Int32.ofNat p) (Int32.ofNat v - 119) = Int32.ofNat (4 * p + (v - 119)) := by
      unfold y_indexOf
      rw [show Int32.ofNat v - 119 = Int32.ofNat (v - 119) from o_sub (j := 119) (by omega), show (4 : Int32) = Int32.ofNat 4 from rfl, ← Int32.ofNat_mul, ty_add, Nat.mul_comm]
    rw [e0, if_pos (j_in (by omega) (by omega)), (j_n (n := 4 * p + (v - 119)) (by omega)).2]
    unfold tvl
    rw [show [v].headD 0 = v from rfl, if_pos hv, hV (v - 119) (by omega)]
  · cases a with
    | nil => exact (k1 rfl).elim
    | cons c a =>
      have hs' : Sfx (xt e) fr (c :: (a ++ w)) := hs
      have hc := k3 c List.mem_cons_self
      have c1 : c < 256 := xt_s e c (Sgt_m (Sfx_w hs')).2
      have hv : vrc c = false := by
        cases q : vrc c with
        | false => rfl
        | true =>
          rw [vf_no q] at hc
          cases hc
      rw [Sgt_g (Sfx_w hs'), (var_o c1).1, hv, if_pos (by decide), ctv (c :: a) fr n 0 hx hs k3 hw h7 (by omega)]
      unfold tvl
      rw [show (c :: a).headD 0 = c from rfl, if_neg (by rw [hv]; decide)]
theorem cv_3 {P2 : Option Nat} {x : Int32} (hx : Xok e) (hs : Sfx (xt e) 0 (a ++ w)) (ha : trL a) (hw : w.headD 0 = 0 ∨ opc (w.headD 0) = true) : ∀ (d i N : Nat), i + d = a.length → 1 ≤ i → yE_value_3 (N + 1 + d) S (Int64.ofNat e) P2 x (Int32.ofNat i) = yE_value_28 N S (Int64.ofNat e) P2 x (Int32.ofNat a.length)
  | 0, i, N, hd, hi => by
    have h3 := (trL_ne ha).2
    have g := Sfx_g (i := 0) (Sfx_r hs)
    have g' : (xt e).getD a.length 0 = w.headD 0 := by
      rw [Nat.add_zero, Nat.zero_add] at g
      rw [g]
      cases w <;> rfl
    have c1 : (xt e).getD a.length 0 < 256 := getD_s (xt_s e)
    have hi' : i = a.length := by omega
    subst hi'
    rw [show N + 1 + 0 = N + 1 from rfl, yE_value_3, if_neg (le8 (by omega)), byx hx (by omega)]
    rw [if_neg]
    unfold yE_endsTerm
    rw [g'] at c1 ⊢
    rcases hw with hw | hw
    · rw [hw, if_pos (by decide)]
      decide
    · rw [(var_o c1).2, hw]
      split
      · decide
      · rw [if_neg (by decide)]
        decide
  | d + 1, i, N, hd, hi => by
    have h3 := (trL_ne ha).2
    have g := Sfx_g (i := i) hs
    have hc : ∃ c, (a ++ w).getD i 0 = c ∧ fgc c = true := by
      rcases ha with ⟨v, rfl, hv⟩ | ⟨k1, k2, k3⟩
      · simp at hd
        omega
      · refine ⟨a[i]'(by omega), ?_, k3 _ (List.getElem_mem _)⟩
        rw [List.getD_eq_getElem?_getD, List.getElem?_append_left (by omega), List.getElem?_eq_getElem (by omega)]
        rfl
    obtain ⟨c, e1, e2⟩ := hc
    rw [Nat.zero_add, e1] at g
    have e2' := of_decide_eq_true (show decide (48 ≤ c ∧ c ≤ 57) = true from e2)
    rw [show N + 1 + (d + 1) = N + 1 + d + 1 by omega, yE_value_3, if_neg (le8 (by omega)), byx hx (by omega), g]
    rw [if_pos, o1]
    · exact cv_3 hx hs ha hw d (i + 1) N (by omega) (by omega)
    · unfold yE_endsTerm
      rw [if_neg (mt (cq0 (by omega)).mp (by omega)), (var_o (by omega)).2, vf_op (Or.inr e2), if_pos (by decide)]
theorem cmb {x o y : Int32} : yE_combined o x y = x_reckon x o y := rfl
theorem value_ok {n : Nat} (h1 : ztg S ar = 20) (h2 : zLen S ar = 24) (hp : p < 6) (hV : ∀ v, v < 4 → V v = zAI S ar (4 * p + v)) (hx : Xok e) (hn : 20 ≤ n) : yE_value n S (Int64.ofNat e) (some ar) (Int32.ofNat p) = some (S, evx V (xt e)) := by
  unfold yE_value
  rcases hx.2.1.2 with ha | ⟨a, o, b, el, ha, ho, hb⟩
  · obtain ⟨k1, k2⟩ := trL_ne ha
    have k0 : 1 ≤ (xt e).length := List.length_pos_iff.mpr k1
    have hs : Sfx (xt e) 0 (xt e ++ []) := ⟨[], by simp, rfl⟩
    have c3 := cv_3 (S := S) (P2 := some ar) (x := Int32.ofNat p) hx hs ha (Or.inl rfl) ((xt e).length - 1) 1 (n - 1 - ((xt e).length - 1)) (by omega) (by omega)
    rw [show n - 1 - ((xt e).length - 1) + 1 + ((xt e).length - 1) = n by omega] at c3
    refine c3.trans ?_
    unfold yE_value_28
    refine (zcP_s (ctm h1 h2 hp hV hx hs ha (by decide) (by omega) (by omega))).trans ?_
    have g := Sfx_g (i := 0) (Sfx_r hs)
    rw [if_neg (le8 (by omega)), byx hx (by omega), Sgt_e (Nat.le_refl _), if_pos (by decide), evx_1 ha]
  · obtain ⟨k1, k2⟩ := trL_ne ha
    obtain ⟨l1, l2⟩ := trL_ne hb
    have k0 : 1 ≤ a.length := List.length_pos_iff.mpr k1
    have hs : Sfx (xt e) 0 (a ++ o :: b) := ⟨[], by simp [el], rfl⟩
    have s1 := Sfx_r hs
    rw [Nat.zero_add] at s1
    have c3 := cv_3 (S := S) (P2 := some ar) (x := Int32.ofNat p) hx hs ha (Or.inr ho) (a.length - 1) 1 (n - 1 - (a.length - 1)) (by omega) (by omega)
    rw [show n - 1 - (a.length - 1) + 1 + (a.length - 1) = n by omega] at c3
    refine c3.trans ?_
    unfold yE_value_28
    refine (zcP_s (ctm h1 h2 hp hV hx hs ha (op_vf ho).2 (by omega) (by omega))).trans ?_
    have c1 : o < 256 := xt_s e o (Sgt_m (Sfx_w s1)).2
    have o0 : o ≠ 0 := fun z => by rw [z] at ho; exact absurd ho (by decide)
    have s2 : Sfx (xt e) (a.length + 1) (b ++ []) := by rw [List.append_nil]; exact Sfx_c s1
    rw [if_neg (le8 (by omega)), byx hx (by omega), Sgt_g (Sfx_w s1), if_neg (mt (cq0 c1).mp o0), o1]
    refine (zcP_s (ctm h1 h2 hp hV hx s2 hb (by decide) (by omega) (by omega))).trans ?_
    rw [cmb, ← evx_2 ha ho, ← el]
end CE
