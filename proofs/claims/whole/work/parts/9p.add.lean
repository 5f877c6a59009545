theorem o_add_m1 (x : Int32) : x + (-1) = x - 1 := (Int32.sub_eq_add_neg x 1).symm
theorem o_p1 (k : Nat) : Int32.ofNat (k + 1) - 1 = Int32.ofNat k := o_s1 (Nat.succ_le_succ (Nat.zero_le k))
section CU
variable {I I' I2 : Nat → Int32} {A A' A2 : Nat → Nat → Int32} {b os cur u v l : List Nat} {c k i p q : Nat}
theorem ad_A : ∀ (r : List Nat) (n : Nat) (I : Nat → Int32) (A : Nat → Nat → Int32) (cur : List Nat), CS I A b os cur → At (A 30) 0 r.reverse → r.length ≤ 1000 → r.length < n → b.length + cur.length + r.length ≤ 1100 → Ads I A b os cur r (x_addA_7 n I A (Int32.ofNat r.length - 1))
  | [], n, I, A, cur, h, _, _, hn, _ => by
    obtain ⟨n, rfl⟩ : ∃ k, n = k + 1 := ⟨n - 1, by have : 0 < n := hn; omega⟩
    rw [x_addA_7, if_pos (by decide)]
    exact Ads_0 h
  | c :: r, n, I, A, cur, h, ha, h1, hn, hb => by
    rw [List.length_cons] at h1 hn hb ⊢
    obtain ⟨n, rfl⟩ : ∃ k, n = k + 1 := ⟨n - 1, by omega⟩
    rw [List.reverse_cons, At_app] at ha
    have hc : A 30 r.length = Int32.ofNat c := by
      have := ha.2.1
      rw [List.length_reverse, Nat.zero_add] at this
      exact this
    rw [x_addA_7, o_p1, if_neg (show ¬ Int32.ofNat r.length < 0 from mt (j_lt (n := 0) (by omega) (by decide)).mp (by omega)), if_pos (j_in (by omega) (by omega)), (j_n (n := r.length) (by omega)).2, hc, o_add_m1]
    refine Ads_b (u := [c]) (v := r) (s_add h (by omega)) (fun I' A' k1 _ _ _ _ e30 _ _ => ?_)
    exact ad_A r n I' A' (cur ++ [c]) k1 (by rw [e30]; exact ha.1) (by omega) (by omega) (by rw [List.length_append, List.length_singleton]; omega)
theorem ad_B : ∀ (r : List Nat) (n : Nat) (I : Nat → Int32) (A : Nat → Nat → Int32) (cur : List Nat), CS I A b os cur → At (A 31) 0 r.reverse → r.length ≤ 1000 → r.length < n → b.length + cur.length + r.length ≤ 1100 → Ads I A b os cur r (x_addB_7 n I A (Int32.ofNat r.length - 1))
  | [], n, I, A, cur, h, _, _, hn, _ => by
    obtain ⟨n, rfl⟩ : ∃ k, n = k + 1 := ⟨n - 1, by have : 0 < n := hn; omega⟩
    rw [x_addB_7, if_pos (by decide)]
    exact Ads_0 h
  | c :: r, n, I, A, cur, h, ha, h1, hn, hb => by
    rw [List.length_cons] at h1 hn hb ⊢
    obtain ⟨n, rfl⟩ : ∃ k, n = k + 1 := ⟨n - 1, by omega⟩
    rw [List.reverse_cons, At_app] at ha
    have hc : A 31 r.length = Int32.ofNat c := by
      have := ha.2.1
      rw [List.length_reverse, Nat.zero_add] at this
      exact this
    rw [x_addB_7, o_p1, if_neg (show ¬ Int32.ofNat r.length < 0 from mt (j_lt (n := 0) (by omega) (by decide)).mp (by omega)), if_pos (j_in (by omega) (by omega)), (j_n (n := r.length) (by omega)).2, hc, o_add_m1]
    refine Ads_b (u := [c]) (v := r) (s_add h (by omega)) (fun I' A' k1 _ _ _ _ _ e31 _ => ?_)
    exact ad_B r n I' A' (cur ++ [c]) k1 (by rw [e31]; exact ha.1) (by omega) (by omega) (by rw [List.length_append, List.length_singleton]; omega)
theorem ad_J : ∀ (r : List Nat) (n : Nat) (I : Nat → Int32) (A : Nat → Nat → Int32) (cur : List Nat), CS I A b os cur → At (A 32) 0 r.reverse → r.length ≤ 1000 → r.length < n → b.length + cur.length + r.length ≤ 1100 → Ads I A b os cur r (x_addChoice_30 n I A (Int32.ofNat r.length - 1))
  | [], n, I, A, cur, h, _, _, hn, _ => by
    obtain ⟨n, rfl⟩ : ∃ k, n = k + 1 := ⟨n - 1, by have : 0 < n := hn; omega⟩
    rw [x_addChoice_30, if_pos (by decide)]
    exact Ads_0 h
  | c :: r, n, I, A, cur, h, ha, h1, hn, hb => by
    rw [List.length_cons] at h1 hn hb ⊢
    obtain ⟨n, rfl⟩ : ∃ k, n = k + 1 := ⟨n - 1, by omega⟩
    rw [List.reverse_cons, At_app] at ha
    have hc : A 32 r.length = Int32.ofNat c := by
      have := ha.2.1
      rw [List.length_reverse, Nat.zero_add] at this
      exact this
    rw [x_addChoice_30, o_p1, if_neg (show ¬ Int32.ofNat r.length < 0 from mt (j_lt (n := 0) (by omega) (by decide)).mp (by omega)), if_pos (j_in (by omega) (by omega)), (j_n (n := r.length) (by omega)).2, hc, o_add_m1]
    refine Ads_b (u := [c]) (v := r) (s_add h (by omega)) (fun I' A' k1 _ _ _ _ _ _ e32 => ?_)
    exact ad_J r n I' A' (cur ++ [c]) k1 (by rw [e32]; exact ha.1) (by omega) (by omega) (by rw [List.length_append, List.length_singleton]; omega)
theorem ad_X : ∀ (r : List Nat) (n fr : Nat) (I : Nat → Int32) (A : Nat → Nat → Int32) (cur : List Nat), CS I A b os cur → i < 200 → A 7 i = Int32.ofNat fr → 1 ≤ fr → At (A 2) fr r.reverse → fr + r.length ≤ 200 → r.length < n → b.length + cur.length + r.length ≤ 1100 → Ads I A b os cur r (x_addExpression_9 n I A (Int32.ofNat i) (Int32.ofNat (fr + r.length) - 1))
  | [], n, fr, I, A, cur, h, hi, h7, hf, _, h2, hn, _ => by
    obtain ⟨n, rfl⟩ : ∃ k, n = k + 1 := ⟨n - 1, by have : 0 < n := hn; omega⟩
    have h2' : fr ≤ 200 := h2
    rw [x_addExpression_9, if_pos (j_in (by omega) hi), (j_n (n := i) (by omega)).2, h7]
    show Ads I A b os cur [] (if Int32.ofNat fr - 1 < Int32.ofNat fr then _ else _)
    rw [o_s1 hf, if_pos ((j_lt (by omega) (by omega)).mpr (by omega))]
    exact Ads_0 h
  | c :: r, n, fr, I, A, cur, h, hi, h7, hf, ha, h2, hn, hb => by
    rw [List.length_cons] at h2 hn hb ⊢
    obtain ⟨n, rfl⟩ : ∃ k, n = k + 1 := ⟨n - 1, by omega⟩
    rw [List.reverse_cons, At_app] at ha
    have hc : A 2 (fr + r.length) = Int32.ofNat c := by
      have := ha.2.1
      rw [List.length_reverse] at this
      exact this
    rw [x_addExpression_9, if_pos (j_in (by omega) hi), (j_n (n := i) (by omega)).2, h7, ← Nat.add_assoc, o_p1, if_neg (mt (j_lt (by omega) (by omega)).mp (by omega)), if_pos (j_in (by omega) (by omega)), (j_n (n := fr + r.length) (by omega)).2, hc, o_add_m1]
    refine Ads_b (u := [c]) (v := r) (s_add h (by omega)) (fun I' A' k1 k2 _ _ _ _ _ _ => ?_)
    exact ad_X r n fr I' A' (cur ++ [c]) k1 hi (by rw [k2.2 7 (by omega)]; exact h7) hf (by rw [k2.2 2 (by omega)]; exact ha.1) (by omega) (by omega) (by rw [List.length_append, List.length_singleton]; omega)
def Exq (A : Nat → Nat → Int32) (e i : Nat) : Prop := ∃ fr, A 7 i = Int32.ofNat fr ∧ 1 ≤ fr ∧ A 8 i = Int32.ofNat (fr + (xt e).length) ∧ At (A 2) fr (xt e) ∧ fr + (xt e).length ≤ 200
theorem s_exp {n e : Nat} (h : CS I A b os cur) (hi : i < 200) (he : Exq A e i) (hn : 200 < n) (hb : b.length + cur.length + (xt e).length ≤ 1100) : Ads I A b os cur (xt e).reverse (x_addExpression n I A (Int32.ofNat i)) := by
  obtain ⟨fr, h7, h1, h8, ha, hl⟩ := he
  unfold x_addExpression
  rw [if_pos (j_in (by omega) hi), (j_n (n := i) (by omega)).2, h8, ← List.length_reverse]
  exact ad_X (xt e).reverse n fr I A cur h hi h7 h1 (by rw [List.reverse_reverse]; exact ha) (by rw [List.length_reverse]; exact hl) (by rw [List.length_reverse]; omega) (by rw [List.length_reverse]; exact hb)
theorem s_A {n : Nat} (h : CS I A b os cur) (h14 : I 14 = Int32.ofNat l.length) (ha : At (A 30) 0 l) (hl : l.length ≤ 1000) (hn : l.length < n) (hb : b.length + cur.length + l.length ≤ 1100) : Ads I A b os cur l.reverse (x_addA n I A) := by
  unfold x_addA
  rw [h14, ← List.length_reverse]
  exact ad_A l.reverse n I A cur h (by rw [List.reverse_reverse]; exact ha) (by rw [List.length_reverse]; exact hl) (by rw [List.length_reverse]; exact hn) (by rw [List.length_reverse]; exact hb)
theorem s_B {n : Nat} (h : CS I A b os cur) (h14 : I 15 = Int32.ofNat l.length) (ha : At (A 31) 0 l) (hl : l.length ≤ 1000) (hn : l.length < n) (hb : b.length + cur.length + l.length ≤ 1100) : Ads I A b os cur l.reverse (x_addB n I A) := by
  unfold x_addB
  rw [h14, ← List.length_reverse]
  exact ad_B l.reverse n I A cur h (by rw [List.reverse_reverse]; exact ha) (by rw [List.length_reverse]; exact hl) (by rw [List.length_reverse]; exact hn) (by rw [List.length_reverse]; exact hb)
theorem s_J {n : Nat} (h : CS I A b os cur) (h16 : I 16 = Int32.ofNat l.length) (ha : At (A 32) 0 l) (hl : l.length ≤ 1000) (hn : l.length < n) (hb : b.length + cur.length + l.length ≤ 1100) : Ads I A b os cur l.reverse (x_addChoice_30 n I A (I 16 - 1)) := by
  rw [h16, ← List.length_reverse]
  exact ad_J l.reverse n I A cur h (by rw [List.reverse_reverse]; exact ha) (by rw [List.length_reverse]; exact hl) (by rw [List.length_reverse]; exact hn) (by rw [List.length_reverse]; exact hb)
theorem tk_A : ∀ (v : List Nat) (n : Nat) (A : Nat → Nat → Int32) (u : List Nat), I 12 = Int32.ofNat (b.length + (v.length + u.length)) → At (A 28) 0 (b ++ v.reverse) → I 14 = Int32.ofNat (v.length + u.length) → At (A 30) 0 u → v.length + u.length ≤ 1000 → b.length + (v.length + u.length) ≤ 1100 → v.length < n → ib (I 13) 20 → ∃ g, x_takeA_20 n I A (Int32.ofNat u.length) = some (upd (upd I 12 ((A 29) (Int32.toNatClampNeg (I 13)))) 13 ((I 13) - 1), upA A 30 g, 0) ∧ At g 0 (u ++ v)
  | [], n, A, u, h12, _, h14, hu, hl, hb, hn, h13 => by
    obtain ⟨n, rfl⟩ : ∃ k, n = k + 1 := ⟨n - 1, by have : 0 < n := hn; omega⟩
    refine ⟨A 30, ?_, by rw [List.append_nil]; exact hu⟩
    have hl' : u.length ≤ 1000 := by simpa using hl
    rw [x_takeA_20, h14, if_pos ((j_le (by simp; omega) (by omega)).mpr (by simp)), if_pos h13, upA_id]
  | c :: v, n, A, u, h12, ha, h14, hu, hl, hb, hn, h13 => by
    rw [List.length_cons] at h12 h14 hl hb hn
    obtain ⟨n, rfl⟩ : ∃ k, n = k + 1 := ⟨n - 1, by omega⟩
    rw [List.reverse_cons, ← List.append_assoc, At_app] at ha
    have hc : A 28 (b.length + v.length) = Int32.ofNat c := by
      have := ha.2.1
      rw [List.length_append, List.length_reverse, Nat.zero_add] at this
      exact this
    have e12 : I 12 - 1 - Int32.ofNat u.length = Int32.ofNat (b.length + v.length) := by
      rw [h12, o_s1 (by omega), o_sub (by omega)]
      congr 1
      omega
    rw [x_takeA_20, h14, if_neg (mt (j_le (by omega) (by omega)).mp (by omega)), e12, if_pos (j_in (by omega) (by omega)), if_pos (j_in (by omega) (by omega)), (j_n (n := u.length) (by omega)).2, (j_n (n := b.length + v.length) (by omega)).2, hc, o1]
    obtain ⟨g, e1, e2⟩ := tk_A v n (upA A 30 (upd (A 30) u.length (Int32.ofNat c))) (u ++ [c]) (by rw [h12, List.length_append, List.length_singleton]; congr 1; omega) (by rw [upA_ne (by decide)]; exact ha.1) (by rw [h14, List.length_append, List.length_singleton]; congr 1; omega) (by rw [upA_eq]; exact At_put hu) (by rw [List.length_append, List.length_singleton]; omega) (by rw [List.length_append, List.length_singleton]; omega) (by omega) h13
    rw [List.length_append, List.length_singleton, upA_ne (by decide), upA_u] at e1
    rw [List.append_assoc] at e2
    exact ⟨g, e1, e2⟩
theorem s_takeA {n o : Nat} {b' cur' os' : List Nat} (h : CS I A b os cur) (hb : b = b' ++ cur') (ho : os = os' ++ [b'.length]) (hl : cur.length ≤ 1000) (hl2 : b.length + cur.length ≤ 1100) (hn : cur.length < n) : ∃ I' A', x_takeA n I A = some (I', A', 0) ∧ CS I' A' b' os' cur' ∧ FrC I A I' A' ∧ I' 14 = Int32.ofNat cur.length ∧ At (A' 30) 0 cur.reverse ∧ I' 15 = I 15 ∧ I' 16 = I 16 ∧ A' 31 = A 31 ∧ A' 32 = A 32 := by
  obtain ⟨h1, h2, h3, h4, h5⟩ := h
  have hol : os.length = os'.length + 1 := by rw [ho, List.length_append]; rfl
  have h13 : ib (I 13) 20 := by rw [h3]; exact j_in (by omega) (by omega)
  have hA : A 29 os.length = Int32.ofNat b.length := by
    rw [At_app] at h4
    have := h4.2.1
    rw [Nat.zero_add] at this
    exact this
  have hcn : (I 13).toNatClampNeg = os.length := by rw [h3, (j_n (n := os.length) (by omega)).2]
  have e14 : I 12 - (A 29) (Int32.toNatClampNeg (I 13)) = Int32.ofNat cur.length := by
    rw [hcn, hA, h1, o_sub (by omega)]
    congr 1
    omega
  unfold x_takeA
  rw [if_pos h13, e14]
  have k12 : upd I 14 (Int32.ofNat cur.length) 12 = I 12 := upd_n (by decide)
  have k13 : upd I 14 (Int32.ofNat cur.length) 13 = I 13 := upd_n (by decide)
  obtain ⟨g, e1, e2⟩ := tk_A (I := upd I 14 (Int32.ofNat cur.length)) (b := b) cur.reverse n A [] (by rw [k12, h1, List.length_reverse]; rfl) (by rw [List.reverse_reverse]; exact h2) (by rw [upd_s, List.length_reverse]; rfl) trivial (by rw [List.length_reverse]; exact hl) (by rw [List.length_reverse]; exact hl2) (by rw [List.length_reverse]; exact hn) (by rw [k13]; exact h13)
  refine ⟨_, _, e1, ⟨?_, ?_, ?_, ?_, by omega⟩, ⟨fun k hk => ?_, fun j hj => upA_ne (by omega)⟩, ?_, ?_, ?_, ?_, upA_ne (by decide), upA_ne (by decide)⟩
  · rw [upd_n (by decide), upd_s, k13, hcn, hA, hb, List.length_append]
  · rw [upA_ne (by decide), ← hb]
    exact ((At_app b 0 cur).mp h2).1
  · rw [upd_s, k13, h3, hol, o_p1]
  · rw [upA_ne (by decide), ← ho]
    exact ((At_app os 0 [b.length]).mp h4).1
  · rw [upd_n (by omega), upd_n (by omega), upd_n (by omega)]
  · rw [upd_n (by decide), upd_n (by decide), upd_s]
  · rw [upA_eq]
    exact e2
  · rw [upd_n (by decide), upd_n (by decide), upd_n (by decide)]
  · rw [upd_n (by decide), upd_n (by decide), upd_n (by decide)]
theorem tk_B : ∀ (v : List Nat) (n : Nat) (A : Nat → Nat → Int32) (u : List Nat), I 12 = Int32.ofNat (b.length + (v.length + u.length)) → At (A 28) 0 (b ++ v.reverse) → I 15 = Int32.ofNat (v.length + u.length) → At (A 31) 0 u → v.length + u.length ≤ 1000 → b.length + (v.length + u.length) ≤ 1100 → v.length < n → ib (I 13) 20 → ∃ g, x_takeB_20 n I A (Int32.ofNat u.length) = some (upd (upd I 12 ((A 29) (Int32.toNatClampNeg (I 13)))) 13 ((I 13) - 1), upA A 31 g, 0) ∧ At g 0 (u ++ v)
  | [], n, A, u, h12, _, h14, hu, hl, hb, hn, h13 => by
    obtain ⟨n, rfl⟩ : ∃ k, n = k + 1 := ⟨n - 1, by have : 0 < n := hn; omega⟩
    refine ⟨A 31, ?_, by rw [List.append_nil]; exact hu⟩
    have hl' : u.length ≤ 1000 := by simpa using hl
    rw [x_takeB_20, h14, if_pos ((j_le (by simp; omega) (by omega)).mpr (by simp)), if_pos h13, upA_id]
  | c :: v, n, A, u, h12, ha, h14, hu, hl, hb, hn, h13 => by
    rw [List.length_cons] at h12 h14 hl hb hn
    obtain ⟨n, rfl⟩ : ∃ k, n = k + 1 := ⟨n - 1, by omega⟩
    rw [List.reverse_cons, ← List.append_assoc, At_app] at ha
    have hc : A 28 (b.length + v.length) = Int32.ofNat c := by
      have := ha.2.1
      rw [List.length_append, List.length_reverse, Nat.zero_add] at this
      exact this
    have e12 : I 12 - 1 - Int32.ofNat u.length = Int32.ofNat (b.length + v.length) := by
      rw [h12, o_s1 (by omega), o_sub (by omega)]
      congr 1
      omega
    rw [x_takeB_20, h14, if_neg (mt (j_le (by omega) (by omega)).mp (by omega)), e12, if_pos (j_in (by omega) (by omega)), if_pos (j_in (by omega) (by omega)), (j_n (n := u.length) (by omega)).2, (j_n (n := b.length + v.length) (by omega)).2, hc, o1]
    obtain ⟨g, e1, e2⟩ := tk_B v n (upA A 31 (upd (A 31) u.length (Int32.ofNat c))) (u ++ [c]) (by rw [h12, List.length_append, List.length_singleton]; congr 1; omega) (by rw [upA_ne (by decide)]; exact ha.1) (by rw [h14, List.length_append, List.length_singleton]; congr 1; omega) (by rw [upA_eq]; exact At_put hu) (by rw [List.length_append, List.length_singleton]; omega) (by rw [List.length_append, List.length_singleton]; omega) (by omega) h13
    rw [List.length_append, List.length_singleton, upA_ne (by decide), upA_u] at e1
    rw [List.append_assoc] at e2
    exact ⟨g, e1, e2⟩
theorem s_takeB {n o : Nat} {b' cur' os' : List Nat} (h : CS I A b os cur) (hb : b = b' ++ cur') (ho : os = os' ++ [b'.length]) (hl : cur.length ≤ 1000) (hl2 : b.length + cur.length ≤ 1100) (hn : cur.length < n) : ∃ I' A', x_takeB n I A = some (I', A', 0) ∧ CS I' A' b' os' cur' ∧ FrC I A I' A' ∧ I' 15 = Int32.ofNat cur.length ∧ At (A' 31) 0 cur.reverse ∧ I' 14 = I 14 ∧ I' 16 = I 16 ∧ A' 30 = A 30 ∧ A' 32 = A 32 := by
  obtain ⟨h1, h2, h3, h4, h5⟩ := h
  have hol : os.length = os'.length + 1 := by rw [ho, List.length_append]; rfl
  have h13 : ib (I 13) 20 := by rw [h3]; exact j_in (by omega) (by omega)
  have hA : A 29 os.length = Int32.ofNat b.length := by
    rw [At_app] at h4
    have := h4.2.1
    rw [Nat.zero_add] at this
    exact this
  have hcn : (I 13).toNatClampNeg = os.length := by rw [h3, (j_n (n := os.length) (by omega)).2]
  have e14 : I 12 - (A 29) (Int32.toNatClampNeg (I 13)) = Int32.ofNat cur.length := by
    rw [hcn, hA, h1, o_sub (by omega)]
    congr 1
    omega
  unfold x_takeB
  rw [if_pos h13, e14]
  have k12 : upd I 15 (Int32.ofNat cur.length) 12 = I 12 := upd_n (by decide)
  have k13 : upd I 15 (Int32.ofNat cur.length) 13 = I 13 := upd_n (by decide)
  obtain ⟨g, e1, e2⟩ := tk_B (I := upd I 15 (Int32.ofNat cur.length)) (b := b) cur.reverse n A [] (by rw [k12, h1, List.length_reverse]; rfl) (by rw [List.reverse_reverse]; exact h2) (by rw [upd_s, List.length_reverse]; rfl) trivial (by rw [List.length_reverse]; exact hl) (by rw [List.length_reverse]; exact hl2) (by rw [List.length_reverse]; exact hn) (by rw [k13]; exact h13)
  refine ⟨_, _, e1, ⟨?_, ?_, ?_, ?_, by omega⟩, ⟨fun k hk => ?_, fun j hj => upA_ne (by omega)⟩, ?_, ?_, ?_, ?_, upA_ne (by decide), upA_ne (by decide)⟩
  · rw [upd_n (by decide), upd_s, k13, hcn, hA, hb, List.length_append]
  · rw [upA_ne (by decide), ← hb]
    exact ((At_app b 0 cur).mp h2).1
  · rw [upd_s, k13, h3, hol, o_p1]
  · rw [upA_ne (by decide), ← ho]
    exact ((At_app os 0 [b.length]).mp h4).1
  · rw [upd_n (by omega), upd_n (by omega), upd_n (by omega)]
  · rw [upd_n (by decide), upd_n (by decide), upd_s]
  · rw [upA_eq]
    exact e2
  · rw [upd_n (by decide), upd_n (by decide), upd_n (by decide)]
  · rw [upd_n (by decide), upd_n (by decide), upd_n (by decide)]
end CU
def Adw (I : Nat → Int32) (A : Nat → Nat → Int32) (b os cur : List Nat) (x : Option xR) : Prop := ∃ I' A', x = some (I', A', 0) ∧ CS I' A' b os cur ∧ FrC I A I' A' ∧ I' 14 = I 14 ∧ I' 15 = I 15 ∧ I' 16 = I 16 ∧ A' 30 = A 30 ∧ A' 31 = A 31 ∧ A' 32 = A 32
section CV
variable {I I' I2 : Nat → Int32} {A A' A2 : Nat → Nat → Int32} {b os cur u v l : List Nat} {c k i p q : Nat}
theorem Ads_w {x : Option xR} (h : Ads I A b os cur u x) : Adw I A b os (cur ++ u) x := h
theorem Adw_s {x : Option xR} (h : Adw I A b os (cur ++ u) x) : Ads I A b os cur u x := h
theorem Adw_b {x : Option xR} {F : (Nat → Int32) → (Nat → Nat → Int32) → Int32 → Option xR} (h1 : Adw I A b os u x) (h2 : ∀ I' A', CS I' A' b os u → FrC I A I' A' → Adw I' A' b os v (F I' A' 0)) : Adw I A b os v (xb x F) := by
  obtain ⟨I', A', e, h, f, g1, g2, g3, g4, g5, g6⟩ := h1
  obtain ⟨I2, A2, e2, k, f2, k1, k2, k3, k4, k5, k6⟩ := h2 I' A' h f
  exact ⟨I2, A2, (xb_some e).trans e2, k, FrC_t f f2, k1.trans g1, k2.trans g2, k3.trans g3, k4.trans g4, k5.trans g5, k6.trans g6⟩
theorem o_add (a b : Nat) : Int32.ofNat a + Int32.ofNat b = Int32.ofNat (a + b) := ty_add a b
theorem wr_55 : ∀ (r : List Nat) (n : Nat) (A : Nat → Nat → Int32) (w : List Nat), I 12 = Int32.ofNat (b.length + (r.length + w.length)) → At (A 28) 0 (b ++ r.reverse) → At (A 28) (b.length + r.length + 1) w → I 13 = Int32.ofNat os.length → At (A 29) 0 (os ++ [b.length]) → os.length < 19 → b.length + (r.length + w.length) + 4 ≤ 1100 → r.length < n → Adw I A b os (125 :: (r.reverse ++ w) ++ [123, 48 + k, 65 + p]) (x_addTold_55 n I A (Int32.ofNat p) (Int32.ofNat k) (Int32.ofNat (b.length + r.length)))
  | [], n, A, w, h12, ha, hw, h13, h29, h19, hb, hn => by
    obtain ⟨n, rfl⟩ : ∃ k, n = k + 1 := ⟨n - 1, by have : 0 < n := hn; omega⟩
    have hbt : A 29 os.length = Int32.ofNat b.length := by
      have := ((At_app os 0 [b.length]).mp h29).2.1
      rw [Nat.zero_add] at this
      exact this
    have hbb : b.length + w.length + 4 ≤ 1100 := by simpa using hb
    rw [x_addTold_55, h13, if_pos (j_in (by omega) (by omega)), (j_n (n := os.length) (by omega)).2, hbt, if_pos ((j_le (by simp; omega) (by omega)).mpr (by simp)), if_pos (j_in (by omega) (by omega)), (j_n (n := b.length) (by omega)).2]
    have h0 : CS (upd I 12 (I 12 + 1)) (upA A 28 (upd (A 28) b.length (Int32.ofNat 125))) b os (125 :: w) := by
      refine ⟨?_, ?_, ?_, ?_, h19⟩
      · rw [upd_s, h12, o1, List.length_cons]
        congr 1
        simp
        omega
      · rw [upA_eq, At_app, Nat.zero_add]
        refine ⟨At_fr b 0 (fun k _ hk => upd_n (by omega)) ?_, upd_s, At_fr w _ (fun k hk _ => upd_n (by omega)) hw⟩
        rw [List.reverse_nil, List.append_nil] at ha
        exact ha
      · rw [upd_n (by decide)]
        exact h13
      · rw [upA_ne (by decide)]
        exact h29
    have wl : (125 :: w).length = w.length + 1 := rfl
    have st := Ads_b (F := fun I1 A1 v1 => (xb (x_add I1 A1 (48 + Int32.ofNat k)) fun I2 A2 v2 => (xb (x_add I2 A2 (65 + Int32.ofNat p)) fun I3 A3 v3 => (some (I3, A3, 0))))) (u := [123]) (v := [48 + k] ++ ([65 + p] ++ [])) (s_add h0 (by omega)) (fun I1 A1 k1 _ _ _ _ _ _ _ => Ads_b (by
        rw [show (48 : Int32) = Int32.ofNat 48 from rfl, o_add]
        exact s_add k1 (by rw [List.length_append, List.length_singleton]; omega)) (fun I2 A2 k2 _ _ _ _ _ _ _ => Ads_b (by
          rw [show (65 : Int32) = Int32.ofNat 65 from rfl, o_add]
          exact s_add k2 (by rw [List.length_append, List.length_append, List.length_singleton, List.length_singleton]; omega)) (fun I3 A3 k3 _ _ _ _ _ _ _ => Ads_0 k3)))
    obtain ⟨I', A', e, h, f, g1, g2, g3, g4, g5, g6⟩ := st
    refine ⟨I', A', e, h, ⟨fun k hk => (f.1 k hk).trans (upd_n (by omega)), fun j hj => (f.2 j hj).trans (upA_ne (by omega))⟩, g1.trans (upd_n (by decide)), g2.trans (upd_n (by decide)), g3.trans (upd_n (by decide)), g4.trans (upA_ne (by decide)), g5.trans (upA_ne (by decide)), g6.trans (upA_ne (by decide))⟩
  | c :: r, n, A, w, h12, ha, hw, h13, h29, h19, hb, hn => by
    rw [List.length_cons] at h12 hw hb hn ⊢
    obtain ⟨n, rfl⟩ : ∃ k, n = k + 1 := ⟨n - 1, by omega⟩
    have hbt : A 29 os.length = Int32.ofNat b.length := by
      have := ((At_app os 0 [b.length]).mp h29).2.1
      rw [Nat.zero_add] at this
      exact this
    rw [List.reverse_cons, ← List.append_assoc, At_app] at ha
    have hc : A 28 (b.length + r.length) = Int32.ofNat c := by
      have := ha.2.1
      rw [List.length_append, List.length_reverse, Nat.zero_add] at this
      exact this
    rw [x_addTold_55, h13, if_pos (j_in (by omega) (by omega)), (j_n (n := os.length) (by omega)).2, hbt, if_neg (mt (j_le (by omega) (by omega)).mp (by omega)), ← Nat.add_assoc, o_p1, if_pos (j_in (by omega) (by omega)), if_pos (j_in (by omega) (by omega)), (j_n (n := b.length + r.length) (by omega)).2, (j_n (n := b.length + r.length + 1) (by omega)).2, hc, o_add_m1, o_p1]
    have := wr_55 r n (upA A 28 (upd (A 28) (b.length + r.length + 1) (Int32.ofNat c))) (c :: w) (by rw [h12, List.length_cons]; congr 1; omega) (by
      rw [upA_eq]
      exact At_fr _ 0 (fun k _ hk => upd_n (by rw [List.length_append, List.length_reverse] at hk; omega)) ha.1) (by
      rw [upA_eq]
      exact ⟨upd_s, At_fr w _ (fun k hk _ => upd_n (by omega)) hw⟩) h13 (by rw [upA_ne (by decide)]; exact h29) h19 (by rw [List.length_cons]; omega) (by omega)
    rw [List.reverse_cons, List.append_assoc]
    obtain ⟨I', A', e, h, f, g1, g2, g3, g4, g5, g6⟩ := this
    exact ⟨I', A', e, h, ⟨f.1, fun j hj => (f.2 j hj).trans (upA_ne (by omega))⟩, g1, g2, g3, g4.trans (upA_ne (by decide)), g5.trans (upA_ne (by decide)), g6.trans (upA_ne (by decide))⟩
theorem s_tell {n : Nat} (h : CS I A b os cur) (hb : b.length + cur.length + 5 ≤ 1100) (hq : q < 8) (hp : p < 8) (hk : k < 16) : Ads I A b os cur [59, 65 + q, 62, 48 + k, 33] (x_addTold n I A (Int32.ofNat p) (Int32.ofNat q) (Int32.ofNat k) (Int32.ofNat p)) := by
  unfold x_addTold
  rw [if_pos rfl, show (65 : Int32) + Int32.ofNat q = Int32.ofNat (65 + q) from o_add 65 q, show (48 : Int32) + Int32.ofNat k = Int32.ofNat (48 + k) from o_add 48 k]
  have cl : ∀ x, (cur ++ [x]).length = cur.length + 1 := fun x => by rw [List.length_append]; rfl
  refine Ads_b (u := [59]) (v := [65 + q] ++ ([62] ++ ([48 + k] ++ ([33] ++ [])))) (s_add h (by omega)) (fun I1 A1 k1 _ _ _ _ _ _ _ => ?_)
  refine Ads_b (s_add k1 (by simp only [List.length_append, List.length_singleton]; omega)) (fun I1 A1 k1 _ _ _ _ _ _ _ => ?_)
  refine Ads_b (s_add k1 (by simp only [List.length_append, List.length_singleton]; omega)) (fun I1 A1 k1 _ _ _ _ _ _ _ => ?_)
  refine Ads_b (s_add k1 (by simp only [List.length_append, List.length_singleton]; omega)) (fun I1 A1 k1 _ _ _ _ _ _ _ => ?_)
  refine Ads_b (s_add k1 (by simp only [List.length_append, List.length_singleton]; omega)) (fun I1 A1 k1 _ _ _ _ _ _ _ => ?_)
  exact Ads_0 k1
theorem s_told {n : Nat} (h : CS I A b os cur) (hb : b.length + cur.length + 4 ≤ 1100) (hq : q < 8) (hp : p < 8) (hne : q ≠ p) (hn : cur.length < n) : Adw I A b os (125 :: cur ++ [123, 48 + k, 65 + p]) (x_addTold n I A (Int32.ofNat p) (Int32.ofNat q) (Int32.ofNat k) (Int32.ofNat q)) := by
  obtain ⟨h1, h2, h3, h4, h5⟩ := h
  unfold x_addTold
  rw [if_neg (mt (j_eq (by omega) (by omega)).mp hne), if_pos rfl, h1]
  have := wr_55 (I := I) (b := b) (os := os) (k := k) (p := p) cur.reverse n A [] (by rw [h1, List.length_reverse]; rfl) (by rw [List.reverse_reverse]; exact h2) trivial h3 h4 h5 (by rw [List.length_reverse]; simpa using hb) (by rw [List.length_reverse]; exact hn)
  rw [List.reverse_reverse, List.append_nil, List.length_reverse] at this
  exact this
theorem s_no {n o : Nat} (h : CS I A b os cur) (ho : o < 8) (hq : q < 8) (hp : p < 8) (h1 : o ≠ p) (h2 : o ≠ q) : Adw I A b os cur (x_addTold n I A (Int32.ofNat p) (Int32.ofNat q) (Int32.ofNat k) (Int32.ofNat o)) := by
  unfold x_addTold
  rw [if_neg (mt (j_eq (by omega) (by omega)).mp h1), if_neg (mt (j_eq (by omega) (by omega)).mp h2)]
  have := Ads_0 h
  unfold Ads at this
  rw [List.append_nil] at this
  exact this
end CV
