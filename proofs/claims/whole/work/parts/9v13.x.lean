def FrU (I : Nat → Int32) (A : Nat → Nat → Int32) (I' : Nat → Int32) (A' : Nat → Nat → Int32) : Prop := (∀ k, k < 12 ∨ 16 < k → I' k = I k) ∧ (∀ j, j < 28 ∨ 32 < j → j ≠ 42 → A' j = A j)
section UN
variable {I I' I2 : Nat → Int32} {A A' A2 : Nat → Nat → Int32} {D : Nat → Nat}
theorem FrU_c (h : FrC I A I' A') : FrU I A I' A' := ⟨h.1, fun j hj _ => h.2 j hj⟩
theorem FrU_t (h1 : FrU I A I' A') (h2 : FrU I' A' I2 A2) : FrU I A I2 A2 := ⟨fun k hk => (h2.1 k hk).trans (h1.1 k hk), fun j hj hj2 => (h2.2 j hj hj2).trans (h1.2 j hj hj2)⟩
theorem FrU_r : FrU I A I A := ⟨fun _ _ => rfl, fun _ _ _ => rfl⟩
theorem u53 {rec4 : (Nat → Int32) → (Nat → Nat → Int32) → Int32 → Int32 → Int32 → Option xR} {l1 l2 l3 : Int32} : ∀ (v : List Nat) (m : Nat) (A : Nat → Nat → Int32) (u : List Nat), I 12 = Int32.ofNat (v.length + u.length) → At (A 28) 0 v.reverse → At (A 31) 0 u → v.length + u.length ≤ 1000 → ∃ g, x_unaware_53 rec4 (m + v.length) I A l1 l2 l3 (Int32.ofNat u.length) = x_unaware_53 rec4 m I (upA A 31 g) l1 l2 l3 (Int32.ofNat (v.length + u.length)) ∧ At g 0 (u ++ v)
  | [], m, A, u, _, _, hu, _ => ⟨A 31, by rw [upA_id]; simp, by rw [List.append_nil]; exact hu⟩
  | c :: v, m, A, u, h12, ha, hu, hl => by
    rw [List.length_cons] at h12 hl ⊢
    rw [List.reverse_cons, At_app] at ha
    have hc : A 28 v.length = Int32.ofNat c := by
      have := ha.2.1
      rw [List.length_reverse, Nat.zero_add] at this
      exact this
    have e12 : I 12 - 1 - Int32.ofNat u.length = Int32.ofNat v.length := by
      rw [h12, o_s1 (by omega), o_sub (by omega)]
      congr 1
      omega
    rw [← Nat.add_assoc, x_unaware_53, h12, if_neg (mt (j_le (by omega) (by omega)).mp (by omega)), ← h12, e12, if_pos (j_in (by omega) (by omega)), if_pos (j_in (by omega) (by omega)), (j_n (n := u.length) (by omega)).2, (j_n (n := v.length) (by omega)).2, hc, o1]
    obtain ⟨g, e1, e2⟩ := u53 (rec4 := rec4) (l1 := l1) (l2 := l2) (l3 := l3) v m (upA A 31 (upd (A 31) u.length (Int32.ofNat c))) (u ++ [c]) (by rw [h12, List.length_append, List.length_singleton]; congr 1; omega) (by rw [upA_ne (by decide)]; exact ha.1) (by rw [upA_eq]; exact At_put hu) (by rw [List.length_append, List.length_singleton]; omega)
    rw [List.length_append, List.length_singleton, upA_u] at e1
    rw [List.append_assoc] at e2
    refine ⟨g, ?_, e2⟩
    rw [e1, show v.length + (u.length + 1) = v.length + 1 + u.length by omega, ← h12]
theorem u126 {rec4 : (Nat → Int32) → (Nat → Nat → Int32) → Int32 → Int32 → Int32 → Option xR} {l1 l2 l3 l4 : Int32} : ∀ (v : List Nat) (m : Nat) (A : Nat → Nat → Int32) (u : List Nat), I 12 = Int32.ofNat (v.length + u.length) → At (A 28) 0 v.reverse → At (A 30) 0 u → v.length + u.length ≤ 1000 → ∃ g, x_unaware_126 rec4 (m + v.length) I A l1 l2 l3 l4 (Int32.ofNat u.length) = x_unaware_126 rec4 m I (upA A 30 g) l1 l2 l3 l4 (Int32.ofNat (v.length + u.length)) ∧ At g 0 (u ++ v)
  | [], m, A, u, _, _, hu, _ => ⟨A 30, by rw [upA_id]; simp, by rw [List.append_nil]; exact hu⟩
  | c :: v, m, A, u, h12, ha, hu, hl => by
    rw [List.length_cons] at h12 hl ⊢
    rw [List.reverse_cons, At_app] at ha
    have hc : A 28 v.length = Int32.ofNat c := by
      have := ha.2.1
      rw [List.length_reverse, Nat.zero_add] at this
      exact this
    have e12 : I 12 - 1 - Int32.ofNat u.length = Int32.ofNat v.length := by
      rw [h12, o_s1 (by omega), o_sub (by omega)]
      congr 1
      omega
    rw [← Nat.add_assoc, x_unaware_126, h12, if_neg (mt (j_le (by omega) (by omega)).mp (by omega)), ← h12, e12, if_pos (j_in (by omega) (by omega)), if_pos (j_in (by omega) (by omega)), (j_n (n := u.length) (by omega)).2, (j_n (n := v.length) (by omega)).2, hc, o1]
    obtain ⟨g, e1, e2⟩ := u126 (rec4 := rec4) (l1 := l1) (l2 := l2) (l3 := l3) (l4 := l4) v m (upA A 30 (upd (A 30) u.length (Int32.ofNat c))) (u ++ [c]) (by rw [h12, List.length_append, List.length_singleton]; congr 1; omega) (by rw [upA_ne (by decide)]; exact ha.1) (by rw [upA_eq]; exact At_put hu) (by rw [List.length_append, List.length_singleton]; omega)
    rw [List.length_append, List.length_singleton, upA_u] at e1
    rw [List.append_assoc] at e2
    refine ⟨g, ?_, e2⟩
    rw [e1, show v.length + (u.length + 1) = v.length + 1 + u.length by omega, ← h12]
theorem kpB : ∀ (v : List Nat) (n : Nat) (A : Nat → Nat → Int32) (u : List Nat), At (A 31) u.length v → At (A 42) 0 u → v.length + u.length ≤ 1000 → v.length < n → ∃ g, x_keepB_2 n I A (Int32.ofNat (v.length + u.length)) (Int32.ofNat u.length) = some (I, upA A 42 g, 0) ∧ At g 0 (u ++ v)
  | [], n, A, u, _, hu, hl, hn => by
    obtain ⟨n, rfl⟩ : ∃ k, n = k + 1 := ⟨n - 1, by have : 0 < n := hn; omega⟩
    have hl' : u.length ≤ 1000 := by simpa using hl
    refine ⟨A 42, ?_, by rw [List.append_nil]; exact hu⟩
    rw [x_keepB_2, upA_id, if_pos ((j_le (by simp; omega) (by omega)).mpr (by simp))]
  | c :: v, n, A, u, ha, hu, hl, hn => by
    rw [List.length_cons] at hl hn ⊢
    obtain ⟨n, rfl⟩ : ∃ k, n = k + 1 := ⟨n - 1, by omega⟩
    rw [x_keepB_2, if_neg (mt (j_le (by omega) (by omega)).mp (by omega)), if_pos (j_in (by omega) (by omega)), (j_n (n := u.length) (by omega)).2, ha.1, o1]
    have ul : (u ++ [c]).length = u.length + 1 := by rw [List.length_append]; rfl
    obtain ⟨g, e1, e2⟩ := kpB v n (upA A 42 (upd (A 42) u.length (Int32.ofNat c))) (u ++ [c]) (by rw [upA_ne (by decide), ul]; exact ha.2) (by rw [upA_eq]; exact At_put hu) (by omega) (by omega)
    rw [ul, upA_u, show v.length + (u.length + 1) = v.length + 1 + u.length by omega] at e1
    rw [List.append_assoc] at e2
    exact ⟨g, e1, e2⟩
theorem ftB : ∀ (v : List Nat) (n : Nat) (A : Nat → Nat → Int32) (u : List Nat), At (A 42) u.length v → At (A 31) 0 u → v.length + u.length ≤ 1000 → v.length < n → ∃ g, x_fetchB_7 n I A (Int32.ofNat (v.length + u.length)) (Int32.ofNat u.length) = some (I, upA A 31 g, 0) ∧ At g 0 (u ++ v)
  | [], n, A, u, _, hu, hl, hn => by
    obtain ⟨n, rfl⟩ : ∃ k, n = k + 1 := ⟨n - 1, by have : 0 < n := hn; omega⟩
    have hl' : u.length ≤ 1000 := by simpa using hl
    refine ⟨A 31, ?_, by rw [List.append_nil]; exact hu⟩
    rw [x_fetchB_7, upA_id, if_pos ((j_le (by simp; omega) (by omega)).mpr (by simp))]
  | c :: v, n, A, u, ha, hu, hl, hn => by
    rw [List.length_cons] at hl hn ⊢
    obtain ⟨n, rfl⟩ : ∃ k, n = k + 1 := ⟨n - 1, by omega⟩
    rw [x_fetchB_7, if_neg (mt (j_le (by omega) (by omega)).mp (by omega)), if_pos (j_in (by omega) (by omega)), (j_n (n := u.length) (by omega)).2, ha.1, o1]
    have ul : (u ++ [c]).length = u.length + 1 := by rw [List.length_append]; rfl
    obtain ⟨g, e1, e2⟩ := ftB v n (upA A 31 (upd (A 31) u.length (Int32.ofNat c))) (u ++ [c]) (by rw [upA_ne (by decide), ul]; exact ha.2) (by rw [upA_eq]; exact At_put hu) (by omega) (by omega)
    rw [ul, upA_u, show v.length + (u.length + 1) = v.length + 1 + u.length by omega] at e1
    rw [List.append_assoc] at e2
    exact ⟨g, e1, e2⟩
def bq (g : Nat → Bool) : Nat → Nat
  | 0 => 0
  | q + 1 => bq g q + (if g q then 2 ^ q else 0)
theorem bq_6 (g : Nat → Bool) : bq g 6 = bts g := by
  unfold bts
  show 0 + (if g 0 = true then 2 ^ 0 else 0) + (if g 1 = true then 2 ^ 1 else 0) + (if g 2 = true then 2 ^ 2 else 0) + (if g 3 = true then 2 ^ 3 else 0) + (if g 4 = true then 2 ^ 4 else 0) + (if g 5 = true then 2 ^ 5 else 0) = _
  rw [Nat.zero_add]
theorem bq_lt (g : Nat → Bool) : ∀ q, bq g q < 2 ^ q
  | 0 => Nat.zero_lt_one
  | q + 1 => by
    have := bq_lt g q
    rw [bq, Nat.pow_succ]
    split <;> omega
theorem bor_o : ∀ q, q < 6 → ∀ a, a < 2 ^ q → (Int32.ofNat a ||| ((1 : Int32) <<< (Int32.ofNat q &&& 31))) = Int32.ofNat (a + 2 ^ q) := by decide +kernel
theorem un_step {h e1 e2 s q n a : Nat} {t1 t2 : Fo} (hs : PWb s) (p1 : PW D t1) (p2 : PW D t2) (hh : h < 198) (h4 : A 4 h = Int32.ofNat (cD s)) (h10 : A 10 h = Int32.ofNat e1) (h11 : A 11 h = Int32.ofNat e2) (c1 : IC A D t1 (h + 2) e1) (c2 : IC A D t2 (e1 + 2) e2) (l1 : e1 ≤ 198) (l2 : e2 ≤ 200) (w : wt D t1 + wt D t2 ≤ 900) (d1 : dpt t1 < 18) (d2 : dpt t2 < 18) (hq : q < 6) (hn : 5000 ≤ n) (ha : a < 2 ^ q) : ∃ I' A', x_unaware_4 (n + 1) I A (Int32.ofNat h) (Int32.ofNat a) (Int32.ofNat q) = x_unaware_4 n I' A' (Int32.ofNat h) (Int32.ofNat (a + (if (!decide (q = cD s) && (J true (cut D t1 q) (cut D t2 q)).isNone) = true then 2 ^ q else 0))) (Int32.ofNat (q + 1)) ∧ FrU I A I' A' := by
  rw [x_unaware_4, if_neg (show ¬ (6 : Int32) ≤ Int32.ofNat q from mt (j_le (m := 6) (by decide) (by omega)).mp (by omega)), if_pos (j_in (by omega) (by omega)), (j_n (n := h) (by omega)).2, h4, h10, h11, o1]
  by_cases e : q = cD s
  · rw [if_pos (show Int32.ofNat q = Int32.ofNat (cD s) by rw [e]), decide_eq_true e, Bool.not_true, Bool.false_and, if_neg (by decide), Nat.add_zero]
    exact ⟨I, A, rfl, FrU_r⟩
  · rw [if_neg (mt (j_eq (by omega) (by have := hs.1; omega)).mp e), decide_eq_false e, Bool.not_false, Bool.true_and, show (2 : Int32) = Int32.ofNat 2 from rfl, o_add]
    have k1 := cut_len hq t1 p1
    have k2 := cut_len hq t2 p2
    obtain ⟨I1, A1, x1, y1, f1⟩ := x_cut_ok (I := I) (n := n) hq p2 c2 l2 (by omega) d2 (by omega)
    obtain ⟨m, rfl⟩ : ∃ m, n = (m + 1) + (tx 0 (cut D t2 q)).length := ⟨n - (tx 0 (cut D t2 q)).length - 1, by omega⟩
    have i12 : I1 12 = Int32.ofNat (tx 0 (cut D t2 q)).length := by
      have := y1.1
      rw [List.length_reverse] at this
      rw [this]
      congr 1
      simp
    obtain ⟨g1, z1, w1⟩ := u53 (I := upd I1 15 (I1 12)) (rec4 := x_unaware_4 ((m + 1) + (tx 0 (cut D t2 q)).length)) (l1 := Int32.ofNat h) (l2 := Int32.ofNat a) (l3 := Int32.ofNat q) (tx 0 (cut D t2 q)) (m + 1) A1 [] (by rw [upd_n (by decide), i12]; rfl) y1.2.1 trivial (by simp; omega)
    rw [List.nil_append] at w1
    have k15 : upd I1 15 (I1 12) 15 = Int32.ofNat (tx 0 (cut D t2 q)).length := upd_s.trans i12
    have k12 : upd I1 15 (I1 12) 12 = Int32.ofNat (tx 0 (cut D t2 q)).length := (upd_n (by decide)).trans i12
    obtain ⟨g2, z2, w2⟩ := kpB (I := upd I1 15 (I1 12)) (tx 0 (cut D t2 q)) m (upA A1 31 g1) [] (by rw [upA_eq]; exact w1) trivial (by simp; omega) (by omega)
    rw [List.nil_append] at w2
    have f2 : FrU I A (upd I1 15 (I1 12)) (upA (upA A1 31 g1) 42 g2) := ⟨fun k hk => (upd_n (by omega)).trans (f1.1 k hk), fun j hj hj2 => by rw [upA_ne hj2, upA_ne (by omega)]; exact f1.2 j hj⟩
    have c1' : IC (upA (upA A1 31 g1) 42 g2) D t1 (h + 2) e1 := IC_e (fun j hj => f2.2 j (by omega) (by omega)) t1 p1 _ _ c1
    obtain ⟨I3, A3, x3, y3, f3⟩ := x_cut_ok (I := upd I1 15 (I1 12)) (n := m) hq p1 c1' (by omega) (by omega) d1 (by omega)
    have i12' : I3 12 = Int32.ofNat (tx 0 (cut D t1 q)).length := by
      have := y3.1
      rw [List.length_reverse] at this
      rw [this]
      congr 1
      simp
    obtain ⟨m', hm'⟩ : ∃ m', m = (m' + 1) + (tx 0 (cut D t1 q)).length := ⟨m - (tx 0 (cut D t1 q)).length - 1, by omega⟩
    obtain ⟨g3, z3, w3⟩ := u126 (I := upd I3 14 (I3 12)) (rec4 := x_unaware_4 ((m + 1) + (tx 0 (cut D t2 q)).length)) (l1 := Int32.ofNat h) (l2 := Int32.ofNat a) (l3 := Int32.ofNat q) (l4 := Int32.ofNat (tx 0 (cut D t2 q)).length) (tx 0 (cut D t1 q)) (m' + 1) A3 [] (by rw [upd_n (by decide), i12']; rfl) y3.2.1 trivial (by simp; omega)
    rw [List.nil_append] at w3
    have a42 : At (upA A3 30 g3 42) 0 (tx 0 (cut D t2 q)) := by
      rw [upA_ne (by decide), f3.2 42 (by omega), upA_eq]
      exact w2
    obtain ⟨g4, z4, w4⟩ := ftB (I := upd (upd I3 14 (I3 12)) 15 (Int32.ofNat (tx 0 (cut D t2 q)).length)) (tx 0 (cut D t2 q)) m' (upA A3 30 g3) [] a42 trivial (by simp; omega) (by omega)
    rw [List.nil_append] at w4
    have hj := join_ok (I := upd (upd I3 14 (I3 12)) 15 (Int32.ofNat (tx 0 (cut D t2 q)).length)) (A := upA (upA A3 30 g3) 31 g4) (n := m') (cut_so t1 p1 q) (cut_so t2 p2 q) (cut_wk t1 p1 q) (cut_wk t2 p2 q) (by rw [upd_n (by decide), upd_s]; exact i12') upd_s (by rw [upA_ne (by decide), upA_eq]; exact w3) (by rw [upA_eq]; exact w4) (by omega) (by omega)
    have f4 : FrU I A (upd (upd I3 14 (I3 12)) 15 (Int32.ofNat (tx 0 (cut D t2 q)).length)) (upA (upA A3 30 g3) 31 g4) := ⟨fun k hk => by rw [upd_n (by omega), upd_n (by omega), f3.1 k hk]; exact f2.1 k hk, fun j hj hj2 => by rw [upA_ne (by omega), upA_ne (by omega), f3.2 j hj]; exact f2.2 j hj hj2⟩
    have start : (xb (x_cut ((m + 1) + (tx 0 (cut D t2 q)).length) I A (Int32.ofNat q) (Int32.ofNat (e1 + 2)) (Int32.ofNat e2)) fun I1 A1 v1 => x_unaware_53 (x_unaware_4 ((m + 1) + (tx 0 (cut D t2 q)).length)) ((m + 1) + (tx 0 (cut D t2 q)).length) (upd I1 15 (I1 12)) A1 (Int32.ofNat h) (Int32.ofNat a) (Int32.ofNat q) 0) = xb (x_join m' (upd (upd I3 14 (I3 12)) 15 (Int32.ofNat (tx 0 (cut D t2 q)).length)) (upA (upA A3 30 g3) 31 g4)) fun I2 A2 v2 => (if v2 = 0 then (x_unaware_4 ((m + 1) + (tx 0 (cut D t2 q)).length) I2 A2 (Int32.ofNat h) (Int32.ofNat a ||| (1 <<< (Int32.ofNat q &&& 31))) (Int32.ofNat (q + 1))) else (x_unaware_4 ((m + 1) + (tx 0 (cut D t2 q)).length) I2 A2 (Int32.ofNat h) (Int32.ofNat a) (Int32.ofNat (q + 1)))) := by
      refine (xb_some x1).trans ?_
      refine (show _ = x_unaware_53 (x_unaware_4 ((m + 1) + (tx 0 (cut D t2 q)).length)) (m + 1) (upd I1 15 (I1 12)) (upA A1 31 g1) (Int32.ofNat h) (Int32.ofNat a) (Int32.ofNat q) (Int32.ofNat ((tx 0 (cut D t2 q)).length + ([] : List Nat).length)) from z1).trans ?_
      rw [x_unaware_53, k12, if_pos ((j_le (by omega) (by simp; omega)).mpr (by simp)), k15]
      have zk : x_keepB m (upd I1 15 (I1 12)) (upA A1 31 g1) (Int32.ofNat (tx 0 (cut D t2 q)).length) = some (upd I1 15 (I1 12), upA (upA A1 31 g1) 42 g2, 0) := z2
      refine (xb_some zk).trans ?_
      rw [if_pos (j_in (by omega) (by omega)), (j_n (n := h) (by omega)).2, f2.2 10 (by omega) (by omega), h10, show (2 : Int32) = Int32.ofNat 2 from rfl, o_add]
      refine (xb_some x3).trans ?_
      rw [← hm'] at z3
      refine (show _ = x_unaware_126 (x_unaware_4 ((m + 1) + (tx 0 (cut D t2 q)).length)) (m' + 1) (upd I3 14 (I3 12)) (upA A3 30 g3) (Int32.ofNat h) (Int32.ofNat a) (Int32.ofNat q) (Int32.ofNat (tx 0 (cut D t2 q)).length) (Int32.ofNat ((tx 0 (cut D t1 q)).length + ([] : List Nat).length)) from z3).trans ?_
      rw [x_unaware_126, if_pos (show upd I3 14 (I3 12) 12 ≤ Int32.ofNat ((tx 0 (cut D t1 q)).length + ([] : List Nat).length) by rw [upd_n (by decide), i12']; exact (j_le (by omega) (by simp; omega)).mpr (by simp))]
      have zf : x_fetchB m' (upd I3 14 (I3 12)) (upA A3 30 g3) (Int32.ofNat (tx 0 (cut D t2 q)).length) = some (upd (upd I3 14 (I3 12)) 15 (Int32.ofNat (tx 0 (cut D t2 q)).length), upA (upA A3 30 g3) 31 g4, 0) := z4
      refine (xb_some zf).trans ?_
      rw [o1]
    rw [start]
    cases hJ : J true (cut D t1 q) (cut D t2 q) with
    | none =>
      obtain ⟨g, o, r1⟩ := hj.2 hJ
      refine ⟨upd (upd (upd I3 14 (I3 12)) 15 (Int32.ofNat (tx 0 (cut D t2 q)).length)) 16 o, upA (upA (upA A3 30 g3) 31 g4) 32 g, (xb_some r1).trans ?_, FrU_t f4 ⟨fun k hk => upd_n (by omega), fun j hj _ => upA_ne (by omega)⟩⟩
      rw [if_pos rfl, bor_o q hq a ha]
      rfl
    | some c =>
      obtain ⟨g, r1, _⟩ := hj.1 c hJ
      refine ⟨upd (upd (upd I3 14 (I3 12)) 15 (Int32.ofNat (tx 0 (cut D t2 q)).length)) 16 (Int32.ofNat (tx 0 c).length), upA (upA (upA A3 30 g3) 31 g4) 32 g, (xb_some r1).trans ?_, FrU_t f4 ⟨fun k hk => upd_n (by omega), fun j hj _ => upA_ne (by omega)⟩⟩
      rw [if_neg (by decide)]
      rfl
end UN
