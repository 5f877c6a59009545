def rA (A : Nat → Nat → Int32) (p b pos : Nat) : Nat → Nat → Int32 := upA (upA A 38 (upd (A 38) p (Int32.ofNat b))) 37 (upd (A 37) p (Int32.ofNat pos))
def gqA (A : Nat → Nat → Int32) (p k z : Nat) (b : Int32) (pos : Nat) : Nat → Nat → Int32 := upA (gvA A k z b 1) 37 (upd (A 37) p (Int32.ofNat pos))
section SR
variable {A A' : Nat → Nat → Int32} {I : Nat → Int32} {T w la : List Nat} {p j n m k z r k' i d b pos : Nat} {ks t x : Fo} {V : Nat → Int32} {L : List Fo}
theorem s98_n {o : Nat} (ht : TX A p T) (h37 : A 37 p = Int32.ofNat pos) (hs : Sfx T pos ((65 + o) :: w)) (ho : o < 6) : x_stepRound_98 m I A (Int32.ofNat p) = some (I, A, 1) := by
  have hp := ht.1
  have hl := ht.2.2.2.1
  have hm := (Sgt_m (Sfx_w hs)).1
  unfold x_stepRound_98
  rw [if_pos (j_in (by omega) hp), (j_n (n := p) (by omega)).2, h37]
  refine (xb_some (chr ht (by omega))).trans ?_
  rw [Sgt_g (Sfx_w hs), if_neg (mt (cq123 (by omega)).mp (by omega))]
theorem s98_0 {k0 k1 : Nat} (ht : TX A p T) (h37 : A 37 p = Int32.ofNat pos) (h38 : A 38 p = Int32.ofNat b) (hb : b = 0 ∨ b = 1) (bx : Blc (tx 0 x)) (hs : Sfx T pos (123 :: (tx 0 x ++ 125 :: w))) (h0 : StO T (pos + 1 + (tx 0 x).length + 1) k0) (h1 : StO T (pos + 1) k1) : ∃ N, ∀ m, N ≤ m → x_stepRound_98 m I A (Int32.ofNat p) = some (I, sA A p (if b = 1 then k1 else k0), 1) := by
  obtain ⟨N0, h0⟩ := h0
  obtain ⟨N1, h1⟩ := h1
  have hp := ht.1
  have hl := ht.2.2.2.1
  have hle := Sfx_le hs
  rw [List.length_cons, List.length_append] at hle
  refine ⟨N0 + N1 + T.length + 20, fun m hm => ?_⟩
  unfold x_stepRound_98
  rw [if_pos (j_in (by omega) hp), (j_n (n := p) (by omega)).2, h37]
  refine (xb_some (chr ht (by omega))).trans ?_
  rw [Sgt_g (Sfx_w hs), if_pos (by decide), h38]
  rcases hb with rfl | rfl
  · rw [if_neg (by decide), if_neg (by decide)]
    refine (xb_some (closing_ok (N := m) ht (Sfx_w hs) bx (by omega))).trans ?_
    rw [o1]
    exact (xb_some (h0 m (by omega) A I p ht)).trans rfl
  · rw [if_pos (by decide), if_pos rfl, o1]
    exact (xb_some (h1 m (by omega) A I p ht)).trans rfl
theorem TX_r (h : TX A p T) : TX (rA A p b pos) p T := TX_u (by decide) (TX_u (by decide) h)
theorem TX_ga {v : Int32} (h : TX A p T) : TX (gqA A p k z v pos) p T := TX_u (by decide) (TX_g h)
theorem sr_0 (ht : TX A p T) (hX : Xok (cE n)) (hV : ∀ v, v < 4 → V v = A 34 (4 * p + v)) (hs : Sfx T j (64 :: ((xt (cE n) ++ ldl (cD n)) ++ 123 :: w))) (h37 : A 37 p = -1) : ∃ I', (∀ m, 10 ≤ m → x_stepRound m I A (Int32.ofNat p) (Int32.ofNat j) = x_stepRound_98 m I' (rA A p (if evx V (xt (cE n)) = 0 then 0 else 1) (j + 1 + (xt (cE n)).length)) (Int32.ofNat p)) ∧ ∀ i, i ≠ 19 → i ≠ 20 → I' i = I i := by
  have hp := ht.1
  have hl := ht.2.2.2.1
  have s1 := Sfx_c hs
  rw [List.append_assoc] at s1
  have hh : fgc ((ldl (cD n) ++ 123 :: w).headD 0) = false ∧ opc ((ldl (cD n) ++ 123 :: w).headD 0) = false := by
    cases q : ldl (cD n) with
    | nil => exact (by decide : fgc 123 = false ∧ opc 123 = false)
    | cons c l =>
      have := ldl_m (d := cD n) (c := c) (by rw [q]; simp)
      show fgc c = false ∧ opc c = false
      unfold fgc opc
      refine ⟨?_, ?_⟩ <;> rw [decide_eq_false] <;> omega
  obtain ⟨I', w1, w2, w3, w4⟩ := work_ok (I := I) ht hV s1 hX.2.1.2 hh.1 hh.2
  refine ⟨I', fun m hm => ?_, w4⟩
  unfold x_stepRound
  rw [if_pos (j_in (by omega) hp), (j_n (n := p) (by omega)).2, h37, if_pos rfl, o1]
  refine (xb_some (w1 m hm)).trans ?_
  rw [w3, w2]
  by_cases q : evx V (xt (cE n)) = 0
  · rw [if_pos q, if_pos q]
    rfl
  · rw [if_neg q, if_neg q]
    rfl
theorem sr_1 (ht : TX A p T) (hi : i < 6) (h37 : A 37 p = Int32.ofNat pos) (hs : Sfx T pos ((65 + i) :: w)) (hz : A 39 (6 * p + i) = Int32.ofNat z) (hr : I 17 = Int32.ofNat r) (zr : z ≤ r) (r8 : r ≤ 8) : (z < r → x_stepRound m I A (Int32.ofNat p) (Int32.ofNat j) = x_stepRound_98 m I (gqA A p (6 * p + i) z (A 38 p) (pos + 1)) (Int32.ofNat p)) ∧ (z = r → x_stepRound m I A (Int32.ofNat p) (Int32.ofNat j) = some (I, A, 0)) := by
  have hp := ht.1
  have hl := ht.2.2.2.1
  have hm := (Sgt_m (Sfx_w hs)).1
  have fl := full_ok (I := I) (A := A) hp hi rfl hz hr zr r8
  have ne : ¬ Int32.ofNat pos = -1 := fun e => by
    have := congrArg Int32.toInt e
    rw [(j_n (by omega)).1, show (-1 : Int32).toInt = -1 by decide] at this
    omega
  have key : x_stepRound m I A (Int32.ofNat p) (Int32.ofNat j) = if z < r then x_stepRound_98 m I (gqA A p (6 * p + i) z (A 38 p) (pos + 1)) (Int32.ofNat p) else some (I, A, 0) := by
    unfold x_stepRound
    rw [if_pos (j_in (by omega) hp), (j_n (n := p) (by omega)).2, h37, if_neg ne]
    refine (xb_some (chr ht (by omega))).trans ?_
    rw [Sgt_g (Sfx_w hs), sub65]
    refine (xb_some fl).trans ?_
    by_cases q : z < r
    · rw [if_pos q, if_pos rfl, if_pos q]
      refine (xb_some (give_ok hp hi rfl hz (by omega) (Or.inr rfl))).trans ?_
      rw [show gvA A (6 * p + i) z (A 38 p) 1 37 = A 37 from rfl, h37, o1]
      rfl
    · rw [if_neg q, if_neg (by decide), if_neg q]
  exact ⟨fun q => by rw [key, if_pos q], fun q => by rw [key, if_neg (by omega)]⟩
theorem search (ht : TX A p T) (hi : i < 10) : ∀ (cs : Fo), So false cs → WK false cs → ∀ (k N : Nat), gid i cs = some x → Sfx T k (tx 1 cs ++ w) → (tx 1 cs).length + 4 ≤ N → ∃ M, N ≤ M + (tx 1 cs).length ∧ x_stepMessage_126 N I A (Int32.ofNat p) (Int32.ofNat i) (Int32.ofNat k) = x_stepMessage_167 M I A (Int32.ofNat p) (Int32.ofNat (k + kpo i cs)) := fun cs hs => So_ind (P := fun m cs => m = false → WK false cs → ∀ (k N : Nat), gid i cs = some x → Sfx T k (tx 1 cs ++ w) → (tx 1 cs).length + 4 ≤ N → ∃ M, N ≤ M + (tx 1 cs).length ∧ x_stepMessage_126 N I A (Int32.ofNat p) (Int32.ofNat i) (Int32.ofNat k) = x_stepMessage_167 M I A (Int32.ofNat p) (Int32.ofNat (k + kpo i cs))) (fun m _ _ k N hg => by cases hg) (fun m l y r s1 s2 _ _ ih hm hw k N hg hx hN => by
    subst hm
    obtain ⟨w1, w2, w3⟩ := hw
    have hl := ht.2.2.2.1
    have hle := Sfx_le hx
    rw [tx_1] at hx hN hle ⊢
    have e : (48 + l) :: 123 :: (tx 0 y ++ 125 :: tx 1 r) ++ w = (48 + l) :: 123 :: (tx 0 y ++ 125 :: (tx 1 r ++ w)) := by simp
    have e2 : ((48 + l) :: 123 :: (tx 0 y ++ 125 :: tx 1 r)).length = (tx 0 y).length + (tx 1 r).length + 3 := by simp; omega
    have ek : kpo i (cn l y r) = if i = l then 0 else (tx 0 y).length + 3 + kpo i r := rfl
    rw [e] at hx
    rw [List.length_append] at hle
    rw [e2] at hN hle ⊢
    obtain ⟨N, rfl⟩ : ∃ M, N = M + 1 := ⟨N - 1, by omega⟩
    have g0 := Sgt_g (Sfx_w hx)
    have g1 := Sgt_g (Sfx_w (Sfx_c hx))
    have st : x_stepMessage_126 (N + 1) I A (Int32.ofNat p) (Int32.ofNat i) (Int32.ofNat k) = if Int32.ofNat l = Int32.ofNat i then x_stepMessage_167 N I A (Int32.ofNat p) (Int32.ofNat k) else xb (x_closing N I A (Int32.ofNat p) (Int32.ofNat k + 1)) fun I3 A3 v3 => x_stepMessage_126 N I3 A3 (Int32.ofNat p) (Int32.ofNat i) (v3 + 1) := by
      rw [x_stepMessage_126]
      refine (xb_some (isCase_ok ht (by omega))).trans ?_
      rw [g0, g1, show fgc (48 + l) = true by unfold fgc; rw [decide_eq_true]; omega, show (true && decide (123 = 123)) = true by decide, if_neg (by decide)]
      refine (xb_some (chr ht (by omega))).trans ?_
      rw [g0, sub48]
    rw [gid_cn] at hg
    by_cases q : i = l
    · subst q
      refine ⟨N, by omega, ?_⟩
      rw [st, if_pos rfl, ek, if_pos rfl, Nat.add_zero]
    · rw [if_neg q] at hg
      rw [st, if_neg (mt (cq (by omega) (e := i) (by omega) rfl).mp (fun z => q z.symm)), ek, if_neg q, o1]
      have b := (tx_blc y true s1 w2).1 rfl
      obtain ⟨M, h1, h2⟩ := ih rfl w3 (k + 1 + 1 + (tx 0 y).length + 1) N hg (by
        have := Sfx_r (Sfx_c (Sfx_c hx))
        exact Sfx_c this) (by omega)
      refine ⟨M, by omega, ?_⟩
      refine (xb_some (closing_ok (N := N) ht (Sfx_w (Sfx_c hx)) b (by omega))).trans ?_
      rw [o1, h2, show k + 1 + 1 + (tx 0 y).length + 1 + kpo i r = k + ((tx 0 y).length + 3 + kpo i r) by omega]) cs false hs rfl
theorem sm_0 (ht : TX A p T) (hs : Sfx T j ((65 + d) :: w)) (hd : d < 6) (hz : A 39 (6 * d + p) = 0) : x_stepMessage m I A (Int32.ofNat p) (Int32.ofNat j) = some (I, A, 0) := by
  have hp := ht.1
  have hl := ht.2.2.2.1
  have hm := (Sgt_m (Sfx_w hs)).1
  unfold x_stepMessage
  refine (xb_some (chr ht (by omega))).trans ?_
  rw [Sgt_g (Sfx_w hs), sub65, ixq hd hp, if_pos (j_in (by omega) (by omega)), (j_n (n := 6 * d + p) (by omega)).2, if_pos hz]
theorem TX_f (hf : FtA A A' k z) (h : TX A p T) : TX A' p T := TX_e (hf.1 26 (by decide) (by decide) (by decide)) (hf.1 27 (by decide) (by decide) (by decide)) h
theorem sm_pre {c : Nat} (ht : TX A p T) (hs : Sfx T j ((65 + d) :: c :: w)) (hd : d < 6) (hk : k = 6 * d + p) (hz : A 39 k = Int32.ofNat z) (z1 : 1 ≤ z) (z8 : z ≤ 8) (hb : ∀ j, j < z → A 41 (8 * k + j) = 0 ∨ A 41 (8 * k + j) = 1) : ∃ A', FtA A A' k z ∧ ∀ m, 20 ≤ m → x_stepMessage m I A (Int32.ofNat p) (Int32.ofNat j) = (if Int32.ofNat c = 62 then (xb (x_charAt I A' (Int32.ofNat p) (Int32.ofNat (j + 2))) fun I4 A4 v4 => (if ib (((4 * Int32.ofNat p) + v4) - 119) 24 then (xb (x_stand m I4 (upA A4 34 (upd (A4 34) (Int32.toNatClampNeg (((4 * Int32.ofNat p) + v4) - 119)) (A 40 (8 * k)))) (Int32.ofNat p) (Int32.ofNat (j + 4))) fun I5 A5 v5 => (some (I5, A5, 1))) else none)) else (if Int32.ofNat c = 64 then (if A 40 (8 * k) = 1 then (xb (x_stand m I A' (Int32.ofNat p) (Int32.ofNat (j + 3))) fun I6 A6 v6 => (some (I6, A6, 1))) else (xb (x_closing m I A' (Int32.ofNat p) (Int32.ofNat (j + 2))) fun I7 A7 v7 => (xb (x_stand m I7 A7 (Int32.ofNat p) (v7 + 1)) fun I8 A8 v8 => (some (I8, A8, 1))))) else (x_stepMessage_126 m I A' (Int32.ofNat p) (A 40 (8 * k)) (Int32.ofNat (j + 1))))) := by
  have hp := ht.1
  have hl := ht.2.2.2.1
  have hle := (Sgt_m (Sfx_w (Sfx_c hs))).1
  obtain ⟨A', f1, f2⟩ := fetch_ok (I := I) hp hd hk hz z1 z8 hb
  refine ⟨A', f2, fun m hm => ?_⟩
  have ht' := TX_f f2 ht
  subst hk
  unfold x_stepMessage
  refine (xb_some (chr ht (by omega))).trans ?_
  rw [Sgt_g (Sfx_w hs), sub65, ixq hd hp, if_pos (j_in (by omega) (by omega)), (j_n (n := 6 * d + p) (by omega)).2, hz, if_neg (fun e => by
    have := (cq0 (c := z) (by omega)).mp e
    omega)]
  refine (xb_some (f1 m hm)).trans ?_
  rw [o1]
  refine (xb_some (chr ht' (by omega))).trans ?_
  rw [Sgt_g (Sfx_w (Sfx_c hs)), o2, o3, o4]
end SR
