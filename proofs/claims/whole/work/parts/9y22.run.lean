section SV
variable {A : Nat → Nat → Int32} {I : Nat → Int32} {T w : List Nat} {p j n m k z r k' : Nat} {ks t x : Fo} {V : Nat → Int32} {L : List Fo}
theorem hdk_1 (h : cK n = 1) : hdt n = (119 + cV n) :: 58 :: (xt (cE n) ++ [59]) := by unfold hdt; rw [if_pos h]
theorem hdk_2 (h : cK n = 2) : hdt n = xt (cE n) ++ [62, 65 + cO n, 59] := by unfold hdt; rw [if_neg (by omega), if_pos h]
theorem hdk_3 (h : cK n = 3) : hdt n = [65 + cO n, 62, 119 + cV n, 59] := by unfold hdt; rw [if_neg (by omega), if_neg (by omega), if_pos h]
theorem hdk_4 (h : cK n = 4) : hdt n = [33, 48 + cL n, 62, 65 + cO n, 59] := by unfold hdt; rw [if_neg (by omega), if_neg (by omega), if_neg (by omega), if_pos h]
theorem sub65 {o : Nat} : Int32.ofNat (65 + o) - 65 = Int32.ofNat o := by
  have := o_sub (i := 65 + o) (j := 65) (by omega)
  rw [Nat.add_sub_cancel_left] at this
  exact this
theorem sub48 {o : Nat} : Int32.ofNat (48 + o) - 48 = Int32.ofNat o := by
  have := o_sub (i := 48 + o) (j := 48) (by omega)
  rw [Nat.add_sub_cancel_left] at this
  exact this
theorem ixv {v : Nat} : (4 : Int32) * Int32.ofNat p + Int32.ofNat (119 + v) - 119 = Int32.ofNat (4 * p + v) := by
  rw [show (4 : Int32) = Int32.ofNat 4 from rfl, ← Int32.ofNat_mul, ty_add]
  have := o_sub (i := 4 * p + (119 + v)) (j := 119) (by omega)
  rw [show 4 * p + (119 + v) - 119 = 4 * p + v by omega] at this
  exact this
theorem o2 {i : Nat} : Int32.ofNat i + 2 = Int32.ofNat (i + 2) := ty_add i 2
theorem o3 {i : Nat} : Int32.ofNat i + 3 = Int32.ofNat (i + 3) := ty_add i 3
theorem o4 {i : Nat} : Int32.ofNat i + 4 = Int32.ofNat (i + 4) := ty_add i 4
theorem o5 {i : Nat} : Int32.ofNat i + 5 = Int32.ofNat (i + 5) := ty_add i 5
theorem TX_u {q : Nat} {f : Nat → Int32} (hq : q ≠ 26 ∧ q ≠ 27) (h : TX A p T) : TX (upA A q f) p T := by
  refine TX_e ?_ ?_ h
  · unfold upA
    rw [if_neg (Ne.symm hq.1)]
  · unfold upA
    rw [if_neg (Ne.symm hq.2)]
theorem TX_g {v b : Int32} (h : TX A p T) : TX (gvA A k z v b) p T := TX_u (by decide) (TX_u (by decide) (TX_u (by decide) h))
theorem sv_1 (ht : TX A p T) (hk : cK n = 1) (hX : Xok (cE n)) (hV : ∀ v, v < 4 → V v = A 34 (4 * p + v)) (hs : Sfx T j (hdt n ++ w)) (hst : StO T (j + (hdt n).length) k') : ∃ N I', (∀ m, N ≤ m → x_stepValue m I A (Int32.ofNat p) (Int32.ofNat j) = some (I', sA (upA A 34 (upd (A 34) (4 * p + cV n) (evx V (xt (cE n))))) p k', 1)) ∧ ∀ i, i ≠ 19 → i ≠ 20 → I' i = I i := by
  obtain ⟨N, hst⟩ := hst
  have hv := cV_lt n
  have hp := ht.1
  have hl := ht.2.2.2.1
  rw [hdk_1 hk] at hs hst
  have hs' : Sfx T j ((119 + cV n) :: 58 :: (xt (cE n) ++ 59 :: w)) := by simpa using hs
  have s2 := Sfx_c (Sfx_c hs')
  have hle := Sfx_le hs'
  rw [List.length_cons, List.length_cons, List.length_append, List.length_cons] at hle
  obtain ⟨I', w1, w2, w3, w4⟩ := work_ok (I := I) ht hV s2 hX.2.1.2 (by show fgc 59 = false; decide) (by show opc 59 = false; decide)
  refine ⟨N + 10, I', fun m hm => ?_, w4⟩
  unfold x_stepValue
  rw [o1]
  refine (xb_some (chr ht (by omega))).trans ?_
  rw [Sgt_g (Sfx_w (Sfx_c hs')), if_pos (by decide), o2]
  refine (xb_some (w1 m (by omega))).trans ?_
  refine (xb_some (chr ht (by omega))).trans ?_
  rw [Sgt_g (Sfx_w hs'), ixv, if_pos (j_in (by omega) (by omega)), (j_n (n := 4 * p + cV n) (by omega)).2, w2, w3, o1]
  have e : j + ((119 + cV n) :: 58 :: (xt (cE n) ++ [59])).length = j + 2 + (xt (cE n)).length + 1 := by simp; omega
  rw [e] at hst
  refine (xb_some (hst m (by omega) _ _ p (TX_u (by decide) ht))).trans ?_
  rfl
theorem sv_2 (ht : TX A p T) (hk : cK n = 2) (ho : cO n < 6) (hX : Xok (cE n)) (hV : ∀ v, v < 4 → V v = A 34 (4 * p + v)) (hs : Sfx T j (hdt n ++ w)) (hst : StO T (j + (hdt n).length) k') (hz : A 39 (6 * p + cO n) = Int32.ofNat z) (hr : I 17 = Int32.ofNat r) (zr : z ≤ r) (r8 : r ≤ 8) : ∃ N I', (∀ m, N ≤ m → (z < r → x_stepValue m I A (Int32.ofNat p) (Int32.ofNat j) = some (I', sA (gvA A (6 * p + cO n) z (evx V (xt (cE n))) 0) p k', 1)) ∧ (z = r → x_stepValue m I A (Int32.ofNat p) (Int32.ofNat j) = some (I', A, 0))) ∧ ∀ i, i ≠ 19 → i ≠ 20 → I' i = I i := by
  obtain ⟨N, hst⟩ := hst
  have hp := ht.1
  have hl := ht.2.2.2.1
  rw [hdk_2 hk] at hs hst
  have hs' : Sfx T j (xt (cE n) ++ 62 :: (65 + cO n) :: 59 :: w) := by simpa using hs
  have s2 := Sfx_r hs'
  have hle := Sfx_le hs'
  rw [List.length_append, List.length_cons, List.length_cons] at hle
  have hlen : 0 < (xt (cE n)).length := List.length_pos_iff.mpr hX.1
  obtain ⟨I', w1, w2, w3, w4⟩ := work_ok (I := I) ht hV hs' hX.2.1.2 (by show fgc 62 = false; decide) (by show opc 62 = false; decide)
  have hc : T.getD (j + 1) 0 ≠ 58 := by
    rw [Sfx_g (i := 1) hs']
    cases hxt : xt (cE n) with
    | nil => exact absurd hxt hX.1
    | cons c l => cases l with
      | nil => exact (by decide : (62 : Nat) ≠ 58)
      | cons d l => exact (xch_f (hX.2.2 d (by rw [hxt]; simp))).2.2.2.2.2.1
  have c1 : T.getD (j + 1) 0 < 256 := getD_s ht.2.2.2.2
  have fl := full_ok (I := I') (A := A) hp ho rfl hz (by rw [w4 17 (by decide) (by decide)]; exact hr) zr r8
  have e : j + (xt (cE n) ++ [62, 65 + cO n, 59]).length = j + (xt (cE n)).length + 3 := by simp; omega
  rw [e] at hst
  have key : ∀ m, N + 10 ≤ m → x_stepValue m I A (Int32.ofNat p) (Int32.ofNat j) = if z < r then some (I', sA (gvA A (6 * p + cO n) z (evx V (xt (cE n))) 0) p k', 1) else some (I', A, 0) := by
    intro m hm
    unfold x_stepValue
    rw [o1]
    refine (xb_some (chr ht (by omega))).trans ?_
    rw [if_neg (mt (cq58 c1).mp hc)]
    refine (xb_some (w1 m (by omega))).trans ?_
    rw [w2, o1]
    refine (xb_some (chr ht (by omega))).trans ?_
    rw [Sgt_g (Sfx_w (Sfx_c s2)), sub65]
    refine (xb_some fl).trans ?_
    by_cases q : z < r
    · rw [if_pos q, if_pos rfl, if_pos q]
      refine (xb_some (give_ok hp ho rfl hz (by omega) (Or.inl rfl))).trans ?_
      rw [w2, w3, o3]
      exact (xb_some (hst m (by omega) _ _ p (TX_g ht))).trans rfl
    · rw [if_neg q, if_neg (by decide), if_neg q]
  exact ⟨N + 10, I', fun m hm => ⟨fun q => by rw [key m hm, if_pos q], fun q => by rw [key m hm, if_neg (by omega)]⟩, w4⟩
theorem st_4 (ht : TX A p T) (hk : cK n = 4) (ho : cO n < 6) (hL : cL n < 10) (hs : Sfx T j (hdt n ++ w)) (hst : StO T (j + (hdt n).length) k') (hz : A 39 (6 * p + cO n) = Int32.ofNat z) (hr : I 17 = Int32.ofNat r) (zr : z ≤ r) (r8 : r ≤ 8) : ∃ N, ∀ m, N ≤ m → (z < r → x_stepTell m I A (Int32.ofNat p) (Int32.ofNat j) = some (I, sA (gvA A (6 * p + cO n) z (Int32.ofNat (cL n)) 1) p k', 1)) ∧ (z = r → x_stepTell m I A (Int32.ofNat p) (Int32.ofNat j) = some (I, A, 0)) := by
  obtain ⟨N, hst⟩ := hst
  have hp := ht.1
  have hl := ht.2.2.2.1
  rw [hdk_4 hk] at hs hst
  have hs' : Sfx T j (33 :: (48 + cL n) :: 62 :: (65 + cO n) :: 59 :: w) := hs
  have hle := Sfx_le hs'
  rw [List.length_cons, List.length_cons, List.length_cons, List.length_cons, List.length_cons] at hle
  have fl := full_ok (I := I) (A := A) hp ho rfl hz hr zr r8
  refine ⟨N + 10, fun m hm => ?_⟩
  have key : x_stepTell m I A (Int32.ofNat p) (Int32.ofNat j) = if z < r then some (I, sA (gvA A (6 * p + cO n) z (Int32.ofNat (cL n)) 1) p k', 1) else some (I, A, 0) := by
    unfold x_stepTell
    rw [o3, o1, o5]
    refine (xb_some (chr ht (by omega))).trans ?_
    rw [show T.getD (j + 3) 0 = 65 + cO n from Sgt_g (Sfx_w (Sfx_c (Sfx_c (Sfx_c hs')))), sub65]
    refine (xb_some fl).trans ?_
    by_cases q : z < r
    · rw [if_pos q, if_pos rfl, if_pos q]
      refine (xb_some (chr ht (by omega))).trans ?_
      rw [Sgt_g (Sfx_w (Sfx_c hs')), sub48]
      refine (xb_some (give_ok hp ho rfl hz (by omega) (Or.inr rfl))).trans ?_
      exact (xb_some (hst m (by omega) _ _ p (TX_g ht))).trans rfl
    · rw [if_neg q, if_neg (by decide), if_neg q]
  exact ⟨fun q => by rw [key, if_pos q], fun q => by rw [key, if_neg (by omega)]⟩
theorem sc_6 {y : Fo} {k0 k1 : Nat} (ht : TX A p T) (hX : Xok (cE n)) (bx : Blc (tx 0 x)) (hV : ∀ v, v < 4 → V v = A 34 (4 * p + v)) (hs : Sfx T j (63 :: (xt (cE n) ++ 123 :: (tx 0 x ++ 125 :: 123 :: (tx 0 y ++ 125 :: w))))) (h0 : StO T (j + 1 + (xt (cE n)).length + 1) k0) (h1 : StO T (j + 1 + (xt (cE n)).length + 1 + (tx 0 x).length + 1 + 1) k1) : ∃ N I', (∀ m, N ≤ m → x_stepChoice m I A (Int32.ofNat p) (Int32.ofNat j) = some (I', sA A p (if evx V (xt (cE n)) = 0 then k1 else k0), 1)) ∧ ∀ i, i ≠ 19 → i ≠ 20 → I' i = I i := by
  obtain ⟨N0, h0⟩ := h0
  obtain ⟨N1, h1⟩ := h1
  have hp := ht.1
  have hl := ht.2.2.2.1
  have s1 := Sfx_c hs
  have s2 := Sfx_r s1
  have hle := Sfx_le s2
  rw [List.length_cons, List.length_append] at hle
  obtain ⟨I', w1, w2, w3, w4⟩ := work_ok (I := I) ht hV s1 hX.2.1.2 (by show fgc 123 = false; decide) (by show opc 123 = false; decide)
  refine ⟨N0 + N1 + T.length + 20, I', fun m hm => ?_, w4⟩
  unfold x_stepChoice
  rw [o1]
  refine (xb_some (w1 m (by omega))).trans ?_
  rw [w2]
  refine (xb_some (closing_ok (N := m) ht (Sfx_w s2) bx (by omega))).trans ?_
  rw [w3, w2]
  by_cases q : evx V (xt (cE n)) = 0
  · rw [if_pos q, if_pos q, o2]
    rw [show j + 1 + (xt (cE n)).length + 1 + (tx 0 x).length + 1 + 1 = j + 1 + (xt (cE n)).length + 1 + (tx 0 x).length + 2 by omega] at h1
    exact (xb_some (h1 m (by omega) A I' p ht)).trans rfl
  · rw [if_neg q, if_neg q, o1]
    exact (xb_some (h0 m (by omega) A I' p ht)).trans rfl
end SV
