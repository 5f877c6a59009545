section C8
variable {S S0 : hS} {p q k h z j a n m pos b i : Nat} {I : Nat → Int32} {B0 : Nat → Nat → Int32} {K Kr : Nat → Fo} {Q Q' : Nat → Nat → List Nat} {T la : List Nat} {v w : Int32} {ks r ks' r' x : Fo} {L' : List (Fo × Fo)} {E : Option Nat} {Y : Nat → Option (hS × Int32)} {X : Nat → Option xR}
theorem case_7b {w' : List Nat} (hx : Fix S) (hv6 : ∀ i, i < 24 → zAI S 6 i = zMA S 34 i) (hR : RnS S K Q Kr) (h : AtN S p (tx 0 (K p)) a n ks r ks' r' L' E j la) (hk : cK n = 7) (hq : ks = cn 0 x .nil) (z3 : zI S 3 (7 + 3 * p) = 1) (hb : b = 0 ∨ b = 1) (z4 : zI S 4 (7 + 3 * p) = Int32.ofNat b) (b38 : zMA S 38 p = Int32.ofNat b) (hi : i < 6) (hbit : (cD n).testBit i = true) (z5 : zI S 5 (7 + 3 * p) = Int32.ofNat i) (b37 : zMA S 37 p = Int32.ofNat pos) (hsp : Sfx (tx 0 (K p)) pos (ldf (cD n) (6 - i) i ++ 123 :: w')) (hpos : pos + (ldf (cD n) (6 - i) i).length = j + 1 + (xt (cE n) ++ ldl (cD n)).length) (hK : Kr p = telF b (cD n) (6 - i) i (if b = 1 then ap x (cn n ks (ap r (remL L'))) else ap r (remL L'))) : OutS S p K (fun m => yT_goOn m S 2 (Int32.ofNat p) (some a)) (fun m => x_stepRound m (zM0 S) (zMA S) (Int32.ofNat p) (Int32.ofNat j)) := by
  obtain ⟨hp, ht, nd, hw, hs, hl, he, h36, h2⟩ := h
  have hQ0 := hR.1
  obtain ⟨r0, r1, r8, q1, q2, q3⟩ := hQ0
  obtain ⟨h, z, a1, a2, a3, a4, a5, a6, a7⟩ := q3 p i hp hi
  have hsp' := hsp
  rw [ldf_n (6 - i) i (by omega), nxl_s hi hbit] at hsp' hpos
  have hsp2 : Sfx (tx 0 (K p)) pos ((65 + i) :: (ldf (cD n) (5 - i) (i + 1) ++ 123 :: w')) := hsp'
  have hpos2 : pos + (ldf (cD n) (5 - i) (i + 1)).length + 1 = j + 1 + (xt (cE n) ++ ldl (cD n)).length := hpos
  have gro := fun m (hm : 20 ≤ m) => gro_1 (m := m) hx hp nd.1 z3 z5 hi rfl q1 r8 a3 a1 a4 a2 hm
  have sr := fun m => sr_1 (m := m) (j := j) (I := zM0 S) ht hi b37 hsp2 a5 q2 a2 r8
  by_cases zr : z < r0
  · have hk36 : 6 * p + i < 36 := by omega
    have c0 : Chg p (6 * p + i) S (szI (eqS S (6 * p + i) h z (zI S 4 (7 + 3 * p)) 1) 5 (7 + 3 * p) (nxv (nxl (cD n) (5 - i) (i + 1)))) := Chg_t Chg_e (Chg_P hp)
    have cr0 : ChR p (6 * p + i) (zM0 S) (zM0 S) (zMA S) (gqA (zMA S) p (6 * p + i) z (zMA S 38 p) (pos + 1)) := ChR_t (ChR_g (by omega)) (ChR_p (A := gvA (zMA S) (6 * p + i) z (zMA S 38 p) 1) (i := 37) (by omega))
    have e4 : zI (szI (eqS S (6 * p + i) h z (zI S 4 (7 + 3 * p)) 1) 5 (7 + 3 * p) (nxv (nxl (cD n) (5 - i) (i + 1)))) 4 (7 + 3 * p) = Int32.ofNat b := by
      rw [zI_k (by decide)]
      unfold eqS
      rw [zI_ne (by omega)]
      exact z4
    have e3 : zI (szI (eqS S (6 * p + i) h z (zI S 4 (7 + 3 * p)) 1) 5 (7 + 3 * p) (nxv (nxl (cD n) (5 - i) (i + 1)))) 3 (7 + 3 * p) = 1 := by
      rw [zI_k (by decide)]
      unfold eqS
      rw [zI_ne (by omega)]
      exact z3
    have e5 : zI (szI (eqS S (6 * p + i) h z (zI S 4 (7 + 3 * p)) 1) 5 (7 + 3 * p) (nxv (nxl (cD n) (5 - i) (i + 1)))) 5 (7 + 3 * p) = nxv (nxl (cD n) (5 - i) (i + 1)) := zI_self _ 5 _ _
    have st5 : zI (szI (eqS S (6 * p + i) h z (zI S 4 (7 + 3 * p)) 1) 5 (7 + 3 * p) (nxv (nxl (cD n) (5 - i) (i + 1)))) 5 2 = zI S 5 2 := by
      rw [zI_ne (by omega)]
      unfold eqS
      rw [zI_ne (by omega)]
      rfl
    have g37 : gqA (zMA S) p (6 * p + i) z (zMA S 38 p) (pos + 1) 37 p = Int32.ofNat (pos + 1) := by
      unfold gqA
      rw [upA_j, upd_s]
    have hv6' : ∀ i', i' < 24 → zAI (szI (eqS S (6 * p + i) h z (zI S 4 (7 + 3 * p)) 1) 5 (7 + 3 * p) (nxv (nxl (cD n) (5 - i) (i + 1)))) 6 i' = gqA (zMA S) p (6 * p + i) z (zMA S 38 p) (pos + 1) 34 i' := fun i' hi' => by
      have e1 : zAI (szI (eqS S (6 * p + i) h z (zI S 4 (7 + 3 * p)) 1) 5 (7 + 3 * p) (nxv (nxl (cD n) (5 - i) (i + 1)))) 6 = zAI S 6 := by
        show zAI (szAI (szAI S (26 + 3 * (6 * p + i)) _) (27 + 3 * (6 * p + i)) _) 6 = _
        rw [zAI_n (by omega), zAI_n (by omega)]
      rw [e1]
      exact hv6 i' hi'
    have hQ : QQ (szM (szI (eqS S (6 * p + i) h z (zI S 4 (7 + 3 * p)) 1) 5 (7 + 3 * p) (nxv (nxl (cD n) (5 - i) (i + 1)))) (zM0 S) (gqA (zMA S) p (6 * p + i) z (zMA S 38 p) (pos + 1))) (upQ Q p i (Q p i ++ [b + 1])) := by
      refine QQ_ch (p0 := p) hp hp hi rfl c0 cr0 hR.1 (fun r hr' _ r8' => ?_)
      have : r = r0 := by
        rw [q1] at hr'
        have := congrArg Int32.toInt hr'
        rw [(j_n (by omega)).1, (j_n (by omega)).1] at this
        omega
      subst this
      have hds : Dsc (b + 1) (zMA S 38 p) 1 := Or.inr ⟨b, by omega, rfl, rfl, b38⟩
      have g := QK_give (I := zM0 S) a1 zr r8 a3 a5 a6 a7 hds
      rw [z4, ← b38]
      refine QK_eq (S := szM (eqS S (6 * p + i) h z (zMA S 38 p) 1) (zM0 S) (gvA (zMA S) (6 * p + i) z (zMA S 38 p) 1)) ?_ ?_ rfl rfl rfl (fun i _ => ⟨rfl, rfl⟩) r8 g
      · show zI (szI (eqS S (6 * p + i) h z (zMA S 38 p) 1) 5 (7 + 3 * p) (nxv (nxl (cD n) (5 - i) (i + 1)))) 2 (25 + 3 * (6 * p + i)) = zI (eqS S (6 * p + i) h z (zMA S 38 p) 1) 2 (25 + 3 * (6 * p + i))
        exact zI_ne (by omega)
      · show zI (szI (eqS S (6 * p + i) h z (zMA S 38 p) 1) 5 (7 + 3 * p) (nxv (nxl (cD n) (5 - i) (i + 1)))) 3 (25 + 3 * (6 * p + i)) = zI (eqS S (6 * p + i) h z (zMA S 38 p) 1) 3 (25 + 3 * (6 * p + i))
        exact zI_ne (by omega)
    have hK2 : Kr p = cn (cd 4 0 b i 0 0) .nil (telF b (cD n) (5 - i) (i + 1) (if b = 1 then ap x (cn n ks (ap r (remL L'))) else ap r (remL L'))) := by
      rw [hK, telF_n (6 - i) i (by omega), nxl_s hi hbit]
    have hG := Gd_tell hR.2.1 hp hK2 (cd_K (by decide))
    rw [cd_O (by decide) (by decide) (by omega) (by omega), cd_L (by decide) (by decide) (by omega)] at hG
    have yx : ∃ N, ∀ m, N ≤ m → (∀ y b', b' = 0 ∨ b' = 1 → yT_goRound_85 2 m (szI (eqS S (6 * p + i) h z (zI S 4 (7 + 3 * p)) 1) 5 (7 + 3 * p) (nxv (nxl (cD n) (5 - i) (i + 1)))) (some a) (some (7 + 3 * p)) = some (y, b') → yT_goOn m S 2 (Int32.ofNat p) (some a) = some (y, b')) ∧ x_stepRound m (zM0 S) (zMA S) (Int32.ofNat p) (Int32.ofNat j) = x_stepRound_98 m (zM0 S) (gqA (zMA S) p (6 * p + i) z (zMA S 38 p) (pos + 1)) (Int32.ofNat p) := ⟨20, fun m hm => ⟨fun y b' hb' hy => go_7 hx hp nd.1 hk hb' (((gro m hm).1 zr).trans hy), (sr m).1 zr⟩⟩
    cases ho : nxl (cD n) (5 - i) (i + 1) with
    | none =>
      rw [ho] at c0 e3 e4 e5 hQ st5 yx hv6'
      rw [telF_n (5 - i) (i + 1) (by omega), ho] at hG
      rw [ldf_n (5 - i) (i + 1) (by omega), ho] at hpos2
      exact round_fin hx hR hp hk36 c0 cr0 nd hw hk hq hs hl he hb e5 e4 g37 b38 hpos2 (TX_ga ht) hQ hG hv6' st5 rfl yx
    | some i' =>
      rw [ho] at c0 e3 e4 e5 hQ st5 yx hv6'
      obtain ⟨_, i6, ib⟩ := nxl_lt (5 - i) (i + 1) (by omega) i' ho
      rw [(telF_j (by omega) ho).1] at hG
      have el := (telF_j (l := 0) (x := .nil) (by omega) ho).2
      rw [el] at hsp2 hpos2
      exact round_go hx hR hp hk36 c0 cr0 nd hw hk hq hs hl he h2 h36 hb e3 e5 i6 ib e4 g37 b38 (by omega) (Sfx_c hsp2) (TX_ga ht) hQ hG hv6' st5 rfl yx
  · have zr' : z = r0 := by omega
    exact wait_o hx hv6 hR (fun _ _ _ => rfl) ⟨20, fun m hm => ⟨go_7 hx hp nd.1 hk (Or.inl rfl) ((gro m hm).2 zr'), (sr m).2 zr'⟩⟩
theorem sof {c : Nat} {X : Nat → Option xR} (ht : TX (zMA S) p T) (h36 : zMA S 36 p = Int32.ofNat j) (hs : Sfx T j (c :: la)) (hX : X = if c = 33 then (fun m => x_stepTell m (zM0 S) (zMA S) (Int32.ofNat p) (Int32.ofNat j)) else if c = 63 then (fun m => x_stepChoice m (zM0 S) (zMA S) (Int32.ofNat p) (Int32.ofNat j)) else if c = 64 then (fun m => x_stepRound m (zM0 S) (zMA S) (Int32.ofNat p) (Int32.ofNat j)) else if ptc c = true then (fun m => x_stepMessage m (zM0 S) (zMA S) (Int32.ofNat p) (Int32.ofNat j)) else (fun m => x_stepValue m (zM0 S) (zMA S) (Int32.ofNat p) (Int32.ofNat j))) (hz : zM0 S 18 = 0 ∨ zM0 S 18 = 1) {I : Nat → Int32} {B : Nat → Nat → Int32} {d : Int32} (hd : d = 0 ∨ d = 1) (h18 : I 18 = zM0 S 18) (hm : X m = some (I, B, d)) : x_stepOf m (zM0 S) (zMA S) (Int32.ofNat p) = some (upd I 18 (if d = 1 then 1 else zM0 S 18), B, d) := by
  have hp := ht.1
  have hl := ht.2.2.2.1
  have hm' := Sgt_m (Sfx_w hs)
  have c1 := ht.2.2.2.2 _ hm'.2
  have fin : (if I 18 = 0 then (if d = 1 then (some (upd I 18 1, B, d)) else (some (upd I 18 0, B, d))) else (some (upd I 18 1, B, d)) : Option xR) = some (upd I 18 (if d = 1 then 1 else zM0 S 18), B, d) := by
    rw [h18]
    rcases hz with e | e
    · rw [e, if_pos rfl]
      rcases hd with rfl | rfl
      · rfl
      · rfl
    · rw [e, if_neg (by decide)]
      rcases hd with rfl | rfl
      · rfl
      · rfl
  unfold x_stepOf
  rw [if_pos (j_in (by omega) hp), (j_n (n := p) (by omega)).2, h36, ht.2.1, if_pos ((j_lt (by omega) (by omega)).mpr hm'.1)]
  refine (xb_some (chr ht (by omega))).trans ?_
  rw [Sgt_g (Sfx_w hs)]
  by_cases k1 : c = 33
  · rw [if_pos k1] at hX
    rw [if_pos ((cq33 c1).mpr k1)]
    rw [hX] at hm
    exact (xb_some hm).trans fin
  rw [if_neg k1] at hX
  rw [if_neg (mt (cq33 c1).mp k1)]
  by_cases k2 : c = 63
  · rw [if_pos k2] at hX
    rw [if_pos ((cq63 c1).mpr k2)]
    rw [hX] at hm
    exact (xb_some hm).trans fin
  rw [if_neg k2] at hX
  rw [if_neg (mt (cq63 c1).mp k2)]
  by_cases k3 : c = 64
  · rw [if_pos k3] at hX
    rw [if_pos ((cq64 c1).mpr k3)]
    rw [hX] at hm
    exact (xb_some hm).trans fin
  rw [if_neg k3] at hX
  rw [if_neg (mt (cq64 c1).mp k3), pty_o c1]
  cases k4 : ptc c with
  | true =>
    rw [if_pos k4] at hX
    rw [if_neg (by decide)]
    rw [hX] at hm
    exact (xb_some hm).trans fin
  | false =>
    rw [if_neg (by rw [k4]; decide)] at hX
    rw [if_pos (by decide)]
    rw [hX] at hm
    exact (xb_some hm).trans fin
theorem hd_c (hv : Hv n) : ∃ c l, hdt n = c :: l ∧ (cK n = 1 → c ≠ 33 ∧ c ≠ 63 ∧ c ≠ 64 ∧ ptc c = false) ∧ (cK n = 2 → c ≠ 33 ∧ c ≠ 63 ∧ c ≠ 64 ∧ ptc c = false) ∧ (cK n = 3 ∨ cK n = 5 ∨ cK n = 8 → c ≠ 33 ∧ c ≠ 63 ∧ c ≠ 64 ∧ ptc c = true) ∧ (cK n = 4 → c = 33) ∧ (cK n = 6 → c = 63) ∧ (cK n = 7 → c = 64) := by
  have pt : ∀ o, o < 6 → ptc (65 + o) = true := fun o ho => by
    unfold ptc
    rw [decide_eq_true]
    omega
  have vl := cV_lt n
  rcases hv with ⟨k, _, hx⟩ | ⟨k, _, ho, hx⟩ | ⟨k, _, ho⟩ | ⟨k, _, ho, hl⟩ | ⟨k, _, ho⟩ | ⟨k, _, hx⟩ | ⟨k, _, hx⟩ | ⟨k, _, ho⟩
  · refine ⟨_, _, hdk_1 k, fun _ => ⟨by omega, by omega, by omega, ?_⟩, fun e => by omega, fun e => by omega, fun e => by omega, fun e => by omega, fun e => by omega⟩
    unfold ptc
    rw [decide_eq_false]
    omega
  · cases hxt : xt (cE n) with
    | nil => exact absurd hxt hx.1
    | cons c l =>
      have hc := xch_f (hx.2.2 c (by rw [hxt]; simp))
      refine ⟨c, l ++ [62, 65 + cO n, 59], by rw [hdk_2 k, hxt]; rfl, fun e => by omega, fun _ => ⟨hc.2.2.2.2.2.2.2.1, hc.2.2.2.2.2.2.2.2.1, hc.2.2.2.2.2.2.2.2.2.1, hc.2.2.2.1⟩, fun e => by omega, fun e => by omega, fun e => by omega, fun e => by omega⟩
  · exact ⟨_, _, hdk_3 k, fun e => by omega, fun e => by omega, fun _ => ⟨by omega, by omega, by omega, pt _ ho⟩, fun e => by omega, fun e => by omega, fun e => by omega⟩
  · exact ⟨_, _, hdk_4 k, fun e => by omega, fun e => by omega, fun e => by omega, fun _ => rfl, fun e => by omega, fun e => by omega⟩
  · exact ⟨_, _, hv_5 k, fun e => by omega, fun e => by omega, fun _ => ⟨by omega, by omega, by omega, pt _ ho⟩, fun e => by omega, fun e => by omega, fun e => by omega⟩
  · exact ⟨_, _, hv_6 k, fun e => by omega, fun e => by omega, fun e => by omega, fun e => by omega, fun _ => rfl, fun e => by omega⟩
  · exact ⟨_, _, hv_7 k, fun e => by omega, fun e => by omega, fun e => by omega, fun e => by omega, fun e => by omega, fun _ => rfl⟩
  · exact ⟨_, _, hv_8 k, fun e => by omega, fun e => by omega, fun _ => ⟨by omega, by omega, by omega, pt _ ho⟩, fun e => by omega, fun e => by omega, fun e => by omega⟩
end C8
