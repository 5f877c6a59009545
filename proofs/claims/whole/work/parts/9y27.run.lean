section C7
variable {S S0 : hS} {p q k h z j a n m pos b i : Nat} {I : Nat → Int32} {B0 : Nat → Nat → Int32} {K Kr : Nat → Fo} {Q Q' : Nat → Nat → List Nat} {T la : List Nat} {v w : Int32} {ks r ks' r' x : Fo} {L' : List (Fo × Fo)} {E : Option Nat} {Y : Nat → Option (hS × Int32)} {X : Nat → Option xR}
theorem telF_j {l d f i0 : Nat} (hi : i0 + f = 6) (h : nxl d f i0 = some i) : telF l d f i0 x = telF l d (6 - i) i x ∧ ldf d f i0 = ldf d (6 - i) i := by
  obtain ⟨h1, h2, h3⟩ := nxl_lt f i0 hi i h
  have e : nxl d (6 - i) i = some i := by
    rw [show 6 - i = (5 - i) + 1 by omega]
    unfold nxl
    rw [if_pos h3]
  rw [telF_n f i0 hi, telF_n (6 - i) i (by omega), ldf_n f i0 hi, ldf_n (6 - i) i (by omega), h, e]
  exact ⟨rfl, rfl⟩
theorem nxl_s {d : Nat} (h2 : i < 6) (h3 : d.testBit i = true) : nxl d (6 - i) i = some i := by
  rw [show 6 - i = (5 - i) + 1 by omega]
  unfold nxl
  rw [if_pos h3]
theorem ldl_f {d : Nat} : ldf d 6 0 = ldl d := by
  unfold ldl
  show _ ++ (_ ++ (_ ++ (_ ++ (_ ++ (_ ++ []))))) = _
  rw [List.append_nil]
theorem QQ_m {o : Option Nat} {k' : Nat} (hp : p < 6) (hQ : QQ (szM S0 I B0) Q') : QQ (szM (szR (szI S0 3 (7 + 3 * p) 0) 2 (7 + 3 * p) o) I (sA B0 p k')) Q' := by
  refine QQ_same (S := szM S0 I B0) hQ ?_ rfl (fun k _ m => ?_) (fun _ _ => ⟨rfl, rfl⟩) ⟨rfl, rfl, rfl⟩
  · show zI (szI S0 3 (7 + 3 * p) 0) 4 2 = zI S0 4 2
    exact zI_ne (by omega)
  · show zI (szI S0 3 (7 + 3 * p) 0) m (25 + 3 * k) = zI S0 m (25 + 3 * k)
    exact zI_ne (by omega)
theorem round_fin (hx : Fix S) (hR : RnS S K Q Kr) (hp : p < 6) (hk36 : k < 36) (c0 : Chg p k S S0) (cr0 : ChR p k (zM0 S) I (zMA S) B0) (nd : NdS S a n ks r ks' r' L' E) (hw : LW ((cn n ks r, cn a ks' r') :: L')) (hk : cK n = 7) (hq : ks = cn 0 x .nil) (hs : Sfx (tx 0 (K p)) j (tx 0 (cn n ks r) ++ la)) (hl : Edr la) (he : EndK (tx 0 (K p)) (j + (tx 0 (cn n ks r)).length) (L'.map Prod.fst)) (hb : b = 0 ∨ b = 1) (z5 : zI S0 5 (7 + 3 * p) = -1) (z4 : zI S0 4 (7 + 3 * p) = Int32.ofNat b) (b37 : B0 37 p = Int32.ofNat pos) (b38 : B0 38 p = Int32.ofNat b) (hpos : pos = j + 1 + (xt (cE n) ++ ldl (cD n)).length) (ht : TX B0 p (tx 0 (K p))) (hQ : QQ (szM S0 I B0) Q') (hG : Gd (upK Kr p (if b = 1 then ap x (cn n ks (ap r (remL L'))) else ap r (remL L'))) Q') (hv6 : ∀ i, i < 24 → zAI S0 6 i = B0 34 i) (hst : zI S0 5 2 = zI S 5 2) (h18 : I 18 = zM0 S 18) (hYX : ∃ N, ∀ m, N ≤ m → (∀ y b', b' = 0 ∨ b' = 1 → yT_goRound_85 2 m S0 (some a) (some (7 + 3 * p)) = some (y, b') → Y m = some (y, b')) ∧ X m = x_stepRound_98 m I B0 (Int32.ofNat p)) : OutS S p K Y X := by
  obtain ⟨s0, w0⟩ := hw _ List.mem_cons_self
  have s0' := s0
  obtain ⟨s1, s2, _⟩ := s0'
  have w0' := w0
  obtain ⟨w1, w2, w3, w4⟩ := w0'
  have ta : ∀ i x, gid i ks = some x → i < pof (cK n) := fun i x hg => tag_lt w1 w2 w3 s1 hg
  have kl : kLp n = true := by
    unfold kLp
    rw [hk]
    decide
  obtain ⟨e1, e2, e3⟩ := ent_7 hk hq s0 w0 hs hl he
  have g0 : gid 0 ks = some x := by rw [hq]; rfl
  have wx := WK_get s1 w3 g0
  have sx := gid_so s1 g0
  have bx := (tx_blc x true sx wx.2).1 rfl
  have p0 := Sfx_r (Sfx_c e1)
  have p1 := Sfx_c p0
  have p2 := Sfx_c (Sfx_r p1)
  obtain ⟨k1, tp1, st1⟩ := stand_t sx wx.2 p1 Edr_c e2
  obtain ⟨k0, tp0, st0⟩ := stand_t s2 w4 p2 hl e3
  rw [← hpos] at p0 st1 st0
  obtain ⟨N, x98⟩ := s98_0 (I := I) ht b37 b38 hb bx p0 st0 st1
  obtain ⟨N2, hYX⟩ := hYX
  have tq : ztg S0 (7 + 3 * p) = 5 := by rw [Chg_tg c0]; exact (hx.2.2.2.2.2.2.2.2.2.1 p hp).1
  have tA : ztg S0 a = 2 := by rw [Chg_tg c0]; exact nd.1.1
  have c1 : Chg p k S (szI S0 3 (7 + 3 * p) 0) := Chg_t c0 (Chg_P hp)
  have hf1 : HF S (szI S0 3 (7 + 3 * p) 0) := Chg_h0 c1 hx hp hk36
  obtain ⟨x', sk⟩ := enter_k nd s1 g0
  rw [if_pos kl] at sk
  have r9 : zR S0 9 a = zR S 9 a := c0.2.2.2.2.1 9 a (fun z => by omega)
  rcases hb with hb | hb
  · subst hb
    rw [if_neg (by decide)] at hG
    have c : Chg p k S (szR (szI S0 3 (7 + 3 * p) 0) 2 (7 + 3 * p) (zR S 9 a)) := Chg_t c1 Chg_R
    have cr : ChR p k (zM0 S) I (zMA S) (sA B0 p k0) := ChR_t cr0 ChR_sA
    refine ⟨_, I, _, 1, k, ⟨N + N2, fun m hm => ⟨(hYX m (by omega)).1 _ _ (Or.inr rfl) ?_, ((hYX m (by omega)).2).trans (x98 m (by omega))⟩⟩, hk36, c, cr, Or.inr rfl, ⟨Q', _, RnS_fin (R' := remL ((r, r') :: L')) hx hp hk36 c cr hR ?_ (QQ_m hp hQ) hG⟩, fun i hi => ?_, ?_, h18, fun e' => absurd e' (by decide)⟩
    · rw [← r9]
      exact r85_0 tq z5 z4 tA
    · exact Pty_new (Chg_hf c hx hp hk36) (LW_r hw) (Stk_of nd).2 (zR_self _ 2 _ _) sA_36.1 tp0 (zI_self _ 3 _ _) sA_36.2
    · show zAI S0 6 i = sA B0 p k0 34 i
      rw [sA_o (by decide) (by decide)]
      exact hv6 i hi
    · show zI (szI S0 3 (7 + 3 * p) 0) 5 2 = _
      rw [zI_ne (by omega)]
      exact hst
  · subst hb
    rw [if_pos rfl] at hG
    have c : Chg p k S (szR (szI S0 3 (7 + 3 * p) 0) 2 (7 + 3 * p) (entV S a n 0)) := Chg_t c1 Chg_R
    have cr : ChR p k (zM0 S) I (zMA S) (sA B0 p k1) := ChR_t cr0 ChR_sA
    refine ⟨_, I, _, 1, k, ⟨N + N2, fun m hm => ⟨(hYX m (by omega)).1 _ _ (Or.inr rfl) ?_, ((hYX m (by omega)).2).trans (x98 m (by omega))⟩⟩, hk36, c, cr, Or.inr rfl, ⟨Q', _, RnS_fin (R' := remL ((x, x') :: (cn n ks r, cn a ks' r') :: L')) hx hp hk36 c cr hR ?_ (QQ_m hp hQ) hG⟩, fun i hi => ?_, ?_, h18, fun e' => absurd e' (by decide)⟩
    · exact r85_1 tq z5 (by rw [z4]; decide) tA (enter_f (i := 0) hf1 nd.1 ta g0)
    · exact Pty_new (Chg_hf c hx hp hk36) (LW_x sx wx.2 hw) sk (zR_self _ 2 _ _) sA_36.1 tp1 (zI_self _ 3 _ _) sA_36.2
    · show zAI S0 6 i = sA B0 p k1 34 i
      rw [sA_o (by decide) (by decide)]
      exact hv6 i hi
    · show zI (szI S0 3 (7 + 3 * p) 0) 5 2 = _
      rw [zI_ne (by omega)]
      exact hst
theorem round_go {w' : List Nat} (hx : Fix S) (hR : RnS S K Q Kr) (hp : p < 6) (hk36 : k < 36) (c0 : Chg p k S S0) (cr0 : ChR p k (zM0 S) I (zMA S) B0) (nd : NdS S a n ks r ks' r' L' E) (hw : LW ((cn n ks r, cn a ks' r') :: L')) (hk : cK n = 7) (hq : ks = cn 0 x .nil) (hs : Sfx (tx 0 (K p)) j (tx 0 (cn n ks r) ++ la)) (hl : Edr la) (he : EndK (tx 0 (K p)) (j + (tx 0 (cn n ks r)).length) (L'.map Prod.fst)) (h2 : zR S0 2 (7 + 3 * p) = some a) (b36 : B0 36 p = Int32.ofNat j) (hb : b = 0 ∨ b = 1) (z3 : zI S0 3 (7 + 3 * p) = 1) (z5 : zI S0 5 (7 + 3 * p) = Int32.ofNat i) (hi : i < 6) (hbit : (cD n).testBit i = true) (z4 : zI S0 4 (7 + 3 * p) = Int32.ofNat b) (b37 : B0 37 p = Int32.ofNat pos) (b38 : B0 38 p = Int32.ofNat b) (hpos : pos + (ldf (cD n) (6 - i) i).length = j + 1 + (xt (cE n) ++ ldl (cD n)).length) (hsp : Sfx (tx 0 (K p)) pos (ldf (cD n) (6 - i) i ++ 123 :: w')) (ht : TX B0 p (tx 0 (K p))) (hQ : QQ (szM S0 I B0) Q') (hG : Gd (upK Kr p (telF b (cD n) (6 - i) i (if b = 1 then ap x (cn n ks (ap r (remL L'))) else ap r (remL L')))) Q') (hv6 : ∀ i, i < 24 → zAI S0 6 i = B0 34 i) (hst : zI S0 5 2 = zI S 5 2) (h18 : I 18 = zM0 S 18) (hYX : ∃ N, ∀ m, N ≤ m → (∀ y b', b' = 0 ∨ b' = 1 → yT_goRound_85 2 m S0 (some a) (some (7 + 3 * p)) = some (y, b') → Y m = some (y, b')) ∧ X m = x_stepRound_98 m I B0 (Int32.ofNat p)) : OutS S p K Y X := by
  obtain ⟨s0, w0⟩ := hw _ List.mem_cons_self
  obtain ⟨N2, hYX⟩ := hYX
  have tq : ztg S0 (7 + 3 * p) = 5 := by rw [Chg_tg c0]; exact (hx.2.2.2.2.2.2.2.2.2.1 p hp).1
  have hf : HF S (szM S0 I B0) := Chg_hf c0 hx hp hk36
  have hsp' := hsp
  rw [ldf_n (6 - i) i (by omega), nxl_s hi hbit] at hsp'
  have hsp2 : Sfx (tx 0 (K p)) pos ((65 + i) :: (ldf (cD n) (5 - i) (i + 1) ++ 123 :: w')) := hsp'
  refine ⟨S0, I, B0, 1, k, ⟨N2, fun m hm => ⟨(hYX m hm).1 _ _ (Or.inr rfl) (r85_n tq ?_), ((hYX m hm).2).trans (s98_n ht b37 hsp2 hi)⟩⟩, hk36, c0, cr0, Or.inr rfl, ⟨Q', _, RnS_fin hx hp hk36 c0 cr0 hR ?_ hQ hG⟩, hv6, hst, h18, fun e' => absurd e' (by decide)⟩
  · rw [z5]
    intro e
    have := congrArg Int32.toInt e
    rw [(j_n (by omega)).1, show (-1 : Int32).toInt = -1 by decide] at this
    omega
  · refine ⟨(cn n ks r, cn a ks' r') :: L', j, hw, ?_, b36, Or.inr ⟨fun e => (by cases e), s0, w0, la, hs, hl, he⟩, Or.inr ⟨n, ks, r, _, L', x, b, i, pos, w', rfl, hk, hq, z3, hb, z4, b38, hi, hbit, z5, b37, hsp, hpos, rfl⟩⟩
    show Stk (szM S0 I B0) _ (zR S0 2 (7 + 3 * p))
    rw [h2]
    exact Stk_fr hf _ _ hw (Stk_of nd).1
theorem case_7a (hx : Fix S) (hv6 : ∀ i, i < 24 → zAI S 6 i = zMA S 34 i) (hR : RnS S K Q Kr) (h : AtN S p (tx 0 (K p)) a n ks r ks' r' L' E j la) (h3 : zI S 3 (7 + 3 * p) = 0) (h37 : zMA S 37 p = -1) (hK : Kr p = cn n ks (ap r (remL L'))) (hk : cK n = 7) : OutS S p K (fun m => yT_goOn m S 2 (Int32.ofNat p) (some a)) (fun m => x_stepRound m (zM0 S) (zMA S) (Int32.ofNat p) (Int32.ofNat j)) := by
  obtain ⟨hp, ht, nd, hw, hs, hl, he, h36, h2⟩ := h
  obtain ⟨s0, w0⟩ := hw _ List.mem_cons_self
  have s0' := s0
  obtain ⟨s1, s2, _⟩ := s0'
  have w0' := w0
  obtain ⟨w1, w2, w3, w4⟩ := w0'
  have hX := hv_x w1 (Or.inr (Or.inl hk))
  obtain ⟨x, hq⟩ := w2.2.2.2 (Or.inl hk)
  obtain ⟨e1, e2, e3⟩ := ent_7 hk hq s0 w0 hs hl he
  have hV : ∀ v, v < 4 → (fun v => zMA S 34 (4 * p + v)) v = zMA S 34 (4 * p + v) := fun _ _ => rfl
  have hV' : ∀ v, v < 4 → (fun v => zMA S 34 (4 * p + v)) v = zAI S 6 (4 * p + v) := fun v hv' => (hv6 (4 * p + v) (by omega)).symm
  obtain ⟨I', x1, x2⟩ := sr_0 (I := zM0 S) ht hX hV e1 h37
  generalize hB : evx (fun v => zMA S 34 (4 * p + v)) (xt (cE n)) = ev at x1
  have hb : (if ev = 0 then 0 else 1 : Nat) = 0 ∨ (if ev = 0 then 0 else 1 : Nat) = 1 := by split <;> simp
  have hbI : Int32.ofNat (if ev = 0 then 0 else 1 : Nat) = if evx (fun v => zMA S 34 (4 * p + v)) (xt (cE n)) = 0 then 0 else 1 := by
    rw [hB]
    split <;> rfl
  generalize hbb : (if ev = 0 then 0 else 1 : Nat) = b at x1 hb hbI
  have gG : Gd (upK Kr p (telF b (cD n) 6 0 (if b = 1 then ap x (cn n ks (ap r (remL L'))) else ap r (remL L')))) Q := by
    rcases hb with rfl | rfl
    · exact Gd_rf hR.2.1 hp hK hk
    · obtain ⟨x2', g2, gd⟩ := Gd_rt hR.2.1 hp hK hk
      rw [hq] at g2
      cases g2
      exact gd
  have c0 : Chg p 0 S (szI (szI (szI S 3 (7 + 3 * p) 1) 4 (7 + 3 * p) (Int32.ofNat b)) 5 (7 + 3 * p) (nxv (nxl (cD n) 6 0))) := Chg_t (Chg_P hp) (Chg_t (Chg_P hp) (Chg_P hp))
  have cr0 : ChR p 0 (zM0 S) I' (zMA S) (rA (zMA S) p b (j + 1 + (xt (cE n)).length)) := ChR_t (ChR_I x2) (ChR_t (ChR_p (i := 38) (by omega)) (ChR_p (A := upA (zMA S) 38 (upd (zMA S 38) p (Int32.ofNat b))) (i := 37) (by omega)))
  have z4 : zI (szI (szI (szI S 3 (7 + 3 * p) 1) 4 (7 + 3 * p) (Int32.ofNat b)) 5 (7 + 3 * p) (nxv (nxl (cD n) 6 0))) 4 (7 + 3 * p) = Int32.ofNat b := by rw [zI_k (by decide), zI_self]
  have z3 : zI (szI (szI (szI S 3 (7 + 3 * p) 1) 4 (7 + 3 * p) (Int32.ofNat b)) 5 (7 + 3 * p) (nxv (nxl (cD n) 6 0))) 3 (7 + 3 * p) = 1 := by rw [zI_k (by decide), zI_k (by decide), zI_self]
  have z5 : zI (szI (szI (szI S 3 (7 + 3 * p) 1) 4 (7 + 3 * p) (Int32.ofNat b)) 5 (7 + 3 * p) (nxv (nxl (cD n) 6 0))) 5 (7 + 3 * p) = nxv (nxl (cD n) 6 0) := zI_self _ 5 _ _
  have r37 : rA (zMA S) p b (j + 1 + (xt (cE n)).length) 37 p = Int32.ofNat (j + 1 + (xt (cE n)).length) := by
    unfold rA
    rw [upA_j, upd_s]
  have r38 : rA (zMA S) p b (j + 1 + (xt (cE n)).length) 38 p = Int32.ofNat b := by
    unfold rA
    rw [upA_n (by decide), upA_j, upd_s]
  have hQ : QQ (szM (szI (szI (szI S 3 (7 + 3 * p) 1) 4 (7 + 3 * p) (Int32.ofNat b)) 5 (7 + 3 * p) (nxv (nxl (cD n) 6 0))) I' (rA (zMA S) p b (j + 1 + (xt (cE n)).length))) Q := QQ_same hR.1 (by rw [zI_ne (by omega), zI_ne (by omega), zI_ne (by omega)]) (x2 17 (by decide) (by decide)) (fun k _ m => by rw [zI_ne (by omega), zI_ne (by omega), zI_ne (by omega)]) (fun _ _ => ⟨rfl, rfl⟩) ⟨rfl, rfl, rfl⟩
  have st5 : zI (szI (szI (szI S 3 (7 + 3 * p) 1) 4 (7 + 3 * p) (Int32.ofNat b)) 5 (7 + 3 * p) (nxv (nxl (cD n) 6 0))) 5 2 = zI S 5 2 := by rw [zI_ne (by omega), zI_ne (by omega), zI_ne (by omega)]
  have yx : ∃ N, ∀ m, N ≤ m → (∀ y b', b' = 0 ∨ b' = 1 → yT_goRound_85 2 m (szI (szI (szI S 3 (7 + 3 * p) 1) 4 (7 + 3 * p) (Int32.ofNat b)) 5 (7 + 3 * p) (nxv (nxl (cD n) 6 0))) (some a) (some (7 + 3 * p)) = some (y, b') → yT_goOn m S 2 (Int32.ofNat p) (some a) = some (y, b')) ∧ x_stepRound m (zM0 S) (zMA S) (Int32.ofNat p) (Int32.ofNat j) = x_stepRound_98 m I' (rA (zMA S) p b (j + 1 + (xt (cE n)).length)) (Int32.ofNat p) := ⟨20, fun m hm => ⟨fun y b' hb' hy => go_7 hx hp nd.1 hk hb' ((gro_0 hx hp nd.1 hX hV' h3 hm hbI).trans hy), x1 m (by omega)⟩⟩
  have e1' : Sfx (tx 0 (K p)) (j + 1 + (xt (cE n)).length) (ldf (cD n) 6 0 ++ 123 :: (tx 0 x ++ 125 :: (tx 0 r ++ la))) := by
    have := Sfx_c e1
    rw [List.append_assoc, ← ldl_f] at this
    exact Sfx_r this
  cases ho : nxl (cD n) 6 0 with
  | none =>
    rw [ho] at c0 z3 z4 z5 hQ st5 yx
    have el : ldl (cD n) = [] := by
      rw [← ldl_f, ldf_n 6 0 rfl, ho]
    rw [telF_n 6 0 rfl, ho] at gG
    exact round_fin hx hR hp (by decide) c0 cr0 nd hw hk hq hs hl he hb z5 z4 r37 r38 (by rw [el, List.append_nil]) (TX_r ht) hQ gG hv6 st5 (x2 18 (by decide) (by decide)) yx
  | some i =>
    rw [ho] at c0 z3 z4 z5 hQ st5 yx
    obtain ⟨_, i6, ib⟩ := nxl_lt 6 0 rfl i ho
    rw [(telF_j rfl ho).1] at gG
    have el := (telF_j (l := 0) (x := .nil) rfl ho).2
    rw [el] at e1'
    refine round_go hx hR hp (by decide) c0 cr0 nd hw hk hq hs hl he h2 h36 hb z3 z5 i6 ib z4 r37 r38 ?_ e1' (TX_r ht) hQ gG hv6 st5 (x2 18 (by decide) (by decide)) yx
    rw [← el, List.length_append, ← Nat.add_assoc, ldl_f]
end C7
