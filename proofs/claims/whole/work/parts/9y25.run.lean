section C1
variable {S S1 : hS} {p q k h z j a n m pos b : Nat} {I I1 I2 : Nat → Int32} {A A1 A2 B : Nat → Nat → Int32} {K Kr : Nat → Fo} {Q : Nat → Nat → List Nat} {T la : List Nat} {R : Fo} {v w : Int32} {L : List (Fo × Fo)} {f : Nat → Int32} {ks r ks' r' : Fo} {L' : List (Fo × Fo)} {E : Option Nat}
theorem RnS_I (hx : Fix S) (h : RnS S K Q Kr) (e : I 17 = zMI S 17) : RnS (szM S I (zMA S)) K Q Kr := by
  obtain ⟨h1, h2, h3⟩ := h
  have hf : HF S (szM S I (zMA S)) := Chg_hf (p := 0) (k := 0) Chg_r hx (by decide) (by decide)
  refine ⟨QQ_same h1 rfl e (fun _ _ _ => rfl) (fun _ _ => ⟨rfl, rfl⟩) ⟨rfl, rfl, rfl⟩, h2, fun p hp => ⟨(h3 p hp).1, Pty_fr hf rfl (fun _ => rfl) rfl rfl rfl (h3 p hp).2⟩⟩
theorem wait_o {Y : Nat → Option (hS × Int32)} {X : Nat → Option xR} (hx : Fix S) (hv6 : ∀ i, i < 24 → zAI S 6 i = zMA S 34 i) (hR : RnS S K Q Kr) (e : ∀ i, i ≠ 19 → i ≠ 20 → I i = zM0 S i) (hy : ∃ N, ∀ m, N ≤ m → Y m = some (S, 0) ∧ X m = some (I, zMA S, 0)) : OutS S p K Y X := ⟨S, I, zMA S, 0, 0, hy, by decide, Chg_r, ChR_I e, Or.inl rfl, ⟨Q, Kr, RnS_I hx hR (e 17 (by decide) (by decide))⟩, hv6, rfl, e 18 (by decide) (by decide), fun _ => ⟨rfl, rfl⟩⟩
theorem LW_r (hw : LW ((cn n ks r, cn a ks' r') :: L')) : LW ((r, r') :: L') := fun x hx' => by
  obtain ⟨⟨s1, s2, _⟩, w1, w2, w3, w4⟩ := hw _ List.mem_cons_self
  rcases List.mem_cons.mp hx' with rfl | hx'
  · exact ⟨s2, w4⟩
  · exact hw x (List.mem_cons_of_mem _ hx')
theorem give_o {Y : Nat → Option (hS × Int32)} {X : Nat → Option xR} {r0 k' d : Nat} {L2 : List (Fo × Fo)} {o : Option Nat} (hx : Fix S) (hv6 : ∀ i, i < 24 → zAI S 6 i = zMA S 34 i) (hR : RnS S K Q Kr) (hp : p < 6) (hq : q < 6) (hk : k = 6 * p + q) (hr : zI S 4 2 = Int32.ofNat r0) (r8 : r0 ≤ 8) (h8 : h < 8) (z1 : z < r0) (hh : zI S 2 (25 + 3 * k) = Int32.ofNat h) (hz : zMA S 39 k = Int32.ofNat z) (hD : (Q p q).length = z) (ha : ∀ i, i < z → zAI S (26 + 3 * k) ((h + i) % 8) = zMA S 40 (8 * k + i) ∧ zAI S (27 + 3 * k) ((h + i) % 8) = zMA S 41 (8 * k + i) ∧ Dsc ((Q p q).getD i 0) (zMA S 40 (8 * k + i)) (zMA S 41 (8 * k + i))) (hd : Dsc d v w) (hwL : LW L2) (hst : Stk S L2 o) (tp : TP (tx 0 (K p)) (L2.map Prod.fst) k') (h3 : zI S 3 (7 + 3 * p) = 0) (hG : Gd (upK Kr p (remL L2)) (upQ Q p q (Q p q ++ [d]))) (e : ∀ i, i ≠ 19 → i ≠ 20 → I i = zM0 S i) (hy : ∃ N, ∀ m, N ≤ m → Y m = some (szR (eqS S k h z v w) 2 (7 + 3 * p) o, 1) ∧ X m = some (I, sA (gvA (zMA S) k z v w) p k', 1)) : OutS S p K Y X := by
  have hk36 : k < 36 := by omega
  have c : Chg p k S (szR (eqS S k h z v w) 2 (7 + 3 * p) o) := Chg_t Chg_e Chg_R
  have cr : ChR p k (zM0 S) I (zMA S) (sA (gvA (zMA S) k z v w) p k') := ChR_t (ChR_I e) (ChR_t (ChR_g (by omega)) ChR_sA)
  refine ⟨_, I, _, 1, k, hy, hk36, c, cr, Or.inr rfl, ⟨_, _, RnS_fin (R' := remL L2) hx hp hk36 c cr hR ?_ ?_ hG⟩, fun i hi => ?_, ?_, e 18 (by decide) (by decide), fun e' => absurd e' (by decide)⟩
  · refine Pty_new (Chg_hf c hx hp hk36) hwL hst (zR_self _ 2 _ _) sA_36.1 tp ?_ sA_36.2
    show zI (eqS S k h z v w) 3 (7 + 3 * p) = 0
    unfold eqS
    rw [zI_ne (by omega)]
    exact h3
  · refine QQ_ch (p0 := p) hp hp hq hk c cr hR.1 (fun r hr' _ r8' => ?_)
    have : r = r0 := by
      rw [hr] at hr'
      have := congrArg Int32.toInt hr'
      rw [(j_n (by omega)).1, (j_n (by omega)).1] at this
      omega
    subst this
    have g := QK_give (I := I) h8 z1 r8 hh hz hD ha hd
    exact QK_eq (S := szM (eqS S k h z v w) I (gvA (zMA S) k z v w)) rfl rfl rfl rfl rfl (fun i _ => ⟨rfl, rfl⟩) r8 g
  · show zAI (eqS S k h z v w) 6 i = sA (gvA (zMA S) k z v w) p k' 34 i
    rw [sA_o (by decide) (by decide)]
    have e1 : zAI (eqS S k h z v w) 6 = zAI S 6 := by
      show zAI (szAI (szAI S (26 + 3 * k) _) (27 + 3 * k) _) 6 = _
      rw [zAI_n (by omega), zAI_n (by omega)]
    rw [e1]
    exact hv6 i hi
  · show zI (eqS S k h z v w) 5 2 = _
    unfold eqS
    rw [zI_ne (by omega)]
    rfl
theorem case_2 (hx : Fix S) (hv6 : ∀ i, i < 24 → zAI S 6 i = zMA S 34 i) (hR : RnS S K Q Kr) (h : AtN S p (tx 0 (K p)) a n ks r ks' r' L' E j la) (h3 : zI S 3 (7 + 3 * p) = 0) (hK : Kr p = cn n ks (ap r (remL L'))) (hk : cK n = 2) : OutS S p K (fun m => yT_goOn m S 2 (Int32.ofNat p) (some a)) (fun m => x_stepValue m (zM0 S) (zMA S) (Int32.ofNat p) (Int32.ofNat j)) := by
  obtain ⟨hp, ht, nd, hw, hs, hl, he, h36, h2⟩ := h
  obtain ⟨⟨s1, s2, _⟩, w0⟩ := hw _ List.mem_cons_self
  have w0' := w0
  obtain ⟨w1, w2, w3, w4⟩ := w0'
  have hX := hv_x w1 (Or.inr (Or.inr (Or.inr hk)))
  have ho := hv_o w1 (Or.inl hk)
  obtain ⟨f1, f2⟩ := ent_s (by omega) w0 hs he
  obtain ⟨k', tp, st⟩ := stand_t s2 w4 (Sfx_r f1) hl f2
  have hV : ∀ v, v < 4 → (fun v => zMA S 34 (4 * p + v)) v = zMA S 34 (4 * p + v) := fun _ _ => rfl
  have hV' : ∀ v, v < 4 → (fun v => zMA S 34 (4 * p + v)) v = zAI S 6 (4 * p + v) := fun v hv' => (hv6 (4 * p + v) (by omega)).symm
  have hQ := hR.1
  obtain ⟨r0, r1, r8, q1, q2, q3⟩ := hQ
  obtain ⟨h, z, a1, a2, a3, a4, a5, a6, a7⟩ := q3 p (cO n) hp ho
  obtain ⟨N, I', x1, x2⟩ := sv_2 (I := zM0 S) ht hk ho hX hV f1 st a5 q2 a2 r8
  have go := fun m (hm : 20 ≤ m) => go_24 (m := m) (v := evx (fun v => zMA S 34 (4 * p + v)) (xt (cE n))) (b := 0) hx hp nd.1 ho (Or.inl ⟨hk, hX, rfl, rfl⟩) rfl q1 r8 a3 a1 a4 a2 hV' hm
  by_cases q : z < r0
  · exact give_o (d := 0) hx hv6 hR hp ho rfl q1 r8 a1 q a3 a5 a6 a7 (Or.inl ⟨rfl, rfl⟩) (LW_r hw) (Stk_of nd).2 tp h3 (Gd_send hR.2.1 hp hK hk) x2 ⟨N + 20, fun m hm => ⟨(go m (by omega)).1 q, (x1 m (by omega)).1 q⟩⟩
  · exact wait_o hx hv6 hR x2 ⟨N + 20, fun m hm => ⟨(go m (by omega)).2 (by omega), (x1 m (by omega)).2 (by omega)⟩⟩
theorem case_4 (hx : Fix S) (hv6 : ∀ i, i < 24 → zAI S 6 i = zMA S 34 i) (hR : RnS S K Q Kr) (h : AtN S p (tx 0 (K p)) a n ks r ks' r' L' E j la) (h3 : zI S 3 (7 + 3 * p) = 0) (hK : Kr p = cn n ks (ap r (remL L'))) (hk : cK n = 4) : OutS S p K (fun m => yT_goOn m S 2 (Int32.ofNat p) (some a)) (fun m => x_stepTell m (zM0 S) (zMA S) (Int32.ofNat p) (Int32.ofNat j)) := by
  obtain ⟨hp, ht, nd, hw, hs, hl, he, h36, h2⟩ := h
  obtain ⟨⟨s1, s2, _⟩, w0⟩ := hw _ List.mem_cons_self
  have w0' := w0
  obtain ⟨w1, w2, w3, w4⟩ := w0'
  have ho := hv_o w1 (Or.inr (Or.inr (Or.inl hk)))
  have hL : cL n < 10 := by
    rcases w1 with ⟨k, _⟩ | ⟨k, _⟩ | ⟨k, _⟩ | ⟨k, _, _, l⟩ | ⟨k, _⟩ | ⟨k, _⟩ | ⟨k, _⟩ | ⟨k, _⟩
    · omega
    · omega
    · omega
    · exact l
    · omega
    · omega
    · omega
    · omega
  obtain ⟨f1, f2⟩ := ent_s (by omega) w0 hs he
  obtain ⟨k', tp, st⟩ := stand_t s2 w4 (Sfx_r f1) hl f2
  have hV' : ∀ v, v < 4 → (fun v => zMA S 34 (4 * p + v)) v = zAI S 6 (4 * p + v) := fun v hv' => (hv6 (4 * p + v) (by omega)).symm
  have hQ := hR.1
  obtain ⟨r0, r1, r8, q1, q2, q3⟩ := hQ
  obtain ⟨h, z, a1, a2, a3, a4, a5, a6, a7⟩ := q3 p (cO n) hp ho
  obtain ⟨N, x1⟩ := st_4 (I := zM0 S) ht hk ho hL f1 st a5 q2 a2 r8
  have go := fun m (hm : 20 ≤ m) => go_24 (m := m) (v := Int32.ofNat (cL n)) (b := 1) hx hp nd.1 ho (Or.inr ⟨hk, rfl, rfl⟩) rfl q1 r8 a3 a1 a4 a2 hV' hm
  by_cases q : z < r0
  · exact give_o (d := cL n + 1) hx hv6 hR hp ho rfl q1 r8 a1 q a3 a5 a6 a7 (Or.inr ⟨cL n, hL, rfl, rfl, rfl⟩) (LW_r hw) (Stk_of nd).2 tp h3 (Gd_tell hR.2.1 hp hK hk) (fun _ _ _ => rfl) ⟨N + 20, fun m hm => ⟨(go m (by omega)).1 q, (x1 m (by omega)).1 q⟩⟩
  · exact wait_o hx hv6 hR (fun _ _ _ => rfl) ⟨N + 20, fun m hm => ⟨(go m (by omega)).2 (by omega), (x1 m (by omega)).2 (by omega)⟩⟩
theorem LW_x {x x' : Fo} (sx : So true x) (wx : WK true x) (hw : LW L) : LW ((x, x') :: L) := fun y hy => by
  rcases List.mem_cons.mp hy with rfl | hy
  · exact ⟨sx, wx⟩
  · exact hw y hy
theorem case_6 (hx : Fix S) (hv6 : ∀ i, i < 24 → zAI S 6 i = zMA S 34 i) (hR : RnS S K Q Kr) (h : AtN S p (tx 0 (K p)) a n ks r ks' r' L' E j la) (h3 : zI S 3 (7 + 3 * p) = 0) (hK : Kr p = cn n ks (ap r (remL L'))) (hk : cK n = 6) : OutS S p K (fun m => yT_goOn m S 2 (Int32.ofNat p) (some a)) (fun m => x_stepChoice m (zM0 S) (zMA S) (Int32.ofNat p) (Int32.ofNat j)) := by
  obtain ⟨hp, ht, nd, hw, hs, hl, he, h36, h2⟩ := h
  have hw' := hw
  obtain ⟨s0, w0⟩ := hw _ List.mem_cons_self
  have s0' := s0
  obtain ⟨s1, s2, _⟩ := s0'
  have w0' := w0
  obtain ⟨w1, w2, w3, w4⟩ := w0'
  have hX := hv_x w1 (Or.inl hk)
  obtain ⟨x, y, hq⟩ := w2.2.2.1 hk
  obtain ⟨e1, e2, e3⟩ := ent_6 hk hq s0 w0 hs hl he
  have ta : ∀ i x, gid i ks = some x → i < pof (cK n) := fun i x hg => tag_lt w1 w2 w3 s1 hg
  have g0 : gid 0 ks = some x := by rw [hq]; rfl
  have g1 : gid 1 ks = some y := by rw [hq]; rfl
  have wx := WK_get s1 w3 g0
  have wy := WK_get s1 w3 g1
  have sx := gid_so s1 g0
  have sy := gid_so s1 g1
  have bx := (tx_blc x true sx wx.2).1 rfl
  have kl : ¬ kLp n = true := by
    unfold kLp
    rw [hk]
    decide
  have p0 := Sfx_c (Sfx_r (Sfx_c e1))
  have p1 := Sfx_c (Sfx_c (Sfx_r p0))
  obtain ⟨k0, tp0, st0⟩ := stand_t sx wx.2 p0 Edr_c e2
  obtain ⟨k1, tp1, st1⟩ := stand_t sy wy.2 p1 Edr_c e3
  have hV : ∀ v, v < 4 → (fun v => zMA S 34 (4 * p + v)) v = zMA S 34 (4 * p + v) := fun _ _ => rfl
  have hV' : ∀ v, v < 4 → (fun v => zMA S 34 (4 * p + v)) v = zAI S 6 (4 * p + v) := fun v hv' => (hv6 (4 * p + v) (by omega)).symm
  obtain ⟨N, I', c1, c2⟩ := sc_6 (I := zM0 S) ht hX bx hV e1 st0 st1
  have fin : ∀ (i : Nat) (x0 : Fo) (k' : Nat), i = (if evx (fun v => zMA S 34 (4 * p + v)) (xt (cE n)) = 0 then 1 else 0) → k' = (if evx (fun v => zMA S 34 (4 * p + v)) (xt (cE n)) = 0 then k1 else k0) → gid i ks = some x0 → TP (tx 0 (K p)) (x0 :: r :: L'.map Prod.fst) k' → OutS S p K (fun m => yT_goOn m S 2 (Int32.ofNat p) (some a)) (fun m => x_stepChoice m (zM0 S) (zMA S) (Int32.ofNat p) (Int32.ofNat j)) := by
    intro i x0 k' hi hk' hg tp
    obtain ⟨x', v', en, sk⟩ := enter_ok nd s1 ta hg
    rw [if_neg kl] at sk
    have hw0 := WK_get s1 w3 hg
    have hs0 := gid_so s1 hg
    obtain ⟨x2, gx, gd⟩ := Gd_choose hR.2.1 hp hK hk (decide (i = 0))
    have hxx : x2 = x0 := by
      by_cases q : evx (fun v => zMA S 34 (4 * p + v)) (xt (cE n)) = 0
      · rw [if_pos q] at hi
        subst hi
        rw [show (if decide (1 = 0) = true then 0 else 1) = 1 from rfl, hg] at gx
        cases gx
        rfl
      · rw [if_neg q] at hi
        subst hi
        rw [show (if decide (0 = 0) = true then 0 else 1) = 0 from rfl, hg] at gx
        cases gx
        rfl
    subst hxx
    have c : Chg p 0 S (szR S 2 (7 + 3 * p) v') := Chg_R
    have cr : ChR p 0 (zM0 S) I' (zMA S) (sA (zMA S) p k') := ChR_t (ChR_I c2) ChR_sA
    refine ⟨_, I', _, 1, 0, ⟨N + 20, fun m hm => ⟨go_6 hx hp nd.1 hk hX hV' hi en (by omega), ?_⟩⟩, by decide, c, cr, Or.inr rfl, ⟨Q, _, RnS_fin (R' := remL ((x2, x') :: (r, r') :: L')) hx hp (by decide) c cr hR ?_ ?_ gd⟩, hv6, rfl, c2 18 (by decide) (by decide), fun e' => absurd e' (by decide)⟩
    · rw [hk']
      exact c1 m (by omega)
    · exact Pty_new (Chg_hf c hx hp (by decide)) (LW_x hs0 hw0.2 (LW_r hw')) sk (zR_self _ 2 _ _) sA_36.1 tp h3 sA_36.2
    · exact QQ_same hR.1 rfl (c2 17 (by decide) (by decide)) (fun _ _ _ => rfl) (fun k _ => ⟨rfl, rfl⟩) ⟨rfl, rfl, rfl⟩
  by_cases q : evx (fun v => zMA S 34 (4 * p + v)) (xt (cE n)) = 0
  · exact fin 1 y k1 (by rw [if_pos q]) (by rw [if_pos q]) g1 tp1
  · exact fin 0 x k0 (by rw [if_neg q]) (by rw [if_neg q]) g0 tp0
end C1
