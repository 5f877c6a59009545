section C2
variable {S S1 S' : hS} {p q k h z j a n m pos b i : Nat} {I I1 I2 : Nat → Int32} {A A1 A2 B A' : Nat → Nat → Int32} {K Kr : Nat → Fo} {Q : Nat → Nat → List Nat} {T la : List Nat} {R : Fo} {v w : Int32} {L : List (Fo × Fo)} {f g : Nat → Int32} {ks r ks' r' x : Fo} {L' : List (Fo × Fo)} {E : Option Nat}
theorem Chg_h0 (c : Chg p k S S1) (hx : Fix S) (hp : p < 6) (hk : k < 36) : HF S S1 := fun x hx2 _ => by
  have tg := Chg_tg c
  have ln := Chg_ln c
  obtain ⟨_, c1, c2, c3, c4, c5, c6, c7, _⟩ := c
  obtain ⟨_, _, ⟨d1, _⟩, _, _, _, _, _, _, jj, kk⟩ := hx
  have n1 : x ≠ 7 + 3 * p := fun e => by rw [e, (jj p hp).1] at hx2; omega
  have n2 : x ≠ 25 + 3 * k := fun e => by rw [e, (kk k hk).1] at hx2; omega
  have n3 : x ≠ 2 := fun e => by rw [e, d1] at hx2; omega
  exact ⟨⟨fun m => c1 m x n1 n2 n3, c4 6 x (by omega), c4 8 x (by omega), congrFun c6 x, tg x, tg (x + 1), ln (x + 1), congrFun c7 (x + 1)⟩, c4 9 x (by omega)⟩
def entV (S : hS) (a n i : Nat) : Option Nat := orE (zAR S (a + 1) i) (if kLp n = true then some a else zR S 9 a)
theorem enter_v (nd : Ndd S a n ks) (ta : ∀ i x, gid i ks = some x → i < pof (cK n)) (hg : gid i ks = some x) : yA_enter S a (Int32.ofNat i) = some (S, entV S a n i) := by
  have hi := ta i x hg
  have hp := pof_le (cK n)
  have nd' := nd
  obtain ⟨a1, _, a3, a4, a5, _, a7⟩ := nd'
  unfold yA_enter entV
  rw [if_pos a1]
  have hh := has_ok nd ta (i := i) (by omega)
  rw [hg] at hh
  refine (zcP_s hh).trans ?_
  show (if ty_b true = 0 then _ else _) = _
  rw [if_neg (by decide), if_pos a1]
  refine zlb_s.trans ((zob_s a3).trans ?_)
  rw [if_pos (zal_27 a4).2, a5, if_pos (j_in (by omega) hi), (j_n (n := i) (by omega)).2]
  refine zlb_s.trans ?_
  cases hz : zAR S (a + 1) i with
  | none =>
    rw [zoc_N]
    refine (zcP_s (again_ok nd)).trans ?_
    cases hk : kLp n with
    | false =>
      show (if ty_b false = 0 then _ else _) = _
      rw [if_pos (by decide), if_pos a1]
      rfl
    | true =>
      show (if ty_b true = 0 then _ else _) = _
      rw [if_neg (by decide)]
      rfl
  | some b =>
    rw [zoc_S]
    refine zlb_s.trans ((zob_s a3).trans ?_)
    rw [if_pos (zal_27 a4).2, a5, if_pos (j_in (by omega) hi), hz]
    rfl
theorem enter_k (h : NdS S a n ks r ks' r' L E) (s1 : So false ks) (hg : gid i ks = some x) : ∃ x', Stk S ((x, x') :: (if kLp n = true then (cn n ks r, cn a ks' r') else (r, r')) :: L) (entV S a n i) := by
  have h' := h
  obtain ⟨nd, rk, rr, h9, bk, br, st⟩ := h
  obtain ⟨t1, t2⟩ := Stk_of h'
  obtain ⟨x', gx, rx, hx⟩ := Rp_gid s1 rk hg
  have hbx := BH_gid s1 ks' _ rk bk hg gx
  refine ⟨x', zAR S (a + 1) i, _, rx, hbx, ?_, rfl⟩
  by_cases q : kLp n = true
  · rw [if_pos q, if_pos q]
    exact t1
  · rw [if_neg q, if_neg q]
    exact t2
theorem entV_fr (hf : HF S S') (nd : Ndd S a n ks) : entV S' a n i = entV S a n i := by
  have := hf a nd.1 nd.2.2.2.1
  unfold entV
  rw [this.1.2.2.2.2.2.2.2, this.2]
theorem enter_f (hf : HF S S') (nd : Ndd S a n ks) (ta : ∀ i x, gid i ks = some x → i < pof (cK n)) (hg : gid i ks = some x) : yA_enter S' a (Int32.ofNat i) = some (S', entV S a n i) := by
  rw [← entV_fr hf nd]
  exact enter_v (Nd_fr nd (hf a nd.1 nd.2.2.2.1).1) ta hg
theorem recv_o {Y : Nat → Option (hS × Int32)} {X : Nat → Option xR} {r0 k' d : Nat} {l : List Nat} {L2 : List (Fo × Fo)} {o : Option Nat} (hx : Fix S) (hR : RnS S K Q Kr) (hp : p < 6) (hq : q < 6) (hk : k = 6 * q + p) (hr : zI S 4 2 = Int32.ofNat r0) (r8 : r0 ≤ 8) (h8 : h < 8) (z1 : 1 ≤ z) (zr : z ≤ r0) (hD : Q q p = d :: l) (hl : (Q q p).length = z) (ha : ∀ i, i < z → zAI S (26 + 3 * k) ((h + i) % 8) = zMA S 40 (8 * k + i) ∧ zAI S (27 + 3 * k) ((h + i) % 8) = zMA S 41 (8 * k + i) ∧ Dsc ((Q q p).getD i 0) (zMA S 40 (8 * k + i)) (zMA S 41 (8 * k + i))) (hf : FtA (zMA S) A' k z) (hgf : ∀ i, i < 24 → g i = f i) (hwL : LW L2) (hst : Stk S L2 o) (tp : TP (tx 0 (K p)) (L2.map Prod.fst) k') (h3 : zI S 3 (7 + 3 * p) = 0) (hG : Gd (upK Kr p (remL L2)) (upQ Q q p l)) (e : ∀ i, i ≠ 19 → i ≠ 20 → I i = zM0 S i) (hy : ∃ N, ∀ m, N ≤ m → Y m = some (szR (szAI (rmS S k h z) 6 g) 2 (7 + 3 * p) o, 1) ∧ X m = some (I, sA (upA A' 34 f) p k', 1)) : OutS S p K Y X := by
  have hk36 : k < 36 := by omega
  have c : Chg p k S (szR (szAI (rmS S k h z) 6 g) 2 (7 + 3 * p) o) := Chg_t Chg_m (Chg_t Chg_V Chg_R)
  have cr : ChR p k (zM0 S) I (zMA S) (sA (upA A' 34 f) p k') := ChR_t (ChR_I e) (ChR_t (ChR_f hf) (ChR_t ChR_34 ChR_sA))
  refine ⟨_, I, _, 1, k, hy, hk36, c, cr, Or.inr rfl, ⟨_, _, RnS_fin (R' := remL L2) hx hp hk36 c cr hR ?_ ?_ hG⟩, fun i hi => ?_, ?_, e 18 (by decide) (by decide), fun e' => absurd e' (by decide)⟩
  · refine Pty_new (Chg_hf c hx hp hk36) hwL hst (zR_self _ 2 _ _) sA_36.1 tp ?_ sA_36.2
    show zI (rmS S k h z) 3 (7 + 3 * p) = 0
    unfold rmS
    rw [zI_ne (by omega), zI_ne (by omega)]
    exact h3
  · refine QQ_ch (p0 := p) hp hq hp hk c cr hR.1 (fun r hr' _ r8' => ?_)
    have : r = r0 := by
      rw [hr] at hr'
      have := congrArg Int32.toInt hr'
      rw [(j_n (by omega)).1, (j_n (by omega)).1] at this
      omega
    subst this
    rw [hD] at hl ha
    have g' := QK_fetch (I := I) z1 zr r8 h8 hl ha hf
    refine QK_eq (S := szM (rmS S k h z) I A') rfl rfl (zAI_n (by omega)) (zAI_n (by omega)) rfl (fun i _ => ⟨rfl, rfl⟩) r8 g'
  · show zAI (szAI (rmS S k h z) 6 g) 6 i = sA (upA A' 34 f) p k' 34 i
    rw [zAI_s, sA_o (by decide) (by decide), upA_j]
    exact hgf i hi
  · show zI (rmS S k h z) 5 2 = _
    unfold rmS
    rw [zI_ne (by omega), zI_ne (by omega)]
theorem Q_cons {Z : List Nat} (h1 : Z.length = z) (h2 : 1 ≤ z) : ∃ d l, Z = d :: l := by
  cases Z with
  | nil => simp at h1; omega
  | cons d l => exact ⟨d, l, rfl⟩
theorem dsc_l {d : Nat} {v l : Int32} (h : Dsc (d + 1) v l) : d < 10 ∧ v = Int32.ofNat d := by
  rcases h with ⟨e, _⟩ | ⟨b, h1, h2, _, h4⟩
  · cases e
  · have : b = d := by omega
    subst this
    exact ⟨h1, h4⟩
theorem lab01 {D : List Nat} (ha : ∀ i, i < z → zAI S (26 + 3 * k) ((h + i) % 8) = zMA S 40 (8 * k + i) ∧ zAI S (27 + 3 * k) ((h + i) % 8) = zMA S 41 (8 * k + i) ∧ Dsc (D.getD i 0) (zMA S 40 (8 * k + i)) (zMA S 41 (8 * k + i))) : ∀ j, j < z → zMA S 41 (8 * k + j) = 0 ∨ zMA S 41 (8 * k + j) = 1 := fun j hj => by
  rcases (ha j hj).2.2 with ⟨_, e⟩ | ⟨_, _, _, e, _⟩
  · exact Or.inl e
  · exact Or.inr e
theorem case_3 (hx : Fix S) (hv6 : ∀ i, i < 24 → zAI S 6 i = zMA S 34 i) (hR : RnS S K Q Kr) (h : AtN S p (tx 0 (K p)) a n ks r ks' r' L' E j la) (h3 : zI S 3 (7 + 3 * p) = 0) (hK : Kr p = cn n ks (ap r (remL L'))) (hk : cK n = 3) : OutS S p K (fun m => yT_goOn m S 2 (Int32.ofNat p) (some a)) (fun m => x_stepMessage m (zM0 S) (zMA S) (Int32.ofNat p) (Int32.ofNat j)) := by
  obtain ⟨hp, ht, nd, hw, hs, hl, he, h36, h2⟩ := h
  obtain ⟨⟨s1, s2, _⟩, w0⟩ := hw _ List.mem_cons_self
  have w0' := w0
  obtain ⟨w1, w2, w3, w4⟩ := w0'
  have hv := cV_lt n
  have ho := hv_o w1 (Or.inr (Or.inl hk))
  obtain ⟨f1, f2⟩ := ent_s (by omega) w0 hs he
  obtain ⟨k', tp, st⟩ := stand_t s2 w4 (Sfx_r f1) hl f2
  rw [hdk_3 hk] at f1 st
  have f1' : Sfx (tx 0 (K p)) j ((65 + cO n) :: 62 :: (119 + cV n) :: 59 :: (tx 0 r ++ la)) := f1
  have hQ := hR.1
  obtain ⟨r0, r1, r8, q1, q2, q3⟩ := hQ
  obtain ⟨h, z, a1, a2, a3, a4, a5, a6, a7⟩ := q3 (cO n) p ho hp
  by_cases z0 : z = 0
  · subst z0
    exact wait_o hx hv6 hR (fun _ _ _ => rfl) ⟨20, fun m hm => ⟨go_r hx hp nd.1 (Or.inl hk) (Or.inl rfl) (rc_0 hx hp nd.1 ho rfl a4), sm_0 ht f1' ho a5⟩⟩
  · have z1 : 1 ≤ z := by omega
    obtain ⟨d, l, hD⟩ := Q_cons a6 z1
    obtain ⟨_, hG⟩ := Gd_take hR.2.1 hp hK hk ho hD
    have hl0 := ht.2.2.2.1
    have hle := Sfx_le f1'
    rw [List.length_cons, List.length_cons, List.length_cons, List.length_cons] at hle
    obtain ⟨A', b1, b2⟩ := sm_pre (I := zM0 S) ht f1' ho rfl a5 z1 (by omega) (lab01 a7)
    obtain ⟨N, st⟩ := st
    have v0 := (a7 0 (by omega)).1
    rw [Nat.add_zero, Nat.add_zero, Nat.mod_eq_of_lt a1] at v0
    have e34 : A' 34 = zMA S 34 := b1.1 34 (by decide) (by decide) (by decide)
    refine recv_o (g := upd (zAI S 6) (4 * p + cV n) (zMA S 40 (8 * (6 * cO n + p)))) (f := upd (A' 34) (4 * p + cV n) (zMA S 40 (8 * (6 * cO n + p)))) hx hR hp ho rfl q1 r8 a1 z1 a2 hD a6 a7 b1 (fun i hi => ?_) (LW_r hw) (Stk_of nd).2 tp h3 hG (fun _ _ _ => rfl) ⟨N + 20, fun m hm => ⟨go_r hx hp nd.1 (Or.inl hk) (Or.inr rfl) (rc_1 hx hp nd.1 ho rfl a4 z1 (by omega) a3 a1 v0 (fun e => by omega) (rc_45 (w := none) hx hp nd.1 (by omega) a4 z1 (by omega) a3 a1 (Or.inl ⟨hk, rfl⟩))), ?_⟩⟩
    · rw [e34]
      by_cases e : i = 4 * p + cV n
      · rw [e, upd_s, upd_s]
      · rw [upd_n e, upd_n e]
        exact hv6 i hi
    · show x_stepMessage m (zM0 S) (zMA S) (Int32.ofNat p) (Int32.ofNat j) = _
      rw [b2 m (by omega), if_pos (by decide)]
      have ht' := TX_f b1 ht
      refine (xb_some (chr ht' (by omega))).trans ?_
      rw [show (tx 0 (K p)).getD (j + 2) 0 = 119 + cV n from Sgt_g (Sfx_w (Sfx_c (Sfx_c f1'))), ixv, if_pos (j_in (by omega) (by omega)), (j_n (n := 4 * p + cV n) (by omega)).2]
      exact (xb_some (st m (by omega) _ _ p (TX_u (by decide) ht'))).trans rfl
theorem case_5 (hx : Fix S) (hv6 : ∀ i, i < 24 → zAI S 6 i = zMA S 34 i) (hR : RnS S K Q Kr) (h : AtN S p (tx 0 (K p)) a n ks r ks' r' L' E j la) (h3 : zI S 3 (7 + 3 * p) = 0) (hK : Kr p = cn n ks (ap r (remL L'))) (hk : cK n = 5) : OutS S p K (fun m => yT_goOn m S 2 (Int32.ofNat p) (some a)) (fun m => x_stepMessage m (zM0 S) (zMA S) (Int32.ofNat p) (Int32.ofNat j)) := by
  obtain ⟨hp, ht, nd, hw, hs, hl, he, h36, h2⟩ := h
  obtain ⟨s0, w0⟩ := hw _ List.mem_cons_self
  have s0' := s0
  obtain ⟨s1, s2, _⟩ := s0'
  have w0' := w0
  obtain ⟨w1, w2, w3, w4⟩ := w0'
  have ho := hv_o w1 (Or.inr (Or.inr (Or.inr (Or.inl hk))))
  have ta : ∀ i x, gid i ks = some x → i < pof (cK n) := fun i x hg => tag_lt w1 w2 w3 s1 hg
  have kl : ¬ kLp n = true := by
    unfold kLp
    rw [hk]
    decide
  have hs' : Sfx (tx 0 (K p)) j ((65 + cO n) :: (tx 1 ks ++ (tx 0 r ++ la))) := by
    have := hs
    rw [show tx 0 (cn n ks r) = _ from tx_cn, hv_5 hk, if_pos hk] at this
    simpa using this
  have hQ := hR.1
  obtain ⟨r0, r1, r8, q1, q2, q3⟩ := hQ
  obtain ⟨h, z, a1, a2, a3, a4, a5, a6, a7⟩ := q3 (cO n) p ho hp
  by_cases z0 : z = 0
  · subst z0
    exact wait_o hx hv6 hR (fun _ _ _ => rfl) ⟨20, fun m hm => ⟨go_r hx hp nd.1 (Or.inr (Or.inl hk)) (Or.inl rfl) (rc_0 hx hp nd.1 ho rfl a4), sm_0 ht hs' ho a5⟩⟩
  · have z1 : 1 ≤ z := by omega
    obtain ⟨d, l, hD⟩ := Q_cons a6 z1
    obtain ⟨i, x, rfl, hg, hG⟩ := Gd_hear hR.2.1 hp hK hk ho hD
    have hds := (a7 0 (by omega)).2.2
    rw [hD] at hds
    obtain ⟨i10, hv⟩ := dsc_l hds
    rw [Nat.add_zero] at hv
    have hw0 := WK_get s1 w3 hg
    have hs0 := gid_so s1 hg
    have hl0 := ht.2.2.2.1
    have hle := Sfx_le hs'
    rw [List.length_cons, List.length_append] at hle
    obtain ⟨w', p0, p1⟩ := ent_5 hk s0 w0 hs hl he hg
    obtain ⟨k', tp, st⟩ := stand_t hs0 hw0.2 p0 Edr_c p1
    obtain ⟨x', sk⟩ := enter_k nd s1 hg
    rw [if_neg kl] at sk
    obtain ⟨l0, y0, t0, hks⟩ := w2.2.1 hk
    have hl10 : l0 < 10 := by
      rw [hks] at w3
      exact w3.1
    have hs2 : Sfx (tx 0 (K p)) j ((65 + cO n) :: (48 + l0) :: 123 :: (tx 0 y0 ++ 125 :: (tx 1 t0 ++ (tx 0 r ++ la)))) := by
      rw [hks, tx_1] at hs'
      simpa using hs'
    obtain ⟨A', b1, b2⟩ := sm_pre (I := zM0 S) ht hs2 ho rfl a5 z1 (by omega) (lab01 a7)
    obtain ⟨N, st⟩ := st
    have v0 := (a7 0 (by omega)).1
    rw [Nat.add_zero, Nat.add_zero, Nat.mod_eq_of_lt a1] at v0
    rw [hv] at v0
    have e34 : A' 34 = zMA S 34 := b1.1 34 (by decide) (by decide) (by decide)
    have hf0 : HF S (rmS S (6 * cO n + p) h z) := Chg_h0 (p := p) Chg_m hx hp (by omega)
    have z6 : szAI (rmS S (6 * cO n + p) h z) 6 (zAI S 6) = rmS S (6 * cO n + p) h z := szAI_id (S := rmS S (6 * cO n + p) h z)
    refine recv_o (g := zAI S 6) (f := A' 34) hx hR hp ho rfl q1 r8 a1 z1 a2 hD a6 a7 b1 (fun i hi => by rw [e34]; exact hv6 i hi) (LW_x hs0 hw0.2 (LW_r hw)) sk tp h3 hG (fun _ _ _ => rfl) ⟨N + 1000 + (tx 1 ks).length + 40, fun m hm => ⟨?_, ?_⟩⟩
    · rw [z6]
      exact go_r hx hp nd.1 (Or.inr (Or.inl hk)) (Or.inr rfl) (rc_1 hx hp nd.1 ho rfl a4 z1 (by omega) a3 a1 v0 (fun _ => by rw [has_ok nd.1 ta i10, hg]; rfl) (rc_45 (w := entV S a n i) hx hp nd.1 (by omega) a4 z1 (by omega) a3 a1 (Or.inr (Or.inl ⟨hk, enter_f hf0 nd.1 ta hg, rfl⟩))))
    · show x_stepMessage m (zM0 S) (zMA S) (Int32.ofNat p) (Int32.ofNat j) = _
      rw [b2 m (by omega), if_neg (mt (cq62 (by omega)).mp (by omega)), if_neg (mt (cq64 (by omega)).mp (by omega)), hv, upA_id]
      have ht' := TX_f b1 ht
      obtain ⟨M, m1, m2⟩ := search (I := zM0 S) ht' i10 ks s1 w3 (j + 1) m hg (Sfx_c hs') (by omega)
      rw [m2]
      unfold x_stepMessage_167
      obtain ⟨u, post, u1, _, _, _, u5⟩ := kid_pos ks s1 w3 i x hg
      have hu := Sfx_c hs'
      rw [u1, List.append_assoc] at hu
      have hu2 := Sfx_r hu
      rw [u5] at hu2
      have hu3 : Sfx (tx 0 (K p)) (j + 1 + kpo i ks) ((48 + i) :: 123 :: ((tx 0 x ++ 125 :: tx 1 post) ++ (tx 0 r ++ la))) := hu2
      have hm3 := (Sgt_m (Sfx_w (Sfx_c hu3))).1
      refine (xb_some (isCase_ok ht' (by omega))).trans ?_
      rw [Sgt_g (Sfx_w hu3), Sgt_g (Sfx_w (Sfx_c hu3)), show fgc (48 + i) = true by unfold fgc; rw [decide_eq_true]; omega, show (true && decide (123 = 123)) = true by decide, if_neg (by decide), o2]
      exact (xb_some (st M (by omega) _ _ p ht')).trans rfl
theorem case_8 (hx : Fix S) (hv6 : ∀ i, i < 24 → zAI S 6 i = zMA S 34 i) (hR : RnS S K Q Kr) (h : AtN S p (tx 0 (K p)) a n ks r ks' r' L' E j la) (h3 : zI S 3 (7 + 3 * p) = 0) (hK : Kr p = cn n ks (ap r (remL L'))) (hk : cK n = 8) : OutS S p K (fun m => yT_goOn m S 2 (Int32.ofNat p) (some a)) (fun m => x_stepMessage m (zM0 S) (zMA S) (Int32.ofNat p) (Int32.ofNat j)) := by
  obtain ⟨hp, ht, nd, hw, hs, hl, he, h36, h2⟩ := h
  obtain ⟨s0, w0⟩ := hw _ List.mem_cons_self
  have s0' := s0
  obtain ⟨s1, s2, _⟩ := s0'
  have w0' := w0
  obtain ⟨w1, w2, w3, w4⟩ := w0'
  have ho := hv_o w1 (Or.inr (Or.inr (Or.inr (Or.inr hk))))
  have ta : ∀ i x, gid i ks = some x → i < pof (cK n) := fun i x hg => tag_lt w1 w2 w3 s1 hg
  have kl : kLp n = true := by
    unfold kLp
    rw [hk]
    decide
  obtain ⟨x, hq⟩ := w2.2.2.2 (Or.inr hk)
  obtain ⟨e1, e2, e3⟩ := ent_8 hk hq s0 w0 hs hl he
  have g0 : gid 0 ks = some x := by rw [hq]; rfl
  have wx := WK_get s1 w3 g0
  have sx := gid_so s1 g0
  have bx := (tx_blc x true sx wx.2).1 rfl
  have p0 := Sfx_c (Sfx_c (Sfx_c e1))
  have p1 := Sfx_c (Sfx_r p0)
  obtain ⟨k1, tp1, st1⟩ := stand_t sx wx.2 p0 Edr_c e2
  obtain ⟨k0, tp0, st0⟩ := stand_t s2 w4 p1 hl e3
  have hQ := hR.1
  obtain ⟨r0, r1, r8, q1, q2, q3⟩ := hQ
  obtain ⟨h, z, a1, a2, a3, a4, a5, a6, a7⟩ := q3 (cO n) p ho hp
  by_cases z0 : z = 0
  · subst z0
    exact wait_o hx hv6 hR (fun _ _ _ => rfl) ⟨20, fun m hm => ⟨go_r hx hp nd.1 (Or.inr (Or.inr hk)) (Or.inl rfl) (rc_0 hx hp nd.1 ho rfl a4), sm_0 ht e1 ho a5⟩⟩
  · have z1 : 1 ≤ z := by omega
    obtain ⟨d, l, hD⟩ := Q_cons a6 z1
    have hl0 := ht.2.2.2.1
    have hle := Sfx_le e1
    rw [List.length_cons, List.length_cons, List.length_cons, List.length_append] at hle
    obtain ⟨A', b1, b2⟩ := sm_pre (I := zM0 S) ht e1 ho rfl a5 z1 (by omega) (lab01 a7)
    have ht' := TX_f b1 ht
    obtain ⟨N1, st1⟩ := st1
    obtain ⟨N0, st0⟩ := st0
    have v0 := (a7 0 (by omega)).1
    rw [Nat.add_zero, Nat.add_zero, Nat.mod_eq_of_lt a1] at v0
    have hds := (a7 0 (by omega)).2.2
    rw [hD] at hds
    have e34 : A' 34 = zMA S 34 := b1.1 34 (by decide) (by decide) (by decide)
    have hf0 : HF S (rmS S (6 * cO n + p) h z) := Chg_h0 (p := p) Chg_m hx hp (by omega)
    have z6 : szAI (rmS S (6 * cO n + p) h z) 6 (zAI S 6) = rmS S (6 * cO n + p) h z := szAI_id (S := rmS S (6 * cO n + p) h z)
    rcases Gd_follow hR.2.1 hp hK hk ho hD with ⟨rfl, x2, g2, hG⟩ | ⟨rfl, hG⟩
    · rw [g0] at g2
      cases g2
      obtain ⟨_, hv⟩ := dsc_l hds
      rw [Nat.add_zero] at hv
      obtain ⟨x', sk⟩ := enter_k nd s1 g0
      rw [if_pos kl] at sk
      refine recv_o (g := zAI S 6) (f := A' 34) hx hR hp ho rfl q1 r8 a1 z1 a2 hD a6 a7 b1 (fun i hi => by rw [e34]; exact hv6 i hi) (LW_x sx wx.2 hw) sk tp1 h3 hG (fun _ _ _ => rfl) ⟨N1 + 40, fun m hm => ⟨?_, ?_⟩⟩
      · rw [z6]
        exact go_r hx hp nd.1 (Or.inr (Or.inr hk)) (Or.inr rfl) (rc_1 hx hp nd.1 ho rfl a4 z1 (by omega) a3 a1 v0 (fun e => by omega) (rc_45 (w := entV S a n 0) hx hp nd.1 (by omega) a4 z1 (by omega) a3 a1 (Or.inr (Or.inr (Or.inr ⟨hk, by rw [hv]; decide, enter_f hf0 nd.1 ta g0, rfl⟩)))))
      · show x_stepMessage m (zM0 S) (zMA S) (Int32.ofNat p) (Int32.ofNat j) = _
        rw [b2 m (by omega), if_neg (by decide), if_pos (by decide), hv, if_pos (by decide), upA_id]
        exact (xb_some (st1 m (by omega) _ _ p ht')).trans rfl
    · obtain ⟨_, hv⟩ := dsc_l hds
      rw [Nat.add_zero] at hv
      refine recv_o (g := zAI S 6) (f := A' 34) hx hR hp ho rfl q1 r8 a1 z1 a2 hD a6 a7 b1 (fun i hi => by rw [e34]; exact hv6 i hi) (LW_r hw) (Stk_of nd).2 tp0 h3 hG (fun _ _ _ => rfl) ⟨N0 + (tx 0 x).length + 40, fun m hm => ⟨?_, ?_⟩⟩
      · rw [z6]
        exact go_r hx hp nd.1 (Or.inr (Or.inr hk)) (Or.inr rfl) (rc_1 hx hp nd.1 ho rfl a4 z1 (by omega) a3 a1 v0 (fun e => by omega) (rc_45 (w := none) hx hp nd.1 (by omega) a4 z1 (by omega) a3 a1 (Or.inr (Or.inr (Or.inl ⟨hk, hv, rfl⟩)))))
      · show x_stepMessage m (zM0 S) (zMA S) (Int32.ofNat p) (Int32.ofNat j) = _
        rw [b2 m (by omega), if_neg (by decide), if_pos (by decide), hv, if_neg (by decide), upA_id]
        refine (xb_some (closing_ok (N := m) ht' (Sfx_w (Sfx_c (Sfx_c e1))) bx (by omega))).trans ?_
        rw [o1]
        exact (xb_some (st0 m (by omega) _ _ p ht')).trans rfl
end C2
