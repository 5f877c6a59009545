section LG
variable {S8 : hS} {D : Nat → Nat} {t : Fo} {c n a1 a6 a5 ia cnt p lw : Nat} {pi : Bool} {sh : Nat → Fo}
theorem Fix_R {S : hS} {f : Nat → Nat → Option Nat} (hx : Fix S) (e : ∀ m b, m ≠ 10 → m ≠ 4 → f m b = zR S m b) : Fix (stR S f) := by
  obtain ⟨⟨a1, a2, a3, a4⟩, ⟨b1, b2⟩, ⟨d1, d2, d3, d4, d5⟩, ⟨e1, e2, e3⟩, ⟨f1, f2, f3⟩, ⟨g1, g2⟩, ⟨h1, h2⟩, ⟨i1, i2⟩, ⟨j1, j2⟩, kk, ll⟩ := hx
  refine ⟨⟨a1, (e 0 0 (by decide) (by decide)).trans a2, (e 5 0 (by decide) (by decide)).trans a3, (e 6 0 (by decide) (by decide)).trans a4⟩, ⟨b1, b2⟩, ⟨d1, (e 0 2 (by decide) (by decide)).trans d2, (e 1 2 (by decide) (by decide)).trans d3, (e 2 2 (by decide) (by decide)).trans d4, (e 3 2 (by decide) (by decide)).trans d5⟩, ⟨e1, e2, e3⟩, ⟨f1, f2, f3⟩, ⟨g1, g2⟩, ⟨h1, h2⟩, ⟨i1, i2⟩, ⟨j1, j2⟩, fun p hp => ?_, fun k hk => ?_⟩
  · obtain ⟨u1, u2, u3, u4, u5, u6⟩ := kk p hp
    exact ⟨u1, (e 0 _ (by decide) (by decide)).trans u2, u3, (e 0 _ (by decide) (by decide)).trans u4, u5, u6⟩
  · obtain ⟨u1, u2, u3, u4, u5, u6, u7⟩ := ll k hk
    exact ⟨u1, (e 0 _ (by decide) (by decide)).trans u2, (e 1 _ (by decide) (by decide)).trans u3, u4, u5, u6, u7⟩
theorem Kp_of {S S' : hS} (k : Kp S S') (h9 : True) : ∀ x, ztg S x = 10 → (∀ k, zI S' k x = zI S k x) ∧ (∀ k, zR S' k x = zR S k x) ∧ zL S' x = zL S x ∧ ztg S' x = ztg S x := fun x hx => by
  obtain ⟨f, g, h, rfl, k1, k2, k3⟩ := k
  exact ⟨fun m => k2 m x (fun _ => by rw [hx]; decide), fun m => k1 m x (fun _ => by rw [hx]; decide) (fun _ => by rw [hx]; decide), rfl, rfl⟩
theorem SN_w {S S' : hS} (h1 : S.1 ≤ S'.1) (h : ∀ x, ztg S x = 10 → (∀ k, zI S' k x = zI S k x) ∧ (∀ k, zR S' k x = zR S k x) ∧ zL S' x = zL S x ∧ ztg S' x = ztg S x) : ∀ (t : Fo), PW D t → ∀ v, SN S D lw t v → SN S' D lw t v := PW_ind (fun v h => h) (fun q r _ _ ih v hh => by
    obtain ⟨b, e, ⟨l1, l2, l3⟩, sd, z0, h7, h8, hr⟩ := hh
    obtain ⟨e1, e2, e3, e4⟩ := h b sd.1
    have sd' : StD S' b (D q) := by
      obtain ⟨s1, s2⟩ := sd
      unfold StD
      rw [e4, e1, e1, e1, e1, e1, e3]
      exact ⟨s1, s2⟩
    exact ⟨b, e, ⟨l1, Nat.lt_of_lt_of_le l2 h1, l3⟩, sd', by rw [e1]; exact z0, by rw [e2]; exact h7, by rw [e2]; exact h8, by rw [e2]; exact ih _ hr⟩) (fun q i t1 r _ _ _ _ ih1 ih2 v hh => by
    obtain ⟨b, e, ⟨l1, l2, l3⟩, sd, z0, h7, h8, hr⟩ := hh
    obtain ⟨e1, e2, e3, e4⟩ := h b sd.1
    have sd' : StD S' b (D q) := by
      obtain ⟨s1, s2⟩ := sd
      unfold StD
      rw [e4, e1, e1, e1, e1, e1, e3]
      exact ⟨s1, s2⟩
    exact ⟨b, e, ⟨l1, Nat.lt_of_lt_of_le l2 h1, l3⟩, sd', by rw [e1]; exact z0, by rw [e2]; exact ih1 _ h7, by rw [e2]; exact h8, by rw [e2]; exact ih2 _ hr⟩) (fun q i j t1 t2 r _ _ _ _ _ ih1 ih2 ih3 v hh => by
    obtain ⟨b, e, ⟨l1, l2, l3⟩, sd, z0, h7, h8, hr⟩ := hh
    obtain ⟨e1, e2, e3, e4⟩ := h b sd.1
    have sd' : StD S' b (D q) := by
      obtain ⟨s1, s2⟩ := sd
      unfold StD
      rw [e4, e1, e1, e1, e1, e1, e3]
      exact ⟨s1, s2⟩
    exact ⟨b, e, ⟨l1, Nat.lt_of_lt_of_le l2 h1, l3⟩, sd', by rw [e1]; exact z0, by rw [e2]; exact ih1 _ h7, by rw [e2]; exact ih2 _ h8, by rw [e2]; exact ih3 _ hr⟩)
theorem SB_w {S S' : hS} (h1 : S.1 ≤ S'.1) (h : ∀ x, ztg S x = 10 → (∀ k, zI S' k x = zI S k x) ∧ (∀ k, zR S' k x = zR S k x) ∧ zL S' x = zL S x ∧ ztg S' x = ztg S x) : ∀ (t : Fo), PW D t → ∀ v E, SN S D lw t v → SB S t v E → SB S' t v E := PW_ind (fun v E _ h => h) (fun q r _ _ ih v E hh hb => by
    obtain ⟨b, e, _, sd, z0, h7, h8, hr⟩ := hh
    obtain ⟨b', e', y0, y10, yr⟩ := hb
    rw [e] at e'
    cases e'
    obtain ⟨e1, e2, e3, e4⟩ := h b sd.1
    exact ⟨b, e, by rw [e1]; exact y0, by rw [e2, e2]; exact y10, by rw [e2]; exact ih _ _ hr yr⟩) (fun q i t1 r _ _ _ _ ih1 ih2 v E hh hb => by
    obtain ⟨b, e, _, sd, z0, h7, h8, hr⟩ := hh
    obtain ⟨b', e', y0, y10, y7, yr⟩ := hb
    rw [e] at e'
    cases e'
    obtain ⟨e1, e2, e3, e4⟩ := h b sd.1
    exact ⟨b, e, by rw [e1]; exact y0, by rw [e2, e2]; exact y10, by rw [e2]; exact ih1 _ _ h7 y7, by rw [e2]; exact ih2 _ _ hr yr⟩) (fun q i j t1 t2 r _ _ _ _ _ ih1 ih2 ih3 v E hh hb => by
    obtain ⟨b, e, _, sd, z0, h7, h8, hr⟩ := hh
    obtain ⟨b', e', y0, y10, y7, y8, yr⟩ := hb
    rw [e] at e'
    cases e'
    obtain ⟨e1, e2, e3, e4⟩ := h b sd.1
    exact ⟨b, e, by rw [e1]; exact y0, by rw [e2, e2]; exact y10, by rw [e2, e2]; exact ih1 _ _ h7 y7, by rw [e2, e2]; exact ih2 _ _ h8 y8, by rw [e2]; exact ih3 _ _ hr yr⟩)
theorem ld_good (hx8 : Fix S8) (h178 : 178 ≤ a1) (h61 : a1 < a6) (ct : Ct S8 a6 pi (cnt + p)) (hcp : cnt + p ≤ 200) (t1 : ztg S8 a1 = 6) (i1 : zI S8 3 a1 = Int32.ofNat cnt) (z10 : zI S8 1 0 = 0) (pt : PW D t) (sn : SN S8 D lw t (some a5)) (hPI : PI t 0 c) (hc : c ≤ 1000) (hd : dpt t ≤ 12) (hns : nsm t ≤ 40) (hr : InR S8 ia (cut D t) sh 0) (hds : Dsi sh 0) (hlen : ∀ p, p < 6 → (tx 0 (cut D t p)).length ≤ 600) (hn : 60000 ≤ n) : ∃ Sa S12 g2, BG Sa S12 ∧ AftC n a1 a6 a5 S8 (some ia) = some (szAI S12 133 g2, .inr (Int32.ofNat p)) ∧ (∀ j, j < 24 → g2 j = 0) ∧ Fix Sa ∧ (Sa.1 = S8.1 ∧ Sa.2.1 = S8.2.1 ∧ Sa.2.2.1 = S8.2.2.1 ∧ zMI Sa = zMI S8 ∧ zMA Sa = zMA S8) ∧ (zI Sa 1 0 = 0 ∧ zI Sa 2 0 = -1 ∧ zI Sa 3 0 = -1) ∧ zR Sa 4 0 = some a5 ∧ zI Sa 4 2 = zI S8 4 2 ∧ (∀ k, k < 36 → zI Sa 2 (25 + 3 * k) = zI S8 2 (25 + 3 * k)) ∧ (∀ i, i < 24 → zAI Sa 5 i = 0) ∧ zAI Sa 133 = zAI S8 133 ∧ (∀ p, p < 6 → XT Sa (8 + 3 * p) (9 + 3 * p) (tx 0 (cut D t p))) ∧ (∀ p, p < 6 → Rp Sa true (cut D t p) (sh p) (fun _ => zR Sa 1 (7 + 3 * p)) ∧ BH Sa true (cut D t p) (sh p) none) ∧ SN Sa D lw t (some a5) ∧ SB Sa t (some a5) none := by
  obtain ⟨c1, c2, c3, c4, c5⟩ := ct
  have tg0 := hx8.1.1
  have i9 : ∀ m x, x ≠ 0 → zI (szI (szI S8 2 0 (-1)) 3 0 (-1)) m x = zI S8 m x := fun m x h => by rw [zI_ne h, zI_ne h]
  have sn9 : SN (szI (szI S8 2 0 (-1)) 3 0 (-1)) D lw t (some a5) := SN_w (S := S8) (S' := szI (szI S8 2 0 (-1)) 3 0 (-1)) (Nat.le_refl _) (fun x hx => ⟨fun m => i9 m x (fun z => by rw [z, tg0] at hx; omega), fun _ => rfl, rfl, rfl⟩) t pt _ sn
  obtain ⟨S9, y9, m9, sb9⟩ := ssettle_ok (E := none) (n := n) (r := 9) pt sn9 hPI hc hd (by omega) (by decide)
  have sn9' := SN_T m9 t pt _ sn9
  have m9' := m9
  obtain ⟨fR, e9, hR9⟩ := m9'
  have fx9 : Fix (szI (szI S8 2 0 (-1)) 3 0 (-1)) := hx8
  have rr : ∀ m b, m ≠ 10 → m ≠ 4 → zR (szR S9 4 0 (some a5)) m b = zR S8 m b := fun m b h1 h2 => by
    rw [zR_q (fun e => absurd e h2), MdT_R m9 h1]
    rfl
  have fx10 : Fix (szR S9 4 0 (some a5)) := by
    have e10 : szR S9 4 0 (some a5) = stR (szI (szI S8 2 0 (-1)) 3 0 (-1)) (zR (szR S9 4 0 (some a5))) := by
      rw [e9]
      rfl
    rw [e10]
    exact Fix_R fx9 (fun m b h1 h2 => rr m b h1 h2)
  have ii : ∀ m x, x ≠ 0 → zI (szR S9 4 0 (some a5)) m x = zI S8 m x := fun m x h => by
    show zI S9 m x = _
    rw [MdT_I m9]
    exact i9 m x h
  have tg10 : ∀ x, ztg (szR S9 4 0 (some a5)) x = ztg S8 x := fun x => by
    show ztg S9 x = _
    rw [MdT_tg m9]
    rfl
  have ln10 : ∀ x, zLen (szR S9 4 0 (some a5)) x = zLen S8 x := fun x => by rw [e9]; rfl
  have ar10 : zAR (szR S9 4 0 (some a5)) = zAR S8 := by rw [e9]; rfl
  have ai10 : zAI (szR S9 4 0 (some a5)) = zAI S8 := by rw [e9]; rfl
  have lL10 : zL (szR S9 4 0 (some a5)) = zL S8 := by rw [e9]; rfl
  have lk10 : ∀ x, ztg S8 x = 2 → Lk S8 (szR S9 4 0 (some a5)) x := fun x hx => by
    have n0 : x ≠ 0 := fun z => by rw [z, tg0] at hx; omega
    exact ⟨fun m => ii m x n0, rr 6 x (by decide) (by decide), rr 8 x (by decide) (by decide), congrFun lL10 x, tg10 x, tg10 (x + 1), ln10 (x + 1), congrFun ar10 (x + 1)⟩
  have hr10 : InR (szR S9 4 0 (some a5)) ia (cut D t) sh 0 := by
    obtain ⟨r1, r2, r3⟩ := hr
    refine ⟨by rw [tg10]; exact r1, by rw [ln10]; exact r2, fun p h1 h2 => ?_⟩
    obtain ⟨q1, q2, q3, q4, q5⟩ := r3 p h1 h2
    refine ⟨by rw [ar10]; exact q1, by rw [tg10]; exact q2, q3, ?_, q5⟩
    rw [rr 0 _ (by decide) (by decide)]
    exact Rp_fr _ true q3 _ _ q4 (fun x hx => lk10 x (Rp_nd _ true q3 _ _ q4 x hx).1)
  have tpk : TPk (n - 60) (cut D t) sh := by
    refine ⟨fun p hp => ⟨cut_so t pt p, cut_wk t pt p, Nat.le_trans (dq_cut t pt) (by omega), ?_, hlen p hp, (hr.2.2 p (Nat.zero_le _) hp).2.2.2.2⟩, hds⟩
    have := (nq_tx _ true (cut_so t pt p) (cut_wk t pt p)).1 rfl
    have := hlen p hp
    omega
  obtain ⟨S12, y12, Sx, gx, kp, tpo, gz, bg⟩ := take_ok (F := fun p => zR (szR S9 4 0 (some a5)) 0 (ia + 1 + p)) (m := n) tpk fx10 hr10 (fun _ _ => rfl) (by omega)
  have fxx : Fix Sx := Fix_kp fx10 kp
  have fxa : Fix (szAI Sx 5 gx) := fxx
  have fx12 := BG_fix bg fxa
  obtain ⟨g2, y14, gz2⟩ := clear_ok (n := n) fx12.2.2.2.2.2.2.2.1.1 fx12.2.2.2.2.2.2.2.1.2 (by decide) (by omega)
  have kp' := kp
  obtain ⟨kf, kg, kh, ex, kx1, kx2, kx3⟩ := kp'
  have bg' := bg
  obtain ⟨bf, bgg, bh, e12, u1, u2, u3, u4, u5, u6, u7, u8⟩ := bg'
  have tgx : ∀ x, ztg Sx x = ztg S8 x := fun x => by rw [ex]; exact tg10 x
  have iix : ∀ m x, x ≠ 0 → ztg S8 x ≠ 4 → zI Sx m x = zI S8 m x := fun m x h1 h2 => by
    rw [ex]
    show kf m x = _
    rw [kx2 m x (fun _ => by rw [tg10]; exact h2)]
    exact ii m x h1
  have i0x : ∀ m, zI Sx m 0 = zI (szI (szI S8 2 0 (-1)) 3 0 (-1)) m 0 := fun m => by
    rw [ex]
    show kf m 0 = _
    rw [kx2 m 0 (fun _ => by rw [tg10, tg0]; decide)]
    show zI S9 m 0 = _
    rw [MdT_I m9]
  have a6n : a6 ≠ 0 := by omega
  refine ⟨szAI Sx 5 gx, S12, g2, bg, ?_, gz2, fxa, ?_, ⟨?_, ?_, ?_⟩, ?_, ?_, fun k hk => ?_, fun i hi => ?_, ?_, fun p hp => ?_, fun p hp => ?_, ?_, ?_⟩
  · unfold AftC
    rw [if_pos c1, if_pos tg0, c4, c5, if_pos rfl, if_pos rfl]
    refine (zcV_s y9).trans ?_
    have t9 : ∀ x, ztg S9 x = ztg S8 x := fun x => by rw [MdT_tg m9]; rfl
    rw [if_pos (show ztg S9 0 = 1 by rw [t9]; exact tg0)]
    have r5 : zR S9 5 0 = some 2 := by rw [MdT_R m9 (by decide)]; exact hx8.1.2.2.1
    refine zlb_s.trans ((zob_s r5).trans ?_)
    rw [if_pos (show ztg S9 2 = 9 by rw [t9]; exact hx8.2.2.1.1)]
    refine (zcV_s y12).trans ?_
    rw [if_pos fx12.1.1]
    refine zlb_s.trans ?_
    rw [fx12.1.2.2.2]
    refine (zcV_s y14).trans ?_
    have t14 : ∀ x, ztg (szAI S12 133 g2) x = ztg S8 x := fun x => by
      show ztg S12 x = _
      rw [e12]
      exact tgx x
    rw [if_pos (by rw [t14]; exact c1), if_pos (by rw [t14]; exact t1)]
    have v1 : zI (szAI S12 133 g2) 1 a6 = Int32.ofNat (cnt + p) := by
      show zI S12 1 a6 = _
      rw [e12]
      show bf 1 a6 = _
      rw [u6 1 a6 (fun e => by omega) (fun e => by omega)]
      show zI Sx 1 a6 = _
      rw [iix 1 a6 a6n (by rw [c1]; decide)]
      exact c3
    have v3 : zI (szAI S12 133 g2) 3 a1 = Int32.ofNat cnt := by
      show zI S12 3 a1 = _
      rw [e12]
      show bf 3 a1 = _
      rw [u6 3 a1 (fun _ => ⟨fun k hk => by omega, fun p hp => by omega⟩) (fun e => by omega)]
      show zI Sx 3 a1 = _
      rw [iix 3 a1 (by omega) (by rw [t1]; decide)]
      exact i1
    rw [v1, v3, o_sub (by omega), Nat.add_sub_cancel_left]
  · rw [ex, e9]
    exact ⟨rfl, rfl, rfl, rfl, rfl⟩
  · show zI Sx 1 0 = 0
    rw [i0x, zI_k (by decide), zI_k (by decide)]
    exact z10
  · show zI Sx 2 0 = -1
    rw [i0x, zI_k (by decide), zI_self]
  · show zI Sx 3 0 = -1
    rw [i0x, zI_self]
  · show zR Sx 4 0 = some a5
    rw [ex]
    show kg 4 0 = _
    rw [kx1 4 0 (fun e => by omega) (fun e => by omega), zR_self]
  · show zI Sx 4 2 = _
    exact iix 4 2 (by decide) (by rw [hx8.2.2.1.1]; decide)
  · show zI Sx 2 _ = _
    exact iix 2 _ (by omega) (by rw [(hx8.2.2.2.2.2.2.2.2.2.2 k hk).1]; decide)
  · rw [zAI_s]
    exact gz i hi
  · rw [zAI_n (by decide), ex]
    show kh 133 = _
    rw [kx3 133 (by rw [tg10, hx8.2.2.2.2.2.2.2.1.1]; decide), ai10]
  · obtain ⟨_, _, _, q1, q2, q3, q4, q5, q6, q7⟩ := tpo p hp
    refine ⟨q1, q2, q3, q4, q5, q6, fun i hi => ?_⟩
    rw [zAI_n (by omega)]
    exact q7 i hi
  · obtain ⟨q1, q2, q3, _⟩ := tpo p hp
    have nd := Rp_nd _ true (cut_so t pt p) _ _ q1
    refine ⟨?_, ?_⟩
    · have : zR (szAI Sx 5 gx) 1 (7 + 3 * p) = zR (szR S9 4 0 (some a5)) 0 (ia + 1 + p) := q3
      rw [this]
      exact Rp_fr (S := Sx) _ true (cut_so t pt p) _ _ q1 (fun x hx => ⟨fun _ => rfl, rfl, rfl, rfl, rfl, rfl, rfl, rfl⟩)
    · exact BH_fr (S := Sx) _ true (cut_so t pt p) _ _ _ q1 q2 (fun x hx => ⟨rfl, rfl⟩)
  · have s10 : SN (szR S9 4 0 (some a5)) D lw t (some a5) := SN_w (S := S9) (S' := szR S9 4 0 (some a5)) (Nat.le_refl _) (fun x hx => ⟨fun _ => rfl, fun m => zR_q (fun _ z => by rw [z, show ztg S9 0 = 1 by rw [MdT_tg m9]; exact tg0] at hx; omega), rfl, rfl⟩) t pt _ sn9'
    exact SN_w (S := szR S9 4 0 (some a5)) (S' := szAI Sx 5 gx) (by rw [ex]; exact Nat.le_refl _) (fun x hx => Kp_of (S' := Sx) kp trivial x hx) t pt _ s10
  · have h10 : ∀ x, ztg S9 x = 10 → (∀ k, zI (szR S9 4 0 (some a5)) k x = zI S9 k x) ∧ (∀ k, zR (szR S9 4 0 (some a5)) k x = zR S9 k x) ∧ zL (szR S9 4 0 (some a5)) x = zL S9 x ∧ ztg (szR S9 4 0 (some a5)) x = ztg S9 x := fun x hx => ⟨fun _ => rfl, fun m => zR_q (fun _ z => by rw [z, show ztg S9 0 = 1 by rw [MdT_tg m9]; exact tg0] at hx; omega), rfl, rfl⟩
    have s10 : SN (szR S9 4 0 (some a5)) D lw t (some a5) := SN_w (S := S9) (S' := szR S9 4 0 (some a5)) (Nat.le_refl _) h10 t pt _ sn9'
    have b10 : SB (szR S9 4 0 (some a5)) t (some a5) none := SB_w (S := S9) (S' := szR S9 4 0 (some a5)) (Nat.le_refl _) h10 t pt _ _ sn9' sb9
    exact SB_w (S := szR S9 4 0 (some a5)) (S' := szAI Sx 5 gx) (by rw [ex]; exact Nat.le_refl _) (fun x hx => Kp_of (S' := Sx) kp trivial x hx) t pt _ _ s10 b10
end LG
