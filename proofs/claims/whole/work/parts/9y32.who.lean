section WS
variable {A0 A : Nat → Nat → Int32} {D : Nat → Nat} {I : Nat → Int32} {st lw k2 q : Nat} {S : hS} {g : Nat → Int32} {v : Option Nat} {L' : List Fo} {r : Fo}
theorem wst_s (t1 : ztg S 133 = 20) (t2 : zLen S 133 = 24) (hst : st ≤ 200) (hg : ∀ i, i < 24 → g i = A 35 i) (hA : ∀ j, j ≠ 35 → A j = A0 j) (hI : I 11 = Int32.ofNat st) (h : SStk S D lw (cn q .nil r :: L') v) (hk : WP A0 D st (cn q .nil r :: L') k2) : WSt S A0 D st lw g I A v k2 := by
  obtain ⟨pt, u, E, sn, sb, ss, hv⟩ := h
  obtain ⟨e, pc, ep⟩ := hk
  obtain ⟨pS, pr⟩ := pt
  have sn' : SN S D lw (cn q .nil r) u := sn
  obtain ⟨b, rfl, hb1, sd, z0, r7, r8, sr⟩ := sn
  have sb' : SB S (cn q .nil r) (some b) E := sb
  obtain ⟨b', hb', _, z10, sbr⟩ := sb
  cases hb'
  have hv' : v = some b := hv
  subst hv'
  obtain ⟨⟨k200, i18, ik⟩, pc2⟩ := pc
  obtain ⟨d1, d2, d3, d4, d5, d6, d7⟩ := sd
  have hle := PC_le r pr _ _ pc2
  have hle2 := EndP_le L' e ep
  have hD6 := pS.1
  have hcV := cV_lt (D q)
  have hss : SStk S D lw (r :: L') (zR S 10 b) := ⟨pr, zR S 9 b, E, sr, sbr, ss, z10⟩
  have hwp : WP A0 D st (r :: L') (k2 + 1) := ⟨e, pc2, ep⟩
  have b133 : b ≠ 133 := fun z => by rw [z, t1] at d1; omega
  have hV : ∀ v, v < 4 → (fun v => A 35 (4 * cD (D q) + v)) v = A 35 (4 * cD (D q) + v) := fun _ _ => rfl
  have hV' : ∀ v, v < 4 → (fun v => A 35 (4 * cD (D q) + v)) v = g (4 * cD (D q) + v) := fun v hv => (hg _ (by omega)).symm
  have ixd : ∀ o, Int32.ofNat o * 4 + Int32.ofNat (cV (D q)) = Int32.ofNat (4 * o + cV (D q)) := fun o => by
    rw [show (4 : Int32) = Int32.ofNat 4 from rfl, ← Int32.ofNat_mul, ty_add, Nat.mul_comm]
  have ixe : ∀ o, (4 : Int32) * Int32.ofNat o + Int32.ofNat (cV (D q)) = Int32.ofNat (4 * o + cV (D q)) := fun o => by
    rw [show (4 : Int32) = Int32.ofNat 4 from rfl, ← Int32.ofNat_mul, ty_add]
  have fin : ∀ (o : Nat) (w : Int32) (I' : Nat → Int32), o < 6 → (∀ m, 20 ≤ m → yS_perform m (szAI S 133 g) b (some 133) = some (szAI S 133 (upd g (4 * o + cV (D q)) w), zR S 10 b)) → (∀ m, 10 ≤ m → x_play m I A (Int32.ofNat k2) = some (I', upA A 35 (upd (A 35) (4 * o + cV (D q)) w), Int32.ofNat (k2 + 1))) → A0 17 k2 ≠ 7 → A0 17 k2 ≠ 6 → (∀ j, j ≠ 19 → I' j = I j) → WSt S A0 D st lw g I A (some b) k2 := by
    intro o w I' ho hy hx n7 n6 hI'
    refine ⟨b, _, I', _, r :: L', k2 + 1, k2 + 1, 0, _, rfl, d1, by omega, n7, n6, hy, hx, fun _ _ _ _ _ _ _ => rfl, hss, hwp, fun i hi => ?_, fun j hj => ?_, hI'⟩
    · rw [upA_j]
      by_cases e : i = 4 * o + cV (D q)
      · rw [e, upd_s, upd_s]
      · rw [upd_n e, upd_n e]
        exact hg i hi
    · rw [upA_n hj]
      exact hA j hj
  rcases ik with ⟨k1, i17, i20, ie⟩ | ⟨k1, i17, i19, i20, ie⟩ | ⟨k1, i17⟩ | ⟨k1, _⟩ | ⟨k1, _⟩
  · have hX := xok_w pS (Or.inl k1)
    obtain ⟨I', w1, w2⟩ := ww_ok (I := I) hX hD6 k200 (by rw [hA 18 (by decide)]; exact i18) (ExP_f hA ie) hV
    refine fin (cD (D q)) (evx (fun v => A 35 (4 * cD (D q) + v)) (xt (cE (D q)))) I' hD6 (fun m hm => ?_) (fun m hm => ?_) (by rw [i17]; decide) (by rw [i17]; decide) w2
    · unfold yS_perform
      rw [if_pos (show ztg (szAI S 133 g) b = 10 from d1), show zI (szAI S 133 g) 1 b = Int32.ofNat (cK (D q)) from d2, k1, if_neg (by decide), show zL (szAI S 133 g) b = _ from d7, show zI (szAI S 133 g) 2 b = _ from d3]
      refine (zcP_s (val_p (b := b) t1 t2 hD6 hX hV' hm)).trans ?_
      rw [if_pos (show ztg (szAI S 133 g) b = 10 from d1), show zI (szAI S 133 g) 1 b = Int32.ofNat (cK (D q)) from d2, k1, if_pos (by decide)]
      refine (zob_s rfl).trans ?_
      rw [if_pos (show ztg (szAI S 133 g) 133 = 20 from t1), show zI (szAI S 133 g) 2 b = _ from d3, show zI (szAI S 133 g) 4 b = _ from d5, show zLen (szAI S 133 g) 133 = 24 from t2]
      unfold y_indexOf
      rw [ixd, if_pos (j_in (by omega) (by omega)), (j_n (n := 4 * cD (D q) + cV (D q)) (by omega)).2, zAI_s, szAI_2]
      rfl
    · unfold x_play
      rw [if_pos (j_in (by omega) k200), (j_n (n := k2) (by omega)).2, hA 17 (by decide), i17, if_pos rfl]
      refine (xb_some (w1 m hm)).trans ?_
      rw [hA 18 (by decide), i18, hA 20 (by decide), i20, ixe, if_pos (j_in (by omega) (by omega)), (j_n (n := 4 * cD (D q) + cV (D q)) (by omega)).2, o1]
  · have hX := xok_w pS (Or.inr k1)
    have ho : cO (D q) < 6 := by
      rcases pS.2.1 with e | ⟨_, e, _⟩
      · omega
      · exact e
    obtain ⟨I', w1, w2⟩ := ww_ok (I := I) hX hD6 k200 (by rw [hA 18 (by decide)]; exact i18) (ExP_f hA ie) hV
    refine fin (cO (D q)) (evx (fun v => A 35 (4 * cD (D q) + v)) (xt (cE (D q)))) I' ho (fun m hm => ?_) (fun m hm => ?_) (by rw [i17]; decide) (by rw [i17]; decide) w2
    · unfold yS_perform
      rw [if_pos (show ztg (szAI S 133 g) b = 10 from d1), show zI (szAI S 133 g) 1 b = Int32.ofNat (cK (D q)) from d2, k1, if_neg (by decide), show zL (szAI S 133 g) b = _ from d7, show zI (szAI S 133 g) 2 b = _ from d3]
      refine (zcP_s (val_p (b := b) t1 t2 hD6 hX hV' hm)).trans ?_
      rw [if_pos (show ztg (szAI S 133 g) b = 10 from d1), show zI (szAI S 133 g) 1 b = Int32.ofNat (cK (D q)) from d2, k1, if_neg (by decide), if_pos (by decide)]
      refine (zob_s rfl).trans ?_
      rw [if_pos (show ztg (szAI S 133 g) 133 = 20 from t1), show zI (szAI S 133 g) 3 b = _ from d4 (Or.inl k1), show zI (szAI S 133 g) 4 b = _ from d5, show zLen (szAI S 133 g) 133 = 24 from t2]
      unfold y_indexOf
      rw [ixd, if_pos (j_in (by omega) (by omega)), (j_n (n := 4 * cO (D q) + cV (D q)) (by omega)).2, zAI_s, szAI_2]
      rfl
    · unfold x_play
      rw [if_pos (j_in (by omega) k200), (j_n (n := k2) (by omega)).2, hA 17 (by decide), i17, if_neg (by decide), if_pos rfl]
      refine (xb_some (w1 m hm)).trans ?_
      rw [hA 19 (by decide), i19, hA 20 (by decide), i20, ixe, if_pos (j_in (by omega) (by omega)), (j_n (n := 4 * cO (D q) + cV (D q)) (by omega)).2, o1]
  · refine ⟨b, g, I, A, r :: L', k2 + 1, k2 + 1, 0, zR S 10 b, rfl, d1, by omega, by rw [i17]; decide, by rw [i17]; decide, fun m hm => ?_, fun m hm => ?_, fun _ _ _ _ _ _ _ => rfl, hss, hwp, hg, hA, fun _ _ => rfl⟩
    · unfold yS_perform
      rw [if_pos (show ztg (szAI S 133 g) b = 10 from d1), show zI (szAI S 133 g) 1 b = Int32.ofNat (cK (D q)) from d2, k1, if_pos (by decide)]
      rfl
    · unfold x_play
      rw [if_pos (j_in (by omega) k200), (j_n (n := k2) (by omega)).2, hA 17 (by decide), i17, if_neg (by decide), if_neg (by decide), if_neg (by decide), if_neg (by decide), o1]
  · rcases pS.2.1 with e | ⟨e, _⟩ <;> omega
  · rcases pS.2.1 with e | ⟨e, _⟩ <;> omega
theorem wst_r {i : Nat} {t1 : Fo} (t1' : ztg S 133 = 20) (t2' : zLen S 133 = 24) (hst : st ≤ 200) (hg : ∀ i, i < 24 → g i = A 35 i) (hA : ∀ j, j ≠ 35 → A j = A0 j) (hI : I 11 = Int32.ofNat st) (h : SStk S D lw (cn q (cn i t1 .nil) r :: L') v) (hk : WP A0 D st (cn q (cn i t1 .nil) r :: L') k2) : WSt S A0 D st lw g I A v k2 := by
  have hk' := hk
  obtain ⟨pt, u, E, sn, sb, ss, hv⟩ := h
  obtain ⟨e, pc, ep⟩ := hk
  have pt' : PW D (cn q (cn i t1 .nil) r) := pt
  obtain ⟨k7, pB, p1, pr⟩ := pt
  have sn' : SN S D lw (cn q (cn i t1 .nil) r) u := sn
  obtain ⟨b, rfl, hb1, sd, z0, s7, r8, sr⟩ := sn
  have sb' : SB S (cn q (cn i t1 .nil) r) (some b) E := sb
  obtain ⟨b', hb', _, z10, sb1, sbr⟩ := sb
  cases hb'
  have hv' : v = some b := hv
  subst hv'
  have pc' : PC A0 D (cn q (cn i t1 .nil) r) k2 e := pc
  obtain ⟨⟨k200, i18, ik⟩, c6, e1, pc1, l1, l2, c7, c24, c22, pc2⟩ := pc
  obtain ⟨d1, d2, d3, d4, d5, d6, d7⟩ := sd
  have hle := PC_le r pr _ _ pc2
  have hle2 := EndP_le L' e ep
  obtain ⟨hD6, hX⟩ := pB
  obtain ⟨i17, ie⟩ : A0 17 k2 = 5 ∧ ExP A0 (cE (D q)) k2 := by
    rcases ik with ⟨k1, _⟩ | ⟨k1, _⟩ | ⟨k1, _⟩ | ⟨k1, _⟩ | ⟨_, a, b⟩
    · omega
    · omega
    · omega
    · omega
    · exact ⟨a, b⟩
  have hV : ∀ v, v < 4 → (fun v => A 35 (4 * cD (D q) + v)) v = A 35 (4 * cD (D q) + v) := fun _ _ => rfl
  have hV' : ∀ v, v < 4 → (fun v => A 35 (4 * cD (D q) + v)) v = g (4 * cD (D q) + v) := fun v hv => (hg _ (by omega)).symm
  obtain ⟨I', w1, w2⟩ := ww_ok (I := I) hX hD6 k200 (by rw [hA 18 (by decide)]; exact i18) (ExP_f hA ie) hV
  have hpl : ∀ m, 10 ≤ m → x_play m I A (Int32.ofNat k2) = some (I', A, if evx (fun v => A 35 (4 * cD (D q) + v)) (xt (cE (D q))) = 0 then Int32.ofNat (e1 + 1) else Int32.ofNat (k2 + 1)) := fun m hm => by
    unfold x_play
    rw [if_pos (j_in (by omega) k200), (j_n (n := k2) (by omega)).2, hA 17 (by decide), i17, if_neg (by decide), if_neg (by decide), if_neg (by decide), if_pos rfl]
    refine (xb_some (w1 m hm)).trans ?_
    rw [hA 22 (by decide), c22, o1, o1]
    split <;> rfl
  have hpf : ∀ m, 20 ≤ m → yS_perform m (szAI S 133 g) b (some 133) = some (szAI S 133 g, if evx (fun v => A 35 (4 * cD (D q) + v)) (xt (cE (D q))) = 0 then zR S 10 b else orE (zR S 7 b) (some b)) := fun m hm => by
    unfold yS_perform
    rw [if_pos (show ztg (szAI S 133 g) b = 10 from d1), show zI (szAI S 133 g) 1 b = Int32.ofNat (cK (D q)) from d2, k7, if_neg (by decide), show zL (szAI S 133 g) b = _ from d7, show zI (szAI S 133 g) 2 b = _ from d3]
    refine (zcP_s (val_p (b := b) t1' t2' hD6 hX hV' hm)).trans ?_
    rw [if_pos (show ztg (szAI S 133 g) b = 10 from d1), show zI (szAI S 133 g) 1 b = Int32.ofNat (cK (D q)) from d2, k7, if_neg (by decide), if_neg (by decide), if_neg (by decide)]
    by_cases q0 : evx (fun v => A 35 (4 * cD (D q) + v)) (xt (cE (D q))) = 0
    · rw [if_pos q0, if_pos q0]
      rfl
    · rw [if_neg q0, if_neg q0]
      refine zlb_s.trans ?_
      exact (zcP_s (orE_z (S := szAI S 133 g))).trans rfl
  have s10 : SStk S D lw (r :: L') (zR S 10 b) := ⟨pr, zR S 9 b, E, sr, sbr, ss, z10⟩
  by_cases q0 : evx (fun v => A 35 (4 * cD (D q) + v)) (xt (cE (D q))) = 0
  · rw [if_pos q0] at hpl hpf
    exact ⟨b, g, I', A, r :: L', e1 + 1, e1 + 1, 0, zR S 10 b, rfl, d1, by omega, by rw [i17]; decide, by rw [i17]; decide, hpf, hpl, fun _ _ _ _ _ _ _ => rfl, s10, ⟨e, pc2, ep⟩, hg, hA, w2⟩
  · rw [if_neg q0] at hpl hpf
    refine ⟨b, g, I', A, t1 :: cn q (cn i t1 .nil) r :: L', k2 + 1, k2 + 1 + 1, 1, orE (zR S 7 b) (some b), rfl, d1, by omega, by rw [i17]; decide, by rw [i17]; decide, hpf, hpl, fun N I A l1 l2 hA hI => w_beg hA hI hst (by omega) c6, ?_, ?_, hg, hA, w2⟩
    · exact ⟨p1, zR S 7 b, some b, s7, sb1, ⟨pt', some b, E, sn', sb', ss, rfl⟩, rfl⟩
    · exact ⟨e1, pc1, by omega, c7, k2, k2, e, c24, k200, Or.inl ⟨i17, rfl⟩, pc', ep⟩
theorem wst_c {i j : Nat} {t1 t2 : Fo} (t1' : ztg S 133 = 20) (t2' : zLen S 133 = 24) (hst : st ≤ 200) (hg : ∀ i, i < 24 → g i = A 35 i) (hA : ∀ j, j ≠ 35 → A j = A0 j) (hI : I 11 = Int32.ofNat st) (h : SStk S D lw (cn q (cn i t1 (cn j t2 .nil)) r :: L') v) (hk : WP A0 D st (cn q (cn i t1 (cn j t2 .nil)) r :: L') k2) : WSt S A0 D st lw g I A v k2 := by
  obtain ⟨pt, u, E, sn, sb, ss, hv⟩ := h
  obtain ⟨e, pc, ep⟩ := hk
  obtain ⟨k6, pB, p1, p2, pr⟩ := pt
  obtain ⟨b, rfl, hb1, sd, z0, s7, s8, sr⟩ := sn
  obtain ⟨b', hb', _, z10, sb1, sb2, sbr⟩ := sb
  cases hb'
  have hv' : v = some b := hv
  subst hv'
  obtain ⟨⟨k200, i18, ik⟩, c6, e1, e2, pc1, l1, c7, c24, c22, c6b, pc2, l2, l3, c7b, c24b, c23, pc3⟩ := pc
  obtain ⟨d1, d2, d3, d4, d5, d6, d7⟩ := sd
  have hle := PC_le r pr _ _ pc3
  have hle2 := EndP_le L' e ep
  obtain ⟨hD6, hX⟩ := pB
  obtain ⟨i17, ie⟩ : A0 17 k2 = 4 ∧ ExP A0 (cE (D q)) k2 := by
    rcases ik with ⟨k1, _⟩ | ⟨k1, _⟩ | ⟨k1, _⟩ | ⟨_, a, b⟩ | ⟨k1, _⟩
    · omega
    · omega
    · omega
    · exact ⟨a, b⟩
    · omega
  have hV : ∀ v, v < 4 → (fun v => A 35 (4 * cD (D q) + v)) v = A 35 (4 * cD (D q) + v) := fun _ _ => rfl
  have hV' : ∀ v, v < 4 → (fun v => A 35 (4 * cD (D q) + v)) v = g (4 * cD (D q) + v) := fun v hv => (hg _ (by omega)).symm
  obtain ⟨I', w1, w2⟩ := ww_ok (I := I) hX hD6 k200 (by rw [hA 18 (by decide)]; exact i18) (ExP_f hA ie) hV
  have hpl : ∀ m, 10 ≤ m → x_play m I A (Int32.ofNat k2) = some (I', A, if evx (fun v => A 35 (4 * cD (D q) + v)) (xt (cE (D q))) = 0 then Int32.ofNat (e1 + 1) else Int32.ofNat (k2 + 1)) := fun m hm => by
    unfold x_play
    rw [if_pos (j_in (by omega) k200), (j_n (n := k2) (by omega)).2, hA 17 (by decide), i17, if_neg (by decide), if_neg (by decide), if_pos rfl]
    refine (xb_some (w1 m hm)).trans ?_
    rw [hA 22 (by decide), c22, o1, o1]
    split <;> rfl
  have hpf : ∀ m, 20 ≤ m → yS_perform m (szAI S 133 g) b (some 133) = some (szAI S 133 g, if evx (fun v => A 35 (4 * cD (D q) + v)) (xt (cE (D q))) = 0 then orE (zR S 8 b) (zR S 10 b) else orE (zR S 7 b) (zR S 10 b)) := fun m hm => by
    unfold yS_perform
    rw [if_pos (show ztg (szAI S 133 g) b = 10 from d1), show zI (szAI S 133 g) 1 b = Int32.ofNat (cK (D q)) from d2, k6, if_neg (by decide), show zL (szAI S 133 g) b = _ from d7, show zI (szAI S 133 g) 2 b = _ from d3]
    refine (zcP_s (val_p (b := b) t1' t2' hD6 hX hV' hm)).trans ?_
    rw [if_pos (show ztg (szAI S 133 g) b = 10 from d1), show zI (szAI S 133 g) 1 b = Int32.ofNat (cK (D q)) from d2, k6, if_neg (by decide), if_neg (by decide), if_pos (by decide)]
    by_cases q0 : evx (fun v => A 35 (4 * cD (D q) + v)) (xt (cE (D q))) = 0
    · rw [if_pos q0, if_pos q0]
      refine zlb_s.trans (zlb_s.trans ?_)
      exact (zcP_s (orE_z (S := szAI S 133 g))).trans rfl
    · rw [if_neg q0, if_neg q0]
      refine zlb_s.trans (zlb_s.trans ?_)
      exact (zcP_s (orE_z (S := szAI S 133 g))).trans rfl
  have s10 : SStk S D lw (r :: L') (zR S 10 b) := ⟨pr, zR S 9 b, E, sr, sbr, ss, z10⟩
  by_cases q0 : evx (fun v => A 35 (4 * cD (D q) + v)) (xt (cE (D q))) = 0
  · rw [if_pos q0] at hpl hpf
    refine ⟨b, g, I', A, t2 :: r :: L', e1 + 1, e1 + 1 + 1, 1, _, rfl, d1, by omega, by rw [i17]; decide, by rw [i17]; decide, hpf, hpl, fun N I A l1 l2 hA hI => w_beg hA hI hst (by omega) c6b, ?_, ?_, hg, hA, w2⟩
    · exact ⟨p2, zR S 8 b, zR S 10 b, s8, sb2, s10, rfl⟩
    · exact ⟨e2, pc2, by omega, c7b, k2, e2 + 1, e, c24b, k200, Or.inr ⟨i17, by rw [c23, o1]⟩, pc3, ep⟩
  · rw [if_neg q0] at hpl hpf
    refine ⟨b, g, I', A, t1 :: r :: L', k2 + 1, k2 + 1 + 1, 1, _, rfl, d1, by omega, by rw [i17]; decide, by rw [i17]; decide, hpf, hpl, fun N I A l1 l2 hA hI => w_beg hA hI hst (by omega) c6, ?_, ?_, hg, hA, w2⟩
    · exact ⟨p1, zR S 7 b, zR S 10 b, s7, sb1, s10, rfl⟩
    · exact ⟨e1, pc1, by omega, c7, k2, e2 + 1, e, c24, k200, Or.inr ⟨i17, by rw [c23, o1]⟩, pc3, ep⟩
theorem wst (t1' : ztg S 133 = 20) (t2' : zLen S 133 = 24) (hst : st ≤ 200) (hg : ∀ i, i < 24 → g i = A 35 i) (hA : ∀ j, j ≠ 35 → A j = A0 j) (hI : I 11 = Int32.ofNat st) {kd : Fo} (h : SStk S D lw (cn q kd r :: L') v) (hk : WP A0 D st (cn q kd r :: L') k2) : WSt S A0 D st lw g I A v k2 := by
  rcases PW_sh h.1 with e | ⟨q', r', e, _⟩ | ⟨q', i, t1, r', e, _⟩ | ⟨q', i, j, t1, t2, r', e, _⟩
  · cases e
  · cases e
    exact wst_s t1' t2' hst hg hA hI h hk
  · cases e
    exact wst_r t1' t2' hst hg hA hI h hk
  · cases e
    exact wst_c t1' t2' hst hg hA hI h hk
theorem wloop {n : Nat} (hn : n ≤ 2000) (f0 : ztg S 0 = 1) (f6 : zR S 6 0 = some 133) (t1' : ztg S 133 = 20) (t2' : zLen S 133 = 24) (hst : st ≤ 200) : ∀ (d did : Nat) (g : Nat → Int32) (I : Nat → Int32) (A : Nat → Nat → Int32) (L : List Fo) (v : Option Nat) (k : Nat), did + d = n → (∀ i, i < 24 → g i = A 35 i) → (∀ j, j ≠ 35 → A j = A0 j) → I 11 = Int32.ofNat st → SStk S D lw L v → WP A0 D st L k → ∃ g' I' A' ans N, (∀ m, N ≤ m → y_whole_51 0 m (szAI S 133 g) (Int32.ofNat n) v (Int32.ofNat did) = some (szAI S 133 g', .inr ans) ∧ x_whole_70 m I A (Int32.ofNat n) (Int32.ofNat did) (Int32.ofNat k) = some (I', A', ans)) ∧ (∀ i, i < 24 → g' i = A' 35 i) ∧ (∀ j, j ≠ 35 → A' j = A0 j) ∧ (∀ j, j ≠ 19 → I' j = I j)
  | 0, did, g, I, A, L, v, k, hd, hg, hA, hI, hs, hk => by
    have hd' : did = n := by omega
    subst hd'
    rcases wnorm hst L v k hs hk with ⟨rfl, c, h1⟩ | ⟨q, kd, r, L', k2, c, h1, h2, h3⟩
    · refine ⟨g, I, A, Int32.ofNat did, c + 2, fun m hm => ⟨?_, ?_⟩, hg, hA, fun _ _ => rfl⟩
      · obtain ⟨m, rfl⟩ : ∃ j, m = j + 1 := ⟨m - 1, by omega⟩
        rw [y_whole_51, if_pos ((j_le (by omega) (by omega)).mpr (Nat.le_refl _))]
        rfl
      · have := h1 (m - c - 1) I A (Int32.ofNat did) (Int32.ofNat did) hA hI
        rw [show m - c - 1 + c + 1 = m by omega] at this
        exact this
    · obtain ⟨b, _, _, _, _, _, _, _, _, rfl, tb, kst, n7, n6, _⟩ := wst (g := g) (I := I) (A := A) t1' t2' hst hg hA hI h1 h2
      refine ⟨g, I, A, -1, c + 2, fun m hm => ⟨?_, ?_⟩, hg, hA, fun _ _ => rfl⟩
      · obtain ⟨m, rfl⟩ : ∃ j, m = j + 1 := ⟨m - 1, by omega⟩
        rw [y_whole_51, if_pos ((j_le (by omega) (by omega)).mpr (Nat.le_refl _))]
        rfl
      · have := h3 (m - c) I A (Int32.ofNat did) (Int32.ofNat did) hA hI
        rw [show m - c + c = m by omega] at this
        rw [this]
        obtain ⟨m', hm'⟩ : ∃ j, m - c = j + 1 := ⟨m - c - 1, by omega⟩
        rw [hm', x_whole_70, hI, if_neg (mt (j_le (by omega) (by omega)).mp (by omega)), if_pos (j_in (by omega) (by omega)), (j_n (n := k2) (by omega)).2, hA 17 (by decide), if_neg n7, if_neg n6, if_pos rfl]
  | d + 1, did, g, I, A, L, v, k, hd, hg, hA, hI, hs, hk => by
    rcases wnorm hst L v k hs hk with ⟨rfl, c, h1⟩ | ⟨q, kd, r, L', k2, c, h1, h2, h3⟩
    · refine ⟨g, I, A, Int32.ofNat did, c + 2, fun m hm => ⟨?_, ?_⟩, hg, hA, fun _ _ => rfl⟩
      · obtain ⟨m, rfl⟩ : ∃ j, m = j + 1 := ⟨m - 1, by omega⟩
        rw [y_whole_51, if_neg (mt (j_le (by omega) (by omega)).mp (by omega))]
        rfl
      · have := h1 (m - c - 1) I A (Int32.ofNat n) (Int32.ofNat did) hA hI
        rw [show m - c - 1 + c + 1 = m by omega] at this
        exact this
    · obtain ⟨b, g', I', A', newL, k3, k4, c2, v', rfl, tb, kst, n7, n6, hy, hx, hj, s1, s2, s3, s4, s5⟩ := wst (g := g) (I := I) (A := A) t1' t2' hst hg hA hI h1 h2
      obtain ⟨g2, I2, A2, ans, N, e1, e2, e3, e4⟩ := wloop hn f0 f6 t1' t2' hst d (did + 1) g' I' A' newL v' k4 (by omega) s3 s4 (by rw [s5 11 (by decide)]; exact hI) s1 s2
      refine ⟨g2, I2, A2, ans, N + c + c2 + 40, fun m hm => ⟨?_, ?_⟩, e2, e3, fun j hj => (e4 j hj).trans (s5 j hj)⟩
      · obtain ⟨m, rfl⟩ : ∃ j, m = j + 1 := ⟨m - 1, by omega⟩
        rw [y_whole_51, if_neg (mt (j_le (by omega) (by omega)).mp (by omega)), zoc_S, if_pos (show ztg (szAI S 133 g) 0 = 1 from f0)]
        refine zlb_s.trans ?_
        rw [if_pos (show ztg (szAI S 133 g) b = 10 from tb), show zR (szAI S 133 g) 6 0 = some 133 from f6]
        refine (zcP_s (hy m (by omega))).trans ?_
        rw [o1]
        exact (e1 m (by omega)).1
      · have := h3 (m - c) I A (Int32.ofNat n) (Int32.ofNat did) hA hI
        rw [show m - c + c = m by omega] at this
        rw [this]
        obtain ⟨m', hm'⟩ : ∃ j, m - c = j + 1 := ⟨m - c - 1, by omega⟩
        have hne : ¬ Int32.ofNat did = Int32.ofNat n := fun e => by
          have := congrArg Int32.toInt e
          rw [(j_n (by omega)).1, (j_n (by omega)).1] at this
          omega
        rw [hm', x_whole_70, hI, if_neg (mt (j_le (by omega) (by omega)).mp (by omega)), if_pos (j_in (by omega) (by omega)), (j_n (n := k2) (by omega)).2, hA 17 (by decide), if_neg n7, if_neg n6, if_neg hne]
        refine (xb_some (hx m' (by omega))).trans ?_
        have h4 := hj (m' - c2) I' A' (Int32.ofNat n) (Int32.ofNat did + 1) s4 (by rw [s5 11 (by decide)]; exact hI)
        rw [show m' - c2 + c2 = m' by omega] at h4
        rw [h4, o1]
        exact (e1 (m' - c2) (by omega)).2
end WS
