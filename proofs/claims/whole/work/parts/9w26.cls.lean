section RC3
variable {n : Nat} {D : Nat → Nat} {pi : Bool} {cnt B th : Nat}
theorem chX_A {s p u : Nat} {c1 c2 : Nat → Fo} {x : Fo} (hu : u = unw (cD s) c1 c2) : chX s u c1 c2 p x = chA s c1 c2 p x := by
  subst hu
  unfold chX chA chF
  rfl
theorem cho_ok {S : hS} {b pa i1 i2 m Bs put q : Nat} {C : Nat → List Frm} {tt ss K1 K2 sh1 sh2 : Nat → Fo} (h : StD S b (D q)) (hpl : zI S 0 b = Int32.ofNat q) (hs : PWb (D q)) (hct : Ct S th pi (cnt + put)) (hput : put ≤ 80) (hcnt : cnt ≤ 40) (hbB : b < Bs) (hth : th < Bs) (hR : Rws S pa C tt ss) (hb : Bnd Bs pa C ss) (hB : Bs ≤ S.1) (hin1 : InR S i1 K1 sh1 0) (hin2 : InR S i2 K2 sh2 0) (hn1 : ∀ p q, p < 6 → q < 6 → i1 + 1 + q ≠ pa + 1 + p) (hn2 : ∀ p q, p < 6 → q < 6 → i2 + 1 + q ≠ pa + 1 + p) (hs1 : ∀ p, p < 6 → ∀ x, x ∈ ad true (sh1 p) → Bs ≤ x) (hs2 : ∀ p, p < 6 → ∀ x, x ∈ ad true (sh2 p) → Bs ≤ x) (d1 : Dsi sh1 0) (d2 : Dsi sh2 0) (d12 : Ds2 sh1 sh2) (dj1 : ∀ p q, p < 6 → q < 6 → ∀ x, x ∈ ad true (plS (C p) (ss p)) → x ∉ ad true (sh1 q)) (dj2 : ∀ p q, p < 6 → q < 6 → ∀ x, x ∈ ad true (plS (C p) (ss p)) → x ∉ ad true (sh2 q)) (w1 : ∀ p, p < 6 → WK true (K1 p) ∧ dq true (K1 p) ≤ 64) (w2 : ∀ p, p < 6 → WK true (K2 p)) (hn : ∀ p, p < 6 → (tx 0 (K1 p)).length + (tx 0 (K2 p)).length + 100 ≤ m) (hz : S.1 + 60 < ie_S) : (∀ p, ckc pi cnt (unw (cD (D q)) K1 K2) q put = .inl p → ∃ S', yC_cutChoice m S th (some b) (some pa) (some i1) (some i2) = some S' ∧ StR Bs th S S' pa C tt ss (chA (D q) K1 K2) ∧ Ct S' th pi (cnt + p) ∧ S'.1 ≤ S.1 + 40) ∧ (∀ P w, ckc pi cnt (unw (cD (D q)) K1 K2) q put = .inr (P, w) → ∃ S', yC_cutChoice m S th (some b) (some pa) (some i1) (some i2) = some S' ∧ Rws S' pa C tt ss ∧ MdB Bs th S S' ∧ CtF S' th P w ∧ S'.1 = S.1) := by
  have hp := hs.1
  have hbt : b ≠ th := fun e => by
    have := h.1
    rw [e, hct.1] at this
    cases this
  have hun := una_ok (n := m) h hp hin1 hin2 w1 w2 (fun p hp2 => by
    have e := hn p hp2
    have f := (nq_tx _ true (hin1.2.2 p (Nat.zero_le _) hp2).2.2.1 (w1 p hp2).1).1 rfl
    omega)
  have hm0 := hn 0 (by decide)
  generalize hu : unw (cD (D q)) K1 K2 = u at hun
  have hu64 : u < 64 := by rw [← hu]; exact bts_lt _
  have hux : ∀ p, p < 6 → p ≠ cD (D q) → u.testBit p = false → ∃ c, J true (K1 p) (K2 p) = some c := fun p hp2 hne hbit => by
    rw [← hu] at hbit
    unfold unw at hbit
    rw [bts_t _ hp2, decide_eq_false hne] at hbit
    cases hj : J true (K1 p) (K2 p) with
    | none =>
      rw [hj] at hbit
      cases hbit
    | some c => exact ⟨c, rfl⟩
  have e0 : (Int32.ofNat u = 0) ↔ u = 0 := j_eq (n := 0) (by omega) (by decide)
  have st0 : yC_cutChoice m S th (some b) (some pa) (some i1) (some i2) = (if Int32.ofNat u = 0 then (yC_cutChoice_25 th m S (some b) (some pa) (some i1) (some i2) (Int32.ofNat u)) else (if ztg S th = 3 then (zcP (yC_mayPutIn m S th (some b) (Int32.ofNat u)) fun S2 v2 => (if v2 = 0 then (some S2) else (yC_cutChoice_25 th m S2 (some b) (some pa) (some i1) (some i2) (Int32.ofNat u)))) else none)) := by
    unfold yC_cutChoice
    exact zcP_s hun
  rw [st0]
  have rest : ∀ (S2 : hS) (c : Nat), S2.1 = S.1 → MdB Bs th S S2 → MdB S.1 th S S2 → Ct S2 th pi c → ∃ S', yC_cutChoice_25 th m S2 (some b) (some pa) (some i1) (some i2) (Int32.ofNat u) = some S' ∧ StR Bs th S S' pa C tt ss (chA (D q) K1 K2) ∧ Ct S' th pi c ∧ S'.1 ≤ S.1 + 40 := by
    intro S2 c e2 md md2 hc2
    obtain ⟨S', k1, k2, k3⟩ := ch25 (th := th) (n := m) (B := Bs) (S := S2) (StD_b h md hbB hbt) hs hu64 hux hbB (Rws_mb hR hb hth md2) hb (by omega) (InR_mb hin1 hct.1 md2) (InR_mb hin2 hct.1 md2) hn1 hn2 hs1 hs2 d1 d2 d12 dj1 dj2 w1 w2 hn (by omega)
    have k20 := k2
    obtain ⟨C', t', s', g1, g2, g3, g4⟩ := k2
    obtain ⟨_, _, _, _, _, _, mth⟩ := StR_th hth k20
    refine ⟨S', k1, ⟨C', t', s', g1, fun p hp2 x => ?_, g3, MdB_t md mth⟩, Ct_mb hc2 hth g4, by omega⟩
    rw [g2 p hp2 x, chX_A hu.symm]
  by_cases q0 : u = 0
  · rw [if_pos (e0.mpr q0)]
    unfold ckc
    rw [if_pos q0]
    refine ⟨fun p hp2 => ?_, fun P w hp2 => by cases hp2⟩
    cases hp2
    exact rest S _ rfl MdB_r MdB_r hct
  · rw [if_neg (mt e0.mp q0), if_pos hct.1]
    obtain ⟨a1, a2⟩ := may_ok (B := S.1) (n := m) hct h.1 hpl hu64 q0 (by omega) (by omega)
    refine ⟨fun p hp2 => ?_, fun P w hp2 => ?_⟩
    · obtain ⟨S2, c1, c2, c3, c4⟩ := a1 p hp2
      obtain ⟨S', k1, k2⟩ := rest S2 _ c4 (MdB_up c3 hB) c3 c2
      refine ⟨S', ?_, k2⟩
      refine (zcP_s c1).trans ?_
      rw [if_neg (by decide)]
      exact k1
    · obtain ⟨S2, c1, c2, c3, c4⟩ := a2 P w hp2
      exact ⟨S2, (zcP_s c1).trans (if_pos rfl), Rws_mb hR hb hth c3, MdB_up c3 hB, c2, c4⟩
theorem rl_ch {q i j : Nat} {t1 t2 r0 : Fo} (hk6 : cK (D q) = 6) (hs : PWb (D q)) (p1 : PW D t1) (p2 : PW D t2) (pr : PW D r0) (ih1 : RowL n D pi cnt B th t1) (ih2 : RowL n D pi cnt B th t2) (ih : RowL n D pi cnt B th r0) (hN : nsm t1 ≤ 64) : RowL n D pi cnt B th (cn q (cn i t1 (cn j t2 .nil)) r0) := by
  intro S v pa C tt ss r d put m Bs hsr hBB hth hBs hR hb hct hput hcnt hbas hd hr hm hn hz
  obtain ⟨b, rfl, ⟨hbB, hq1⟩, hst, hpl, hsr1, hsr2, hsr⟩ := hsr
  have en : nsm (cn q (cn i t1 (cn j t2 .nil)) r0) = 1 + nsm t1 + nsm t2 + nsm r0 := rfl
  have eb : bas D (cn q (cn i t1 (cn j t2 .nil)) r0) = (xt (cE (D q))).length + 6 + bas D t1 + bas D t2 + bas D r0 := rfl
  have ed : dpt (cn q (cn i t1 (cn j t2 .nil)) r0) = max (2 + max (dpt t1) (dpt t2)) (dpt r0) := rfl
  obtain ⟨m, rfl⟩ : ∃ k, m = k + 2 := ⟨m - 2, by omega⟩
  obtain ⟨r, rfl⟩ : ∃ k, r = k + 1 := ⟨r - 1, by omega⟩
  have htt := hct.1
  have hbl := (ztg_lt hst.1).1
  have hbt : b ≠ th := fun e => by
    have := hst.1
    rw [e, htt] at this
    cases this
  have ckt : ck D pi cnt (cn q (cn i t1 (cn j t2 .nil)) r0) put = ckb (ck D pi cnt t1 put) fun p1 => ckb (ck D pi cnt t2 p1) fun p2 => ckb (ckc pi cnt (unw (cD (D q)) (cut D t1) (cut D t2)) q p2) fun p3 => ck D pi cnt r0 p3 := rfl
  have ero : ∀ (S1 : hS) (P w : Nat), ck D pi cnt (cn q (cn i t1 (cn j t2 .nil)) r0) put = .inr (P, w) → P < 1000 → yC_cutStatement (yC_cutRow n (r + 1)) (m + 1) S th (some b) (some pa) (Int32.ofNat d) = some S1 → MdB Bs th S S1 → Rws S1 pa C tt ss → CtF S1 th P w → S1.1 ≤ S.1 + 60 * (1 + nsm t1 + nsm t2) → (∀ p, ck D pi cnt (cn q (cn i t1 (cn j t2 .nil)) r0) put = .inl p → ∃ S' C' t' s', yC_cutRow_44 th (yC_cutRow n (r + 1)) (m + 2) S (Int32.ofNat d) (some pa) (some b) = some (S', some pa) ∧ Rws S' pa C' t' s' ∧ (∀ q', q' < 6 → plT (C' q') (t' q') = plT (C q') (ap (tt q') (cut D (cn q (cn i t1 (cn j t2 .nil)) r0) q'))) ∧ Bnd Bs pa C' s' ∧ MdB Bs th S S' ∧ Ct S' th pi (cnt + p) ∧ S'.1 ≤ S.1 + 60 * nsm (cn q (cn i t1 (cn j t2 .nil)) r0)) ∧ (∀ P w, ck D pi cnt (cn q (cn i t1 (cn j t2 .nil)) r0) put = .inr (P, w) → ∃ S' C' t' s', yC_cutRow_44 th (yC_cutRow n (r + 1)) (m + 2) S (Int32.ofNat d) (some pa) (some b) = some (S', some pa) ∧ Rws S' pa C' t' s' ∧ Bnd Bs pa C' s' ∧ MdB Bs th S S' ∧ CtF S' th P w ∧ S'.1 ≤ S.1 + 60 * nsm (cn q (cn i t1 (cn j t2 .nil)) r0) ∧ ∀ q', q' < 6 → nq true (plT (C' q') (t' q')) ≤ nq true (plT (C q') (tt q')) + 1000 * nsm (cn q (cn i t1 (cn j t2 .nil)) r0)) := by
    intro S1 P w hck hP e1 md R1 hf hc
    refine ⟨fun p hp => (by rw [hck] at hp; cases hp), fun P' w' hp => ?_⟩
    rw [hck] at hp
    cases hp
    exact ⟨S1, C, tt, ss, row_er (n := n) (r := r + 1) (StD_b hst md (by omega) hbt) ⟨htt, hct.2.2.2.1⟩ e1 hf (by omega), R1, hb, md, hf, by omega, fun q' _ => by omega⟩
  have stm : ∀ (S16 S18 : hS) (i1 i2 : Nat), yC_cutRow n (r + 1) S th (zR S 7 b) (Int32.ofNat (d + 1)) = some (S16, some i1) → ztg S16 b = 10 → ztg S16 th = 3 → yC_cutRow n (r + 1) S16 th (zR S16 8 b) (Int32.ofNat (d + 1)) = some (S18, some i2) → ztg S18 th = 3 → yC_cutStatement (yC_cutRow n (r + 1)) (m + 1) S th (some b) (some pa) (Int32.ofNat d) = if zI S18 2 th = -1 then (zcV (yC_cutChoice (m + 1) S18 th (some b) (some pa) (some i1) (some i2)) fun S19 => some S19) else some S18 := by
    intro S16 S18 i1 i2 c1 c2 c3 c4 c5
    unfold yC_cutStatement
    refine (zob_s rfl).trans ?_
    rw [if_pos hst.1, hst.2.1, hk6, if_neg (show ¬ Int32.ofNat 6 = 1 by decide), if_neg (show ¬ Int32.ofNat 6 = 2 by decide), if_neg (show ¬ Int32.ofNat 6 = 4 by decide), if_neg (show ¬ Int32.ofNat 6 = 7 by decide)]
    refine zlb_s.trans ?_
    rw [if_pos htt, o1]
    refine (zcP_s c1).trans ?_
    rw [if_pos c2]
    refine zlb_s.trans ?_
    rw [if_pos c3]
    refine (zcP_s c4).trans ?_
    rw [if_pos c5]
  obtain ⟨S16, g1, g2⟩ := ckr_of p1 ih1 S (zR S 7 b) r (d + 1) put hsr1 (by omega) (by omega) hct hput hcnt (by omega) (by omega) (by omega) (by omega) (by omega)
  cases hck1 : ck D pi cnt t1 put with
  | inr e =>
    obtain ⟨P, w⟩ := e
    have hP := ck_P t1 p1 _ put P w hsr1 hck1
    obtain ⟨i1, K, sh, c1, c2, c3, c4, c5, c6, c7, c8, _, c9⟩ := g2 P w hck1
    have le16 := MdB_le c6
    obtain ⟨S18, f1, f2, f3, f4⟩ := cut_f (n := n) (r := r) (d := d + 1) (v := zR S16 8 b) c7 (by omega) (by omega) (by omega) (by omega)
    have md16 : MdB Bs th S S16 := MdB_up c6 hBs
    have md18 : MdB Bs th S S18 := MdB_t md16 (MdB_f f2)
    refine ero S18 P w (by rw [ckt, hck1]; rfl) hP ?_ md18 (Rws_fr (Rws_mb hR hb hth c6) f2) f3 (by omega)
    rw [stm S16 S18 i1 S16.1 c1 (StD_b hst md16 (by omega) hbt).1 c7.1 f1 f3.1, if_neg (ctf_no f3 (by omega))]
  | inl pp =>
    obtain ⟨i1, sh1, c1, c2, c3, c4, c5, c6, c7, c8, c9⟩ := g1 pp hck1
    have hwt1 := ck_wt t1 p1 put pp hck1
    have hpp := ckle80 p1 hck1 hput
    have le16 := MdB_le c6
    have md16 : MdB Bs th S S16 := MdB_up c6 hBs
    have st16 := StD_b hst md16 (by omega) hbt
    have ez8 : zR S16 8 b = zR S 8 b := (MdB_I md16 (by omega) hbt hbl).2
    have sr16 : SR S16 D B t2 (zR S16 8 b) := by
      rw [ez8]
      exact SR_mb md16 hBB htt p2 hsr2
    obtain ⟨S18, h1, h2⟩ := ckr_of p2 ih2 S16 (zR S16 8 b) r (d + 1) pp sr16 (by omega) (by omega) c7 hpp hcnt (by omega) (by omega) (by omega) (by omega) (by omega)
    cases hck2 : ck D pi cnt t2 pp with
    | inr e =>
      obtain ⟨P, w⟩ := e
      have hP := ck_P t2 p2 _ pp P w sr16 hck2
      obtain ⟨i2, K, sh, k1, k2, k3, k4, k5, k6, k7, k8, _, k9⟩ := h2 P w hck2
      have md18 : MdB Bs th S S18 := MdB_t md16 (MdB_up k6 (by omega))
      refine ero S18 P w (by rw [ckt, hck1]; show ckb (ck D pi cnt t2 pp) _ = _; rw [hck2]; rfl) hP ?_ md18 (Rws_mb (Rws_mb hR hb hth c6) hb hth k6) k7 (by omega)
      rw [stm S16 S18 i1 i2 c1 st16.1 c7.1 k1 k7.1, if_neg (ctf_no k7 (by omega))]
    | inl pq =>
      obtain ⟨i2, sh2, k1, k2, k3, k4, k5, k6, k7, k8, k9⟩ := h1 pq hck2
      have hwt2 := ck_wt t2 p2 pp pq hck2
      have hpq := ckle80 p2 hck2 hpp
      have le18 := MdB_le k6
      have md18 : MdB Bs th S S18 := MdB_t md16 (MdB_up k6 (by omega))
      have R16 := Rws_mb hR hb hth c6
      have R18 := Rws_mb R16 hb hth k6
      have in1 := InR_mb c2 c7.1 k6
      have st18 := StD_b hst md18 (by omega) hbt
      have hpl18 : zI S18 0 b = Int32.ofNat q := (MdB_I md18 (by omega) hbt hbl).1.trans hpl
      have lt1 : ∀ p, p < 6 → ∀ x, x ∈ ad true (sh1 p) → x < S16.1 := fun p hp x hx => (ztg_lt (Rp_nd _ true (c2.2.2 p (Nat.zero_le _) hp).2.2.1 _ _ (c2.2.2 p (Nat.zero_le _) hp).2.2.2.1 x hx).1).1
      obtain ⟨z1, z2⟩ := cho_ok (m := m + 1) (Bs := Bs) (put := pq) (K1 := cut D t1) (K2 := cut D t2) (sh1 := sh1) (sh2 := sh2) (i1 := i1) (i2 := i2) st18 hpl18 hs k7 hpq hcnt (by omega) hth R18 hb (by omega) in1 k2 (fun p q' hp hq' e => by
          have := (ztg_lt (hR.2.2.2.1 p hp).1).1
          omega) (fun p q' hp hq' e => by
          have := (ztg_lt (hR.2.2.2.1 p hp).1).1
          omega) (fun p hp x hx => by have := c4 p hp x hx; omega) (fun p hp x hx => by have := k4 p hp x hx; omega) c3 k3 (fun p q' hp hq' x hx hy => by
          have := lt1 p hp x hx
          have := k4 q' hq' x hy
          omega) (fun p q' hp hq' x hx hy => by
          have := Rws_lt hR hp hx
          have := c4 q' hq' x hy
          omega) (fun p q' hp hq' x hx hy => by
          have := Rws_lt hR hp hx
          have := k4 q' hq' x hy
          omega) (fun p hp => ⟨cut_wk t1 p1 p, Nat.le_trans (dq_cut t1 p1) hN⟩) (fun p hp => cut_wk t2 p2 p) (fun p hp => by
          have := cut_len hp t1 p1
          have := cut_len hp t2 p2
          omega) (by omega)
      have ck3 : ck D pi cnt (cn q (cn i t1 (cn j t2 .nil)) r0) put = ckb (ckc pi cnt (unw (cD (D q)) (cut D t1) (cut D t2)) q pq) fun p3 => ck D pi cnt r0 p3 := by
        rw [ckt, hck1]
        show ckb (ck D pi cnt t2 pp) _ = _
        rw [hck2]
        rfl
      cases hck3 : ckc pi cnt (unw (cD (D q)) (cut D t1) (cut D t2)) q pq with
      | inr e =>
        obtain ⟨P, w⟩ := e
        have hP : P < 1000 := by
          unfold ckc at hck3
          split at hck3
          · cases hck3
          · split at hck3
            · cases hck3
              exact hq1
            · split at hck3
              · cases hck3
              · cases hck3
                exact hq1
        obtain ⟨S1, e1, e2, e3, e4, e5⟩ := z2 P w hck3
        refine ero S1 P w (by rw [ck3, hck3]; rfl) hP ?_ (MdB_t md18 e3) e2 e4 (by omega)
        rw [stm S16 S18 i1 i2 c1 st16.1 c7.1 k1 k7.1, if_pos k7.2.2.2.1]
        exact (zcV_s e1).trans rfl
      | inl p3 =>
        obtain ⟨S1, e1, e2, e3, e4⟩ := z1 p3 hck3
        obtain ⟨w1, w2⟩ := ckc_l hck3
        obtain ⟨C', t', s', y1, y2, y3, y4⟩ := e2
        refine row_go (t := cn q (cn i t1 (cn j t2 .nil)) r0) (o := 1 + nsm t1 + nsm t2) (F := chA (D q) (cut D t1) (cut D t2)) (p1 := p3) (m := m + 1) (ss := ss) pr ih hsr hbB hst hBB hth hBs hct ?_ ⟨C', t', s', y1, y2, y3, MdB_t md18 y4⟩ e3 (by omega) (by omega) hcnt (by omega) (by omega) (by omega) (by omega) (by omega) (by omega) (by omega) (fun p hp => ?_) (by rw [ck3, hck3]; rfl) (fun _ => rfl) rfl
        · rw [stm S16 S18 i1 i2 c1 st16.1 c7.1 k1 k7.1, if_pos k7.2.2.2.1]
          exact (zcV_s e1).trans rfl
        · have a1 := (nq_tx _ true (chA_so (s := D q) So_nil (cut_so t1 p1 p) (cut_so t2 p2 p)) (chA_wk hs (x := .nil) trivial (cut_so t1 p1 p) (cut_so t2 p2 p) (cut_wk t1 p1 p) (cut_wk t2 p2 p))).1 rfl
          have a2 := ch_len (x := .nil) hs hp (cut_so t1 p1 p) (cut_so t2 p2 p) (cut_wk t1 p1 p) (cut_wk t2 p2 p)
          have a3 := cut_len hp t1 p1
          have a4 := cut_len hp t2 p2
          have a5 := bpc_le (unw (cD (D q)) (cut D t1) (cut D t2))
          have a6 := xt_8 (cE (D q))
          have a7 : (tx 0 (.nil : Fo)).length = 0 := rfl
          omega
theorem rl_all : ∀ (t : Fo), PW D t → nsm t ≤ 64 → RowL n D pi cnt B th t := PW_ind (fun _ S v pa C tt ss r d put m Bs hsr hBB hth hBs hR hb hct hput hcnt hbas hd hr hm hn hz => by
    have hv : v = none := hsr
    subst hv
    obtain ⟨m, rfl⟩ : ∃ k, m = k + 1 := ⟨m - 1, by omega⟩
    refine ⟨fun p hp => ?_, fun P w hp => by cases hp⟩
    have hp' : put = p := Sum.inl.inj hp
    subst hp'
    refine ⟨S, C, tt, ss, rfl, hR, fun q hq => ?_, hb, MdB_r, hct, by omega⟩
    show plT (C q) (tt q) = plT (C q) (ap (tt q) .nil)
    rw [ap_nil (hR.2.2.2.1 q hq).2.2.1]) (fun q r hs pr ih hN => rl_sm hs pr (ih (by have e : nsm (cn q .nil r) = 1 + nsm r := rfl; omega))) (fun q i t1 r hk hs p1 pr ih1 ih2 hN => rl_rd hk hs p1 pr (ih1 (by have e : nsm (cn q (cn i t1 .nil) r) = 1 + nsm t1 + nsm r := rfl; omega)) (ih2 (by have e : nsm (cn q (cn i t1 .nil) r) = 1 + nsm t1 + nsm r := rfl; omega))) (fun q i j t1 t2 r hk hs p1 p2 pr ih1 ih2 ih3 hN => by
    have e : nsm (cn q (cn i t1 (cn j t2 .nil)) r) = 1 + nsm t1 + nsm t2 + nsm r := rfl
    exact rl_ch hk hs p1 p2 pr (ih1 (by omega)) (ih2 (by omega)) (ih3 (by omega)) (by omega))
theorem cutRow_ok {t : Fo} (pt : PW D t) (hN : nsm t ≤ 64) : CkR n D pi cnt B th t := ckr_of pt (rl_all t pt hN)
end RC3
