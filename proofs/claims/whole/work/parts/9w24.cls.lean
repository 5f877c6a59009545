section RK
variable {n : Nat} {D : Nat → Nat} {pi : Bool} {cnt B th : Nat}
theorem ck_P {S : hS} : ∀ (t : Fo), PW D t → ∀ (v : Option Nat) (put P w : Nat), SR S D B t v → ck D pi cnt t put = .inr (P, w) → P < 1000 := PW_ind (fun v put P w _ h => by cases h) (fun q r _ _ ih v put P w hs h => by
    obtain ⟨b, _, _, _, _, h5⟩ := hs
    exact ih _ put P w h5 h) (fun q i t1 r _ _ _ _ ih1 ih2 v put P w hs h => by
    obtain ⟨b, _, _, _, _, _, h6, h7⟩ := hs
    rcases ckb_r h with h | ⟨p1, _, h⟩
    · exact ih1 _ put P w h6 h
    · exact ih2 _ p1 P w h7 h) (fun q i j t1 t2 r _ _ _ _ _ ih1 ih2 ih3 v put P w hs h => by
    obtain ⟨b, _, hq, _, _, h5, h6, h7⟩ := hs
    rcases ckb_r h with h | ⟨p1, _, h⟩
    · exact ih1 _ put P w h5 h
    · rcases ckb_r h with h | ⟨p2, _, h⟩
      · exact ih2 _ p1 P w h6 h
      · rcases ckb_r h with h | ⟨p3, _, h⟩
        · unfold ckc at h
          split at h
          · cases h
          · split at h
            · cases h
              exact hq.2
            · split at h
              · cases h
              · cases h
                exact hq.2
        · exact ih3 _ p3 P w h7 h)
theorem ckr_of {t : Fo} (pt : PW D t) (h : RowL n D pi cnt B th t) : CkR n D pi cnt B th t := by
  intro S v r d put hsr hB hth hct hput hcnt hbas hd hr hn hz
  obtain ⟨S0, e1, e2, e3, e4⟩ := ini_ok (S0 := S) (th := th) (n := n) (r := r) (v := v) (d := d) (by omega) (by omega) (by omega)
  have hct0 : Ct S0 th pi (cnt + put) := Ct_b hct e3
  have hsr0 : SR S0 D B t v := SR_mb (B2 := S.1) (MdB_f e3) hB hct.1 pt hsr
  have hb0 : Bnd S.1 S.1 (fun _ => []) (fun _ => .nil) := ⟨Nat.le_refl _, fun p _ x hx => by cases hx⟩
  obtain ⟨g1, g2⟩ := h S0 v S.1 (fun _ => []) (fun _ => .nil) (fun _ => .nil) r d put (n - 7) S.1 hsr0 hB hth (by omega) e4 hb0 hct0 hput hcnt hbas hd hr (by omega) hn (by omega)
  have mb0 : MdB S.1 th S S0 := MdB_f e3
  cases hck : ck D pi cnt t put with
  | inl p =>
    obtain ⟨S', C', t', s', k1, k2, k3, k4, k5, k6, k7⟩ := g1 p hck
    refine ⟨S', fun p' hp' => ?_, fun P w hp' => (by rw [hck] at hp'; cases hp')⟩
    rw [hck] at hp'
    cases hp'
    obtain ⟨i1, i2⟩ := Rws_in k2
    have ek : ∀ q, q < 6 → plT (C' q) (t' q) = cut D t q := fun q hq => k3 q hq
    refine ⟨S.1, fun p => plS (C' p) (s' p), e1.trans k1, ⟨i1.1, i1.2.1, fun q hl hq => ?_⟩, i2, fun p hp x hx => k4.2 p hp x hx, Nat.le_refl _, MdB_t mb0 k5, k6, by omega, ?_⟩
    · have := i1.2.2 q hl hq
      rw [← ek q hq]
      exact this
    · obtain ⟨L, m1, m2⟩ := k5
      have := m1.1
      omega
  | inr e =>
    obtain ⟨P, w⟩ := e
    obtain ⟨S', C', t', s', k1, k2, k4, k5, k6, k7, k8⟩ := g2 P w hck
    refine ⟨S', fun p' hp' => (by rw [hck] at hp'; cases hp'), fun P' w' hp' => ?_⟩
    rw [hck] at hp'
    cases hp'
    obtain ⟨i1, i2⟩ := Rws_in k2
    refine ⟨S.1, fun p => plT (C' p) (t' p), fun p => plS (C' p) (s' p), e1.trans k1, i1, i2, fun p hp x hx => k4.2 p hp x hx, Nat.le_refl _, MdB_t mb0 k5, k6, by omega, ?_, fun p hp => ?_⟩
    · obtain ⟨L, m1, m2⟩ := k5
      have := m1.1
      omega
    · have := k8 p hp
      have e0 : nq true (plT ([] : List Frm) .nil) = 0 := rfl
      rw [e0] at this
      show nq true (plT (C' p) (t' p)) ≤ _
      omega
theorem Rws_mb {S S' : hS} {pa Bs : Nat} {C : Nat → List Frm} {tt ss : Nat → Fo} (h : Rws S pa C tt ss) (hb : Bnd Bs pa C ss) (hth : th < Bs) (md : MdB S.1 th S S') : Rws S' pa C tt ss := by
  obtain ⟨L, m1, m2⟩ := md
  refine Rws_md h m1 (fun p hp z => ?_) (fun p hp x hx z => ?_)
  · have g := (ztg_lt (h.2.2.2.1 p hp).1).1
    have := hb.1
    rcases m2 _ z with e | e <;> omega
  · have g := Rws_lt h hp hx
    have := hb.2 p hp x hx
    rcases m2 _ z with e | e <;> omega
theorem InR_mb {S S' : hS} {ia lo : Nat} {K sh : Nat → Fo} (h : InR S ia K sh lo) (ht : ztg S th = 3) (md : MdB S.1 th S S') : InR S' ia K sh lo := by
  obtain ⟨L, m1, m2⟩ := md
  refine InR_md h m1 (fun p hl hp z => ?_) (fun p hl hp x hx z => ?_)
  · have g := (h.2.2 p hl hp).2.1
    have gl := (ztg_lt g).1
    rcases m2 _ z with e | e
    · rw [e, ht] at g
      cases g
    · omega
  · have g := (Rp_nd _ true (h.2.2 p hl hp).2.2.1 _ _ (h.2.2 p hl hp).2.2.2.1 x hx).1
    have gl := (ztg_lt g).1
    rcases m2 _ z with e | e
    · rw [e, ht] at g
      cases g
    · omega
theorem bts_c {f g : Nat → Bool} (h : ∀ q, q < 6 → f q = g q) : bts f = bts g := by
  unfold bts
  rw [h 0 (by decide), h 1 (by decide), h 2 (by decide), h 3 (by decide), h 4 (by decide), h 5 (by decide)]
theorem MdB_le {S S' : hS} {Bs : Nat} (h : MdB Bs th S S') : S.1 ≤ S'.1 := by
  obtain ⟨L, m1, _⟩ := h
  exact m1.1
theorem MdB_I {S S' : hS} {Bs b k : Nat} (md : MdB Bs th S S') (hb : b < Bs) (hbt : b ≠ th) (hl : b < S.1) : zI S' k b = zI S k b ∧ zR S' k b = zR S k b := by
  obtain ⟨L, m1, m2⟩ := md
  refine m1.2.2.1 k b hl (fun z => ?_)
  rcases m2 b z with e | e
  · exact hbt e
  · omega
theorem rl_rd {q i : Nat} {t1 r0 : Fo} (hk7 : cK (D q) = 7) (hs : PWb (D q)) (p1 : PW D t1) (pr : PW D r0) (ih1 : RowL n D pi cnt B th t1) (ih : RowL n D pi cnt B th r0) : RowL n D pi cnt B th (cn q (cn i t1 .nil) r0) := by
  intro S v pa C tt ss r d put m Bs hsr hBB hth hBs hR hb hct hput hcnt hbas hd hr hm hn hz
  have hsr00 := hsr
  obtain ⟨b, rfl, ⟨hbB, hq1⟩, hst, hpl, h11, hsr1, hsr⟩ := hsr
  have en : nsm (cn q (cn i t1 .nil) r0) = 1 + nsm t1 + nsm r0 := rfl
  have eb : bas D (cn q (cn i t1 .nil) r0) = (xt (cE (D q))).length + 8 + bas D t1 + bas D r0 := rfl
  have ed : dpt (cn q (cn i t1 .nil) r0) = max (2 + dpt t1) (dpt r0) := rfl
  obtain ⟨m, rfl⟩ : ∃ k, m = k + 2 := ⟨m - 2, by omega⟩
  obtain ⟨r, rfl⟩ : ∃ k, r = k + 1 := ⟨r - 1, by omega⟩
  have htt := hct.1
  have hbl := (ztg_lt hst.1).1
  have hbt : b ≠ th := fun e => by
    have := hst.1
    rw [e, htt] at this
    cases this
  obtain ⟨S13, g1, g2⟩ := ckr_of p1 ih1 S (zR S 7 b) r (d + 1) put hsr1 (by omega) (by omega) hct hput hcnt (by omega) (by omega) (by omega) (by omega) (by omega)
  have hled : Int32.ofNat (bts fun p => soc (D q) p || occ D t1 p) &&& ((1 <<< (Int32.ofNat (cD (D q)) &&& 31)) ^^^ (-1)) = Int32.ofNat (led (D q) (occ D t1)) := by
    rw [led_o _ hs.1]
    unfold led
    congr 1
    refine bts_c (fun p hp => ?_)
    by_cases e : p = cD (D q)
    · rw [decide_eq_true e]
      rfl
    · rw [decide_eq_false e]
      unfold soc
      rw [decide_eq_false e, decide_eq_false (show ¬ (cK (D q) = 2 ∨ cK (D q) = 4) by omega)]
      rfl
  have core : ∀ (ia : Nat) (K sh : Nat → Fo), InR S13 ia K sh 0 → Dsi sh 0 → (∀ p, p < 6 → ∀ x, x ∈ ad true (sh p) → S.1 ≤ x) → S.1 ≤ ia → MdB S.1 th S S13 → S13.1 ≤ S.1 + 7 + 60 * nsm t1 → yC_cutRow n (r + 1) S th (zR S 7 b) (Int32.ofNat (d + 1)) = some (S13, some ia) → (∀ p, p < 6 → nq true (K p) + 10 ≤ m + 1) → ∃ S1, yC_cutStatement (yC_cutRow n (r + 1)) (m + 1) S th (some b) (some pa) (Int32.ofNat d) = some S1 ∧ StR Bs th S S1 pa C tt ss (rdX (D q) (led (D q) (occ D t1)) K) ∧ MdB Bs Bs S13 S1 ∧ S1.1 ≤ S.1 + 60 * (1 + nsm t1) ∧ StD S1 b (D q) := by
    intro ia K sh hin di hsB hia md hc13 hcall hnq
    have mdB : MdB Bs th S S13 := MdB_up md hBs
    have st13 := StD_b hst mdB (by omega) hbt
    have R13 := Rws_mb hR hb hth md
    have h11' : zI S13 11 b = _ := (MdB_I mdB (by omega) hbt hbl).1.trans h11
    have le13 := MdB_le md
    obtain ⟨S1, e1, e2, e3⟩ := sRound (n := m + 1) (B := Bs) (th := Bs) (S := S13) st13 hs hk7 h11' hled (bts_lt _) (led_no _ _ hs.1) (by omega) (by omega) R13 hb (by omega) hin (by omega) (fun p q' hp hq' e => by
        have := (ztg_lt (hR.2.2.2.1 p hp).1).1
        omega) (fun p hp x hx => by have := hsB p hp x hx; omega) di (fun p q' hp hq' x hx hy => by
        have := Rws_lt hR hp hx
        have := hsB q' hq' x hy
        omega) hnq (by omega)
    have e20 := e2
    obtain ⟨C', t', s', k1, k2, k3, k4⟩ := e2
    obtain ⟨C2, t2, s2, _, _, _, L2, m21, m22⟩ := StR_th hth e20
    have mth : MdB Bs th S13 S1 := ⟨L2, m21, m22⟩
    refine ⟨S1, ?_, ⟨C', t', s', k1, k2, k3, MdB_t mdB mth⟩, k4, by omega, StD_b st13 mth (by omega) hbt⟩
    unfold yC_cutStatement
    refine (zob_s rfl).trans ?_
    rw [if_pos hst.1, hst.2.1, hk7, if_neg (show ¬ Int32.ofNat 7 = 1 by decide), if_neg (show ¬ Int32.ofNat 7 = 2 by decide), if_neg (show ¬ Int32.ofNat 7 = 4 by decide), if_pos (show Int32.ofNat 7 = 7 from rfl)]
    refine zlb_s.trans ?_
    rw [if_pos htt, o1]
    exact (zcP_s hcall).trans ((zcV_s e1).trans rfl)
  have ckt : ck D pi cnt (cn q (cn i t1 .nil) r0) put = ckb (ck D pi cnt t1 put) fun p1 => ck D pi cnt r0 p1 := rfl
  have nqr : ∀ (K : Nat → Fo) (p M : Nat), p < 6 → nq true (K p) ≤ M → nq true (rdX (D q) (led (D q) (occ D t1)) K p .nil) ≤ 1 + M := fun K p M hp hM => by
    have e1 : ∀ c, nq true (cn c (cn 0 (K p) .nil) .nil) = 1 + (nq true (K p) + 0) + 0 := fun _ => rfl
    have e0 : nq true (.nil : Fo) = 0 := rfl
    unfold rdX rdA
    split
    · rw [e1]
      omega
    · split
      · rw [e1]
        omega
      · rw [e0]
        omega
  cases hck : ck D pi cnt t1 put with
  | inl pp =>
    obtain ⟨ia, sh, c1, c2, c3, c4, c5, c6, c7, c8, _⟩ := g1 pp hck
    have hwt := ck_wt t1 p1 put pp hck
    have hpp := ckle80 p1 hck hput
    obtain ⟨S1, e1, e2, e3, e4, e5⟩ := core ia (cut D t1) sh c2 c3 c4 c5 c6 c8 c1 (fun p hp => by
      have := nq_cut (D := D) hp p1
      omega)
    have hgo := row_go (t := cn q (cn i t1 .nil) r0) (o := 1 + nsm t1) (F := rdX (D q) (led (D q) (occ D t1)) (cut D t1)) (p1 := pp) (m := m + 1) pr ih hsr hbB hst hBB hth hBs hct e1 e2 (Ct_mb c7 hth e3) (by omega) hpp hcnt (by omega) (by omega) (by omega) (by omega) (by omega) (by omega) (by omega) (fun p hp => by
      have := nqr (cut D t1) p 900 hp (by have := nq_cut (D := D) hp p1; omega)
      omega) (by rw [ckt, hck]; rfl) (fun _ => rfl) rfl
    exact hgo
  | inr e =>
    obtain ⟨P, w⟩ := e
    have hP := ck_P t1 p1 _ put P w hsr1 hck
    obtain ⟨ia, K, sh, c1, c2, c3, c4, c5, c6, c7, c8, _, c9⟩ := g2 P w hck
    obtain ⟨S1, e1, e2, e3, e4, e5⟩ := core ia K sh c2 c3 c4 c5 c6 c8 c1 (fun p hp => by
      have := c9 p hp
      omega)
    have ckr : ck D pi cnt (cn q (cn i t1 .nil) r0) put = .inr (P, w) := by rw [ckt, hck]; rfl
    have hf := CtF_mb c7 hth e3
    have run := row_er (n := n) (r := r + 1) e5 ⟨htt, hct.2.2.2.1⟩ e1 hf (by omega)
    obtain ⟨C', t', s', k1, k2, k3, k4⟩ := e2
    refine ⟨fun p hp => (by rw [ckr] at hp; cases hp), fun P' w' hp => ?_⟩
    rw [ckr] at hp
    cases hp
    refine ⟨S1, C', t', s', run, k1, k3, k4, hf, by omega, fun p hp => ?_⟩
    have e := congrArg (nq true) (k2 p hp .nil)
    have hz0 : nq true (.nil : Fo) = 0 := rfl
    rw [nq_pl, nq_pl, hz0] at e
    have := nqr K p (1000 * nsm t1) hp (c9 p hp)
    omega
end RK
