def RowL (n : Nat) (D : Nat → Nat) (pi : Bool) (cnt B th : Nat) (t : Fo) : Prop := ∀ (S : hS) (v : Option Nat) (pa : Nat) (C : Nat → List Frm) (tt ss : Nat → Fo) (r d put m Bs : Nat), SR S D B t v → B ≤ Bs → th < Bs → Bs ≤ S.1 → Rws S pa C tt ss → Bnd Bs pa C ss → Ct S th pi (cnt + put) → put ≤ 80 → cnt ≤ 40 → bas D t ≤ 400 → 2 * d + dpt t ≤ 12 → dpt t ≤ 2 * r → 1000 * nsm t + 2900 ≤ m → 1000 * nsm t + 3000 ≤ n → S.1 + 60 * nsm t + 100 < ie_S → (∀ p, ck D pi cnt t put = .inl p → ∃ S' C' t' s', yC_cutRow_44 th (yC_cutRow n r) m S (Int32.ofNat d) (some pa) v = some (S', some pa) ∧ Rws S' pa C' t' s' ∧ (∀ q, q < 6 → plT (C' q) (t' q) = plT (C q) (ap (tt q) (cut D t q))) ∧ Bnd Bs pa C' s' ∧ MdB Bs th S S' ∧ Ct S' th pi (cnt + p) ∧ S'.1 ≤ S.1 + 60 * nsm t) ∧ (∀ P w, ck D pi cnt t put = .inr (P, w) → ∃ S' C' t' s', yC_cutRow_44 th (yC_cutRow n r) m S (Int32.ofNat d) (some pa) v = some (S', some pa) ∧ Rws S' pa C' t' s' ∧ Bnd Bs pa C' s' ∧ MdB Bs th S S' ∧ CtF S' th P w ∧ S'.1 ≤ S.1 + 60 * nsm t ∧ ∀ q, q < 6 → nq true (plT (C' q) (t' q)) ≤ nq true (plT (C q) (tt q)) + 1000 * nsm t)
section RL
variable {n : Nat} {D : Nat → Nat} {pi : Bool} {cnt B th : Nat}
theorem ctf_no {S : hS} {P w : Nat} (h : CtF S th P w) (hP : P < 2 ^ 31) : ¬ zI S 2 th = -1 := by
  rw [h.2.1]
  intro e
  have := congrArg Int32.toInt e
  rw [(j_n hP).1] at this
  have e2 : (-1 : Int32).toInt = -1 := by decide
  rw [e2] at this
  omega
theorem row_go {r0 : Fo} (pr : PW D r0) (ih : RowL n D pi cnt B th r0) {S S1 : hS} {b pa r d put p1 m Bs o q : Nat} {C : Nat → List Frm} {tt ss : Nat → Fo} {F : Nat → Fo → Fo} {t : Fo} (hsr : SR S D B r0 (zR S 9 b)) (hb : b < B) (hst0 : StD S b (D q)) (hBB : B ≤ Bs) (hth : th < Bs) (hBs : Bs ≤ S.1) (hct : Ct S th pi (cnt + put)) (hst : yC_cutStatement (yC_cutRow n r) m S th (some b) (some pa) (Int32.ofNat d) = some S1) (hS : StR Bs th S S1 pa C tt ss F) (hct1 : Ct S1 th pi (cnt + p1)) (hc1 : S1.1 ≤ S.1 + 60 * o) (hp1 : p1 ≤ 80) (hcnt : cnt ≤ 40) (hbas : bas D r0 ≤ 400) (hd : 2 * d + dpt r0 ≤ 12) (hr : dpt r0 ≤ 2 * r) (hm : 1000 * (o + nsm r0) + 2900 ≤ m + 1) (ho : 1 ≤ o) (hn : 1000 * nsm r0 + 3000 ≤ n) (hz : S.1 + 60 * (o + nsm r0) + 100 < ie_S) (hF : ∀ q, q < 6 → nq true (F q .nil) ≤ 1000 * o) (hck : ck D pi cnt t put = ck D pi cnt r0 p1) (hcut : ∀ q, cut D t q = F q (cut D r0 q)) (hnt : nsm t = o + nsm r0) : (∀ p, ck D pi cnt t put = .inl p → ∃ S' C' t' s', yC_cutRow_44 th (yC_cutRow n r) (m + 1) S (Int32.ofNat d) (some pa) (some b) = some (S', some pa) ∧ Rws S' pa C' t' s' ∧ (∀ q, q < 6 → plT (C' q) (t' q) = plT (C q) (ap (tt q) (cut D t q))) ∧ Bnd Bs pa C' s' ∧ MdB Bs th S S' ∧ Ct S' th pi (cnt + p) ∧ S'.1 ≤ S.1 + 60 * nsm t) ∧ (∀ P w, ck D pi cnt t put = .inr (P, w) → ∃ S' C' t' s', yC_cutRow_44 th (yC_cutRow n r) (m + 1) S (Int32.ofNat d) (some pa) (some b) = some (S', some pa) ∧ Rws S' pa C' t' s' ∧ Bnd Bs pa C' s' ∧ MdB Bs th S S' ∧ CtF S' th P w ∧ S'.1 ≤ S.1 + 60 * nsm t ∧ ∀ q, q < 6 → nq true (plT (C' q) (t' q)) ≤ nq true (plT (C q) (tt q)) + 1000 * nsm t) := by
  obtain ⟨C1, t1, s1, R1, f1, b1, md1⟩ := hS
  have htt := hct.1
  have hS1 : S.1 ≤ S1.1 := by
    obtain ⟨L, m1, _⟩ := md1
    exact m1.1
  have hbt : b ≠ th := fun e => by
    have := hst0.1
    rw [e, htt] at this
    cases this
  have st1 := StD_b hst0 md1 (by omega) hbt
  have ezr : zR S1 9 b = zR S 9 b := by
    obtain ⟨L, m1, m2⟩ := md1
    refine (m1.2.2.1 9 b (ztg_lt hst0.1).1 (fun z => ?_)).2
    rcases m2 b z with e | e
    · have := hst0.1
      rw [e, htt] at this
      cases this
    · omega
  have sr1 : SR S1 D B r0 (zR S1 9 b) := by
    rw [ezr]
    exact SR_mb md1 hBB htt pr hsr
  have step : yC_cutRow_44 th (yC_cutRow n r) (m + 1) S (Int32.ofNat d) (some pa) (some b) = yC_cutRow_44 th (yC_cutRow n r) m S1 (Int32.ofNat d) (some pa) (zR S1 9 b) := by
    rw [yC_cutRow_44]
    show (if ztg S th = 3 then _ else none) = _
    rw [if_pos htt, if_pos hct.2.2.2.1]
    refine (zcV_s hst).trans ?_
    rw [if_pos st1.1]
    exact zlb_s
  obtain ⟨g1, g2⟩ := ih S1 (zR S1 9 b) pa C1 t1 s1 r d p1 m Bs sr1 hBB hth (by omega) R1 b1 hct1 hp1 hcnt hbas hd hr (by omega) hn (by omega)
  rw [step, hck, hnt]
  have nqs : ∀ q, q < 6 → nq true (plT (C1 q) (t1 q)) ≤ nq true (plT (C q) (tt q)) + 1000 * o := fun q hq => by
    have e := congrArg (nq true) (f1 q hq .nil)
    have hz0 : nq true (.nil : Fo) = 0 := rfl
    rw [nq_pl, nq_pl, hz0] at e
    have := hF q hq
    omega
  refine ⟨fun p hp => ?_, fun P w hp => ?_⟩
  · obtain ⟨S', C', t', s', k1, k2, k3, k4, k5, k6, k7⟩ := g1 p hp
    refine ⟨S', C', t', s', k1, k2, fun q hq => ?_, k4, MdB_t md1 k5, k6, by omega⟩
    rw [k3 q hq, f1 q hq, hcut]
  · obtain ⟨S', C', t', s', k1, k2, k4, k5, k6, k7, k8⟩ := g2 P w hp
    refine ⟨S', C', t', s', k1, k2, k4, MdB_t md1 k5, k6, by omega, fun q hq => ?_⟩
    have := k8 q hq
    have := nqs q hq
    omega
theorem row_er {S S1 : hS} {b pa r d m : Nat} {q : Nat} (hst0 : StD S1 b q) (hct : ztg S th = 3 ∧ zI S 2 th = -1) (hst : yC_cutStatement (yC_cutRow n r) (m + 1) S th (some b) (some pa) (Int32.ofNat d) = some S1) {P w : Nat} (hf : CtF S1 th P w) (hP : P < 2 ^ 31) : yC_cutRow_44 th (yC_cutRow n r) (m + 2) S (Int32.ofNat d) (some pa) (some b) = some (S1, some pa) := by
  rw [yC_cutRow_44]
  show (if ztg S th = 3 then _ else none) = _
  rw [if_pos hct.1, if_pos hct.2]
  refine (zcV_s hst).trans ?_
  rw [if_pos hst0.1]
  refine zlb_s.trans ?_
  rw [yC_cutRow_44]
  cases zR S1 9 b with
  | none => rfl
  | some c =>
    show (if ztg S1 th = 3 then (if zI S1 2 th = -1 then _ else _) else none) = _
    rw [if_pos hf.1, if_neg (ctf_no hf hP)]
theorem nq_cut {t1 : Fo} {p : Nat} (hp : p < 6) (pt : PW D t1) : nq true (cut D t1 p) ≤ wt D t1 := Nat.le_trans ((nq_tx _ true (cut_so t1 pt p) (cut_wk t1 pt p)).1 rfl) (cut_len hp t1 pt)
theorem StR_th {S S1 : hS} {Bs pa : Nat} {C : Nat → List Frm} {tt ss : Nat → Fo} {F : Nat → Fo → Fo} (hth : th < Bs) (h : StR Bs Bs S S1 pa C tt ss F) : StR Bs th S S1 pa C tt ss F := by
  obtain ⟨C', t', s', h1, h2, h3, L, m1, m2⟩ := h
  exact ⟨C', t', s', h1, h2, h3, L, m1, fun x hx => Or.inr ((m2 x hx).elim (fun e => by omega) id)⟩
theorem Ct_mb {S S1 : hS} {Bs c : Nat} (hct : Ct S th pi c) (hth : th < Bs) (h : MdB Bs Bs S S1) : Ct S1 th pi c := by
  obtain ⟨L, m1, m2⟩ := h
  obtain ⟨c1, c2, c3, c4, c5⟩ := hct
  have hl := (ztg_lt c1).1
  have hn : th ∉ L := fun z => by
    rcases m2 th z with e | e <;> omega
  have e := fun k => (m1.2.2.1 k th hl hn).1
  exact ⟨Md2_tg m1 c1, by rw [e]; exact c2, by rw [e]; exact c3, by rw [e]; exact c4, by rw [e]; exact c5⟩
theorem CtF_mb {S S1 : hS} {Bs P w : Nat} (hct : CtF S th P w) (hth : th < Bs) (h : MdB Bs Bs S S1) : CtF S1 th P w := by
  obtain ⟨L, m1, m2⟩ := h
  obtain ⟨c1, c2, c3⟩ := hct
  have hl := (ztg_lt c1).1
  have hn : th ∉ L := fun z => by
    rcases m2 th z with e | e <;> omega
  have e := fun k => (m1.2.2.1 k th hl hn).1
  exact ⟨Md2_tg m1 c1, by rw [e]; exact c2, by rw [e]; exact c3⟩
theorem Ct_st {S S1 : hS} {Bs c pa : Nat} {C : Nat → List Frm} {tt ss : Nat → Fo} {F : Nat → Fo → Fo} (hct : Ct S th pi c) (hth : th < Bs) (h : StR Bs Bs S S1 pa C tt ss F) : Ct S1 th pi c := by
  obtain ⟨C', t', s', h1, h2, h3, h4⟩ := h
  exact Ct_mb hct hth h4
theorem rl_sm {q : Nat} {r0 : Fo} (hs : PWs (D q)) (pr : PW D r0) (ih : RowL n D pi cnt B th r0) : RowL n D pi cnt B th (cn q .nil r0) := by
  intro S v pa C tt ss r d put m Bs hsr hBB hth hBs hR hb hct hput hcnt hbas hd hr hm hn hz
  obtain ⟨b, rfl, ⟨hbB, hq1⟩, hst, hpl, hsr⟩ := hsr
  have en : nsm (cn q .nil r0) = 1 + nsm r0 := rfl
  have eb : bas D (cn q .nil r0) = (if cK (D q) = 1 then (xt (cE (D q))).length + 4 else if cK (D q) = 2 then (xt (cE (D q))).length + 5 else 6) + bas D r0 := rfl
  have ed : dpt (cn q .nil r0) = dpt r0 := rfl
  obtain ⟨m, rfl⟩ : ∃ k, m = k + 1 := ⟨m - 1, by omega⟩
  have hF : ∀ p, p < 6 → nq true (smA (D q) p .nil) ≤ 1000 * 1 := fun p _ => by
    have e1 : ∀ c, nq true (cn c .nil .nil) = 1 + 0 + 0 := fun _ => rfl
    have e2 : ∀ c l, nq true (cn c (cn l .nil .nil) .nil) = 1 + (0 + 0) + 0 := fun _ _ => rfl
    have e0 : nq true (.nil : Fo) = 0 := rfl
    unfold smA
    split
    · split
      · rw [e1]; omega
      · rw [e0]; omega
    · split
      · split
        · rw [e1]; omega
        · split
          · rw [e1]; omega
          · rw [e0]; omega
      · split
        · rw [e1]; omega
        · split
          · rw [e2]; omega
          · rw [e0]; omega
  have fin : ∀ (S1 : hS), yC_cutStatement (yC_cutRow n r) m S th (some b) (some pa) (Int32.ofNat d) = some S1 → StR Bs Bs S S1 pa C tt ss (smA (D q)) → S1.1 ≤ S.1 + 4 → _ := fun S1 e1 e2 e3 => row_go (t := cn q .nil r0) (o := 1) (F := smA (D q)) (p1 := put) pr ih hsr hbB hst hBB hth hBs hct e1 (StR_th hth e2) (Ct_st hct hth e2) (by omega) hput hcnt (by omega) (by omega) (by omega) (by omega) (Nat.le_refl _) (by omega) (by omega) hF rfl (fun _ => rfl) rfl
  rcases hs.2.1 with k | ⟨k | k, _⟩
  · obtain ⟨S1, e1, e2, e3⟩ := sSet (n := m) (th := Bs) hst hs k hR hb hBs (by omega) (by omega)
    refine fin S1 ?_ e2 e3
    unfold yC_cutStatement
    refine (zob_s rfl).trans ?_
    rw [if_pos hst.1, hst.2.1, k, if_pos (show Int32.ofNat 1 = 1 from rfl)]
    exact (zcV_s e1).trans rfl
  · obtain ⟨S1, e1, e2, e3⟩ := sSend (n := m) (th := Bs) hst hs k hR hb hBs (by omega) (by omega) (by omega)
    refine fin S1 ?_ e2 e3
    unfold yC_cutStatement
    refine (zob_s rfl).trans ?_
    rw [if_pos hst.1, hst.2.1, k, if_neg (show ¬ Int32.ofNat 2 = 1 by decide), if_pos (show Int32.ofNat 2 = 2 from rfl)]
    exact (zcV_s e1).trans rfl
  · obtain ⟨S1, e1, e2, e3⟩ := sTell (n := m) (th := Bs) hst hs k hR hb hBs (by omega) (by omega) (by omega)
    refine fin S1 ?_ e2 e3
    unfold yC_cutStatement
    refine (zob_s rfl).trans ?_
    rw [if_pos hst.1, hst.2.1, k, if_neg (show ¬ Int32.ofNat 4 = 1 by decide), if_neg (show ¬ Int32.ofNat 4 = 2 by decide), if_pos (show Int32.ofNat 4 = 4 from rfl)]
    exact (zob_s rfl).trans e1
end RL
