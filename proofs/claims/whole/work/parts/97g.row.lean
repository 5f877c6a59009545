theorem szR_id {S : hS} {k a : Nat} {v : Option Nat} (h : zR S k a = v) : szR S k a v = S := by
  have e : zup2 S.2.2.2.2.2.1 k a v = S.2.2.2.2.2.1 := by
    funext j b
    unfold zup2
    by_cases q : j = k
    · rw [if_pos q]
      by_cases q2 : b = a
      · rw [if_pos q2, q, q2]; exact h.symm
      · rw [if_neg q2]
    · rw [if_neg q]
  show (S.1, S.2.1, S.2.2.1, S.2.2.2.1, S.2.2.2.2.1, zup2 S.2.2.2.2.2.1 k a v, _) = _
  rw [e]
theorem Grw_c {S T : hS} {k l : Nat} {v : Option Nat} (g : Grw S T) : Grw (szR S k l v) (szR T k l v) := by
  obtain ⟨a1, a2, a3, a4⟩ := g
  refine ⟨a1, fun x hx => ?_, a3, a4⟩
  obtain ⟨p1, p2, p3, p4⟩ := a2 x hx
  refine ⟨p1, fun j => ?_, p3, p4⟩
  show zup2 T.2.2.2.2.2.1 k l v j x = zup2 S.2.2.2.2.2.1 k l v j x
  have p2j : T.2.2.2.2.2.1 j x = S.2.2.2.2.2.1 j x := p2 j
  unfold zup2
  rw [p2j]
section RW
variable {rc : hS → Nat → Int32 → Option (hS × Option Nat)} {R : pw → Nat → pw × Nat × Fo} {a b c d M q : Nat} {f : Nat → Int32} {S T : hS} {w w1 : Bool}
theorem RS_cons {S' : hS} {k r : Fo} {v' : Option Nat} (h : RS T f c w1 (cn q k .nil) b (some b)) (hw : w = false → w1 = false) (e : Grw (szR T 9 b v') S') (hr : RS S' f c w r b v') : RS S' f c w (cn q k r) b (some b) := by
  have h' : RS T f c w (.append (.tag q k) .nil) b (some b) := RS_fl h hw
  have kf : ∀ (hb : ztg T b = 10), ztg S' b = 10 ∧ (∀ j, zI S' j b = zI T j b) ∧ zL S' b = zL T b ∧ zR S' 7 b = zR T 7 b ∧ zR S' 8 b = zR T 8 b ∧ zR S' 9 b = v' := by
    intro hb
    have hl : b < T.1 := (ztg_lt hb).1
    obtain ⟨p1, p2, p3, p4⟩ := e.2.1 b hl
    exact ⟨ztg_g (S := szR T 9 b v') hb e, p1, p3, (p2 7).trans rfl, (p2 8).trans rfl, (p2 9).trans (zR_self T 9 b v')⟩
  have kk : ∀ (t : Fo) (x : Option Nat), RS T f c w t (b + 1) x → RS S' f c w t (b + 1) x := fun t x z => RS_fr _ _ _ (RS_fr _ _ _ z (Sme_R (by omega) v')) (Sme_g e)
  show RS S' f c w (.append (.tag q k) r) b (some b)
  unfold RS at h'
  split at h'
  · rename_i heq
    cases heq
    obtain ⟨b', hb', h2, h3, h4, h5, h6, h7⟩ := h'
    have hbb := Option.some.inj hb'
    subst hbb
    obtain ⟨k1, k2, k3, k4, k5, k6⟩ := kf h3
    unfold RS
    refine ⟨_, rfl, Nat.le_refl _, k1, fun z => ⟨?_, by rw [k2]; exact (h4 z).2⟩, by rw [k4]; exact h5, by rw [k5]; exact h6, by rw [k6]; exact hr⟩
    obtain ⟨d1, d2, d3, d4, d5, d6, d7⟩ := (h4 z).1
    exact ⟨by rw [k2]; exact d1, by rw [k2]; exact d2, by rw [k2]; exact d3, by rw [k2]; exact d4, by rw [k2]; exact d5, by rw [k2]; exact d6, by rw [k3]; exact d7⟩
  · rename_i heq
    cases heq
    obtain ⟨b', hb', h2, h3, h4, h5, h6, h7⟩ := h'
    have hbb := Option.some.inj hb'
    subst hbb
    obtain ⟨k1, k2, k3, k4, k5, k6⟩ := kf h3
    unfold RS
    refine ⟨_, rfl, Nat.le_refl _, k1, fun z => ⟨?_, by rw [k2]; exact (h4 z).2⟩, by rw [k4]; exact kk _ _ h5, by rw [k5]; exact h6, by rw [k6]; exact hr⟩
    obtain ⟨d1, d2, d3, d4, d5, d6, d7⟩ := (h4 z).1
    exact ⟨by rw [k2]; exact d1, by rw [k2]; exact d2, by rw [k2]; exact d3, by rw [k2]; exact d4, by rw [k2]; exact d5, by rw [k2]; exact d6, by rw [k3]; exact d7⟩
  · rename_i heq
    cases heq
    obtain ⟨b', hb', h2, h3, h4, h5, h6, h7⟩ := h'
    have hbb := Option.some.inj hb'
    subst hbb
    obtain ⟨k1, k2, k3, k4, k5, k6⟩ := kf h3
    unfold RS
    refine ⟨_, rfl, Nat.le_refl _, k1, fun z => ⟨?_, by rw [k2]; exact (h4 z).2⟩, by rw [k4]; exact kk _ _ h5, by rw [k5]; exact kk _ _ h6, by rw [k6]; exact hr⟩
    obtain ⟨d1, d2, d3, d4, d5, d6, d7⟩ := (h4 z).1
    exact ⟨by rw [k2]; exact d1, by rw [k2]; exact d2, by rw [k2]; exact d3, by rw [k2]; exact d4, by rw [k2]; exact d5, by rw [k2]; exact d6, by rw [k3]; exact d7⟩
  · rename_i heq
    cases heq
  · exact h'.elim
theorem u_ends {n : Nat} {s : rs} (h : Rd S a c f) (hs : s.1 ≤ c) (hd : d ≤ 10) : yR_rowEnds (U S a s n) a (Int32.ofNat d) = some (U S a s n, ty_b (ks_ends f c d s)) := by
  unfold yR_rowEnds ks_ends
  by_cases q : d = 0
  · subst q
    rw [if_pos rfl, if_pos (show Int32.ofNat 0 = 0 from rfl)]
    refine (if_pos h.1).trans ?_
    rw [U_g2, show zI (U S a s n) 1 a = Int32.ofNat c from h.2.2.2.2.1]
    have hc := h.2.2.2.2.2.1
    by_cases q2 : s.1 = c
    · rw [if_pos (show Int32.ofNat s.1 = Int32.ofNat c by rw [q2]), decide_eq_true q2]
      rfl
    · rw [if_neg (show ¬ Int32.ofNat s.1 = Int32.ofNat c from mt (j_eq (by omega) (by omega)).mp q2), decide_eq_false q2]
      rfl
  · rw [if_neg q, if_neg (show ¬ Int32.ofNat d = 0 from mt (j_eq (n := 0) (by omega) (by decide)).mp q)]
    refine (if_pos h.1).trans ?_
    refine (zcP_s (u_ahead h hs (i := 0) (by decide))).trans ?_
    by_cases q2 : ka f c s 0 = 125
    · rw [decide_eq_true q2]
      exact if_pos q2
    · rw [decide_eq_false q2]
      exact if_neg q2
def adj (S : hS) (p3 v : Option Nat) : hS := match p3 with
  | none => S
  | some l => szR S 9 l v
def fstp (p2 p3 v : Option Nat) : Option Nat := match p3 with
  | none => v
  | some _ => p2
theorem rlp (hR : d < 6 → RCs rc R a c f (d + 1) M) (hMS : M ≤ ie_S) (hd : d ≤ 9) : ∀ (j i m : Nat) (S : hS) (s : rs) (n : Nat) (p2 p3 : Option Nat), i + j = 41 → j + 43 ≤ m → Rd S a c f → s.1 ≤ c → n ≤ 40 → (s.2.1 = false → S.1 + 41 ≤ M + n) → (p3 = none → p2 = none) → (∀ l, p3 = some l → a < l ∧ ztg S l = 10 ∧ zR S 9 l = none) → ∃ S' s' v, yR_readRow_7 a rc m (U S a s n) (Int32.ofNat d) p2 p3 (Int32.ofNat i) = some (U S' a s' (pLoop R f c d j (pj s) n).2.1, fstp p2 p3 v) ∧ pj s' = (pLoop R f c d j (pj s) n).1 ∧ s'.1 ≤ c ∧ (pLoop R f c d j (pj s) n).2.1 ≤ 40 ∧ Grw (adj S p3 v) S' ∧ (s'.2.1 = false → s.2.1 = false ∧ S'.1 + 41 ≤ M + (pLoop R f c d j (pj s) n).2.1) ∧ RS S' f c s'.2.1 (pLoop R f c d j (pj s) n).2.2 S.1 v ∧ rln (pLoop R f c d j (pj s) n).2.2 ≤ j ∧ S'.1 ≤ max S.1 M
  | 0, i, m + 1, S, s, n, p2, p3, hi, hm, h, hs, hn, hM, hp, hl => by
    have hadj : Grw (adj S p3 none) S := by
      cases p3 with
      | none => exact Grw_r
      | some l =>
        show Grw (szR S 9 l none) S
        rw [szR_id (hl l rfl).2.2]
        exact Grw_r
    refine ⟨S, s, none, ?_, rfl, hs, hn, hadj, fun z => ⟨z, hM z⟩, rfl, Nat.le_refl _, Nat.le_max_left _ _⟩
    have : i = 41 := by omega
    subst this
    unfold yR_readRow_7
    refine (if_pos (by decide)).trans ?_
    show some (U S a s n, p2) = some (U S a s n, fstp p2 p3 none)
    cases p3 with
    | none => rw [hp rfl]; rfl
    | some l => rfl
  | j + 1, i, m + 1, S, s, n, p2, p3, hi, hm, h, hs, hn, hM, hp, hl => by
    have hadj : Grw (adj S p3 none) S := by
      cases p3 with
      | none => exact Grw_r
      | some l =>
        show Grw (szR S 9 l none) S
        rw [szR_id (hl l rfl).2.2]
        exact Grw_r
    have hfst : fstp p2 p3 none = p2 := by
      cases p3 with
      | none => rw [hp rfl]; rfl
      | some l => rfl
    have h40 : ¬ 40 < Int32.ofNat i := mt (j_lt (m := 40) (by decide) (by omega)).mp (by omega)
    unfold pLoop
    cases hw : s.2.1 with
    | true =>
      rw [if_pos (show (pj s).2 = true from hw)]
      refine ⟨S, s, none, ?_, rfl, hs, hn, hadj, (fun z => by rw [hw] at z; cases z), rfl, Nat.zero_le _, Nat.le_max_left _ _⟩
      unfold yR_readRow_7
      refine (if_neg h40).trans ?_
      refine (if_pos h.1).trans ?_
      refine (if_neg (by rw [U_g4, hw]; decide)).trans ?_
      rw [hfst]
    | false =>
      rw [if_neg (show ¬ (pj s).2 = true by rw [show (pj s).2 = false from hw]; decide)]
      have hend : ks_ends f c d (z0 (pj s)) = ks_ends f c d s := rfl
      rw [hend]
      cases he : ks_ends f c d s with
      | true =>
        rw [ift]
        refine ⟨S, s, none, ?_, rfl, hs, hn, hadj, fun _ => ⟨rfl, hM hw⟩, rfl, Nat.zero_le _, Nat.le_max_left _ _⟩
        unfold yR_readRow_7
        refine (if_neg h40).trans ?_
        refine (if_pos h.1).trans ?_
        refine (if_pos (by rw [U_g4, hw]; rfl)).trans ?_
        refine (zcP_s (u_ends h hs (by omega))).trans ?_
        refine (if_neg (by rw [he]; decide)).trans ?_
        rw [hfst]
      | false =>
        rw [iff']
        obtain ⟨T, s1, t1, t2, t3, t4, t5, t6, t7, t8, t9, t10⟩ := rst (m := m) (n := n) hR h hs hw hn (hM hw) hMS (by omega) hd
        generalize pStm R f c d (pj s) n = B at t1 t2 t4 t6 t9 ⊢
        have rT : Rd T a c f := Rd_g h t5
        have ha := (ztg_lt h.1).1
        have tb : ztg T S.1 = 10 := by
          have z := RS_w _ _ _ t9
          have z2 : RS T f c true (.append (.tag s.1 B.2.2) .nil) S.1 (some S.1) := z
          unfold RS at z2
          split at z2
          · obtain ⟨b', hb', -, h3, -⟩ := z2
            cases hb'
            exact h3
          · obtain ⟨b', hb', -, h3, -⟩ := z2
            cases hb'
            exact h3
          · obtain ⟨b', hb', -, h3, -⟩ := z2
            cases hb'
            exact h3
          · rename_i heq
            cases heq
          · exact z2.elim
        have start : yR_readRow_7 a rc (m + 1) (U S a s n) (Int32.ofNat d) p2 p3 (Int32.ofNat i) = zoc p3 (yR_readRow_7 a rc m (U T a s1 B.2.1) (Int32.ofNat d) (some S.1) (some S.1) (Int32.ofNat (i + 1))) (fun a3 => if ztg (U T a s1 B.2.1) a3 = 10 then yR_readRow_7 a rc m (szR (U T a s1 B.2.1) 9 a3 (some S.1)) (Int32.ofNat d) p2 (some S.1) (Int32.ofNat (i + 1)) else none) := by
          rw [yR_readRow_7]
          refine (if_neg h40).trans ?_
          refine (if_pos h.1).trans ?_
          refine (if_pos (by rw [U_g4, hw]; rfl)).trans ?_
          refine (zcP_s (u_ends h hs (by omega))).trans ?_
          refine (if_pos (by rw [he]; rfl)).trans ?_
          refine (if_pos h.1).trans ?_
          refine (zcP_s t1).trans ?_
          rw [show (1 : Int32) = Int32.ofNat 1 from rfl, ty_add]
        cases p3 with
        | none =>
          obtain ⟨S', s', v', e1, e2, e3, e4, e5, e6, e7, e8, e9⟩ := rlp hR hMS hd j (i + 1) m T s1 B.2.1 (some S.1) (some S.1) (by omega) (by omega) rT t3 t4 t6 (fun z => by cases z) (fun l hl9 => by cases hl9; exact ⟨ha, tb, t8⟩)
          rw [t2] at e1 e2 e4 e6 e7 e8
          refine ⟨S', s', some S.1, ?_, e2, e3, e4, ?_, fun z => ⟨rfl, (e6 z).2⟩, ?_, ?_, ?_⟩
          · exact start.trans e1
          · exact Grw_t (Grw_R t5 (Nat.le_refl _) v') e5
          · exact RS_cons t9 (fun z => (e6 z).1) e5 (RS_lo _ _ _ e7 t5.1)
          · show rln (.append (.tag s.1 B.2.2) _) ≤ j + 1
            unfold rln
            exact Nat.succ_le_succ e8
          · have h9 : S'.1 ≤ max T.1 M := e9
            omega
        | some l =>
          obtain ⟨l1, l2, l3⟩ := hl l rfl
          have ll : l < S.1 := (ztg_lt l2).1
          have tl : ztg T l = 10 := ztg_g l2 t5
          obtain ⟨S', s', v', e1, e2, e3, e4, e5, e6, e7, e8, e9⟩ := rlp hR hMS hd j (i + 1) m (szR T 9 l (some S.1)) s1 B.2.1 p2 (some S.1) (by omega) (by omega) (Rd_R (by omega) _ rT) t3 t4 t6 (fun z => by cases z) (fun l' hl9 => by cases hl9; exact ⟨ha, tb, (zR_ne (by omega)).trans t8⟩)
          rw [t2] at e1 e2 e4 e6 e7 e8
          refine ⟨S', s', some S.1, ?_, e2, e3, e4, ?_, fun z => ⟨rfl, (e6 z).2⟩, ?_, ?_, ?_⟩
          · refine start.trans ?_
            show (if ztg (U T a s1 B.2.1) l = 10 then _ else none) = _
            refine (if_pos tl).trans ?_
            exact e1
          · exact Grw_t (Grw_R (Grw_c t5) (show (szR S 9 l (some S.1)).1 ≤ S.1 from Nat.le_refl _) v') e5
          · refine RS_cons (T := szR T 9 l (some S.1)) (RS_fr _ _ _ t9 (Sme_R ll _)) (fun z => (e6 z).1) e5 (RS_lo _ _ _ e7 t5.1)
          · show rln (.append (.tag s.1 B.2.2) _) ≤ j + 1
            unfold rln
            exact Nat.succ_le_succ e8
          · have h9 : S'.1 ≤ max T.1 M := e9
            omega
theorem rrow (hMS : M ≤ ie_S) {m : Nat} (hm : 84 ≤ m) : ∀ (r d : Nat), r + d = 9 → d ≤ 6 → RCs (yR_readRow m r) (pRow f c r d) a c f d M
  | 0, d, hr, hd => by omega
  | r + 1, d, hr, hd => by
    have ih : d < 6 → RCs (yR_readRow m r) (pRow f c r (d + 1)) a c f (d + 1) M := fun z => rrow hMS hm r (d + 1) (by omega) (by omega)
    intro S s n h hs hn hM
    obtain ⟨S', s', v, e1, e2, e3, e4, e5, e6, e7, e8, e9⟩ := rlp ih hMS (by omega) 41 0 m S s n none none (by omega) (by omega) h hs hn hM (fun _ => rfl) (fun l hl => by cases hl)
    exact ⟨S', s', v, e1, e2, e3, e4, e5, e6, e7, e8, e9⟩
end RW
