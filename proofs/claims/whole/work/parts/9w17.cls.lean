section UA
variable {S S' : hS} {B th pa i1 i2 n a sc : Nat} {K1 K2 sh1 sh2 : Nat → Fo}
theorem una_5 (h : StD S a sc) (hp : cD sc < 6) (h1 : InR S i1 K1 sh1 0) (h2 : InR S i2 K2 sh2 0) (w1 : ∀ p, p < 6 → WK true (K1 p) ∧ dq true (K1 p) ≤ 64) (w2 : ∀ p, p < 6 → WK true (K2 p)) : ∀ (e i m : Nat), i + e = 6 → (∀ p, p < 6 → nq true (K1 p) + 12 ≤ m) → yC_unawareAt_5 (m + 1 + e) S (some a) (some i1) (some i2) (Int32.ofNat (bq (fun q => !decide (q = cD sc) && (J true (K1 q) (K2 q)).isNone) i)) (Int32.ofNat i) = some (S, Int32.ofNat (unw (cD sc) K1 K2))
  | 0, i, m, hi, _ => by
    have : i = 6 := by omega
    subst this
    rw [Nat.add_zero, yC_unawareAt_5, if_pos (by decide), bq_6]
    rfl
  | e + 1, i, m, hi, hm => by
    have ih := una_5 h hp h1 h2 w1 w2 e (i + 1) m (by omega) hm
    rw [bq] at ih
    rw [← Nat.add_assoc, yC_unawareAt_5, if_neg (show ¬ (6 : Int32) ≤ Int32.ofNat i from mt (j_le (m := 6) (by decide) (by omega)).mp (by omega))]
    refine (zob_s rfl).trans ?_
    rw [if_pos h.1, h.2.2.1, o1]
    by_cases q : i = cD sc
    · rw [if_pos (show Int32.ofNat i = Int32.ofNat (cD sc) by rw [q])]
      rw [decide_eq_true q, Bool.not_true, Bool.false_and, if_neg (by decide), Nat.add_zero] at ih
      exact ih
    · rw [if_neg (mt (j_eq (by omega) (by omega)).mp q)]
      rw [decide_eq_false q, Bool.not_false, Bool.true_and] at ih
      obtain ⟨a1, a2, a3, a4, a5⟩ := h1.2.2 i (Nat.zero_le _) (by omega)
      obtain ⟨b1, b2, b3, b4, b5⟩ := h2.2.2 i (Nat.zero_le _) (by omega)
      have hmi := hm i (by omega)
      have hc := canJoin_ok (n := m + 1 + e) a3 (w1 i (by omega)).1 b3 (w2 i (by omega)) a4 b4 (w1 i (by omega)).2 (by omega)
      refine (zob_s rfl).trans ?_
      rw [if_pos (zar_26 h1.1), h1.2.1, if_pos (j_in (by omega) (by omega)), (j_n (n := i) (by omega)).2, a1]
      refine zlb_s.trans ((zob_s rfl).trans ?_)
      rw [if_pos a2]
      refine zlb_s.trans ((zob_s rfl).trans ?_)
      rw [if_pos (zar_26 h2.1), h2.2.1, if_pos (j_in (by omega) (by omega)), b1]
      refine zlb_s.trans ((zob_s rfl).trans ?_)
      rw [if_pos b2]
      refine zlb_s.trans ((zcP_s hc).trans ?_)
      cases hj : J true (K1 i) (K2 i) with
      | none =>
        rw [hj, if_pos (show (none : Option Fo).isNone = true from rfl)] at ih
        show (if ty_b false = 0 then _ else _) = _
        rw [tb0, bor_o i (by omega) _ (bq_lt _ i)]
        exact ih
      | some c =>
        rw [hj, if_neg (show ¬ (some c).isNone = true from Bool.noConfusion), Nat.add_zero] at ih
        show (if ty_b true = 0 then _ else _) = _
        rw [tb1]
        exact ih
theorem una_ok (h : StD S a sc) (hp : cD sc < 6) (h1 : InR S i1 K1 sh1 0) (h2 : InR S i2 K2 sh2 0) (w1 : ∀ p, p < 6 → WK true (K1 p) ∧ dq true (K1 p) ≤ 64) (w2 : ∀ p, p < 6 → WK true (K2 p)) (hn : ∀ p, p < 6 → nq true (K1 p) + 20 ≤ n) : yC_unawareAt n S (some a) (some i1) (some i2) = some (S, Int32.ofNat (unw (cD sc) K1 K2)) := by
  have h0 := hn 0 (by decide)
  obtain ⟨m, rfl⟩ : ∃ m, n = m + 1 + 6 := ⟨n - 7, by omega⟩
  exact una_5 h hp h1 h2 w1 w2 6 0 m rfl (fun p hp2 => by have := hn p hp2; omega)
def tlq (l u q : Nat) (x : Fo) : Fo := tl1 l u q x
theorem wt_1 {l u q m : Nat} {x sx : Fo} {v : Option Nat} (hl : l < 16) (hu : u < 64) (hq : q < 6) (hx : So true x) (h : Rp S true x sx (fun _ => v)) (sp : Spt true sx) (hz : S.1 + 2 < ie_S) : ∃ S' sx' v', yC_withTells_5 (m + 1) S (Int32.ofNat l) (Int32.ofNat u) v (Int32.ofNat q) = yC_withTells_5 m S' (Int32.ofNat l) (Int32.ofNat u) v' (Int32.ofNat q - 1) ∧ Rp S' true (tl1 l u q x) sx' (fun _ => v') ∧ Md2 S S' [] ∧ Spt true sx' ∧ (∀ y, y ∈ ad true sx' → y ∈ ad true sx ∨ S.1 ≤ y) ∧ S'.1 ≤ S.1 + 2 := by
  rw [yC_withTells_5, if_neg (show ¬ Int32.ofNat q < 0 from mt (j_lt (n := 0) (by omega) (by decide)).mp (by omega)), o_add_m1]
  unfold tl1
  by_cases e : u.testBit q = true
  · rw [if_neg (mt (con_o u hu q hq).mp (by rw [e]; decide)), if_pos e]
    have htell := tell_ok (S := S) (l := l) (o := q) hl (by omega) hz
    obtain ⟨n1, n2, n3⟩ := nN_nd (S := S) (n := cd 4 0 l q 0 0) hz
    have mdN : Md2 S (nN S (cd 4 0 l q 0 0)) [] := nN_md
    have eN : (nN S (cd 4 0 l q 0 0)).1 = S.1 + 2 := nN_1
    generalize nN S (cd 4 0 l q 0 0) = N at htell n1 n2 n3 mdN eN
    have l0 : ∀ y : Nat, y ∈ [S.1] → ¬ y < S.1 := fun y hy => by
      rw [List.mem_singleton] at hy
      omega
    have md3 : Md2 S (szR N 8 S.1 v) [] := Md2_t mdN (Md2_R 8 S.1 v) (fun y hy => by cases hy) (fun y hy hl => (l0 y hy hl).elim) (fun y hy hl => (l0 y hy (by omega)).elim)
    refine ⟨szR N 8 S.1 v, cn S.1 .nil sx, some S.1, ?_, Rp_rm rfl (Nd_8 n1) trivial ?_, md3, ⟨trivial, sp, fun _ z => (by cases z), fun hy => ?_⟩, fun y hy => ?_, by show N.1 ≤ S.1 + 2; omega⟩
    · refine (zcP_s htell).trans ((zob_s rfl).trans ?_)
      rw [if_pos n1.1]
    · rw [zR_self]
      exact Rp_md hx h md3 (fun _ _ z => by cases z)
    · have := (ztg_lt (Rp_nd _ true hx _ _ h _ hy).1).1
      omega
    · have hy' : y ∈ S.1 :: ([] ++ ad true sx) := hy
      rw [List.nil_append, List.mem_cons] at hy'
      rcases hy' with hy | hy
      · exact Or.inr (by omega)
      · exact Or.inl hy
  · rw [if_pos ((con_o u hu q hq).mpr (by cases h : u.testBit q with | false => rfl | true => exact (e h).elim)), if_neg e]
    exact ⟨S, sx, v, rfl, h, Md2_r, sp, fun y hy => Or.inl hy, by omega⟩
theorem wt_ok {l u : Nat} {x sx : Fo} {v : Option Nat} (hl : l < 16) (hu : u < 64) (hx : So true x) (h : Rp S true x sx (fun _ => v)) (sp : Spt true sx) (hz : S.1 + 14 < ie_S) (hn : 10 ≤ n) : ∃ S' sx' v', yC_withTells n S (Int32.ofNat l) (Int32.ofNat u) v = some (S', v') ∧ Rp S' true (tel l u x) sx' (fun _ => v') ∧ Md2 S S' [] ∧ Spt true sx' ∧ (∀ y, y ∈ ad true sx' → y ∈ ad true sx ∨ S.1 ≤ y) ∧ S'.1 ≤ S.1 + 12 := by
  obtain ⟨m, rfl⟩ : ∃ m, n = m + 7 := ⟨n - 7, by omega⟩
  have tt : ∀ {T U : hS}, Md2 S T [] → Md2 T U [] → Md2 S U [] := fun {T U} h1 h2 => Md2_t h1 h2 (fun _ z => by cases z) (fun _ z => by cases z) (fun _ z => by cases z)
  obtain ⟨S5, x5, v5, a5, b5, c5, d5, e5, f5⟩ := wt_1 (m := m + 6) (q := 5) hl hu (by decide) hx h sp (by omega)
  obtain ⟨S4, x4, v4, a4, b4, c4, d4, e4, f4⟩ := wt_1 (m := m + 5) (q := 4) hl hu (by decide) (tl1_so hx) b5 d5 (by omega)
  obtain ⟨S3, x3, v3, a3, b3, c3, d3, e3, f3⟩ := wt_1 (m := m + 4) (q := 3) hl hu (by decide) (tl1_so (tl1_so hx)) b4 d4 (by omega)
  obtain ⟨S2, x2, v2, a2, b2, c2, d2, e2, f2⟩ := wt_1 (m := m + 3) (q := 2) hl hu (by decide) (tl1_so (tl1_so (tl1_so hx))) b3 d3 (by omega)
  obtain ⟨S1, x1, v1, a1, b1, c1, d1, e1, f1⟩ := wt_1 (m := m + 2) (q := 1) hl hu (by decide) (tl1_so (tl1_so (tl1_so (tl1_so hx)))) b2 d2 (by omega)
  obtain ⟨S0, x0, v0, a0, b0, c0, d0, e0, f0⟩ := wt_1 (m := m + 1) (q := 0) hl hu (by decide) (tl1_so (tl1_so (tl1_so (tl1_so (tl1_so hx))))) b1 d1 (by omega)
  have m5 := c5.1
  have m4 := c4.1
  have m3 := c3.1
  have m2 := c2.1
  have m1 := c1.1
  refine ⟨S0, x0, v0, ?_, b0, tt (tt (tt (tt (tt c5 c4) c3) c2) c1) c0, d0, fun y hy => ?_, by omega⟩
  · refine a5.trans ?_
    rw [show Int32.ofNat 5 - 1 = Int32.ofNat 4 from rfl]
    refine a4.trans ?_
    rw [show Int32.ofNat 4 - 1 = Int32.ofNat 3 from rfl]
    refine a3.trans ?_
    rw [show Int32.ofNat 3 - 1 = Int32.ofNat 2 from rfl]
    refine a2.trans ?_
    rw [show Int32.ofNat 2 - 1 = Int32.ofNat 1 from rfl]
    refine a1.trans ?_
    rw [show Int32.ofNat 1 - 1 = Int32.ofNat 0 from rfl]
    refine a0.trans ?_
    rw [yC_withTells_5, if_pos (by decide)]
  · rcases e0 y hy with hy | hy
    · rcases e1 y hy with hy | hy
      · rcases e2 y hy with hy | hy
        · rcases e3 y hy with hy | hy
          · rcases e4 y hy with hy | hy
            · rcases e5 y hy with hy | hy
              · exact Or.inl hy
              · exact Or.inr hy
            · exact Or.inr (by omega)
          · exact Or.inr (by omega)
        · exact Or.inr (by omega)
      · exact Or.inr (by omega)
    · exact Or.inr (by omega)
theorem nwk2 {m i1 i2 : Nat} {x y sx sy : Fo} {v w : Option Nat} (hm1 : i1 < pof (cK m)) (hm2 : i2 < pof (cK m)) (hne : i1 ≠ i2) (hi1 : i1 < 10) (hi2 : i2 < 10) (kk : Fo) (ks : Fo) (hkk : ∀ i, gid i kk = if i = i1 then some x else if i = i2 then some y else none) {N : hS} (n1 : Ndd N a m .nil) (n2 : zR N 8 a = none) (n3 : zAR N (a + 1) = fun _ => none) (hx : So true x) (hy : So true y) (rx : Rp N true x sx (fun _ => v)) (ry : Rp N true y sy (fun _ => w)) (ax : a ∉ ad true sx) (ay : a ∉ ad true sy) : ∃ N1 N', yA_setPart N a (Int32.ofNat i1) v = some N1 ∧ yA_setPart N1 a (Int32.ofNat i2) w = some N' ∧ Mdf N N' [a] ∧ ztg N1 a = 2 ∧ Ndd N' a m kk ∧ Rp N' true x sx (fun _ => zAR N' (a + 1) i1) ∧ Rp N' true y sy (fun _ => zAR N' (a + 1) i2) ∧ zR N' 8 a = none := by
  have hs1 := setP_ok (i := i1) (v := v) n1 hm1 (fun b hb => Rp_tag hx rx b hb)
  have ms1 := stP_m (S := N) (a := a) (i := i1) (v := v)
  have hb1 : ∀ x, zI N 7 a = Int32.ofNat x → x < 1024 → zI (stP N a i1 v) 7 a = Int32.ofNat (x ||| 2 ^ i1) := fun x h1 h2 => stP_7 h1 h2 hi1
  have hz1 : zAR (stP N a i1 v) (a + 1) = va_up (zAR N (a + 1)) i1 v := stP_a
  generalize stP N a i1 v = N1 at hs1 ms1 hb1 hz1
  obtain ⟨m1, m2, m3, m4, m5, ⟨z, z1, z2, z3⟩, m7⟩ := n1
  have nd1 : Ndd N1 a m (cn i1 x .nil) := by
    have eI : ∀ j, j ≠ 7 → zI N1 j a = zI N j a := fun j hj => ms1.2.2.2.1 j a (Or.inl hj)
    refine ⟨(Mdf_tg ms1 _).trans m1, ?_, by rw [ms1.2.2.2.2.2.1]; exact m3, (Mdf_tg ms1 _).trans m4, by unfold zLen at m5 ⊢; rw [ms1.2.2.1]; exact m5, ⟨z ||| 2 ^ i1, or_lt z z1 i1 hi1, hb1 z z2 z1, fun i hi => ?_⟩, fun i hi => ?_⟩
    · unfold Cdn at m2 ⊢
      rw [eI 0 (by decide), eI 1 (by decide), eI 2 (by decide), eI 3 (by decide), eI 4 (by decide), ms1.2.2.2.2.1]
      exact m2
    · rw [or_bit, z3 i hi, gid_cn]
      by_cases e : i = i1
      · rw [if_pos e, decide_eq_true e.symm]
        rfl
      · rw [if_neg e, decide_eq_false (Ne.symm e)]
        rfl
    · rw [hz1, n3]
      rw [gid_cn] at hi
      by_cases e : i = i1
      · rw [if_pos e] at hi
        cases hi
      · exact if_neg e
  have ry1 : Rp N1 true y sy (fun _ => w) := Rp_fr y true hy sy _ ry (fun b hb => Mdf_lk ms1 (by rw [List.mem_singleton]; exact fun e => ay (by rw [← e]; exact hb)))
  have hs2 := setP_ok (i := i2) (v := w) nd1 hm2 (fun b hb => Rp_tag hy ry1 b hb)
  have ms2 := stP_m (S := N1) (a := a) (i := i2) (v := w)
  have hb2 : ∀ x, zI N1 7 a = Int32.ofNat x → x < 1024 → zI (stP N1 a i2 w) 7 a = Int32.ofNat (x ||| 2 ^ i2) := fun x h1 h2 => stP_7 h1 h2 hi2
  have hz2 : zAR (stP N1 a i2 w) (a + 1) = va_up (zAR N1 (a + 1)) i2 w := stP_a
  generalize stP N1 a i2 w = N2 at hs2 ms2 hb2 hz2
  have ms : Mdf N N2 [a] := Mdf_t ms1 ms2 (fun _ h => h) (fun _ h => h)
  have t1 := nd1.1
  obtain ⟨p1, p2, p3, p4, p5, ⟨y1, y2, y3, y4⟩, p7⟩ := nd1
  have nd2 : Ndd N2 a m kk := by
    have eI : ∀ j, j ≠ 7 → zI N2 j a = zI N1 j a := fun j hj => ms2.2.2.2.1 j a (Or.inl hj)
    refine ⟨(Mdf_tg ms2 _).trans p1, ?_, by rw [ms2.2.2.2.2.2.1]; exact p3, (Mdf_tg ms2 _).trans p4, by unfold zLen at p5 ⊢; rw [ms2.2.2.1]; exact p5, ⟨y1 ||| 2 ^ i2, or_lt y1 y2 i2 hi2, hb2 y1 y3 y2, fun i hi => ?_⟩, fun i hi => ?_⟩
    · unfold Cdn at p2 ⊢
      rw [eI 0 (by decide), eI 1 (by decide), eI 2 (by decide), eI 3 (by decide), eI 4 (by decide), ms2.2.2.2.2.1]
      exact p2
    · rw [or_bit, y4 i hi, hkk i, gid_cn]
      by_cases e : i = i1
      · rw [if_pos e, if_pos e]
        rfl
      · rw [if_neg e, if_neg e]
        by_cases e2 : i = i2
        · rw [if_pos e2, decide_eq_true e2.symm]
          rfl
        · rw [if_neg e2, decide_eq_false (Ne.symm e2)]
          rfl
    · rw [hkk i] at hi
      by_cases e : i = i1
      · rw [if_pos e] at hi
        cases hi
      · rw [if_neg e] at hi
        by_cases e2 : i = i2
        · rw [if_pos e2] at hi
          cases hi
        · rw [hz2, hz1, n3]
          show (if i = i2 then w else if i = i1 then v else none) = none
          rw [if_neg e2, if_neg e]
  have v1 : zAR N2 (a + 1) i1 = v := by
    rw [hz2, hz1]
    show (if i1 = i2 then w else if i1 = i1 then v else _) = v
    rw [if_neg hne, if_pos rfl]
  have v2 : zAR N2 (a + 1) i2 = w := by
    rw [hz2]
    exact if_pos rfl
  refine ⟨N1, N2, hs1, hs2, ms, t1, nd2, ?_, ?_, by rw [ms.2.2.2.2.2.1]; exact n2⟩
  · rw [v1]
    exact Rp_fr x true hx sx _ rx (fun b hb => Mdf_lk ms (by rw [List.mem_singleton]; exact fun e => ax (by rw [← e]; exact hb)))
  · rw [v2]
    exact Rp_fr y true hy sy _ ry (fun b hb => Mdf_lk ms (by rw [List.mem_singleton]; exact fun e => ay (by rw [← e]; exact hb)))
end UA
