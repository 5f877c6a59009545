def InR (S : hS) (ia : Nat) (K sh : Nat → Fo) (lo : Nat) : Prop := ztg S ia = 26 ∧ zLen S ia = 6 ∧ (∀ p, lo ≤ p → p < 6 → zAR S ia p = some (ia + 1 + p) ∧ ztg S (ia + 1 + p) = 8 ∧ So true (K p) ∧ Rp S true (K p) (sh p) (fun _ => zR S 0 (ia + 1 + p)) ∧ Spt true (sh p))
section IN
variable {S S' : hS} {B th pa ia n a sc lo : Nat} {C : Nat → List Frm} {t s K sh : Nat → Fo} {L : List Nat}
theorem InR_md (h : InR S ia K sh lo) (md : Md2 S S' L) (h1 : ∀ p, lo ≤ p → p < 6 → ia + 1 + p ∉ L) (h2 : ∀ p, lo ≤ p → p < 6 → ∀ x, x ∈ ad true (sh p) → x ∉ L) : InR S' ia K sh lo := by
  obtain ⟨a1, a2, a3⟩ := h
  have pl := (ztg_lt a1).1
  refine ⟨Md2_tg md a1, by rw [(md.2.1 ia pl).2.1]; exact a2, fun p hl hp => ?_⟩
  obtain ⟨b1, b2, b3, b4, b5⟩ := a3 p hl hp
  refine ⟨by rw [md.2.2.2.2.1 ia pl (Or.inl (by rw [(ztg_lt a1).2.2]; decide))]; exact b1, Md2_tg md b2, b3, ?_, b5⟩
  rw [(md.2.2.1 0 (ia + 1 + p) (ztg_lt b2).1 (h1 p hl hp)).2]
  exact Rp_md b3 b4 md (h2 p hl hp)
theorem InR_up {lo2 : Nat} (h : InR S ia K sh lo) (hl : lo ≤ lo2) : InR S ia K sh lo2 := ⟨h.1, h.2.1, fun p h1 h2 => h.2.2 p (by omega) h2⟩
theorem nwk {m : Nat} {k kh : Fo} {v : Option Nat} (hm : 0 < pof (cK m)) (hk : So true k) (h : Rp S true k kh (fun _ => v)) (hq : S.1 + 2 < ie_S) : ∃ N, yA_setPart (nN S m) S.1 0 v = some N ∧ Md2 S N [] ∧ N.1 = S.1 + 2 ∧ Rp N true (cn m (cn 0 k .nil) .nil) (cn S.1 (cn 0 kh .nil) .nil) (fun _ => some S.1) := by
  obtain ⟨n1, n2, n3⟩ := nN_nd (S := S) (n := m) hq
  have mdN : Md2 S (nN S m) [] := nN_md
  have eN : (nN S m).1 = S.1 + 2 := nN_1
  generalize nN S m = N at n1 n2 n3 mdN eN
  have rN : Rp N true k kh (fun _ => v) := Rp_md hk h mdN (fun _ _ z => by cases z)
  have hset := setP_ok (i := 0) (v := v) n1 hm (fun b hb => Rp_tag hk rN b hb)
  have ms := stP_m (S := N) (a := S.1) (i := 0) (v := v)
  have mst := Mdf_tg ms
  have hbits : ∀ x, zI N 7 S.1 = Int32.ofNat x → x < 1024 → zI (stP N S.1 0 v) 7 S.1 = Int32.ofNat (x ||| 2 ^ 0) := fun x h1 h2 => stP_7 h1 h2 (by decide)
  have hzar : zAR (stP N S.1 0 v) (S.1 + 1) = va_up (zAR N (S.1 + 1)) 0 v := stP_a
  generalize stP N S.1 0 v = S3 at hset ms mst hbits hzar
  have l0 : ∀ x : Nat, x ∈ [S.1] → ¬ x < S.1 := fun x hx => by
    rw [List.mem_singleton] at hx
    omega
  have md3 : Md2 S S3 [] := Md2_t mdN (Mdf_2 ms (fun x hx => by rw [List.mem_singleton] at hx; rw [hx]; exact n1.2.2.2.1)) (fun x hx => by cases hx) (fun x hx hl => (l0 x hx hl).elim) (fun x hx hl => (l0 x hx (by omega)).elim)
  have nd3 : Ndd S3 S.1 m (cn 0 k .nil) := by
    obtain ⟨m1, m2, m3, m4, m5, ⟨x, x1, x2, x3⟩, m7⟩ := n1
    have eI : ∀ j, j ≠ 7 → zI S3 j S.1 = zI N j S.1 := fun j hj => ms.2.2.2.1 j S.1 (Or.inl hj)
    refine ⟨(mst _).trans m1, ?_, by rw [ms.2.2.2.2.2.1]; exact m3, (mst _).trans m4, by unfold zLen at m5 ⊢; rw [ms.2.2.1]; exact m5, ⟨x ||| 2 ^ 0, or_lt x x1 0 (by decide), hbits x x2 x1, fun i hi => ?_⟩, fun i hi => ?_⟩
    · unfold Cdn at m2 ⊢
      rw [eI 0 (by decide), eI 1 (by decide), eI 2 (by decide), eI 3 (by decide), eI 4 (by decide), ms.2.2.2.2.1]
      exact m2
    · rw [or_bit, x3 i hi, gid_cn]
      by_cases e : i = 0
      · rw [if_pos e, decide_eq_true e.symm]
        rfl
      · rw [if_neg e, decide_eq_false (Ne.symm e)]
        rfl
    · rw [hzar, n3]
      rw [gid_cn] at hi
      by_cases e : i = 0
      · rw [if_pos e] at hi
        cases hi
      · exact if_neg e
  refine ⟨S3, hset, md3, ms.1.trans eN, Rp_rm rfl nd3 (Rp_km ?_ trivial) ?_⟩
  · have : zAR S3 (S.1 + 1) 0 = v := by rw [hzar]; exact if_pos rfl
    show Rp S3 true k kh (fun _ => zAR S3 (S.1 + 1) 0)
    rw [this]
    exact Rp_md hk h md3 (fun _ _ z => by cases z)
  · show zR S3 8 S.1 = none
    rw [ms.2.2.2.2.2.1]
    exact n2
theorem nN_fol {o : Nat} (ho : o < 8) : szI (nA S 8) 3 S.1 (Int32.ofNat o) = nN S (cd 8 0 0 o 0 0) := by
  unfold nN
  rw [cd_K (by decide), cd_V (by decide) (by decide), cd_L (by decide) (by decide) (by decide), cd_O (by decide) (by decide) (by decide) ho, cd_D (by decide) (by decide) (by decide) ho (by decide), cd_E (by decide) (by decide) (by decide) ho (by decide)]
  have e1 : szI (nA S 8) 1 S.1 (Int32.ofNat 0) = nA S 8 := sI0 (by rw [nA_I]; rfl)
  have e2 : szI (nA S 8) 2 S.1 (Int32.ofNat 0) = nA S 8 := sI0 (by rw [nA_I]; rfl)
  have e4 : szI (szI (nA S 8) 3 S.1 (Int32.ofNat o)) 4 S.1 (Int32.ofNat 0) = szI (nA S 8) 3 S.1 (Int32.ofNat o) := sI0 (by rw [zI_k (by decide), nA_I]; rfl)
  have e5 : szL (szI (nA S 8) 3 S.1 (Int32.ofNat o)) S.1 (Int64.ofNat 0) = szI (nA S 8) 3 S.1 (Int32.ofNat o) := szL_id nA_L
  rw [e1, e2, e4, e5]
theorem nN_rnd {d e : Nat} (hd : d < 64) : szI (szL (nA S 7) S.1 (Int64.ofNat e)) 4 S.1 (Int32.ofNat d) = nN S (cd 7 0 0 0 d e) := by
  unfold nN
  rw [cd_K (by decide), cd_V (by decide) (by decide), cd_L (by decide) (by decide) (by decide), cd_O (by decide) (by decide) (by decide) (by decide), cd_D (by decide) (by decide) (by decide) (by decide) hd, cd_E (by decide) (by decide) (by decide) (by decide) hd]
  have e1 : szI (nA S 7) 1 S.1 (Int32.ofNat 0) = nA S 7 := sI0 (by rw [nA_I]; rfl)
  have e2 : szI (nA S 7) 2 S.1 (Int32.ofNat 0) = nA S 7 := sI0 (by rw [nA_I]; rfl)
  have e3 : szI (nA S 7) 3 S.1 (Int32.ofNat 0) = nA S 7 := sI0 (by rw [nA_I]; rfl)
  rw [e1, e2, e3]
  rfl
theorem con_o : ∀ u, u < 64 → ∀ q, q < 6 → (y_contains (Int32.ofNat u) (Int32.ofNat q) = 0 ↔ u.testBit q = false) := by decide +kernel
def rdF (sc d : Nat) (K : Nat → Fo) (i : Nat) (p : Nat) (x : Fo) : Fo := if p < i ∧ p ≠ cD sc ∧ d.testBit p = true then cn (cd 8 0 0 (cD sc) 0 0) (cn 0 (K p) .nil) x else x
def Dsj (C : Nat → List Frm) (s sh : Nat → Fo) (lo z : Nat) : Prop := ∀ p q, p < 6 → lo ≤ q → q < 6 → ¬ (p = z ∧ q = z) → ∀ x, x ∈ ad true (plS (C p) (s p)) → x ∉ ad true (sh q)
def Dsi (sh : Nat → Fo) (lo : Nat) : Prop := ∀ p q, lo ≤ p → lo ≤ q → p < 6 → q < 6 → p ≠ q → ∀ x, x ∈ ad true (sh p) → x ∉ ad true (sh q)
theorem c62 {ra d : Nat} (hd : d < 64) (hp6 : cD sc < 6) (hdd : d.testBit (cD sc) = false) (haB : a < B) (hiaB : B ≤ ia) (hne : ∀ p q, p < 6 → q < 6 → ia + 1 + q ≠ pa + 1 + p) (hsB : ∀ p, p < 6 → ∀ x, x ∈ ad true (sh p) → B ≤ x) (di : Dsi sh 0) (hat : a ≠ th) : ∀ (e i m : Nat) (S : hS) (t s : Nat → Fo), i + e = 6 → StD S a sc → ra ∈ ad true (plS (C (cD sc)) (s (cD sc))) → zI S 4 ra = Int32.ofNat d → Rws S pa C t s → Bnd B pa C s → InR S ia K sh i → Dsj C s sh i (cD sc) → B ≤ S.1 → (∀ p, p < 6 → nq true (K p) + 3 ≤ m) → S.1 + 2 * e + 2 < ie_S → ∃ S' t' s', yC_cutRound_62 (m + 1 + e) S (some a) (some pa) (some ia) (some ra) (Int32.ofNat i) = some S' ∧ Rws S' pa C t' s' ∧ (∀ p, p < 6 → ∀ x, ap (t' p) x = ap (t p) (if i ≤ p ∧ d.testBit p = true then cn (cd 8 0 0 (cD sc) 0 0) (cn 0 (K p) .nil) x else x)) ∧ Bnd B pa C s' ∧ MdB B th S S' ∧ S'.1 ≤ S.1 + 2 * e
  | 0, i, m, S, t, s, hi, _, _, _, hR, hb, _, _, _, _, _ => by
    have : i = 6 := by omega
    subst this
    refine ⟨S, t, s, ?_, hR, fun p hp x => ?_, hb, MdB_r, by omega⟩
    · rw [Nat.add_zero, yC_cutRound_62, if_pos (by decide)]
    · rw [if_neg (by omega)]
  | e + 1, i, m, S, t, s, hi, hst, hra, hr4, hR, hb, hin, dj, hB, hm, hq => by
    have rat := (RowO_nd (hR.2.2.2.1 _ hp6) ra hra).1
    have st0 : yC_cutRound_62 (m + 1 + (e + 1)) S (some a) (some pa) (some ia) (some ra) (Int32.ofNat i) = (if y_contains (zI S 4 ra) (Int32.ofNat i) = 0 then (yC_cutRound_62 (m + 1 + e) S (some a) (some pa) (some ia) (some ra) (Int32.ofNat i + 1)) else (znw S 1 fun S2 a2 => (zcV (yA_new S2 a2 8) fun S3 => (zob (some a) fun a4 => (if ztg S3 a4 = 10 then (if ztg S3 a2 = 2 then (zob (some ia) fun a5 => (if zar S3 a5 then (if ib (Int32.ofNat i) (zLen S3 a5) then (zlb ((zAR S3 a5) (Int32.toNatClampNeg (Int32.ofNat i))) fun o6 => (zob o6 fun a7 => (if ztg S3 a7 = 8 then (zlb (zR S3 0 a7) fun o8 => (zcV (yA_setPart (szI S3 3 a2 (zI S3 2 a4)) a2 0 o8) fun S9 => (zob (some pa) fun a10 => (if zar S9 a10 then (if ib (Int32.ofNat i) (zLen S9 a10) then (zlb ((zAR S9 a10) (Int32.toNatClampNeg (Int32.ofNat i))) fun o11 => (zob o11 fun a12 => (if ztg S9 a12 = 8 then (zcV (yW_append (m + 1 + e) S9 a12 (some a2)) fun S13 => (yC_cutRound_62 (m + 1 + e) S13 (some a4) (some a10) (some a5) (some ra) (Int32.ofNat i + 1))) else none))) else none) else none)))) else none))) else none) else none)) else none) else none))))) := by
      rw [← Nat.add_assoc, yC_cutRound_62, if_neg (show ¬ (6 : Int32) ≤ Int32.ofNat i from mt (j_le (m := 6) (by decide) (by omega)).mp (by omega))]
      refine (zob_s rfl).trans ?_
      rw [if_pos rat]
    rw [st0, hr4, o1]
    by_cases hbit : d.testBit i = true
    · have hid : i ≠ cD sc := fun z => by
        rw [z, hdd] at hbit
        cases hbit
      rw [if_neg (mt (con_o d hd i (by omega)).mp (by rw [hbit]; decide))]
      obtain ⟨q1, q2, q3, q4, q5⟩ := hin.2.2 i (Nat.le_refl _) (by omega)
      have hnew := new_A (S := S) (k := 8) (by decide) (by omega)
      have htg := (nA_tg (S := S) (k := 8) (by omega)).1
      have md : Md2 S (nA S 8) [] := nA_md
      have heq := nN_fol (S := S) (o := cD sc) (by omega)
      generalize nA S 8 = N2 at hnew htg md heq
      have hN2 := StD_md hst md (fun z => by cases z)
      have hI2 := InR_md hin md (fun _ _ _ z => by cases z) (fun _ _ _ _ _ z => by cases z)
      obtain ⟨w1, w2, w3, w4, w5⟩ := hI2.2.2 i (Nat.le_refl _) (by omega)
      have ev : zR N2 0 (ia + 1 + i) = zR S 0 (ia + 1 + i) := (md.2.2.1 0 _ (ztg_lt q2).1 (fun z => by cases z)).2
      have hm8 : cK (cd 8 0 0 (cD sc) 0 0) = 8 := cd_K (by decide)
      obtain ⟨N, n1, n2, n3, n4⟩ := nwk (S := S) (m := cd 8 0 0 (cD sc) 0 0) (by rw [hm8]; decide) q3 q4 (by omega)
      have RN := Rws_fr hR n2
      have e2 : nq true (cn (cd 8 0 0 (cD sc) 0 0) (cn 0 (K i) .nil) .nil) = 1 + (nq true (K i) + 0) + 0 := rfl
      have hmi := hm i (by omega)
      have ead : ad true (cn S.1 (cn 0 (sh i) .nil) .nil) = S.1 :: ((ad true (sh i) ++ []) ++ []) := rfl
      obtain ⟨S1, c1, c2, c3, c4⟩ := rws_app (n := m + 1 + e) (p := i) (y := cn (cd 8 0 0 (cD sc) 0 0) (cn 0 (K i) .nil) .nil) (sy := cn S.1 (cn 0 (sh i) .nil) .nil) (G := fun _ => some S.1) RN (by omega) ⟨⟨q3, So_nil, fun _ => trivial⟩, So_nil, fun z => Bool.noConfusion z⟩ n4 ⟨⟨q5, trivial, fun _ _ z => (by cases z)⟩, trivial, fun x hx => ⟨fun e => (by
          have hx' : x ∈ ad true (sh i) ++ [] := hx
          rw [List.append_nil] at hx'
          have := (ztg_lt (Rp_nd _ true q3 _ _ q4 x hx').1).1
          omega), fun z => (by cases z)⟩, fun z => (by cases z)⟩ (fun q hq2 x hx hy => by
        rw [ead, List.append_nil, List.append_nil, List.mem_cons] at hy
        rcases hy with hy | hy
        · have := Rws_lt hR hq2 hx
          omega
        · exact dj q i hq2 (Nat.le_refl _) (by omega) (fun z => hid z.2) x hx hy) (by omega)
      have hrow : Md2 S S1 ((pa + 1 + i) :: ad true (plS (C i) (s i))) := Md2_t n2 c3 (fun x z => by cases z) (fun x z _ => z) (fun x z _ => z)
      have mdb : MdB B th S S1 := MdB_row hb (by omega) hrow
      have bnd1 : Bnd B pa C (uf s i (ap (s i) (cn S.1 (cn 0 (sh i) .nil) .nil))) := Bnd_app (y := .nil) hb (by omega) (fun x hx => by
        rw [ead, List.append_nil, List.append_nil, List.mem_cons] at hx
        rcases hx with hx | hx
        · omega
        · exact hsB i (by omega) x hx)
      have inr1 : InR S1 ia K sh (i + 1) := InR_md (InR_up hin (Nat.le_succ i)) hrow (fun p hl hp z => by
        rw [List.mem_cons] at z
        rcases z with z | z
        · exact hne i p (by omega) hp z
        · have g1 := (RowO_nd (hR.2.2.2.1 i (by omega)) _ z).1
          rw [(hin.2.2 p (by omega) hp).2.1] at g1
          cases g1) (fun p hl hp x hx z => by
        rw [List.mem_cons] at z
        rcases z with z | z
        · have g1 := (Rp_nd _ true (hin.2.2 p (by omega) hp).2.2.1 _ _ (hin.2.2 p (by omega) hp).2.2.2.1 x hx).1
          rw [z, (hR.2.2.2.1 i (by omega)).1] at g1
          cases g1
        · exact dj i p (by omega) (by omega) hp (fun z => hid z.1) x z hx)
      have raN : ra ∉ (pa + 1 + i) :: ad true (plS (C i) (s i)) := fun z => by
        rw [List.mem_cons] at z
        rcases z with z | z
        · exact (Rws_w hR hp6 i (by omega) hra).1 z
        · exact hR.2.2.2.2 i (cD sc) (by omega) hp6 hid ra z hra
      have dj1 : Dsj C (uf s i (ap (s i) (cn S.1 (cn 0 (sh i) .nil) .nil))) sh (i + 1) (cD sc) := fun p q hp hl hq2 hnz x hx hy => by
        by_cases e3 : p = i
        · subst e3
          rw [uf_s] at hx
          rcases (ad_pl (C p) _).mp hx with hx | hx
          · exact dj p q hp (by omega) hq2 hnz x ((ad_pl (C p) (s p)).mpr (Or.inl hx)) hy
          · rw [ad_ap, List.mem_append, ead, List.append_nil, List.append_nil, List.mem_cons] at hx
            rcases hx with hx | hx | hx
            · exact dj p q hp (by omega) hq2 hnz x ((ad_pl (C p) (s p)).mpr (Or.inr hx)) hy
            · have := (ztg_lt (Rp_nd _ true (hin.2.2 q (by omega) hq2).2.2.1 _ _ (hin.2.2 q (by omega) hq2).2.2.2.1 x hy).1).1
              omega
            · exact di p q (by omega) (by omega) hp hq2 (by omega) x hx hy
        · rw [uf_n e3] at hx
          exact dj p q hp (by omega) hq2 hnz x hx hy
      obtain ⟨S', t', s', k1, k2, k3, k4, k5, k6⟩ := c62 hd hp6 hdd haB hiaB hne hsB di hat e (i + 1) m S1 _ _ (by omega) (StD_b hst mdb haB hat) (by rw [uf_n (Ne.symm hid)]; exact hra) (by rw [(hrow.2.2.1 4 ra (ztg_lt rat).1 raN).1]; exact hr4) c2 bnd1 inr1 dj1 (by omega) hm (by omega)
      refine ⟨S', t', s', ?_, k2, fun p hp x => ?_, k4, MdB_t mdb k5, by omega⟩
      · rw [znw_s (show S.1 < ie_S by omega)]
        refine (zcV_s hnew).trans ((zob_s rfl).trans ?_)
        rw [if_pos hN2.1, if_pos htg]
        refine (zob_s rfl).trans ?_
        rw [if_pos (zar_26 hI2.1), hI2.2.1, if_pos (j_in (by omega) (by omega)), (j_n (n := i) (by omega)).2, w1]
        refine zlb_s.trans ((zob_s rfl).trans ?_)
        rw [if_pos w2, hN2.2.2.1, heq, ev]
        refine zlb_s.trans ((zcV_s n1).trans ((zob_s rfl).trans ?_))
        rw [if_pos (zar_26 RN.1), RN.2.1, if_pos (j_in (by omega) (by omega)), RN.2.2.1 i (by omega)]
        refine zlb_s.trans ((zob_s rfl).trans ?_)
        rw [if_pos (RN.2.2.2.1 i (by omega)).1]
        exact (zcV_s c1).trans k1
      · rw [k3 p hp x]
        by_cases e3 : p = i
        · subst e3
          rw [if_neg (by omega), if_pos ⟨Nat.le_refl _, hbit⟩, uf_s, ap_as]
          rfl
        · rw [uf_n e3]
          congr 1
          by_cases e4 : i + 1 ≤ p ∧ d.testBit p = true
          · rw [if_pos e4, if_pos ⟨by omega, e4.2⟩]
          · rw [if_neg e4, if_neg (fun z => e4 ⟨by omega, z.2⟩)]
    · rw [if_pos ((con_o d hd i (by omega)).mpr (by cases h : d.testBit i with | false => rfl | true => exact (hbit h).elim))]
      obtain ⟨S', t', s', k1, k2, k3, k4, k5, k6⟩ := c62 hd hp6 hdd haB hiaB hne hsB di hat e (i + 1) m S t s (by omega) hst hra hr4 hR hb (InR_up hin (Nat.le_succ i)) (fun p q hp hl hq2 => dj p q hp (by omega) hq2) hB hm (by omega)
      refine ⟨S', t', s', k1, k2, fun p hp x => ?_, k4, k5, by omega⟩
      rw [k3 p hp x]
      congr 1
      by_cases e4 : i + 1 ≤ p ∧ d.testBit p = true
      · rw [if_pos e4, if_pos ⟨by omega, e4.2⟩]
      · rw [if_neg e4, if_neg (fun z => e4 ⟨by
          by_cases e5 : p = i
          · rw [e5] at z
            exact (hbit z.2).elim
          · omega, z.2⟩)]
end IN
