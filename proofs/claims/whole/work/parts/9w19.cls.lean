section CH5
variable {S S' : hS} {B th pa i1 i2 n a sc u : Nat} {C : Nat → List Frm} {t s K1 K2 sh1 sh2 : Nat → Fo}
theorem nd_set {N : hS} {b m i : Nat} {k x sx : Fo} {v : Option Nat} (n1 : Ndd N b m k) (hm : i < pof (cK m)) (hi : i < 10) (hx : So true x) (rx : Rp N true x sx (fun _ => v)) : ∃ N', yA_setPart N b (Int32.ofNat i) v = some N' ∧ Mdf N N' [b] ∧ (∀ kk, (∀ j, gid j kk = if j = i then some x else gid j k) → Ndd N' b m kk) ∧ zAR N' (b + 1) = va_up (zAR N (b + 1)) i v := by
  have hs1 := setP_ok (i := i) (v := v) n1 hm (fun c hc => Rp_tag hx rx c hc)
  have ms1 := stP_m (S := N) (a := b) (i := i) (v := v)
  have hb1 : ∀ x, zI N 7 b = Int32.ofNat x → x < 1024 → zI (stP N b i v) 7 b = Int32.ofNat (x ||| 2 ^ i) := fun x h1 h2 => stP_7 h1 h2 hi
  have hz1 : zAR (stP N b i v) (b + 1) = va_up (zAR N (b + 1)) i v := stP_a
  generalize stP N b i v = N1 at hs1 ms1 hb1 hz1
  refine ⟨N1, hs1, ms1, fun kk hkk => ?_, hz1⟩
  obtain ⟨m1, m2, m3, m4, m5, ⟨z, z1, z2, z3⟩, m7⟩ := n1
  have eI : ∀ j, j ≠ 7 → zI N1 j b = zI N j b := fun j hj => ms1.2.2.2.1 j b (Or.inl hj)
  refine ⟨(Mdf_tg ms1 _).trans m1, ?_, by rw [ms1.2.2.2.2.2.1]; exact m3, (Mdf_tg ms1 _).trans m4, by unfold zLen at m5 ⊢; rw [ms1.2.2.1]; exact m5, ⟨z ||| 2 ^ i, or_lt z z1 i hi, hb1 z z2 z1, fun j hj => ?_⟩, fun j hj => ?_⟩
  · unfold Cdn at m2 ⊢
    rw [eI 0 (by decide), eI 1 (by decide), eI 2 (by decide), eI 3 (by decide), eI 4 (by decide), ms1.2.2.2.2.1]
    exact m2
  · rw [or_bit, z3 j hj, hkk j]
    by_cases e : j = i
    · rw [if_pos e, decide_eq_true e.symm, Bool.or_true]
      rfl
    · rw [if_neg e, decide_eq_false (Ne.symm e), Bool.or_false]
  · rw [hkk j] at hj
    rw [hz1]
    by_cases e : j = i
    · rw [if_pos e] at hj
      cases hj
    · rw [if_neg e] at hj
      show (if j = i then v else zAR N (b + 1) j) = none
      rw [if_neg e]
      exact m7 j hj
theorem nN_cho {e : Nat} : szL (nA S 6) S.1 (Int64.ofNat e) = nN S (cd 6 0 0 0 0 e) := by
  unfold nN
  rw [cd_K (by decide), cd_V (by decide) (by decide), cd_L (by decide) (by decide) (by decide), cd_O (by decide) (by decide) (by decide) (by decide), cd_D (by decide) (by decide) (by decide) (by decide) (by decide), cd_E (by decide) (by decide) (by decide) (by decide) (by decide)]
  have e1 : szI (nA S 6) 1 S.1 (Int32.ofNat 0) = nA S 6 := sI0 (by rw [nA_I]; rfl)
  have e2 : szI (nA S 6) 2 S.1 (Int32.ofNat 0) = nA S 6 := sI0 (by rw [nA_I]; rfl)
  have e3 : szI (nA S 6) 3 S.1 (Int32.ofNat 0) = nA S 6 := sI0 (by rw [nA_I]; rfl)
  have e4 : szI (nA S 6) 4 S.1 (Int32.ofNat 0) = nA S 6 := sI0 (by rw [nA_I]; rfl)
  rw [e1, e2, e3, e4]
def chX (sc u : Nat) (K1 K2 : Nat → Fo) (p : Nat) (x : Fo) : Fo := if p = cD sc then cn (cd 6 0 0 0 0 (cE sc)) (cn 0 (tel 1 u (K1 p)) (cn 1 (tel 0 u (K2 p)) .nil)) x else chF sc u K1 K2 p x
theorem ch25 (h : StD S a sc) (hs : PWb sc) (hu : u < 64) (hux : ∀ p, p < 6 → p ≠ cD sc → u.testBit p = false → ∃ c, J true (K1 p) (K2 p) = some c) (haB : a < B) (hR : Rws S pa C t s) (hb : Bnd B pa C s) (hB : B ≤ S.1) (hin1 : InR S i1 K1 sh1 0) (hin2 : InR S i2 K2 sh2 0) (hn1 : ∀ p q, p < 6 → q < 6 → i1 + 1 + q ≠ pa + 1 + p) (hn2 : ∀ p q, p < 6 → q < 6 → i2 + 1 + q ≠ pa + 1 + p) (hs1 : ∀ p, p < 6 → ∀ x, x ∈ ad true (sh1 p) → B ≤ x) (hs2 : ∀ p, p < 6 → ∀ x, x ∈ ad true (sh2 p) → B ≤ x) (d1 : Dsi sh1 0) (d2 : Dsi sh2 0) (d12 : Ds2 sh1 sh2) (dj1 : ∀ p q, p < 6 → q < 6 → ∀ x, x ∈ ad true (plS (C p) (s p)) → x ∉ ad true (sh1 q)) (dj2 : ∀ p q, p < 6 → q < 6 → ∀ x, x ∈ ad true (plS (C p) (s p)) → x ∉ ad true (sh2 q)) (w1 : ∀ p, p < 6 → WK true (K1 p) ∧ dq true (K1 p) ≤ 64) (w2 : ∀ p, p < 6 → WK true (K2 p)) (hn : ∀ p, p < 6 → (tx 0 (K1 p)).length + (tx 0 (K2 p)).length + 100 ≤ n) (hq : S.1 + 60 < ie_S) : ∃ S', yC_cutChoice_25 th n S (some a) (some pa) (some i1) (some i2) (Int32.ofNat u) = some S' ∧ StR B B S S' pa C t s (chX sc u K1 K2) ∧ S'.1 ≤ S.1 + 40 := by
  have hp := hs.1
  have hnp := hn _ hp
  obtain ⟨a1, a2, a3, a4, a5⟩ := hin1.2.2 (cD sc) (Nat.zero_le _) hp
  obtain ⟨b1, b2, b3, b4, b5⟩ := hin2.2.2 (cD sc) (Nat.zero_le _) hp
  have hnew := new_A (S := S) (k := 6) (by decide) (by omega)
  have htg := (nA_tg (S := S) (k := 6) (by omega)).1
  have md : Md2 S (nA S 6) [] := nA_md
  have heq := nN_cho (S := S) (e := cE sc)
  obtain ⟨n1, n2, n3⟩ := nN_nd (S := S) (n := cd 6 0 0 0 0 (cE sc)) (by omega)
  have mdN : Md2 S (nN S (cd 6 0 0 0 0 (cE sc))) [] := nN_md
  have eN : (nN S (cd 6 0 0 0 0 (cE sc))).1 = S.1 + 2 := nN_1
  generalize nA S 6 = N2 at hnew htg md heq
  generalize nN S (cd 6 0 0 0 0 (cE sc)) = N at heq n1 n2 n3 mdN eN
  have hk6 : pof (cK (cd 6 0 0 0 0 (cE sc))) = 2 := by rw [cd_K (by decide)]; rfl
  have nil0 : ∀ {T : hS}, Md2 S T [] → ∀ (ia : Nat) (K sh : Nat → Fo), InR S ia K sh 0 → InR T ia K sh 0 := fun {T} hmd ia K sh hh => InR_md hh hmd (fun _ _ _ z => by cases z) (fun _ _ _ _ _ z => by cases z)
  have tt : ∀ {T U V : hS}, Md2 T U [] → Md2 U V [] → Md2 T V [] := fun {T U V} h1 h2 => Md2_t h1 h2 (fun _ z => by cases z) (fun _ z => by cases z) (fun _ z => by cases z)
  have l0 : ∀ y : Nat, y ∈ [S.1] → ¬ y < S.1 := fun y hy => by
    rw [List.mem_singleton] at hy
    omega
  have hN2 := StD_md h md (fun z => by cases z)
  have I2 := nil0 md i1 K1 sh1 hin1
  obtain ⟨w1a, w1b, _⟩ := I2.2.2 (cD sc) (Nat.zero_le _) hp
  have ev1 : zR N2 0 (i1 + 1 + cD sc) = zR S 0 (i1 + 1 + cD sc) := (md.2.2.1 0 _ (ztg_lt a2).1 (fun z => by cases z)).2
  obtain ⟨S8, x1, v1, t1, t2, t3, t4, t5, t6⟩ := wt_ok (S := N) (n := n) (l := 1) (u := u) (by decide) hu a3 (Rp_md a3 a4 mdN (fun _ _ z => by cases z)) a5 (by omega) (by omega)
  have fr0 : ∀ y, y ∈ ad true x1 → y ≠ S.1 := fun y hy e => by
    rcases t5 y hy with z | z
    · have := (ztg_lt (Rp_nd _ true a3 _ _ a4 y z).1).1
      omega
    · omega
  have lk8 := Md2_lk t3 n1.1 n1.2.2.2.1 (fun z => by cases z)
  have nd8 := Nd_fr n1 lk8
  obtain ⟨S9, s1, s2, s3, s4⟩ := nd_set (i := 0) nd8 (by rw [hk6]; decide) (by decide) (tel_so a3) t2
  have md9 : Md2 S S9 [] := Md2_t (tt mdN t3) (Mdf_2 s2 (fun x hx => by rw [List.mem_singleton] at hx; rw [hx]; exact nd8.2.2.2.1)) (fun y hy => by cases hy) (fun y hy hl => (l0 y hy hl).elim) (fun y hy hl => (l0 y hy (by omega)).elim)
  have nd9 : Ndd S9 S.1 (cd 6 0 0 0 0 (cE sc)) (cn 0 (tel 1 u (K1 (cD sc))) .nil) := s3 _ (fun j => by
    rw [gid_cn])
  have h9 := StD_md h md9 (fun z => by cases z)
  have I9 := nil0 md9 i2 K2 sh2 hin2
  obtain ⟨w2a, w2b, _⟩ := I9.2.2 (cD sc) (Nat.zero_le _) hp
  have ev2 : zR S9 0 (i2 + 1 + cD sc) = zR S 0 (i2 + 1 + cD sc) := (md9.2.2.1 0 _ (ztg_lt b2).1 (fun z => by cases z)).2
  have m8 := t3.1
  have e9 : S9.1 = S8.1 := s2.1
  obtain ⟨S14, x2, v2, r1, r2, r3, r4, r5, r6⟩ := wt_ok (S := S9) (n := n) (l := 0) (u := u) (by decide) hu b3 (Rp_md b3 b4 md9 (fun _ _ z => by cases z)) b5 (by omega) (by omega)
  have m14 := r3.1
  have fr2 : ∀ y, y ∈ ad true x2 → y ≠ S.1 := fun y hy e => by
    rcases r5 y hy with z | z
    · have := (ztg_lt (Rp_nd _ true b3 _ _ b4 y z).1).1
      omega
    · omega
  have lk14 := Md2_lk r3 nd9.1 nd9.2.2.2.1 (fun z => by cases z)
  have nd14 := Nd_fr nd9 lk14
  obtain ⟨S15, q1, q2, q3, q4⟩ := nd_set (i := 1) nd14 (by rw [hk6]; decide) (by decide) (tel_so b3) r2
  have e15 : S15.1 = S14.1 := q2.1
  have md15 : Md2 S S15 [] := Md2_t (tt md9 r3) (Mdf_2 q2 (fun x hx => by rw [List.mem_singleton] at hx; rw [hx]; exact nd14.2.2.2.1)) (fun y hy => by cases hy) (fun y hy hl => (l0 y hy hl).elim) (fun y hy hl => (l0 y hy (by omega)).elim)
  have nd15 : Ndd S15 S.1 (cd 6 0 0 0 0 (cE sc)) (cn 0 (tel 1 u (K1 (cD sc))) (cn 1 (tel 0 u (K2 (cD sc))) .nil)) := q3 _ (fun j => by
    rw [gid_cn, gid_cn, gid_cn]
    by_cases e : j = 1
    · rw [if_neg (by omega), if_pos e, if_pos e]
    · rw [if_neg e, if_neg e])
  have rp1 : Rp S15 true (tel 1 u (K1 (cD sc))) x1 (fun _ => zAR S15 (S.1 + 1) 0) := by
    have e0 : zAR S15 (S.1 + 1) 0 = v1 := by
      rw [q4]
      show (if 0 = 1 then v2 else zAR S14 (S.1 + 1) 0) = v1
      rw [if_neg (by decide), lk14.2.2.2.2.2.2.2, s4]
      exact if_pos rfl
    rw [e0]
    have p9 : Rp S9 true (tel 1 u (K1 (cD sc))) x1 (fun _ => v1) := Rp_fr _ true (tel_so a3) x1 _ t2 (fun y hy => Mdf_lk s2 (by rw [List.mem_singleton]; exact fr0 y hy))
    have p14 : Rp S14 true (tel 1 u (K1 (cD sc))) x1 (fun _ => v1) := Rp_md (tel_so a3) p9 r3 (fun _ _ z => by cases z)
    exact Rp_fr _ true (tel_so a3) x1 _ p14 (fun y hy => Mdf_lk q2 (by rw [List.mem_singleton]; exact fr0 y hy))
  have rp2 : Rp S15 true (tel 0 u (K2 (cD sc))) x2 (fun _ => zAR S15 (S.1 + 1) 1) := by
    have e0 : zAR S15 (S.1 + 1) 1 = v2 := by
      rw [q4]
      exact if_pos rfl
    rw [e0]
    exact Rp_fr _ true (tel_so b3) x2 _ r2 (fun y hy => Mdf_lk q2 (by rw [List.mem_singleton]; exact fr2 y hy))
  have z8 : zR S15 8 S.1 = none := by
    rw [q2.2.2.2.2.2.1, lk14.2.2.1, s2.2.2.2.2.2.1, lk8.2.2.1]
    exact n2
  have rp : Rp S15 true (cn (cd 6 0 0 0 0 (cE sc)) (cn 0 (tel 1 u (K1 (cD sc))) (cn 1 (tel 0 u (K2 (cD sc))) .nil)) .nil) (cn S.1 (cn 0 x1 (cn 1 x2 .nil)) .nil) (fun _ => some S.1) := Rp_rm rfl nd15 (Rp_km rp1 (Rp_km rp2 trivial)) z8
  have ead : ad true (cn S.1 (cn 0 x1 (cn 1 x2 .nil)) .nil) = S.1 :: ((ad true x1 ++ (ad true x2 ++ [])) ++ []) := rfl
  have R15 := Rws_fr hR md15
  have dx12 : ∀ y, y ∈ ad true x1 → y ∉ ad true x2 := fun y h1 h2 => by
    rcases t5 y h1 with z1 | z1
    · rcases r5 y h2 with z2 | z2
      · exact d12 _ _ hp hp y z1 z2
      · have := (ztg_lt (Rp_nd _ true a3 _ _ a4 y z1).1).1
        omega
    · rcases r5 y h2 with z2 | z2
      · have := (ztg_lt (Rp_nd _ true b3 _ _ b4 y z2).1).1
        omega
      · have := (ztg_lt (Rp_nd _ true (tel_so a3) _ _ t2 y h1).1).1
        omega
  have lenq : ∀ l, l < 10 → ∀ y, So true y → WK true y → nq true (tel l u y) ≤ (tx 0 y).length + 30 := fun l hl y sy wy => by
    have e1 := (nq_tx _ true (tel_so (l := l) (u := u) sy) (tel_wk hl wy)).1 rfl
    have e2 := tol_len (s := cd 0 0 0 0 0 0) (lab := l) (u := u) (p := 0) (x := y) (by rw [cd_D (by decide) (by decide) (by decide) (by decide) (by decide)]; decide) hl (by decide)
    unfold tol at e2
    rw [if_pos (by rw [cd_D (by decide) (by decide) (by decide) (by decide) (by decide)])] at e2
    omega
  have lq1 := lenq 1 (by decide) _ a3 (w1 _ hp).1
  have lq2 := lenq 0 (by decide) _ b3 (w2 _ hp)
  have e2 : nq true (cn (cd 6 0 0 0 0 (cE sc)) (cn 0 (tel 1 u (K1 (cD sc))) (cn 1 (tel 0 u (K2 (cD sc))) .nil)) .nil) = 1 + (nq true (tel 1 u (K1 (cD sc))) + (nq true (tel 0 u (K2 (cD sc))) + 0)) + 0 := rfl
  obtain ⟨S1, c1, c2, c3, c4⟩ := rws_app (n := n) (p := cD sc) (y := cn (cd 6 0 0 0 0 (cE sc)) (cn 0 (tel 1 u (K1 (cD sc))) (cn 1 (tel 0 u (K2 (cD sc))) .nil)) .nil) (sy := cn S.1 (cn 0 x1 (cn 1 x2 .nil)) .nil) (G := fun _ => some S.1) R15 hp ⟨⟨tel_so a3, ⟨tel_so b3, So_nil, fun _ => trivial⟩, fun _ => ⟨Nat.le_refl _, trivial⟩⟩, So_nil, fun z => Bool.noConfusion z⟩ rp ⟨⟨t4, ⟨r4, trivial, fun _ _ z => (by cases z)⟩, fun x hx z => (by
        have z' : x ∈ ad true x2 ++ [] := z
        rw [List.append_nil] at z'
        exact dx12 x hx z')⟩, trivial, fun x hx => ⟨fun e => (by
        have hx' : x ∈ ad true x1 ++ (ad true x2 ++ []) := hx
        rw [List.append_nil, List.mem_append] at hx'
        exact hx'.elim (fun z => fr0 x z e) (fun z => fr2 x z e)), fun z => (by cases z)⟩, fun z => (by cases z)⟩ (fun q hq2 x hx hy => by
      rw [ead, List.append_nil, List.append_nil, List.mem_cons, List.mem_append] at hy
      have := Rws_lt hR hq2 hx
      rcases hy with hy | hy | hy
      · omega
      · rcases t5 x hy with z | z
        · exact dj1 q _ hq2 hp x hx z
        · omega
      · rcases r5 x hy with z | z
        · exact dj2 q _ hq2 hp x hx z
        · omega) (by omega)
  have hrow : Md2 S S1 ((pa + 1 + cD sc) :: ad true (plS (C (cD sc)) (s (cD sc)))) := Md2_t md15 c3 (fun x z => by cases z) (fun x z _ => z) (fun x z _ => z)
  have mdb : MdB B B S S1 := MdB_row hb hp hrow
  have bnd1 : Bnd B pa C (uf s (cD sc) (ap (s (cD sc)) (cn S.1 (cn 0 x1 (cn 1 x2 .nil)) .nil))) := Bnd_app (y := .nil) hb hp (fun x hx => by
    rw [ead, List.append_nil, List.append_nil, List.mem_cons, List.mem_append] at hx
    rcases hx with hx | hx | hx
    · omega
    · rcases t5 x hx with z | z
      · exact hs1 _ hp x z
      · omega
    · rcases r5 x hx with z | z
      · exact hs2 _ hp x z
      · omega)
  have djn : ∀ (sh K : Nat → Fo) (ia : Nat), InR S ia K sh 0 → (∀ p q, p < 6 → q < 6 → ∀ x, x ∈ ad true (plS (C p) (s p)) → x ∉ ad true (sh q)) → (∀ q, q < 6 → q ≠ cD sc → ∀ x, x ∈ ad true (sh1 (cD sc)) ∨ x ∈ ad true (sh2 (cD sc)) → x ∉ ad true (sh q)) → Dsj C (uf s (cD sc) (ap (s (cD sc)) (cn S.1 (cn 0 x1 (cn 1 x2 .nil)) .nil))) sh 0 (cD sc) := by
    intro sh K ia hin dj hx1 p q hp2 hl hq2 hnz x hx hy
    have hlt := (ztg_lt (Rp_nd _ true (hin.2.2 q (by omega) hq2).2.2.1 _ _ (hin.2.2 q (by omega) hq2).2.2.2.1 x hy).1).1
    by_cases e3 : p = cD sc
    · subst e3
      rw [uf_s] at hx
      rcases (ad_pl (C (cD sc)) _).mp hx with hx | hx
      · exact dj _ q hp hq2 x ((ad_pl (C (cD sc)) (s (cD sc))).mpr (Or.inl hx)) hy
      · rw [ad_ap, List.mem_append, ead, List.append_nil, List.append_nil, List.mem_cons, List.mem_append] at hx
        rcases hx with hx | hx | hx | hx
        · exact dj _ q hp hq2 x ((ad_pl (C (cD sc)) (s (cD sc))).mpr (Or.inr hx)) hy
        · omega
        · rcases t5 x hx with z | z
          · exact hx1 q hq2 (fun z => hnz ⟨rfl, z⟩) x (Or.inl z) hy
          · omega
        · rcases r5 x hx with z | z
          · exact hx1 q hq2 (fun z => hnz ⟨rfl, z⟩) x (Or.inr z) hy
          · omega
    · rw [uf_n e3] at hx
      exact dj p q hp2 hq2 x hx hy
  obtain ⟨m, hm⟩ : ∃ m, n = m + 1 + 6 := ⟨n - 7, by omega⟩
  obtain ⟨S', t', s', k1, k2, k3, k4, k5, k6⟩ := c102 (th := th) (a := a) hu hp hux haB hn1 hn2 hs1 hs2 d1 d2 d12 w1 w2 6 0 m S1 _ _ rfl (StD_b h mdb haB (Nat.ne_of_lt haB)) c2 bnd1 (InR_row (z := 0) hin1 hR hp hrow (fun q hq2 => hn1 _ q hp hq2) (fun q hl hq2 => dj1 _ q hp hq2)) (InR_row (z := 0) hin2 hR hp hrow (fun q hq2 => hn2 _ q hp hq2) (fun q hl hq2 => dj2 _ q hp hq2)) (djn sh1 K1 i1 hin1 dj1 (fun q hq2 hne x hx => hx.elim (fun z => d1 _ q (by omega) (by omega) hp hq2 (Ne.symm hne) x z) (fun z w => d12 q _ hq2 hp x w z))) (djn sh2 K2 i2 hin2 dj2 (fun q hq2 hne x hx => hx.elim (fun z => d12 _ q hp hq2 x z) (fun z => d2 _ q (by omega) (by omega) hp hq2 (Ne.symm hne) x z))) (by omega) (fun p hp2 => by have := hn p hp2; omega) (by omega)
  rw [← hm] at k1
  refine ⟨S', ?_, ⟨C, t', s', k2, fun p hp2 x => ?_, k4, MdB_t mdb k5⟩, by omega⟩
  · have h15 := StD_md h md15 (fun z => by cases z)
    unfold yC_cutChoice_25
    rw [znw_s (show S.1 < ie_S by omega)]
    refine (zcV_s hnew).trans ((zob_s rfl).trans ?_)
    rw [if_pos hN2.1, if_pos htg]
    refine (zob_s rfl).trans ?_
    rw [if_pos (zar_26 I2.1), hN2.2.2.1, I2.2.1, if_pos (j_in (by omega) hp), (j_n (n := cD sc) (by omega)).2, w1a]
    refine zlb_s.trans ((zob_s rfl).trans ?_)
    rw [if_pos w1b, ev1, hN2.2.2.2.2.2.2, heq]
    refine zlb_s.trans ((zcP_s t1).trans ?_)
    rw [if_pos nd8.1]
    refine (zcV_s (show yA_setPart S8 S.1 0 v1 = some S9 from s1)).trans ?_
    rw [if_pos h9.1]
    refine (zob_s rfl).trans ?_
    rw [if_pos (zar_26 I9.1), h9.2.2.1, I9.2.1, if_pos (j_in (by omega) hp), (j_n (n := cD sc) (by omega)).2, w2a]
    refine zlb_s.trans ((zob_s rfl).trans ?_)
    rw [if_pos w2b, ev2]
    refine zlb_s.trans ((zcP_s r1).trans ?_)
    rw [if_pos nd14.1]
    refine (zcV_s (show yA_setPart S14 S.1 1 v2 = some S15 from q1)).trans ?_
    rw [if_pos h15.1]
    refine (zob_s rfl).trans ?_
    rw [if_pos (zar_26 R15.1), h15.2.2.1, R15.2.1, if_pos (j_in (by omega) hp), (j_n (n := cD sc) (by omega)).2, R15.2.2.1 _ hp]
    refine zlb_s.trans ((zob_s rfl).trans ?_)
    rw [if_pos (R15.2.2.2.1 _ hp).1]
    exact (zcV_s c1).trans k1
  · rw [k3 p hp2 x]
    unfold chX
    by_cases e3 : p = cD sc
    · subst e3
      rw [if_neg (fun z => z.2 rfl), uf_s, if_pos rfl, ap_as]
      rfl
    · rw [uf_n e3, if_neg e3, if_pos ⟨Nat.zero_le _, e3⟩]
end CH5
