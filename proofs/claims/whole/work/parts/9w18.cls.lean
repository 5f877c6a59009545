theorem hdt_pos {n : Nat} (h : Hv n) : 1 ≤ (hdt n).length := by
  by_cases h5 : cK n = 5
  · rw [hdt_5 h5]
    exact Nat.le_refl _
  · obtain ⟨_, _, c, l, e⟩ := Hq_nc (hdx_q h h5) 0
    unfold hdx at e
    split at e
    · rw [e, List.length_cons]
      omega
    · next q =>
      unfold hdt
      rcases h with h | h | h | h | h | h | h | h
      · omega
      · omega
      · omega
      · omega
      · omega
      · rw [if_neg (by omega), if_neg (by omega), if_neg (by omega), if_neg (by omega), if_neg (by omega), if_pos h.1, List.length_cons]
        omega
      · rw [if_neg (by omega), if_neg (by omega), if_neg (by omega), if_neg (by omega), if_neg (by omega), if_neg (by omega), if_pos h.1, List.length_cons]
        omega
      · rw [if_neg (by omega), if_neg (by omega), if_neg (by omega), if_neg (by omega), if_neg (by omega), if_neg (by omega), if_neg (by omega)]
        exact Nat.le_succ 1
theorem nq_tx : ∀ (t : Fo) (m : Bool), So m t → WK m t → (m = true → nq true t ≤ (tx 0 t).length) ∧ (m = false → nq false t ≤ (tx 1 t).length ∧ nq false t ≤ (tx 2 t).length) := So_ind (P := fun m t => WK m t → (m = true → nq true t ≤ (tx 0 t).length) ∧ (m = false → nq false t ≤ (tx 1 t).length ∧ nq false t ≤ (tx 2 t).length)) (fun m _ => ⟨fun _ => Nat.zero_le _, fun _ => ⟨Nat.zero_le _, Nat.zero_le _⟩⟩) (fun m n k r _ _ _ ihk ihr hw => by
    cases m with
    | true =>
      obtain ⟨h1, h2, h3, h4⟩ := hw
      refine ⟨fun _ => ?_, fun z => Bool.noConfusion z⟩
      have e2 : nq true (cn n k r) = 1 + nq false k + nq true r := rfl
      have a := (ihk h3).2 rfl
      have b := (ihr h4).1 rfl
      have c := hdt_pos h1
      rw [tx_cn, List.length_append, List.length_append, e2]
      split
      · omega
      · omega
    | false =>
      obtain ⟨h1, h2, h3⟩ := hw
      refine ⟨fun z => Bool.noConfusion z, fun _ => ?_⟩
      have e2 : nq false (cn n k r) = nq true k + nq false r := rfl
      have a := (ihk h2).1 rfl
      have b := (ihr h3).2 rfl
      rw [tx_1, tx_2, e2]
      simp only [List.length_cons, List.length_append]
      omega)
def chF (sc u : Nat) (K1 K2 : Nat → Fo) (p : Nat) (x : Fo) : Fo := if u.testBit p = true then cn (cd 5 0 0 (cD sc) 0 0) (cn 0 (K2 p) (cn 1 (K1 p) .nil)) x else ap ((J true (K1 p) (K2 p)).getD .nil) x
def Ds2 (sh1 sh2 : Nat → Fo) : Prop := ∀ p q, p < 6 → q < 6 → ∀ x, x ∈ ad true (sh1 p) → x ∉ ad true (sh2 q)
section C10
variable {B th pa i1 i2 a sc u : Nat} {C : Nat → List Frm} {K1 K2 sh1 sh2 : Nat → Fo}
theorem InR_row {S S' : hS} {ia lo p z : Nat} {K sh t s : Nat → Fo} (h : InR S ia K sh lo) (hR : Rws S pa C t s) (hp : p < 6) (md : Md2 S S' ((pa + 1 + p) :: ad true (plS (C p) (s p)))) (hne : ∀ q, q < 6 → ia + 1 + q ≠ pa + 1 + p) (dj : ∀ q, lo ≤ q → q < 6 → ∀ x, x ∈ ad true (plS (C p) (s p)) → x ∉ ad true (sh q)) : InR S' ia K sh lo := InR_md h md (fun q hl hq z => by
    rw [List.mem_cons] at z
    rcases z with z | z
    · exact hne q hq z
    · have g1 := (RowO_nd (hR.2.2.2.1 p hp) _ z).1
      rw [(h.2.2 q hl hq).2.1] at g1
      cases g1) (fun q hl hq x hx z => by
    rw [List.mem_cons] at z
    rcases z with z | z
    · have g1 := (Rp_nd _ true (h.2.2 q hl hq).2.2.1 _ _ (h.2.2 q hl hq).2.2.2.1 x hx).1
      rw [z, (hR.2.2.2.1 p hp).1] at g1
      cases g1
    · exact dj q hl hq x z hx)
theorem c102 (hu : u < 64) (hp6 : cD sc < 6) (hux : ∀ p, p < 6 → p ≠ cD sc → u.testBit p = false → ∃ c, J true (K1 p) (K2 p) = some c) (haB : a < B) (hn1 : ∀ p q, p < 6 → q < 6 → i1 + 1 + q ≠ pa + 1 + p) (hn2 : ∀ p q, p < 6 → q < 6 → i2 + 1 + q ≠ pa + 1 + p) (hs1 : ∀ p, p < 6 → ∀ x, x ∈ ad true (sh1 p) → B ≤ x) (hs2 : ∀ p, p < 6 → ∀ x, x ∈ ad true (sh2 p) → B ≤ x) (d1 : Dsi sh1 0) (d2 : Dsi sh2 0) (d12 : Ds2 sh1 sh2) (w1 : ∀ p, p < 6 → WK true (K1 p) ∧ dq true (K1 p) ≤ 64) (w2 : ∀ p, p < 6 → WK true (K2 p)) : ∀ (e i m : Nat) (S : hS) (t s : Nat → Fo), i + e = 6 → StD S a sc → Rws S pa C t s → Bnd B pa C s → InR S i1 K1 sh1 i → InR S i2 K2 sh2 i → Dsj C s sh1 i (cD sc) → Dsj C s sh2 i (cD sc) → B ≤ S.1 → (∀ p, p < 6 → (tx 0 (K1 p)).length + (tx 0 (K2 p)).length + 20 ≤ m) → S.1 + 2 * e + 2 < ie_S → ∃ S' t' s', yC_cutChoice_102 th (m + 1 + e) S (some a) (some pa) (some i1) (some i2) (Int32.ofNat u) (Int32.ofNat i) = some S' ∧ Rws S' pa C t' s' ∧ (∀ p, p < 6 → ∀ x, ap (t' p) x = ap (t p) (if i ≤ p ∧ p ≠ cD sc then chF sc u K1 K2 p x else x)) ∧ Bnd B pa C s' ∧ MdB B B S S' ∧ S'.1 ≤ S.1 + 2 * e
  | 0, i, m, S, t, s, hi, _, hR, hb, _, _, _, _, _, _, _ => by
    have : i = 6 := by omega
    subst this
    refine ⟨S, t, s, ?_, hR, fun p hp x => ?_, hb, MdB_r, by omega⟩
    · rw [Nat.add_zero, yC_cutChoice_102, if_pos (by decide)]
    · rw [if_neg (by omega)]
  | e + 1, i, m, S, t, s, hi, hst, hR, hb, hin1, hin2, dj1, dj2, hB, hm, hq => by
    have nx : ∀ (S1 : hS) (t1 s1 : Nat → Fo), StD S1 a sc → Rws S1 pa C t1 s1 → Bnd B pa C s1 → InR S1 i1 K1 sh1 (i + 1) → InR S1 i2 K2 sh2 (i + 1) → Dsj C s1 sh1 (i + 1) (cD sc) → Dsj C s1 sh2 (i + 1) (cD sc) → B ≤ S1.1 → S1.1 ≤ S.1 + 2 → ∃ S' t' s', yC_cutChoice_102 th (m + 1 + e) S1 (some a) (some pa) (some i1) (some i2) (Int32.ofNat u) (Int32.ofNat (i + 1)) = some S' ∧ Rws S' pa C t' s' ∧ (∀ p, p < 6 → ∀ x, ap (t' p) x = ap (t1 p) (if i + 1 ≤ p ∧ p ≠ cD sc then chF sc u K1 K2 p x else x)) ∧ Bnd B pa C s' ∧ MdB B B S1 S' ∧ S'.1 ≤ S1.1 + 2 * e := fun S1 t1 s1 x1 x3 x4 x5 x6 x7 x8 x9 x10 => c102 hu hp6 hux haB hn1 hn2 hs1 hs2 d1 d2 d12 w1 w2 e (i + 1) m S1 t1 s1 (by omega) x1 x3 x4 x5 x6 x7 x8 x9 hm (by omega)
    have hi6 : i < 6 := by omega
    rw [← Nat.add_assoc, yC_cutChoice_102, if_neg (show ¬ (6 : Int32) ≤ Int32.ofNat i from mt (j_le (m := 6) (by decide) (by omega)).mp (by omega))]
    refine Exists.imp (fun S' h1 => Exists.imp (fun t' h2 => Exists.imp (fun s' (h3 : _ ∧ _) => ⟨(zob_s rfl).trans h3.1, h3.2⟩) h2) h1) ?_
    rw [if_pos hst.1, hst.2.2.1, o1]
    by_cases hid : i = cD sc
    · rw [if_pos (show Int32.ofNat i = Int32.ofNat (cD sc) by rw [hid])]
      obtain ⟨S', t', s', k1, k2, k3, k4, k5, k6⟩ := nx S t s hst hR hb (InR_up hin1 (Nat.le_succ _)) (InR_up hin2 (Nat.le_succ _)) (fun p q a1 a2 a3 a4 => dj1 p q a1 (by omega) a3 a4) (fun p q a1 a2 a3 a4 => dj2 p q a1 (by omega) a3 a4) hB (by omega)
      refine ⟨S', t', s', k1, k2, fun p hp x => ?_, k4, k5, by omega⟩
      rw [k3 p hp x]
      congr 1
      by_cases e4 : i + 1 ≤ p ∧ p ≠ cD sc
      · rw [if_pos e4, if_pos ⟨by omega, e4.2⟩]
      · rw [if_neg e4, if_neg (fun z => e4 ⟨by omega, z.2⟩)]
    · rw [if_neg (mt (j_eq (by omega) (by omega)).mp hid)]
      obtain ⟨a1, a2, a3, a4, a5⟩ := hin1.2.2 i (Nat.le_refl _) hi6
      obtain ⟨b1, b2, b3, b4, b5⟩ := hin2.2.2 i (Nat.le_refl _) hi6
      have hmi := hm i hi6
      have nq1 := (nq_tx _ true a3 (w1 i hi6).1).1 rfl
      have nq2 := (nq_tx _ true b3 (w2 i hi6)).1 rfl
      have fin : ∀ (N S1 : hS) (y sy : Fo), MdB B B S N → N.1 ≤ S.1 + 2 → S.1 ≤ N.1 → Rws N pa C t s → InR N i1 K1 sh1 (i + 1) → InR N i2 K2 sh2 (i + 1) → Rws S1 pa C (uf t i (ap (t i) y)) (uf s i (ap (s i) sy)) → Md2 N S1 ((pa + 1 + i) :: ad true (plS (C i) (s i))) → S1.1 = N.1 → (∀ x, x ∈ ad true sy → x ∈ ad true (sh1 i) ∨ x ∈ ad true (sh2 i) ∨ (S.1 ≤ x ∧ x < S.1 + 2)) → (∀ x, ap y x = chF sc u K1 K2 i x) → ∃ S' t' s', yC_cutChoice_102 th (m + 1 + e) S1 (some a) (some pa) (some i1) (some i2) (Int32.ofNat u) (Int32.ofNat (i + 1)) = some S' ∧ Rws S' pa C t' s' ∧ (∀ p, p < 6 → ∀ x, ap (t' p) x = ap (t p) (if i ≤ p ∧ p ≠ cD sc then chF sc u K1 K2 p x else x)) ∧ Bnd B pa C s' ∧ MdB B B S S' ∧ S'.1 ≤ S.1 + 2 * (e + 1) := by
        intro N S1 y sy mN lN lN2 RN I1 I2 R1 M1 e1 hsy hF
        have mb1 : MdB B B N S1 := MdB_row hb hi6 M1
        have mb : MdB B B S S1 := MdB_t mN mb1
        have bnd1 : Bnd B pa C (uf s i (ap (s i) sy)) := Bnd_app (y := .nil) hb hi6 (fun x hx => by
          rcases hsy x hx with h | h | h
          · exact hs1 i hi6 x h
          · exact hs2 i hi6 x h
          · omega)
        have djn : ∀ (sh : Nat → Fo) (K : Nat → Fo) (ia : Nat), InR S ia K sh i → Dsj C s sh i (cD sc) → (∀ q, i + 1 ≤ q → q < 6 → ∀ x, x ∈ ad true (sh1 i) ∨ x ∈ ad true (sh2 i) → x ∉ ad true (sh q)) → Dsj C (uf s i (ap (s i) sy)) sh (i + 1) (cD sc) := by
          intro sh K ia hin dj hx1 p q hp hl hq2 hnz x hx hy
          by_cases e3 : p = i
          · subst e3
            rw [uf_s] at hx
            rcases (ad_pl (C p) _).mp hx with hx | hx
            · exact dj p q hp (by omega) hq2 hnz x ((ad_pl (C p) (s p)).mpr (Or.inl hx)) hy
            · rw [ad_ap, List.mem_append] at hx
              rcases hx with hx | hx
              · exact dj p q hp (by omega) hq2 hnz x ((ad_pl (C p) (s p)).mpr (Or.inr hx)) hy
              · rcases hsy x hx with h | h | h
                · exact hx1 q hl hq2 x (Or.inl h) hy
                · exact hx1 q hl hq2 x (Or.inr h) hy
                · have := (ztg_lt (Rp_nd _ true (hin.2.2 q (by omega) hq2).2.2.1 _ _ (hin.2.2 q (by omega) hq2).2.2.2.1 x hy).1).1
                  omega
          · rw [uf_n e3] at hx
            exact dj p q hp (by omega) hq2 hnz x hx hy
        obtain ⟨S', t', s', k1, k2, k3, k4, k5, k6⟩ := nx S1 _ _ (StD_b hst mb haB (Nat.ne_of_lt haB)) R1 bnd1 (InR_row (z := 0) I1 RN hi6 M1 (fun q hq2 => hn1 i q hi6 hq2) (fun q hl hq2 => dj1 i q hi6 (by omega) hq2 (fun z => hid z.1))) (InR_row (z := 0) I2 RN hi6 M1 (fun q hq2 => hn2 i q hi6 hq2) (fun q hl hq2 => dj2 i q hi6 (by omega) hq2 (fun z => hid z.1))) (djn sh1 K1 i1 hin1 dj1 (fun q hl hq2 x hx => hx.elim (fun h => d1 i q (by omega) (by omega) hi6 hq2 (by omega) x h) (fun h z => d12 q i hq2 hi6 x z h))) (djn sh2 K2 i2 hin2 dj2 (fun q hl hq2 x hx => hx.elim (fun h => d12 i q hi6 hq2 x h) (fun h => d2 i q (by omega) (by omega) hi6 hq2 (by omega) x h))) (by omega) (by omega)
        refine ⟨S', t', s', k1, k2, fun p hp x => ?_, k4, MdB_t mb k5, by omega⟩
        rw [k3 p hp x]
        by_cases e3 : p = i
        · subst e3
          rw [if_neg (by omega), if_pos ⟨Nat.le_refl _, hid⟩, uf_s, ap_as, hF]
        · rw [uf_n e3]
          congr 1
          by_cases e4 : i + 1 ≤ p ∧ p ≠ cD sc
          · rw [if_pos e4, if_pos ⟨by omega, e4.2⟩]
          · rw [if_neg e4, if_neg (fun z => e4 ⟨by omega, z.2⟩)]
      by_cases hbit : u.testBit i = true
      · rw [if_neg (mt (con_o u hu i hi6).mp (by rw [hbit]; decide))]
        have hhear := hear_ok (S := S) (o := cD sc) (by omega) (by omega)
        obtain ⟨n1, n2, n3⟩ := nN_nd (S := S) (n := cd 5 0 0 (cD sc) 0 0) (by omega)
        have mdN : Md2 S (nN S (cd 5 0 0 (cD sc) 0 0)) [] := nN_md
        have eN : (nN S (cd 5 0 0 (cD sc) 0 0)).1 = S.1 + 2 := nN_1
        generalize nN S (cd 5 0 0 (cD sc) 0 0) = N0 at hhear n1 n2 n3 mdN eN
        have hk5 : pof (cK (cd 5 0 0 (cD sc) 0 0)) = 10 := by rw [cd_K (by decide)]; rfl
        have fr1 : S.1 ∉ ad true (sh1 i) := fun z => by
          have := (ztg_lt (Rp_nd _ true a3 _ _ a4 _ z).1).1
          omega
        have fr2 : S.1 ∉ ad true (sh2 i) := fun z => by
          have := (ztg_lt (Rp_nd _ true b3 _ _ b4 _ z).1).1
          omega
        obtain ⟨N1, N, g1, g2, g3, g4, g5, g6, g7, g8⟩ := nwk2 (a := S.1) (m := cd 5 0 0 (cD sc) 0 0) (i1 := 1) (i2 := 0) (x := K1 i) (y := K2 i) (by rw [hk5]; decide) (by rw [hk5]; decide) (by decide) (by decide) (by decide) (cn 0 (K2 i) (cn 1 (K1 i) .nil)) .nil (fun j => by
            rw [gid_cn, gid_cn]
            by_cases e1 : j = 1
            · rw [if_pos e1, if_neg (by omega), if_pos e1]
            · rw [if_neg e1, if_neg e1]
              rfl) n1 n2 n3 a3 b3 (Rp_md a3 a4 mdN (fun _ _ z => by cases z)) (Rp_md b3 b4 mdN (fun _ _ z => by cases z)) fr1 fr2
        have l0 : ∀ y : Nat, y ∈ [S.1] → ¬ y < S.1 := fun y hy => by
          rw [List.mem_singleton] at hy
          omega
        have mdS : Md2 S N [] := Md2_t mdN (Mdf_2 g3 (fun x hx => by rw [List.mem_singleton] at hx; rw [hx]; exact n1.2.2.2.1)) (fun y hy => by cases hy) (fun y hy hl => (l0 y hy hl).elim) (fun y hy hl => (l0 y hy (by omega)).elim)
        have eN1 : N.1 = S.1 + 2 := g3.1.trans eN
        have RN := Rws_fr hR mdS
        have I1 := InR_md (InR_up hin1 (Nat.le_succ i)) mdS (fun _ _ _ z => by cases z) (fun _ _ _ _ _ z => by cases z)
        have I2 := InR_md (InR_up hin2 (Nat.le_succ i)) mdS (fun _ _ _ z => by cases z) (fun _ _ _ _ _ z => by cases z)
        have rp : Rp N true (cn (cd 5 0 0 (cD sc) 0 0) (cn 0 (K2 i) (cn 1 (K1 i) .nil)) .nil) (cn S.1 (cn 0 (sh2 i) (cn 1 (sh1 i) .nil)) .nil) (fun _ => some S.1) := Rp_rm rfl g5 (Rp_km g7 (Rp_km g6 trivial)) g8
        have ead : ad true (cn S.1 (cn 0 (sh2 i) (cn 1 (sh1 i) .nil)) .nil) = S.1 :: ((ad true (sh2 i) ++ (ad true (sh1 i) ++ [])) ++ []) := rfl
        have e2 : nq true (cn (cd 5 0 0 (cD sc) 0 0) (cn 0 (K2 i) (cn 1 (K1 i) .nil)) .nil) = 1 + (nq true (K2 i) + (nq true (K1 i) + 0)) + 0 := rfl
        obtain ⟨S1, c1, c2, c3, c4⟩ := rws_app (n := m + 1 + e) (p := i) (y := cn (cd 5 0 0 (cD sc) 0 0) (cn 0 (K2 i) (cn 1 (K1 i) .nil)) .nil) (sy := cn S.1 (cn 0 (sh2 i) (cn 1 (sh1 i) .nil)) .nil) (G := fun _ => some S.1) RN hi6 ⟨⟨b3, ⟨a3, So_nil, fun _ => trivial⟩, fun _ => ⟨Nat.le_refl _, trivial⟩⟩, So_nil, fun z => Bool.noConfusion z⟩ rp ⟨⟨b5, ⟨a5, trivial, fun _ _ z => (by cases z)⟩, fun x hx z => (by
              have z' : x ∈ ad true (sh1 i) ++ [] := z
              rw [List.append_nil] at z'
              exact d12 i i hi6 hi6 x z' hx)⟩, trivial, fun x hx => ⟨fun e => (by
              have hx' : x ∈ ad true (sh2 i) ++ (ad true (sh1 i) ++ []) := hx
              rw [List.append_nil, List.mem_append] at hx'
              rw [e] at hx'
              exact hx'.elim fr2 fr1), fun z => (by cases z)⟩, fun z => (by cases z)⟩ (fun q hq2 x hx hy => by
            rw [ead, List.append_nil, List.append_nil, List.mem_cons, List.mem_append] at hy
            rcases hy with hy | hy | hy
            · have := Rws_lt hR hq2 hx
              omega
            · exact dj2 q i hq2 (Nat.le_refl _) hi6 (fun z => hid z.2) x hx hy
            · exact dj1 q i hq2 (Nat.le_refl _) hi6 (fun z => hid z.2) x hx hy) (by omega)
        have htold : yC_toldPart S (Int32.ofNat (cD sc)) (zR S 0 (i1 + 1 + i)) (zR S 0 (i2 + 1 + i)) = some (N, some S.1) := by
          unfold yC_toldPart
          refine (zcP_s hhear).trans ((zob_s rfl).trans ?_)
          rw [if_pos n1.1]
          refine (zcV_s (show yA_setPart N0 S.1 1 (zR S 0 (i1 + 1 + i)) = some N1 from g1)).trans ?_
          rw [if_pos g4]
          exact (zcV_s (show yA_setPart N1 S.1 0 (zR S 0 (i2 + 1 + i)) = some N from g2)).trans rfl
        obtain ⟨S', t', s', k1, k2⟩ := fin N S1 _ _ (MdB_f mdS) (by omega) (by omega) RN I1 I2 c2 c3 c4 (fun x hx => by
          rw [ead, List.append_nil, List.append_nil, List.mem_cons, List.mem_append] at hx
          rcases hx with hx | hx | hx
          · exact Or.inr (Or.inr (by omega))
          · exact Or.inr (Or.inl hx)
          · exact Or.inl hx) (fun x => by
          unfold chF
          rw [if_pos hbit]
          rfl)
        refine ⟨S', t', s', ?_, k2⟩
        refine (zob_s rfl).trans ?_
        rw [if_pos (zar_26 hR.1), hR.2.1, if_pos (j_in (by omega) hi6), (j_n (n := i) (by omega)).2, hR.2.2.1 i hi6]
        refine zlb_s.trans ((zob_s rfl).trans ?_)
        rw [if_pos (zar_26 hin1.1), hin1.2.1, if_pos (j_in (by omega) hi6), a1]
        refine zlb_s.trans ((zob_s rfl).trans ?_)
        rw [if_pos a2]
        refine zlb_s.trans ((zob_s rfl).trans ?_)
        rw [if_pos (zar_26 hin2.1), hin2.2.1, if_pos (j_in (by omega) hi6), b1]
        refine zlb_s.trans ((zob_s rfl).trans ?_)
        rw [if_pos b2]
        refine zlb_s.trans ((zcP_s htold).trans ((zob_s rfl).trans ?_))
        rw [if_pos (RN.2.2.2.1 i hi6).1]
        exact (zcV_s c1).trans k1
      · have hbf : u.testBit i = false := by
          cases h : u.testBit i with
          | false => rfl
          | true => exact (hbit h).elim
        rw [if_pos ((con_o u hu i hi6).mpr hbf)]
        obtain ⟨c, hj⟩ := hux i hi6 hid hbf
        obtain ⟨N, sh', g1, g2, g3, g4, g5⟩ := join_ip (n := m + 1 + e) a3 (w1 i hi6).1 b3 (w2 i hi6) a4 b4 hj a5 b5 (fun x hx => d12 i i hi6 hi6 x hx) (w1 i hi6).2 (by omega)
        have sc' : So true c := (Jm _ true a3 _ c b3 hj).2.2.1
        have wc' : WK true c := (J_wk _ true a3 (w1 i hi6).1 _ c b3 (w2 i hi6) hj).1
        have lc := J_len a3 b3 (w1 i hi6).1 (w2 i hi6) hj
        have nqc := (nq_tx _ true sc' wc').1 rfl
        have md : Md2 S N (ad true (sh1 i)) := Mdf_2 g3 (fun x hx => (Rp_nd _ true a3 _ _ a4 x hx).2)
        have mdb : MdB B B S N := ⟨_, md, fun x hx => Or.inr (hs1 i hi6 x hx)⟩
        have w_no : ∀ q, q < 6 → ∀ ia K sh, InR S ia K sh i → i ≤ q → ia + 1 + q ∉ ad true (sh1 i) := fun q hq2 ia K sh hin hl z => by
          have g := (Rp_nd _ true a3 _ _ a4 _ z).1
          rw [(hin.2.2 q hl hq2).2.1] at g
          cases g
        have RN : Rws N pa C t s := Rws_md hR md (fun p hp z => by
          have g := (Rp_nd _ true a3 _ _ a4 _ z).1
          rw [(hR.2.2.2.1 p hp).1] at g
          cases g) (fun p hp x hx z => dj1 p i hp (Nat.le_refl _) hi6 (fun z => hid z.2) x hx z)
        have I1 : InR N i1 K1 sh1 (i + 1) := InR_md (InR_up hin1 (Nat.le_succ i)) md (fun q hl hq2 => w_no q hq2 _ _ _ hin1 (by omega)) (fun q hl hq2 x hx z => d1 i q (by omega) (by omega) hi6 hq2 (by omega) x z hx)
        have I2 : InR N i2 K2 sh2 (i + 1) := InR_md (InR_up hin2 (Nat.le_succ i)) md (fun q hl hq2 => w_no q hq2 _ _ _ hin2 (by omega)) (fun q hl hq2 x hx z => d12 i q hi6 hq2 x z hx)
        have e1N : N.1 = S.1 := g3.1
        have eptr : zR N 0 (i1 + 1 + i) = zR S 0 (i1 + 1 + i) := by rw [g3.2.2.2.2.2.1]
        have ztN : ∀ y, ztg N y = ztg S y := Mdf_tg g3
        obtain ⟨S1, c1, c2, c3, c4⟩ := rws_app (n := m + 1 + e) (p := i) RN hi6 sc' g2 g5 (fun q hq2 x hx hy => by
            rcases g4 x hy with h | h
            · exact dj1 q i hq2 (Nat.le_refl _) hi6 (fun z => hid z.2) x hx h
            · exact dj2 q i hq2 (Nat.le_refl _) hi6 (fun z => hid z.2) x hx h) (by omega)
        obtain ⟨S', t', s', k1, k2⟩ := fin N S1 c sh' mdb (by omega) (by omega) RN I1 I2 c2 c3 c4 (fun x hx => by
          rcases g4 x hx with h | h
          · exact Or.inl h
          · exact Or.inr (Or.inl h)) (fun x => by
          unfold chF
          rw [if_neg hbit, hj]
          rfl)
        refine ⟨S', t', s', ?_, k2⟩
        refine (zob_s rfl).trans ?_
        rw [if_pos (zar_26 hin1.1), hin1.2.1, if_pos (j_in (by omega) hi6), (j_n (n := i) (by omega)).2, a1]
        refine zlb_s.trans ((zob_s rfl).trans ?_)
        rw [if_pos a2]
        refine zlb_s.trans ((zob_s rfl).trans ?_)
        rw [if_pos (zar_26 hin2.1), hin2.2.1, if_pos (j_in (by omega) hi6), b1]
        refine zlb_s.trans ((zob_s rfl).trans ?_)
        rw [if_pos b2]
        refine zlb_s.trans ((zcV_s g1).trans ((zob_s rfl).trans ?_))
        have hz1 : zAR N i1 i = some (i1 + 1 + i) := by
          rw [md.2.2.2.2.1 i1 (ztg_lt hin1.1).1 (Or.inl (by rw [(ztg_lt hin1.1).2.2]; decide))]
          exact a1
        rw [if_pos (zar_26 RN.1), RN.2.1, if_pos (j_in (by omega) hi6), RN.2.2.1 i hi6]
        refine zlb_s.trans ?_
        rw [if_pos (zar_26 I1.1), I1.2.1, if_pos (j_in (by omega) hi6), hz1]
        refine zlb_s.trans ((zob_s rfl).trans ?_)
        rw [if_pos ((ztN _).trans a2), eptr]
        refine zlb_s.trans ((zob_s rfl).trans ?_)
        rw [if_pos (RN.2.2.2.1 i hi6).1]
        exact (zcV_s c1).trans k1
end C10
