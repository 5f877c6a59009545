section RO2
variable {S S' : hS} {B th pa ia n a sc ob d : Nat} {C : Nat → List Frm} {t s K sh : Nat → Fo}
def rdX (sc d : Nat) (K : Nat → Fo) (p : Nat) (x : Fo) : Fo := rdA sc d (K p) p x
theorem sRound (h : StD S a sc) (hs : PWb sc) (hk : cK sc = 7) (h11 : zI S 11 a = Int32.ofNat ob) (hled : Int32.ofNat ob &&& ((1 <<< (Int32.ofNat (cD sc) &&& 31)) ^^^ (-1)) = Int32.ofNat d) (hd : d < 64) (hdd : d.testBit (cD sc) = false) (haB : a < B) (hat : a ≠ th) (hR : Rws S pa C t s) (hb : Bnd B pa C s) (hB : B ≤ S.1) (hin : InR S ia K sh 0) (hiaB : B ≤ ia) (hne : ∀ p q, p < 6 → q < 6 → ia + 1 + q ≠ pa + 1 + p) (hsB : ∀ p, p < 6 → ∀ x, x ∈ ad true (sh p) → B ≤ x) (di : Dsi sh 0) (dj : ∀ p q, p < 6 → q < 6 → ∀ x, x ∈ ad true (plS (C p) (s p)) → x ∉ ad true (sh q)) (hn : ∀ p, p < 6 → nq true (K p) + 10 ≤ n) (hq : S.1 + 20 < ie_S) : ∃ S', yC_cutRound n S (some a) (some pa) (some ia) = some S' ∧ StR B th S S' pa C t s (rdX sc d K) ∧ S'.1 ≤ S.1 + 14 := by
  have hp := hs.1
  have hnp := hn _ hp
  obtain ⟨q1, q2, q3, q4, q5⟩ := hin.2.2 (cD sc) (Nat.zero_le _) hp
  have hnew := new_A (S := S) (k := 7) (by decide) (by omega)
  have htg := (nA_tg (S := S) (k := 7) (by omega)).1
  have md : Md2 S (nA S 7) [] := nA_md
  have heq := nN_rnd (S := S) (d := d) (e := cE sc) hd
  generalize nA S 7 = N2 at hnew htg md heq
  have hN2 := StD_md h md (fun z => by cases z)
  have hI2 := InR_md hin md (fun _ _ _ z => by cases z) (fun _ _ _ _ _ z => by cases z)
  obtain ⟨w1, w2, w3, w4, w5⟩ := hI2.2.2 (cD sc) (Nat.zero_le _) hp
  have ev : zR N2 0 (ia + 1 + cD sc) = zR S 0 (ia + 1 + cD sc) := (md.2.2.1 0 _ (ztg_lt q2).1 (fun z => by cases z)).2
  have e11 : zI N2 11 a = Int32.ofNat ob := by
    rw [(md.2.2.1 11 a (ztg_lt h.1).1 (fun z => by cases z)).1]
    exact h11
  have hm7 : cK (cd 7 0 0 0 d (cE sc)) = 7 := cd_K (by decide)
  obtain ⟨N, n1, n2, n3, n4⟩ := nwk (S := S) (m := cd 7 0 0 0 d (cE sc)) (by rw [hm7]; decide) q3 q4 (by omega)
  have RN := Rws_fr hR n2
  have hNst := StD_md h n2 (fun z => by cases z)
  have ead : ad true (cn S.1 (cn 0 (sh (cD sc)) .nil) .nil) = S.1 :: ((ad true (sh (cD sc)) ++ []) ++ []) := rfl
  have e2 : nq true (cn (cd 7 0 0 0 d (cE sc)) (cn 0 (K (cD sc)) .nil) .nil) = 1 + (nq true (K (cD sc)) + 0) + 0 := rfl
  obtain ⟨S1, c1, c2, c3, c4⟩ := rws_app (n := n) (p := cD sc) (y := cn (cd 7 0 0 0 d (cE sc)) (cn 0 (K (cD sc)) .nil) .nil) (sy := cn S.1 (cn 0 (sh (cD sc)) .nil) .nil) (G := fun _ => some S.1) RN hp ⟨⟨q3, So_nil, fun _ => trivial⟩, So_nil, fun z => Bool.noConfusion z⟩ n4 ⟨⟨q5, trivial, fun _ _ z => (by cases z)⟩, trivial, fun x hx => ⟨fun e => (by
      have hx' : x ∈ ad true (sh (cD sc)) ++ [] := hx
      rw [List.append_nil] at hx'
      have := (ztg_lt (Rp_nd _ true q3 _ _ q4 x hx').1).1
      omega), fun z => (by cases z)⟩, fun z => (by cases z)⟩ (fun q hq2 x hx hy => by
    rw [ead, List.append_nil, List.append_nil, List.mem_cons] at hy
    rcases hy with hy | hy
    · have := Rws_lt hR hq2 hx
      omega
    · exact dj q _ hq2 hp x hx hy) (by omega)
  have hrow : Md2 S S1 ((pa + 1 + cD sc) :: ad true (plS (C (cD sc)) (s (cD sc)))) := Md2_t n2 c3 (fun x z => by cases z) (fun x z _ => z) (fun x z _ => z)
  have mdb : MdB B th S S1 := MdB_row hb hp hrow
  have bnd1 : Bnd B pa C (uf s (cD sc) (ap (s (cD sc)) (cn S.1 (cn 0 (sh (cD sc)) .nil) .nil))) := Bnd_app (y := .nil) hb hp (fun x hx => by
    rw [ead, List.append_nil, List.append_nil, List.mem_cons] at hx
    rcases hx with hx | hx
    · omega
    · exact hsB _ hp x hx)
  have inr1 : InR S1 ia K sh 0 := InR_md hin hrow (fun p hl hp2 z => by
    rw [List.mem_cons] at z
    rcases z with z | z
    · exact hne _ p hp hp2 z
    · have g1 := (RowO_nd (hR.2.2.2.1 _ hp) _ z).1
      rw [(hin.2.2 p (by omega) hp2).2.1] at g1
      cases g1) (fun p hl hp2 x hx z => by
    rw [List.mem_cons] at z
    rcases z with z | z
    · have g1 := (Rp_nd _ true (hin.2.2 p (by omega) hp2).2.2.1 _ _ (hin.2.2 p (by omega) hp2).2.2.2.1 x hx).1
      rw [z, (hR.2.2.2.1 _ hp).1] at g1
      cases g1
    · exact dj _ p hp hp2 x z hx)
  obtain ⟨_, _, _, eqn, g0, g2, g3, g4⟩ := Rp_r n4
  cases eqn
  have ra4 : zI S1 4 S.1 = Int32.ofNat d := by
    have hS1N : S.1 < N.1 := by omega
    rw [(c3.2.2.1 4 S.1 hS1N (fun z => ?_)).1, g2.2.1.2.2.2.2.1, cd_D (by decide) (by decide) (by decide) (by decide) hd]
    rw [List.mem_cons] at z
    rcases z with z | z
    · have := (ztg_lt (hR.2.2.2.1 _ hp).1).1
      omega
    · have := Rws_lt hR hp z
      omega
  have dj1 : Dsj C (uf s (cD sc) (ap (s (cD sc)) (cn S.1 (cn 0 (sh (cD sc)) .nil) .nil))) sh 0 (cD sc) := fun p q hp2 hl hq2 hnz x hx hy => by
    by_cases e3 : p = cD sc
    · subst e3
      rw [uf_s] at hx
      rcases (ad_pl (C (cD sc)) _).mp hx with hx | hx
      · exact dj _ q hp hq2 x ((ad_pl (C (cD sc)) (s (cD sc))).mpr (Or.inl hx)) hy
      · rw [ad_ap, List.mem_append, ead, List.append_nil, List.append_nil, List.mem_cons] at hx
        rcases hx with hx | hx | hx
        · exact dj _ q hp hq2 x ((ad_pl (C (cD sc)) (s (cD sc))).mpr (Or.inr hx)) hy
        · have := (ztg_lt (Rp_nd _ true (hin.2.2 q (by omega) hq2).2.2.1 _ _ (hin.2.2 q (by omega) hq2).2.2.2.1 x hy).1).1
          omega
        · exact di _ q (by omega) (by omega) hp hq2 (fun z => hnz ⟨rfl, z.symm⟩) x hx hy
    · rw [uf_n e3] at hx
      exact dj p q hp2 hq2 x hx hy
  obtain ⟨m, hm⟩ : ∃ m, n = m + 1 + 6 := ⟨n - 7, by omega⟩
  obtain ⟨S', t', s', k1, k2, k3, k4, k5, k6⟩ := c62 (ra := S.1) hd hp hdd haB hiaB hne hsB di hat 6 0 m S1 _ _ rfl (StD_b h mdb haB hat) (by
      rw [uf_s, ad_pl, ad_ap, List.mem_append, ead]
      exact Or.inr (Or.inr List.mem_cons_self)) ra4 c2 bnd1 inr1 dj1 (by omega) (fun p hp2 => by have := hn p hp2; omega) (by omega)
  rw [← hm] at k1
  refine ⟨S', ?_, ⟨C, t', s', k2, fun p hp2 x => ?_, k4, MdB_t mdb k5⟩, by omega⟩
  · unfold yC_cutRound
    rw [znw_s (show S.1 < ie_S by omega)]
    refine (zcV_s hnew).trans ((zob_s rfl).trans ?_)
    rw [if_pos hN2.1, if_pos htg]
    refine (zob_s rfl).trans ?_
    rw [if_pos (zar_26 hI2.1), hN2.2.2.1, hI2.2.1, if_pos (j_in (by omega) hp), (j_n (n := cD sc) (by omega)).2, w1]
    refine zlb_s.trans ((zob_s rfl).trans ?_)
    rw [if_pos w2, hN2.2.2.2.2.2.2, e11, hled, heq, ev]
    refine zlb_s.trans ((zcV_s n1).trans ?_)
    rw [if_pos hNst.1]
    refine (zob_s rfl).trans ?_
    rw [if_pos (zar_26 RN.1), hNst.2.2.1, RN.2.1, if_pos (j_in (by omega) hp), (j_n (n := cD sc) (by omega)).2, RN.2.2.1 _ hp]
    refine zlb_s.trans ((zob_s rfl).trans ?_)
    rw [if_pos (RN.2.2.2.1 _ hp).1]
    exact (zcV_s c1).trans k1
  · rw [k3 p hp2 x]
    unfold rdX rdA
    by_cases e3 : p = cD sc
    · subst e3
      rw [if_neg (fun z => by rw [hdd] at z; cases z.2), uf_s, if_pos rfl, ap_as]
      rfl
    · rw [uf_n e3, if_neg e3]
      by_cases e4 : d.testBit p = true
      · rw [if_pos ⟨Nat.zero_le _, e4⟩, if_pos e4]
      · rw [if_neg (fun z => e4 z.2), if_neg e4]
def b6 (a b c d e f : Bool) : Nat := (if a then 1 else 0) + (if b then 2 else 0) + (if c then 4 else 0) + (if d then 8 else 0) + (if e then 16 else 0) + (if f then 32 else 0)
theorem led_b : ∀ (a b c d e f : Bool), ∀ p, p < 6 → Int32.ofNat (b6 a b c d e f) &&& ((1 <<< (Int32.ofNat p &&& 31)) ^^^ (-1)) = Int32.ofNat (b6 (!decide (0 = p) && a) (!decide (1 = p) && b) (!decide (2 = p) && c) (!decide (3 = p) && d) (!decide (4 = p) && e) (!decide (5 = p) && f)) := by decide +kernel
theorem led_o (g : Nat → Bool) {p : Nat} (hp : p < 6) : Int32.ofNat (bts g) &&& ((1 <<< (Int32.ofNat p &&& 31)) ^^^ (-1)) = Int32.ofNat (bts fun q => !decide (q = p) && g q) := led_b (g 0) (g 1) (g 2) (g 3) (g 4) (g 5) p hp
end RO2
