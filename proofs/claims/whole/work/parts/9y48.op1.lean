section OP1
variable {S : hS} {g : Nat → Nat} {c n : Nat} {T : pw × Nat × Fo} {pi : Bool} {a1 a2 a3 : Int32}
theorem op_1g (h : JJ S) (hN : S.1 + 3000 < ie_S) (t1 : zI S 1 0 = Int32.ofNat c) (t2 : zMI S 1 = Int32.ofNat c) (hc : c ≤ 200) (t3 : ∀ i, i < c → zAI S 1 i = zMA S 1 i ∧ 33 ≤ (zAI S 1 i).toInt ∧ (zAI S 1 i).toInt ≤ 126) (hT : T = pRow (zAI S 1) c 9 0 (0, false) 0) (hw : T.1.2 = false) (hn : T.2.2 ≠ .nil) : ∃ S', Alk_1 S a1 a2 a3 S' ∧ JJ S' ∧ zI S' 1 0 = 0 ∧ S'.1 ≤ S.1 + 43 + 13 * c := by
  have h' := h
  obtain ⟨⟨hl, hf, ht, hq, hv, hfl⟩, hL, hP, hE, hD⟩ := h
  have hlt : Ltr (zAI S 1) c := fun j hj => (t3 j hj).2
  have hg := gf_of hlt
  have hR : RowK (zAI S 1) (fun j => ((zAI S 1) j).toInt.toNat) c T.2.2 0 T.1.1 0 T.2.1 0 := by
    have := rowK hg 9 0 (0, false) 0
    rw [← hT] at this
    exact (this hw).2 (Nat.zero_le _)
  have hpb : (if a1 = 0 then (0 : Int32) else 1) = ty_b (decide (a1 ≠ 0)) := by
    by_cases e : a1 = 0 <;> simp [ty_b, e]
  generalize decide (a1 ≠ 0) = pi at hpb
  obtain ⟨hcc, h40, N, hN2⟩ := ld_ref (I := zMI S) (A := zMA S) (pi := pi) hT t2 hc (fun j hj => (t3 j hj).1.symm) hlt hg hw hn hR
  obtain ⟨hin, hout⟩ := hN2 (N + 60000) (by omega)
  obtain ⟨X, a5, S8, ⟨gX, x6, x3, xs, xl⟩, sn, x, hck, hld⟩ := rd_s8 (n := N + 60000) (pi := pi) hf hl.1 hN t1 hc hlt hT hw hn h40 (by omega) hR
  obtain ⟨p1, p2, p3, p4, p5, p6, p7, p8⟩ := hR
  have kX : KO S X := KO_g gX
  have fX : Fix X := KO_fix hf kX
  have k7 : KO X (cS7 X S.1 (ty_b pi)) := s7_ko KO_r
  have j7 : KO S (cS7 X S.1 (ty_b pi)) := s7_ko kX
  have l7 : (cS7 X S.1 (ty_b pi)).1 = X.1 + 1 := rfl
  have h178 := hl.1
  unfold CkO at hck
  obtain ⟨c1, c2⟩ := hck
  cases ec : ck (Dd (zAI S 1) c) pi T.2.1 T.2.2 0 with
  | inr Pw =>
    obtain ⟨P, w⟩ := Pw
    obtain ⟨ia, K, sh, e1, hr, hds, had, hia, md, ctf, hs, _⟩ := c2 P w ec
    obtain ⟨I', A', r1, r2, r3, r4⟩ := hout P w ec
    have hPl : P < c := by
      have := ck_pl T.2.2 p1 0 T.1.1 0 P w p3 ec
      omega
    have k8 : KO S S8 := KO_B j7 (by omega) (by omega) md
    have t0 : ztg S8 0 = 1 := (KO_fix hf k8).1.1
    have z10 : zI S8 1 0 = 0 := by
      rw [MdB_i md (by omega) (by omega) (by omega)]
      exact s7_10 (by omega)
    have el := hld _ e1
    rw [ld_fau (by omega) t0 ctf] at el
    have ey : yL_load (N + 60000) S (some 0) (if a1 = 0 then 0 else 1) (some 177) = some (szEx (szI (szI S8 2 0 (Int32.ofNat P)) 3 0 (if w < 6 then Int32.ofNat w else -1)) (if w < 6 then 12 else 13), if w < 6 then 2 else 3) := by
      rw [hpb]
      simp only [yL_load, zob, hf.1.1, if_true, el]
      by_cases e : w < 6
      · simp only [if_pos e]
        rfl
      · simp only [if_neg e]
        rfl
    have kk : KO S (szEx (szI (szI S8 2 0 (Int32.ofNat P)) 3 0 (if w < 6 then Int32.ofNat w else -1)) (if w < 6 then 12 else 13)) := KO_x (KO_I (KO_I k8 (Or.inr ⟨rfl, Or.inr (Or.inl rfl)⟩)) (Or.inr ⟨rfl, Or.inr (Or.inr rfl)⟩))
    have i1 : zI (szEx (szI (szI S8 2 0 (Int32.ofNat P)) 3 0 (if w < 6 then Int32.ofNat w else -1)) (if w < 6 then 12 else 13)) 1 0 = 0 := by
      show zI (szI (szI S8 2 0 (Int32.ofNat P)) 3 0 (if w < 6 then Int32.ofNat w else -1)) 1 0 = 0
      rw [zI_k (by decide), zI_k (by decide)]
      exact z10
    have i2 : zI (szEx (szI (szI S8 2 0 (Int32.ofNat P)) 3 0 (if w < 6 then Int32.ofNat w else -1)) (if w < 6 then 12 else 13)) 2 0 = Int32.ofNat P := by
      show zI (szI (szI S8 2 0 (Int32.ofNat P)) 3 0 (if w < 6 then Int32.ofNat w else -1)) 2 0 = _
      rw [zI_k (by decide)]
      simp [zI, szI, zup2]
    have i3 : zI (szEx (szI (szI S8 2 0 (Int32.ofNat P)) 3 0 (if w < 6 then Int32.ofNat w else -1)) (if w < 6 then 12 else 13)) 3 0 = (if w < 6 then Int32.ofNat w else -1) := by
      show zI (szI (szI S8 2 0 (Int32.ofNat P)) 3 0 (if w < 6 then Int32.ofNat w else -1)) 3 0 = _
      simp [zI, szI, zup2]
    refine ⟨_, ⟨N + 60000, _, 0, _, I', A', ey, ?_, r2.1, fun z => ?_, rfl⟩, JJ_ko h' kk (Lay_ex hl (fhyL_load ey).1) i1 (i2.trans r2.2.2.1.symm) (i3.trans r2.2.2.2.symm) r2.2.1 r3 r4, i1, ?_⟩
    · rw [kk.2.2.1, kk.2.2.2, hpb]
      exact r1
    · by_cases e : w < 6 <;> simp [e] at z
    · show S8.1 + 1 ≤ _
      omega
  | inl p =>
    obtain ⟨ia, sh, e1, hr, hds, had, hia, md, ct, hs, _⟩ := c1 p ec
    obtain ⟨I', A', st, r1, ⟨u0, u1, u2, u3⟩, ⟨u10, u11, ust, u17, u18⟩, uv, u39, u36, upt, upc⟩ := hin p ec
    obtain ⟨w1, w2, w3⟩ := ck_wt T.2.2 p1 0 p ec
    have k8 : KO S S8 := KO_B j7 (by omega) (by omega) md
    have kx8 : KO X S8 := KO_B k7 (by omega) (Nat.le_refl _) md
    have fx8 : Fix S8 := KO_fix hf k8
    have z10 : zI S8 1 0 = 0 := by
      rw [MdB_i md (by omega) (by omega) (by omega)]
      exact s7_10 (by omega)
    have i8 : zI S8 3 S.1 = Int32.ofNat T.2.1 := by
      rw [(kx8.2.1 _ xl).2.2.2.2.2.2 3 (fun z => by omega)]
      exact x3
    have hlen : ∀ p, p < 6 → (tx 0 (cut (Dd (zAI S 1) c) T.2.2 p)).length ≤ 600 := fun p hp => by
      have := cut_len hp T.2.2 p1
      omega
    obtain ⟨Sa, S12, g2, bg, ea, hg2, fa, ⟨v1, v2, v3, v4, v5⟩, ⟨j1, j2, j3⟩, zr4, z42, zq, z5, z133, xt, rp, sn', sb'⟩ := ld_good (n := N + 60000) (S8 := S8) (a5 := a5) fx8 h178 xl ct (by omega) (KO_tg kx8 x6) i8 z10 p1 (SN_o (KO_of fX.1.1 kx8) T.2.2 p1 _ sn) (by rw [hcc] at p3; exact p3) (by omega) (by omega) (by omega) hr hds hlen (by omega)
    have el := hld _ e1
    rw [ea] at el
    obtain ⟨bf, bgg, bh, bes, bb⟩ := bg
    have bg : BG Sa S12 := ⟨bf, bgg, bh, bes, bb⟩
    have f12 : Fix S12 := BG_fix bg fa
    have m12 : zMI S12 = zMI S ∧ zMA S12 = zMA S := by
      rw [bes]
      exact ⟨v4.trans k8.2.2.1, v5.trans k8.2.2.2⟩
    have ey : yL_load (N + 60000) S (some 0) (if a1 = 0 then 0 else 1) (some 177) = some (szAL (szAI S12 133 g2) 177 (vp_updL (zAL (szAI S12 133 g2) 177) 0 (Int32.toInt64 (Int32.ofNat p))), 0) := by
      rw [hpb]
      have t177 : ztg (szAI S12 133 g2) 177 = 23 := f12.2.2.2.2.2.2.2.2.1.1
      have l177 : zLen (szAI S12 133 g2) 177 = 1 := f12.2.2.2.2.2.2.2.2.1.2
      simp only [yL_load, zob, hf.1.1, if_true, el]
      show (if ztg (szAI S12 133 g2) 177 = 23 then (if ib 0 (zLen (szAI S12 133 g2) 177) then _ else none) else none) = _
      rw [if_pos t177, l177]
      rfl
    have hLa : Lay Sa := by
      have := Lay_ex hl (fhyL_load ey).1
      rw [bes] at this
      exact this
    have ha : ∀ {x}, x < S.1 → zAI S8 x = zAI S x := fun hx => (k8.2.1 _ hx).2.2.1
    have hpre : Pre (szM Sa I' (fun j => if j = 35 then zMA S 35 else A' j)) (cut (Dd (zAI S 1) c) T.2.2) := by
      obtain ⟨r, q1, q8, q2, q3, q4⟩ := hq
      have ho : OF Sa (szM Sa I' (fun j => if j = 35 then zMA S 35 else A' j)) := OF_M ⟨Nat.le_refl _, fun x _ _ => ⟨Lk_r, rfl⟩, fun x _ => ⟨fun _ => rfl, fun _ => rfl, rfl, rfl⟩⟩
      refine ⟨Lay_M hLa, Fix_M fa, ⟨0, by decide, j1, u1, fun i hi => by omega⟩, ⟨r, q1, q8, ?_, u17.trans q3, fun k hk => ?_⟩, fun i hi => ⟨?_, ?_, ?_⟩, ⟨j2.trans u2.symm, j3.trans u3.symm, u18⟩, ?_, fun p hp => ?_, u39, u36, ⟨Gd_0 p1, fun p hp => ⟨cut_so T.2.2 p1 p, cut_wk T.2.2 p1 p, sh p, ?_⟩, _, T.2.2, S.1 + 1, st, p1, ?_, ?_, PC_e (fun j a b => if_neg (by omega)) T.2.2 p1 _ _ upc, u11, ust⟩, fun p hp => ?_⟩
      · show zI Sa 4 2 = _
        rw [z42, (k8.2.1 2 (by omega)).2.2.2.2.2.2 4 (fun z => by omega)]
        exact q2
      · obtain ⟨hh, z, b1, b2, b3, _⟩ := q4 k hk
        refine ⟨hh, b1, ?_⟩
        show zI Sa 2 _ = _
        rw [zq k hk, (k8.2.1 (25 + 3 * k) (by omega)).2.2.2.2.2.2 2 (fun z => by omega)]
        exact b3
      · show zAI Sa 5 i = A' 33 i
        rw [z5 i hi, (uv i hi).1]
      · show zAI Sa 5 i = A' 34 i
        rw [z5 i hi, (uv i hi).2.1]
      · show zAI Sa 133 i = zMA S 35 i
        rw [z133, ha (by omega)]
        exact (hv i hi).2.2
      · show zR Sa 4 0 = none ↔ I' 10 = 0
        rw [zr4, u10]
        exact Iff.intro (fun z => nomatch z) (fun z => absurd z (by decide))
      · obtain ⟨y1, y2, y3, y4, y5, y6, y7⟩ := xt p hp
        obtain ⟨o1, o2, o3⟩ := upt p hp
        refine ⟨_, y6, y5, o1, fun i hi => ?_⟩
        show zAI Sa (9 + 3 * p) i = A' 26 (1000 * p + i)
        rw [y7 i hi, At_get _ _ _ o2 hi]
      · have s1 := cut_so T.2.2 p1 p
        obtain ⟨s3, s4⟩ := rp p hp
        have nd := Rp_nd _ true s1 (sh p) _ s3
        exact ⟨Rp_fr _ true s1 (sh p) _ s3 (fun x hx => (ho.2.1 x (nd x hx).1 (nd x hx).2).1), BH_fr _ true s1 (sh p) none _ s3 s4 (fun x hx => ⟨(ho.2.1 x (nd x hx).1 (nd x hx).2).1.2.2.1, (ho.2.1 x (nd x hx).1 (nd x hx).2).2⟩)⟩
      · have := SN_o ho T.2.2 p1 _ sn'
        rw [← zr4] at this
        exact this
      · have := SB_o ho T.2.2 p1 _ _ sn' sb'
        rw [← zr4] at this
        exact this
      · obtain ⟨o1, o2, o3⟩ := upt p hp
        exact ⟨hp, o1, o2, o3, fun c hc => ((tx_sml _ true (cut_so T.2.2 p1 p) (cut_wk T.2.2 p1 p)).1 rfl c hc).2⟩
    have hJ1 : JJ (szM S12 I' (fun j => if j = 35 then zMA S 35 else A' j)) := RI_JJ (bg_J hpre bg)
    have hJ2 : JJ (szM (szAI S12 133 g2) I' A') := JJ_who (S := szM S12 I' (fun j => if j = 35 then zMA S 35 else A' j)) hJ1 (fun i hi => (hg2 i hi).trans (uv i hi).2.2.symm) (fun j hj => (if_neg hj).symm) (fun _ _ _ => rfl)
    have hJ3 := (JJ_ro hJ2 (RO_l (vp_updL (zAL (szAI S12 133 g2) 177) 0 (Int32.toInt64 (Int32.ofNat p))) 0)).1
    have eid : upd (zMI (szM (szAI S12 133 g2) I' A')) 0 0 = I' := upd_id u0
    rw [eid] at hJ3
    refine ⟨_, ⟨N + 60000, 0, Int32.ofNat p, _, I', A', ey, ?_, u0, fun _ => ?_, rfl⟩, hJ3, ?_, ?_⟩
    · show x_load (N + 60000) (zMI S12) (zMA S12) _ = _
      rw [m12.1, m12.2, hpb]
      exact r1
    · simp [zAL, szAL, zup, vp_updL]
    · show zI S12 1 0 = 0
      rw [bes]
      exact (bb.2.2.2.2.2.1 1 0 (fun z => by omega) (fun z => by omega)).trans j1
    · show S12.1 ≤ _
      rw [bes]
      show Sa.1 ≤ _
      omega
end OP1
