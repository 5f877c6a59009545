def MdB (B th : Nat) (S S' : hS) : Prop := ∃ L, Md2 S S' L ∧ ∀ x, x ∈ L → x = th ∨ B ≤ x
def Bnd (B pa : Nat) (C : Nat → List Frm) (s : Nat → Fo) : Prop := B ≤ pa ∧ ∀ p, p < 6 → ∀ x, x ∈ ad true (plS (C p) (s p)) → B ≤ x
def StR (B th : Nat) (S S' : hS) (pa : Nat) (C : Nat → List Frm) (t s : Nat → Fo) (F : Nat → Fo → Fo) : Prop := ∃ C' t' s', Rws S' pa C' t' s' ∧ (∀ p, p < 6 → ∀ x, plT (C' p) (ap (t' p) x) = plT (C p) (ap (t p) (F p x))) ∧ Bnd B pa C' s' ∧ MdB B th S S'
section MB
variable {S S' S2 : hS} {B th pa n a sc : Nat} {C : Nat → List Frm} {t s : Nat → Fo}
theorem MdB_r : MdB B th S S := ⟨[], Md2_r, fun _ z => by cases z⟩
theorem MdB_t (h1 : MdB B th S S') (h2 : MdB B th S' S2) : MdB B th S S2 := by
  obtain ⟨L1, a1, b1⟩ := h1
  obtain ⟨L2, a2, b2⟩ := h2
  refine ⟨L1 ++ L2, Md2_t a1 a2 (fun x hx => List.mem_append_left _ hx) (fun x hx _ => List.mem_append_right _ hx) (fun x hx _ => List.mem_append_right _ hx), fun x hx => ?_⟩
  rw [List.mem_append] at hx
  exact hx.elim (b1 x) (b2 x)
theorem MdB_f (h : Md2 S S' []) : MdB B th S S' := ⟨[], h, fun _ z => by cases z⟩
theorem MdB_row {p : Nat} (hb : Bnd B pa C s) (hp : p < 6) (h : Md2 S S' ((pa + 1 + p) :: ad true (plS (C p) (s p)))) : MdB B th S S' := ⟨_, h, fun x hx => by
    rw [List.mem_cons] at hx
    rcases hx with hx | hx
    · have := hb.1
      omega
    · exact Or.inr (hb.2 p hp x hx)⟩
theorem StD_b (h : StD S a sc) (md : MdB B th S S') (ha : a < B) (hat : a ≠ th) : StD S' a sc := by
  obtain ⟨L, m1, m2⟩ := md
  refine StD_md h m1 (fun z => ?_)
  rcases m2 a z with e | e
  · exact hat e
  · omega
theorem Bnd_app {p : Nat} {y sy : Fo} (hb : Bnd B pa C s) (hp : p < 6) (hy : ∀ x, x ∈ ad true sy → B ≤ x) : Bnd B pa C (uf s p (ap (s p) sy)) := by
  refine ⟨hb.1, fun q hq x hx => ?_⟩
  by_cases e : q = p
  · subst e
    rw [uf_s] at hx
    rcases (ad_pl (C q) _).mp hx with hx | hx
    · exact hb.2 q hq x ((ad_pl (C q) (s q)).mpr (Or.inl hx))
    · rw [ad_ap, List.mem_append] at hx
      rcases hx with hx | hx
      · exact hb.2 q hq x ((ad_pl (C q) (s q)).mpr (Or.inr hx))
      · exact hy x hx
  · rw [uf_n e] at hx
    exact hb.2 q hq x hx
theorem newR_b {p m : Nat} (hb : Bnd B pa C s) (hp : p < 6) (hB : B ≤ S.1) (h : newR S pa p C t s m S') : Bnd B pa C (uf s p (ap (s p) (cn S.1 .nil .nil))) ∧ MdB B th S S' := ⟨Bnd_app (y := .nil) hb hp (fun x hx => by
    have e : ad true (cn S.1 .nil .nil) = [S.1] := rfl
    rw [e, List.mem_singleton] at hx
    omega), MdB_row hb hp h.2.1⟩
theorem rws_hear {q o lab : Nat} (h : Rws S pa C t s) (hq : q < 6) (ho : o < 6) (hlab : lab < 10) (hz : S.1 + 2 < ie_S) (hn : 5 ≤ n) : ∃ S', yW_appendHear n S (pa + 1 + q) (Int32.ofNat o) (Int32.ofNat lab) = some S' ∧ Rws S' pa (ufC C q (C q ++ [(t q, s q, cd 5 0 0 o 0 0, S.1, lab)])) (uf t q .nil) (uf s q .nil) ∧ Md2 S S' ((pa + 1 + q) :: ad true (plS (C q) (s q))) ∧ S'.1 = S.1 + 2 := by
  obtain ⟨S', e1, e2, e3, e4⟩ := apH_ok (n := n) (h.2.2.2.1 q hq) ho hlab hz hn
  refine ⟨S', e1, Rws_up h hq e3 e2 (fun r hr hne x hx z => ?_), e3, e4⟩
  rw [plS_app] at hx
  rcases (ad_pl (C q) _).mp hx with hx | hx
  · exact h.2.2.2.2 q r hq hr (Ne.symm hne) x ((ad_pl (C q) (s q)).mpr (Or.inl hx)) z
  · have e : ad true (plS [(t q, s q, cd 5 0 0 o 0 0, S.1, lab)] .nil) = ad true (s q) ++ (S.1 :: (([] ++ []) ++ [])) := ad_ap (s q) _
    rw [e, List.mem_append] at hx
    rcases hx with hx | hx
    · exact h.2.2.2.2 q r hq hr (Ne.symm hne) x ((ad_pl (C q) (s q)).mpr (Or.inr hx)) z
    · have hx' : x = S.1 := by simpa using hx
      have := Rws_lt h hr z
      omega
theorem Rws_b (h : Rws S pa C t s) (hb : Bnd B pa C s) (ha : a < B) : (∀ p, p < 6 → a ≠ pa + 1 + p) ∧ (∀ p, p < 6 → a ∉ ad true (plS (C p) (s p))) := ⟨fun p _ e => by have := hb.1; omega, fun p hp hx => by have := hb.2 p hp a hx; omega⟩
theorem sSet (h : StD S a sc) (hs : PWs sc) (hk : cK sc = 1) (hR : Rws S pa C t s) (hb : Bnd B pa C s) (hB : B ≤ S.1) (hq : S.1 + 2 < ie_S) (hn : 2 ≤ n) : ∃ S', yC_cutSet n S (some a) (some pa) = some S' ∧ StR B th S S' pa C t s (smA sc) ∧ S'.1 ≤ S.1 + 4 := by
  obtain ⟨S', e1, e2⟩ := cSet h hk hR hs.1 hq hn
  obtain ⟨b1, b2⟩ := newR_b (th := th) hb hs.1 hB e2
  refine ⟨S', e1, ⟨C, _, _, e2.1, fun p hp x => ?_, b1, b2⟩, by have := e2.2.2; omega⟩
  unfold smA
  rw [if_pos hk]
  by_cases e : p = cD sc
  · subst e
    rw [uf_s, if_pos rfl, ap_as]
    rfl
  · rw [uf_n e, if_neg e]
theorem sSend (h : StD S a sc) (hs : PWs sc) (hk : cK sc = 2) (hR : Rws S pa C t s) (hb : Bnd B pa C s) (hB : B ≤ S.1) (ha : a < B) (hq : S.1 + 4 < ie_S) (hn : 2 ≤ n) : ∃ S', yC_cutSend n S (some a) (some pa) = some S' ∧ StR B th S S' pa C t s (smA sc) ∧ S'.1 ≤ S.1 + 4 := by
  obtain ⟨hd, hk2, _, _⟩ := hs
  have ho : cO sc < 6 ∧ cO sc ≠ cD sc := by
    rcases hk2 with q | ⟨_, q⟩
    · omega
    · exact q
  obtain ⟨S1, S', e1, e2, e3⟩ := cSend h hk hR hd ho.1 ho.2 ((Rws_b hR hb ha).1 _ hd) ((Rws_b hR hb ha).2 _ hd) hq hn
  obtain ⟨b1, b2⟩ := newR_b (th := th) hb hd hB e2
  obtain ⟨b3, b4⟩ := newR_b (th := th) b1 ho.1 (by have := e2.2.2; omega) e3
  refine ⟨S', e1, ⟨C, _, _, e3.1, fun p hp x => ?_, b3, MdB_t b2 b4⟩, by have := e2.2.2; have := e3.2.2; omega⟩
  unfold smA
  rw [if_neg (show ¬ cK sc = 1 by omega), if_pos hk]
  by_cases e : p = cD sc
  · subst e
    rw [uf_n (Ne.symm ho.2), uf_s, if_pos rfl, ap_as]
    rfl
  · rw [if_neg e]
    by_cases e2 : p = cO sc
    · subst e2
      rw [uf_s, uf_n ho.2, if_pos rfl, ap_as]
      rfl
    · rw [if_neg e2, uf_n e2, uf_n e]
def tellS (n : Nat) (S : hS) (a pa : Nat) : Option hS := (if zar S pa then (if ib (zI S 2 a) (zLen S pa) then (zlb ((zAR S pa) (Int32.toNatClampNeg (zI S 2 a))) fun o5 => (zcP (yA_tell S (zI S 5 a) (zI S 3 a)) fun S6 o6 => (zob o5 fun a7 => (if ztg S6 a7 = 8 then (zcV (yW_append n S6 a7 o6) fun S8 => (if ztg S8 a = 10 then (if zar S8 pa then (if ib (zI S8 3 a) (zLen S8 pa) then (zlb ((zAR S8 pa) (Int32.toNatClampNeg (zI S8 3 a))) fun o9 => (zob o9 fun a10 => (if ztg S8 a10 = 8 then (zcV (yW_appendHear n S8 a10 (zI S8 2 a) (zI S8 5 a)) fun S11 => (some S11)) else none))) else none) else none) else none)) else none)))) else none) else none)
theorem sTell (h : StD S a sc) (hs : PWs sc) (hk : cK sc = 4) (hR : Rws S pa C t s) (hb : Bnd B pa C s) (hB : B ≤ S.1) (ha : a < B) (hq : S.1 + 4 < ie_S) (hn : 5 ≤ n) : ∃ S', tellS n S a pa = some S' ∧ StR B th S S' pa C t s (smA sc) ∧ S'.1 ≤ S.1 + 4 := by
  obtain ⟨hd, hk2, _, hl⟩ := hs
  have ho : cO sc < 6 ∧ cO sc ≠ cD sc := by
    rcases hk2 with q | ⟨_, q⟩
    · omega
    · exact q
  have hlab := hl hk
  have htell := tell_ok (S := S) (l := cL sc) (o := cO sc) (cL_lt sc) (by omega) (by omega)
  have mdN : Md2 S (nN S (cd 4 0 (cL sc) (cO sc) 0 0)) [] := nN_md
  obtain ⟨S1, e1, e2⟩ := new_app (n := n) (m := cd 4 0 (cL sc) (cO sc) 0 0) hR hd rfl (by omega) (by omega)
  generalize nN S (cd 4 0 (cL sc) (cO sc) 0 0) = N at htell mdN e1
  have RN := Rws_fr hR mdN
  obtain ⟨b1, b2⟩ := newR_b (th := th) hb hd hB e2
  obtain ⟨f1, f2, f3⟩ := e2
  have h1 : StD S1 a sc := StD_md h f2 (fun z => by
    rw [List.mem_cons] at z
    exact z.elim ((Rws_b hR hb ha).1 _ hd) ((Rws_b hR hb ha).2 _ hd))
  obtain ⟨S', c1, c2, c3, c4⟩ := rws_hear (n := n) (q := cO sc) (o := cD sc) (lab := cL sc) f1 ho.1 hd hlab (by omega) hn
  rw [uf_n ho.2, uf_n ho.2] at c2
  have b3 : Bnd B pa (ufC C (cO sc) (C (cO sc) ++ [(t (cO sc), s (cO sc), cd 5 0 0 (cD sc) 0 0, S1.1, cL sc)])) (uf (uf s (cD sc) (ap (s (cD sc)) (cn S.1 .nil .nil))) (cO sc) .nil) := by
    refine ⟨b1.1, fun q hq2 x hx => ?_⟩
    by_cases e : q = cO sc
    · subst e
      rw [ufC_s, uf_s, plS_app] at hx
      rcases (ad_pl (C (cO sc)) _).mp hx with hx | hx
      · exact hb.2 _ ho.1 x ((ad_pl _ (s (cO sc))).mpr (Or.inl hx))
      · have e : ad true (plS [(t (cO sc), s (cO sc), cd 5 0 0 (cD sc) 0 0, S1.1, cL sc)] .nil) = ad true (s (cO sc)) ++ (S1.1 :: (([] ++ []) ++ [])) := ad_ap (s (cO sc)) _
        rw [e, List.mem_append] at hx
        rcases hx with hx | hx
        · exact hb.2 _ ho.1 x ((ad_pl _ (s (cO sc))).mpr (Or.inr hx))
        · have hx' : x = S1.1 := by simpa using hx
          omega
    · rw [ufC_n e, uf_n e] at hx
      exact b1.2 q hq2 x hx
  have c3' := MdB_row (th := th) b1 ho.1 c3
  refine ⟨S', ?_, ⟨_, _, _, c2, fun p hp x => ?_, b3, MdB_t b2 c3'⟩, by omega⟩
  · obtain ⟨d1, d2, d3, d4, d5, d6, d7⟩ := h
    obtain ⟨g1, g2, g3, g4, g5, g6, g7⟩ := h1
    obtain ⟨r1, r2, r3, r4, _⟩ := hR
    obtain ⟨u1, u2, u3, u4, _⟩ := f1
    unfold tellS
    rw [if_pos (zar_26 r1), d3, r2, if_pos (j_in (by omega) hd), (j_n (n := cD sc) (by omega)).2, r3 _ hd, d6, d4 (Or.inr hk)]
    refine zlb_s.trans ((zcP_s htell).trans ((zob_s rfl).trans ?_))
    rw [if_pos (RN.2.2.2.1 _ hd).1]
    refine (zcV_s e1).trans ?_
    rw [if_pos g1, if_pos (zar_26 u1), g4 (Or.inr hk), u2, if_pos (j_in (by omega) ho.1), (j_n (n := cO sc) (by omega)).2, u3 _ ho.1, g3, g6]
    refine zlb_s.trans ((zob_s rfl).trans ?_)
    rw [if_pos (u4 _ ho.1).1]
    exact (zcV_s c1).trans rfl
  · unfold smA
    rw [if_neg (show ¬ cK sc = 1 by omega), if_neg (show ¬ cK sc = 2 by omega)]
    by_cases e : p = cD sc
    · subst e
      rw [ufC_n (Ne.symm ho.2), uf_n (Ne.symm ho.2), uf_s, if_pos rfl, ap_as]
      rfl
    · rw [if_neg e]
      by_cases e2 : p = cO sc
      · subst e2
        rw [ufC_s, uf_s, if_pos rfl, plT_app]
        rfl
      · rw [if_neg e2, ufC_n e2, uf_n e2, uf_n e]
end MB
