def ufC (f : Nat → List Frm) (i : Nat) (s : List Frm) : Nat → List Frm := fun j => if j = i then s else f j
theorem ufC_s {f : Nat → List Frm} {i : Nat} {s : List Frm} : ufC f i s i = s := if_pos rfl
theorem ufC_n {f : Nat → List Frm} {i j : Nat} {s : List Frm} (h : j ≠ i) : ufC f i s j = f j := if_neg h
def Rws (S : hS) (pa : Nat) (C : Nat → List Frm) (t s : Nat → Fo) : Prop := ztg S pa = 26 ∧ zLen S pa = 6 ∧ (∀ p, p < 6 → zAR S pa p = some (pa + 1 + p)) ∧ (∀ p, p < 6 → RowO S (pa + 1 + p) (C p) (t p) (s p)) ∧ (∀ p q, p < 6 → q < 6 → p ≠ q → ∀ x, x ∈ ad true (plS (C p) (s p)) → x ∉ ad true (plS (C q) (s q)))
section RW
variable {S S' : hS} {pa n : Nat} {C : Nat → List Frm} {t s : Nat → Fo} {L : List Nat}
theorem Rws_w {p x : Nat} (h : Rws S pa C t s) (hp : p < 6) (q : Nat) (hq : q < 6) (hx : x ∈ ad true (plS (C p) (s p))) : x ≠ pa + 1 + q ∧ x ≠ pa := by
  have a := (RowO_nd (h.2.2.2.1 p hp) x hx).1
  refine ⟨fun e => ?_, fun e => ?_⟩
  · have b := (h.2.2.2.1 q hq).1
    rw [← e, a] at b
    cases b
  · have b := h.1
    rw [← e, a] at b
    cases b
theorem Rws_md (h : Rws S pa C t s) (md : Md2 S S' L) (h1 : ∀ p, p < 6 → pa + 1 + p ∉ L) (h2 : ∀ p, p < 6 → ∀ x, x ∈ ad true (plS (C p) (s p)) → x ∉ L) : Rws S' pa C t s := by
  obtain ⟨a1, a2, a3, a4, a5⟩ := h
  have pl := (ztg_lt a1).1
  refine ⟨Md2_tg md a1, by rw [(md.2.1 pa pl).2.1]; exact a2, fun p hp => ?_, fun p hp => RowO_md (a4 p hp) md (h1 p hp) (h2 p hp), a5⟩
  rw [md.2.2.2.2.1 pa pl (Or.inl (by rw [(ztg_lt a1).2.2]; decide))]
  exact a3 p hp
theorem Rws_fr (h : Rws S pa C t s) (md : Md2 S S' []) : Rws S' pa C t s := Rws_md h md (fun _ _ z => by cases z) (fun _ _ _ _ z => by cases z)
theorem Rws_up {p : Nat} {C' : List Frm} {t' s' : Fo} (h : Rws S pa C t s) (hp : p < 6) (md : Md2 S S' ((pa + 1 + p) :: ad true (plS (C p) (s p)))) (hr : RowO S' (pa + 1 + p) C' t' s') (hd : ∀ q, q < 6 → q ≠ p → ∀ x, x ∈ ad true (plS C' s') → x ∉ ad true (plS (C q) (s q))) : Rws S' pa (ufC C p C') (uf t p t') (uf s p s') := by
  have h0 := h
  obtain ⟨a1, a2, a3, a4, a5⟩ := h
  have pl := (ztg_lt a1).1
  refine ⟨Md2_tg md a1, by rw [(md.2.1 pa pl).2.1]; exact a2, fun q hq => ?_, fun q hq => ?_, fun q r hq hr2 hne x hx => ?_⟩
  · rw [md.2.2.2.2.1 pa pl (Or.inl (by rw [(ztg_lt a1).2.2]; decide))]
    exact a3 q hq
  · by_cases e : q = p
    · subst e
      rw [ufC_s, uf_s, uf_s]
      exact hr
    · rw [ufC_n e, uf_n e, uf_n e]
      refine RowO_md (a4 q hq) md (fun z => ?_) (fun x hx z => ?_)
      · rw [List.mem_cons] at z
        rcases z with z | z
        · omega
        · exact (Rws_w h0 hp q hq z).1 rfl
      · rw [List.mem_cons] at z
        rcases z with z | z
        · exact (Rws_w h0 hq p hp hx).1 z
        · exact a5 q p hq hp e x hx z
  · by_cases e : q = p
    · subst e
      rw [ufC_s, uf_s] at hx
      rw [ufC_n (Ne.symm hne), uf_n (Ne.symm hne)]
      exact hd r hr2 (Ne.symm hne) x hx
    · rw [ufC_n e, uf_n e] at hx
      by_cases e2 : r = p
      · subst e2
        rw [ufC_s, uf_s]
        exact fun z => hd q hq e x z hx
      · rw [ufC_n e2, uf_n e2]
        exact a5 q r hq hr2 hne x hx
theorem rws_app {p : Nat} {y sy : Fo} {G : Nat → Option Nat} (h : Rws S pa C t s) (hp : p < 6) (hs : So true y) (hy : Rp S true y sy G) (spy : Spt true sy) (dis : ∀ q, q < 6 → ∀ x, x ∈ ad true (plS (C q) (s q)) → x ∉ ad true sy) (hn : nq true y + 1 ≤ n) : ∃ S', yW_append n S (pa + 1 + p) (G 0) = some S' ∧ Rws S' pa C (uf t p (ap (t p) y)) (uf s p (ap (s p) sy)) ∧ Md2 S S' ((pa + 1 + p) :: ad true (plS (C p) (s p))) ∧ S'.1 = S.1 := by
  obtain ⟨S', e1, e2, e3, e4⟩ := app_any (n := n) (h.2.2.2.1 p hp) hs hy spy (dis p hp) hn
  have hu := Rws_up (C' := C p) h hp e3 e2 (fun q hq hne x hx z => by
    rcases (ad_pl (C p) _).mp hx with hx | hx
    · exact h.2.2.2.2 p q hp hq (Ne.symm hne) x ((ad_pl (C p) (s p)).mpr (Or.inl hx)) z
    · rw [ad_ap, List.mem_append] at hx
      rcases hx with hx | hx
      · exact h.2.2.2.2 p q hp hq (Ne.symm hne) x ((ad_pl (C p) (s p)).mpr (Or.inr hx)) z
      · exact dis q hq x z hx)
  have eC : ufC C p (C p) = C := by
    funext j
    unfold ufC
    split
    · next e => rw [e]
    · rfl
  rw [eC] at hu
  exact ⟨S', e1, hu, e3, e4⟩
theorem Rws_lt {p x : Nat} (h : Rws S pa C t s) (hp : p < 6) (hx : x ∈ ad true (plS (C p) (s p))) : x + 1 < S.1 := RowO_lt (h.2.2.2.1 p hp) hx
def StD (S : hS) (a sc : Nat) : Prop := ztg S a = 10 ∧ zI S 1 a = Int32.ofNat (cK sc) ∧ zI S 2 a = Int32.ofNat (cD sc) ∧ (cK sc = 2 ∨ cK sc = 4 → zI S 3 a = Int32.ofNat (cO sc)) ∧ zI S 4 a = Int32.ofNat (cV sc) ∧ zI S 5 a = Int32.ofNat (cL sc) ∧ zL S a = Int64.ofNat (cE sc)
theorem StD_md {a sc : Nat} (h : StD S a sc) (md : Md2 S S' L) (ha : a ∉ L) : StD S' a sc := by
  obtain ⟨h1, h2, h3, h4, h5, h6, h7⟩ := h
  have al := (ztg_lt h1).1
  have e := fun k => (md.2.2.1 k a al ha).1
  exact ⟨Md2_tg md h1, by rw [e]; exact h2, by rw [e]; exact h3, fun z => by rw [e]; exact h4 z, by rw [e]; exact h5, by rw [e]; exact h6, by rw [md.2.2.2.1 a al ha]; exact h7⟩
def newR (S : hS) (pa p : Nat) (C : Nat → List Frm) (t s : Nat → Fo) (m : Nat) (S' : hS) : Prop := Rws S' pa C (uf t p (ap (t p) (cn m .nil .nil))) (uf s p (ap (s p) (cn S.1 .nil .nil))) ∧ Md2 S S' ((pa + 1 + p) :: ad true (plS (C p) (s p))) ∧ S'.1 = S.1 + 2
theorem new_app {p m : Nat} {N : hS} (h : Rws S pa C t s) (hp : p < 6) (hN : N = nN S m) (hq : S.1 + 2 < ie_S) (hn : 2 ≤ n) : ∃ S', yW_append n N (pa + 1 + p) (some S.1) = some S' ∧ newR S pa p C t s m S' := by
  obtain ⟨n1, n2, n3⟩ := nN_nd (S := S) (n := m) hq
  have mdN : Md2 S (nN S m) [] := nN_md
  have eN : (nN S m).1 = S.1 + 2 := nN_1
  rw [← hN] at n1 n2 n3 mdN eN
  have hR := Rws_fr h mdN
  have rp : Rp N true (cn m .nil .nil) (cn S.1 .nil .nil) (fun _ => some S.1) := Rp_rm rfl n1 trivial n2
  obtain ⟨S', e1, e2, e3, e4⟩ := rws_app (n := n) (y := cn m .nil .nil) (sy := cn S.1 .nil .nil) (G := fun _ => some S.1) hR hp ⟨So_nil, So_nil, fun z => Bool.noConfusion z⟩ rp ⟨trivial, trivial, fun _ z => (by cases z), fun z => (by cases z)⟩ (fun q hq2 x hx hy => by
    have e : ad true (cn S.1 .nil .nil) = [S.1] := rfl
    rw [e, List.mem_singleton] at hy
    have := Rws_lt h hq2 hx
    omega) (show nq true (cn m .nil .nil) + 1 ≤ n from (by show 1 + 0 + 0 + 1 ≤ n; omega))
  exact ⟨S', e1, e2, Md2_t mdN e3 (fun x z => by cases z) (fun x z _ => z) (fun x z _ => z), by rw [e4, eN]⟩
end RW
