theorem nar_o : ∀ c, c < 256 → vp_nar .char (i_ch (Int32.ofNat c)) = Int32.ofNat c := by decide +kernel
def stX (S : hS) (f : Nat → Nat → Int32) (g : Nat → Nat → Int32) : hS := (S.1, S.2.1, S.2.2.1, f, S.2.2.2.2.1, S.2.2.2.2.2.1, g, S.2.2.2.2.2.2.2.1, S.2.2.2.2.2.2.2.2.1, S.2.2.2.2.2.2.2.2.2.1, S.2.2.2.2.2.2.2.2.2.2)
def MdX (th b : Nat) (S S' : hS) : Prop := ∃ f g, S' = stX S f g ∧ (∀ k a, (k ≠ 1 ∨ a ≠ th) → f k a = zI S k a) ∧ (∀ a, a ≠ b → g a = zAI S a)
def XT (S : hS) (th b : Nat) (L : List Nat) : Prop := ztg S th = 4 ∧ zR S 0 th = some b ∧ ztg S b = 21 ∧ zLen S b = 600 ∧ zI S 1 th = Int32.ofNat L.length ∧ L.length ≤ 600 ∧ ∀ i, i < L.length → zAI S b i = Int32.ofNat (L.getD i 0)
theorem gD_r {L : List Nat} {c i : Nat} : (L ++ [c]).getD i 0 = if i = L.length then c else L.getD i 0 := by
  rw [List.getD_eq_getElem?_getD, List.getD_eq_getElem?_getD]
  rcases Nat.lt_trichotomy i L.length with h | h | h
  · rw [List.getElem?_append_left h, if_neg (by omega)]
  · subst h
    rw [List.getElem?_append_right (Nat.le_refl _), Nat.sub_self, if_pos rfl]
    rfl
  · rw [if_neg (by omega), List.getElem?_eq_none (by rw [List.length_append]; exact h), List.getElem?_eq_none (by omega)]
section WR
variable {S S' S2 : hS} {th b a na : Nat} {L : List Nat}
theorem MdX_r : MdX th b S S := ⟨zI S, zAI S, rfl, fun _ _ _ => rfl, fun _ _ => rfl⟩
theorem MdX_t (h1 : MdX th b S S') (h2 : MdX th b S' S2) : MdX th b S S2 := by
  obtain ⟨f, g, rfl, hf, hg⟩ := h1
  obtain ⟨f2, g2, rfl, hf2, hg2⟩ := h2
  exact ⟨f2, g2, rfl, fun k a h => (hf2 k a h).trans (hf k a h), fun a h => (hg2 a h).trans (hg a h)⟩
theorem MdX_I (h : MdX th b S S') {k x : Nat} (e : k ≠ 1 ∨ x ≠ th) : zI S' k x = zI S k x := by
  obtain ⟨f, g, rfl, hf, hg⟩ := h
  exact hf k x e
theorem MdX_tg (h : MdX th b S S') (x : Nat) : ztg S' x = ztg S x := by
  obtain ⟨f, g, rfl, hf, hg⟩ := h
  rfl
theorem MdX_R (h : MdX th b S S') : zR S' = zR S := by
  obtain ⟨f, g, rfl, hf, hg⟩ := h
  rfl
theorem MdX_L (h : MdX th b S S') : zL S' = zL S := by
  obtain ⟨f, g, rfl, hf, hg⟩ := h
  rfl
theorem MdX_A (h : MdX th b S S') : zAR S' = zAR S := by
  obtain ⟨f, g, rfl, hf, hg⟩ := h
  rfl
theorem MdX_lk {x : Nat} (h : MdX th b S S') (hx : x ≠ th) : Lk S S' x := by
  obtain ⟨f, g, rfl, hf, hg⟩ := h
  exact ⟨fun k => hf k x (Or.inr hx), rfl, rfl, rfl, rfl, rfl, rfl, rfl⟩
theorem Ndd_mX {k : Fo} (h : Ndd S a na k) (md : MdX th b S S') (hx : a ≠ th) : Ndd S' a na k := by
  obtain ⟨f, g, rfl, hf, hg⟩ := md
  obtain ⟨h1, ⟨c1, c2, c3, c4, c5, c6⟩, h3, h4, h5, ⟨x, x1, x2, x3⟩, h7⟩ := h
  exact ⟨h1, ⟨(hf 0 a (Or.inr hx)).trans c1, (hf 1 a (Or.inr hx)).trans c2, (hf 2 a (Or.inr hx)).trans c3, (hf 3 a (Or.inr hx)).trans c4, (hf 4 a (Or.inr hx)).trans c5, c6⟩, h3, h4, h5, ⟨x, x1, (hf 7 a (Or.inr hx)).trans x2, x3⟩, h7⟩
theorem Rp_mX {t sh : Fo} {m : Bool} {G : Nat → Option Nat} (hs : So m t) (h : Rp S m t sh G) (md : MdX th b S S') (ht : ztg S th = 4) : Rp S' m t sh G := Rp_fr t m hs sh G h (fun x hx => MdX_lk md (fun e => by
    have := (Rp_nd t m hs sh G h x hx).1
    rw [e, ht] at this
    exact absurd this (by decide)))
theorem nd_th {k : Fo} (h : Ndd S a na k) (ht : ztg S th = 4) : a ≠ th := fun e => by
  have := h.1
  rw [e, ht] at this
  exact absurd this (by decide)
theorem put_ok {x1 x2 : Int32} {c : Nat} (h : XT S th b L) (hc : x1 + x2 = Int32.ofNat c) (hc2 : c < 256) (hl : L.length < 600) : ∃ S', yX_put S th x1 x2 = some S' ∧ MdX th b S S' ∧ XT S' th b (L ++ [c]) := by
  obtain ⟨h1, h2, h3, h4, h5, h6, h7⟩ := h
  have hz : zal S b := by
    unfold zal
    rw [h3]
    decide
  refine ⟨szI (szAI S b (upd (zAI S b) L.length (Int32.ofNat c))) 1 th (Int32.ofNat (L.length + 1)), ?_, ⟨zI (szI S 1 th (Int32.ofNat (L.length + 1))), zAI (szAI S b (upd (zAI S b) L.length (Int32.ofNat c))), rfl, fun k x e => ?_, fun x e => zup_ne e⟩, ?_⟩
  · unfold yX_put
    rw [if_pos h1]
    refine zlb_s.trans ((zob_s h2).trans ?_)
    rw [if_pos hz, h4, h5, if_neg (mt (j_le (n := L.length) (by omega) (by omega)).mp (by omega))]
    refine zlb_s.trans ((zob_s h2).trans ?_)
    rw [if_pos h3, if_pos (j_in (by omega) (by omega)), (j_n (n := L.length) (by omega)).2, hc, nar_o c hc2, o1]
  · refine zup2_ne (fun e2 => ?_)
    rcases e with e | e
    · exact (e e2).elim
    · exact e
  · refine ⟨h1, h2, h3, h4, ?_, ?_, fun i hi => ?_⟩
    · rw [List.length_append]
      exact zI_self _ _ _ _
    · rw [List.length_append]
      show L.length + 1 ≤ 600
      omega
    · rw [List.length_append] at hi
      have hi : i < L.length + 1 := hi
      show (if b = b then upd (zAI S b) L.length (Int32.ofNat c) else zAI S b) i = _
      rw [if_pos rfl]
      by_cases e : i = L.length
      · subst e
        rw [gD_r, if_pos rfl]
        exact upd_s
      · rw [gD_r, if_neg e, ← h7 i (by omega)]
        exact upd_n e
end WR
