def Spt : Bool → Fo → Prop
  | true, .append (.tag a k) r => Spt false k ∧ Spt true r ∧ (∀ x, x ∈ ad false k → x ≠ a ∧ x ∉ ad true r) ∧ a ∉ ad true r
  | false, .append (.tag _ x) r => Spt true x ∧ Spt false r ∧ (∀ y, y ∈ ad true x → y ∉ ad false r)
  | _, _ => True
def Mdf (S S' : hS) (L : List Nat) : Prop := S'.1 = S.1 ∧ S'.2.1 = S.2.1 ∧ S'.2.2.1 = S.2.2.1 ∧ (∀ k b, k ≠ 7 ∨ b ∉ L → zI S' k b = zI S k b) ∧ zL S' = zL S ∧ zR S' = zR S ∧ zAI S' = zAI S ∧ (∀ b, (∀ a, a ∈ L → b ≠ a + 1) → zAR S' b = zAR S b) ∧ zAL S' = zAL S ∧ zMI S' = zMI S ∧ zMA S' = zMA S
def stP (S : hS) (a i : Nat) (v : Option Nat) : hS := szI (szAR S (a + 1) (va_up (zAR S (a + 1)) i v)) 7 a (zI S 7 a ||| (1 <<< (Int32.ofNat i &&& 31)))
section JP
variable {S S' S2 : hS} {a n i : Nat} {k : Fo} {L L2 : List Nat}
theorem Mdf_r : Mdf S S L := ⟨rfl, rfl, rfl, fun _ _ _ => rfl, rfl, rfl, rfl, fun _ _ => rfl, rfl, rfl, rfl⟩
theorem Mdf_t {L3 : List Nat} (h1 : Mdf S S' L) (h2 : Mdf S' S2 L2) (e1 : ∀ x, x ∈ L → x ∈ L3) (e2 : ∀ x, x ∈ L2 → x ∈ L3) : Mdf S S2 L3 := by
  obtain ⟨a1, a2, a3, a4, a5, a6, a7, a8, a9, a10, a11⟩ := h1
  obtain ⟨b1, b2, b3, b4, b5, b6, b7, b8, b9, b10, b11⟩ := h2
  refine ⟨b1.trans a1, b2.trans a2, b3.trans a3, fun k b h => ?_, b5.trans a5, b6.trans a6, b7.trans a7, fun b h => ?_, b9.trans a9, b10.trans a10, b11.trans a11⟩
  · rw [b4 k b (h.imp id (fun z w => z (e2 b w))), a4 k b (h.imp id (fun z w => z (e1 b w)))]
  · rw [b8 b (fun c hc => h c (e2 c hc)), a8 b (fun c hc => h c (e1 c hc))]
theorem Mdf_tg (h : Mdf S S' L) (x : Nat) : ztg S' x = ztg S x := by
  unfold ztg
  rw [h.1, h.2.1]
theorem Mdf_lk {x : Nat} (h : Mdf S S' L) (hx : x ∉ L) : Lk S S' x := ⟨fun k => h.2.2.2.1 k x (Or.inr hx), by rw [h.2.2.2.2.2.1], by rw [h.2.2.2.2.2.1], by rw [h.2.2.2.2.1], Mdf_tg h x, Mdf_tg h (x + 1), by unfold zLen; rw [h.2.2.1], h.2.2.2.2.2.2.2.1 (x + 1) (fun c hc e => hx (by rw [show x = c by omega]; exact hc))⟩
theorem zok_ok {v : Option Nat} (h : ztg S (a + 1) = 27) (hv : ∀ b, v = some b → ztg S b = 2) : zok S (a + 1) v = true := by
  unfold zok
  rw [h]
  cases v with
  | none => rfl
  | some b =>
    show (decide (24 ≤ 27) && decide (27 < 28) && (ztg S b == ie_kc (27 - 20) + 1)) = true
    rw [hv b rfl]
    rfl
theorem setP_ok {v : Option Nat} (ha : Ndd S a n k) (hi : i < pof (cK n)) (hv : ∀ b, v = some b → ztg S b = 2) : yA_setPart S a (Int32.ofNat i) v = some (stP S a i v) := by
  have hp := pof_le (cK n)
  obtain ⟨a1, _, a3, a4, a5, _⟩ := ha
  unfold yA_setPart
  rw [if_neg (show ¬ Int32.ofNat i < 0 from mt (j_lt (n := 0) (by omega) (by decide)).mp (by omega)), if_pos a1]
  refine zlb_s.trans ((zob_s a3).trans ?_)
  rw [if_pos (zal_27 a4).1, a5, if_neg (mt (j_le (by omega) (by omega)).mp (by omega))]
  refine zlb_s.trans ((zob_s a3).trans ?_)
  rw [if_pos a4, if_pos (zok_ok a4 hv), a5, if_pos (j_in (by omega) (by omega)), (j_n (n := i) (by omega)).2]
  rfl
theorem stP_m {v : Option Nat} : Mdf S (stP S a i v) [a] := by
  refine ⟨rfl, rfl, rfl, fun k b h => ?_, rfl, rfl, rfl, fun b h => ?_, rfl, rfl, rfl⟩
  · refine zup2_ne (fun e => ?_)
    rcases h with h | h
    · exact (h e).elim
    · exact fun z => h (by rw [z]; exact List.mem_cons_self)
  · exact zup_ne (h a List.mem_cons_self)
theorem stP_a {v : Option Nat} : zAR (stP S a i v) (a + 1) = va_up (zAR S (a + 1)) i v := if_pos rfl
theorem stP_7 {v : Option Nat} {x : Nat} (h : zI S 7 a = Int32.ofNat x) (hx : x < 1024) (hi : i < 10) : zI (stP S a i v) 7 a = Int32.ofNat (x ||| 2 ^ i) := by
  unfold stP
  rw [zI_self, h, bit_s x hx i hi]
theorem or_lt : ∀ x, x < 1024 → ∀ i, i < 10 → x ||| 2 ^ i < 1024 := by decide +kernel
theorem or_bit {x i j : Nat} : (x ||| 2 ^ i).testBit j = (x.testBit j || decide (i = j)) := by
  rw [Nat.testBit_or, Nat.testBit_two_pow]
end JP
def mkS : Fo → (Nat → Fo) → Fo
  | .append (.tag l _) r, f => cn l (f l) (mkS r f)
  | _, _ => .nil
section MK
variable {S : hS} {F : Nat → Option Nat} {f : Nat → Fo}
theorem mkS_rp : ∀ (c : Fo), So false c → (∀ i x, gid i c = some x → Rp S true x (f i) (fun _ => F i)) → Rp S false c (mkS c f) F := fun c hc => So_ind (P := fun m c => m = false → (∀ i x, gid i c = some x → Rp S true x (f i) (fun _ => F i)) → Rp S false c (mkS c f) F) (fun _ _ _ => trivial) (fun m l x r _ h2 h3 _ ih hm hg => by
    subst hm
    refine Rp_km (hg l x (by rw [gid_cn, if_pos rfl])) (ih rfl (fun i y hi => hg i y ?_))
    rw [gid_cn, if_neg, hi]
    intro e
    subst e
    rw [gid_lo h2 (Nat.lt_succ_self _) (h3 rfl)] at hi
    cases hi) c false hc rfl
theorem mkS_ad {y : Nat} : ∀ (c : Fo), So false c → y ∈ ad false (mkS c f) → ∃ i x, gid i c = some x ∧ y ∈ ad true (f i) := fun c hc => So_ind (P := fun m c => m = false → y ∈ ad false (mkS c f) → ∃ i x, gid i c = some x ∧ y ∈ ad true (f i)) (fun _ _ h => by cases h) (fun m l x r _ h2 h3 _ ih hm hy => by
    subst hm
    have hy' : y ∈ ad true (f l) ++ ad false (mkS r f) := hy
    rw [List.mem_append] at hy'
    rcases hy' with q | q
    · exact ⟨l, x, by rw [gid_cn, if_pos rfl], q⟩
    · obtain ⟨i, z, e1, e2⟩ := ih rfl q
      refine ⟨i, z, ?_, e2⟩
      rw [gid_cn, if_neg, e1]
      intro e
      subst e
      rw [gid_lo h2 (Nat.lt_succ_self _) (h3 rfl)] at e1
      cases e1) c false hc rfl
theorem mkS_sp : ∀ (c : Fo), So false c → (∀ i x, gid i c = some x → Spt true (f i)) → (∀ i j x y, gid i c = some x → gid j c = some y → i ≠ j → ∀ z, z ∈ ad true (f i) → z ∉ ad true (f j)) → Spt false (mkS c f) := fun c hc => So_ind (P := fun m c => m = false → (∀ i x, gid i c = some x → Spt true (f i)) → (∀ i j x y, gid i c = some x → gid j c = some y → i ≠ j → ∀ z, z ∈ ad true (f i) → z ∉ ad true (f j)) → Spt false (mkS c f)) (fun _ _ _ _ => trivial) (fun m l x r _ h2 h3 _ ih hm hg hd => by
    subst hm
    have up : ∀ i y, gid i r = some y → gid i (cn l x r) = some y ∧ i ≠ l := fun i y hi => by
      have : i ≠ l := by
        intro e
        subst e
        rw [gid_lo h2 (Nat.lt_succ_self _) (h3 rfl)] at hi
        cases hi
      exact ⟨by rw [gid_cn, if_neg this, hi], this⟩
    have hl : gid l (cn l x r) = some x := by rw [gid_cn, if_pos rfl]
    refine ⟨hg l x hl, ih rfl (fun i y hi => hg i y (up i y hi).1) (fun i j y z hi hj => hd i j y z (up i y hi).1 (up j z hj).1), fun y hy hn => ?_⟩
    obtain ⟨i, z, e1, e2⟩ := mkS_ad r h2 hn
    exact hd l i x z hl (up i z e1).1 (Ne.symm (up i z e1).2) y hy e2) c false hc rfl
theorem Spt_gid {i : Nat} {x : Fo} : ∀ (c : Fo), So false c → ∀ (sh : Fo) (G : Nat → Option Nat) (t : Fo), Rp S false c sh G → Spt false sh → gid i c = some t → gid i sh = some x → Spt true x := fun c hc => So_ind (P := fun m c => m = false → ∀ (sh : Fo) (G : Nat → Option Nat) (t : Fo), Rp S false c sh G → Spt false sh → gid i c = some t → gid i sh = some x → Spt true x) (fun _ _ _ _ _ _ _ h => by cases h) (fun m l y r _ _ _ _ ih hm sh G t hr hs h1 h2 => by
    subst hm
    obtain ⟨x', r', rfl, _, g2⟩ := Rp_k hr
    obtain ⟨s1, s2, _⟩ := hs
    rw [gid_cn] at h1 h2
    by_cases e : i = l
    · rw [if_pos e] at h2
      cases h2
      exact s1
    · rw [if_neg e] at h1 h2
      exact ih rfl r' G t g2 s2 h1 h2) c false hc rfl
theorem Spt_dis {i j : Nat} {x y : Fo} : ∀ (c : Fo), So false c → ∀ (sh : Fo) (G : Nat → Option Nat), Rp S false c sh G → Spt false sh → i ≠ j → gid i sh = some x → gid j sh = some y → ∀ z, z ∈ ad true x → z ∉ ad true y := fun c hc => So_ind (P := fun m c => m = false → ∀ (sh : Fo) (G : Nat → Option Nat), Rp S false c sh G → Spt false sh → i ≠ j → gid i sh = some x → gid j sh = some y → ∀ z, z ∈ ad true x → z ∉ ad true y) (fun m _ sh G hr _ _ h => by
    subst m
    rw [(Rp_n hr).1] at h
    cases h) (fun m l t r _ h2 _ _ ih hm sh G hr hs hne h1 h3 z hz => by
    subst hm
    obtain ⟨x', r', rfl, _, g2⟩ := Rp_k hr
    obtain ⟨s1, s2, s3⟩ := hs
    have mem : ∀ k w, gid k r' = some w → ∀ q, q ∈ ad true w → q ∈ ad false r' := fun k w hk q hq => by
      cases hg : gid k r with
      | none =>
        rw [Rp_gn h2 g2 hg] at hk
        cases hk
      | some t' =>
        obtain ⟨w', e1, _, e3⟩ := Rp_gid h2 g2 hg
        rw [hk] at e1
        cases e1
        exact e3 q hq
    rw [gid_cn] at h1 h3
    by_cases e : i = l
    · rw [if_pos e] at h1
      cases h1
      rw [if_neg (by omega)] at h3
      exact fun hw => s3 z hz (mem j y h3 z hw)
    · rw [if_neg e] at h1
      by_cases e2 : j = l
      · rw [if_pos e2] at h3
        cases h3
        exact fun hw => s3 z hw (mem i x h1 z hz)
      · rw [if_neg e2] at h3
        exact ih rfl r' G g2 s2 hne h1 h3 z hz) c false hc rfl
end MK
