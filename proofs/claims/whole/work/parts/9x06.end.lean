def orE (v E : Option Nat) : Option Nat := match v with
  | none => E
  | some b => some b
def MdT (S S' : hS) (lo hi : Nat) : Prop := ∃ f, S' = stR S f ∧ ∀ k b, (k ≠ 10 ∨ ∀ q, lo ≤ q → q < hi → zI S 0 b ≠ Int32.ofNat q) → f k b = zR S k b
def SN (S : hS) (D : Nat → Nat) (lw : Nat) : Fo → Option Nat → Prop
  | .append (.tag q .nil) r, v => ∃ b, v = some b ∧ (lw ≤ b ∧ b < S.1 ∧ q < 1000) ∧ StD S b (D q) ∧ zI S 0 b = Int32.ofNat q ∧ zR S 7 b = none ∧ zR S 8 b = none ∧ SN S D lw r (zR S 9 b)
  | .append (.tag q (.append (.tag _ t1) .nil)) r, v => ∃ b, v = some b ∧ (lw ≤ b ∧ b < S.1 ∧ q < 1000) ∧ StD S b (D q) ∧ zI S 0 b = Int32.ofNat q ∧ SN S D lw t1 (zR S 7 b) ∧ zR S 8 b = none ∧ SN S D lw r (zR S 9 b)
  | .append (.tag q (.append (.tag _ t1) (.append (.tag _ t2) .nil))) r, v => ∃ b, v = some b ∧ (lw ≤ b ∧ b < S.1 ∧ q < 1000) ∧ StD S b (D q) ∧ zI S 0 b = Int32.ofNat q ∧ SN S D lw t1 (zR S 7 b) ∧ SN S D lw t2 (zR S 8 b) ∧ SN S D lw r (zR S 9 b)
  | .nil, v => v = none
  | _, _ => False
def SB (S : hS) : Fo → Option Nat → Option Nat → Prop
  | .append (.tag q .nil) r, v, E => ∃ b, v = some b ∧ zI S 0 b = Int32.ofNat q ∧ zR S 10 b = orE (zR S 9 b) E ∧ SB S r (zR S 9 b) E
  | .append (.tag q (.append (.tag _ t1) .nil)) r, v, E => ∃ b, v = some b ∧ zI S 0 b = Int32.ofNat q ∧ zR S 10 b = orE (zR S 9 b) E ∧ SB S t1 (zR S 7 b) (some b) ∧ SB S r (zR S 9 b) E
  | .append (.tag q (.append (.tag _ t1) (.append (.tag _ t2) .nil))) r, v, E => ∃ b, v = some b ∧ zI S 0 b = Int32.ofNat q ∧ zR S 10 b = orE (zR S 9 b) E ∧ SB S t1 (zR S 7 b) (zR S 10 b) ∧ SB S t2 (zR S 8 b) (zR S 10 b) ∧ SB S r (zR S 9 b) E
  | .nil, _, _ => True
  | _, _, _ => False
def PI : Fo → Nat → Nat → Prop
  | .append (.tag q .nil) r, lo, hi => lo ≤ q ∧ PI r (q + 1) hi
  | .append (.tag q (.append (.tag _ t1) .nil)) r, lo, hi => lo ≤ q ∧ ∃ m, PI t1 (q + 1) m ∧ PI r m hi
  | .append (.tag q (.append (.tag _ t1) (.append (.tag _ t2) .nil))) r, lo, hi => lo ≤ q ∧ ∃ m1 m2, PI t1 (q + 1) m1 ∧ PI t2 m1 m2 ∧ PI r m2 hi
  | .nil, lo, hi => lo ≤ hi
  | _, _, _ => False
theorem zoc_N {β : Type} {x : Option β} {f : Nat → Option β} : zoc none x f = x := rfl
theorem zoc_S {β : Type} {x : Option β} {f : Nat → Option β} {a : Nat} : zoc (some a) x f = f a := rfl
section SE
variable {S S' S2 : hS} {D : Nat → Nat} {n b lo hi lo2 hi2 lw : Nat} {E v w : Option Nat}
theorem MdT_r : MdT S S lo hi := ⟨zR S, rfl, fun _ _ _ => rfl⟩
theorem MdT_t {l h : Nat} (h1 : MdT S S' lo hi) (h2 : MdT S' S2 lo2 hi2) (e1 : l ≤ lo) (e2 : hi ≤ h) (e3 : l ≤ lo2) (e4 : hi2 ≤ h) : MdT S S2 l h := by
  obtain ⟨f, rfl, hf⟩ := h1
  obtain ⟨g, rfl, hg⟩ := h2
  exact ⟨g, rfl, fun k b h => (hg k b (h.imp id (fun z q q1 q2 => z q (by omega) (by omega)))).trans (hf k b (h.imp id (fun z q q1 q2 => z q (by omega) (by omega))))⟩
theorem MdT_s (hb : zI S 0 b = Int32.ofNat lo) : MdT S (szR S 10 b w) lo (lo + 1) := ⟨zR (szR S 10 b w), rfl, fun k c h => zR_q (fun e => by
    rcases h with h | h
    · exact (h e).elim
    · exact fun z => h lo (Nat.le_refl _) (Nat.lt_succ_self _) (by rw [z]; exact hb))⟩
theorem MdT_R (h : MdT S S' lo hi) {k c : Nat} (e : k ≠ 10) : zR S' k c = zR S k c := by
  obtain ⟨f, rfl, hf⟩ := h
  exact hf k c (Or.inl e)
theorem MdT_R2 (h : MdT S S' lo hi) {k c q : Nat} (hq : zI S 0 c = Int32.ofNat q) (q1 : q < 1000) (h1 : hi ≤ 1000) (e : q < lo ∨ hi ≤ q) : zR S' k c = zR S k c := by
  obtain ⟨f, rfl, hf⟩ := h
  refine hf k c (Or.inr (fun p p1 p2 z => ?_))
  have := (j_eq (m := q) (n := p) (by omega) (by omega)).mp (hq.symm.trans z)
  omega
theorem MdT_I (h : MdT S S' lo hi) : zI S' = zI S := by
  obtain ⟨f, rfl, hf⟩ := h
  rfl
theorem MdT_tg (h : MdT S S' lo hi) (x : Nat) : ztg S' x = ztg S x := by
  obtain ⟨f, rfl, hf⟩ := h
  rfl
theorem MdT_1 (h : MdT S S' lo hi) : S'.1 = S.1 := by
  obtain ⟨f, rfl, hf⟩ := h
  rfl
theorem StD_T {sc : Nat} (h : MdT S S' lo hi) (hs : StD S b sc) : StD S' b sc := by
  obtain ⟨f, rfl, hf⟩ := h
  exact hs
theorem SN_T (h : MdT S S' lo hi) : ∀ (t : Fo), PW D t → ∀ v, SN S D lw t v → SN S' D lw t v := by
  refine PW_ind (fun v h => h) (fun q r _ _ ih v hv => ?_) (fun q i t1 r _ _ _ _ ih1 ih2 v hv => ?_) (fun q i j t1 t2 r _ _ _ _ _ ih1 ih2 ih3 v hv => ?_)
  all_goals
    obtain ⟨b, h1, h2, h3, h4, h5, h6, h7⟩ := hv
    refine ⟨b, h1, ⟨h2.1, by rw [MdT_1 h]; exact h2.2.1, h2.2.2⟩, StD_T h h3, by rw [MdT_I h]; exact h4, ?_, ?_, ?_⟩
    all_goals rw [MdT_R h (by decide)]
  · exact h5
  · exact h6
  · exact ih _ h7
  · exact ih1 _ h5
  · exact h6
  · exact ih2 _ h7
  · exact ih1 _ h5
  · exact ih2 _ h6
  · exact ih3 _ h7
theorem PI_le : ∀ (t : Fo), PW D t → ∀ lo hi, PI t lo hi → lo ≤ hi := by
  refine PW_ind (fun lo hi h => h) (fun q r _ _ ih lo hi h => ?_) (fun q i t1 r _ _ _ _ ih1 ih2 lo hi h => ?_) (fun q i j t1 t2 r _ _ _ _ _ ih1 ih2 ih3 lo hi h => ?_)
  · have := ih _ _ h.2
    have := h.1
    omega
  · obtain ⟨h1, m, h2, h3⟩ := h
    have := ih1 _ _ h2
    have := ih2 _ _ h3
    omega
  · obtain ⟨h1, m, m2, h2, h3, h4⟩ := h
    have := ih1 _ _ h2
    have := ih2 _ _ h3
    have := ih3 _ _ h4
    omega
theorem SB_T (h : MdT S S' lo hi) (hh : hi ≤ 1000) : ∀ (t : Fo), PW D t → ∀ v E l2 h2, SN S D lw t v → PI t l2 h2 → (h2 ≤ lo ∨ hi ≤ l2) → SB S t v E → SB S' t v E := by
  refine PW_ind (fun _ _ _ _ _ _ _ h => h) (fun q r _ pr ih v E l2 h2 hn hp hd hs => ?_) (fun q i t1 r _ _ p1 pr ih1 ih2 v E l2 h2 hn hp hd hs => ?_) (fun q i j t1 t2 r _ _ p1 p2 pr ih1 ih2 ih3 v E l2 h2 hn hp hd hs => ?_)
  · obtain ⟨b, a1, a2, a3, a4, a5, a6, a7⟩ := hn
    obtain ⟨b', c1, c2, c3, c4⟩ := hs
    rw [a1] at c1
    cases c1
    have hl := PI_le r pr _ _ hp.2
    have hp1 := hp.1
    refine ⟨b, a1, by rw [MdT_I h]; exact c2, ?_, ?_⟩
    · rw [MdT_R2 h c2 a2.2.2 hh (by omega), MdT_R h (k := 9) (by decide)]
      exact c3
    · rw [MdT_R h (k := 9) (by decide)]
      exact ih _ E _ _ a7 hp.2 (by omega) c4
  · obtain ⟨b, a1, a2, a3, a4, a5, a6, a7⟩ := hn
    obtain ⟨b', c1, c2, c3, c4, c5⟩ := hs
    rw [a1] at c1
    cases c1
    obtain ⟨hp1, m, hp2, hp3⟩ := hp
    have hl := PI_le r pr _ _ hp3
    have hl1 := PI_le t1 p1 _ _ hp2
    refine ⟨b, a1, by rw [MdT_I h]; exact c2, ?_, ?_, ?_⟩
    · rw [MdT_R2 h c2 a2.2.2 hh (by omega), MdT_R h (k := 9) (by decide)]
      exact c3
    · rw [MdT_R h (k := 7) (by decide)]
      exact ih1 _ _ _ _ a5 hp2 (by omega) c4
    · rw [MdT_R h (k := 9) (by decide)]
      exact ih2 _ E _ _ a7 hp3 (by omega) c5
  · obtain ⟨b, a1, a2, a3, a4, a5, a6, a7⟩ := hn
    obtain ⟨b', c1, c2, c3, c4, c5, c6⟩ := hs
    rw [a1] at c1
    cases c1
    obtain ⟨hp1, m, m2, hp2, hp3, hp4⟩ := hp
    have hl := PI_le r pr _ _ hp4
    have hl1 := PI_le t1 p1 _ _ hp2
    have hl2 := PI_le t2 p2 _ _ hp3
    have e10 : zR S' 10 b = zR S 10 b := MdT_R2 h c2 a2.2.2 hh (by omega)
    refine ⟨b, a1, by rw [MdT_I h]; exact c2, ?_, ?_, ?_, ?_⟩
    · rw [e10, MdT_R h (k := 9) (by decide)]
      exact c3
    · rw [e10, MdT_R h (k := 7) (by decide)]
      exact ih1 _ _ _ _ a5 hp2 (by omega) c4
    · rw [e10, MdT_R h (k := 8) (by decide)]
      exact ih2 _ _ _ _ a6 hp3 (by omega) c5
    · rw [MdT_R h (k := 9) (by decide)]
      exact ih3 _ E _ _ a7 hp4 (by omega) c6
theorem se_step {rc : hS → Option Nat → Option Nat → Int32 → Option hS} {S1 : hS} {d : Int32} (h1 : ztg S b = 10) (hw : w = orE (zR S 9 b) E) (c1 : rc (szR S 10 b w) (zR S 7 b) (if zI S 1 b = 7 then some b else w) (d + 1) = some S1) (m1 : MdT (szR S 10 b w) S1 lo hi) (e1 : zR S1 10 b = w) (c2 : rc S1 (zR S 8 b) w (d + 1) = some S2) (m2 : MdT S1 S2 lo2 hi2) : yS_settle_9 rc (n + 1) S E d (some b) = yS_settle_9 rc n S2 E d (zR S 9 b) := by
  have t1 : ztg S1 b = 10 := (MdT_tg m1 b).trans h1
  have t2 : ztg S2 b = 10 := (MdT_tg m2 b).trans t1
  have r8 : zR S1 8 b = zR S 8 b := (MdT_R m1 (by decide)).trans (zR_q (fun e => absurd e (by decide)))
  have r9 : zR S2 9 b = zR S 9 b := (MdT_R m2 (by decide)).trans ((MdT_R m1 (by decide)).trans (zR_q (fun e => absurd e (by decide))))
  rw [yS_settle_9]
  show (if ztg S b = 10 then _ else none) = _
  rw [if_pos h1]
  have fin : (zcV (some S1) fun S5 => (if ztg S5 b = 10 then (zlb (zR S5 8 b) fun o6 => (zlb (zR S5 10 b) fun o7 => (zcV (rc S5 o6 o7 (d + 1)) fun S8 => (if ztg S8 b = 10 then (zlb (zR S8 9 b) fun o9 => (yS_settle_9 rc n S8 E d o9)) else none)))) else none)) = yS_settle_9 rc n S2 E d (zR S 9 b) := by
    show (if ztg S1 b = 10 then _ else none) = _
    rw [if_pos t1]
    refine zlb_s.trans (zlb_s.trans ?_)
    rw [r8, e1, c2]
    show (if ztg S2 b = 10 then _ else none) = _
    rw [if_pos t2]
    refine zlb_s.trans ?_
    rw [r9]
  refine zlb_s.trans ?_
  cases h9 : zR S 9 b with
  | none =>
    rw [h9] at hw fin
    have hw : w = E := hw
    subst hw
    rw [← fin]
    refine zoc_N.trans (zlb_s.trans ?_)
    by_cases q : zI S 1 b = 7
    · rw [if_pos q] at c1 ⊢
      rw [← c1]
    · rw [if_neg q] at c1 ⊢
      rw [← c1]
  | some c =>
    rw [h9] at hw fin
    have hw : w = some c := hw
    subst hw
    rw [← fin]
    refine zoc_S.trans (zlb_s.trans (zlb_s.trans ?_))
    by_cases q : zI S 1 b = 7
    · rw [if_pos q] at c1 ⊢
      rw [← c1]
    · rw [if_neg q] at c1 ⊢
      rw [← c1]
theorem se_nil {x : Int32} {r : Nat} (hr : 0 < r) (hn : 0 < n) : yS_settle n r S none E x = some S := by
  obtain ⟨r, rfl⟩ : ∃ k, r = k + 1 := ⟨r - 1, by omega⟩
  obtain ⟨n, rfl⟩ : ∃ k, n = k + 1 := ⟨n - 1, by omega⟩
  rw [yS_settle]
  split
  · rfl
  · rfl
def SeR (n : Nat) (D : Nat → Nat) (lw : Nat) (t : Fo) : Prop := ∀ (S : hS) (v E : Option Nat) (r d m lo hi : Nat), SN S D lw t v → PI t lo hi → hi ≤ 1000 → dpt t < 2 * r → 2 * d + dpt t ≤ 12 → nsm t + 1 ≤ m → nsm t + 1 ≤ n → ∃ S', yS_settle_9 (yS_settle n r) m S E (Int32.ofNat d) v = some S' ∧ MdT S S' lo hi ∧ SB S' t v E
theorem Se_top {t : Fo} {r d : Nat} (h : SeR n D lw t) (h1 : SN S D lw t v) (h2 : PI t lo hi) (h3 : hi ≤ 1000) (hr : dpt t + 2 < 2 * r) (hd : 2 * d + dpt t ≤ 12) (hn : nsm t + 1 ≤ n) : ∃ S', yS_settle n r S v E (Int32.ofNat d) = some S' ∧ MdT S S' lo hi ∧ SB S' t v E := by
  obtain ⟨r, rfl⟩ : ∃ k, r = k + 1 := ⟨r - 1, by omega⟩
  rw [yS_settle, if_pos (show Int32.ofNat d ≤ 6 from (j_le (n := 6) (by omega) (by decide)).mpr (by omega))]
  exact h S v E r d n lo hi h1 h2 h3 (by omega) hd hn hn
theorem MdT_m {l h : Nat} (h1 : MdT S S' lo hi) (e1 : l ≤ lo) (e2 : hi ≤ h) : MdT S S' l h := MdT_t h1 (MdT_r (lo := lo) (hi := hi)) e1 e2 e1 e2
theorem se_all : ∀ (t : Fo), PW D t → SeR n D lw t := by
  refine PW_ind (fun S v E r d m lo hi h hp _ _ _ hm _ => ?_) (fun q r0 ps pr ih S v E r d m lo hi h hp hh hr hd hm hn => ?_) (fun q i t1 r0 k7 _ p1 pr ih1 ih2 S v E r d m lo hi h hp hh hr hd hm hn => ?_) (fun q i j t1 t2 r0 k6 _ p1 p2 pr ih1 ih2 ih3 S v E r d m lo hi h hp hh hr hd hm hn => ?_)
  · obtain ⟨m, rfl⟩ : ∃ k, m = k + 1 := ⟨m - 1, by omega⟩
    have h : v = none := h
    subst h
    exact ⟨S, rfl, MdT_r, trivial⟩
  · have e1 : dpt (cn q .nil r0) = dpt r0 := rfl
    have e2 : nsm (cn q .nil r0) = 1 + nsm r0 := rfl
    obtain ⟨m, rfl⟩ : ∃ k, m = k + 1 := ⟨m - 1, by omega⟩
    obtain ⟨b, h1, h2, h3, h4, h5, h6, h7⟩ := h
    obtain ⟨hp1, hp2⟩ := hp
    have hl := PI_le r0 pr _ _ hp2
    subst h1
    have m0 : MdT S (szR S 10 b (orE (zR S 9 b) E)) q (q + 1) := MdT_s h4
    have st := se_step (rc := yS_settle n r) (n := m) (w := orE (zR S 9 b) E) (E := E) (d := Int32.ofNat d) (S1 := szR S 10 b (orE (zR S 9 b) E)) (S2 := szR S 10 b (orE (zR S 9 b) E)) (lo := 0) (hi := 0) (lo2 := 0) (hi2 := 0) h3.1 rfl (by rw [h5]; exact se_nil (by omega) (by omega)) MdT_r (zR_self _ _ _ _) (by rw [h6]; exact se_nil (by omega) (by omega)) MdT_r
    obtain ⟨S3, c3, m3, b3⟩ := ih (szR S 10 b (orE (zR S 9 b) E)) (zR S 9 b) E r d m (q + 1) hi (SN_T m0 r0 pr _ h7) hp2 hh (by omega) (by omega) (by omega) (by omega)
    have m03 := MdT_t m0 m3 (l := lo) (h := hi) (by omega) (by omega) (by omega) (by omega)
    refine ⟨S3, st.trans c3, m03, b, rfl, by rw [MdT_I m03]; exact h4, ?_, ?_⟩
    · rw [MdT_R2 m3 (c := b) (k := 10) (q := q) h4 h2.2.2 hh (by omega), zR_self, MdT_R m03 (by decide)]
    · rw [MdT_R m03 (by decide)]
      exact b3
  · have e1 : dpt (cn q (cn i t1 .nil) r0) = max (2 + dpt t1) (dpt r0) := rfl
    have e2 : nsm (cn q (cn i t1 .nil) r0) = 1 + nsm t1 + nsm r0 := rfl
    obtain ⟨m, rfl⟩ : ∃ k, m = k + 1 := ⟨m - 1, by omega⟩
    obtain ⟨b, h1, h2, h3, h4, h5, h6, h7⟩ := h
    obtain ⟨hp1, m1, hp2, hp3⟩ := hp
    have hl := PI_le r0 pr _ _ hp3
    have hl1 := PI_le t1 p1 _ _ hp2
    subst h1
    have m0 : MdT S (szR S 10 b (orE (zR S 9 b) E)) q (q + 1) := MdT_s h4
    have k1 : zI S 1 b = 7 := by rw [h3.2.1, k7]; rfl
    obtain ⟨S1, c1, n1, b1⟩ := Se_top (E := some b) (r := r) (d := d + 1) ih1 (SN_T m0 t1 p1 _ h5) hp2 (by omega) (by omega) (by omega) (by omega)
    have st := se_step (rc := yS_settle n r) (n := m) (w := orE (zR S 9 b) E) (E := E) (d := Int32.ofNat d) (S1 := S1) (S2 := S1) (lo2 := 0) (hi2 := 0) h3.1 rfl (by rw [if_pos k1, o1]; exact c1) n1 ((MdT_R2 n1 (c := b) (k := 10) (q := q) h4 h2.2.2 (by omega) (by omega)).trans (zR_self _ _ _ _)) (by rw [h6]; exact se_nil (by omega) (by omega)) MdT_r
    have m01 := MdT_t m0 n1 (l := q) (h := m1) (by omega) (by omega) (by omega) (by omega)
    obtain ⟨S3, c3, m3, b3⟩ := ih2 S1 (zR S 9 b) E r d m m1 hi (SN_T m01 r0 pr _ h7) hp3 hh (by omega) (by omega) (by omega) (by omega)
    have m03 := MdT_t m01 m3 (l := lo) (h := hi) (by omega) (by omega) (by omega) (by omega)
    refine ⟨S3, st.trans c3, m03, b, rfl, by rw [MdT_I m03]; exact h4, ?_, ?_, ?_⟩
    · rw [MdT_R2 m3 (c := b) (k := 10) (q := q) (by rw [MdT_I m01]; exact h4) h2.2.2 hh (by omega), MdT_R2 n1 (c := b) (k := 10) (q := q) h4 h2.2.2 (by omega) (by omega), zR_self, MdT_R m03 (by decide)]
    · rw [MdT_R m03 (by decide)]
      exact SB_T m3 hh t1 p1 _ _ _ _ (SN_T m01 t1 p1 _ h5) hp2 (by omega) b1
    · rw [MdT_R m03 (by decide)]
      exact b3
  · have e1 : dpt (cn q (cn i t1 (cn j t2 .nil)) r0) = max (2 + max (dpt t1) (dpt t2)) (dpt r0) := rfl
    have e2 : nsm (cn q (cn i t1 (cn j t2 .nil)) r0) = 1 + nsm t1 + nsm t2 + nsm r0 := rfl
    obtain ⟨m, rfl⟩ : ∃ k, m = k + 1 := ⟨m - 1, by omega⟩
    obtain ⟨b, h1, h2, h3, h4, h5, h6, h7⟩ := h
    obtain ⟨hp1, m1, mm, hp2, hp3, hp4⟩ := hp
    have hl := PI_le r0 pr _ _ hp4
    have hl1 := PI_le t1 p1 _ _ hp2
    have hl2 := PI_le t2 p2 _ _ hp3
    subst h1
    have m0 : MdT S (szR S 10 b (orE (zR S 9 b) E)) q (q + 1) := MdT_s h4
    have k1 : ¬ zI S 1 b = 7 := by rw [h3.2.1, k6]; decide
    obtain ⟨S1, c1, n1, b1⟩ := Se_top (E := orE (zR S 9 b) E) (r := r) (d := d + 1) ih1 (SN_T m0 t1 p1 _ h5) hp2 (by omega) (by omega) (by omega) (by omega)
    have m01 := MdT_t m0 n1 (l := q) (h := m1) (by omega) (by omega) (by omega) (by omega)
    have z10 : zR S1 10 b = orE (zR S 9 b) E := (MdT_R2 n1 (c := b) (k := 10) (q := q) h4 h2.2.2 (by omega) (by omega)).trans (zR_self _ _ _ _)
    obtain ⟨S2, c2, n2, b2⟩ := Se_top (E := orE (zR S 9 b) E) (r := r) (d := d + 1) ih2 (SN_T m01 t2 p2 _ h6) hp3 (by omega) (by omega) (by omega) (by omega)
    have st := se_step (rc := yS_settle n r) (n := m) (w := orE (zR S 9 b) E) (E := E) (d := Int32.ofNat d) (S1 := S1) (S2 := S2) h3.1 rfl (by rw [if_neg k1, o1]; exact c1) n1 z10 (by rw [o1]; exact c2) n2
    have m02 := MdT_t m01 n2 (l := q) (h := mm) (by omega) (by omega) (by omega) (by omega)
    obtain ⟨S3, c3, m3, b3⟩ := ih3 S2 (zR S 9 b) E r d m mm hi (SN_T m02 r0 pr _ h7) hp4 hh (by omega) (by omega) (by omega) (by omega)
    have m03 := MdT_t m02 m3 (l := lo) (h := hi) (by omega) (by omega) (by omega) (by omega)
    have m23 := MdT_t n2 m3 (l := m1) (h := hi) (by omega) (by omega) (by omega) (by omega)
    have z10' : zR S3 10 b = orE (zR S 9 b) E := (MdT_R2 m23 (c := b) (k := 10) (q := q) (by rw [MdT_I m01]; exact h4) h2.2.2 hh (by omega)).trans z10
    refine ⟨S3, st.trans c3, m03, b, rfl, by rw [MdT_I m03]; exact h4, ?_, ?_, ?_, ?_⟩
    · rw [z10', MdT_R m03 (by decide)]
    · rw [z10', MdT_R m03 (by decide)]
      exact SB_T m23 hh t1 p1 _ _ _ _ (SN_T m01 t1 p1 _ h5) hp2 (by omega) b1
    · rw [z10', MdT_R m03 (by decide)]
      exact SB_T m3 hh t2 p2 _ _ _ _ (SN_T m02 t2 p2 _ h6) hp3 (by omega) b2
    · rw [MdT_R m03 (by decide)]
      exact b3
theorem ssettle_ok {t : Fo} (pt : PW D t) (h1 : SN S D lw t v) (h2 : PI t lo hi) (h3 : hi ≤ 1000) (hd : dpt t ≤ 12) (hn : nsm t + 1 ≤ n) {r : Nat} (hr : 8 ≤ r) : ∃ S', yS_settle n r S v E 0 = some S' ∧ MdT S S' lo hi ∧ SB S' t v E := Se_top (d := 0) (se_all t pt) h1 h2 h3 (by omega) (by omega) hn
end SE
