def OF (S S' : hS) : Prop := S.1 ≤ S'.1 ∧ HF S S' ∧ ∀ x, ztg S x = 10 → (∀ k, zI S' k x = zI S k x) ∧ (∀ k, zR S' k x = zR S k x) ∧ zL S' x = zL S x ∧ ztg S' x = ztg S x
def Ply (S : hS) : Prop := ∃ D t lw st, PW D t ∧ SN S D lw t (zR S 4 0) ∧ SB S t (zR S 4 0) none ∧ PC (zMA S) D t 0 st ∧ zMI S 11 = Int32.ofNat st ∧ st ≤ 200
def Fxd (S : hS) (K : Nat → Fo) : Prop := Gd K (fun _ _ => []) ∧ (∀ p, p < 6 → So true (K p) ∧ WK true (K p) ∧ ∃ sh, Rp S true (K p) sh (fun _ => zR S 1 (7 + 3 * p)) ∧ BH S true (K p) sh none) ∧ Ply S
def Lds (S : hS) : Prop := ∃ K, (∃ Q Kr, RnS S K Q Kr) ∧ Fxd S K
section KF
variable {S S' : hS} {D : Nat → Nat} {lw : Nat} {A B : Nat → Nat → Int32} {K Kr : Nat → Fo} {Q : Nat → Nat → List Nat} {I : Nat → Int32}
theorem StD_o {b sc : Nat} (ho : OF S S') (h : StD S b sc) : StD S' b sc := by
  obtain ⟨h1, h2⟩ := h
  obtain ⟨e1, e2, e3, e4⟩ := ho.2.2 b h1
  unfold StD
  rw [e4, e1, e1, e1, e1, e1, e3]
  exact ⟨h1, h2⟩
theorem SN_o (ho : OF S S') : ∀ (t : Fo), PW D t → ∀ v, SN S D lw t v → SN S' D lw t v := PW_ind (fun v h => h) (fun q r _ _ ih v h => by
    obtain ⟨b, e, ⟨l1, l2, l3⟩, sd, z0, h7, h8, hr⟩ := h
    obtain ⟨e1, e2, e3, e4⟩ := ho.2.2 b sd.1
    exact ⟨b, e, ⟨l1, Nat.lt_of_lt_of_le l2 ho.1, l3⟩, StD_o ho sd, by rw [e1]; exact z0, by rw [e2]; exact h7, by rw [e2]; exact h8, by rw [e2]; exact ih _ hr⟩) (fun q i t1 r _ _ _ _ ih1 ih2 v h => by
    obtain ⟨b, e, ⟨l1, l2, l3⟩, sd, z0, h7, h8, hr⟩ := h
    obtain ⟨e1, e2, e3, e4⟩ := ho.2.2 b sd.1
    exact ⟨b, e, ⟨l1, Nat.lt_of_lt_of_le l2 ho.1, l3⟩, StD_o ho sd, by rw [e1]; exact z0, by rw [e2]; exact ih1 _ h7, by rw [e2]; exact h8, by rw [e2]; exact ih2 _ hr⟩) (fun q i j t1 t2 r _ _ _ _ _ ih1 ih2 ih3 v h => by
    obtain ⟨b, e, ⟨l1, l2, l3⟩, sd, z0, h7, h8, hr⟩ := h
    obtain ⟨e1, e2, e3, e4⟩ := ho.2.2 b sd.1
    exact ⟨b, e, ⟨l1, Nat.lt_of_lt_of_le l2 ho.1, l3⟩, StD_o ho sd, by rw [e1]; exact z0, by rw [e2]; exact ih1 _ h7, by rw [e2]; exact ih2 _ h8, by rw [e2]; exact ih3 _ hr⟩)
theorem SB_o (ho : OF S S') : ∀ (t : Fo), PW D t → ∀ v E, SN S D lw t v → SB S t v E → SB S' t v E := PW_ind (fun v E _ h => h) (fun q r _ _ ih v E h hb => by
    obtain ⟨b, e, _, sd, z0, h7, h8, hr⟩ := h
    obtain ⟨b', e', y0, y10, yr⟩ := hb
    rw [e] at e'
    cases e'
    obtain ⟨e1, e2, e3, e4⟩ := ho.2.2 b sd.1
    exact ⟨b, e, by rw [e1]; exact y0, by rw [e2, e2]; exact y10, by rw [e2]; exact ih _ _ hr yr⟩) (fun q i t1 r _ _ _ _ ih1 ih2 v E h hb => by
    obtain ⟨b, e, _, sd, z0, h7, h8, hr⟩ := h
    obtain ⟨b', e', y0, y10, y7, yr⟩ := hb
    rw [e] at e'
    cases e'
    obtain ⟨e1, e2, e3, e4⟩ := ho.2.2 b sd.1
    exact ⟨b, e, by rw [e1]; exact y0, by rw [e2, e2]; exact y10, by rw [e2]; exact ih1 _ _ h7 y7, by rw [e2]; exact ih2 _ _ hr yr⟩) (fun q i j t1 t2 r _ _ _ _ _ ih1 ih2 ih3 v E h hb => by
    obtain ⟨b, e, _, sd, z0, h7, h8, hr⟩ := h
    obtain ⟨b', e', y0, y10, y7, y8, yr⟩ := hb
    rw [e] at e'
    cases e'
    obtain ⟨e1, e2, e3, e4⟩ := ho.2.2 b sd.1
    exact ⟨b, e, by rw [e1]; exact y0, by rw [e2, e2]; exact y10, by rw [e2, e2]; exact ih1 _ _ h7 y7, by rw [e2, e2]; exact ih2 _ _ h8 y8, by rw [e2]; exact ih3 _ _ hr yr⟩)
theorem ExP_e {e k : Nat} (h : ∀ j, 15 < j → j < 28 → B j = A j) (x : ExP A e k) : ExP B e k := by
  unfold ExP
  rw [h 21 (by decide) (by decide), h 16 (by decide) (by decide)]
  exact x
theorem ItP_e {s k : Nat} (h : ∀ j, 15 < j → j < 28 → B j = A j) (x : ItP A s k) : ItP B s k := by
  unfold ItP ExP
  rw [h 16 (by decide) (by decide), h 17 (by decide) (by decide), h 18 (by decide) (by decide), h 19 (by decide) (by decide), h 20 (by decide) (by decide), h 21 (by decide) (by decide)]
  exact x
theorem PC_e (h : ∀ j, 15 < j → j < 28 → B j = A j) : ∀ (t : Fo), PW D t → ∀ lo hi, PC A D t lo hi → PC B D t lo hi := PW_ind (fun lo hi h => h) (fun q r _ _ ih lo hi x => ⟨ItP_e h x.1, ih _ _ x.2⟩) (fun q i t1 r _ _ _ _ ih1 ih2 lo hi x => by
    obtain ⟨x1, x2, e1, x3, x4, x5, x6, x7, x8, x9⟩ := x
    exact ⟨ItP_e h x1, by rw [h 17 (by decide) (by decide)]; exact x2, e1, ih1 _ _ x3, x4, x5, by rw [h 17 (by decide) (by decide)]; exact x6, by rw [h 24 (by decide) (by decide)]; exact x7, by rw [h 22 (by decide) (by decide)]; exact x8, ih2 _ _ x9⟩) (fun q i j t1 t2 r _ _ _ _ _ ih1 ih2 ih3 lo hi x => by
    obtain ⟨x1, x2, e1, e2, x3, x4, x5, x6, x7, x8, x9, x10, x11, x12, x13, x14, x15⟩ := x
    exact ⟨ItP_e h x1, by rw [h 17 (by decide) (by decide)]; exact x2, e1, e2, ih1 _ _ x3, x4, by rw [h 17 (by decide) (by decide)]; exact x5, by rw [h 24 (by decide) (by decide)]; exact x6, by rw [h 22 (by decide) (by decide)]; exact x7, by rw [h 17 (by decide) (by decide)]; exact x8, ih2 _ _ x9, x10, x11, by rw [h 17 (by decide) (by decide)]; exact x12, by rw [h 24 (by decide) (by decide)]; exact x13, by rw [h 23 (by decide) (by decide)]; exact x14, ih3 _ _ x15⟩)
theorem Fxd_o (ho : OF S S') (e1 : ∀ p, p < 6 → zR S' 1 (7 + 3 * p) = zR S 1 (7 + 3 * p)) (e4 : zR S' 4 0 = zR S 4 0) (eA : ∀ j, 15 < j → j < 28 → zMA S' j = zMA S j) (eI : zMI S' 11 = zMI S 11) (h : Fxd S K) : Fxd S' K := by
  obtain ⟨h1, h2, D, t, lw, st, p1, p2, p3, p4, p5, p6⟩ := h
  refine ⟨h1, fun p hp => ?_, D, t, lw, st, p1, by rw [e4]; exact SN_o ho t p1 _ p2, by rw [e4]; exact SB_o ho t p1 _ _ p2 p3, PC_e eA t p1 _ _ p4, by rw [eI]; exact p5, p6⟩
  obtain ⟨a1, a2, sh, a3, a4⟩ := h2 p hp
  refine ⟨a1, a2, sh, ?_, ?_⟩
  · rw [e1 p hp]
    exact Rp_fr (K p) true a1 sh _ a3 (fun x hx => (ho.2.1 x (Rp_nd (K p) true a1 sh _ a3 x hx).1 (Rp_nd (K p) true a1 sh _ a3 x hx).2).1)
  · exact BH_fr (K p) true a1 sh none _ a3 a4 (fun x hx => ⟨(ho.2.1 x (Rp_nd (K p) true a1 sh _ a3 x hx).1 (Rp_nd (K p) true a1 sh _ a3 x hx).2).1.2.2.1, (ho.2.1 x (Rp_nd (K p) true a1 sh _ a3 x hx).1 (Rp_nd (K p) true a1 sh _ a3 x hx).2).2⟩)
theorem RnS_o (ho : OF S S') (e2 : ∀ p, p < 6 → zR S' 2 (7 + 3 * p) = zR S 2 (7 + 3 * p)) (e3 : ∀ p, p < 6 → ∀ m, zI S' m (7 + 3 * p) = zI S m (7 + 3 * p)) (eA : ∀ j, j = 26 ∨ j = 27 ∨ j = 36 ∨ j = 37 ∨ j = 38 → zMA S' j = zMA S j) (hQ : QQ S' Q) (h : RnS S K Q Kr) : RnS S' K Q Kr := by
  obtain ⟨h1, h2, h3⟩ := h
  refine ⟨hQ, h2, fun p hp => ⟨TX_e (eA 26 (by omega)) (eA 27 (by omega)) (h3 p hp).1, Pty_fr ho.2.1 (e2 p hp) (e3 p hp) ?_ ?_ ?_ (h3 p hp).2⟩⟩
  · rw [eA 36 (by omega)]
  · rw [eA 37 (by omega)]
  · rw [eA 38 (by omega)]
theorem QQ_o (e1 : zI S' 4 2 = zI S 4 2) (e2 : zMI S' 17 = zMI S 17) (e3 : ∀ k, k < 36 → ∀ m, zI S' m (25 + 3 * k) = zI S m (25 + 3 * k)) (e4 : ∀ k, k < 36 → zAI S' (26 + 3 * k) = zAI S (26 + 3 * k) ∧ zAI S' (27 + 3 * k) = zAI S (27 + 3 * k)) (e5 : ∀ j, j = 39 ∨ j = 40 ∨ j = 41 → zMA S' j = zMA S j) (h : QQ S Q) : QQ S' Q := by
  obtain ⟨r, r1, r8, h1, h2, h3⟩ := h
  refine ⟨r, r1, r8, e1.trans h1, e2.trans h2, fun q p hq hp => ?_⟩
  have hk : 6 * q + p < 36 := by omega
  refine QK_eq (S := S) (e3 _ hk 2) (e3 _ hk 3) (e4 _ hk).1 (e4 _ hk).2 ?_ (fun i _ => ⟨?_, ?_⟩) r8 (h3 q p hq hp)
  · rw [e5 39 (by omega)]
  · rw [e5 40 (by omega)]
  · rw [e5 41 (by omega)]
def okF (W : List (Nat × Nat × Nat)) : Bool := W.all fun x => x.2.1 ≠ 2 && x.2.1 ≠ 10 && x.2.1 ≠ 27
theorem okF_n {W : List (Nat × Nat × Nat)} (h : okF W = true) {a t k : Nat} (ht : t = 2 ∨ t = 10 ∨ t = 27) : (a, t, k) ∉ W := fun hm => by
  have := List.all_eq_true.mp h (a, t, k) hm
  simp at this
  omega
theorem OF_fw {W : List (Nat × Nat × Nat)} (hk : okF W = true) (e : Fw W S S') : OF S S' := by
  refine ⟨e.1.1, fun x h1 h2 => ?_, fun x h1 => ?_⟩
  · obtain ⟨l1, _, g1⟩ := ztg_lt h1
    obtain ⟨l2, _, g2⟩ := ztg_lt h2
    obtain ⟨a1, a2, a3, a4, a5⟩ := e.2 x l1
    obtain ⟨b1, b2, b3, b4, b5⟩ := e.2 (x + 1) l2
    rw [g1] at a1 a2 a3
    rw [g2] at b5
    refine ⟨⟨fun k => a1 k (okF_n hk (Or.inl rfl)), a2 6 (okF_n hk (Or.inl rfl)), a2 8 (okF_n hk (Or.inl rfl)), a3 (okF_n hk (Or.inl rfl)), ?_, ?_, ?_, b5 (okF_n hk (Or.inr (Or.inr rfl)))⟩, a2 9 (okF_n hk (Or.inl rfl))⟩
    · rw [h1]
      exact ztg_ex h1 e.1
    · rw [h2]
      exact ztg_ex h2 e.1
    · exact zLen_ex h2 e.1
  · obtain ⟨l1, _, g1⟩ := ztg_lt h1
    obtain ⟨a1, a2, a3, a4, a5⟩ := e.2 x l1
    rw [g1] at a1 a2 a3
    refine ⟨fun k => a1 k (okF_n hk (Or.inr (Or.inl rfl))), fun k => a2 k (okF_n hk (Or.inr (Or.inl rfl))), a3 (okF_n hk (Or.inr (Or.inl rfl))), ?_⟩
    rw [h1]
    exact ztg_ex h1 e.1
theorem OF_M (h : OF S S') : OF S (szM S' I B) := h
end KF
