def LdG (I : Nat → Int32) (I' : Nat → Int32) (A' : Nat → Nat → Int32) (K : Nat → Fo) (D : Nat → Nat) (t : Fo) (st : Nat) : Prop := (I' 0 = 0 ∧ I' 1 = 0 ∧ I' 2 = -1 ∧ I' 3 = -1) ∧ (I' 10 = 1 ∧ I' 11 = Int32.ofNat st ∧ st ≤ 200 ∧ I' 17 = I 17 ∧ I' 18 = 0) ∧ (∀ k, k < 24 → A' 33 k = 0 ∧ A' 34 k = 0 ∧ A' 35 k = 0) ∧ (∀ k, k < 36 → A' 39 k = 0) ∧ (∀ p, p < 6 → A' 36 p = 0 ∧ A' 37 p = -1) ∧ Pts A' K 6 ∧ PC A' D t 0 st
def LdF (I : Nat → Int32) (A : Nat → Nat → Int32) (I' : Nat → Int32) (A' : Nat → Nat → Int32) (P w : Nat) : Prop := (I' 0 = (if w < 6 then 2 else 3) ∧ I' 1 = 0 ∧ I' 2 = Int32.ofNat P ∧ I' 3 = (if w < 6 then Int32.ofNat w else -1)) ∧ (∀ j, j = 10 ∨ j = 11 ∨ 16 < j → I' j = I j) ∧ (∀ j, j < 2 ∨ (15 < j ∧ j < 28) ∨ (32 < j ∧ j ≠ 42) → A' j = A j)
section LR
variable {f : Nat → Int32} {g : Nat → Nat} {c : Nat} {I : Nat → Int32} {A A' : Nat → Nat → Int32}
theorem exp_of {e a b k : Nat} (h16 : ∀ x, x < c → A' 16 x = Int32.ofNat (g x)) (hg : Gf f g c) (hc : c ≤ 200) (h : Exs g c e a b) (h7 : A' 21 k = Int32.ofNat a) : ExP A' e k := by
  obtain ⟨x1, x2, x3, x4, x5⟩ := h
  refine ⟨a, g b, h7, ?_, by rw [← x2]; exact h16 b x4, by have := (hg b x4).2; omega, ?_, ?_, by omega⟩
  · rw [x3]
    exact at_sgm h16 _ _ (by omega)
  · rcases x5 with e | e | e <;> rw [e] <;> decide
  · rcases x5 with e | e | e <;> rw [e] <;> decide
theorem itp_of {k P items : Nat} (h16 : ∀ x, x < c → A' 16 x = Int32.ofNat (g x)) (hg : Gf f g c) (hc : c ≤ 200) (hcp : Cp9 A A' items) (hk : k < items) (hi : items ≤ 200) (h : DQ f g c P (Dd f c P)) (hit : IT A f c k P) : ItP A' (Dd f c P) k := by
  obtain ⟨h1, h2, h3, h4, h5, h6, h7⟩ := h
  obtain ⟨i1, i2, i3, i4, i5⟩ := hit
  obtain ⟨q1, q2, q3, q4, q5, q6, q7, q8, q9⟩ := hcp k hk
  refine ⟨by omega, by rw [q2, i2, h1], ?_⟩
  rcases h7 with ⟨z, k4, o, o2, o3, l⟩ | ⟨z, k4, o, x⟩ | ⟨z, k4, o, x⟩ | ⟨z1, z2, z3, z4, k4, o, x⟩ | ⟨z1, z2, z3, z4, k4, o, o2, o3, x⟩
  · rw [if_pos z] at i5
    exact Or.inr (Or.inr (Or.inl ⟨k4, by rw [q1]; exact i5.1⟩))
  · rw [if_neg (by rw [z]; decide), if_pos z] at i5
    exact Or.inr (Or.inr (Or.inr (Or.inl ⟨k4, by rw [q1]; exact i5.1, exp_of h16 hg hc x (by rw [q5]; exact i5.2.1)⟩)))
  · rw [if_neg (by rw [z]; decide), if_neg (by rw [z]; decide), if_pos z] at i5
    exact Or.inr (Or.inr (Or.inr (Or.inr ⟨k4, by rw [q1]; exact i5.1, exp_of h16 hg hc x (by rw [q5]; exact i5.2.1)⟩)))
  · rw [if_neg z1, if_neg z2, if_neg z3, if_pos z4] at i5
    exact Or.inl ⟨k4, by rw [q1]; exact i5.1, by rw [q4, i5.2.1, h4], exp_of h16 hg hc x (by rw [q5]; exact i5.2.2.1)⟩
  · rw [if_neg z1, if_neg z2, if_neg z3, if_neg z4] at i5
    exact Or.inr (Or.inl ⟨k4, by rw [q1]; exact i5.1, by rw [q3, i4, o], by rw [q4, i5.2.1, h4], exp_of h16 hg hc x (by rw [q5]; exact i5.2.2.1)⟩)
theorem pc_of {items : Nat} (h16 : ∀ x, x < c → A' 16 x = Int32.ofNat (g x)) (hg : Gf f g c) (hc : c ≤ 200) (hcp : Cp9 A A' items) (hi : items ≤ 200) : ∀ (t : Fo), PW (Dd f c) t → DA (fun P => DQ f g c P (Dd f c P)) t → ∀ lo hi, hi ≤ items → IR A f c t lo hi → PC A' (Dd f c) t lo hi := PW_ind (fun _ lo hi _ h => h) (fun q r _ pr ih hd lo hi hh h => by
    have hle := IR_le r _ _ h.2.2.2
    exact ⟨itp_of h16 hg hc hcp (by omega) (by omega) hd.1 h.1, ih hd.2 _ _ hh h.2.2.2⟩) (fun q i t1 r _ _ p1 pr ih1 ih2 hd lo hi hh h => by
    obtain ⟨h1, h2, h3, e1, h4, h5, h6, h7, h8, h9⟩ := h
    obtain ⟨q1, q2, q3, q4, q5, q6, q7, q8, q9⟩ := hcp lo (by omega)
    exact ⟨itp_of h16 hg hc hcp (by omega) (by omega) hd.1 h1, by rw [(hcp (lo + 1) (by omega)).1]; exact h3.1, e1, ih1 hd.2.1 _ _ (by omega) h4, h5, h6, by rw [(hcp e1 (by omega)).1]; exact h7.1, by rw [(hcp e1 (by omega)).2.2.2.2.2.2.2.1]; exact h7.2.1, by rw [q6]; exact h8, ih2 hd.2.2 _ _ hh h9⟩) (fun q i j t1 t2 r _ _ p1 p2 pr ih1 ih2 ih3 hd lo hi hh h => by
    obtain ⟨h1, h2, h3, e1, e2, h4, h5, h6, h7, h8, h9, h10, h11, h12, h13, h14⟩ := h
    obtain ⟨q1, q2, q3, q4, q5, q6, q7, q8, q9⟩ := hcp lo (by omega)
    exact ⟨itp_of h16 hg hc hcp (by omega) (by omega) hd.1 h1, by rw [(hcp (lo + 1) (by omega)).1]; exact h3.1, e1, e2, ih1 hd.2.1 _ _ (by omega) h4, h5, by rw [(hcp e1 (by omega)).1]; exact h6.1, by rw [(hcp e1 (by omega)).2.2.2.2.2.2.2.1]; exact h6.2.1, by rw [q6]; exact h7, by rw [(hcp (e1 + 1) (by omega)).1]; exact h8.1, ih2 hd.2.2.1 _ _ (by omega) h9, h10, h11, by rw [(hcp e2 (by omega)).1]; exact h12.1, by rw [(hcp e2 (by omega)).2.2.2.2.2.2.2.1]; exact h12.2.1, by rw [q7]; exact h13, ih3 hd.2.2.2 _ _ hh h14⟩)
theorem Cp9_e {B A2 : Nat → Nat → Int32} {items : Nat} (h : Cp9 B A' items) (e : ∀ j, j < 14 → B j = A2 j) (e14 : True) : Cp9 (fun j => if j = 14 then B 14 else A2 j) A' items := fun x hx => by
  obtain ⟨q1, q2, q3, q4, q5, q6, q7, q8, q9⟩ := h x hx
  refine ⟨?_, ?_, ?_, ?_, ?_, ?_, ?_, ?_, ?_⟩
  · show A' 17 x = A2 3 x
    rw [← e 3 (by decide)]; exact q1
  · show A' 18 x = A2 4 x
    rw [← e 4 (by decide)]; exact q2
  · show A' 19 x = A2 5 x
    rw [← e 5 (by decide)]; exact q3
  · show A' 20 x = A2 6 x
    rw [← e 6 (by decide)]; exact q4
  · show A' 21 x = A2 7 x
    rw [← e 7 (by decide)]; exact q5
  · show A' 22 x = A2 10 x
    rw [← e 10 (by decide)]; exact q6
  · show A' 23 x = A2 11 x
    rw [← e 11 (by decide)]; exact q7
  · show A' 24 x = A2 12 x
    rw [← e 12 (by decide)]; exact q8
  · exact q9
theorem ItP_25 {B : Nat → Nat → Int32} {s k : Nat} (h : ∀ j, j ≠ 25 → B j = A j) (x : ItP A s k) : ItP B s k := by
  unfold ItP ExP
  rw [h 16 (by decide), h 17 (by decide), h 18 (by decide), h 19 (by decide), h 20 (by decide), h 21 (by decide)]
  exact x
theorem PC_e25 {B : Nat → Nat → Int32} {D : Nat → Nat} (h : ∀ j, j ≠ 25 → B j = A j) : ∀ (t : Fo), PW D t → ∀ lo hi, PC A D t lo hi → PC B D t lo hi := PW_ind (fun lo hi h => h) (fun q r _ _ ih lo hi x => ⟨ItP_25 h x.1, ih _ _ x.2⟩) (fun q i t1 r _ _ _ _ ih1 ih2 lo hi x => by
    obtain ⟨x1, x2, e1, x3, x4, x5, x6, x7, x8, x9⟩ := x
    exact ⟨ItP_25 h x1, by rw [h 17 (by decide)]; exact x2, e1, ih1 _ _ x3, x4, x5, by rw [h 17 (by decide)]; exact x6, by rw [h 24 (by decide)]; exact x7, by rw [h 22 (by decide)]; exact x8, ih2 _ _ x9⟩) (fun q i j t1 t2 r _ _ _ _ _ ih1 ih2 ih3 lo hi x => by
    obtain ⟨x1, x2, e1, e2, x3, x4, x5, x6, x7, x8, x9, x10, x11, x12, x13, x14, x15⟩ := x
    exact ⟨ItP_25 h x1, by rw [h 17 (by decide)]; exact x2, e1, e2, ih1 _ _ x3, x4, by rw [h 17 (by decide)]; exact x5, by rw [h 24 (by decide)]; exact x6, by rw [h 22 (by decide)]; exact x7, by rw [h 17 (by decide)]; exact x8, ih2 _ _ x9, x10, x11, by rw [h 17 (by decide)]; exact x12, by rw [h 24 (by decide)]; exact x13, by rw [h 23 (by decide)]; exact x14, ih3 _ _ x15⟩)
theorem ld_ref {T : pw × Nat × Fo} {pi : Bool} (hT : T = pRow f c 9 0 (0, false) 0) (hI : I 1 = Int32.ofNat c) (hc : c ≤ 200) (hf : ∀ j, j < c → A 1 j = f j) (hl : Ltr f c) (hg : Gf f g c) (hw : T.1.2 = false) (hn : T.2.2 ≠ .nil) (hR : RowK f g c T.2.2 0 T.1.1 0 T.2.1 0) : T.1.1 = c ∧ T.2.1 ≤ 40 ∧ ∃ N, ∀ m, N ≤ m → (∀ p, ck (Dd f c) pi T.2.1 T.2.2 0 = .inl p → ∃ I' A' st, x_load m I A (ty_b pi) = some (I', A', Int32.ofNat p) ∧ LdG I I' A' (cut (Dd f c) T.2.2) (Dd f c) T.2.2 st) ∧ (∀ P w, ck (Dd f c) pi T.2.1 T.2.2 0 = .inr (P, w) → ∃ I' A', x_load m I A (ty_b pi) = some (I', A', 0) ∧ LdF I A I' A' P w) := by
  obtain ⟨-, rb⟩ := ref_play (I := upd (upd (upd I 0 0) 2 (-1)) 3 (-1)) (A := A) hT hI hc hf hl
  obtain ⟨hTc, N, k', A1, s1, s2, s3, s4, s5, s6, _⟩ := rb hw hn
  obtain ⟨p1, p2, p3, p4, p5, p6, p7, p8⟩ := hR
  have hA2 : ∀ x, x < c → A1 2 x = Int32.ofNat (g x) := fun x hx => by rw [s6 x hx]; exact (hg x hx).1
  refine ⟨hTc, s3, N + 6000, fun m hm => ?_⟩
  have hx0 : x_load m I A (ty_b pi) = x_load_41 m (upd (V (upd (upd (upd (upd I 0 0) 2 (-1)) 3 (-1)) 4 (upd (upd (upd I 0 0) 2 (-1)) 3 (-1) 1)) k' c false T.2.1 0) 1 0) A1 (ty_b pi) 0 0 := by
    unfold x_load
    refine (xb_some (s1 m (by omega))).trans ?_
    exact if_neg (by decide)
  obtain ⟨L1, L2⟩ := load_41 (I := upd (V (upd (upd (upd (upd I 0 0) 2 (-1)) 3 (-1)) 4 (upd (upd (upd I 0 0) 2 (-1)) 3 (-1) 1)) k' c false T.2.1 0) 1 0) (A := A1) (pi := pi) (n := m) p1 hI hc rfl (by omega) rfl rfl s3 (ic0_of hA2 hc T.2.2 p1 p2 0 k' s4) (by omega) (by omega) (by omega)
  rw [hx0]
  refine ⟨fun p hp => ?_, fun P w hp => ?_⟩
  · obtain ⟨I1, A2, I', A', e1, ⟨f1, f2, f3⟩, e3, t1, t2, t3, t4, t5, t6, t7, t8, t9, t10, t11⟩ := L1 p hp
    refine ⟨I', A', k', e1, ⟨?_, ?_, ?_, ?_⟩, ⟨t1, t2, by omega, ?_, t3⟩, t8, t9, t10, t7, ?_⟩
    · rw [t4 0 (by omega), f1 0 (by omega)]
      rfl
    · rw [t4 1 (by omega), f1 1 (by omega)]
      rfl
    · rw [t4 2 (by omega), f1 2 (by omega)]
      rfl
    · rw [t4 3 (by omega), f1 3 (by omega)]
      rfl
    · rw [t4 17 (by omega), f1 17 (by omega)]
      rfl
    · have e16 : ∀ x, x < c → A' 16 x = Int32.ofNat (g x) := fun x hx => by
        rw [t5 x hx, f2 2 (by omega) (by omega) (by omega)]
        exact hA2 x hx
      have hcp : Cp9 (fun j => if j = 14 then A2 14 else A1 j) A' k' := Cp9_e (A2 := A1) t6 (fun j hj => f2 j (by omega) (by omega) (by omega)) trivial
      have key : ∀ x, x < k' → A' 17 x = A1 3 x ∧ A' 18 x = A1 4 x ∧ A' 19 x = A1 5 x ∧ A' 20 x = A1 6 x ∧ A' 21 x = A1 7 x ∧ A' 22 x = A1 10 x ∧ A' 23 x = A1 11 x ∧ A' 24 x = A1 12 x := fun x hx => by
        obtain ⟨q1, q2, q3, q4, q5, q6, q7, q8, q9⟩ := hcp x hx
        exact ⟨q1, q2, q3, q4, q5, q6, q7, q8⟩
      have hcp3 : Cp9 A1 (upA A' 25 (A1 14)) k' := fun x hx => by
        obtain ⟨q1, q2, q3, q4, q5, q6, q7, q8⟩ := key x hx
        exact ⟨q1, q2, q3, q4, q5, q6, q7, q8, by rw [upA_j]⟩
      have pcx := pc_of (A' := upA A' 25 (A1 14)) e16 hg hc hcp3 (by omega) T.2.2 p1 p2 0 k' (Nat.le_refl _) s4
      refine PC_e25 ?_ T.2.2 p1 0 k' pcx
      intro j hj
      exact (upA_n hj).symm
  · obtain ⟨I', A', e1, t1, t2, t3, t4, t5⟩ := L2 P w hp
    refine ⟨I', A', e1, ⟨t1, ?_, t2, ?_⟩, fun j hj => ?_, fun j hj => ?_⟩
    · rw [t4 1 (by omega) (by decide) (by decide) (by decide)]
      rfl
    · rw [t3]
      split <;> rfl
    · rw [t4 j (by omega) (by omega) (by omega) (by omega)]
      unfold V
      rw [upd_n (by omega), upd_n (by omega), upd_n (by omega), upd_n (by omega), upd_n (by omega), upd_n (by omega), upd_n (by omega), upd_n (by omega), upd_n (by omega), upd_n (by omega)]
    · rw [t5 j (by omega) (by omega) (by omega)]
      exact s5 j (by omega)
end LR
