theorem o32 {a b : Nat} : Int32.ofNat a ||| Int32.ofNat b = Int32.ofNat (a ||| b) := by
  apply Int32.toBitVec_inj.mp
  apply BitVec.eq_of_toNat_eq
  show (a % 2 ^ 32) ||| (b % 2 ^ 32) = (a ||| b) % 2 ^ 32
  rw [Nat.or_mod_two_pow]
theorem bts_or (u v : Nat → Bool) : bts u ||| bts v = bts fun q => u q || v q := by
  apply Nat.eq_of_testBit_eq
  intro i
  rw [Nat.testBit_or]
  by_cases h : i < 6
  · rw [bts_t u h, bts_t v h, bts_t _ h]
  · have hz : ∀ w : Nat → Bool, (bts w).testBit i = false := fun w => by
      refine Nat.testBit_lt_two_pow (Nat.lt_of_lt_of_le (bts_lt w) ?_)
      exact Nat.le_trans (by decide : 64 ≤ 2 ^ 6) (Nat.pow_le_pow_right (by decide) (by omega))
    rw [hz, hz, hz]
    rfl
theorem bo_p {p : Nat} (h : p < 6) : rd_bo (Int32.ofNat p) = Int32.ofNat (bts fun q => decide (q = p)) := by
  have : ∀ p, p < 6 → rd_bo (Int32.ofNat p) = Int32.ofNat (bts fun q => decide (q = p)) := by decide +kernel
  exact this p h
theorem bo_n : rd_bo (-1) = Int32.ofNat (bts fun _ => false) := by decide
section OC
variable {f : Nat → Int32} {g : Nat → Nat} {c : Nat} {A : Nat → Nat → Int32}
theorem soc_b {P : Nat} {D : Nat} (h : DQ f g c P D) : rd_bo (dP f c (P, false)) ||| rd_bo (dO f c (P, false)) = Int32.ofNat (bts (soc D)) := by
  obtain ⟨h1, h2, h3, h4, h5, h6, h7⟩ := h
  have y : ∀ o, o < 6 → dO f c (P, false) = Int32.ofNat o → cO D = o → (cK D = 2 ∨ cK D = 4) → rd_bo (dP f c (P, false)) ||| rd_bo (dO f c (P, false)) = Int32.ofNat (bts (soc D)) := by
    intro o a1 a2 a3 a4
    rw [h1, a2, bo_p h2, bo_p a1, o32, bts_or]
    congr 2
    funext q
    unfold soc
    rw [a3, decide_eq_true a4, Bool.true_and]
  have z : dO f c (P, false) = -1 → ¬ (cK D = 2 ∨ cK D = 4) → rd_bo (dP f c (P, false)) ||| rd_bo (dO f c (P, false)) = Int32.ofNat (bts (soc D)) := by
    intro a2 a4
    rw [h1, a2, bo_p h2, bo_n, o32, bts_or]
    congr 2
    funext q
    unfold soc
    rw [decide_eq_false a4, Bool.false_and]
  rcases h7 with ⟨_, k, o, o2, _⟩ | ⟨_, k, o, _⟩ | ⟨_, k, o, _⟩ | ⟨_, _, _, _, k, o, _⟩ | ⟨_, _, _, _, k, o, o2, _⟩
  · exact y _ o2 o rfl (Or.inr k)
  · exact z o (by omega)
  · exact z o (by omega)
  · exact z o (by omega)
  · exact y _ o2 o rfl (Or.inl k)
theorem ocf_b : ∀ (t : Fo), PW (Dd f c) t → DA (fun P => DQ f g c P (Dd f c P)) t → ocf f c t = Int32.ofNat (bts (occ (Dd f c) t)) := PW_ind (fun _ => rfl) (fun q r _ _ ih h => by
    show (((rd_bo (dP f c (q, false)) ||| rd_bo (dO f c (q, false))) ||| 0) ||| 0) ||| ocf f c r = _
    rw [Int32.or_zero, Int32.or_zero, soc_b h.1, ih h.2, o32, bts_or]
    rfl) (fun q i t1 r _ _ _ _ ih1 ih2 h => by
    show (((rd_bo (dP f c (q, false)) ||| rd_bo (dO f c (q, false))) ||| ocf f c t1) ||| 0) ||| ocf f c r = _
    rw [Int32.or_zero, soc_b h.1, ih1 h.2.1, ih2 h.2.2, o32, bts_or, o32, bts_or]
    rfl) (fun q i j t1 t2 r _ _ _ _ _ ih1 ih2 ih3 h => by
    show (((rd_bo (dP f c (q, false)) ||| rd_bo (dO f c (q, false))) ||| ocf f c t1) ||| ocf f c t2) ||| ocf f c r = _
    rw [soc_b h.1, ih1 h.2.1, ih2 h.2.2.1, ih3 h.2.2.2, o32, bts_or, o32, bts_or, o32, bts_or]
    rfl)
theorem at_sgm {F : Nat → Int32} (h : ∀ x, x < c → F x = Int32.ofNat (g x)) : ∀ (k a : Nat), a + k ≤ c → At F a (sgm g a k)
  | 0, _, _ => trivial
  | k + 1, a, hk => by
    rw [Nat.add_comm, sgm_add, sgm_1]
    exact ⟨h a (by omega), at_sgm h k (a + 1) (by omega)⟩
theorem exq_of {e a b k : Nat} (hA : ∀ x, x < c → A 2 x = Int32.ofNat (g x)) (hc : c ≤ 200) (h : Exs g c e a b) (h7 : A 7 k = Int32.ofNat a) (ha : 1 ≤ a) (h8 : A 8 k = Int32.ofNat b) : Exq A e k := by
  obtain ⟨x1, x2, x3, x4, _⟩ := h
  refine ⟨a, h7, ha, by rw [← x2]; exact h8, ?_, by omega⟩
  rw [x3]
  exact at_sgm hA _ _ (by omega)
theorem itc_of {k P : Nat} (hA : ∀ x, x < c → A 2 x = Int32.ofNat (g x)) (hc : c ≤ 200) (h : DQ f g c P (Dd f c P)) (hi : IT A f c k P) : ItC A (Dd f c P) k ∧ A 9 k = Int32.ofNat P ∧ A 14 k = 0 := by
  obtain ⟨h1, h2, h3, h4, h5, h6, h7⟩ := h
  obtain ⟨i1, i2, i3, i4, i5⟩ := hi
  refine ⟨⟨by rw [i2, h1], ?_⟩, i1, i3⟩
  rcases h7 with ⟨z, k4, o, o2, o3, l⟩ | ⟨z, k4, o, x⟩ | ⟨z, k4, o, x⟩ | ⟨z1, z2, z3, z4, k4, o, x⟩ | ⟨z1, z2, z3, z4, k4, o, o2, o3, x⟩
  · rw [if_pos z] at i5
    exact Or.inr (Or.inr (Or.inl ⟨k4, i5.1, by rw [i4, o], by rw [i5.2, h5]⟩))
  · rw [if_neg (by rw [z]; decide), if_pos z] at i5
    exact Or.inr (Or.inr (Or.inr (Or.inl ⟨k4, i5.1, exq_of hA hc x i5.2.1 (by omega) i5.2.2⟩)))
  · rw [if_neg (by rw [z]; decide), if_neg (by rw [z]; decide), if_pos z] at i5
    exact Or.inr (Or.inr (Or.inr (Or.inr ⟨k4, i5.1, exq_of hA hc x i5.2.1 (by omega) i5.2.2⟩)))
  · rw [if_neg z1, if_neg z2, if_neg z3, if_pos z4] at i5
    exact Or.inl ⟨k4, i5.1, by rw [i5.2.1, h4], exq_of hA hc x i5.2.2.1 (by omega) i5.2.2.2⟩
  · rw [if_neg z1, if_neg z2, if_neg z3, if_neg z4] at i5
    exact Or.inr (Or.inl ⟨k4, i5.1, by rw [i4, o], by rw [i5.2.1, h4], exq_of hA hc x i5.2.2.1 (by omega) i5.2.2.2⟩)
theorem ic0_of (hA : ∀ x, x < c → A 2 x = Int32.ofNat (g x)) (hc : c ≤ 200) : ∀ (t : Fo), PW (Dd f c) t → DA (fun P => DQ f g c P (Dd f c P)) t → ∀ lo hi, IR A f c t lo hi → IC0 A (Dd f c) t lo hi := PW_ind (fun _ lo hi h => h) (fun q r _ _ ih hd lo hi h => ⟨(itc_of hA hc hd.1 h.1).1, ih hd.2 _ _ h.2.2.2⟩) (fun q i t1 r _ _ _ _ ih1 ih2 hd lo hi h => by
    obtain ⟨h1, h2, h3, e1, h4, h5, h6, h7, h8, h9⟩ := h
    exact ⟨(itc_of hA hc hd.1 h1).1, h3, e1, ih1 hd.2.1 _ _ h4, h5, h6, h7, h8, ih2 hd.2.2 _ _ h9⟩) (fun q i j t1 t2 r _ _ _ _ _ ih1 ih2 ih3 hd lo hi h => by
    obtain ⟨h1, h2, h3, e1, e2, h4, h5, h6, h7, h8, h9, h10, h11, h12, h13, h14⟩ := h
    obtain ⟨k1, k2, k3⟩ := itc_of hA hc hd.1 h1
    exact ⟨⟨k1, k2⟩, k3, h3, e1, e2, ih1 hd.2.1 _ _ h4, h5, h6, h7, h8, ih2 hd.2.2.1 _ _ h9, h10, h11, h12, h13, ih3 hd.2.2.2 _ _ h14⟩)
end OC
