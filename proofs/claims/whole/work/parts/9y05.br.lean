def RowK (f : Nat → Int32) (g : Nat → Nat) (c : Nat) (t : Fo) (lo hi n n' d : Nat) : Prop := PW (Dd f c) t ∧ DA (fun P => DQ f g c P (Dd f c P)) t ∧ PI t lo hi ∧ bas (Dd f c) t + lo ≤ hi + 4 * nsm t ∧ 5 * nsm t + lo ≤ hi ∧ nsm t + n = n' ∧ dpt t ≤ 2 * (6 - d) ∧ hi ≤ c
def RHy (f : Nat → Int32) (g : Nat → Nat) (c : Nat) (R : pw → Nat → pw × Nat × Fo) (d : Nat) : Prop := ∀ (x : pw) (n : Nat), (R x n).1.2 = false → x.2 = false ∧ (x.1 ≤ c → RowK f g c (R x n).2.2 x.1 (R x n).1.1 n (R x n).2.1 d)
section RK
variable {f : Nat → Int32} {g : Nat → Nat} {c d n : Nat} {R : pw → Nat → pw × Nat × Fo}
theorem blkK (hR : RHy f g c R d) {x : pw} {T : pw × Nat × Fo} (hT : T = pBlk R f c x n) (h : T.1.2 = false) : x.2 = false ∧ (x.1 < c ∧ f x.1 = 123) ∧ ∃ q, RowK f g c T.2.2 (x.1 + 1) q n T.2.1 d ∧ T.1.1 = q + 1 ∧ q + 1 ≤ c := by
  have e : T = (pj (ks_expect f c 125 (z0 (R (pj (ks_expect f c 123 (z0 x))) n).1)), (R (pj (ks_expect f c 123 (z0 x))) n).2.1, (R (pj (ks_expect f c 123 (z0 x))) n).2.2) := hT
  clear hT
  generalize hy : pj (ks_expect f c 123 (z0 x)) = y at e
  have hRy := hR y n
  generalize R y n = Y at e hRy
  subst e
  obtain ⟨a1, a2, a3, a4⟩ := ex_f (s := z0 Y.1) (x := 125) (by decide) h
  obtain ⟨b1, b2⟩ := hRy a1
  rw [← hy] at b1
  obtain ⟨c1, c2, c3, c4⟩ := ex_f (s := z0 x) (x := 123) (by decide) b1
  have c4' : y.1 = x.1 + 1 := by rw [← hy]; exact c4
  have c2' : x.1 < c := c2
  refine ⟨c1, ⟨c2, c3⟩, Y.1.1, ?_, a4, a2⟩
  have b3 := b2 (by omega)
  rw [c4'] at b3
  exact b3
theorem pws_5 {D : Nat} (h : PWs D) : 5 ≤ szS D := by
  obtain ⟨h1, h2, h3, h4⟩ := h
  have hx : cK D ≠ 4 → 0 < (xt (cE D)).length := fun z => List.length_pos_iff.mpr (h3 z).1
  unfold szS
  split
  · have := hx (by omega)
    omega
  · split
    · omega
    · omega
theorem simK {P Q n2 hi : Nat} {r : Fo} (h1 : DQ f g c P (Dd f c P)) (h2 : PWs (Dd f c P)) (h3 : Q = P + szS (Dd f c P)) (h : RowK f g c r Q hi (n + 1) n2 d) : RowK f g c (cn P .nil r) P hi n n2 d := by
  obtain ⟨r1, r2, r3, r4, r5, r6, r7, r8⟩ := h
  have h5 := pws_5 h2
  refine ⟨⟨h2, r1⟩, ⟨h1, r2⟩, ⟨Nat.le_refl _, PI_lo r r1 _ _ _ r3 (by omega)⟩, ?_, ?_, ?_, r7, r8⟩
  · show szS (Dd f c P) + bas (Dd f c) r + P ≤ hi + 4 * (1 + nsm r)
    omega
  · show 5 * (1 + nsm r) + P ≤ hi
    omega
  · show 1 + nsm r + n = n2
    omega
theorem rouK {P l q1 n1 n2 hi i : Nat} {t1 r : Fo} (hd : d < 6) (h1 : DQ f g c P (Dd f c P)) (h2 : PWb (Dd f c P)) (h7 : cK (Dd f c P) = 7) (hl : l = (xt (cE (Dd f c P))).length) (hl0 : 0 < l) (k1 : RowK f g c t1 (P + 2 + l + 1) q1 (n + 1) n1 (d + 1)) (h : RowK f g c r (q1 + 1) hi n1 n2 d) : RowK f g c (cn P (cn i t1 .nil) r) P hi n n2 d := by
  obtain ⟨r1, r2, r3, r4, r5, r6, r7, r8⟩ := h
  obtain ⟨s1, s2, s3, s4, s5, s6, s7, s8⟩ := k1
  refine ⟨⟨h7, h2, s1, r1⟩, ⟨h1, s2, r2⟩, ⟨Nat.le_refl _, q1, PI_lo t1 s1 _ _ _ s3 (by omega), PI_lo r r1 _ _ _ r3 (by omega)⟩, ?_, ?_, ?_, ?_, r8⟩
  · show (xt (cE (Dd f c P))).length + 8 + bas (Dd f c) t1 + bas (Dd f c) r + P ≤ hi + 4 * (1 + nsm t1 + nsm r)
    omega
  · show 5 * (1 + nsm t1 + nsm r) + P ≤ hi
    omega
  · show 1 + nsm t1 + nsm r + n = n2
    omega
  · show max (2 + dpt t1) (dpt r) ≤ _
    omega
theorem choK {P l q1 q2 n1 n0 n2 hi i j : Nat} {t1 t2 r : Fo} (hd : d < 6) (h1 : DQ f g c P (Dd f c P)) (h2 : PWb (Dd f c P)) (h7 : cK (Dd f c P) = 6) (hl : l = (xt (cE (Dd f c P))).length) (hl0 : 0 < l) (k1 : RowK f g c t1 (P + 2 + l + 1) q1 (n + 1) n0 (d + 1)) (k2 : RowK f g c t2 (q1 + 2) q2 n0 n1 (d + 1)) (h : RowK f g c r (q2 + 1) hi n1 n2 d) : RowK f g c (cn P (cn i t1 (cn j t2 .nil)) r) P hi n n2 d := by
  obtain ⟨r1, r2, r3, r4, r5, r6, r7, r8⟩ := h
  obtain ⟨s1, s2, s3, s4, s5, s6, s7, s8⟩ := k1
  obtain ⟨u1, u2, u3, u4, u5, u6, u7, u8⟩ := k2
  refine ⟨⟨h7, h2, s1, u1, r1⟩, ⟨h1, s2, u2, r2⟩, ⟨Nat.le_refl _, q1, q2, PI_lo t1 s1 _ _ _ s3 (by omega), PI_lo t2 u1 _ _ _ u3 (by omega), PI_lo r r1 _ _ _ r3 (by omega)⟩, ?_, ?_, ?_, ?_, r8⟩
  · show (xt (cE (Dd f c P))).length + 6 + bas (Dd f c) t1 + bas (Dd f c) t2 + bas (Dd f c) r + P ≤ hi + 4 * (1 + nsm t1 + nsm t2 + nsm r)
    omega
  · show 5 * (1 + nsm t1 + nsm t2 + nsm r) + P ≤ hi
    omega
  · show 1 + nsm t1 + nsm t2 + nsm r + n = n2
    omega
  · show max (2 + max (dpt t1) (dpt t2)) (dpt r) ≤ _
    omega
theorem stmK (hg : Gf f g c) (hR : d < 6 → RHy f g c R (d + 1)) {P : Nat} (hP : P ≤ c) {T : pw × Nat × Fo} (hT : T = pStm R f c d (P, false) n) (h : T.1.2 = false) : T.1.1 ≤ c ∧ ∀ r hi n2, RowK f g c r T.1.1 hi T.2.1 n2 d → RowK f g c (cn P T.2.2 r) P hi n n2 d := by
  unfold pStm at hT
  by_cases q0 : n = 40
  · rw [if_pos q0] at hT
    subst hT
    cases h
  rw [if_neg q0] at hT
  by_cases q1 : dC f c (P, false) = 33
  · rw [if_pos q1] at hT
    have key := dq_tell hg q1
    generalize r19_5 f c (dP f c (P, false)) (dS1 f c (P, false)) = X at hT key
    subst hT
    obtain ⟨a1, a2, a3, a4⟩ := key h
    exact ⟨Nat.le_trans (Nat.le_of_eq a3) a4, fun r hi n2 hr => simK a1 a2 a3 hr⟩
  rw [if_neg q1] at hT
  by_cases q2 : dC f c (P, false) = 63
  · rw [if_pos q2] at hT
    by_cases q3 : d < 6
    · rw [if_pos q3] at hT
      have key := dq_br hg (Or.inl q2)
      generalize dE f c (P, false) = X at hT key
      generalize h1 : pBlk R f c (pj X) (n + 1) = T1 at hT
      generalize h2 : pBlk R f c T1.1 T1.2.1 = T2 at hT
      subst hT
      obtain ⟨b1, b2, e2, b3, b4, b5⟩ := blkK (hR q3) h2.symm h
      obtain ⟨c1, c2, e1, c3, c4, c5⟩ := blkK (hR q3) h1.symm b1
      obtain ⟨a1, a2, a3, a4, a5, a6, a7⟩ := key c1 c2.1 c2.2
      have c3' : RowK f g c T1.2.2 (X.1 + 1) e1 (n + 1) T1.2.1 (d + 1) := c3
      rw [a5] at c3'
      rw [c4] at b3
      refine ⟨Nat.le_trans (Nat.le_of_eq b4) b5, fun r hi n2 hr => ?_⟩
      have hr' : RowK f g c r T2.1.1 hi T2.2.1 n2 d := hr
      rw [b4] at hr'
      exact choK q3 a1 a2 (a3 q2) rfl a7 c3' b3 hr'
    · rw [if_neg q3] at hT
      subst hT
      cases h
  rw [if_neg q2] at hT
  by_cases q4 : dC f c (P, false) = 64
  · rw [if_pos q4] at hT
    by_cases q3 : d < 6
    · rw [if_pos q3] at hT
      have key := dq_br hg (Or.inr q4)
      generalize dE f c (P, false) = X at hT key
      generalize h1 : pBlk R f c (pj X) (n + 1) = T1 at hT
      subst hT
      obtain ⟨c1, c2, e1, c3, c4, c5⟩ := blkK (hR q3) h1.symm h
      obtain ⟨a1, a2, a3, a4, a5, a6, a7⟩ := key c1 c2.1 c2.2
      have c3' : RowK f g c T1.2.2 (X.1 + 1) e1 (n + 1) T1.2.1 (d + 1) := c3
      rw [a5] at c3'
      refine ⟨Nat.le_trans (Nat.le_of_eq c4) c5, fun r hi n2 hr => ?_⟩
      have hr' : RowK f g c r T1.1.1 hi T1.2.1 n2 d := hr
      rw [c4] at hr'
      exact rouK q3 a1 a2 (a4 q4) rfl a7 c3' hr'
    · rw [if_neg q3] at hT
      subst hT
      cases h
  rw [if_neg q4] at hT
  by_cases q5 : rd_var (dC f c (P, false)) = true ∧ ka f c (dS1 f c (P, false)) 1 = 58
  · rw [if_pos q5] at hT
    have key := dq_set hg q1 q2 q4 q5
    generalize r30_4 f c (dP f c (P, false)) (dS1 f c (P, false)) = X at hT key
    subst hT
    obtain ⟨a1, a2, a3, a4⟩ := key h
    exact ⟨Nat.le_trans (Nat.le_of_eq a3) a4, fun r hi n2 hr => simK a1 a2 a3 hr⟩
  · rw [if_neg q5] at hT
    have key := dq_send hg hP q1 q2 q4 q5
    generalize r31_5 f c (dP f c (P, false)) (dS1 f c (P, false)) = X at hT key
    subst hT
    obtain ⟨a1, a2, a3, a4⟩ := key h
    exact ⟨Nat.le_trans (Nat.le_of_eq a3) a4, fun r hi n2 hr => simK a1 a2 a3 hr⟩
theorem nilK {P : Nat} (hP : P ≤ c) : RowK f g c .nil P P n n d := ⟨trivial, trivial, Nat.le_refl _, by show 0 + P ≤ P + 4 * 0; omega, by show 5 * 0 + P ≤ P; omega, Nat.zero_add n, Nat.zero_le _, hP⟩
theorem looK (hg : Gf f g c) (hR : d < 6 → RHy f g c R (d + 1)) : ∀ i, RHy f g c (pLoop R f c d i) d
  | 0, x, n, h => ⟨h, fun hx => nilK hx⟩
  | i + 1, x, n, h => by
    have e : pLoop R f c d (i + 1) x n = if x.2 = true then (x, n, .nil) else if ks_ends f c d (z0 x) = true then (x, n, .nil) else ((pLoop R f c d i (pStm R f c d x n).1 (pStm R f c d x n).2.1).1, (pLoop R f c d i (pStm R f c d x n).1 (pStm R f c d x n).2.1).2.1, cn x.1 (pStm R f c d x n).2.2 (pLoop R f c d i (pStm R f c d x n).1 (pStm R f c d x n).2.1).2.2) := rfl
    rw [e] at h ⊢
    clear e
    by_cases q : x.2 = true
    · rw [if_pos q] at h
      have h' : x.2 = false := h
      rw [q] at h'
      cases h'
    rw [if_neg q] at h ⊢
    have qf : x.2 = false := by simpa using q
    refine ⟨qf, fun hx => ?_⟩
    by_cases q2 : ks_ends f c d (z0 x) = true
    · rw [if_pos q2]
      exact nilK hx
    rw [if_neg q2] at h ⊢
    obtain ⟨P, w⟩ := x
    have qf' : w = false := qf
    subst qf'
    generalize hT : pStm R f c d (P, false) n = T at h ⊢
    obtain ⟨a1, a2⟩ := looK hg hR i T.1 T.2.1 h
    obtain ⟨b1, b2⟩ := stmK hg hR hx hT.symm a1
    exact b2 _ _ _ (a2 b1)
theorem rowK (hg : Gf f g c) : ∀ r d, RHy f g c (pRow f c r d) d
  | 0, d, x, n, h => ⟨h, fun hx => nilK hx⟩
  | r + 1, d, x, n, h => looK hg (fun _ => rowK hg r (d + 1)) 41 x n h
end RK
