def szS (D : Nat) : Nat := if cK D = 1 then (xt (cE D)).length + 4 else if cK D = 2 then (xt (cE D)).length + 5 else 6
section DS
variable {f : Nat → Int32} {g : Nat → Nat} {c P : Nat}
theorem dq_tell (hg : Gf f g c) (h33 : dC f c (P, false) = 33) (h : (r19_5 f c (dP f c (P, false)) (dS1 f c (P, false))).2.1 = false) : DQ f g c P (Dd f c P) ∧ PWs (Dd f c P) ∧ (r19_5 f c (dP f c (P, false)) (dS1 f c (P, false))).1 = P + szS (Dd f c P) ∧ P + szS (Dd f c P) ≤ c := by
  have hw : (dS1 f c (P, false)).2.1 = false := by
    by_cases z : (dS1 f c (P, false)).2.1 = false ∧ (dS1 f c (P, false)).1 < c
    · exact z.1
    · unfold dC at h33
      rw [ka_0 z] at h33
      exact absurd h33 (by decide)
  obtain ⟨hP, hS, p, hp, ep⟩ := hd_P hg hw
  rw [ep] at h ⊢
  obtain ⟨a1, a2, ⟨l, l1, l2⟩, o, o1, o2, o3⟩ := q_tell hg hp (P := P) (s0 := dS1 f c (P, false)) (s1 := r19_1 f c (Int32.ofNat p) (dS1 f c (P, false))) (s2 := r19_2 f c (Int32.ofNat p) (dS1 f c (P, false))) (s3 := r19_3 f c (Int32.ofNat p) (dS1 f c (P, false))) (s4 := r19_4 f c (Int32.ofNat p) (dS1 f c (P, false))) (s5 := r19_5 f c (Int32.ofNat p) (dS1 f c (P, false))) rfl rfl rfl rfl rfl (by rw [hS]) h
  have eK : dK f c (P, false) = Int32.ofNat 4 := by unfold dK; rw [if_pos h33]; rfl
  have eO : dO f c (P, false) = Int32.ofNat o := by unfold dO; rw [if_pos h33, ep]; exact o3
  have eV : dV f c (P, false) = Int32.ofNat 0 := by unfold dV; rw [if_pos h33]; rfl
  have eL : dL f c (P, false) = Int32.ofNat l := by unfold dL; rw [if_pos h33, ep]; exact l2
  have eX : dX f c (P, false) = Int64.ofNat 0 := by unfold dX; rw [if_pos h33]; rfl
  obtain ⟨d1, d2, d3, d4, d5, d6⟩ := Dd_of eK (by decide) eV (by decide) eL (by omega) (by rw [eO, i2n_o (by omega)]) (by omega) ep (by omega) eX (by decide)
  refine ⟨⟨by rw [d5]; exact ep, by omega, by rw [d1]; exact eK, by rw [d2]; exact eV, by rw [d3]; exact eL, by rw [d6]; exact eX, Or.inl ⟨h33, d1, by rw [d4]; exact eO, by omega, by omega, by omega⟩⟩, ⟨by omega, Or.inr ⟨Or.inr d1, by omega, by omega⟩, fun z => absurd d1 z, fun _ => by omega⟩, ?_, ?_⟩
  · unfold szS
    rw [if_neg (by omega), if_neg (by omega)]
    exact a1
  · unfold szS
    rw [if_neg (by omega), if_neg (by omega)]
    exact a2
theorem dq_set (hg : Gf f g c) (h33 : ¬ dC f c (P, false) = 33) (h63 : ¬ dC f c (P, false) = 63) (h64 : ¬ dC f c (P, false) = 64) (hv : rd_var (dC f c (P, false)) = true ∧ ka f c (dS1 f c (P, false)) 1 = 58) (h : (r30_4 f c (dP f c (P, false)) (dS1 f c (P, false))).2.1 = false) : DQ f g c P (Dd f c P) ∧ PWs (Dd f c P) ∧ (r30_4 f c (dP f c (P, false)) (dS1 f c (P, false))).1 = P + szS (Dd f c P) ∧ P + szS (Dd f c P) ≤ c := by
  have hw : (dS1 f c (P, false)).2.1 = false := by
    by_cases z : (dS1 f c (P, false)).2.1 = false ∧ (dS1 f c (P, false)).1 < c
    · exact z.1
    · have h1 := hv.1
      unfold dC at h1
      rw [ka_0 z] at h1
      exact absurd h1 (by decide)
  obtain ⟨hP, hS, p, hp, ep⟩ := hd_P hg hw
  obtain ⟨k, ⟨a1, a9⟩, a2, a3, a4, a5, a6, a7, a8, v, v1, v2⟩ := q_set hg (P := P) (s0 := dS1 f c (P, false)) (s1 := r30_1 f c (dP f c (P, false)) (dS1 f c (P, false))) (s2 := r30_2 f c (dP f c (P, false)) (dS1 f c (P, false))) (s3 := r30_3 f c (dP f c (P, false)) (dS1 f c (P, false))) (s4 := r30_4 f c (dP f c (P, false)) (dS1 f c (P, false))) rfl rfl rfl rfl (by rw [hS]) h
  have eK : dK f c (P, false) = Int32.ofNat 1 := by unfold dK; rw [if_neg h33, if_neg h63, if_neg h64, if_pos hv]; rfl
  have eO : dO f c (P, false) = -1 := by unfold dO; rw [if_neg h33, if_neg h63, if_neg h64, if_pos hv]
  have eV : dV f c (P, false) = Int32.ofNat v := by unfold dV; rw [if_neg h33, if_neg h63, if_neg h64, if_pos hv]; exact v2
  have eL : dL f c (P, false) = Int32.ofNat 0 := by unfold dL; rw [if_neg h33]; rfl
  have eX : dX f c (P, false) = Int64.ofNat (vlx (sgm g (P + 3) k)) := by unfold dX; rw [if_neg h33, if_neg h63, if_neg h64, if_pos hv]; exact a4
  obtain ⟨d1, d2, d3, d4, d5, d6⟩ := Dd_of eK (by decide) eV (by omega) eL (by omega) (by rw [eO]; rfl) (show 0 < 8 by omega) ep (by omega) eX (vl7 hg (by omega) a7)
  have hl : (xt (vlx (sgm g (P + 3) k))).length = k := by rw [a6, sgm_len]
  refine ⟨⟨by rw [d5]; exact ep, by omega, by rw [d1]; exact eK, by rw [d2]; exact eV, by rw [d3]; exact eL, by rw [d6]; exact eX, Or.inr (Or.inr (Or.inr (Or.inl ⟨h33, h63, h64, hv, d1, eO, ?_⟩)))⟩, ⟨by omega, Or.inl d1, fun _ => by rw [d6]; exact a5, fun z => by omega⟩, ?_, ?_⟩
  · rw [d6]
    refine ⟨a5, ?_, ?_, by omega, Or.inl (by rw [a3]; exact a9)⟩
    · rw [hl]; exact a3
    · rw [hl]; exact a6
  · unfold szS
    rw [if_pos d1, d6, hl]
    omega
  · unfold szS
    rw [if_pos d1, d6, hl]
    omega
theorem q_nw (hg : Gf f g c) {p : Int32} {s0 s1 s2 s3 s4 s5 : rs} (e1 : s1 = ks_expr f c s0) (e2 : s2 = ks_expect f c 62 s1) (e3 : s3 = ks_other f c p s2) (e4 : s4 = ks_one f c 119 4 s3) (e5 : s5 = ks_expect f c 59 s4) (h0 : s0.1 ≤ c) (h : s5.2.1 = false) : s0.2.1 = false := by
  rw [e5] at h
  obtain ⟨a1, _⟩ := ex_f (by decide) h
  rw [e4] at a1
  obtain ⟨b1, _⟩ := one_f (by decide) a1
  rw [e3] at b1
  obtain ⟨c1, _⟩ := ot_f b1
  rw [e2] at c1
  obtain ⟨d1, _⟩ := ex_f (by decide) c1
  rw [e1] at d1
  exact (xs_expr hg rfl h0 d1).1
theorem dq_send (hg : Gf f g c) (hPc : P ≤ c) (h33 : ¬ dC f c (P, false) = 33) (h63 : ¬ dC f c (P, false) = 63) (h64 : ¬ dC f c (P, false) = 64) (hv : ¬ (rd_var (dC f c (P, false)) = true ∧ ka f c (dS1 f c (P, false)) 1 = 58)) (h : (r31_5 f c (dP f c (P, false)) (dS1 f c (P, false))).2.1 = false) : DQ f g c P (Dd f c P) ∧ PWs (Dd f c P) ∧ (r31_5 f c (dP f c (P, false)) (dS1 f c (P, false))).1 = P + szS (Dd f c P) ∧ P + szS (Dd f c P) ≤ c := by
  have hw : (dS1 f c (P, false)).2.1 = false := by
    cases hq : (dS1 f c (P, false)).2.1 with
    | false => rfl
    | true =>
      exfalso
      have e : dP f c (P, false) = Int32.ofNat 0 := by
        unfold dP kv_one
        unfold dS1 ks_one at hq
        split at hq
        · cases hq
        · next z => rw [if_neg z]; rfl
      have hs1 : (dS1 f c (P, false)).1 = P := by
        unfold dS1 ks_one at hq ⊢
        split at hq
        · cases hq
        · next z => rw [if_neg z]; rfl
      rw [e] at h
      have e5 := q_nw hg (p := Int32.ofNat 0) (s0 := dS1 f c (P, false)) (s1 := r31_1 f c (Int32.ofNat 0) (dS1 f c (P, false))) (s2 := r31_2 f c (Int32.ofNat 0) (dS1 f c (P, false))) (s3 := r31_3 f c (Int32.ofNat 0) (dS1 f c (P, false))) (s4 := r31_4 f c (Int32.ofNat 0) (dS1 f c (P, false))) (s5 := r31_5 f c (Int32.ofNat 0) (dS1 f c (P, false))) rfl rfl rfl rfl rfl (by rw [hs1]; exact hPc) h
      rw [e5] at hq
      cases hq
  obtain ⟨hP, hS, p, hp, ep⟩ := hd_P hg hw
  rw [ep] at h ⊢
  obtain ⟨_, k, ⟨a1, a9⟩, a2, a3, a4, a5, a6, a7, a8, ⟨v, v1, v2⟩, o, o1, o2, o3⟩ := q_send hg hp (P := P) (s0 := dS1 f c (P, false)) (s1 := r31_1 f c (Int32.ofNat p) (dS1 f c (P, false))) (s2 := r31_2 f c (Int32.ofNat p) (dS1 f c (P, false))) (s3 := r31_3 f c (Int32.ofNat p) (dS1 f c (P, false))) (s4 := r31_4 f c (Int32.ofNat p) (dS1 f c (P, false))) (s5 := r31_5 f c (Int32.ofNat p) (dS1 f c (P, false))) rfl rfl rfl rfl rfl (by rw [hS]) (by omega) h
  have eK : dK f c (P, false) = Int32.ofNat 2 := by unfold dK; rw [if_neg h33, if_neg h63, if_neg h64, if_neg hv]; rfl
  have eO : dO f c (P, false) = Int32.ofNat o := by unfold dO; rw [if_neg h33, if_neg h63, if_neg h64, if_neg hv, ep]; exact o3
  have eV : dV f c (P, false) = Int32.ofNat v := by unfold dV; rw [if_neg h33, if_neg h63, if_neg h64, if_neg hv, ep]; exact v2
  have eL : dL f c (P, false) = Int32.ofNat 0 := by unfold dL; rw [if_neg h33]; rfl
  have eX : dX f c (P, false) = Int64.ofNat (vlx (sgm g (P + 1) k)) := by unfold dX; rw [if_neg h33, if_neg h63, if_neg h64, if_neg hv, ep]; exact a4
  obtain ⟨d1, d2, d3, d4, d5, d6⟩ := Dd_of eK (by decide) eV (by omega) eL (by omega) (by rw [eO, i2n_o (by omega)]) (by omega) ep (by omega) eX (vl7 hg (by omega) a7)
  have hl : (xt (vlx (sgm g (P + 1) k))).length = k := by rw [a6, sgm_len]
  refine ⟨⟨by rw [d5]; exact ep, by omega, by rw [d1]; exact eK, by rw [d2]; exact eV, by rw [d3]; exact eL, by rw [d6]; exact eX, Or.inr (Or.inr (Or.inr (Or.inr ⟨h33, h63, h64, hv, d1, by rw [d4]; exact eO, by omega, by omega, ?_⟩)))⟩, ⟨by omega, Or.inr ⟨Or.inl d1, by omega, by omega⟩, fun _ => by rw [d6]; exact a5, fun z => by omega⟩, ?_, ?_⟩
  · rw [d6, ep]
    refine ⟨a5, ?_, ?_, by omega, Or.inr (Or.inl (by rw [a3]; exact a9))⟩
    · rw [hl]; exact a3
    · rw [hl]; exact a6
  · unfold szS
    rw [if_neg (by omega), if_pos d1, d6, hl]
    omega
  · unfold szS
    rw [if_neg (by omega), if_pos d1, d6, hl]
    omega
theorem dq_br (hg : Gf f g c) (hc : dC f c (P, false) = 63 ∨ dC f c (P, false) = 64) (h : (dE f c (P, false)).2.1 = false) (h1c : (dE f c (P, false)).1 < c) (h1f : f (dE f c (P, false)).1 = 123) : DQ f g c P (Dd f c P) ∧ PWb (Dd f c P) ∧ (dC f c (P, false) = 63 → cK (Dd f c P) = 6) ∧ (dC f c (P, false) = 64 → cK (Dd f c P) = 7) ∧ (dE f c (P, false)).1 = P + 2 + (xt (cE (Dd f c P))).length ∧ P + 2 + (xt (cE (Dd f c P))).length ≤ c ∧ 0 < (xt (cE (Dd f c P))).length := by
  have h33 : ¬ dC f c (P, false) = 33 := fun z => by rw [z] at hc; revert hc; decide
  have hw : (dS1 f c (P, false)).2.1 = false ∧ (dS1 f c (P, false)).1 < c := by
    by_cases z : (dS1 f c (P, false)).2.1 = false ∧ (dS1 f c (P, false)).1 < c
    · exact z
    · unfold dC at hc
      rw [ka_0 z] at hc
      exact absurd hc (by decide)
  obtain ⟨hP, hS, p, hp, ep⟩ := hd_P hg hw.1
  have hlt : P + 1 < c := by have := hw.2; rw [hS] at this; exact this
  have hs1 : ((dS1 f c (P, false)).1 + 1, (dS1 f c (P, false)).2).1 = P + 2 := by rw [hS]
  obtain ⟨_, k, x2, x3, x4, x5, x6, x7, x8⟩ := xs_expr hg hs1 (by omega) h
  have eK : dK f c (P, false) = Int32.ofNat (if dC f c (P, false) = 63 then 6 else 7) := by
    unfold dK
    rw [if_neg h33]
    by_cases z : dC f c (P, false) = 63
    · rw [if_pos z, if_pos z]; rfl
    · rw [if_neg z, if_neg z, if_pos (hc.resolve_left z)]; rfl
  have eO : dO f c (P, false) = -1 := by
    unfold dO
    rw [if_neg h33]
    by_cases z : dC f c (P, false) = 63
    · rw [if_pos z]
    · rw [if_neg z, if_pos (hc.resolve_left z)]
  have eV : dV f c (P, false) = Int32.ofNat 0 := by
    unfold dV
    rw [if_neg h33]
    by_cases z : dC f c (P, false) = 63
    · rw [if_pos z]; rfl
    · rw [if_neg z, if_pos (hc.resolve_left z)]; rfl
  have eL : dL f c (P, false) = Int32.ofNat 0 := by unfold dL; rw [if_neg h33]; rfl
  have eX : dX f c (P, false) = Int64.ofNat (vlx (sgm g (P + 2) k)) := by
    unfold dX
    rw [if_neg h33]
    by_cases z : dC f c (P, false) = 63
    · rw [if_pos z]; exact x6
    · rw [if_neg z, if_pos (hc.resolve_left z)]; exact x6
  obtain ⟨d1, d2, d3, d4, d5, d6⟩ := Dd_of eK (by split <;> decide) eV (by omega) eL (by omega) (by rw [eO]; rfl) (show 0 < 8 by omega) ep (by omega) eX (vl7 hg (by omega) x5)
  have hl : (xt (vlx (sgm g (P + 2) k))).length = k := by rw [x8, sgm_len]
  have hE : Exs g c (cE (Dd f c P)) (P + 2) (dE f c (P, false)).1 := by
    rw [d6]
    refine ⟨x7, ?_, ?_, h1c, Or.inr (Or.inr (gq hg h1c (e := 123) (by decide) h1f))⟩
    · rw [hl]; exact x2
    · rw [hl]; exact x8
  have k6 : dC f c (P, false) = 63 → cK (Dd f c P) = 6 := fun z => by rw [d1, if_pos z]
  have k7 : dC f c (P, false) = 64 → cK (Dd f c P) = 7 := fun z => by rw [d1, if_neg (fun w => by rw [w] at z; revert z; decide)]
  refine ⟨⟨by rw [d5]; exact ep, by omega, by rw [d1]; exact eK, by rw [d2]; exact eV, by rw [d3]; exact eL, by rw [d6]; exact eX, ?_⟩, ⟨by omega, by rw [d6]; exact x7⟩, k6, k7, ?_, ?_, ?_⟩
  · by_cases z : dC f c (P, false) = 63
    · exact Or.inr (Or.inl ⟨z, k6 z, eO, hE⟩)
    · exact Or.inr (Or.inr (Or.inl ⟨hc.resolve_left z, k7 (hc.resolve_left z), eO, hE⟩))
  · rw [d6, hl]; exact x2
  · rw [d6, hl]; exact x3
  · rw [d6, hl]; exact x4
end DS
