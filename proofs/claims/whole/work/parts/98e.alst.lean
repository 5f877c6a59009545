section AE
variable {f : Nat → Int32} {c P : Nat} {p : Int32} {s : rs} {r : pw}
theorem mwp_c {pr pr' : Int32 → Bool} (h : r.1 < c → pr (f r.1) = pr' (f r.1)) : mwp f c pr r = mwp f c pr' r := by
  unfold mwp
  by_cases q : r.2 = true
  · rw [if_pos q, if_pos q]
  · rw [if_neg q, if_neg q]
    by_cases q2 : r.1 < c
    · rw [if_pos q2, if_pos q2, h q2]
    · rw [if_neg q2, if_neg q2]
theorem prO_0 : prO p 0 = false := by
  unfold prO
  rw [show rd_in (0 - 65) 6 = false by decide, Bool.and_false]
theorem prO_59 : prO p 59 = false := by
  unfold prO
  rw [show rd_in (59 - 65) 6 = false by decide, Bool.and_false]
theorem prO_125 : prO p 125 = false := by
  unfold prO
  rw [show rd_in (125 - 65) 6 = false by decide, Bool.and_false]
theorem al_ex (h : Al f c (pj s) r) (x : Int32) (h0 : isc x 0 = false) (h1 : isc x 59 = false) (h2 : isc x 125 = false) : Al f c (pj (ks_expect f c x s)) (mwp f c (isc x) r) := by
  rw [ksp_ex]
  exact al_op h h0 h1 h2
theorem al_exF (h : Al f c (pj s) r) (x : Int32) (h0 : isc x 0 = false) : AlF f c (pj (ks_expect f c x s)) (mwp f c (isc x) r) := by
  rw [ksp_ex]
  exact al_opF h h0
theorem al_ot (h : Al f c (pj s) r) : Al f c (pj (ks_other f c p s)) (mwp f c (prO p) r) := by
  rw [ksp_other]
  exact al_op h prO_0 prO_59 prO_125
theorem al_fg (hl : Ltr f c) (h : Al f c (pj s) r) : Al f c (pj (ks_one f c 48 10 s)) (mwp f c rd_fig r) := by
  rw [ksp_one, mwp_c (pr' := fun ch => rd_in (ch - 48) 10) (fun q => by obtain ⟨m, hm, e⟩ := lt_n hl q; rw [e]; exact (lt_f m hm).2.1)]
  exact al_op h (by decide) (by decide) (by decide)
theorem al_vr (hl : Ltr f c) (h : Al f c (pj s) r) : Al f c (pj (ks_one f c 119 4 s)) (mwp f c rd_var r) := by
  rw [ksp_one, mwp_c (pr' := fun ch => rd_in (ch - 119) 4) (fun q => by obtain ⟨m, hm, e⟩ := lt_n hl q; rw [e]; exact (lt_f m hm).2.2)]
  exact al_op h (by decide) (by decide) (by decide)
theorem al_0 (hP : P ≤ c) (hL : Lc f P) : Al f c (P, false) (P, false) := ⟨⟨rfl, hP, fun z => Bool.noConfusion z, fun z => Bool.noConfusion z⟩, fun _ => hL⟩
theorem ka_1 (hP : P < c) : ka f c (P, false, 0, 0) 0 = f P := by rw [ka_la]; unfold rd_la; rw [if_pos hP]
theorem alT (hl : Ltr f c) (hP : P < c) (h33 : f P = 33) : AlF f c (pj (r19_5 f c p (P, false, 0, 0))) (mT f c p P) := by
  have e1 : r19_1 f c p (P, false, 0, 0) = (P + 1, false, 0, 0) := by
    unfold r19_1 ks_expect
    rw [ka_1 hP, if_pos h33]
    rfl
  have a1 : Al f c (pj (r19_1 f c p (P, false, 0, 0))) (P + 1, false) := by
    rw [e1]
    exact al_0 hP ⟨Nat.succ_pos _, by show f P ≠ 59; rw [h33]; decide, by show f P ≠ 125; rw [h33]; decide⟩
  have a2 : Al f c (pj (r19_2 f c p (P, false, 0, 0))) (mwp f c rd_fig (P + 1, false)) := al_fg hl a1
  have a3 : Al f c (pj (r19_3 f c p (P, false, 0, 0))) _ := al_ex a2 62 (by decide) (by decide) (by decide)
  have a4 : Al f c (pj (r19_4 f c p (P, false, 0, 0))) _ := al_ot (p := p) a3
  exact al_exF a4 59 (by decide)
theorem alS (hl : Ltr f c) (hP : P + 1 < c) (hv : rd_var (f P) = true) (h58 : f (P + 1) = 58) : AlF f c (pj (r30_4 f c p (P, false, 0, 0))) (mS f c P) := by
  have hin : rd_in (f P - 119) 4 = true := by
    obtain ⟨m, hm, e⟩ := lt_n hl (show P < c by omega)
    rw [e] at hv ⊢
    rw [← (lt_f m hm).2.2]
    exact hv
  have e1 : r30_1 f c p (P, false, 0, 0) = (P + 1, false, 0, 0) := by
    unfold r30_1 ks_one
    rw [ka_1 (show P < c by omega), if_pos hin]
    rfl
  have e2 : r30_2 f c p (P, false, 0, 0) = (P + 2, false, 0, 0) := by
    unfold r30_2 ks_expect
    rw [e1, ka_1 hP, if_pos h58]
    rfl
  have a2 : Al f c (pj (r30_2 f c p (P, false, 0, 0))) (P + 2, false) := by
    rw [e2]
    exact al_0 hP ⟨Nat.succ_pos _, by show f (P + 1) ≠ 59; rw [h58]; decide, by show f (P + 1) ≠ 125; rw [h58]; decide⟩
  exact al_exF (al_expr a2) 59 (by decide)
theorem alD (hl : Ltr f c) (hP : P ≤ c) (hL : Lc f P) : AlF f c (pj (r31_5 f c p (P, false, 0, 0))) (mD f c p P) := by
  have a0 : Al f c (pj (P, false, 0, 0)) (P, false) := al_0 hP hL
  have a1 : Al f c (pj (r31_1 f c p (P, false, 0, 0))) (mw_expr f c (P, false)) := al_expr a0
  have a2 : Al f c (pj (r31_2 f c p (P, false, 0, 0))) _ := al_ex a1 62 (by decide) (by decide) (by decide)
  have a3 : Al f c (pj (r31_3 f c p (P, false, 0, 0))) _ := al_ot (p := p) a2
  have a4 : Al f c (pj (r31_4 f c p (P, false, 0, 0))) _ := al_vr hl a3
  exact al_exF a4 59 (by decide)
end AE
section BE
variable {f : Nat → Int32} {c P : Nat}
theorem d_yes (hP : P < c) (h : rd_in (f P - 65) 6 = true) : dS1 f c (P, false) = (P + 1, false, 0, 0) ∧ dP f c (P, false) = f P - 65 := by
  unfold dS1 dP ks_one kv_one
  rw [show z0 (P, false) = (P, false, 0, 0) from rfl, ka_1 hP, if_pos h, if_pos h]
  exact ⟨rfl, rfl⟩
theorem d_no (hP : P < c) (h : rd_in (f P - 65) 6 = false) : dS1 f c (P, false) = (P, true, 0, 0) ∧ dC f c (P, false) = 0 := by
  have e : dS1 f c (P, false) = (P, true, 0, 0) := by
    unfold dS1 ks_one
    rw [show z0 (P, false) = (P, false, 0, 0) from rfl, ka_1 hP, h, iff']
    rfl
  refine ⟨e, ?_⟩
  unfold dC
  rw [e, ka_w]
theorem r31_w {p : Int32} (hl : Ltr f c) (hP : P ≤ c) : pj (r31_5 f c p (P, true, 0, 0)) = (P, true) := by
  have a0 : Al f c (pj (P, true, 0, 0)) (P, true) := ⟨⟨rfl, hP, fun _ => rfl, fun _ => Or.inl rfl⟩, fun z => Bool.noConfusion z⟩
  have a1 : Al f c (pj (r31_1 f c p (P, true, 0, 0))) (mw_expr f c (P, true)) := al_expr a0
  have e1 : mw_expr f c (P, true) = (P, true) := rfl
  rw [e1] at a1
  have a2 : Al f c (pj (r31_2 f c p (P, true, 0, 0))) (P, true) := al_ex a1 62 (by decide) (by decide) (by decide)
  have a3 : Al f c (pj (r31_3 f c p (P, true, 0, 0))) (P, true) := al_ot (p := p) a2
  have a4 : Al f c (pj (r31_4 f c p (P, true, 0, 0))) (P, true) := al_vr hl a3
  have a5 : AlF f c (pj (r31_5 f c p (P, true, 0, 0))) (P, true) := al_exF a4 59 (by decide)
  obtain ⟨b1, -, b3, -⟩ := a5
  exact Prod.ext b1 (b3 rfl)
end BE
