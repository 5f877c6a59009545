section AP2
variable {S S' : hS} {w n : Nat} {C : List Frm} {t s : Fo}
theorem szR_tg {k a x : Nat} {v : Option Nat} : ztg (szR S k a v) x = ztg S x := rfl
theorem lst_cn {a : Nat} {k' r' : Fo} {d : Option Nat} : lst (cn a k' r') d = lst r' (some a) := rfl
theorem lst_ne : ∀ (t : Fo), So true t → ∀ (s : Fo) (v K d : Option Nat), RpG S t s v K → lst s d = none → s = .nil := fun t ht => So_ind (P := fun m t => m = true → ∀ (s : Fo) (v K d : Option Nat), RpG S t s v K → lst s d = none → s = .nil) (fun _ _ s v K d h _ => (RpG_n h).1) (fun m n k r _ h2 _ _ ih hm s v K d h hl => by
    subst hm
    obtain ⟨a, k', r', rfl, _, _, _, g4⟩ := RpG_r h
    have hl' : lst r' (some a) = none := hl
    rcases ih rfl r' _ K (some a) g4 hl' with rfl
    cases hl') t true ht rfl
theorem app_ok {m : Nat} {k y k' sy : Fo} {a1 : Nat} (h : RowO S w C t s) (sy1 : So true (cn m k y)) (hy : Rp S true (cn m k y) (cn a1 k' sy) (fun _ => some a1)) (spy : Spt true (cn a1 k' sy)) (dis : ∀ x, x ∈ ad true (plS C s) → x ∉ ad true (cn a1 k' sy)) (hn : nq true (cn m k y) + 1 ≤ n) : ∃ S', yW_append n S w (some a1) = some S' ∧ RowO S' w C (ap t (cn m k y)) (ap s (cn a1 k' sy)) ∧ Md2 S S' (w :: ad true (plS C s)) ∧ S'.1 = S.1 := by
  have h0 := h
  obtain ⟨h1, ⟨K, h2, h3⟩, h4, h5, h6, h7, h8⟩ := h
  obtain ⟨p1, p2, p3⟩ := (Spt_pl C s).mp h8
  have ndo := RowO_nd h0
  have ndy := Rp_nd _ true sy1 _ _ hy
  have wy : ∀ x, x ∈ ad true (cn a1 k' sy) → x ≠ w := fun x hx e => by
    have := (ndy x hx).1
    rw [e, h1] at this
    cases this
  have wo : ∀ x, x ∈ ad true (plS C s) → x ≠ w := fun x hx e => by
    have := (ndo x hx).1
    rw [e, h1] at this
    cases this
  have gy : RpG S (cn m k y) (cn a1 k' sy) (some a1) none := Rp_G _ sy1 _ _ hy
  have spnew : Spt true (plS C (ap s (cn a1 k' sy))) := (Spt_pl C _).mpr ⟨p1, (Spt_ap s _).mpr ⟨p2, spy, fun x hx => dis x ((ad_pl C s).mpr (Or.inr hx))⟩, fun x hx => by
    rw [ad_ap, List.mem_append]
    exact fun z => z.elim (p3 x hx) (dis x ((ad_pl C s).mpr (Or.inl hx)))⟩
  have e2 : nq true (cn m k y) = 1 + nq false k + nq true y := rfl
  have fin : ∀ (S1 : hS) (L1 : List Nat), Md2 S S1 L1 → S1.1 = S.1 → (∀ x, x ∈ L1 → x = w ∨ x ∈ ad true (plS C s)) → (∀ j, zR S1 j w = zR S j w ∨ j = 0) → (∀ j, zI S1 j w = zI S j w) → RpC S1 C (zR S1 0 w) K ∨ (RpC S1 C (zR S1 0 w) (some a1) ∧ s = .nil ∧ t = .nil) → (s = .nil ∧ t = .nil ∨ RpG S1 t s K (some a1)) → (RpC S1 C (zR S1 0 w) K → ¬ (s = .nil ∧ t = .nil)) → ∃ S', yW_append_55 w n (szR S1 1 w (some a1)) = some S' ∧ RowO S' w C (ap t (cn m k y)) (ap s (cn a1 k' sy)) ∧ Md2 S S' (w :: ad true (plS C s)) ∧ S'.1 = S.1 := by
    intro S1 L1 md e1 hL hR hI hC hG hX
    have gy1 : RpG S1 (cn m k y) (cn a1 k' sy) (some a1) none := RpG_md md _ sy1 _ _ _ gy (fun x hx hl => by
      rcases hL x hl with q | q
      · exact wy x hx q
      · exact dis x q hx)
    obtain ⟨_, _, _, eqn, q1, q2, q3, q4⟩ := RpG_r gy1
    cases eqn
    have hw1 : ztg S1 w = 8 := Md2_tg md h1
    have run := app55 (w := w) y sy1.2.1 sy S1 a1 n hw1 q2.1 q4 (fun x hx => wy x (List.mem_cons_of_mem _ (List.mem_append_right _ hx))) (wy a1 List.mem_cons_self) (by omega)
    have md2 : Md2 S (szR S1 1 w (lst sy (some a1))) (w :: ad true (plS C s)) := Md2_t md (Md2_R 1 w _) (fun x hx => by
      rw [List.mem_cons]
      exact hL x hx) (fun x hx _ => by
      rw [List.mem_singleton] at hx
      rw [hx]
      exact List.mem_cons_self) (fun x hx _ => by
      rw [List.mem_singleton] at hx
      rw [hx]
      exact List.mem_cons_self)
    have mdw : Md2 S1 (szR S1 1 w (lst sy (some a1))) [w] := Md2_R 1 w _
    have oth : ∀ j, j ≠ 1 → zR (szR S1 1 w (lst sy (some a1))) j w = zR S1 j w := fun j hj => zR_q (fun e => absurd e hj)
    have nds : ∀ x, x ∈ ad true (plS C s) → x ∉ [w] := fun x hx hl => by
      rw [List.mem_singleton] at hl
      exact wo x hx hl
    refine ⟨_, run, ⟨hw1, ?_, So_ap h4 sy1, ?_, fun e => ?_, fun C0 f e => ?_, spnew⟩, md2, e1⟩
    · rw [oth 0 (by decide)]
      have gy2 : RpG (szR S1 1 w (lst sy (some a1))) (cn m k y) (cn a1 k' sy) (some a1) none := RpG_md mdw _ sy1 _ _ _ gy1 (fun x hx hl => by
        rw [List.mem_singleton] at hl
        exact wy x hx hl)
      have cmd : ∀ K', RpC S1 C (zR S1 0 w) K' → RpC (szR S1 1 w (lst sy (some a1))) C (zR S1 0 w) K' := fun K' hK => RpC_md mdw C _ K' hK (fun x hx => nds x ((ad_pl C s).mpr (Or.inl hx)))
      rcases hC with hC | ⟨hC, hs, ht⟩
      · refine ⟨K, cmd K hC, ?_⟩
        rcases hG with hG | hG
        · exact (hX hC hG).elim
        · exact RpG_c t h4 s K _ _ (some a1) none (RpG_md mdw t h4 s K _ hG (fun x hx => nds x ((ad_pl C s).mpr (Or.inr hx)))) gy2
      · refine ⟨some a1, cmd _ hC, ?_⟩
        rw [hs, ht]
        exact gy2
    · rw [zR_self, lst_ap]
      rfl
    · rw [oth 2 (by decide)]
      rcases hR 2 with q | q
      · rw [q]
        exact h6 e
      · cases q
    · rw [oth 2 (by decide)]
      have : zI (szR S1 1 w (lst sy (some a1))) 3 w = zI S 3 w := hI 3
      rw [this]
      rcases hR 2 with q | q
      · rw [q]
        exact h7 C0 f e
      · cases q
  unfold yW_append
  show ∃ S', (if ztg S w = 8 then _ else none) = _ ∧ _
  rw [if_pos h1]
  show ∃ S', (zoc (zR S 1 w) _ _) = _ ∧ _
  cases hl : lst s none with
  | some z =>
    rw [h5, hl]
    have hsne : s ≠ .nil := fun e => by
      rw [e] at hl
      cases hl
    have zs : z ∈ ad true s := by
      rcases lst_mem t h4 s K none none z h3 hl with ⟨e, _⟩ | e
      · exact (hsne e).elim
      · exact e
    have zo := (ad_pl C s).mpr (Or.inr zs)
    show ∃ S', (if ztg S z = 2 then _ else none) = _ ∧ _
    rw [if_pos (ndo z zo).1]
    refine fin (szR S 8 z (some a1)) [z] (Md2_R 8 z _) rfl (fun x hx => ?_) (fun j => ?_) (fun j => rfl) (Or.inl ?_) (Or.inr (RpG_set t h4 s K none none h3 p2 hsne hl)) (fun _ e => hsne e.1)
    · rw [List.mem_singleton] at hx
      rw [hx]
      exact Or.inr zo
    · exact Or.inl (zR_q (fun _ => Ne.symm (wo z zo)))
    · have : zR (szR S 8 z (some a1)) 0 w = zR S 0 w := zR_q (fun e => absurd e (by decide))
      rw [this]
      exact RpC_md (Md2_R 8 z _) C _ K h2 (fun x hx hl => by
        rw [List.mem_singleton] at hl
        exact p3 x hx (by rw [hl]; exact zs))
  | none =>
    rw [h5, hl]
    show ∃ S', (zlb (zR S 2 w) fun o4 => _) = _ ∧ _
    have hs : s = .nil := lst_ne t h4 s K none none h3 hl
    subst hs
    have ht : t = .nil := by
      rcases So_cs h4 with e | ⟨_, _, _, rfl, _⟩
      · exact e
      · obtain ⟨_, _, _, e, _⟩ := RpG_r h3
        cases e
    subst ht
    have hK : K = none := (RpG_n h3).2
    subst hK
    show ∃ S', (zoc (zR S 2 w) _ _) = _ ∧ _
    rcases List.eq_nil_or_concat C with hC | ⟨C0, f, hC⟩
    · subst hC
      rw [h6 rfl]
      refine fin (szR S 0 w (some a1)) [w] (Md2_R 0 w _) rfl (fun x hx => ?_) (fun j => ?_) (fun j => rfl) (Or.inr ⟨zR_self S 0 w _, rfl, rfl⟩) (Or.inl ⟨rfl, rfl⟩) (fun hc => ?_)
      · rw [List.mem_singleton] at hx
        exact Or.inl hx
      · by_cases e : j = 0
        · exact Or.inr e
        · exact Or.inl (zR_q (fun z => absurd z e))
      · have e1 : zR (szR S 0 w (some a1)) 0 w = none := hc
        rw [zR_self] at e1
        cases e1
    · rw [List.concat_eq_append] at hC
      subst hC
      obtain ⟨g1, g2⟩ := h7 C0 f rfl
      rw [g1]
      obtain ⟨ts, ss, hh, a, lab⟩ := f
      obtain ⟨K', k1, k2⟩ := (RpC_app C0 _ _ _).mp h2
      obtain ⟨f0, f1, f2, f3, f4, f5, f6⟩ := k2
      show ∃ S', (if ztg S a = 2 then _ else none) = _ ∧ _
      rw [if_pos f2.1, g2]
      have ao : a ∈ ad true (plS (C0 ++ [(ts, ss, hh, a, lab)]) .nil) := by
        rw [plS_app, ad_pl C0]
        refine Or.inr ?_
        have : ad true (plS [(ts, ss, hh, a, lab)] .nil) = ad true ss ++ (a :: (([] ++ []) ++ [])) := ad_ap ss _
        rw [this]
        exact List.mem_append_right _ List.mem_cons_self
      have hpof : pof (cK hh) = 10 := by rw [f4]; rfl
      have hset := setP_ok (i := lab) (v := some a1) f2 (by rw [hpof]; exact f5) (fun b hb => by cases hb; exact (ndy a1 List.mem_cons_self).1)
      refine Exists.imp (fun S' (h : _ ∧ _) => ⟨(zcV_s hset).trans h.1, h.2⟩) ?_
      have mds : Md2 S (stP S a lab (some a1)) [a] := Mdf_2 stP_m (fun x hx => by rw [List.mem_singleton] at hx; rw [hx]; exact f2.2.2.2.1)
      have wa : w ≠ a := fun e => wo a ao e.symm
      show ∃ S', (if ztg (stP S a lab (some a1)) w = 8 then _ else none) = _ ∧ _
      rw [if_pos (Md2_tg mds h1)]
      refine fin (stP S a lab (some a1)) [a] mds rfl (fun x hx => ?_) (fun j => Or.inl rfl) (fun j => ?_) (Or.inr ⟨?_, rfl, rfl⟩) (Or.inl ⟨rfl, rfl⟩) (fun hc => ?_)
      · rw [List.mem_singleton] at hx
        rw [hx]
        exact Or.inr ao
      · exact stP_m.2.2.2.1 j w (Or.inr (by rw [List.mem_singleton]; exact wa))
      · have sp := p1
        rw [plS_app] at sp
        obtain ⟨s1, s2, s3⟩ := (Spt_pl C0 _).mp sp
        have ea : ad true (plS [(ts, ss, hh, a, lab)] .nil) = ad true ss ++ (a :: (([] ++ []) ++ [])) := ad_ap ss _
        have ain : a ∈ ad true (plS [(ts, ss, hh, a, lab)] .nil) := by
          rw [ea]
          exact List.mem_append_right _ List.mem_cons_self
        have anss : ∀ x, x ∈ ad true ss → x ≠ a := fun x hx e => by
          have := ((Spt_ap ss _).mp s2).2.2 x hx
          exact this (by rw [e]; exact List.mem_cons_self)
        have lk : zR (stP S a lab (some a1)) = zR S := rfl
        refine (RpC_app C0 _ _ _).mpr ⟨K', RpC_md mds C0 _ K' k1 (fun x hx hl => ?_), f0, RpG_md mds ts f0 ss K' _ f1 (fun x hx hl => ?_), ?_, f3, f4, f5, ?_⟩
        · rw [List.mem_singleton] at hl
          exact s3 x hx (by rw [hl]; exact ain)
        · rw [List.mem_singleton] at hl
          exact anss x hx hl
        · obtain ⟨n1, n2, n3, n4, n5, ⟨x, x1, x2, x3⟩, n7⟩ := f2
          have eI : ∀ j, j ≠ 7 → zI (stP S a lab (some a1)) j a = zI S j a := fun j hj => stP_m.2.2.2.1 j a (Or.inl hj)
          refine ⟨n1, ?_, n3, n4, n5, ⟨x ||| 2 ^ lab, or_lt x x1 lab f5, stP_7 x2 x1 f5, fun i hi => ?_⟩, fun i hi => ?_⟩
          · unfold Cdn at n2 ⊢
            rw [eI 0 (by decide), eI 1 (by decide), eI 2 (by decide), eI 3 (by decide), eI 4 (by decide)]
            exact n2
          · rw [or_bit, x3 i hi, gid_cn]
            by_cases e : i = lab
            · rw [if_pos e]
              rfl
            · rw [if_neg e, decide_eq_false (Ne.symm e)]
              rfl
          · rw [stP_a]
            rw [gid_cn] at hi
            by_cases e : i = lab
            · rw [if_pos e] at hi
              cases hi
            · show (if i = lab then some a1 else zAR S (a + 1) i) = none
              rw [if_neg e]
              refine n7 i ?_
              rw [gid_cn, if_neg e]
              rfl
        · show zAR (stP S a lab (some a1)) (a + 1) lab = some a1
          rw [stP_a]
          exact if_pos rfl
      · obtain ⟨K2, u1, u2⟩ := (RpC_app C0 _ _ _).mp hc
        have u7 : zAR (stP S a lab (some a1)) (a + 1) lab = none := u2.2.2.2.2.2.2
        rw [stP_a] at u7
        have : va_up (zAR S (a + 1)) lab (some a1) lab = some a1 := if_pos rfl
        rw [this] at u7
        cases u7
end AP2
