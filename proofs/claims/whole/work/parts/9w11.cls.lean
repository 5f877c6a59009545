section AH
variable {S S' : hS} {w n : Nat} {C : List Frm} {t s : Fo}
theorem RpG_apn {v K : Option Nat} : ∀ (t : Fo), So true t → ∀ (s : Fo) (v K : Option Nat), RpG S t s v K → ap s .nil = s := fun t ht => So_ind (P := fun m t => m = true → ∀ (s : Fo) (v K : Option Nat), RpG S t s v K → ap s .nil = s) (fun _ _ s v K h => by
    rw [(RpG_n h).1]
    rfl) (fun m n k r _ _ _ _ ih hm s v K h => by
    obtain ⟨a, k', r', rfl, _, _, _, g4⟩ := RpG_r h
    exact congrArg (cn a k') (ih hm r' _ _ g4)) t true ht rfl
theorem RpG_ci {S0 : hS} : ∀ (t : Fo), So true t → ∀ (s : Fo) (v0 K0 v : Option Nat) (y sy : Fo) (K2 : Option Nat), RpG S0 t s v0 K0 → RpG S (ap t y) (ap s sy) v K2 → ∃ K', RpG S t s v K' ∧ RpG S y sy K' K2 := fun t ht => So_ind (P := fun m t => m = true → ∀ (s : Fo) (v0 K0 v : Option Nat) (y sy : Fo) (K2 : Option Nat), RpG S0 t s v0 K0 → RpG S (ap t y) (ap s sy) v K2 → ∃ K', RpG S t s v K' ∧ RpG S y sy K' K2) (fun _ _ s v0 K0 v y sy K2 h0 h => by
    obtain ⟨rfl, _⟩ := RpG_n h0
    exact ⟨v, rfl, h⟩) (fun m n k r _ _ _ _ ih hm s v0 K0 v y sy K2 h0 h => by
    obtain ⟨a, k', r', rfl, _, _, _, g4⟩ := RpG_r h0
    obtain ⟨h1, h2, h3, h4⟩ := h
    obtain ⟨K', q1, q2⟩ := ih hm r' _ _ _ y sy K2 g4 h4
    exact ⟨K', ⟨h1, h2, h3, q1⟩, q2⟩) t true ht rfl
theorem app_any {y sy : Fo} {G : Nat → Option Nat} (h : RowO S w C t s) (hs : So true y) (hy : Rp S true y sy G) (spy : Spt true sy) (dis : ∀ x, x ∈ ad true (plS C s) → x ∉ ad true sy) (hn : nq true y + 1 ≤ n) : ∃ S', yW_append n S w (G 0) = some S' ∧ RowO S' w C (ap t y) (ap s sy) ∧ Md2 S S' (w :: ad true (plS C s)) ∧ S'.1 = S.1 := by
  rcases So_cs hs with rfl | ⟨m, k, r, rfl, _⟩
  · obtain ⟨rfl, e⟩ := Rp_n hy
    have h0 := h
    obtain ⟨_, ⟨K, h2, h3⟩, h4, _⟩ := h
    rw [e rfl, ap_nil h4, RpG_apn (v := none) (K := none) t h4 s _ _ h3]
    exact ⟨S, rfl, h0, Md2_r, rfl⟩
  · obtain ⟨a, k', r', rfl, g1, g2, g3, g4⟩ := Rp_r hy
    rw [g1]
    exact app_ok h hs (Rp_rm rfl g2 g3 g4) spy dis hn
theorem sI0 {T : hS} {j a : Nat} (h : zI T j a = 0) : szI T j a (Int32.ofNat 0) = T := szI_id h
theorem hear_ok {o : Nat} (ho : o < 8) (hq : S.1 + 2 < ie_S) : yA_hear S (Int32.ofNat o) = some (nN S (cd 5 0 0 o 0 0), some S.1) := by
  unfold yA_hear
  rw [znw_s (show S.1 < ie_S by omega)]
  refine (zcV_s (new_A (k := 5) (by decide) hq)).trans ?_
  rw [if_pos (nA_tg hq).1]
  unfold nN
  rw [cd_K (by decide), cd_V (by decide) (by decide), cd_L (by decide) (by decide) (by decide), cd_O (by decide) (by decide) (by decide) ho, cd_D (by decide) (by decide) (by decide) ho (by decide), cd_E (by decide) (by decide) (by decide) ho (by decide)]
  have e1 : szI (nA S 5) 1 S.1 (Int32.ofNat 0) = nA S 5 := sI0 (by rw [nA_I]; rfl)
  have e2 : szI (nA S 5) 2 S.1 (Int32.ofNat 0) = nA S 5 := sI0 (by rw [nA_I]; rfl)
  have e4 : szI (szI (nA S 5) 3 S.1 (Int32.ofNat o)) 4 S.1 (Int32.ofNat 0) = szI (nA S 5) 3 S.1 (Int32.ofNat o) := sI0 (by rw [zI_k (by decide), nA_I]; rfl)
  have e5 : szL (szI (nA S 5) 3 S.1 (Int32.ofNat o)) S.1 (Int64.ofNat 0) = szI (nA S 5) 3 S.1 (Int32.ofNat o) := szL_id nA_L
  rw [e1, e2, e4, e5]
theorem tell_ok {l o : Nat} (hl : l < 16) (ho : o < 8) (hq : S.1 + 2 < ie_S) : yA_tell S (Int32.ofNat l) (Int32.ofNat o) = some (nN S (cd 4 0 l o 0 0), some S.1) := by
  unfold yA_tell
  rw [znw_s (show S.1 < ie_S by omega)]
  refine (zcV_s (new_A (k := 4) (by decide) hq)).trans ?_
  rw [if_pos (nA_tg hq).1]
  unfold nN
  rw [cd_K (by decide), cd_V (by decide) (by decide), cd_L (by decide) (by decide) hl, cd_O (by decide) (by decide) hl ho, cd_D (by decide) (by decide) hl ho (by decide), cd_E (by decide) (by decide) hl ho (by decide)]
  have e1 : szI (nA S 4) 1 S.1 (Int32.ofNat 0) = nA S 4 := sI0 (by rw [nA_I]; rfl)
  have e4 : szI (szI (szI (nA S 4) 2 S.1 (Int32.ofNat l)) 3 S.1 (Int32.ofNat o)) 4 S.1 (Int32.ofNat 0) = szI (szI (nA S 4) 2 S.1 (Int32.ofNat l)) 3 S.1 (Int32.ofNat o) := sI0 (by rw [zI_k (by decide), zI_k (by decide), nA_I]; rfl)
  have e5 : szL (szI (szI (nA S 4) 2 S.1 (Int32.ofNat l)) 3 S.1 (Int32.ofNat o)) S.1 (Int64.ofNat 0) = szI (szI (nA S 4) 2 S.1 (Int32.ofNat l)) 3 S.1 (Int32.ofNat o) := szL_id nA_L
  rw [e1, e4, e5]
theorem RowO_lt {x : Nat} (h : RowO S w C t s) (hx : x ∈ ad true (plS C s)) : x + 1 < S.1 := (ztg_lt (RowO_nd h x hx).2).1
theorem apH_ok {o lab : Nat} (h : RowO S w C t s) (ho : o < 6) (hlab : lab < 10) (hq : S.1 + 2 < ie_S) (hn : 5 ≤ n) : ∃ S', yW_appendHear n S w (Int32.ofNat o) (Int32.ofNat lab) = some S' ∧ RowO S' w (C ++ [(t, s, cd 5 0 0 o 0 0, S.1, lab)]) .nil .nil ∧ Md2 S S' (w :: ad true (plS C s)) ∧ S'.1 = S.1 + 2 := by
  have hk : cK (cd 5 0 0 o 0 0) = 5 := cd_K (by decide)
  have hpof : pof (cK (cd 5 0 0 o 0 0)) = 10 := by rw [hk]; rfl
  obtain ⟨n1, n2, n3⟩ := nN_nd (S := S) (n := cd 5 0 0 o 0 0) hq
  have mdN : Md2 S (nN S (cd 5 0 0 o 0 0)) [] := nN_md
  have eN : (nN S (cd 5 0 0 o 0 0)).1 = S.1 + 2 := nN_1
  have hhear := hear_ok (S := S) (o := o) (by omega) hq
  generalize nN S (cd 5 0 0 o 0 0) = N at n1 n2 n3 mdN eN hhear
  have hset := setP_ok (i := lab) (v := none) n1 (by rw [hpof]; exact hlab) (fun b hb => by cases hb)
  have ms := stP_m (S := N) (a := S.1) (i := lab) (v := none)
  have mst := Mdf_tg ms
  have hbits : ∀ x, zI N 7 S.1 = Int32.ofNat x → x < 1024 → zI (stP N S.1 lab none) 7 S.1 = Int32.ofNat (x ||| 2 ^ lab) := fun x h1 h2 => stP_7 h1 h2 hlab
  have hzar : zAR (stP N S.1 lab none) (S.1 + 1) = va_up (zAR N (S.1 + 1)) lab none := stP_a
  generalize stP N S.1 lab none = S3 at hset ms mst hbits hzar
  have hwl := (ztg_lt h.1).1
  have l0 : ∀ x : Nat, x ∈ [S.1] → ¬ x < S.1 := fun x hx => by
    rw [List.mem_singleton] at hx
    omega
  have md3 : Md2 S S3 [] := Md2_t mdN (Mdf_2 ms (fun x hx => by rw [List.mem_singleton] at hx; rw [hx]; exact n1.2.2.2.1)) (fun x hx => by cases hx) (fun x hx hl => (l0 x hx hl).elim) (fun x hx hl => (l0 x hx (by omega)).elim)
  have e31 : S3.1 = S.1 + 2 := ms.1.trans eN
  have row3 : RowO S3 w C t s := RowO_md h md3 (fun z => by cases z) (fun x _ z => by cases z)
  have nd3 : Ndd S3 S.1 (cd 5 0 0 o 0 0) (cn lab .nil .nil) := by
    obtain ⟨m1, m2, m3, m4, m5, ⟨x, x1, x2, x3⟩, m7⟩ := n1
    have eI : ∀ j, j ≠ 7 → zI S3 j S.1 = zI N j S.1 := fun j hj => ms.2.2.2.1 j S.1 (Or.inl hj)
    refine ⟨(mst _).trans m1, ?_, by rw [ms.2.2.2.2.2.1]; exact m3, (mst _).trans m4, by unfold zLen at m5 ⊢; rw [ms.2.2.1]; exact m5, ⟨x ||| 2 ^ lab, or_lt x x1 lab hlab, hbits x x2 x1, fun i hi => ?_⟩, fun i hi => ?_⟩
    · unfold Cdn at m2 ⊢
      rw [eI 0 (by decide), eI 1 (by decide), eI 2 (by decide), eI 3 (by decide), eI 4 (by decide), ms.2.2.2.2.1]
      exact m2
    · rw [or_bit, x3 i hi, gid_cn]
      by_cases e : i = lab
      · rw [if_pos e, decide_eq_true e.symm]
        rfl
      · rw [if_neg e, decide_eq_false (Ne.symm e)]
        rfl
    · rw [hzar, n3]
      show (if i = lab then none else none) = none
      split <;> rfl
  have z8 : zR S3 8 S.1 = none := by rw [ms.2.2.2.2.2.1]; exact n2
  have zar3 : zAR S3 (S.1 + 1) lab = none := by
    rw [hzar, n3]
    exact if_pos rfl
  have hsy : So true (cn (cd 5 0 0 o 0 0) (cn lab .nil .nil) .nil) := ⟨⟨So_nil, So_nil, fun _ => trivial⟩, So_nil, fun z => Bool.noConfusion z⟩
  have rpy : Rp S3 true (cn (cd 5 0 0 o 0 0) (cn lab .nil .nil) .nil) (cn S.1 (cn lab .nil .nil) .nil) (fun _ => some S.1) := Rp_rm rfl nd3 (Rp_km zar3 trivial) z8
  have fresh : ∀ x, x ∈ ad true (plS C s) → x ∉ ad true (cn S.1 (cn lab .nil .nil) .nil) := fun x hx hy => by
    have e : ad true (cn S.1 (cn lab .nil .nil) .nil) = [S.1] := rfl
    rw [e, List.mem_singleton] at hy
    have := RowO_lt h hx
    omega
  obtain ⟨S4, c1, c2, c3, c4⟩ := app_ok (n := n) row3 hsy rpy ⟨⟨trivial, trivial, fun _ z => (by cases z)⟩, trivial, fun _ z => (by cases z), fun z => (by cases z)⟩ fresh (show nq true (cn (cd 5 0 0 o 0 0) (cn lab .nil .nil) .nil) + 1 ≤ n from (by show 1 + 0 + 0 + 1 ≤ n; omega))
  have c20 := c2
  obtain ⟨r1, ⟨K, r2, r3⟩, r4, r5, r6, r7, r8⟩ := c2
  obtain ⟨_, ⟨K0, o2, o3⟩, o4, _, _, _, o8⟩ := row3
  obtain ⟨K', g1, g2⟩ := RpG_ci t o4 s _ _ _ _ _ _ o3 r3
  obtain ⟨_, _, _, eqn, q1, q2, q3, q4⟩ := RpG_r g2
  cases eqn
  have hK' : K' = some S.1 := q1
  subst hK'
  have nodeq : ∀ x, x ∈ ad true (plS C (ap s (cn S.1 (cn lab .nil .nil) .nil))) → x ≠ w := fun x hx e => by
    have := (RowO_nd c20 x hx).1
    rw [e, r1] at this
    cases this
  generalize hS5 : szR (szI (szR S4 2 w (some S.1)) 3 w (Int32.ofNat lab)) 1 w none = S5
  have md5 : Md2 S4 S5 [w] := by
    rw [← hS5]
    exact Md2_t (Md2_t (Md2_R 2 w _) (Md2_I 3 w _) (fun x h => h) (fun x h _ => h) (fun x h _ => h)) (Md2_R 1 w _) (fun x h => h) (fun x h _ => h) (fun x h _ => h)
  have oth0 : zR S5 0 w = zR S4 0 w := by
    rw [← hS5, zR_q (fun e => absurd e (by decide))]
    show zR (szR S4 2 w (some S.1)) 0 w = _
    rw [zR_q (fun e => absurd e (by decide))]
  have nw : ∀ x, x ∈ ad true (plS C (ap s (cn S.1 (cn lab .nil .nil) .nil))) → x ∉ [w] := fun x hx hl => by
    rw [List.mem_singleton] at hl
    exact nodeq x hx hl
  have inC : ∀ x, x ∈ ad true (plS C .nil) → x ∈ ad true (plS C (ap s (cn S.1 (cn lab .nil .nil) .nil))) := fun x hx => (ad_pl C _).mpr (Or.inl hx)
  have inS : ∀ x, x ∈ ad true s → x ∈ ad true (plS C (ap s (cn S.1 (cn lab .nil .nil) .nil))) := fun x hx => (ad_pl C _).mpr (Or.inr (by rw [ad_ap]; exact List.mem_append_left _ hx))
  have inA : S.1 ∈ ad true (plS C (ap s (cn S.1 (cn lab .nil .nil) .nil))) := (ad_pl C _).mpr (Or.inr (by rw [ad_ap]; exact List.mem_append_right _ List.mem_cons_self))
  have l5 := Md2_lk md5 q2.1 q2.2.2.2.1 (nw _ inA)
  have rq4 : zAR S4 (S.1 + 1) lab = none := by
    obtain ⟨_, _, e, ee, _⟩ := Rp_k q3
    cases e
    exact ee
  refine ⟨S5, ?_, ⟨Md2_tg md5 r1, ⟨none, ?_, rfl⟩, So_nil, ?_, fun e => ?_, fun C0 f e => ?_, ?_⟩, ?_, ?_⟩
  · unfold yW_appendHear
    refine (zcP_s hhear).trans ?_
    refine (zob_s rfl).trans ?_
    rw [if_pos n1.1]
    refine (zcV_s hset).trans ?_
    rw [if_pos (Md2_tg md3 h.1)]
    refine (zcV_s c1).trans ?_
    rw [if_pos r1, hS5]
  · rw [oth0]
    refine (RpC_app C _ _ _).mpr ⟨K, RpC_md md5 C _ K r2 (fun x hx => nw x (inC x hx)), o4, RpG_md md5 t o4 s K _ g1 (fun x hx => nw x (inS x hx)), Nd_fr q2 l5, by rw [l5.2.2.1]; exact q4, hk, hlab, ?_⟩
    show zAR S5 (S.1 + 1) lab = none
    rw [l5.2.2.2.2.2.2.2]
    exact rq4
  · rw [← hS5, zR_self]
    rfl
  · have := congrArg List.length e
    simp at this
  · have e' := List.append_inj' e rfl
    obtain ⟨_, e2⟩ := e'
    have e3 : (t, s, cd 5 0 0 o 0 0, S.1, lab) = f := by simpa using e2
    rw [← e3]
    constructor
    · rw [← hS5, zR_q (fun e => absurd e (by decide))]
      show zR (szR S4 2 w (some S.1)) 2 w = _
      rw [zR_self]
    · rw [← hS5]
      show zI (szI (szR S4 2 w (some S.1)) 3 w (Int32.ofNat lab)) 3 w = _
      rw [zI_self]
  · rw [plS_app]
    have := r8
    exact this
  · refine Md2_t md3 (Md2_t c3 md5 (L3 := w :: ad true (plS C s)) (fun x h => h) (fun x h _ => by
      rw [List.mem_singleton] at h
      rw [h]
      exact List.mem_cons_self) (fun x h _ => by
      rw [List.mem_singleton] at h
      rw [h]
      exact List.mem_cons_self)) (fun x h => by cases h) (fun x h _ => h) (fun x h _ => h)
  · rw [← hS5]
    show S4.1 = S.1 + 2
    rw [c4, e31]
end AH
