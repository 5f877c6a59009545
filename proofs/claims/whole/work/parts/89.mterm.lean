def mw_fig (f : Nat → Int32) (c : Nat) : Nat → Nat → Nat → Nat × Nat
  | 0, i, P => (P, i)
  | j + 1, i, P => if rd_fig (rd_la f c P) = true then mw_fig f c j (i + 1) (P + 1) else (P, i)
def mw_term (f : Nat → Int32) (c : Nat) (s : Nat × Bool) : Nat × Bool := if s.2 = true then s else if s.1 < c then (if rd_var (rd_la f c s.1) = true then (s.1 + 1, false) else ((mw_fig f c 3 0 s.1).1, decide ((mw_fig f c 3 0 s.1).2 = 0))) else s
theorem rd_la_lt {f : Nat → Int32} {c P : Nat} (h : rd_la f c P ≠ 0) : P < c := by
  unfold rd_la at h
  by_cases q : P < c
  · exact q
  · rw [if_neg q] at h; exact absurd rfl h
theorem rd_fig_ne {f : Nat → Int32} {c P : Nat} (h : rd_fig (rd_la f c P) = true) : P < c := rd_la_lt (fun z => by rw [z] at h; exact absurd h (by decide))
section MT
variable {X : ie_X} {d c : Nat} {f : Nat → Int32} {t_ ty fa wh it co de lo st sz tp am bm mn rm sp be wo : Int32}
theorem rm_fin {h : ie_H} {P i : Nat} (hi : i ≤ 3) (cm : h[134]? = some (mo t_ ty fa wh (Int32.ofNat c) it (Int32.ofNat P) (ty_b false) co de lo st sz tp am bm mn rm sp be wo)) : Go X d 149 (73, [some (.ref 134), some (.int (Int32.ofNat i))], [], h) (.inl none) (List.set h 134 (mo t_ ty fa wh (Int32.ofNat c) it (Int32.ofNat P) (ty_b (decide (i = 0))) co de lo st sz tp am bm mn rm sp be wo)) := by
  refine go_run 2 (F' := (75, [some (.ref 134), some (.int (Int32.ofNat i))], [.int (Int32.ofNat i), .ref 134], h)) rfl ?_
  refine go_step rfl rfl ?_
  have iz : Int32.ofNat i = 0 ↔ i = 0 := i_eq (n := 0) (by omega) (by omega)
  by_cases q : i = 0
  · rw [if_pos (iz.mpr q), show decide (i = 0) = true from decide_eq_true q]
    refine go_run 2 (F' := (83, [some (.ref 134), some (.int (Int32.ofNat i))], [.int 1, .ref 134], h)) rfl ?_
    refine go_pf rfl cm (Nat.le_of_ble_eq_true rfl) rfl rfl ?_
    refine go_run 0 (F' := (86, [some (.ref 134), some (.int (Int32.ofNat i))], [], List.set h 134 (mo t_ ty fa wh (Int32.ofNat c) it (Int32.ofNat P) (ty_b true) co de lo st sz tp am bm mn rm sp be wo))) rfl ?_
    exact go_end rfl rfl
  · rw [if_neg (fun z => q (iz.mp z)), show decide (i = 0) = false from decide_eq_false q]
    refine go_run 1 (F' := (83, [some (.ref 134), some (.int (Int32.ofNat i))], [.int 0, .ref 134], h)) rfl ?_
    refine go_pf rfl cm (Nat.le_of_ble_eq_true rfl) rfl rfl ?_
    refine go_run 0 (F' := (86, [some (.ref 134), some (.int (Int32.ofNat i))], [], List.set h 134 (mo t_ ty fa wh (Int32.ofNat c) it (Int32.ofNat P) (ty_b false) co de lo st sz tp am bm mn rm sp be wo))) rfl ?_
    exact go_end rfl rfl
theorem rm_figs (hc : c ≤ 200) : ∀ (j i P : Nat) (h : ie_H), j + i = 3 → P ≤ c → h[134]? = some (mo t_ ty fa wh (Int32.ofNat c) it (Int32.ofNat P) (ty_b false) co de lo st sz tp am bm mn rm sp be wo) → h[136]? = some (.inl (0, 200, .inl f)) → Go X (d + 1) 149 (42, [some (.ref 134), some (.int (Int32.ofNat i))], [], h) (.inl none) (List.set h 134 (mo t_ ty fa wh (Int32.ofNat c) it (Int32.ofNat (mw_fig f c j i P).1) (ty_b (decide ((mw_fig f c j i P).2 = 0))) co de lo st sz tp am bm mn rm sp be wo))
  | 0, i, P, h, hj, hP, cm, ct => by
    have : i = 3 := by omega
    subst this
    refine go_run 3 (F' := (73, [some (.ref 134), some (.int (Int32.ofNat 3))], [], h)) rfl ?_
    exact rm_fin (by omega) cm
  | j + 1, i, P, h, hj, hP, cm, ct => by
    refine go_run 2 (F' := (44, [some (.ref 134), some (.int (Int32.ofNat i))], [.int (Int32.ofNat 3), .int (Int32.ofNat i)], h)) rfl ?_
    refine go_step rfl rfl ?_
    rw [if_neg (fun z => by have := (i_le (by omega) (by omega)).mp z; omega)]
    refine go_run 1 (F' := (48, [some (.ref 134), some (.int (Int32.ofNat i))], [.ref 134], h)) rfl ?_
    refine go_call (m' := 138) (v := some (.int (rd_la f c P))) (h1 := h) rfl (by simp only [ie_step, ie_iv, List.drop, cm]; rfl) ⟨rfl, Nat.le_of_ble_eq_true rfl⟩ (rm_now cm ct hc hP) ?_
    refine go_call (m' := 146) (v := some (.int (ty_b (rd_fig (rd_la f c P))))) (h1 := h) rfl rfl ⟨rfl, Nat.le_of_ble_eq_true rfl⟩ (rm_isFig _) ?_
    cases q : rd_fig (rd_la f c P) with
    | false =>
      have e : mw_fig f c (j + 1) i P = (P, i) := by rw [mw_fig, if_neg (by rw [q]; decide)]
      rw [e]
      refine go_run 1 (F' := (73, [some (.ref 134), some (.int (Int32.ofNat i))], [], h)) rfl ?_
      exact rm_fin (by omega) cm
    | true =>
      have e : mw_fig f c (j + 1) i P = mw_fig f c j (i + 1) (P + 1) := by rw [mw_fig, if_pos q]
      have hl := rd_fig_ne q
      rw [e]
      refine go_run 3 (F' := (59, [some (.ref 134), some (.int (Int32.ofNat i))], [.ref 134, .ref 134], h)) rfl ?_
      refine go_gf rfl cm rfl ?_
      refine go_run 2 (F' := (64, [some (.ref 134), some (.int (Int32.ofNat i))], [.int (Int32.ofNat P + Int32.ofNat 1), .ref 134], h)) rfl ?_
      rw [ty_add]
      refine go_pf rfl cm (Nat.le_of_ble_eq_true rfl) rfl rfl ?_
      refine go_run 2 (F' := (42, [some (.ref 134), some (.int (Int32.ofNat i + Int32.ofNat 1))], [], List.set h 134 (mo t_ ty fa wh (Int32.ofNat c) it (Int32.ofNat (P + 1)) (ty_b false) co de lo st sz tp am bm mn rm sp be wo))) rfl ?_
      rw [ty_add]
      have k := rm_figs hc j (i + 1) (P + 1) (List.set h 134 (mo t_ ty fa wh (Int32.ofNat c) it (Int32.ofNat (P + 1)) (ty_b false) co de lo st sz tp am bm mn rm sp be wo)) (by omega) (by omega) (gs_self cm) (gs_ne (by decide) ct)
      rw [List.set_set] at k
      exact k
theorem rm_term {h : ie_H} {P : Nat} {b : Bool} (hc : c ≤ 200) (hP : P ≤ c) (cm : h[134]? = some (mo t_ ty fa wh (Int32.ofNat c) it (Int32.ofNat P) (ty_b b) co de lo st sz tp am bm mn rm sp be wo)) (ct : h[136]? = some (.inl (0, 200, .inl f))) : Go X (d + 1) 149 (0, ie_en 149 [.ref 134], [], h) (.inl none) (List.set h 134 (mo t_ ty fa wh (Int32.ofNat c) it (Int32.ofNat (mw_term f c (P, b)).1) (ty_b (mw_term f c (P, b)).2) co de lo st sz tp am bm mn rm sp be wo)) := by
  refine go_run 1 (F' := (1, [some (.ref 134), none], [.ref 134], h)) rfl ?_
  refine go_gf rfl cm rfl ?_
  cases b with
  | true =>
    have e : mw_term f c (P, true) = (P, true) := by unfold mw_term; rw [if_pos rfl]
    rw [e]
    refine go_run 1 (F' := (18, [some (.ref 134), none], [], h)) rfl ?_
    show Go X (d + 1) 149 _ _ (List.set h 134 (mo t_ ty fa wh (Int32.ofNat c) it (Int32.ofNat P) (ty_b true) co de lo st sz tp am bm mn rm sp be wo))
    rw [set_same cm]
    exact go_end rfl rfl
  | false =>
    refine go_run 2 (F' := (8, [some (.ref 134), none], [.ref 134], h)) rfl ?_
    refine go_gf rfl cm rfl ?_
    refine go_run 1 (F' := (12, [some (.ref 134), none], [.ref 134, .int (Int32.ofNat P)], h)) rfl ?_
    refine go_gf rfl cm rfl ?_
    refine go_step rfl rfl ?_
    by_cases q : P < c
    · rw [if_pos ((i_lt (by omega) (by omega)).mpr q)]
      refine go_run 1 (F' := (20, [some (.ref 134), none], [.ref 134], h)) rfl ?_
      refine go_call (m' := 138) (v := some (.int (rd_la f c P))) (h1 := h) rfl (by simp only [ie_step, ie_iv, List.drop, cm]; rfl) ⟨rfl, Nat.le_of_ble_eq_true rfl⟩ (rm_now cm ct hc hP) ?_
      refine go_call (m' := 150) (v := some (.int (ty_b (rd_var (rd_la f c P))))) (h1 := h) rfl rfl ⟨rfl, Nat.le_of_ble_eq_true rfl⟩ (rm_isVar _) ?_
      cases q2 : rd_var (rd_la f c P) with
      | true =>
        have e : mw_term f c (P, false) = (P + 1, false) := by unfold mw_term; rw [if_neg (fun z => Bool.noConfusion z), if_pos q, if_pos q2]
        rw [e]
        refine go_run 3 (F' := (31, [some (.ref 134), none], [.ref 134, .ref 134], h)) rfl ?_
        refine go_gf rfl cm rfl ?_
        refine go_run 2 (F' := (36, [some (.ref 134), none], [.int (Int32.ofNat P + Int32.ofNat 1), .ref 134], h)) rfl ?_
        rw [ty_add]
        refine go_pf rfl cm (Nat.le_of_ble_eq_true rfl) rfl rfl ?_
        refine go_run 0 (F' := (39, [some (.ref 134), none], [], List.set h 134 (mo t_ ty fa wh (Int32.ofNat c) it (Int32.ofNat (P + 1)) (ty_b false) co de lo st sz tp am bm mn rm sp be wo))) rfl ?_
        exact go_end rfl rfl
      | false =>
        have e : mw_term f c (P, false) = ((mw_fig f c 3 0 P).1, decide ((mw_fig f c 3 0 P).2 = 0)) := by unfold mw_term; rw [if_neg (fun z => Bool.noConfusion z), if_pos q, if_neg (by rw [q2]; decide)]
        rw [e]
        refine go_run 3 (F' := (42, [some (.ref 134), some (.int (Int32.ofNat 0))], [], h)) rfl ?_
        exact rm_figs hc 3 0 P h rfl hP cm ct
    · rw [if_neg (fun z => q ((i_lt (by omega) (by omega)).mp z))]
      have e : mw_term f c (P, false) = (P, false) := by unfold mw_term; rw [if_neg (fun z => Bool.noConfusion z), if_neg q]
      rw [e]
      show Go X (d + 1) 149 _ _ (List.set h 134 (mo t_ ty fa wh (Int32.ofNat c) it (Int32.ofNat P) (ty_b false) co de lo st sz tp am bm mn rm sp be wo))
      rw [set_same cm]
      exact go_end rfl rfl
end MT
