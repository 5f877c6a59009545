theorem mw_fig_le {f : Nat → Int32} {c : Nat} : ∀ (j i P : Nat), P ≤ c → (mw_fig f c j i P).1 ≤ c
  | 0, i, P, h => h
  | j + 1, i, P, h => by
    rw [mw_fig]
    split
    · rename_i q
      exact mw_fig_le j (i + 1) (P + 1) (rd_fig_ne q)
    · exact h
theorem mw_term_le {f : Nat → Int32} {c P : Nat} {b : Bool} (h : P ≤ c) : (mw_term f c (P, b)).1 ≤ c := by
  unfold mw_term
  split
  · exact h
  · split
    · rename_i q
      split
      · exact q
      · exact mw_fig_le 3 0 P h
    · exact h
def mw_expr (f : Nat → Int32) (c : Nat) (s : Nat × Bool) : Nat × Bool := if (mw_term f c s).2 = true then mw_term f c s else if rd_op (rd_la f c (mw_term f c s).1) = true then mw_term f c ((mw_term f c s).1 + 1, false) else mw_term f c s
theorem rd_op_ne {f : Nat → Int32} {c P : Nat} (h : rd_op (rd_la f c P) = true) : P < c := rd_la_lt (fun z => by rw [z] at h; exact absurd h (by decide))
theorem mw_expr_le {f : Nat → Int32} {c P : Nat} {b : Bool} (h : P ≤ c) : (mw_expr f c (P, b)).1 ≤ c := by
  unfold mw_expr
  split
  · exact mw_term_le h
  · split
    · rename_i q
      exact mw_term_le (rd_op_ne q)
    · exact mw_term_le h
section ME
variable {X : ie_X} {d c : Nat} {f fr : Nat → Int32} {t_ ty fa wh it co de lo st sz tp am bm mn rm sp be wo : Int32}
theorem rm_efin {h : ie_H} {P i : Nat} {b : Bool} {g : Nat → Int32} (hi : i < 200) (cm : h[134]? = some (mo t_ ty fa wh (Int32.ofNat c) it (Int32.ofNat P) (ty_b b) co de lo st sz tp am bm mn rm sp be wo)) (cg : h[142]? = some (.inl (0, 200, .inl g))) : Go X d 148 (45, [some (.ref 134), some (.int (Int32.ofNat i))], [], h) (.inl none) (List.set h 142 (.inl (0, 200, .inl (upd g i (Int32.ofNat P))))) := by
  refine go_run 1 (F' := (46, [some (.ref 134), some (.int (Int32.ofNat i))], [.ref 134], h)) rfl ?_
  refine go_gf rfl cm rfl ?_
  refine go_run 2 (F' := (51, [some (.ref 134), some (.int (Int32.ofNat i))], [.ref 134, .int (Int32.ofNat i), .ref 142], h)) rfl ?_
  refine go_gf rfl cm rfl ?_
  refine go_run 0 (F' := (54, [some (.ref 134), some (.int (Int32.ofNat i))], [.int (Int32.ofNat P), .int (Int32.ofNat i), .ref 142], h)) rfl ?_
  refine go_iast rfl cg ?_ rfl ?_
  · rw [(i_n i (by omega)).1]; omega
  rw [(i_n i (by omega)).2]
  exact go_end rfl rfl
theorem rm_expr {h : ie_H} {P i : Nat} {b : Bool} {g : Nat → Int32} (hi : i < 200) (hc : c ≤ 200) (hP : P ≤ c) (cm : h[134]? = some (mo t_ ty fa wh (Int32.ofNat c) it (Int32.ofNat P) (ty_b b) co de lo st sz tp am bm mn rm sp be wo)) (ct : h[136]? = some (.inl (0, 200, .inl f))) (cf : h[141]? = some (.inl (0, 200, .inl fr))) (cg : h[142]? = some (.inl (0, 200, .inl g))) : Go X (d + 2) 148 (0, ie_en 148 [.ref 134, .int (Int32.ofNat i)], [], h) (.inl none) (List.set (List.set (List.set h 141 (.inl (0, 200, .inl (upd fr i (Int32.ofNat P))))) 134 (mo t_ ty fa wh (Int32.ofNat c) it (Int32.ofNat (mw_expr f c (P, b)).1) (ty_b (mw_expr f c (P, b)).2) co de lo st sz tp am bm mn rm sp be wo)) 142 (.inl (0, 200, .inl (upd g i (Int32.ofNat (mw_expr f c (P, b)).1))))) := by
  refine go_run 1 (F' := (1, [some (.ref 134), some (.int (Int32.ofNat i))], [.ref 134], h)) rfl ?_
  refine go_gf rfl cm rfl ?_
  refine go_run 2 (F' := (6, [some (.ref 134), some (.int (Int32.ofNat i))], [.ref 134, .int (Int32.ofNat i), .ref 141], h)) rfl ?_
  refine go_gf rfl cm rfl ?_
  refine go_run 0 (F' := (9, [some (.ref 134), some (.int (Int32.ofNat i))], [.int (Int32.ofNat P), .int (Int32.ofNat i), .ref 141], h)) rfl ?_
  refine go_iast rfl cf ?_ rfl ?_
  · rw [(i_n i (by omega)).1]; omega
  rw [(i_n i (by omega)).2]
  have cm0 : (List.set h 141 (.inl (0, 200, .inl (upd fr i (Int32.ofNat P)))))[134]? = some (mo t_ ty fa wh (Int32.ofNat c) it (Int32.ofNat P) (ty_b b) co de lo st sz tp am bm mn rm sp be wo) := gs_ne (by decide) cm
  have ct0 : (List.set h 141 (.inl (0, 200, .inl (upd fr i (Int32.ofNat P)))))[136]? = some (.inl (0, 200, .inl f)) := gs_ne (by decide) ct
  have cg0 : (List.set h 141 (.inl (0, 200, .inl (upd fr i (Int32.ofNat P)))))[142]? = some (.inl (0, 200, .inl g)) := gs_ne (by decide) cg
  generalize List.set h 141 (.inl (0, 200, .inl (upd fr i (Int32.ofNat P)))) = h0 at cm0 ct0 cg0 ⊢
  refine go_run 1 (F' := (11, [some (.ref 134), some (.int (Int32.ofNat i))], [.ref 134], h0)) rfl ?_
  refine go_call (m' := 149) (v := none) (h1 := List.set h0 134 (mo t_ ty fa wh (Int32.ofNat c) it (Int32.ofNat (mw_term f c (P, b)).1) (ty_b (mw_term f c (P, b)).2) co de lo st sz tp am bm mn rm sp be wo)) rfl (by simp only [ie_step, ie_iv, List.drop, cm0]; rfl) ⟨rfl, Nat.le_of_ble_eq_true rfl⟩ (rm_term hc hP cm0 ct0) ?_
  have hP1 : (mw_term f c (P, b)).1 ≤ c := mw_term_le hP
  have ee : mw_expr f c (P, b) = if (mw_term f c (P, b)).2 = true then mw_term f c (P, b) else if rd_op (rd_la f c (mw_term f c (P, b)).1) = true then mw_term f c ((mw_term f c (P, b)).1 + 1, false) else mw_term f c (P, b) := rfl
  generalize mw_term f c (P, b) = s1 at hP1 ee ⊢
  obtain ⟨P1, b1⟩ := s1
  have cm1 : (List.set h0 134 (mo t_ ty fa wh (Int32.ofNat c) it (Int32.ofNat P1) (ty_b b1) co de lo st sz tp am bm mn rm sp be wo))[134]? = some (mo t_ ty fa wh (Int32.ofNat c) it (Int32.ofNat P1) (ty_b b1) co de lo st sz tp am bm mn rm sp be wo) := gs_self cm0
  have ct1 : (List.set h0 134 (mo t_ ty fa wh (Int32.ofNat c) it (Int32.ofNat P1) (ty_b b1) co de lo st sz tp am bm mn rm sp be wo))[136]? = some (.inl (0, 200, .inl f)) := gs_ne (by decide) ct0
  refine go_run 1 (F' := (15, [some (.ref 134), some (.int (Int32.ofNat i))], [.ref 134], List.set h0 134 (mo t_ ty fa wh (Int32.ofNat c) it (Int32.ofNat P1) (ty_b b1) co de lo st sz tp am bm mn rm sp be wo))) rfl ?_
  refine go_gf rfl cm1 rfl ?_
  cases b1 with
  | true =>
    rw [if_pos rfl] at ee
    rw [ee]
    refine go_run 1 (F' := (45, [some (.ref 134), some (.int (Int32.ofNat i))], [], List.set h0 134 (mo t_ ty fa wh (Int32.ofNat c) it (Int32.ofNat P1) (ty_b true) co de lo st sz tp am bm mn rm sp be wo))) rfl ?_
    exact rm_efin hi cm1 (gs_ne (by decide) cg0)
  | false =>
    rw [if_neg (fun z => Bool.noConfusion z)] at ee
    refine go_run 2 (F' := (22, [some (.ref 134), some (.int (Int32.ofNat i))], [.ref 134], List.set h0 134 (mo t_ ty fa wh (Int32.ofNat c) it (Int32.ofNat P1) (ty_b false) co de lo st sz tp am bm mn rm sp be wo))) rfl ?_
    refine go_call (m' := 138) (v := some (.int (rd_la f c P1))) (h1 := List.set h0 134 (mo t_ ty fa wh (Int32.ofNat c) it (Int32.ofNat P1) (ty_b false) co de lo st sz tp am bm mn rm sp be wo)) rfl (by simp only [ie_step, ie_iv, List.drop, cm1]; rfl) ⟨rfl, Nat.le_of_ble_eq_true rfl⟩ (rm_now cm1 ct1 hc hP1) ?_
    refine go_call (m' := 151) (v := some (.int (ty_b (rd_op (rd_la f c P1))))) (h1 := List.set h0 134 (mo t_ ty fa wh (Int32.ofNat c) it (Int32.ofNat P1) (ty_b false) co de lo st sz tp am bm mn rm sp be wo)) rfl rfl ⟨rfl, Nat.le_of_ble_eq_true rfl⟩ (rm_isSign _) ?_
    cases q : rd_op (rd_la f c P1) with
    | false =>
      rw [if_neg (by show ¬ rd_op (rd_la f c P1) = true; rw [q]; decide)] at ee
      rw [ee]
      refine go_run 1 (F' := (45, [some (.ref 134), some (.int (Int32.ofNat i))], [], List.set h0 134 (mo t_ ty fa wh (Int32.ofNat c) it (Int32.ofNat P1) (ty_b false) co de lo st sz tp am bm mn rm sp be wo))) rfl ?_
      exact rm_efin hi cm1 (gs_ne (by decide) cg0)
    | true =>
      rw [if_pos (show rd_op (rd_la f c P1) = true from q)] at ee
      rw [ee]
      refine go_run 3 (F' := (33, [some (.ref 134), some (.int (Int32.ofNat i))], [.ref 134, .ref 134], List.set h0 134 (mo t_ ty fa wh (Int32.ofNat c) it (Int32.ofNat P1) (ty_b false) co de lo st sz tp am bm mn rm sp be wo))) rfl ?_
      refine go_gf rfl cm1 rfl ?_
      refine go_run 2 (F' := (38, [some (.ref 134), some (.int (Int32.ofNat i))], [.int (Int32.ofNat P1 + Int32.ofNat 1), .ref 134], List.set h0 134 (mo t_ ty fa wh (Int32.ofNat c) it (Int32.ofNat P1) (ty_b false) co de lo st sz tp am bm mn rm sp be wo))) rfl ?_
      rw [ty_add]
      refine go_pf rfl cm1 (Nat.le_of_ble_eq_true rfl) rfl rfl ?_
      refine go_run 1 (F' := (42, [some (.ref 134), some (.int (Int32.ofNat i))], [.ref 134], List.set (List.set h0 134 (mo t_ ty fa wh (Int32.ofNat c) it (Int32.ofNat P1) (ty_b false) co de lo st sz tp am bm mn rm sp be wo)) 134 (mo t_ ty fa wh (Int32.ofNat c) it (Int32.ofNat (P1 + 1)) (ty_b false) co de lo st sz tp am bm mn rm sp be wo))) rfl ?_
      rw [List.set_set]
      have cm2 : (List.set h0 134 (mo t_ ty fa wh (Int32.ofNat c) it (Int32.ofNat (P1 + 1)) (ty_b false) co de lo st sz tp am bm mn rm sp be wo))[134]? = some (mo t_ ty fa wh (Int32.ofNat c) it (Int32.ofNat (P1 + 1)) (ty_b false) co de lo st sz tp am bm mn rm sp be wo) := gs_self cm0
      have ct2 : (List.set h0 134 (mo t_ ty fa wh (Int32.ofNat c) it (Int32.ofNat (P1 + 1)) (ty_b false) co de lo st sz tp am bm mn rm sp be wo))[136]? = some (.inl (0, 200, .inl f)) := gs_ne (by decide) ct0
      have k := rm_term (X := X) (d := d) hc (rd_op_ne q) cm2 ct2
      rw [List.set_set] at k
      refine go_call (m' := 149) (v := none) (h1 := List.set h0 134 (mo t_ ty fa wh (Int32.ofNat c) it (Int32.ofNat (mw_term f c (P1 + 1, false)).1) (ty_b (mw_term f c (P1 + 1, false)).2) co de lo st sz tp am bm mn rm sp be wo)) rfl (by simp only [ie_step, ie_iv, List.drop, cm2]; rfl) ⟨rfl, Nat.le_of_ble_eq_true rfl⟩ k ?_
      exact rm_efin hi (gs_self cm0) (gs_ne (by decide) cg0)
end ME
