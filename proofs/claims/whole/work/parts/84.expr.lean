section RE
variable {X : ie_X} {d a c n : Nat} {f : Nat → Int32}
theorem rd_term {h : ie_H} {s : rs} (ha1 : a ≠ 1) (hc : c ≤ 200) (hf : ∀ j, 0 ≤ (f j).toInt ∧ (f j).toInt < 65536) (ca : h[a]? = some (rk c n s)) (ct : h[1]? = some (.inl (1, 200, .inl f))) (hP : s.1 ≤ c) : Go X (d + 1) 24 (0, ie_en 24 [.ref a], [], h) (.inl none) (List.set h a (rk c n (ks_term f c s))) := by
  refine go_run 2 (F' := (2, [some (.ref a), none], [.int (Int32.ofNat 0), .ref a], h)) rfl ?_
  refine go_call (m' := 15) (v := some (.int (ka f c s 0))) (h1 := h) rfl (by simp only [ie_step, ie_iv, List.drop, ca, rk, rdc, if_true]; rfl) ⟨rfl, Nat.le_of_ble_eq_true rfl⟩ (rd_ahead ca ct hc hP (by decide) hf) ?_
  refine go_call (m' := 25) (v := some (.int (ty_b (rd_var (ka f c s 0))))) (h1 := h) rfl rfl ⟨rfl, Nat.le_of_ble_eq_true rfl⟩ (rd_isVar _) ?_
  cases q : rd_var (ka f c s 0) with
  | true =>
    have e : ks_term f c s = ks_keep f c s := by unfold ks_term; rw [if_pos q]
    rw [e]
    refine go_run 2 (F' := (12, [some (.ref a), none], [.ref a], h)) rfl ?_
    refine go_call (m' := 26) (v := none) (h1 := List.set h a (rk c n (ks_keep f c s))) rfl (by simp only [ie_step, ie_iv, List.drop, ca, rk, rdc, if_true]; rfl) ⟨rfl, Nat.le_of_ble_eq_true rfl⟩ (rd_keep ca ct hc hP) ?_
    exact go_end rfl rfl
  | false =>
    refine go_run 3 (F' := (18, [some (.ref a), none], [.int (Int32.ofNat 0), .ref a], h)) rfl ?_
    refine go_call (m' := 15) (v := some (.int (ka f c s 0))) (h1 := h) rfl (by simp only [ie_step, ie_iv, List.drop, ca, rk, rdc, if_true]; rfl) ⟨rfl, Nat.le_of_ble_eq_true rfl⟩ (rd_ahead ca ct hc hP (by decide) hf) ?_
    refine go_call (m' := 27) (v := some (.int (ty_b (rd_fig (ka f c s 0))))) (h1 := h) rfl rfl ⟨rfl, Nat.le_of_ble_eq_true rfl⟩ (rd_isFig _) ?_
    cases q2 : rd_fig (ka f c s 0) with
    | true =>
      have e : ks_term f c s = ks_loop f c 3 s := by unfold ks_term; rw [if_neg (by rw [q]; decide), if_pos q2]
      rw [e]
      refine go_run 3 (F' := (34, [some (.ref a), some (.int (Int32.ofNat 0))], [], h)) rfl ?_
      exact rd_loop ha1 hc hf 3 0 h s rfl ca ct hP
    | false =>
      have e : ks_term f c s = ks_loop f c 3 (ks_wrong s) := by unfold ks_term; rw [if_neg (by rw [q]; decide), if_neg (by rw [q2]; decide)]
      rw [e]
      refine go_run 3 (F' := (29, [some (.ref a), none], [.int 1, .ref a], h)) rfl ?_
      refine go_pf rfl ca (Nat.le_of_ble_eq_true rfl) rfl rfl ?_
      refine go_run 2 (F' := (34, [some (.ref a), some (.int (Int32.ofNat 0))], [], List.set h a (rk c n (ks_wrong s)))) rfl ?_
      have k := rd_loop (X := X) (d := d) (n := n) ha1 hc hf 3 0 (List.set h a (rk c n (ks_wrong s))) (ks_wrong s) rfl (gs_self ca) (gs_ne ha1 ct) hP
      rw [List.set_set] at k
      exact k
theorem rd_fin {h : ie_H} {s : rs} (ca : h[a]? = some (rk c n s)) : Go X d 23 (33, [some (.ref a)], [], h) (.inl (some (.long s.2.2.1))) h := by
  refine go_run 1 (F' := (34, [some (.ref a)], [.ref a], h)) rfl ?_
  refine go_gf rfl ca rfl ?_
  exact go_end rfl rfl
theorem rd_expr {h : ie_H} {s : rs} (ha1 : a ≠ 1) (hc : c ≤ 200) (hf : ∀ j, 0 ≤ (f j).toInt ∧ (f j).toInt < 65536) (ca : h[a]? = some (rk c n s)) (ct : h[1]? = some (.inl (1, 200, .inl f))) (hP : s.1 ≤ c) : Go X (d + 2) 23 (0, ie_en 23 [.ref a], [], h) (.inl (some (.long (ks_expr f c s).2.2.1))) (List.set h a (rk c n (ks_expr f c s))) := by
  have hP1 : (ks_term f c (s.1, s.2.1, 0, 0)).1 ≤ c := ks_term_le hP
  refine go_run 2 (F' := (2, [some (.ref a)], [.long 0, .ref a], h)) rfl ?_
  refine go_pf rfl ca (Nat.le_of_ble_eq_true rfl) rfl rfl ?_
  refine go_run 2 (F' := (7, [some (.ref a)], [.int 0, .ref a], List.set h a (rk c n (s.1, s.2.1, 0, s.2.2.2)))) rfl ?_
  refine go_pf rfl (gs_self ca) (Nat.le_of_ble_eq_true rfl) rfl rfl ?_
  refine go_run 1 (F' := (11, [some (.ref a)], [.ref a], List.set (List.set h a (rk c n (s.1, s.2.1, 0, s.2.2.2))) a (rk c n (s.1, s.2.1, 0, 0)))) rfl ?_
  rw [List.set_set]
  have c0 : (List.set h a (rk c n (s.1, s.2.1, 0, 0)))[a]? = some (rk c n (s.1, s.2.1, 0, 0)) := gs_self ca
  have t0 : (List.set h a (rk c n (s.1, s.2.1, 0, 0)))[1]? = some (.inl (1, 200, .inl f)) := gs_ne ha1 ct
  have g0 := rd_term (X := X) (d := d) (s := (s.1, s.2.1, 0, 0)) ha1 hc hf c0 t0 hP
  rw [List.set_set] at g0
  refine go_call (m' := 24) (v := none) (h1 := List.set h a (rk c n (ks_term f c (s.1, s.2.1, 0, 0)))) rfl (by simp only [ie_step, ie_iv, List.drop, c0]; rfl) ⟨rfl, Nat.le_of_ble_eq_true rfl⟩ g0 ?_
  have c1 : (List.set h a (rk c n (ks_term f c (s.1, s.2.1, 0, 0))))[a]? = some (rk c n (ks_term f c (s.1, s.2.1, 0, 0))) := gs_self ca
  have t1 : (List.set h a (rk c n (ks_term f c (s.1, s.2.1, 0, 0))))[1]? = some (.inl (1, 200, .inl f)) := gs_ne ha1 ct
  refine go_run 2 (F' := (16, [some (.ref a)], [.int (Int32.ofNat 0), .ref a], List.set h a (rk c n (ks_term f c (s.1, s.2.1, 0, 0))))) rfl ?_
  refine go_call (m' := 15) (v := some (.int (ka f c (ks_term f c (s.1, s.2.1, 0, 0)) 0))) (h1 := List.set h a (rk c n (ks_term f c (s.1, s.2.1, 0, 0)))) rfl (by simp only [ie_step, ie_iv, List.drop, c1]; rfl) ⟨rfl, Nat.le_of_ble_eq_true rfl⟩ (rd_ahead c1 t1 hc hP1 (by decide) hf) ?_
  refine go_call (m' := 28) (v := some (.int (ty_b (rd_op (ka f c (ks_term f c (s.1, s.2.1, 0, 0)) 0))))) (h1 := List.set h a (rk c n (ks_term f c (s.1, s.2.1, 0, 0)))) rfl rfl ⟨rfl, Nat.le_of_ble_eq_true rfl⟩ (rd_isOp _) ?_
  cases q : rd_op (ka f c (ks_term f c (s.1, s.2.1, 0, 0)) 0) with
  | false =>
    have e : ks_expr f c s = ks_term f c (s.1, s.2.1, 0, 0) := by unfold ks_expr; rw [if_neg (by rw [q]; decide)]
    rw [e]
    refine go_run 1 (F' := (33, [some (.ref a)], [], List.set h a (rk c n (ks_term f c (s.1, s.2.1, 0, 0))))) rfl ?_
    exact rd_fin c1
  | true =>
    have e : ks_expr f c s = ks_term f c (ks_keep f c (ks_term f c (s.1, s.2.1, 0, 0))) := by unfold ks_expr; rw [if_pos q]
    rw [e]
    refine go_run 2 (F' := (26, [some (.ref a)], [.ref a], List.set h a (rk c n (ks_term f c (s.1, s.2.1, 0, 0))))) rfl ?_
    have g1 := rd_keep (X := X) (d := d + 1) c1 t1 hc hP1
    rw [List.set_set] at g1
    refine go_call (m' := 26) (v := none) (h1 := List.set h a (rk c n (ks_keep f c (ks_term f c (s.1, s.2.1, 0, 0))))) rfl (by simp only [ie_step, ie_iv, List.drop, c1]; rfl) ⟨rfl, Nat.le_of_ble_eq_true rfl⟩ g1 ?_
    have c2 : (List.set h a (rk c n (ks_keep f c (ks_term f c (s.1, s.2.1, 0, 0)))))[a]? = some (rk c n (ks_keep f c (ks_term f c (s.1, s.2.1, 0, 0)))) := gs_self ca
    have t2 : (List.set h a (rk c n (ks_keep f c (ks_term f c (s.1, s.2.1, 0, 0)))))[1]? = some (.inl (1, 200, .inl f)) := gs_ne ha1 ct
    refine go_run 1 (F' := (30, [some (.ref a)], [.ref a], List.set h a (rk c n (ks_keep f c (ks_term f c (s.1, s.2.1, 0, 0)))))) rfl ?_
    have g2 := rd_term (X := X) (d := d) ha1 hc hf c2 t2 (ks_keep_le hP1)
    rw [List.set_set] at g2
    refine go_call (m' := 24) (v := none) (h1 := List.set h a (rk c n (ks_term f c (ks_keep f c (ks_term f c (s.1, s.2.1, 0, 0)))))) rfl (by simp only [ie_step, ie_iv, List.drop, c2]; rfl) ⟨rfl, Nat.le_of_ble_eq_true rfl⟩ g2 ?_
    refine go_run 0 (F' := (33, [some (.ref a)], [], List.set h a (rk c n (ks_term f c (ks_keep f c (ks_term f c (s.1, s.2.1, 0, 0))))))) rfl ?_
    exact rd_fin (gs_self ca)
end RE
