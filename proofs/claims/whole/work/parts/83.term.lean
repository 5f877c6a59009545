abbrev rs : Type := Nat × Bool × Int64 × Nat
def rk (c n : Nat) (s : rs) : ie_C := rdc c s.1 n s.2.1 s.2.2.1 s.2.2.2
def ka (f : Nat → Int32) (c : Nat) (s : rs) (i : Nat) : Int32 := rd_ah f c s.1 s.2.1 i
def rd_ex (ex : Int64) (el : Nat) (x : Int32) : Int64 := ex ||| (x.toInt64 <<< ((8 * Int32.ofNat el).toInt64 &&& 63))
def ks_keep (f : Nat → Int32) (c : Nat) (s : rs) : rs := if s.1 < c then (s.1 + 1, s.2.1, rd_ex s.2.2.1 s.2.2.2 (f s.1), s.2.2.2 + 1) else s
def ks_wrong (s : rs) : rs := (s.1, true, s.2.2.1, s.2.2.2)
def ks_loop (f : Nat → Int32) (c : Nat) : Nat → rs → rs
  | 0, s => s
  | j + 1, s => if rd_fig (ka f c s 0) = true then ks_loop f c j (ks_keep f c s) else s
def ks_term (f : Nat → Int32) (c : Nat) (s : rs) : rs := if rd_var (ka f c s 0) = true then ks_keep f c s else ks_loop f c 3 (if rd_fig (ka f c s 0) = true then s else ks_wrong s)
def ks_expr (f : Nat → Int32) (c : Nat) (s : rs) : rs := if rd_op (ka f c (ks_term f c (s.1, s.2.1, 0, 0)) 0) = true then ks_term f c (ks_keep f c (ks_term f c (s.1, s.2.1, 0, 0))) else ks_term f c (s.1, s.2.1, 0, 0)
theorem ks_keep_le {f : Nat → Int32} {c : Nat} {s : rs} (h : s.1 ≤ c) : (ks_keep f c s).1 ≤ c := by
  unfold ks_keep
  split
  · show s.1 + 1 ≤ c; omega
  · exact h
theorem ks_loop_le {f : Nat → Int32} {c : Nat} : ∀ (j : Nat) (s : rs), s.1 ≤ c → (ks_loop f c j s).1 ≤ c
  | 0, s, h => h
  | j + 1, s, h => by
    unfold ks_loop
    split
    · exact ks_loop_le j _ (ks_keep_le h)
    · exact h
theorem ks_term_le {f : Nat → Int32} {c : Nat} {s : rs} (h : s.1 ≤ c) : (ks_term f c s).1 ≤ c := by
  unfold ks_term
  split
  · exact ks_keep_le h
  · refine ks_loop_le 3 _ ?_
    split
    · exact h
    · exact h
theorem ks_expr_le {f : Nat → Int32} {c : Nat} {s : rs} (h : s.1 ≤ c) : (ks_expr f c s).1 ≤ c := by
  have h0 : (ks_term f c (s.1, s.2.1, 0, 0)).1 ≤ c := ks_term_le h
  unfold ks_expr
  split
  · exact ks_term_le (ks_keep_le h0)
  · exact h0
theorem set_same {h : ie_H} {a : Nat} {c : ie_C} (e : h[a]? = some c) : List.set h a c = h := by
  obtain ⟨hl, he⟩ := List.getElem?_eq_some_iff.mp e
  rw [← he]; exact List.set_getElem_self hl
section RT
variable {X : ie_X} {d a c n : Nat} {f : Nat → Int32}
theorem rd_keep {h : ie_H} {s : rs} (ca : h[a]? = some (rk c n s)) (ct : h[1]? = some (.inl (1, 200, .inl f))) (hc : c ≤ 200) (hP : s.1 ≤ c) : Go X d 26 (0, ie_en 26 [.ref a], [], h) (.inl none) (List.set h a (rk c n (ks_keep f c s))) := by
  obtain ⟨P, w, ex, el⟩ := s
  have hP' : P ≤ c := hP
  refine go_run 1 (F' := (1, [some (.ref a)], [.ref a], h)) rfl ?_
  refine go_gf rfl ca rfl ?_
  refine go_run 1 (F' := (5, [some (.ref a)], [.ref a, .int (Int32.ofNat P)], h)) rfl ?_
  refine go_gf rfl ca rfl ?_
  refine go_step rfl rfl ?_
  by_cases q : P < c
  · rw [if_neg (fun z => by have := (i_le (by omega) (by omega)).mp z; exact absurd this (by show ¬ c ≤ P; omega))]
    have e : ks_keep f c (P, w, ex, el) = (P + 1, w, rd_ex ex el (f P), el + 1) := by unfold ks_keep; rw [if_pos q]
    rw [e]
    refine go_run 2 (F' := (13, [some (.ref a)], [.ref a, .ref a], h)) rfl ?_
    refine go_gf rfl ca rfl ?_
    refine go_run 1 (F' := (17, [some (.ref a)], [.ref a, .long ex, .ref a], h)) rfl ?_
    refine go_gf rfl ca rfl ?_
    refine go_run 1 (F' := (21, [some (.ref a)], [.ref a, .ref 1, .long ex, .ref a], h)) rfl ?_
    refine go_gf rfl ca rfl ?_
    refine go_run 0 (F' := (24, [some (.ref a)], [.int (Int32.ofNat P), .ref 1, .long ex, .ref a], h)) rfl ?_
    refine go_cald rfl (by decide) ct ?_ (congrArg f (i_n P (by omega)).2) ?_
    · rw [(i_n P (by omega)).1]; omega
    refine go_run 3 (F' := (29, [some (.ref a)], [.ref a, .int 8, .long (f P).toInt64, .long ex, .ref a], h)) rfl ?_
    refine go_gf rfl ca rfl ?_
    refine go_run 3 (F' := (35, [some (.ref a)], [.long (rd_ex ex el (f P)), .ref a], h)) rfl ?_
    refine go_pf rfl ca (Nat.le_of_ble_eq_true rfl) rfl rfl ?_
    refine go_run 2 (F' := (40, [some (.ref a)], [.ref a, .ref a], List.set h a (rdc c P n w (rd_ex ex el (f P)) el))) rfl ?_
    refine go_gf rfl (gs_self ca) rfl ?_
    refine go_run 2 (F' := (45, [some (.ref a)], [.int (Int32.ofNat el + Int32.ofNat 1), .ref a], List.set h a (rdc c P n w (rd_ex ex el (f P)) el))) rfl ?_
    rw [ty_add]
    refine go_pf rfl (gs_self ca) (Nat.le_of_ble_eq_true rfl) rfl rfl ?_
    refine go_run 2 (F' := (50, [some (.ref a)], [.ref a, .ref a], List.set (List.set h a (rdc c P n w (rd_ex ex el (f P)) el)) a (rdc c P n w (rd_ex ex el (f P)) (el + 1)))) rfl ?_
    refine go_gf rfl (gs_self (gs_self ca)) rfl ?_
    refine go_run 2 (F' := (55, [some (.ref a)], [.int (Int32.ofNat P + Int32.ofNat 1), .ref a], List.set (List.set h a (rdc c P n w (rd_ex ex el (f P)) el)) a (rdc c P n w (rd_ex ex el (f P)) (el + 1)))) rfl ?_
    rw [ty_add]
    refine go_pf rfl (gs_self (gs_self ca)) (Nat.le_of_ble_eq_true rfl) rfl rfl ?_
    refine go_run 0 (F' := (58, [some (.ref a)], [], List.set (List.set (List.set h a (rdc c P n w (rd_ex ex el (f P)) el)) a (rdc c P n w (rd_ex ex el (f P)) (el + 1))) a (rdc c (P + 1) n w (rd_ex ex el (f P)) (el + 1)))) rfl ?_
    rw [List.set_set, List.set_set]
    exact go_end rfl rfl
  · rw [if_pos ((i_le (by omega) (by omega)).mpr (by show c ≤ P; omega))]
    have e : ks_keep f c (P, w, ex, el) = (P, w, ex, el) := by unfold ks_keep; rw [if_neg q]
    rw [e, set_same ca]
    exact go_end rfl rfl
theorem rd_loop (ha1 : a ≠ 1) (hc : c ≤ 200) (hf : ∀ j, 0 ≤ (f j).toInt ∧ (f j).toInt < 65536) : ∀ (j i : Nat) (h : ie_H) (s : rs), j + i = 3 → h[a]? = some (rk c n s) → h[1]? = some (.inl (1, 200, .inl f)) → s.1 ≤ c → Go X (d + 1) 24 (34, [some (.ref a), some (.int (Int32.ofNat i))], [], h) (.inl none) (List.set h a (rk c n (ks_loop f c j s)))
  | 0, i, h, s, hj, ca, ct, hP => by
    have : i = 3 := by omega
    subst this
    refine go_run 3 (F' := (60, [some (.ref a), some (.int (Int32.ofNat 3))], [], h)) rfl ?_
    show Go X (d + 1) 24 _ _ (List.set h a (rk c n s))
    rw [set_same ca]
    exact go_end rfl rfl
  | j + 1, i, h, s, hj, ca, ct, hP => by
    refine go_run 2 (F' := (36, [some (.ref a), some (.int (Int32.ofNat i))], [.int (Int32.ofNat 3), .int (Int32.ofNat i)], h)) rfl ?_
    refine go_step rfl rfl ?_
    rw [if_neg (fun z => by have := (i_le (by omega) (by omega)).mp z; omega)]
    refine go_run 2 (F' := (41, [some (.ref a), some (.int (Int32.ofNat i))], [.int (Int32.ofNat 0), .ref a], h)) rfl ?_
    refine go_call (m' := 15) (v := some (.int (ka f c s 0))) (h1 := h) rfl (by simp only [ie_step, ie_iv, List.drop, ca, rk, rdc, if_true]; rfl) ⟨rfl, Nat.le_of_ble_eq_true rfl⟩ (rd_ahead ca ct hc hP (by decide) hf) ?_
    refine go_call (m' := 27) (v := some (.int (ty_b (rd_fig (ka f c s 0))))) (h1 := h) rfl rfl ⟨rfl, Nat.le_of_ble_eq_true rfl⟩ (rd_isFig _) ?_
    cases q : rd_fig (ka f c s 0) with
    | false =>
      have e : ks_loop f c (j + 1) s = s := by unfold ks_loop; rw [if_neg (by rw [q]; decide)]
      rw [e, set_same ca]
      refine go_run 1 (F' := (60, [some (.ref a), some (.int (Int32.ofNat i))], [], h)) rfl ?_
      exact go_end rfl rfl
    | true =>
      have e : ks_loop f c (j + 1) s = ks_loop f c j (ks_keep f c s) := by rw [ks_loop, if_pos q]
      rw [e]
      refine go_run 2 (F' := (51, [some (.ref a), some (.int (Int32.ofNat i))], [.ref a], h)) rfl ?_
      refine go_call (m' := 26) (v := none) (h1 := List.set h a (rk c n (ks_keep f c s))) rfl (by simp only [ie_step, ie_iv, List.drop, ca, rk, rdc, if_true]; rfl) ⟨rfl, Nat.le_of_ble_eq_true rfl⟩ (rd_keep ca ct hc hP) ?_
      refine go_run 2 (F' := (34, [some (.ref a), some (.int (Int32.ofNat i + Int32.ofNat 1))], [], List.set h a (rk c n (ks_keep f c s)))) rfl ?_
      rw [ty_add]
      have k := rd_loop ha1 hc hf j (i + 1) (List.set h a (rk c n (ks_keep f c s))) (ks_keep f c s) (by omega) (gs_self ca) (gs_ne ha1 ct) (ks_keep_le hP)
      rw [List.set_set] at k
      exact k
end RT
