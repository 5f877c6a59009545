def Sfx (T : List Nat) (k : Nat) (L : List Nat) : Prop := ∃ u, T = u ++ L ∧ u.length = k
def Fol (T : List Nat) (e k : Nat) : Prop := ∃ N, ∀ n, N ≤ n → ∀ (A : Nat → Nat → Int32) (I : Nat → Int32) (p : Nat), TX A p T → x_follow n I A (Int32.ofNat p) (Int32.ofNat e) = some (I, A, Int32.ofNat k)
section FO
variable {T u v w L la : List Nat} {j k p e : Nat} {A : Nat → Nat → Int32} {I : Nat → Int32}
theorem Sfx_s (h : Sfx T k (u ++ v)) : Sgt T k u := by
  obtain ⟨a, e, f⟩ := h
  exact ⟨a, v, e, f⟩
theorem Sfx_w (h : Sfx T k u) : Sgt T k u := Sfx_s (v := []) (by rw [List.append_nil]; exact h)
theorem Sfx_r (h : Sfx T k (u ++ v)) : Sfx T (k + u.length) v := by
  obtain ⟨a, e, f⟩ := h
  exact ⟨a ++ u, by rw [e, List.append_assoc], by rw [List.length_append, f]⟩
theorem Sfx_c {c : Nat} (h : Sfx T k (c :: v)) : Sfx T (k + 1) v := Sfx_r (u := [c]) h
theorem Sfx_le (h : Sfx T k u) : k + u.length = T.length := by
  obtain ⟨a, rfl, f⟩ := h
  rw [List.length_append, f]
theorem Sfx_g {i : Nat} (h : Sfx T k u) : T.getD (k + i) 0 = u.getD i 0 := by
  obtain ⟨a, e, f⟩ := h
  rw [e, List.getD_eq_getElem?_getD, List.getElem?_append_right (by omega), f, Nat.add_sub_cancel_left, List.getD_eq_getElem?_getD]
theorem getD_s (h : ∀ c, c ∈ T → c < 256) : T.getD k 0 < 256 := by
  rw [List.getD_eq_getElem?_getD]
  cases q : T[k]? with
  | none => decide
  | some c => exact h c (List.mem_of_getElem? q)
theorem tyb0 {b : Bool} : (ty_b b = 0) ↔ b = false := by cases b <;> decide
theorem isCase_ok (h : TX A p T) (hk : k < 1000) : x_isCase I A (Int32.ofNat p) (Int32.ofNat k) = some (I, A, ty_b (fgc (T.getD k 0) && decide (T.getD (k + 1) 0 = 123))) := by
  unfold x_isCase
  refine (xb_some (chr h (by omega))).trans ?_
  have c1 := getD_s (k := k) h.2.2.2.2
  have c2 := getD_s (k := k + 1) h.2.2.2.2
  rw [fig_o c1]
  cases q : fgc (T.getD k 0) with
  | false =>
    rw [if_pos (by decide)]
    rfl
  | true =>
    rw [if_neg (by decide), o1]
    refine (xb_some (chr h (by omega))).trans ?_
    by_cases q2 : T.getD (k + 1) 0 = 123
    · rw [if_pos ((cq123 c2).mpr q2), decide_eq_true q2]
      rfl
    · rw [if_neg (mt (cq123 c2).mp q2), decide_eq_false q2]
      rfl
theorem nc_c (h : Sfx T k w) (hn : NCs w) : (fgc (T.getD k 0) && decide (T.getD (k + 1) 0 = 123)) = false := by
  have a := hn 65
  have g0 := Sfx_g (i := 0) h
  have g1 := Sfx_g (i := 1) h
  rw [Nat.add_zero] at g0
  rw [g0, g1]
  unfold isC at a
  rw [show (ptc 65 || decide (65 = 125)) = true by decide, Bool.true_and] at a
  cases w with
  | nil => exact a
  | cons c w => cases w with
    | nil => exact a
    | cons d w => exact a
theorem behind_ok (h : TX A p T) : ∀ (cs : Fo), So false cs → WK false cs → ∀ (k N : Nat), Sfx T k (tx 1 cs ++ w) → NCs w → (tx 1 cs).length + 4 ≤ N → x_behindCases_2 N I A (Int32.ofNat p) (Int32.ofNat k) = some (I, A, Int32.ofNat (k + (tx 1 cs).length)) := fun cs hs => So_ind (P := fun m cs => m = false → WK false cs → ∀ (k N : Nat), Sfx T k (tx 1 cs ++ w) → NCs w → (tx 1 cs).length + 4 ≤ N → x_behindCases_2 N I A (Int32.ofNat p) (Int32.ofNat k) = some (I, A, Int32.ofNat (k + (tx 1 cs).length))) (fun m _ _ k N hx hn hN => by
    have hl := h.2.2.2.1
    have hle := Sfx_le hx
    rw [tx_n] at hx hN ⊢
    obtain ⟨N, rfl⟩ : ∃ M, N = M + 1 := ⟨N - 1, by omega⟩
    rw [x_behindCases_2]
    refine (xb_some (isCase_ok h (by omega))).trans ?_
    rw [nc_c hx hn]
    exact if_pos rfl) (fun m l x r s1 s2 _ _ ih hm hw k N hx hn hN => by
    subst hm
    obtain ⟨w1, w2, w3⟩ := hw
    have hl := h.2.2.2.1
    have hle := Sfx_le hx
    rw [tx_1] at hx hN hle ⊢
    have e : (48 + l) :: 123 :: (tx 0 x ++ 125 :: tx 1 r) ++ w = (48 + l) :: 123 :: (tx 0 x ++ 125 :: (tx 1 r ++ w)) := by simp
    have e2 : ((48 + l) :: 123 :: (tx 0 x ++ 125 :: tx 1 r)).length = (tx 0 x).length + (tx 1 r).length + 3 := by simp; omega
    rw [e] at hx
    rw [List.length_append] at hle
    rw [e2] at hN hle ⊢
    obtain ⟨N, rfl⟩ : ∃ M, N = M + 1 := ⟨N - 1, by omega⟩
    have g0 := Sgt_g (Sfx_w hx)
    have g1 := Sgt_g (Sfx_w (Sfx_c hx))
    rw [x_behindCases_2]
    refine (xb_some (isCase_ok h (by omega))).trans ?_
    rw [g0, g1, show fgc (48 + l) = true by unfold fgc; rw [decide_eq_true]; omega, show (true && decide (123 = 123)) = true by decide, if_neg (by decide), o1]
    have b := (tx_blc x true s1 w2).1 rfl
    refine (xb_some (closing_ok (N := N) h (Sfx_w (Sfx_c hx)) b (by omega))).trans ?_
    rw [o1, ih rfl w3 (k + 1 + 1 + (tx 0 x).length + 1) N (by
      have := Sfx_r (Sfx_c (Sfx_c hx))
      exact Sfx_c this) hn (by omega)]
    rw [show k + 1 + 1 + (tx 0 x).length + 1 + (tx 1 r).length = k + ((tx 0 x).length + (tx 1 r).length + 3) by omega]) cs false hs rfl
theorem kid_split : ∀ (cs : Fo), So false cs → WK false cs → ∀ i x, gid i cs = some x → ∃ u post, tx 1 cs = u ++ ((48 + i) :: 123 :: (tx 0 x ++ 125 :: tx 1 post)) ∧ So false post ∧ WK false post ∧ (u = [] ∨ ∃ u', u = u' ++ [125]) := fun cs hs => So_ind (P := fun m cs => m = false → WK false cs → ∀ i x, gid i cs = some x → ∃ u post, tx 1 cs = u ++ ((48 + i) :: 123 :: (tx 0 x ++ 125 :: tx 1 post)) ∧ So false post ∧ WK false post ∧ (u = [] ∨ ∃ u', u = u' ++ [125])) (fun m _ _ i x h => by cases h) (fun m l y r s1 s2 s3 _ ih hm hw i x hg => by
    subst hm
    obtain ⟨w1, w2, w3⟩ := hw
    rw [gid_cn] at hg
    by_cases q : i = l
    · rw [if_pos q] at hg
      cases hg
      subst q
      exact ⟨[], r, tx_1, s2, w3, Or.inl rfl⟩
    · rw [if_neg q] at hg
      obtain ⟨u, post, e, a, b, c⟩ := ih rfl w3 i x hg
      refine ⟨(48 + l) :: 123 :: (tx 0 y ++ [125]) ++ u, post, ?_, a, b, Or.inr ?_⟩
      · rw [tx_1, e]
        simp
      · rcases c with rfl | ⟨u', rfl⟩
        · exact ⟨(48 + l) :: 123 :: tx 0 y, by simp⟩
        · exact ⟨(48 + l) :: 123 :: (tx 0 y ++ [125]) ++ u', by simp⟩) cs false hs rfl
theorem walk {l1 : Nat} (h : TX A p T) (hc : ∀ c, c ∈ L → c ≠ 63 ∧ c ≠ 64) {hd : Nat} (hh : hd = 63 ∨ hd = 64) (hs : Sgt T j (hd :: L)) (E : Int32) : ∀ (i N : Nat), i ≤ L.length → x_follow_89 (N + 1 + i) I A (Int32.ofNat p) E (Int32.ofNat (j + i)) = x_follow_117 N I A (Int32.ofNat p) E (Int32.ofNat j)
  | 0, N, _ => by
    have hm := Sgt_m hs
    have hl := h.2.2.2.1
    have c1 := h.2.2.2.2 _ hm.2
    rw [show N + 1 + 0 = N + 1 from rfl, show j + 0 = j from rfl, x_follow_89]
    refine (xb_some (chr h (by omega))).trans ?_
    rw [Sgt_g hs]
    rcases hh with rfl | rfl
    · rw [if_pos (by decide)]
    · rw [if_neg (by decide)]
      refine (xb_some (chr h (by omega))).trans ?_
      rw [Sgt_g hs, if_pos (by decide)]
  | i + 1, N, hi => by
    have hl := h.2.2.2.1
    have hle := Sgt_le hs
    rw [List.length_cons] at hle
    have hg : T.getD (j + (i + 1)) 0 = L[i] := by
      obtain ⟨a, w, e, f⟩ := hs
      rw [e, List.getD_eq_getElem?_getD, List.getElem?_append_right (by omega), f, Nat.add_sub_cancel_left, List.cons_append, List.getElem?_cons_succ, List.getElem?_append_left (by omega), List.getElem?_eq_getElem (by omega)]
      rfl
    have hm := hc L[i] (List.getElem_mem _)
    have c1 : T.getD (j + (i + 1)) 0 < 256 := getD_s h.2.2.2.2
    rw [hg] at c1
    rw [show N + 1 + (i + 1) = N + 1 + i + 1 by omega, x_follow_89]
    refine (xb_some (chr h (by omega))).trans ?_
    rw [hg, if_neg (mt (cq63 c1).mp hm.1)]
    refine (xb_some (chr h (by omega))).trans ?_
    rw [hg, if_neg (mt (cq64 c1).mp hm.2), o_m1 (by omega), show j + (i + 1) - 1 = j + i by omega]
    exact walk (l1 := l1) h hc hh hs E i N (by omega)
end FO
