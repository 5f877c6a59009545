section FL
variable {T u v w L la : List Nat} {j k p e n : Nat} {A : Nat → Nat → Int32} {I : Nat → Int32} {ks r x : Fo}
theorem hv_5 (h : cK n = 5) : hdt n = [65 + cO n] := hdt_5 h
theorem hv_6 (h : cK n = 6) : hdt n = 63 :: xt (cE n) := by unfold hdt; rw [if_neg (by omega), if_neg (by omega), if_neg (by omega), if_neg (by omega), if_neg (by omega), if_pos h]
theorem hv_7 (h : cK n = 7) : hdt n = 64 :: (xt (cE n) ++ ldl (cD n)) := by unfold hdt; rw [if_neg (by omega), if_neg (by omega), if_neg (by omega), if_neg (by omega), if_neg (by omega), if_neg (by omega), if_pos h]
theorem hv_8 (h : cK n = 8) : hdt n = [65 + cO n, 64] := by unfold hdt; rw [if_neg (by omega), if_neg (by omega), if_neg (by omega), if_neg (by omega), if_neg (by omega), if_neg (by omega), if_neg (by omega)]
theorem tx2_6 {y : Fo} : tx 2 (cn 0 x (cn 1 y .nil)) = 123 :: (tx 0 x ++ 125 :: 123 :: (tx 0 y ++ [125])) := rfl
theorem tx2_7 : tx 2 (cn 0 x .nil) = 123 :: (tx 0 x ++ [125]) := rfl
theorem fol_hear {i o : Nat} {post : Fo} (ho : o < 6) (hi : i < 10) (bx : Blc (tx 0 x)) (s2 : So false post) (w2 : WK false post) (hu : u = [] ∨ ∃ u', u = u' ++ [125]) (hn : NCs w) (hs : Sfx T j ((65 + o) :: (u ++ ((48 + i) :: 123 :: (tx 0 x ++ 125 :: (tx 1 post ++ w)))))) : Fol T (j + 1 + u.length + 2 + (tx 0 x).length) (j + 1 + u.length + 2 + (tx 0 x).length + 1 + (tx 1 post).length) := by
  have s1 := Sfx_r (Sfx_c hs)
  have s2' := Sfx_c s1
  have s3 := Sfx_c (Sfx_r (Sfx_c s2'))
  have hle := Sfx_le s3
  refine ⟨T.length + 10, fun n hn' A I p ht => ?_⟩
  have hl := ht.2.2.2.1
  rw [List.length_append] at hle
  unfold x_follow
  have op := opening_ok (I := I) (N := n) ht (Sfx_w s2') bx (by omega)
  rw [show j + 1 + u.length + 1 + 1 + (tx 0 x).length = j + 1 + u.length + 2 + (tx 0 x).length by omega] at op
  refine (xb_some op).trans ?_
  rw [o_s1 (by omega), show j + 1 + u.length + 1 - 1 = j + 1 + u.length by omega]
  refine (xb_some (chr ht (by omega))).trans ?_
  rw [Sgt_g (Sfx_w s1), if_neg (mt (cq125 (by omega)).mp (by omega)), if_neg (mt (cq64 (by omega)).mp (by omega)), if_neg (nz (by omega) (by omega)), o_s1 (by omega)]
  refine (xb_some (chr ht (by omega))).trans ?_
  rw [fig_o (by omega), show fgc (48 + i) = true by unfold fgc; rw [decide_eq_true]; omega, if_neg (by decide)]
  have hb : T.getD (j + 1 + u.length - 1) 0 = 125 ∨ ptc (T.getD (j + 1 + u.length - 1) 0) = true := by
    rcases hu with rfl | ⟨u', rfl⟩
    · right
      rw [show j + 1 + ([] : List Nat).length - 1 = j by simp, Sgt_g (Sfx_w hs)]
      unfold ptc
      rw [decide_eq_true]
      omega
    · left
      rw [List.append_assoc] at hs
      have := Sfx_r (Sfx_c hs)
      rw [List.length_append, show j + 1 + (u'.length + [125].length) - 1 = j + 1 + u'.length by simp]
      exact Sgt_g (Sfx_w this)
  have c1 : T.getD (j + 1 + u.length - 1) 0 < 256 := getD_s ht.2.2.2.2
  have bc : x_behindCases n I A (Int32.ofNat p) (Int32.ofNat (j + 1 + u.length + 2 + (tx 0 x).length) + 1) = some (I, A, Int32.ofNat (j + 1 + u.length + 2 + (tx 0 x).length + 1 + (tx 1 post).length)) := by
    unfold x_behindCases
    rw [o1]
    refine behind_ok ht post s2 w2 _ n ?_ hn (by omega)
    rw [show j + 1 + u.length + 2 + (tx 0 x).length + 1 = j + 1 + u.length + 1 + 1 + (tx 0 x).length + 1 by omega]
    exact s3
  rw [pty_o c1]
  cases hp : ptc (T.getD (j + 1 + u.length - 1) 0) with
  | true =>
    rw [if_neg (by decide)]
    exact (xb_some bc).trans rfl
  | false =>
    rw [hp] at hb
    rw [if_pos (by decide), if_pos ((cq125 c1).mpr (hb.resolve_right (by decide)))]
    exact (xb_some bc).trans rfl
theorem lsx (h : L ≠ []) : ∃ L' c, L = L' ++ [c] := by
  rcases List.eq_nil_or_concat L with q | ⟨l2, c2, q⟩
  · exact (h q).elim
  · exact ⟨l2, c2, by rw [q, List.concat_eq_append]⟩
theorem fol_walk {h0 : Nat} (hh : h0 = 63 ∨ h0 = 64) (hL : L ≠ []) (hc : ∀ c, c ∈ L → c ≠ 63 ∧ c ≠ 64 ∧ c ≠ 123 ∧ c ≠ 125) (hf : ∀ L' c, L = L' ++ [c] → fgc c = true → ∀ d, d ∈ L' → ptc d = false) (bx : Blc (tx 0 x)) (hs : Sfx T j (h0 :: (L ++ 123 :: (tx 0 x ++ 125 :: w)))) (N : Nat) (hN : T.length + 10 ≤ N) (ht : TX A p T) : ∃ M, N ≤ M + L.length + 1 ∧ x_follow N I A (Int32.ofNat p) (Int32.ofNat (j + 1 + L.length + 1 + (tx 0 x).length)) = x_follow_117 M I A (Int32.ofNat p) (Int32.ofNat (j + 1 + L.length + 1 + (tx 0 x).length)) (Int32.ofNat j) := by
  have s1 := Sfx_r (Sfx_c hs)
  have hle := Sfx_le s1
  have hl := ht.2.2.2.1
  rw [List.length_cons, List.length_append] at hle
  obtain ⟨L', c, rfl⟩ := lsx hL
  have el : (L' ++ [c]).length = L'.length + 1 := by simp
  have hcc := hc c (by simp)
  have sc : Sgt T (j + 1 + L'.length) [c] := by
    have := Sfx_c hs
    rw [List.append_assoc] at this
    exact Sfx_s (Sfx_r this)
  have sb : ∃ d, T.getD (j + L'.length) 0 = d ∧ d ≠ 125 ∧ d < 256 ∧ (fgc c = true → ptc d = false) := by
    rcases List.eq_nil_or_concat L' with rfl | ⟨L2, d, rfl⟩
    · refine ⟨h0, Sgt_g (Sfx_w hs), by omega, by omega, fun _ => ?_⟩
      unfold ptc
      rw [decide_eq_false]
      omega
    · have hd := hc d (by simp)
      have e1 : L2.concat d = L2 ++ [d] := List.concat_eq_append
      have := Sfx_c hs
      rw [e1, List.append_assoc, List.append_assoc] at this
      have g := Sgt_g (Sfx_w (Sfx_r this))
      have e2 : j + (L2.concat d).length = j + 1 + L2.length := by rw [List.length_concat]; omega
      refine ⟨d, by rw [e2]; exact g, hd.2.2.2, ht.2.2.2.2 d (Sgt_m (Sfx_w (Sfx_r this))).2, fun hq => hf (L2.concat d) c rfl hq d (by rw [e1]; simp)⟩
  obtain ⟨d, d1, d2, d3, d4⟩ := sb
  have hc2 : c < 256 := ht.2.2.2.2 c (Sgt_m sc).2
  refine ⟨N - 1 - (L'.length + 1), by rw [el]; omega, ?_⟩
  rw [el] at s1 ⊢
  have op := opening_ok (I := I) (N := N) ht (Sfx_w s1) bx (by omega)
  unfold x_follow
  refine (xb_some op).trans ?_
  rw [o_s1 (by omega), show j + 1 + (L'.length + 1) - 1 = j + 1 + L'.length by omega]
  refine (xb_some (chr ht (by omega))).trans ?_
  rw [Sgt_g sc, if_neg (mt (cq125 hc2).mp hcc.2.2.2), if_neg (mt (cq64 hc2).mp hcc.2.1), if_neg (nz (by omega) (by omega)), o_s1 (by omega), show j + 1 + L'.length - 1 = j + L'.length by omega]
  refine (xb_some (chr ht (by omega))).trans ?_
  have wk := walk (I := I) (l1 := 0) ht (fun c' h' => ⟨(hc c' h').1, (hc c' h').2.1⟩) hh (Sfx_s (u := h0 :: (L' ++ [c])) hs) (Int32.ofNat (j + 1 + (L'.length + 1) + 1 + (tx 0 x).length)) (L'.length + 1) (N - 1 - (L'.length + 1)) (Nat.le_of_eq el.symm)
  rw [show N - 1 - (L'.length + 1) + 1 + (L'.length + 1) = N by omega, show j + (L'.length + 1) = j + 1 + L'.length by omega] at wk
  rw [d1, fig_o hc2]
  cases q : fgc c with
  | false =>
    rw [if_pos (by decide)]
    exact wk
  | true =>
    rw [if_neg (by decide), pty_o d3, d4 q, if_pos (by decide), if_neg (mt (cq125 d3).mp d2)]
    exact wk
theorem xk_w {e : Nat} (h : Xok e) : xt e ≠ [] ∧ ∀ c, c ∈ xt e → c ≠ 63 ∧ c ≠ 64 ∧ c ≠ 123 ∧ c ≠ 125 ∧ ptc c = false := ⟨h.1, fun c hc => by
    have := xch_f (h.2.2 c hc)
    exact ⟨this.2.2.2.2.2.2.2.2.1, this.2.2.2.2.2.2.2.2.2.1, this.2.1, this.2.2.1, this.2.2.2.1⟩⟩
theorem fol_ch0 {y : Fo} (he : Xok e) (bx : Blc (tx 0 x)) (by' : Blc (tx 0 y)) (hs : Sfx T j (63 :: (xt e ++ 123 :: (tx 0 x ++ 125 :: 123 :: (tx 0 y ++ 125 :: w))))) : Fol T (j + 1 + (xt e).length + 1 + (tx 0 x).length) (j + 1 + (xt e).length + 1 + (tx 0 x).length + 1 + 1 + (tx 0 y).length + 1) := by
  obtain ⟨x1, x2⟩ := xk_w he
  refine ⟨2 * T.length + 20, fun n hn A I p ht => ?_⟩
  have s1 := Sfx_c (Sfx_r (Sfx_c (Sfx_r (Sfx_c hs))))
  have hle := Sfx_le s1
  have hl := ht.2.2.2.1
  rw [List.length_cons, List.length_append, List.length_cons] at hle
  obtain ⟨M, h1, h2⟩ := fol_walk (I := I) (Or.inl rfl) x1 (fun c hc => ⟨(x2 c hc).1, (x2 c hc).2.1, (x2 c hc).2.2.1, (x2 c hc).2.2.2.1⟩) (fun L' c e1 _ d hd => (x2 d (by rw [e1]; simp [hd])).2.2.2.2) bx hs n (by omega) ht
  rw [h2]
  unfold x_follow_117
  refine (xb_some (chr ht (by omega))).trans ?_
  rw [Sgt_g (Sfx_w hs), if_neg (by decide), o1]
  refine (xb_some (closing_ok (N := M) ht (Sfx_w s1) by' (by omega))).trans ?_
  rw [o1]
theorem fol_ch1 {y : Fo} (he : Xok e) (bx : Blc (tx 0 x)) (by' : Blc (tx 0 y)) (hs : Sfx T j (63 :: (xt e ++ 123 :: (tx 0 x ++ 125 :: 123 :: (tx 0 y ++ 125 :: w))))) : Fol T (j + 1 + (xt e).length + 1 + (tx 0 x).length + 1 + 1 + (tx 0 y).length) (j + 1 + (xt e).length + 1 + (tx 0 x).length + 1 + 1 + (tx 0 y).length + 1) := by
  refine ⟨2 * T.length + 20, fun n hn A I p ht => ?_⟩
  have s0 := Sfx_r (Sfx_c (Sfx_r (Sfx_c hs)))
  have s1 := Sfx_c s0
  have hle := Sfx_le s1
  have hl := ht.2.2.2.1
  rw [List.length_cons, List.length_append, List.length_cons] at hle
  unfold x_follow
  refine (xb_some (opening_ok (N := n) ht (Sfx_w s1) by' (by omega))).trans ?_
  rw [o_s1 (by omega), Nat.add_sub_cancel]
  refine (xb_some (chr ht (by omega))).trans ?_
  rw [Sgt_g (Sfx_w s0), if_pos (by decide), o1]
theorem fol_rou {d : Nat} (he : Xok e) (bx : Blc (tx 0 x)) (hs : Sfx T j (64 :: ((xt e ++ ldl d) ++ 123 :: (tx 0 x ++ 125 :: w)))) : Fol T (j + 1 + (xt e ++ ldl d).length + 1 + (tx 0 x).length) j := by
  obtain ⟨x1, x2⟩ := xk_w he
  refine ⟨2 * T.length + 20, fun n hn A I p ht => ?_⟩
  have hle := Sfx_le (Sfx_r (Sfx_c hs))
  have hl := ht.2.2.2.1
  have hL : ∀ c, c ∈ xt e ++ ldl d → c ≠ 63 ∧ c ≠ 64 ∧ c ≠ 123 ∧ c ≠ 125 := fun c hc => by
    rcases List.mem_append.mp hc with hc | hc
    · exact ⟨(x2 c hc).1, (x2 c hc).2.1, (x2 c hc).2.2.1, (x2 c hc).2.2.2.1⟩
    · have := ldl_m hc
      omega
  obtain ⟨M, h1, h2⟩ := fol_walk (I := I) (Or.inr rfl) (by simp [x1]) hL (fun L' c e1 hf d' hd => by
    rcases List.eq_nil_or_concat (ldl d) with q | ⟨l2, c2, q⟩
    · rw [q, List.append_nil] at e1
      exact (x2 d' (by rw [e1]; simp [hd])).2.2.2.2
    · exfalso
      rw [q, List.concat_eq_append, ← List.append_assoc] at e1
      have := List.append_inj_right' e1 rfl
      have hc : c2 = c := by simpa using this
      have := ldl_m (d := d) (c := c2) (by rw [q]; simp)
      unfold fgc at hf
      have := of_decide_eq_true hf
      omega) bx hs n (by omega) ht
  rw [h2]
  unfold x_follow_117
  refine (xb_some (chr ht (by omega))).trans ?_
  rw [Sgt_g (Sfx_w hs), if_pos (by decide)]
theorem fol_fol {o : Nat} (bx : Blc (tx 0 x)) (hs : Sfx T j ((65 + o) :: 64 :: 123 :: (tx 0 x ++ 125 :: w))) : Fol T (j + 1 + 1 + 1 + (tx 0 x).length) j := by
  refine ⟨2 * T.length + 20, fun n hn A I p ht => ?_⟩
  have s0 := Sfx_c hs
  have s1 := Sfx_c s0
  have hle := Sfx_le s1
  have hl := ht.2.2.2.1
  rw [List.length_cons, List.length_append, List.length_cons] at hle
  unfold x_follow
  refine (xb_some (opening_ok (N := n) ht (Sfx_w s1) bx (by omega))).trans ?_
  rw [o_s1 (by omega), Nat.add_sub_cancel]
  refine (xb_some (chr ht (by omega))).trans ?_
  rw [Sgt_g (Sfx_w s0), if_neg (by decide), if_pos (by decide), o_s1 (by omega), Nat.add_sub_cancel]
end FL
