def tvl (V : Nat → Int32) (l : List Nat) : Int32 := if vrc (l.headD 0) = true then V (l.headD 0 - 119) else l.foldl (fun a c => 10 * a + Int32.ofNat c - 48) 0
def evx (V : Nat → Int32) (l : List Nat) : Int32 := match l.dropWhile (fun c => !opc c) with
  | [] => tvl V l
  | o :: b => x_reckon (tvl V (l.takeWhile fun c => !opc c)) (Int32.ofNat o) (tvl V b)
section EV
variable {T a b w : List Nat} {k p o : Nat} {V : Nat → Int32} {A : Nat → Nat → Int32} {I : Nat → Int32}
theorem vf_op {c : Nat} (h : vrc c = true ∨ fgc c = true) : opc c = false := by
  unfold vrc fgc at h
  unfold opc
  simp only [decide_eq_true_eq] at h
  rw [decide_eq_false]
  omega
theorem op_vf {c : Nat} (h : opc c = true) : vrc c = false ∧ fgc c = false := by
  unfold opc at h
  have h := of_decide_eq_true h
  unfold vrc fgc
  refine ⟨?_, ?_⟩ <;> rw [decide_eq_false] <;> omega
theorem vf_no {c : Nat} (h : vrc c = true) : fgc c = false := by
  unfold vrc at h
  have h := of_decide_eq_true h
  unfold fgc
  rw [decide_eq_false]
  omega
theorem trL_op (h : trL a) : ∀ c, c ∈ a → opc c = false := fun c hc => by
  rcases h with ⟨v, rfl, hv⟩ | ⟨_, _, h3⟩
  · rw [List.mem_singleton.mp hc]
    exact vf_op (Or.inl hv)
  · exact vf_op (Or.inr (h3 c hc))
theorem tkw : ∀ (a w : List Nat), (∀ c, c ∈ a → opc c = false) → (a ++ w).dropWhile (fun c => !opc c) = w.dropWhile (fun c => !opc c) ∧ (a ++ w).takeWhile (fun c => !opc c) = a ++ w.takeWhile (fun c => !opc c)
  | [], w, _ => ⟨rfl, rfl⟩
  | c :: a, w, h => by
    have hc := h c List.mem_cons_self
    obtain ⟨i1, i2⟩ := tkw a w (fun d hd => h d (List.mem_cons_of_mem _ hd))
    rw [List.cons_append, List.dropWhile_cons, List.takeWhile_cons, hc]
    exact ⟨i1, congrArg (List.cons c) i2⟩
theorem evx_1 (h : trL a) : evx V a = tvl V a := by
  have := (tkw a [] (trL_op h)).1
  rw [List.append_nil] at this
  unfold evx
  rw [this]
  rfl
theorem evx_2 (h : trL a) (ho : opc o = true) : evx V (a ++ o :: b) = x_reckon (tvl V a) (Int32.ofNat o) (tvl V b) := by
  obtain ⟨i1, i2⟩ := tkw a (o :: b) (trL_op h)
  unfold evx
  rw [i1, i2, List.dropWhile_cons, List.takeWhile_cons, ho]
  show x_reckon (tvl V (a ++ [])) (Int32.ofNat o) (tvl V b) = _
  rw [List.append_nil]
theorem trL_ne (h : trL a) : a ≠ [] ∧ a.length ≤ 3 := by
  rcases h with ⟨v, rfl, hv⟩ | ⟨h1, h2, h3⟩
  · exact ⟨by simp, by simp⟩
  · exact ⟨h1, h2⟩
theorem var_o {c : Nat} (h : c < 256) : rd_var (Int32.ofNat c) = vrc c ∧ rd_op (Int32.ofNat c) = opc c := by
  have : ∀ c, c < 256 → rd_var (Int32.ofNat c) = vrc c ∧ rd_op (Int32.ofNat c) = opc c := by decide +kernel
  exact this c h
theorem tm_43 (ht : TX A p T) : ∀ (a : List Nat) (k n : Nat) (I : Nat → Int32) (acc : Int32), Sfx T k (a ++ w) → (∀ c, c ∈ a → fgc c = true) → fgc (w.headD 0) = false → a.length + 1 ≤ n → x_termOf_43 n I A (Int32.ofNat p) (Int32.ofNat k) acc = some (upd I 19 (Int32.ofNat (k + a.length)), A, a.foldl (fun a c => 10 * a + Int32.ofNat c - 48) acc)
  | [], k, n, I, acc, hs, _, hw, hn => by
    obtain ⟨n, rfl⟩ : ∃ m, n = m + 1 := ⟨n - 1, by omega⟩
    have hle := Sfx_le hs
    have hl := ht.2.2.2.1
    have g := Sfx_g (i := 0) hs
    have g' : T.getD k 0 = w.headD 0 := by
      rw [Nat.add_zero] at g
      rw [g]
      cases w <;> rfl
    have c1 : T.getD k 0 < 256 := getD_s ht.2.2.2.2
    rw [x_termOf_43]
    refine (xb_some (chr ht (by omega))).trans ?_
    rw [fig_o c1, g', hw, if_pos (by decide)]
    rfl
  | c :: a, k, n, I, acc, hs, hf, hw, hn => by
    obtain ⟨n, rfl⟩ : ∃ m, n = m + 1 := ⟨n - 1, by rw [List.length_cons] at hn; omega⟩
    have hle := Sfx_le hs
    have hl := ht.2.2.2.1
    have hm := Sgt_m (Sfx_w hs)
    have c1 := ht.2.2.2.2 _ hm.2
    rw [x_termOf_43]
    refine (xb_some (chr ht (by omega))).trans ?_
    rw [Sgt_g (Sfx_w hs), fig_o c1, hf c List.mem_cons_self, if_neg (by decide)]
    refine (xb_some (chr ht (by omega))).trans ?_
    rw [Sgt_g (Sfx_w hs), o1, tm_43 ht a (k + 1) n I _ (Sfx_c hs) (fun d hd => hf d (List.mem_cons_of_mem _ hd)) hw (by rw [List.length_cons] at hn; omega), List.length_cons, show k + 1 + a.length = k + (a.length + 1) by omega]
    rfl
theorem term_ok {n : Nat} (ht : TX A p T) (hV : ∀ v, v < 4 → V v = A 34 (4 * p + v)) (hs : Sfx T k (a ++ w)) (ha : trL a) (hw : fgc (w.headD 0) = false) (hn : 10 ≤ n) : x_termOf n I A (Int32.ofNat p) (Int32.ofNat k) = some (upd I 19 (Int32.ofNat (k + a.length)), A, tvl V a) := by
  have hle := Sfx_le hs
  have hl := ht.2.2.2.1
  have hp := ht.1
  unfold x_termOf
  refine (xb_some (chr ht (by omega))).trans ?_
  rcases ha with ⟨v, rfl, hv⟩ | ⟨h1, h2, h3⟩
  · have hs' : Sfx T k (v :: w) := hs
    have hv' := hv
    unfold vrc at hv'
    have hv' := of_decide_eq_true hv'
    rw [Sgt_g (Sfx_w hs'), (var_o (by omega)).1, hv, if_neg (by decide), o1]
    refine (xb_some (chr ht (by omega))).trans ?_
    rw [Sgt_g (Sfx_w hs')]
    have e : (4 : Int32) * Int32.ofNat p + Int32.ofNat v - 119 = Int32.ofNat (4 * p + v - 119) := by
      rw [show (4 : Int32) = Int32.ofNat 4 from rfl, ← Int32.ofNat_mul, ty_add]
      exact o_sub (j := 119) (by omega)
    rw [e, if_pos (j_in (by omega) (by omega)), (j_n (n := 4 * p + v - 119) (by omega)).2]
    unfold tvl
    rw [show [v].headD 0 = v from rfl, if_pos hv, hV (v - 119) (by omega), show 4 * p + (v - 119) = 4 * p + v - 119 by omega]
    rfl
  · cases a with
    | nil => exact (h1 rfl).elim
    | cons c a =>
      have hs' : Sfx T k (c :: (a ++ w)) := hs
      have hc := h3 c List.mem_cons_self
      have c1 := ht.2.2.2.2 _ (Sgt_m (Sfx_w hs')).2
      have hv : vrc c = false := by
        cases q : vrc c with
        | false => rfl
        | true =>
          rw [vf_no q] at hc
          cases hc
      rw [Sgt_g (Sfx_w hs'), (var_o c1).1, hv, if_pos (by decide), tm_43 ht (c :: a) k n I 0 hs h3 hw (by omega)]
      unfold tvl
      rw [show (c :: a).headD 0 = c from rfl, if_neg (by rw [hv]; decide)]
theorem work_ok {l : List Nat} (ht : TX A p T) (hV : ∀ v, v < 4 → V v = A 34 (4 * p + v)) (hs : Sfx T k (l ++ w)) (hx : Xw l) (hw : fgc (w.headD 0) = false) (hw2 : opc (w.headD 0) = false) : ∃ I', (∀ n, 10 ≤ n → x_work n I A (Int32.ofNat p) (Int32.ofNat k) = some (I', A, 0)) ∧ I' 19 = Int32.ofNat (k + l.length) ∧ I' 20 = evx V l ∧ ∀ j, j ≠ 19 → j ≠ 20 → I' j = I j := by
  have hle := Sfx_le hs
  have hl := ht.2.2.2.1
  rcases hx with ha | ⟨a, o, b, rfl, ha, ho, hb⟩
  · refine ⟨upd (upd I 19 (Int32.ofNat (k + l.length))) 20 (tvl V l), fun n hn => ?_, ?_, ?_, fun j h1 h2 => ?_⟩
    · unfold x_work
      refine (xb_some (term_ok ht hV hs ha hw hn)).trans ?_
      rw [upd_s, List.length_append] at *
      refine (xb_some (chr ht (by omega))).trans ?_
      have c1 : T.getD (k + l.length) 0 < 256 := getD_s ht.2.2.2.2
      have g := Sfx_g (i := 0) (Sfx_r hs)
      have g' : T.getD (k + l.length) 0 = w.headD 0 := by
        rw [Nat.add_zero] at g
        rw [g]
        cases w <;> rfl
      rw [(var_o c1).2, g', hw2, if_pos (by decide)]
    · rw [upd_n (by decide), upd_s]
    · rw [upd_s, evx_1 ha]
    · rw [upd_n h2, upd_n h1]
  · have hs' : Sfx T k (a ++ (o :: (b ++ w))) := by
      rw [List.append_assoc] at hs
      exact hs
    have s1 := Sfx_r hs'
    have c1 := ht.2.2.2.2 _ (Sgt_m (Sfx_w s1)).2
    have hlt := (Sgt_m (Sfx_w s1)).1
    refine ⟨upd (upd (upd (upd I 19 (Int32.ofNat (k + a.length))) 20 (tvl V a)) 19 (Int32.ofNat (k + a.length + 1 + b.length))) 20 (x_reckon (tvl V a) (Int32.ofNat o) (tvl V b)), fun n hn => ?_, ?_, ?_, fun j h1 h2 => ?_⟩
    · unfold x_work
      refine (xb_some (term_ok (w := o :: (b ++ w)) ht hV hs' ha (op_vf ho).2 hn)).trans ?_
      rw [upd_s]
      refine (xb_some (chr ht (by omega))).trans ?_
      rw [Sgt_g (Sfx_w s1), (var_o c1).2, ho, if_neg (by decide), upd_n (by decide), upd_s, o1]
      refine (xb_some (term_ok (w := w) ht hV (Sfx_c s1) hb hw hn)).trans ?_
      rw [upd_s]
    · rw [upd_n (by decide), upd_s, List.length_append, List.length_cons, show k + a.length + 1 + b.length = k + (a.length + (b.length + 1)) by omega]
    · rw [upd_s, evx_2 ha ho]
    · rw [upd_n h2, upd_n h1, upd_n h2, upd_n h1]
end EV
