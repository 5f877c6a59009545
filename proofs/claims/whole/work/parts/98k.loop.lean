def wfl (f : Nat → Int32) (c P : Nat) (b : Bool) (e : Nat) : Int32 := if P = c ∧ b = false ∧ e = 0 ∧ (f (c - 1) = 59 ∨ f (c - 1) = 125) then 1 else 0
def Fl (I : Nat → Int32) (A : Nat → Nat → Int32) (Q : Nat) (x : Option xR) : Prop := ∃ k P b n e A', x = some (upd (V I k P b n e) 2 (Int32.ofNat Q), A', 0) ∧ ∀ j, (j < 3 ∨ 15 < j) → A' j = A j
section LP
variable {I : Nat → Int32} {A A' : Nat → Nat → Int32} {k P n e c m k' P' n' e' : Nat} {b b' : Bool} {f : Nat → Int32} {l : Int32}
theorem wfl_0 (h : ¬ (P = c ∧ b = false ∧ e = 0 ∧ (f (c - 1) = 59 ∨ f (c - 1) = 125))) : wfl f c P b e = 0 := if_neg h
theorem it_108 (rc : (Nat → Int32) → (Nat → Nat → Int32) → Int32 → Option xR) (h : Rf I A c f) (hc0 : 0 < c) (hP : P ≤ c) (he : e ≤ 8) : x_isPlay_108 rc m (V I k P b n e) A = rc (V I k P b n e) A (wfl f c P b e) := by
  have hc := h.2.1
  unfold x_isPlay_108
  rw [show V I k P b n e 4 = Int32.ofNat c from h.1, show V I k P b n e 6 = Int32.ofNat P from rfl, show V I k P b n e 7 = ty_b b from rfl, show V I k P b n e 9 = Int32.ofNat e from rfl]
  by_cases q : P = c
  · rw [if_pos (show Int32.ofNat P = Int32.ofNat c by rw [q])]
    cases b with
    | true =>
      rw [tb1, wfl_0 (fun z => Bool.noConfusion z.2.1)]
    | false =>
      rw [tb0]
      by_cases q2 : e = 0
      · rw [if_pos (show Int32.ofNat e = 0 by rw [q2]; rfl)]
        have hs : Int32.ofNat c - 1 = Int32.ofNat (c - 1) := by
          have : Int32.ofNat c = Int32.ofNat (c - 1) + 1 := by
            rw [show (1 : Int32) = Int32.ofNat 1 from rfl, ty_add]
            congr 1
            omega
          rw [this]
          exact Int32.add_sub_cancel _ _
        rw [hs]
        unfold x_isEnd
        rw [if_pos (show ib (Int32.ofNat (c - 1)) 200 from j_in (by omega) (by omega)), (j_n (n := c - 1) (by omega)).2, h.2.2 (c - 1) (by omega)]
        by_cases q3 : f (c - 1) = 59
        · rw [if_pos q3]
          have hw : wfl f c P false e = 1 := if_pos ⟨q, rfl, q2, Or.inl q3⟩
          rw [hw]
          rfl
        · rw [if_neg q3]
          by_cases q4 : f (c - 1) = 125
          · rw [if_pos q4]
            have hw : wfl f c P false e = 1 := if_pos ⟨q, rfl, q2, Or.inr q4⟩
            rw [hw]
            rfl
          · rw [if_neg q4, wfl_0 (fun z => z.2.2.2.elim q3 q4)]
            rfl
      · rw [if_neg (show ¬ Int32.ofNat e = 0 from mt (j_eq (n := 0) (by omega) (by decide)).mp q2), wfl_0 (fun z => q2 z.2.2.1)]
  · rw [if_neg (show ¬ Int32.ofNat P = Int32.ofNat c from mt (j_eq (by omega) (by omega)).mp q), wfl_0 (fun z => q z.1)]
theorem it_stm (h : Rf I A c f) (h' : Rf I A' c f) (hP : P < c) (hP' : P' ≤ c) (he : e ≤ 8) (he' : e' ≤ 8) (hn : e = 0 ∨ ¬ f P = 125) (hs : x_readStatement m (V I k P false n e) A = some (V I k' P' b' n' e', A', 0)) : x_isPlay_63 (m + 1) (V I k P false n e) A l = x_isPlay_63 m (V I k' P' b' n' e') A' (wfl f c P' b' e') := by
  have hc := h.2.1
  have hbody : x_isPlay_104 (x_isPlay_63 m) m (V I k P false n e) A = x_isPlay_63 m (V I k' P' b' n' e') A' (wfl f c P' b' e') := by
    unfold x_isPlay_104
    refine (xb_some hs).trans ?_
    exact it_108 _ h' (by omega) hP' he'
  rw [x_isPlay_63, show V I k P false n e 4 = Int32.ofNat c from h.1, show V I k P false n e 6 = Int32.ofNat P from rfl, show V I k P false n e 7 = ty_b false from rfl, show V I k P false n e 9 = Int32.ofNat e from rfl, if_neg (show ¬ Int32.ofNat c ≤ Int32.ofNat P from mt (j_le (by omega) (by omega)).mp (by omega)), tb0]
  by_cases q : e = 0
  · rw [if_pos (show Int32.ofNat e ≤ 0 by rw [q]; decide)]
    exact hbody
  · rw [if_neg (show ¬ Int32.ofNat e ≤ 0 from mt (j_le (n := 0) (by omega) (by decide)).mp (by omega))]
    have el : rd_la f c P = f P := by unfold rd_la; rw [if_pos hP]
    have e1 := v_now (I := I) (k := k) (b := false) (n := n) (e := e) h (show P ≤ c by omega)
    rw [el] at e1
    refine (xb_some e1).trans ?_
    refine (if_neg (hn.resolve_left q)).trans ?_
    exact hbody
theorem it_end (h : Rf I A c f) (h' : Rf I A' c f) (hP : P < c) (hP' : P' ≤ c) (he : e + 1 ≤ 8) (he' : e' ≤ 8) (h125 : f P = 125) (hs : x_readEnd (V I k P false n (e + 1)) A = some (V I k' P' b' n' e', A', 0)) : x_isPlay_63 (m + 1) (V I k P false n (e + 1)) A l = x_isPlay_63 m (V I k' P' b' n' e') A' (wfl f c P' b' e') := by
  have hc := h.2.1
  rw [x_isPlay_63, show V I k P false n (e + 1) 4 = Int32.ofNat c from h.1, show V I k P false n (e + 1) 6 = Int32.ofNat P from rfl, show V I k P false n (e + 1) 7 = ty_b false from rfl, show V I k P false n (e + 1) 9 = Int32.ofNat (e + 1) from rfl, if_neg (show ¬ Int32.ofNat c ≤ Int32.ofNat P from mt (j_le (by omega) (by omega)).mp (by omega)), tb0, if_neg (show ¬ Int32.ofNat (e + 1) ≤ 0 from mt (j_le (n := 0) (by omega) (by decide)).mp (by omega))]
  have el : rd_la f c P = f P := by unfold rd_la; rw [if_pos hP]
  have e1 := v_now (I := I) (k := k) (b := false) (n := n) (e := e + 1) h (show P ≤ c by omega)
  rw [el] at e1
  refine (xb_some e1).trans ?_
  refine (if_pos h125).trans ?_
  refine (xb_some hs).trans ?_
  exact it_108 _ h' (by omega) hP' he'
theorem it_stop (h : Rf I A c f) (hP : P ≤ c) (hs : P = c ∨ b = true) : x_isPlay_63 (m + 1) (V I k P b n e) A l = x_isPlay_155 m (V I k P b n e) A l := by
  have hc := h.2.1
  rw [x_isPlay_63, show V I k P b n e 4 = Int32.ofNat c from h.1, show V I k P b n e 6 = Int32.ofNat P from rfl, show V I k P b n e 7 = ty_b b from rfl]
  by_cases q : P = c
  · rw [if_pos (show Int32.ofNat c ≤ Int32.ofNat P from (j_le (by omega) (by omega)).mpr (by omega))]
  · have hb := hs.resolve_left q
    subst hb
    rw [if_neg (show ¬ Int32.ofNat c ≤ Int32.ofNat P from mt (j_le (by omega) (by omega)).mp (by omega)), tb1]
theorem it_fail {x r : pw} (h : Rf I A c f) (al : AlF f c x r) (hx : x.2 = true) : Fl I A x.1 (x_isPlay_63 (m + 1) (V I k r.1 r.2 n e) A (wfl f c r.1 r.2 e)) := by
  obtain ⟨a1, a2, a3, a4⟩ := al
  obtain ⟨Q, w⟩ := x
  obtain ⟨P, b⟩ := r
  have hQ : Q = P := a1
  subst hQ
  have hP : Q ≤ c := a2
  cases b with
  | true =>
    rw [it_stop h hP (Or.inr rfl), wfl_0 (fun z => Bool.noConfusion z.2.1)]
    refine ⟨k, Q, true, n, e, A, ?_, fun _ _ => rfl⟩
    unfold x_isPlay_155
    rw [if_pos rfl, show V I k Q true n e 7 = ty_b true from rfl, tb1]
    rfl
  | false =>
    have hc := (a4 hx).resolve_left (fun z => Bool.noConfusion z)
    have hQc : Q = c := hc.1
    rw [it_stop h hP (Or.inl hQc), wfl_0 (fun z => z.2.2.2.elim hc.2.2.1 hc.2.2.2)]
    refine ⟨k, Q, false, n, e, A, ?_, fun _ _ => rfl⟩
    unfold x_isPlay_155
    rw [if_pos rfl, show V I k Q false n e 7 = ty_b false from rfl, tb0, show V I k Q false n e 4 = Int32.ofNat c from h.1]
    show _ = some (upd (V I k Q false n e) 2 (Int32.ofNat Q), A, 0)
    rw [hQc]
theorem it_failE (h : Rf I A c f) (he : 0 < e) : Fl I A c (x_isPlay_63 (m + 1) (V I k c false n e) A (wfl f c c false e)) := by
  rw [it_stop h (Nat.le_refl _) (Or.inl rfl), wfl_0 (fun z => by have := z.2.2.1; omega)]
  refine ⟨k, c, false, n, e, A, ?_, fun _ _ => rfl⟩
  unfold x_isPlay_155
  rw [if_pos rfl, show V I k c false n e 7 = ty_b false from rfl, tb0, show V I k c false n e 4 = Int32.ofNat c from h.1]
end LP
def IR (A : Nat → Nat → Int32) (f : Nat → Int32) (c : Nat) : Fo → Nat → Nat → Prop
  | .append (.tag q .nil) r, lo, hi => IT A f c lo q ∧ ¬ A 3 lo = 4 ∧ ¬ A 3 lo = 5 ∧ IR A f c r (lo + 1) hi
  | .append (.tag q (.append (.tag _ t1) .nil)) r, lo, hi => IT A f c lo q ∧ A 3 lo = 5 ∧ Bg A (lo + 1) lo 1 ∧ ∃ e1, IR A f c t1 (lo + 2) e1 ∧ lo + 2 ≤ e1 ∧ e1 + 1 ≤ hi ∧ En A e1 lo 1 ∧ A 10 lo = Int32.ofNat e1 ∧ IR A f c r (e1 + 1) hi
  | .append (.tag q (.append (.tag _ t1) (.append (.tag _ t2) .nil))) r, lo, hi => IT A f c lo q ∧ A 3 lo = 4 ∧ Bg A (lo + 1) lo 1 ∧ ∃ e1 e2, IR A f c t1 (lo + 2) e1 ∧ lo + 2 ≤ e1 ∧ En A e1 lo 1 ∧ A 10 lo = Int32.ofNat e1 ∧ Bg A (e1 + 1) lo 0 ∧ IR A f c t2 (e1 + 2) e2 ∧ e1 + 2 ≤ e2 ∧ e2 + 1 ≤ hi ∧ En A e2 lo 0 ∧ A 11 lo = Int32.ofNat e2 ∧ IR A f c r (e2 + 1) hi
  | .nil, lo, hi => lo = hi
  | _, _, _ => False
