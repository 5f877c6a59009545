def Lc (f : Nat → Int32) (P : Nat) : Prop := 0 < P ∧ f (P - 1) ≠ 59 ∧ f (P - 1) ≠ 125
def AlF (f : Nat → Int32) (c : Nat) (x r : pw) : Prop := x.1 = r.1 ∧ x.1 ≤ c ∧ (r.2 = true → x.2 = true) ∧ (x.2 = true → r.2 = true ∨ (x.1 = c ∧ Lc f c))
def Al (f : Nat → Int32) (c : Nat) (x r : pw) : Prop := AlF f c x r ∧ (x.2 = false → Lc f x.1)
def mwp (f : Nat → Int32) (c : Nat) (pr : Int32 → Bool) (s : pw) : pw := if s.2 = true then s else if s.1 < c then (if pr (f s.1) = true then (s.1 + 1, false) else (s.1, true)) else s
def ksp (f : Nat → Int32) (c : Nat) (pr : Int32 → Bool) (s : rs) : rs := if pr (ka f c s 0) = true then ks_up s else ks_wrong s
section AL
variable {f : Nat → Int32} {c P : Nat} {pr : Int32 → Bool} {s : rs} {r : pw}
theorem ksp_ex (x : Int32) : ks_expect f c x s = ksp f c (fun ch => decide (ch = x)) s := by
  unfold ks_expect ksp
  by_cases q : ka f c s 0 = x
  · rw [if_pos q, if_pos (decide_eq_true q)]
  · rw [if_neg q, if_neg (show ¬ decide (ka f c s 0 = x) = true by rw [decide_eq_false q]; decide)]
theorem ksp_one (x y : Int32) : ks_one f c x y s = ksp f c (fun ch => rd_in (ch - x) y) s := rfl
theorem ksp_other (p : Int32) : pj (ks_other f c p s) = pj (ksp f c (fun ch => !decide (ch = 65 + p) && rd_in (ch - 65) 6) s) := by
  unfold ks_other ks_oth0 ksp
  by_cases q : ka f c s 0 = 65 + p
  · rw [if_pos q, if_neg (show ¬ (!decide (ka f c s 0 = 65 + p) && rd_in (ka f c s 0 - 65) 6) = true by rw [decide_eq_true q]; exact fun z => Bool.noConfusion z)]
    unfold ks_one
    have e0 : ka f c (ks_wrong s) 0 = 0 := ka_w
    rw [e0, if_neg (by decide)]
    rfl
  · rw [if_neg q]
    unfold ks_one
    by_cases q2 : rd_in (ka f c s 0 - 65) 6 = true
    · rw [if_pos q2, if_pos (show (!decide (ka f c s 0 = 65 + p) && rd_in (ka f c s 0 - 65) 6) = true by rw [decide_eq_false q, q2]; rfl)]
    · rw [if_neg q2, if_neg (show ¬ (!decide (ka f c s 0 = 65 + p) && rd_in (ka f c s 0 - 65) 6) = true from fun z => q2 (Bool.and_eq_true_iff.mp z).2)]
theorem mwp_want (x : Int32) : mw_want f c x r = mwp f c (fun ch => decide (ch = x)) r := by
  unfold mw_want mwp
  by_cases q : f r.1 = x
  · rw [if_pos q, if_pos (decide_eq_true q)]
  · rw [if_neg q, if_neg (show ¬ decide (f r.1 = x) = true by rw [decide_eq_false q]; decide)]
theorem ka_s : ka f c s 0 = if s.2.1 = true then 0 else rd_la f c s.1 := by
  obtain ⟨P, w, e, l⟩ := s
  cases w with
  | true => rw [ka_w]; rfl
  | false => rw [ka_la]; rfl
theorem al_opF (h : Al f c (pj s) r) (h0 : pr 0 = false) : AlF f c (pj (ksp f c pr s)) (mwp f c pr r) := by
  obtain ⟨⟨a1, a2, a3, a4⟩, a5⟩ := h
  obtain ⟨P, w, ex, el⟩ := s
  obtain ⟨Q, b⟩ := r
  have e : P = Q := a1
  subst e
  unfold ksp mwp
  rw [ka_s]
  cases w with
  | true =>
    rw [if_pos rfl, if_neg (show ¬ pr 0 = true by rw [h0]; decide)]
    cases b with
    | true =>
      rw [if_pos rfl]
      exact ⟨rfl, a2, fun _ => rfl, fun _ => Or.inl rfl⟩
    | false =>
      have hc := (a4 rfl).resolve_left (fun z => Bool.noConfusion z)
      have hP : P = c := hc.1
      rw [if_neg (show ¬ ((P, false) : pw).2 = true from fun z => Bool.noConfusion z), if_neg (show ¬ ((P, false) : pw).1 < c by show ¬ P < c; omega)]
      exact ⟨rfl, a2, fun _ => rfl, fun _ => Or.inr hc⟩
  | false =>
    have hb : b = false := by
      cases b with
      | false => rfl
      | true => exact absurd (a3 rfl) (fun z => Bool.noConfusion z)
    subst hb
    rw [if_neg (show ¬ ((P, false, ex, el) : rs).2.1 = true from fun z => Bool.noConfusion z), if_neg (show ¬ ((P, false) : pw).2 = true from fun z => Bool.noConfusion z)]
    have hP2 : P ≤ c := a2
    show AlF f c (pj (if pr (rd_la f c P) = true then _ else _)) (if P < c then (if pr (f P) = true then _ else _) else _)
    by_cases q : P < c
    · have el2 : rd_la f c P = f P := by unfold rd_la; rw [if_pos q]
      rw [if_pos q, el2]
      by_cases q2 : pr (f P) = true
      · rw [if_pos q2, if_pos q2]
        exact ⟨rfl, q, fun z => Bool.noConfusion z, fun z => Bool.noConfusion z⟩
      · rw [if_neg q2, if_neg q2]
        exact ⟨rfl, a2, fun _ => rfl, fun _ => Or.inl rfl⟩
    · have el2 : rd_la f c P = 0 := by unfold rd_la; rw [if_neg q]
      have hP : P = c := by omega
      rw [if_neg q, el2, if_neg (show ¬ pr 0 = true by rw [h0]; decide)]
      refine ⟨rfl, a2, fun _ => rfl, fun _ => Or.inr ⟨hP, ?_⟩⟩
      have := a5 rfl
      rw [show (pj (P, false, ex, el)).1 = c from hP] at this
      exact this
theorem ksp_f (h : (ksp f c pr s).2.1 = false) (h0 : pr 0 = false) : s.2.1 = false ∧ s.1 < c ∧ pr (f s.1) = true ∧ (ksp f c pr s).1 = s.1 + 1 := by
  unfold ksp at h ⊢
  split at h
  · rename_i q
    rw [if_pos q]
    rw [ka_s] at q
    by_cases w : s.2.1 = true
    · rw [if_pos w, h0] at q
      cases q
    · rw [if_neg w] at q
      unfold rd_la at q
      by_cases p : s.1 < c
      · rw [if_pos p] at q
        exact ⟨by simpa using w, p, q, rfl⟩
      · rw [if_neg p, h0] at q
        cases q
  · cases h
theorem al_op (h : Al f c (pj s) r) (h0 : pr 0 = false) (h1 : pr 59 = false) (h2 : pr 125 = false) : Al f c (pj (ksp f c pr s)) (mwp f c pr r) := by
  refine ⟨al_opF h h0, fun z => ?_⟩
  obtain ⟨-, -, k3, k4⟩ := ksp_f z h0
  show Lc f (ksp f c pr s).1
  rw [k4]
  refine ⟨Nat.succ_pos _, ?_, ?_⟩
  · intro y
    rw [show s.1 + 1 - 1 = s.1 from rfl] at y
    rw [y, h1] at k3
    cases k3
  · intro y
    rw [show s.1 + 1 - 1 = s.1 from rfl] at y
    rw [y, h2] at k3
    cases k3
theorem lc_of {ch : Int32} (h : rd_var ch = true ∨ rd_fig ch = true ∨ rd_op ch = true) : ch ≠ 59 ∧ ch ≠ 125 := by
  constructor
  · intro z
    subst z
    rcases h with h | h | h
    · exact absurd h (by decide)
    · exact absurd h (by decide)
    · exact absurd h (by decide)
  · intro z
    subst z
    rcases h with h | h | h
    · exact absurd h (by decide)
    · exact absurd h (by decide)
    · exact absurd h (by decide)
theorem la_f {ch : Int32} (h : rd_la f c P = ch) (hn : ch ≠ 0) : f P = ch := by
  unfold rd_la at h
  by_cases q : P < c
  · rw [if_pos q] at h; exact h
  · rw [if_neg q] at h; exact absurd h.symm hn
theorem fig_lc : ∀ (j i P : Nat), (mw_fig f c j i P).1 ≠ P → Lc f (mw_fig f c j i P).1
  | 0, i, P, h => absurd rfl h
  | j + 1, i, P, h => by
    rw [mw_fig] at h ⊢
    by_cases q : rd_fig (rd_la f c P) = true
    · rw [if_pos q] at h ⊢
      by_cases q2 : (mw_fig f c j (i + 1) (P + 1)).1 = P + 1
      · rw [q2]
        have hne : rd_la f c P ≠ 0 := fun z => by rw [z] at q; exact absurd q (by decide)
        have : f P = rd_la f c P := la_f rfl hne
        have l := lc_of (ch := f P) (Or.inr (Or.inl (by rw [this]; exact q)))
        exact ⟨Nat.succ_pos _, l.1, l.2⟩
      · exact fig_lc j (i + 1) (P + 1) q2
    · rw [if_neg q] at h
      exact absurd rfl h
theorem term_lc (h : (mw_term f c (P, false)).2 = false) (hP : P < c) : Lc f (mw_term f c (P, false)).1 := by
  by_cases q : rd_var (rd_la f c P) = true
  · have ee : mw_term f c (P, false) = (P + 1, false) := by simp [mw_term, hP, q]
    rw [ee]
    have hne : rd_la f c P ≠ 0 := fun z => by rw [z] at q; exact absurd q (by decide)
    have : f P = rd_la f c P := la_f rfl hne
    have l := lc_of (ch := f P) (Or.inl (by rw [this]; exact q))
    exact ⟨Nat.succ_pos _, l.1, l.2⟩
  · have ee : mw_term f c (P, false) = ((mw_fig f c 3 0 P).1, decide ((mw_fig f c 3 0 P).2 = 0)) := by simp [mw_term, hP, q]
    rw [ee] at h ⊢
    refine fig_lc 3 0 P ?_
    intro z
    have h' : ¬ (mw_fig f c 3 0 P).2 = 0 := of_decide_eq_false h
    apply h'
    by_cases q2 : rd_fig (rd_la f c P) = true
    · exfalso
      have hge : ∀ (j i P : Nat), P ≤ (mw_fig f c j i P).1 := by
        intro j
        induction j with
        | zero => intro i P; exact Nat.le_refl _
        | succ j ih =>
          intro i P
          rw [mw_fig]
          split
          · have := ih (i + 1) (P + 1)
            omega
          · exact Nat.le_refl _
      rw [mw_fig, if_pos q2] at z
      have := hge 2 (0 + 1) (P + 1)
      omega
    · rw [mw_fig, if_neg q2]
theorem al_expr (h : Al f c (pj s) r) : Al f c (pj (ks_expr f c s)) (mw_expr f c r) := by
  obtain ⟨⟨a1, a2, a3, a4⟩, a5⟩ := h
  obtain ⟨P, w, ex, el⟩ := s
  obtain ⟨Q, b⟩ := r
  have e : P = Q := a1
  subst e
  have hP : P ≤ c := a2
  cases w with
  | true =>
    have ek : ks_expr f c (P, true, ex, el) = (P, true, 0, 0) := by
      have et : ks_term f c (P, true, 0, 0) = (P, true, 0, 0) := by
        unfold ks_term
        rw [ka_w, if_neg (by decide), if_neg (by decide)]
        exact ks_loop_w 3 P 0 0
      unfold ks_expr
      show (if rd_op (ka f c (ks_term f c (P, true, 0, 0)) 0) = true then _ else ks_term f c (P, true, 0, 0)) = _
      rw [et, ka_w, if_neg (by decide)]
    rw [ek]
    cases b with
    | true => exact ⟨⟨rfl, hP, fun _ => rfl, fun _ => Or.inl rfl⟩, fun z => Bool.noConfusion z⟩
    | false =>
      have hc := (a4 rfl).resolve_left (fun z => Bool.noConfusion z)
      have hPc : P = c := hc.1
      have em : mw_expr f c (P, false) = (P, false) := by
        rw [hPc]
        unfold mw_expr
        rw [mw_term_end]
        have e0 : rd_la f c c = 0 := by unfold rd_la; rw [if_neg (Nat.lt_irrefl _)]
        show (if false = true then _ else if rd_op (rd_la f c c) = true then _ else _) = _
        rw [iff', e0, if_neg (by decide)]
      rw [em]
      exact ⟨⟨rfl, hP, fun z => Bool.noConfusion z, fun _ => Or.inr hc⟩, fun z => Bool.noConfusion z⟩
  | false =>
    have hb : b = false := by
      cases b with
      | false => rfl
      | true => exact absurd (a3 rfl) (fun z => Bool.noConfusion z)
    subst hb
    obtain ⟨g1, g2, g3⟩ := expr_alike (f := f) (c := c) ex el hP
    have hle : (mw_expr f c (P, false)).1 ≤ c := mw_expr_le hP
    have lcP : Lc f P := a5 rfl
    have key : (mw_expr f c (P, false)).2 = false → Lc f (mw_expr f c (P, false)).1 := by
      intro z
      by_cases q : P < c
      · have ee : mw_expr f c (P, false) = if (mw_term f c (P, false)).2 = true then mw_term f c (P, false) else if rd_op (rd_la f c (mw_term f c (P, false)).1) = true then mw_term f c ((mw_term f c (P, false)).1 + 1, false) else mw_term f c (P, false) := rfl
        rw [ee] at z ⊢
        by_cases t1 : (mw_term f c (P, false)).2 = true
        · rw [if_pos t1] at z
          rw [z] at t1
          cases t1
        · rw [if_neg t1] at z ⊢
          have t1' : (mw_term f c (P, false)).2 = false := by simpa using t1
          by_cases t2 : rd_op (rd_la f c (mw_term f c (P, false)).1) = true
          · rw [if_pos t2] at z ⊢
            have hne : rd_la f c (mw_term f c (P, false)).1 ≠ 0 := fun y => by rw [y] at t2; exact absurd t2 (by decide)
            have hlt := rd_la_lt hne
            have hf : f (mw_term f c (P, false)).1 = rd_la f c (mw_term f c (P, false)).1 := la_f rfl hne
            by_cases q3 : (mw_term f c (P, false)).1 + 1 < c
            · exact term_lc z q3
            · have : (mw_term f c (P, false)).1 + 1 = c := by omega
              rw [this, mw_term_end, ← this]
              have l := lc_of (ch := f (mw_term f c (P, false)).1) (Or.inr (Or.inr (by rw [hf]; exact t2)))
              exact ⟨Nat.succ_pos _, l.1, l.2⟩
          · rw [if_neg t2] at z ⊢
            exact term_lc t1' q
      · have hPc : P = c := by omega
        have em : mw_expr f c (P, false) = (P, false) := by
          rw [hPc]
          unfold mw_expr
          rw [mw_term_end]
          have e0 : rd_la f c c = 0 := by unfold rd_la; rw [if_neg (Nat.lt_irrefl _)]
          show (if false = true then _ else if rd_op (rd_la f c c) = true then _ else _) = _
          rw [iff', e0, if_neg (by decide)]
        rw [em]
        exact lcP
    refine ⟨⟨g1, by show (ks_expr f c (P, false, ex, el)).1 ≤ c; rw [g1]; exact hle, g2, fun z => ?_⟩, fun z => ?_⟩
    · cases hb : (mw_expr f c (P, false)).2 with
      | true => exact Or.inl rfl
      | false =>
        rcases g3 z with y | y
        · rw [hb] at y; cases y
        · refine Or.inr ⟨g1.trans y, ?_⟩
          have := key hb
          rw [y] at this
          exact this
    · have hb : (mw_expr f c (P, false)).2 = false := by
        cases hb : (mw_expr f c (P, false)).2 with
        | false => rfl
        | true => exact absurd (g2 hb) (by rw [show (ks_expr f c (P, false, ex, el)).2.1 = false from z]; exact fun y => Bool.noConfusion y)
      show Lc f (ks_expr f c (P, false, ex, el)).1
      rw [g1]
      exact key hb
end AL
