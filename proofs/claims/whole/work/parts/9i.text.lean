def ldl (d : Nat) : List Nat := (if d.testBit 0 then [65] else []) ++ ((if d.testBit 1 then [66] else []) ++ ((if d.testBit 2 then [67] else []) ++ ((if d.testBit 3 then [68] else []) ++ ((if d.testBit 4 then [69] else []) ++ (if d.testBit 5 then [70] else [])))))
def hdt (n : Nat) : List Nat :=
  if cK n = 1 then (119 + cV n) :: 58 :: (xt (cE n) ++ [59])
  else if cK n = 2 then xt (cE n) ++ [62, 65 + cO n, 59]
  else if cK n = 3 then [65 + cO n, 62, 119 + cV n, 59]
  else if cK n = 4 then [33, 48 + cL n, 62, 65 + cO n, 59]
  else if cK n = 5 then [65 + cO n]
  else if cK n = 6 then 63 :: xt (cE n)
  else if cK n = 7 then 64 :: (xt (cE n) ++ ldl (cD n))
  else [65 + cO n, 64]
def tx : Nat → Fo → List Nat
  | 0, .append (.tag n k) r => hdt n ++ (tx (if cK n = 5 then 1 else 2) k ++ tx 0 r)
  | 1, .append (.tag l x) r => (48 + l) :: 123 :: (tx 0 x ++ 125 :: tx 1 r)
  | _, .append (.tag _ x) r => 123 :: (tx 0 x ++ 125 :: tx 2 r)
  | _, _ => []
def Hv (n : Nat) : Prop :=
  (cK n = 1 ∧ n = cd 1 (cV n) 0 0 0 (cE n) ∧ Xok (cE n)) ∨ (cK n = 2 ∧ n = cd 2 0 0 (cO n) 0 (cE n) ∧ cO n < 6 ∧ Xok (cE n)) ∨
  (cK n = 3 ∧ n = cd 3 (cV n) 0 (cO n) 0 0 ∧ cO n < 6) ∨ (cK n = 4 ∧ n = cd 4 0 (cL n) (cO n) 0 0 ∧ cO n < 6 ∧ cL n < 10) ∨
  (cK n = 5 ∧ n = cd 5 0 0 (cO n) 0 0 ∧ cO n < 6) ∨ (cK n = 6 ∧ n = cd 6 0 0 0 0 (cE n) ∧ Xok (cE n)) ∨
  (cK n = 7 ∧ n = cd 7 0 0 0 (cD n) (cE n) ∧ Xok (cE n)) ∨ (cK n = 8 ∧ n = cd 8 0 0 (cO n) 0 0 ∧ cO n < 6)
def Hk (n : Nat) (k : Fo) : Prop := (cK n ≤ 4 → k = .nil) ∧ (cK n = 5 → ∃ l x r, k = cn l x r) ∧ (cK n = 6 → ∃ x y, k = cn 0 x (cn 1 y .nil)) ∧ (cK n = 7 ∨ cK n = 8 → ∃ x, k = cn 0 x .nil)
def WK : Bool → Fo → Prop
  | true, .append (.tag n k) r => Hv n ∧ Hk n k ∧ WK false k ∧ WK true r
  | false, .append (.tag l x) r => l < 10 ∧ WK true x ∧ WK false r
  | _, _ => True
def hdx (n : Nat) : List Nat := if cK n ≤ 5 then hdt n else hdt n ++ [123]
def Tm : List Nat → Prop
  | [] => False
  | [c] => c = 59 ∨ c = 123
  | c :: l => c ≠ 59 ∧ c ≠ 123 ∧ Tm l
def gdp (p : Nat) : Bool := !(ptc p || decide (p = 125))
def Qr : Nat → List Nat → Prop
  | _, [] => True
  | p, c :: l => (gdp p = true ∨ fgc c = false) ∧ Qr c l
def isC (p : Nat) (l : List Nat) : Bool := (ptc p || decide (p = 125)) && (fgc (l.headD 0) && decide (l.tail.headD 0 = 123))
theorem xch_f {c : Nat} (h : xch c = true) : c ≠ 59 ∧ c ≠ 123 ∧ c ≠ 125 ∧ ptc c = false ∧ gdp c = true ∧ c ≠ 58 ∧ c ≠ 62 ∧ c ≠ 33 ∧ c ≠ 63 ∧ c ≠ 64 ∧ c ≠ 0 := by
  unfold xch fgc vrc opc at h
  unfold gdp ptc
  simp only [Bool.or_eq_true, decide_eq_true_eq] at h
  refine ⟨by omega, by omega, by omega, by simp; omega, by simp; omega, by omega, by omega, by omega, by omega, by omega, by omega⟩
theorem Qr_app {u v : List Nat} : ∀ {p : Nat}, Qr p u → (∀ q, (q = p ∧ u = []) ∨ q ∈ u → Qr q v) → Qr p (u ++ v) := by
  induction u with
  | nil => exact fun {p} _ h => h p (Or.inl ⟨rfl, rfl⟩)
  | cons c u ih =>
    intro p h1 h2
    refine ⟨h1.1, ih h1.2 (fun q hq => h2 q (Or.inr ?_))⟩
    rcases hq with ⟨rfl, _⟩ | hq
    · exact List.mem_cons_self
    · exact List.mem_cons_of_mem _ hq
theorem Qr_x {u : List Nat} : ∀ {p : Nat}, (∀ c, c ∈ u → xch c = true) → gdp p = true → Qr p u := by
  induction u with
  | nil => exact fun {p} _ _ => trivial
  | cons c u ih => exact fun {p} h1 h2 => ⟨Or.inl h2, ih (fun d hd => h1 d (List.mem_cons_of_mem _ hd)) (xch_f (h1 c List.mem_cons_self)).2.2.2.2.1⟩
theorem Tm_app {u v : List Nat} (h : ∀ c, c ∈ u → c ≠ 59 ∧ c ≠ 123) (hv : Tm v) : Tm (u ++ v) := by
  induction u with
  | nil => exact hv
  | cons c u ih =>
    have a := ih (fun d hd => h d (List.mem_cons_of_mem _ hd))
    have b := h c List.mem_cons_self
    show Tm (c :: (u ++ v))
    cases e : u ++ v with
    | nil =>
      rw [e] at a
      exact a.elim
    | cons d w =>
      rw [e] at a
      exact ⟨b.1, b.2, a⟩
theorem ldl_m {d c : Nat} (h : c ∈ ldl d) : 65 ≤ c ∧ c ≤ 70 := by
  unfold ldl at h
  simp only [List.mem_append] at h
  rcases h with h | h | h | h | h | h <;> (split at h <;> simp at h) <;> omega
def Hq (s : List Nat) : Prop := ∃ c l, s = c :: l ∧ (fgc c = false ∨ ∃ d v, l = d :: v ∧ d ≠ 123) ∧ Qr c l ∧ Tm s
theorem Qr_nf {u : List Nat} : ∀ {p : Nat}, (∀ c, c ∈ u → fgc c = false) → Qr p u := by
  induction u with
  | nil => exact fun {p} _ => trivial
  | cons c u ih => exact fun {p} h1 => ⟨Or.inr (h1 c List.mem_cons_self), ih (fun d hd => h1 d (List.mem_cons_of_mem _ hd))⟩
theorem fg_no {c : Nat} (h : c < 48 ∨ 57 < c) : fgc c = false := by unfold fgc; rw [decide_eq_false]; omega
theorem gd_no {c : Nat} (h : c < 65 ∨ 70 < c ∧ c ≠ 125) : gdp c = true := by unfold gdp ptc; simp; omega
theorem hdx_q {n : Nat} (h : Hv n) (h5 : cK n ≠ 5) : Hq (hdx n) := by
  unfold hdx hdt
  rcases h with ⟨k, _, hx⟩ | ⟨k, _, ho, hx⟩ | ⟨k, _, ho⟩ | ⟨k, _, ho, hl⟩ | ⟨k, _⟩ | ⟨k, _, hx⟩ | ⟨k, _, hx⟩ | ⟨k, _, ho⟩
  · rw [if_pos (by omega), if_pos k]
    have hv := cV_lt n
    refine ⟨_, _, rfl, Or.inl (fg_no (by omega)), ⟨Or.inr (fg_no (by omega)), Qr_app (Qr_x hx.2.2 (gd_no (by omega))) (fun q _ => ⟨Or.inr (fg_no (by omega)), trivial⟩)⟩, ?_⟩
    exact Tm_app (u := [119 + cV n, 58] ++ xt (cE n)) (fun c hc => by
      rw [List.mem_append] at hc
      rcases hc with hc | hc
      · simp at hc
        omega
      · have := xch_f (hx.2.2 c hc)
        exact ⟨this.1, this.2.1⟩) (v := [59]) (Or.inl rfl)
  · rw [if_pos (by omega), if_neg (by omega), if_pos k]
    obtain ⟨x1, x2, x3⟩ := hx
    cases hxt : xt (cE n) with
    | nil => exact (x1 hxt).elim
    | cons c l =>
      rw [hxt] at x3
      have hc := x3 c List.mem_cons_self
      have hl : ∀ d, d ∈ l → xch d = true := fun d hd => x3 d (List.mem_cons_of_mem _ hd)
      refine ⟨c, l ++ [62, 65 + cO n, 59], rfl, Or.inr ?_, Qr_app (Qr_x hl (xch_f hc).2.2.2.2.1) (fun q _ => ⟨Or.inr (fg_no (by omega)), Or.inr (fg_no (by omega)), Or.inr (fg_no (by omega)), trivial⟩), ?_⟩
      · cases l with
        | nil => exact ⟨62, [65 + cO n, 59], rfl, by decide⟩
        | cons d v => exact ⟨d, v ++ [62, 65 + cO n, 59], rfl, (xch_f (hl d List.mem_cons_self)).2.1⟩
      · exact Tm_app (u := c :: l) (fun d hd => by
          have := xch_f (x3 d hd)
          exact ⟨this.1, this.2.1⟩) (v := [62, 65 + cO n, 59]) ⟨by omega, by omega, by omega, by omega, Or.inl rfl⟩
  · rw [if_pos (by omega), if_neg (by omega), if_neg (by omega), if_pos k]
    have hv := cV_lt n
    exact ⟨_, _, rfl, Or.inl (fg_no (by omega)), ⟨Or.inr (fg_no (by omega)), Or.inr (fg_no (by omega)), Or.inr (fg_no (by omega)), trivial⟩, ⟨by omega, by omega, by omega, by omega, by omega, by omega, Or.inl rfl⟩⟩
  · rw [if_pos (by omega), if_neg (by omega), if_neg (by omega), if_neg (by omega), if_pos k]
    exact ⟨_, _, rfl, Or.inl (fg_no (by omega)), ⟨Or.inl (gd_no (by omega)), Or.inr (fg_no (by omega)), Or.inr (fg_no (by omega)), Or.inr (fg_no (by omega)), trivial⟩, ⟨by omega, by omega, by omega, by omega, by omega, by omega, by omega, by omega, Or.inl rfl⟩⟩
  · exact (h5 k).elim
  · rw [if_neg (by omega), if_neg (by omega), if_neg (by omega), if_neg (by omega), if_neg (by omega), if_neg (by omega), if_pos k]
    refine ⟨63, xt (cE n) ++ [123], rfl, Or.inl (fg_no (by omega)), Qr_app (Qr_x hx.2.2 (gd_no (by omega))) (fun q _ => ⟨Or.inr (fg_no (by omega)), trivial⟩), ?_⟩
    exact Tm_app (u := 63 :: xt (cE n)) (fun c hc => by
      rw [List.mem_cons] at hc
      rcases hc with hc | hc
      · omega
      · have := xch_f (hx.2.2 c hc)
        exact ⟨this.1, this.2.1⟩) (v := [123]) (Or.inr rfl)
  · rw [if_neg (by omega), if_neg (by omega), if_neg (by omega), if_neg (by omega), if_neg (by omega), if_neg (by omega), if_neg (by omega), if_pos k]
    refine ⟨64, (xt (cE n) ++ ldl (cD n)) ++ [123], rfl, Or.inl (fg_no (by omega)), Qr_app (Qr_app (Qr_x hx.2.2 (gd_no (by omega))) (fun q _ => Qr_nf (fun c hc => fg_no (by have := ldl_m hc; omega)))) (fun q _ => ⟨Or.inr (fg_no (by omega)), trivial⟩), ?_⟩
    exact Tm_app (u := 64 :: (xt (cE n) ++ ldl (cD n))) (fun c hc => by
      rw [List.mem_cons, List.mem_append] at hc
      rcases hc with hc | hc | hc
      · omega
      · have := xch_f (hx.2.2 c hc)
        exact ⟨this.1, this.2.1⟩
      · have := ldl_m hc
        omega) (v := [123]) (Or.inr rfl)
  · rw [if_neg (by omega), if_neg (by omega), if_neg (by omega), if_neg (by omega), if_neg (by omega), if_neg (by omega), if_neg (by omega), if_neg (by omega)]
    exact ⟨_, _, rfl, Or.inl (fg_no (by omega)), ⟨Or.inr (fg_no (by omega)), Or.inr (fg_no (by omega)), trivial⟩, ⟨by omega, by omega, by omega, by omega, Or.inr rfl⟩⟩
theorem ldl_inj : ∀ d, d < 64 → ∀ e, e < 64 → ldl d = ldl e → d = e := by decide +kernel
theorem spl_x {u1 : List Nat} : ∀ {u2 v1 v2 : List Nat}, (∀ c, c ∈ u1 → xch c = true) → (∀ c, c ∈ u2 → xch c = true) → (∀ c, c ∈ v1 → xch c = false) → (∀ c, c ∈ v2 → xch c = false) → u1 ++ v1 = u2 ++ v2 → u1 = u2 ∧ v1 = v2 := by
  induction u1 with
  | nil =>
    intro u2 v1 v2 _ h2 h3 _ e
    cases u2 with
    | nil => exact ⟨rfl, e⟩
    | cons d u2 =>
      have e' : v1 = d :: (u2 ++ v2) := e
      have a := h3 d (by rw [e']; exact List.mem_cons_self)
      rw [h2 d List.mem_cons_self] at a
      cases a
  | cons c u1 ih =>
    intro u2 v1 v2 h1 h2 h3 h4 e
    cases u2 with
    | nil =>
      have e' : c :: (u1 ++ v1) = v2 := e
      have a := h4 c (by rw [← e']; exact List.mem_cons_self)
      rw [h1 c List.mem_cons_self] at a
      cases a
    | cons d u2 =>
      have e' : c :: (u1 ++ v1) = d :: (u2 ++ v2) := e
      obtain ⟨e1, e2⟩ := List.cons.inj e'
      obtain ⟨g1, g2⟩ := ih (fun x hx => h1 x (List.mem_cons_of_mem _ hx)) (fun x hx => h2 x (List.mem_cons_of_mem _ hx)) h3 h4 e2
      exact ⟨by rw [e1, g1], g2⟩
section HX
variable {n m : Nat}
theorem hdx_1 (k : cK n = 1) : hdx n = (119 + cV n) :: 58 :: (xt (cE n) ++ [59]) := by unfold hdx hdt; rw [if_pos (by omega), if_pos k]
theorem hdx_2 (k : cK n = 2) : hdx n = xt (cE n) ++ [62, 65 + cO n, 59] := by unfold hdx hdt; rw [if_pos (by omega), if_neg (by omega), if_pos k]
theorem hdx_3 (k : cK n = 3) : hdx n = [65 + cO n, 62, 119 + cV n, 59] := by unfold hdx hdt; rw [if_pos (by omega), if_neg (by omega), if_neg (by omega), if_pos k]
theorem hdx_4 (k : cK n = 4) : hdx n = [33, 48 + cL n, 62, 65 + cO n, 59] := by unfold hdx hdt; rw [if_pos (by omega), if_neg (by omega), if_neg (by omega), if_neg (by omega), if_pos k]
theorem hdx_6 (k : cK n = 6) : hdx n = 63 :: (xt (cE n) ++ [123]) := by unfold hdx hdt; rw [if_neg (by omega), if_neg (by omega), if_neg (by omega), if_neg (by omega), if_neg (by omega), if_neg (by omega), if_pos k]; rfl
theorem hdx_7 (k : cK n = 7) : hdx n = 64 :: (xt (cE n) ++ ldl (cD n) ++ [123]) := by unfold hdx hdt; rw [if_neg (by omega), if_neg (by omega), if_neg (by omega), if_neg (by omega), if_neg (by omega), if_neg (by omega), if_neg (by omega), if_pos k]; rfl
theorem hdx_8 (k : cK n = 8) : hdx n = [65 + cO n, 64, 123] := by unfold hdx hdt; rw [if_neg (by omega), if_neg (by omega), if_neg (by omega), if_neg (by omega), if_neg (by omega), if_neg (by omega), if_neg (by omega), if_neg (by omega)]; rfl
theorem xt_inj {a b : Nat} (ha : Xok a) (hb : Xok b) (h : xt a = xt b) : a = b := by rw [← ha.2.1.1, ← hb.2.1.1, h]
def Sg (k : Nat) (s : List Nat) : Prop := (k = 1 ∧ 119 ≤ s.headD 0 ∧ s.headD 0 ≤ 122 ∧ s.tail.headD 0 = 58) ∨ (k = 2 ∧ xch (s.headD 0) = true ∧ s.tail.headD 0 ≠ 58) ∨ (k = 3 ∧ 65 ≤ s.headD 0 ∧ s.headD 0 ≤ 70 ∧ s.tail.headD 0 = 62) ∨ (k = 4 ∧ s.headD 0 = 33) ∨ (k = 6 ∧ s.headD 0 = 63) ∨ (k = 7 ∧ s.headD 0 = 64) ∨ (k = 8 ∧ 65 ≤ s.headD 0 ∧ s.headD 0 ≤ 70 ∧ s.tail.headD 0 = 64)
theorem hdx_sg (h : Hv n) (h5 : cK n ≠ 5) : Sg (cK n) (hdx n) := by
  unfold Sg
  rcases h with ⟨k, _, hx⟩ | ⟨k, _, ho, hx⟩ | ⟨k, _, ho⟩ | ⟨k, _, ho, hl⟩ | ⟨k, _⟩ | ⟨k, _, hx⟩ | ⟨k, _, hx⟩ | ⟨k, _, ho⟩
  · rw [hdx_1 k]
    have hv := cV_lt n
    exact Or.inl ⟨k, by simp, by simp; omega, rfl⟩
  · rw [hdx_2 k]
    obtain ⟨x1, x2, x3⟩ := hx
    cases hxt : xt (cE n) with
    | nil => exact (x1 hxt).elim
    | cons c l =>
      rw [hxt] at x3
      refine Or.inr (Or.inl ⟨k, x3 c List.mem_cons_self, ?_⟩)
      cases l with
      | nil => exact (by decide : (62 : Nat) ≠ 58)
      | cons d v => exact (xch_f (x3 d (List.mem_cons_of_mem _ List.mem_cons_self))).2.2.2.2.2.1
  · rw [hdx_3 k]
    exact Or.inr (Or.inr (Or.inl ⟨k, by simp, by simp; omega, rfl⟩))
  · rw [hdx_4 k]
    exact Or.inr (Or.inr (Or.inr (Or.inl ⟨k, rfl⟩)))
  · exact (h5 k).elim
  · rw [hdx_6 k]
    exact Or.inr (Or.inr (Or.inr (Or.inr (Or.inl ⟨k, rfl⟩))))
  · rw [hdx_7 k]
    exact Or.inr (Or.inr (Or.inr (Or.inr (Or.inr (Or.inl ⟨k, rfl⟩)))))
  · rw [hdx_8 k]
    exact Or.inr (Or.inr (Or.inr (Or.inr (Or.inr (Or.inr ⟨k, by simp, by simp; omega, rfl⟩)))))
theorem Sg_k {a b : Nat} {s : List Nat} (h1 : Sg a s) (h2 : Sg b s) : a = b := by
  unfold Sg at h1 h2
  have hx : xch (s.headD 0) = true → s.headD 0 ≠ 33 ∧ s.headD 0 ≠ 63 ∧ s.headD 0 ≠ 64 ∧ ¬ (65 ≤ s.headD 0 ∧ s.headD 0 ≤ 70) := fun h => by
    have := xch_f h
    refine ⟨by omega, by omega, by omega, fun z => ?_⟩
    have := this.2.2.2.1
    unfold ptc at this
    rw [decide_eq_true z] at this
    cases this
  rcases h1 with h1 | h1 | h1 | h1 | h1 | h1 | h1 <;> rcases h2 with h2 | h2 | h2 | h2 | h2 | h2 | h2 <;> first | omega | (have := hx h1.2.1; omega) | (have := hx h2.2.1; omega)
theorem hdx_inj (h1 : Hv n) (h2 : Hv m) (h5 : cK n ≠ 5) (g5 : cK m ≠ 5) (e : hdx n = hdx m) : n = m := by
  have hk : cK n = cK m := Sg_k (hdx_sg h1 h5) (by rw [e]; exact hdx_sg h2 g5)
  rcases h1 with ⟨k, c, hx⟩ | ⟨k, c, ho, hx⟩ | ⟨k, c, ho⟩ | ⟨k, c, ho, hl⟩ | ⟨k, _⟩ | ⟨k, c, hx⟩ | ⟨k, c, hx⟩ | ⟨k, c, ho⟩
  · rcases h2 with ⟨k2, c2, hx2⟩ | ⟨k2, _⟩ | ⟨k2, _⟩ | ⟨k2, _⟩ | ⟨k2, _⟩ | ⟨k2, _⟩ | ⟨k2, _⟩ | ⟨k2, _⟩ <;> first | omega | skip
    rw [hdx_1 k, hdx_1 k2] at e
    obtain ⟨e1, e2⟩ := List.cons.inj e
    obtain ⟨_, e3⟩ := List.cons.inj e2
    rw [c, c2, show cV n = cV m by omega, xt_inj hx hx2 (List.append_cancel_right e3)]
  · rcases h2 with ⟨k2, _⟩ | ⟨k2, c2, ho2, hx2⟩ | ⟨k2, _⟩ | ⟨k2, _⟩ | ⟨k2, _⟩ | ⟨k2, _⟩ | ⟨k2, _⟩ | ⟨k2, _⟩ <;> first | omega | skip
    rw [hdx_2 k, hdx_2 k2] at e
    obtain ⟨e1, e2⟩ := List.append_inj' e rfl
    simp at e2
    rw [c, c2, e2, xt_inj hx hx2 e1]
  · rcases h2 with ⟨k2, _⟩ | ⟨k2, _⟩ | ⟨k2, c2, ho2⟩ | ⟨k2, _⟩ | ⟨k2, _⟩ | ⟨k2, _⟩ | ⟨k2, _⟩ | ⟨k2, _⟩ <;> first | omega | skip
    rw [hdx_3 k, hdx_3 k2] at e
    simp at e
    rw [c, c2, e.1, e.2]
  · rcases h2 with ⟨k2, _⟩ | ⟨k2, _⟩ | ⟨k2, _⟩ | ⟨k2, c2, ho2, hl2⟩ | ⟨k2, _⟩ | ⟨k2, _⟩ | ⟨k2, _⟩ | ⟨k2, _⟩ <;> first | omega | skip
    rw [hdx_4 k, hdx_4 k2] at e
    simp at e
    rw [c, c2, e.1, e.2]
  · exact (h5 k).elim
  · rcases h2 with ⟨k2, _⟩ | ⟨k2, _⟩ | ⟨k2, _⟩ | ⟨k2, _⟩ | ⟨k2, _⟩ | ⟨k2, c2, hx2⟩ | ⟨k2, _⟩ | ⟨k2, _⟩ <;> first | omega | skip
    rw [hdx_6 k, hdx_6 k2] at e
    obtain ⟨_, e3⟩ := List.cons.inj e
    rw [c, c2, xt_inj hx hx2 (List.append_cancel_right e3)]
  · rcases h2 with ⟨k2, _⟩ | ⟨k2, _⟩ | ⟨k2, _⟩ | ⟨k2, _⟩ | ⟨k2, _⟩ | ⟨k2, _⟩ | ⟨k2, c2, hx2⟩ | ⟨k2, _⟩ <;> first | omega | skip
    rw [hdx_7 k, hdx_7 k2] at e
    obtain ⟨_, e3⟩ := List.cons.inj e
    have nx : ∀ d c, c ∈ ldl d → xch c = false := fun d c hc => by
      have := ldl_m hc
      cases h : xch c with
      | false => rfl
      | true =>
        have := (xch_f h).2.2.2.1
        unfold ptc at this
        rw [decide_eq_true (by omega)] at this
        cases this
    obtain ⟨g1, g2⟩ := spl_x hx.2.2 hx2.2.2 (nx _) (nx _) (List.append_cancel_right e3)
    rw [c, c2, xt_inj hx hx2 g1, ldl_inj (cD n) (Nat.mod_lt _ (by decide)) (cD m) (Nat.mod_lt _ (by decide)) g2]
  · rcases h2 with ⟨k2, _⟩ | ⟨k2, _⟩ | ⟨k2, _⟩ | ⟨k2, _⟩ | ⟨k2, _⟩ | ⟨k2, _⟩ | ⟨k2, _⟩ | ⟨k2, c2, ho2⟩ <;> first | omega | skip
    rw [hdx_8 k, hdx_8 k2] at e
    simp at e
    rw [c, c2, e]
end HX
def pcy (c : Nat) (x : Option (List Nat × List Nat)) : Option (List Nat × List Nat) := x.map fun y => (c :: y.1, y.2)
def cpy : Nat → List Nat → Option (List Nat × List Nat)
  | _, [] => none
  | d, c :: l => if c = 123 then pcy c (cpy (d + 1) l) else if c = 125 then (if d ≤ 1 then some ([c], l) else pcy c (cpy (d - 1) l)) else pcy c (cpy d l)
abbrev tjS : Type := Nat × List Nat × Nat × List Nat × List Nat
def tj : Nat → tjS → Option (Bool × List Nat)
  | 0, _ => none
  | n + 1, (pa, la, pb, lb, out) =>
    if la = [] ∧ lb = [] then some (true, out)
    else if isC pa la = true ∧ (isC pb lb = false ∨ la.headD 0 < lb.headD 0) then (cpy 0 la).bind fun x => tj n (125, x.2, pb, lb, out ++ x.1)
    else if isC pb lb = true ∧ (isC pa la = false ∨ lb.headD 0 < la.headD 0) then (cpy 0 lb).bind fun x => tj n (pa, la, 125, x.2, out ++ x.1)
    else if la.headD 0 = lb.headD 0 then (if ptc (la.headD 0) = true ∧ isC (la.headD 0) la.tail ≠ isC (lb.headD 0) lb.tail then some (false, out ++ [la.headD 0]) else tj n (la.headD 0, la.tail, lb.headD 0, lb.tail, out ++ [la.headD 0]))
    else some (false, out)
def sz (s : tjS) : Nat := s.2.1.length + s.2.2.2.1.length
def Sx (x y : tjS) : Prop := ∀ n, sz x < n → ∃ n', sz y < n' ∧ tj n x = tj n' y
def En0 (x : tjS) : Prop := ∃ o, ∀ n, sz x < n → tj n x = some (false, o)
theorem Sx_r {x : tjS} : Sx x x := fun n h => ⟨n, h, rfl⟩
theorem Sx_t {x y z : tjS} (h1 : Sx x y) (h2 : Sx y z) : Sx x z := fun n h => by
  obtain ⟨n', a, b⟩ := h1 n h
  obtain ⟨n2, c, d⟩ := h2 n' a
  exact ⟨n2, c, b.trans d⟩
theorem Sx_e {x y : tjS} (h1 : Sx x y) (h2 : En0 y) : En0 x := by
  obtain ⟨o, h⟩ := h2
  refine ⟨o, fun n hn => ?_⟩
  obtain ⟨n', a, b⟩ := h1 n hn
  exact b.trans (h n' a)
section TJ
variable {pa pb c d : Nat} {la lb out : List Nat}
theorem isC_g (h : gdp pa = true) : isC pa la = false := by
  unfold gdp at h
  unfold isC
  rw [Bool.not_eq_true'] at h
  rw [h, Bool.false_and]
theorem isC_n (h : fgc c = false) : isC pa (c :: la) = false := by
  unfold isC
  rw [List.headD_cons, h, Bool.false_and, Bool.and_false]
theorem isC_m (h : d ≠ 123) : isC pa (c :: d :: la) = false := by
  unfold isC
  rw [List.tail_cons, List.headD_cons, List.headD_cons, decide_eq_false h, Bool.and_false, Bool.and_false]
theorem isC_0 : isC pa [] = false := by
  unfold isC
  rw [show fgc (([] : List Nat).headD 0) = false by decide, Bool.false_and, Bool.and_false]
theorem tj_eq (h1 : isC pa (c :: la) = false) (h2 : isC pb (c :: lb) = false) (h3 : ptc c = true → isC c la = isC c lb) : Sx (pa, c :: la, pb, c :: lb, out) (c, la, c, lb, out ++ [c]) := by
  intro n hn
  obtain ⟨n, rfl⟩ : ∃ k, n = k + 1 := ⟨n - 1, by omega⟩
  refine ⟨n, ?_, ?_⟩
  · unfold sz at hn ⊢
    simp only [List.length_cons] at hn
    show la.length + lb.length < n
    omega
  · rw [tj, if_neg (fun z => by cases z.1), h1, h2, if_neg (fun z => by cases z.1), if_neg (fun z => by cases z.1)]
    rw [List.headD_cons, List.headD_cons, if_pos rfl, List.tail_cons, List.tail_cons, if_neg (fun z => z.2 (h3 z.1))]
theorem tj_ne (h1 : isC pa la = false) (h2 : isC pb lb = false) (h3 : la.headD 0 ≠ lb.headD 0) : En0 (pa, la, pb, lb, out) := by
  refine ⟨out, fun n hn => ?_⟩
  obtain ⟨n, rfl⟩ : ∃ k, n = k + 1 := ⟨n - 1, by omega⟩
  rw [tj, if_neg (fun z => h3 (by rw [z.1, z.2])), h1, h2, if_neg (fun z => by cases z.1), if_neg (fun z => by cases z.1), if_neg h3]
theorem tj_nc (h1 : isC pa (c :: la) = false) (h2 : isC pb (c :: lb) = false) (h3 : ptc c = true) (h4 : isC c la ≠ isC c lb) : En0 (pa, c :: la, pb, c :: lb, out) := by
  refine ⟨out ++ [c], fun n hn => ?_⟩
  obtain ⟨n, rfl⟩ : ∃ k, n = k + 1 := ⟨n - 1, by omega⟩
  rw [tj, if_neg (fun z => by cases z.1), h1, h2, if_neg (fun z => by cases z.1), if_neg (fun z => by cases z.1)]
  rw [List.headD_cons, List.headD_cons, if_pos rfl, List.tail_cons, List.tail_cons, if_pos ⟨h3, h4⟩]
theorem cpy_le : ∀ (l : List Nat) (d : Nat) (u w : List Nat), cpy d l = some (u, w) → l = u ++ w ∧ u ≠ []
  | [], d, u, w, h => by cases h
  | c :: l, d, u, w, h => by
    have go : ∀ e, pcy c (cpy e l) = some (u, w) → c :: l = u ++ w ∧ u ≠ [] := fun e h => by
      unfold pcy at h
      rw [Option.map_eq_some_iff] at h
      obtain ⟨⟨u', w'⟩, h1, h2⟩ := h
      cases h2
      obtain ⟨a, _⟩ := cpy_le l e u' w' h1
      exact ⟨by rw [a]; rfl, fun z => by cases z⟩
    unfold cpy at h
    split at h
    · exact go _ h
    · split at h
      · split at h
        · cases h
          exact ⟨rfl, fun z => by cases z⟩
        · exact go _ h
      · exact go _ h
theorem cpy_lt {l u w : List Nat} {d : Nat} (h : cpy d l = some (u, w)) : w.length < l.length := by
  obtain ⟨a, b⟩ := cpy_le l d u w h
  rw [a, List.length_append]
  cases u with
  | nil => exact (b rfl).elim
  | cons c u =>
    rw [List.length_cons]
    omega
theorem isC_ne (h : isC pa la = true) : la ≠ [] := by
  intro e
  rw [e, isC_0] at h
  cases h
theorem tj_A {u w : List Nat} (h1 : isC pa la = true) (h2 : isC pb lb = false ∨ la.headD 0 < lb.headD 0) (hc : cpy 0 la = some (u, w)) : Sx (pa, la, pb, lb, out) (125, w, pb, lb, out ++ u) := by
  intro n hn
  obtain ⟨n, rfl⟩ : ∃ k, n = k + 1 := ⟨n - 1, by omega⟩
  refine ⟨n, ?_, ?_⟩
  · have := cpy_lt hc
    unfold sz at hn ⊢
    have hn' : la.length + lb.length < n + 1 := hn
    show w.length + lb.length < n
    omega
  · rw [tj, if_neg (fun z => isC_ne h1 z.1), if_pos ⟨h1, h2⟩, hc]
    rfl
theorem tj_B {u w : List Nat} (h1 : isC pb lb = true) (h2 : isC pa la = false ∨ lb.headD 0 < la.headD 0) (hc : cpy 0 lb = some (u, w)) : Sx (pa, la, pb, lb, out) (pa, la, 125, w, out ++ u) := by
  intro n hn
  obtain ⟨n, rfl⟩ : ∃ k, n = k + 1 := ⟨n - 1, by omega⟩
  refine ⟨n, ?_, ?_⟩
  · have := cpy_lt hc
    unfold sz at hn ⊢
    have hn' : la.length + lb.length < n + 1 := hn
    show la.length + w.length < n
    omega
  · rw [tj, if_neg (fun z => isC_ne h1 z.2), if_neg, if_pos ⟨h1, h2⟩, hc]
    · rfl
    · intro z
      rcases h2 with h2 | h2
      · rw [h2] at z
        cases z.1
      · rcases z.2 with z2 | z2
        · rw [h1] at z2
          cases z2
        · omega
end TJ
