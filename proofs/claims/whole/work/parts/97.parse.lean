abbrev Fo : Type := Std.Format
def cn (n : Nat) (k r : Fo) : Fo := .append (.tag n k) r
abbrev pw : Type := Nat × Bool
def z0 (x : pw) : rs := (x.1, x.2, 0, 0)
def pj (s : rs) : pw := (s.1, s.2.1)
def pBlk (R : pw → Nat → pw × Nat × Fo) (f : Nat → Int32) (c : Nat) (x : pw) (n : Nat) : pw × Nat × Fo :=
  (pj (ks_expect f c 125 (z0 (R (pj (ks_expect f c 123 (z0 x))) n).1)), (R (pj (ks_expect f c 123 (z0 x))) n).2.1, (R (pj (ks_expect f c 123 (z0 x))) n).2.2)
def dS1 (f : Nat → Int32) (c : Nat) (x : pw) : rs := ks_one f c 65 6 (z0 x)
def dP (f : Nat → Int32) (c : Nat) (x : pw) : Int32 := kv_one f c 65 6 (z0 x)
def dC (f : Nat → Int32) (c : Nat) (x : pw) : Int32 := ka f c (dS1 f c x) 0
def dE (f : Nat → Int32) (c : Nat) (x : pw) : rs := ks_expr f c ((dS1 f c x).1 + 1, (dS1 f c x).2)
def pStm (R : pw → Nat → pw × Nat × Fo) (f : Nat → Int32) (c d : Nat) (x : pw) (n : Nat) : pw × Nat × Fo :=
  if n = 40 then ((x.1, true), n, .nil)
  else if dC f c x = 33 then (pj (r19_5 f c (dP f c x) (dS1 f c x)), n + 1, .nil)
  else if dC f c x = 63 then
    (if d < 6 then
      ((pBlk R f c (pBlk R f c (pj (dE f c x)) (n + 1)).1 (pBlk R f c (pj (dE f c x)) (n + 1)).2.1).1, (pBlk R f c (pBlk R f c (pj (dE f c x)) (n + 1)).1 (pBlk R f c (pj (dE f c x)) (n + 1)).2.1).2.1, cn 0 (pBlk R f c (pj (dE f c x)) (n + 1)).2.2 (cn 1 (pBlk R f c (pBlk R f c (pj (dE f c x)) (n + 1)).1 (pBlk R f c (pj (dE f c x)) (n + 1)).2.1).2.2 .nil))
    else (((dS1 f c x).1, true), n + 1, .nil))
  else if dC f c x = 64 then
    (if d < 6 then ((pBlk R f c (pj (dE f c x)) (n + 1)).1, (pBlk R f c (pj (dE f c x)) (n + 1)).2.1, cn 0 (pBlk R f c (pj (dE f c x)) (n + 1)).2.2 .nil)
    else (((dS1 f c x).1, true), n + 1, .nil))
  else if rd_var (dC f c x) = true ∧ ka f c (dS1 f c x) 1 = 58 then (pj (r30_4 f c (dP f c x) (dS1 f c x)), n + 1, .nil)
  else (pj (r31_5 f c (dP f c x) (dS1 f c x)), n + 1, .nil)
def pLoop (R : pw → Nat → pw × Nat × Fo) (f : Nat → Int32) (c d : Nat) : Nat → pw → Nat → pw × Nat × Fo
  | 0, x, n => (x, n, .nil)
  | i + 1, x, n => if x.2 = true then (x, n, .nil) else if ks_ends f c d (z0 x) = true then (x, n, .nil) else ((pLoop R f c d i (pStm R f c d x n).1 (pStm R f c d x n).2.1).1, (pLoop R f c d i (pStm R f c d x n).1 (pStm R f c d x n).2.1).2.1, cn x.1 (pStm R f c d x n).2.2 (pLoop R f c d i (pStm R f c d x n).1 (pStm R f c d x n).2.1).2.2)
def pRow (f : Nat → Int32) (c : Nat) : Nat → Nat → pw → Nat → pw × Nat × Fo
  | 0, _, x, n => (x, n, .nil)
  | r + 1, d, x, n => pLoop (pRow f c r (d + 1)) f c d 41 x n
def eqv (s t : rs) : Prop := s.1 = t.1 ∧ s.2.1 = t.2.1
section EQ
variable {f : Nat → Int32} {c : Nat} {s t : rs}
theorem eqv_r : eqv s s := ⟨rfl, rfl⟩
theorem eqv_z : eqv s (z0 (pj s)) := ⟨rfl, rfl⟩
theorem eqv_ka (h : eqv s t) (i : Nat) : ka f c s i = ka f c t i := by unfold ka; rw [h.1, h.2]
theorem eqv_ex (h : eqv s t) (x : Int32) : eqv (ks_expect f c x s) (ks_expect f c x t) := by
  unfold ks_expect
  rw [eqv_ka h]
  split
  · exact ⟨by show s.1 + 1 = t.1 + 1; rw [h.1], h.2⟩
  · exact ⟨h.1, rfl⟩
theorem eqv_one (h : eqv s t) (x y : Int32) : eqv (ks_one f c x y s) (ks_one f c x y t) := by
  unfold ks_one
  rw [eqv_ka h]
  split
  · exact ⟨by show s.1 + 1 = t.1 + 1; rw [h.1], h.2⟩
  · exact ⟨h.1, rfl⟩
theorem eqv_kv (h : eqv s t) (x y : Int32) : kv_one f c x y s = kv_one f c x y t := by unfold kv_one; rw [eqv_ka h]
theorem eqv_o0 (h : eqv s t) (p : Int32) : eqv (ks_oth0 f c p s) (ks_oth0 f c p t) := by
  unfold ks_oth0
  rw [eqv_ka h]
  split
  · exact ⟨h.1, rfl⟩
  · exact h
theorem eqv_ot (h : eqv s t) (p : Int32) : eqv (ks_other f c p s) (ks_other f c p t) := eqv_one (eqv_o0 h p) 65 6
theorem eqv_ko (h : eqv s t) (p : Int32) : kv_other f c p s = kv_other f c p t := eqv_kv (eqv_o0 h p) 65 6
theorem eqv_xp (h : eqv s t) : ks_expr f c s = ks_expr f c t := by unfold ks_expr; rw [h.1, h.2]
end EQ
def dK (f : Nat → Int32) (c : Nat) (x : pw) : Int32 := if dC f c x = 33 then 4 else if dC f c x = 63 then 6 else if dC f c x = 64 then 7 else if rd_var (dC f c x) = true ∧ ka f c (dS1 f c x) 1 = 58 then 1 else 2
def dO (f : Nat → Int32) (c : Nat) (x : pw) : Int32 := if dC f c x = 33 then kv_other f c (dP f c x) (r19_3 f c (dP f c x) (dS1 f c x)) else if dC f c x = 63 then -1 else if dC f c x = 64 then -1 else if rd_var (dC f c x) = true ∧ ka f c (dS1 f c x) 1 = 58 then -1 else kv_other f c (dP f c x) (r31_2 f c (dP f c x) (dS1 f c x))
def dV (f : Nat → Int32) (c : Nat) (x : pw) : Int32 := if dC f c x = 33 then 0 else if dC f c x = 63 then 0 else if dC f c x = 64 then 0 else if rd_var (dC f c x) = true ∧ ka f c (dS1 f c x) 1 = 58 then kv_one f c 119 4 (dS1 f c x) else kv_one f c 119 4 (r31_3 f c (dP f c x) (dS1 f c x))
def dL (f : Nat → Int32) (c : Nat) (x : pw) : Int32 := if dC f c x = 33 then kv_one f c 48 10 (r19_1 f c (dP f c x) (dS1 f c x)) else 0
def dX (f : Nat → Int32) (c : Nat) (x : pw) : Int64 := if dC f c x = 33 then 0 else if dC f c x = 63 then (dE f c x).2.2.1 else if dC f c x = 64 then (dE f c x).2.2.1 else if rd_var (dC f c x) = true ∧ ka f c (dS1 f c x) 1 = 58 then (r30_3 f c (dP f c x) (dS1 f c x)).2.2.1 else (r31_1 f c (dP f c x) (dS1 f c x)).2.2.1
def SD (S : hS) (f : Nat → Int32) (c b : Nat) (x : pw) : Prop := zI S 0 b = Int32.ofNat x.1 ∧ zI S 1 b = dK f c x ∧ zI S 2 b = dP f c x ∧ zI S 3 b = dO f c x ∧ zI S 4 b = dV f c x ∧ zI S 5 b = dL f c x ∧ zL S b = dX f c x
def ocf (f : Nat → Int32) (c : Nat) : Fo → Int32
  | .append (.tag q (.append (.tag _ t1) (.append (.tag _ t2) _))) r => (((rd_bo (dP f c (q, false)) ||| rd_bo (dO f c (q, false))) ||| ocf f c t1) ||| ocf f c t2) ||| ocf f c r
  | .append (.tag q (.append (.tag _ t1) _)) r => (((rd_bo (dP f c (q, false)) ||| rd_bo (dO f c (q, false))) ||| ocf f c t1) ||| 0) ||| ocf f c r
  | .append (.tag q _) r => (((rd_bo (dP f c (q, false)) ||| rd_bo (dO f c (q, false))) ||| 0) ||| 0) ||| ocf f c r
  | _ => 0
def RS (S : hS) (f : Nat → Int32) (c : Nat) (w : Bool) : Fo → Nat → Option Nat → Prop
  | .append (.tag q .nil) r, lo, v => ∃ b, v = some b ∧ lo ≤ b ∧ ztg S b = 10 ∧ (w = false → SD S f c b (q, false) ∧ zI S 11 b = (((rd_bo (dP f c (q, false)) ||| rd_bo (dO f c (q, false))) ||| 0) ||| 0)) ∧ zR S 7 b = none ∧ zR S 8 b = none ∧ RS S f c w r lo (zR S 9 b)
  | .append (.tag q (.append (.tag _ t1) .nil)) r, lo, v => ∃ b, v = some b ∧ lo ≤ b ∧ ztg S b = 10 ∧ (w = false → SD S f c b (q, false) ∧ zI S 11 b = (((rd_bo (dP f c (q, false)) ||| rd_bo (dO f c (q, false))) ||| ocf f c t1) ||| 0)) ∧ RS S f c w t1 (b + 1) (zR S 7 b) ∧ zR S 8 b = none ∧ RS S f c w r lo (zR S 9 b)
  | .append (.tag q (.append (.tag _ t1) (.append (.tag _ t2) .nil))) r, lo, v => ∃ b, v = some b ∧ lo ≤ b ∧ ztg S b = 10 ∧ (w = false → SD S f c b (q, false) ∧ zI S 11 b = (((rd_bo (dP f c (q, false)) ||| rd_bo (dO f c (q, false))) ||| ocf f c t1) ||| ocf f c t2)) ∧ RS S f c w t1 (b + 1) (zR S 7 b) ∧ RS S f c w t2 (b + 1) (zR S 8 b) ∧ RS S f c w r lo (zR S 9 b)
  | .nil, _, v => v = none
  | _, _, _ => False
def Sme (S T : hS) (lo : Nat) : Prop := ∀ b, lo ≤ b → b < S.1 → (∀ k, zI T k b = zI S k b) ∧ (∀ k, zR T k b = zR S k b) ∧ zL T b = zL S b ∧ ztg T b = ztg S b
theorem Sme_up {S T : hS} {lo hi : Nat} (h : Sme S T lo) (q : lo ≤ hi) : Sme S T hi := fun b h1 h2 => h b (by omega) h2
theorem SD_fr {S T : hS} {f : Nat → Int32} {c b : Nat} {x : pw} (h : SD S f c b x) (e : (∀ k, zI T k b = zI S k b) ∧ (∀ k, zR T k b = zR S k b) ∧ zL T b = zL S b ∧ ztg T b = ztg S b) : SD T f c b x := by
  obtain ⟨h1, h2, h3, h4, h5, h6, h7⟩ := h
  obtain ⟨e1, -, e3, -⟩ := e
  exact ⟨by rw [e1]; exact h1, by rw [e1]; exact h2, by rw [e1]; exact h3, by rw [e1]; exact h4, by rw [e1]; exact h5, by rw [e1]; exact h6, by rw [e3]; exact h7⟩
theorem RS_fr {S T : hS} {f : Nat → Int32} {c : Nat} {w : Bool} (t : Fo) (lo : Nat) (v : Option Nat) (h : RS S f c w t lo v) (e : Sme S T lo) : RS T f c w t lo v := by
  induction t, lo, v using RS.induct (S := S) with
  | case1 q r lo v ih =>
    unfold RS at h ⊢
    obtain ⟨b, rfl, h2, h3, h4, h5, h6, h7⟩ := h
    have eb := e b h2 (ztg_lt h3).1
    exact ⟨b, rfl, h2, by rw [eb.2.2.2]; exact h3, fun z => ⟨SD_fr (h4 z).1 eb, by rw [eb.1]; exact (h4 z).2⟩, by rw [eb.2.1]; exact h5, by rw [eb.2.1]; exact h6, by rw [eb.2.1]; exact ih b h7 e⟩
  | case2 q n t1 r lo v ih1 ih2 =>
    unfold RS at h ⊢
    obtain ⟨b, rfl, h2, h3, h4, h5, h6, h7⟩ := h
    have eb := e b h2 (ztg_lt h3).1
    exact ⟨b, rfl, h2, by rw [eb.2.2.2]; exact h3, fun z => ⟨SD_fr (h4 z).1 eb, by rw [eb.1]; exact (h4 z).2⟩, by rw [eb.2.1]; exact ih1 b h5 (Sme_up e (by omega)), by rw [eb.2.1]; exact h6, by rw [eb.2.1]; exact ih2 b h7 e⟩
  | case3 q n t1 m t2 r lo v ih1 ih2 ih3 =>
    unfold RS at h ⊢
    obtain ⟨b, rfl, h2, h3, h4, h5, h6, h7⟩ := h
    have eb := e b h2 (ztg_lt h3).1
    exact ⟨b, rfl, h2, by rw [eb.2.2.2]; exact h3, fun z => ⟨SD_fr (h4 z).1 eb, by rw [eb.1]; exact (h4 z).2⟩, by rw [eb.2.1]; exact ih1 b h5 (Sme_up e (by omega)), by rw [eb.2.1]; exact ih2 b h6 (Sme_up e (by omega)), by rw [eb.2.1]; exact ih3 b h7 e⟩
  | case4 lo v => unfold RS at h ⊢; exact h
  | case5 t lo v h1 h2 h3 h4 =>
    unfold RS at h
    split at h <;> first | exact (h1 _ _ rfl).elim | exact (h2 _ _ _ rfl).elim | exact (h2 _ _ _ _ rfl).elim | exact (h3 _ _ _ _ _ rfl).elim | exact (h3 _ _ _ _ _ _ rfl).elim | exact (h4 rfl).elim | exact h.elim
def rln : Fo → Nat
  | .append (.tag _ _) r => rln r + 1
  | _ => 0
theorem ocL {S : hS} {f : Nat → Int32} {c : Nat} {w : Bool} (t : Fo) (lo : Nat) (v : Option Nat) (h : RS S f c w t lo v) : ∀ (m : Nat) (acc : Int32), rln t < m → ∃ o, yR_occurringIn_4 m S acc v = some (S, o) ∧ (w = false → o = acc ||| ocf f c t) := by
  induction t, lo, v using RS.induct (S := S) with
  | case1 q r lo v ih =>
    unfold RS at h
    obtain ⟨b, rfl, h2, h3, h4, h5, h6, h7⟩ := h
    intro m acc hm
    cases m with
    | zero => omega
    | succ m =>
      obtain ⟨o, e1, e2⟩ := ih b h7 m (acc ||| zI S 11 b) (by unfold rln at hm; omega)
      refine ⟨o, ?_, fun z => ?_⟩
      · unfold yR_occurringIn_4
        show (if ztg S b = 10 then _ else none) = _
        rw [if_pos h3]
        exact e1
      · rw [e2 z, (h4 z).2, Int32.or_assoc]
        rfl
  | case2 q n t1 r lo v ih1 ih2 =>
    unfold RS at h
    obtain ⟨b, rfl, h2, h3, h4, h5, h6, h7⟩ := h
    intro m acc hm
    cases m with
    | zero => omega
    | succ m =>
      obtain ⟨o, e1, e2⟩ := ih2 b h7 m (acc ||| zI S 11 b) (by unfold rln at hm; omega)
      refine ⟨o, ?_, fun z => ?_⟩
      · unfold yR_occurringIn_4
        show (if ztg S b = 10 then _ else none) = _
        rw [if_pos h3]
        exact e1
      · rw [e2 z, (h4 z).2, Int32.or_assoc]
        rfl
  | case3 q n t1 m t2 r lo v ih1 ih2 ih3 =>
    unfold RS at h
    obtain ⟨b, rfl, h2, h3, h4, h5, h6, h7⟩ := h
    intro m acc hm
    cases m with
    | zero => omega
    | succ m =>
      obtain ⟨o, e1, e2⟩ := ih3 b h7 m (acc ||| zI S 11 b) (by unfold rln at hm; omega)
      refine ⟨o, ?_, fun z => ?_⟩
      · unfold yR_occurringIn_4
        show (if ztg S b = 10 then _ else none) = _
        rw [if_pos h3]
        exact e1
      · rw [e2 z, (h4 z).2, Int32.or_assoc]
        rfl
  | case4 lo v =>
    unfold RS at h
    subst h
    intro m acc hm
    cases m with
    | zero => omega
    | succ m =>
      refine ⟨acc, rfl, fun z => ?_⟩
      unfold ocf
      rw [Int32.or_zero]
  | case5 t lo v h1 h2 h3 h4 =>
    unfold RS at h
    split at h <;> first | exact (h1 _ _ rfl).elim | exact (h2 _ _ _ rfl).elim | exact (h2 _ _ _ _ rfl).elim | exact (h3 _ _ _ _ _ rfl).elim | exact (h3 _ _ _ _ _ _ rfl).elim | exact (h4 rfl).elim | exact h.elim
theorem RS_w {S : hS} {f : Nat → Int32} {c : Nat} {w : Bool} (t : Fo) (lo : Nat) (v : Option Nat) (h : RS S f c w t lo v) : RS S f c true t lo v := by
  induction t, lo, v using RS.induct (S := S) with
  | case1 q r lo v ih =>
    unfold RS at h ⊢
    obtain ⟨b, rfl, h2, h3, h4, h5, h6, h7⟩ := h
    exact ⟨b, rfl, h2, h3, fun z => Bool.noConfusion z, h5, h6, ih b h7⟩
  | case2 q n t1 r lo v ih1 ih2 =>
    unfold RS at h ⊢
    obtain ⟨b, rfl, h2, h3, h4, h5, h6, h7⟩ := h
    exact ⟨b, rfl, h2, h3, fun z => Bool.noConfusion z, ih1 b h5, h6, ih2 b h7⟩
  | case3 q n t1 m t2 r lo v ih1 ih2 ih3 =>
    unfold RS at h ⊢
    obtain ⟨b, rfl, h2, h3, h4, h5, h6, h7⟩ := h
    exact ⟨b, rfl, h2, h3, fun z => Bool.noConfusion z, ih1 b h5, ih2 b h6, ih3 b h7⟩
  | case4 lo v => unfold RS at h ⊢; exact h
  | case5 t lo v h1 h2 h3 h4 =>
    unfold RS at h
    split at h <;> first | exact (h1 _ _ rfl).elim | exact (h2 _ _ _ rfl).elim | exact (h2 _ _ _ _ rfl).elim | exact (h3 _ _ _ _ _ rfl).elim | exact (h3 _ _ _ _ _ _ rfl).elim | exact (h4 rfl).elim | exact h.elim
theorem RS_lo {S : hS} {f : Nat → Int32} {c : Nat} {w : Bool} {l2 : Nat} (t : Fo) (lo : Nat) (v : Option Nat) (h : RS S f c w t lo v) (hl : l2 ≤ lo) : RS S f c w t l2 v := by
  induction t, lo, v using RS.induct (S := S) with
  | case1 q r lo v ih =>
    unfold RS at h ⊢
    obtain ⟨b, rfl, h2, h3, h4, h5, h6, h7⟩ := h
    exact ⟨b, rfl, by omega, h3, h4, h5, h6, ih b h7 hl⟩
  | case2 q n t1 r lo v ih1 ih2 =>
    unfold RS at h ⊢
    obtain ⟨b, rfl, h2, h3, h4, h5, h6, h7⟩ := h
    exact ⟨b, rfl, by omega, h3, h4, h5, h6, ih2 b h7 hl⟩
  | case3 q n t1 m t2 r lo v ih1 ih2 ih3 =>
    unfold RS at h ⊢
    obtain ⟨b, rfl, h2, h3, h4, h5, h6, h7⟩ := h
    exact ⟨b, rfl, by omega, h3, h4, h5, h6, ih3 b h7 hl⟩
  | case4 lo v => unfold RS at h ⊢; exact h
  | case5 t lo v h1 h2 h3 h4 =>
    unfold RS at h
    split at h <;> first | exact (h1 _ _ rfl).elim | exact (h2 _ _ _ rfl).elim | exact (h2 _ _ _ _ rfl).elim | exact (h3 _ _ _ _ _ rfl).elim | exact (h3 _ _ _ _ _ _ rfl).elim | exact (h4 rfl).elim | exact h.elim
