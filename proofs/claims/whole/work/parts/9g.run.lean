theorem PW_ind {D : Nat → Nat} {P : Fo → Prop} (h0 : P .nil) (h1 : ∀ q r, PWs (D q) → PW D r → P r → P (cn q .nil r)) (h2 : ∀ q i t1 r, cK (D q) = 7 → PWb (D q) → PW D t1 → PW D r → P t1 → P r → P (cn q (cn i t1 .nil) r)) (h3 : ∀ q i j t1 t2 r, cK (D q) = 6 → PWb (D q) → PW D t1 → PW D t2 → PW D r → P t1 → P t2 → P r → P (cn q (cn i t1 (cn j t2 .nil)) r)) (t : Fo) (h : PW D t) : P t := by
  induction t using PW.induct with
  | case1 q i t1 j t2 r ih1 ih2 ih3 => exact h3 q i j t1 t2 r h.1 h.2.1 h.2.2.1 h.2.2.2.1 h.2.2.2.2 (ih1 h.2.2.1) (ih2 h.2.2.2.1) (ih3 h.2.2.2.2)
  | case2 q i t1 r ih1 ih2 => exact h2 q i t1 r h.1 h.2.1 h.2.2.1 h.2.2.2 (ih1 h.2.2.1) (ih2 h.2.2.2)
  | case3 q r ih => exact h1 q r h.1 h.2 (ih h.2)
  | case4 => exact h0
  | case5 t g1 g2 g3 g4 =>
    unfold PW at h
    split at h
    · exact (g1 _ _ _ _ _ _ rfl).elim
    · exact (g2 _ _ _ _ rfl).elim
    · exact (g3 _ _ rfl).elim
    · exact (g4 rfl).elim
    · exact h.elim
theorem smA_so {s p : Nat} {x : Fo} (h : So true x) : So true (smA s p x) := by
  unfold smA
  split
  · split
    · exact ⟨So_nil, h, fun z => Bool.noConfusion z⟩
    · exact h
  · split
    · split
      · exact ⟨So_nil, h, fun z => Bool.noConfusion z⟩
      · split
        · exact ⟨So_nil, h, fun z => Bool.noConfusion z⟩
        · exact h
    · split
      · exact ⟨So_nil, h, fun z => Bool.noConfusion z⟩
      · split
        · exact ⟨⟨h, So_nil, fun _ => trivial⟩, So_nil, fun z => Bool.noConfusion z⟩
        · exact h
theorem rdA_so {s l p : Nat} {x y : Fo} (h : So true x) (hy : So true y) : So true (rdA s l y p x) := by
  have hk : So false (cn 0 y .nil) := ⟨hy, So_nil, fun _ => trivial⟩
  unfold rdA
  split
  · exact ⟨hk, h, fun z => Bool.noConfusion z⟩
  · split
    · exact ⟨hk, h, fun z => Bool.noConfusion z⟩
    · exact h
theorem J_so {a b : Fo} (ha : So true a) (hb : So true b) : So true ((J true a b).getD .nil) := by
  cases h : J true a b with
  | none => exact So_nil
  | some c => exact (Jm a true ha b c hb h).2.2.1
theorem chA_so {s p : Nat} {x : Fo} {c1 c2 : Nat → Fo} (h : So true x) (h1 : So true (c1 p)) (h2 : So true (c2 p)) : So true (chA s c1 c2 p x) := by
  unfold chA
  split
  · exact ⟨⟨tel_so h1, ⟨tel_so h2, So_nil, fun _ => trivial⟩, fun _ => ⟨Nat.le_refl _, trivial⟩⟩, h, fun z => Bool.noConfusion z⟩
  · split
    · exact ⟨⟨h2, ⟨h1, So_nil, fun _ => trivial⟩, fun _ => ⟨Nat.le_refl _, trivial⟩⟩, h, fun z => Bool.noConfusion z⟩
    · exact So_ap (J_so h1 h2) h
theorem cut_so {D : Nat → Nat} : ∀ (t : Fo), PW D t → ∀ p, So true (cut D t p) := PW_ind (fun _ => So_nil) (fun _ _ _ _ ih p => smA_so (ih p)) (fun _ _ _ _ _ _ _ _ ih1 ih2 p => rdA_so (ih2 p) (ih1 p)) (fun _ _ _ _ _ _ _ _ _ _ _ ih1 ih2 ih3 p => chA_so (ih3 p) (ih1 p) (ih2 p))
theorem J_nn : J true .nil .nil = some .nil := rfl
theorem soc_f {s p : Nat} (h : soc s p = false) : p ≠ cD s ∧ (cK s = 2 ∨ cK s = 4 → p ≠ cO s) := by
  unfold soc at h
  rw [Bool.or_eq_false_iff] at h
  refine ⟨of_decide_eq_false h.1, fun q => ?_⟩
  rw [decide_eq_true q, Bool.true_and] at h
  exact of_decide_eq_false h.2
theorem cut_occ {D : Nat → Nat} {p : Nat} (hp : p < 6) : ∀ (t : Fo), PW D t → occ D t p = false → cut D t p = .nil := PW_ind (fun _ => rfl) (fun q r hs _ ih h => by
    have h' : (soc (D q) p || occ D r p) = false := h
    rw [Bool.or_eq_false_iff] at h'
    obtain ⟨a, b⟩ := soc_f h'.1
    show smA (D q) p (cut D r p) = .nil
    rw [ih h'.2]
    unfold smA
    rcases hs.2.1 with k | ⟨k | k, _⟩
    · rw [if_pos k, if_neg a]
    · rw [if_neg (by omega), if_pos k, if_neg a, if_neg (b (Or.inl k))]
    · rw [if_neg (by omega), if_neg (by omega), if_neg a, if_neg (b (Or.inr k))]) (fun q i t1 r hk _ _ _ ih1 ih2 h => by
    have h' : (soc (D q) p || occ D t1 p || occ D r p) = false := h
    rw [Bool.or_eq_false_iff, Bool.or_eq_false_iff] at h'
    obtain ⟨a, b⟩ := soc_f h'.1.1
    show rdA (D q) (led (D q) (occ D t1)) (cut D t1 p) p (cut D r p) = .nil
    rw [ih2 h'.2]
    unfold rdA
    rw [if_neg a, if_neg]
    unfold led
    rw [bts_t _ hp, h'.1.2, Bool.and_false]
    decide) (fun q i j t1 t2 r hk _ _ _ _ ih1 ih2 ih3 h => by
    have h' : (soc (D q) p || occ D t1 p || occ D t2 p || occ D r p) = false := h
    rw [Bool.or_eq_false_iff, Bool.or_eq_false_iff, Bool.or_eq_false_iff] at h'
    obtain ⟨a, b⟩ := soc_f h'.1.1.1
    show chA (D q) (cut D t1) (cut D t2) p (cut D r p) = .nil
    rw [ih3 h'.2]
    unfold chA
    rw [if_neg a, if_neg, ih1 h'.1.1.2, ih2 h'.1.2]
    · rfl
    · unfold unw
      rw [bts_t _ hp, ih1 h'.1.1.2, ih2 h'.1.2, J_nn]
      simp)
def Rn (c : Nat → Fo) : Prop := ∀ w : Nat → List Bool, ∃ (E : Nat → List evt) (w' : Nat → List Bool), (∀ p, (w' p).length ≤ (w p).length) ∧ (∀ p, p < 6 → ∀ E2 st, So true st → Acp E2 (w' p) st → Acp (E p ++ E2) (w p) (ap (c p) st)) ∧ ∀ q p, q < 6 → p < 6 → snd (E q) p = rcv (E p) q
theorem Rn_pre {x y : Nat → Fo} (E0 : Nat → List evt) (h1 : ∀ p, p < 6 → ∀ E2 w st, Acp E2 w (ap (x p) st) → Acp (E0 p ++ E2) w (ap (y p) st)) (h2 : ∀ q p, q < 6 → p < 6 → snd (E0 q) p = rcv (E0 p) q) (hx : Rn x) : Rn y := by
  intro w
  obtain ⟨E, w', g1, g2, g3⟩ := hx w
  refine ⟨fun p => E0 p ++ E p, w', g1, fun p hp E2 st hs ha => ?_, fun q p hq hp => ?_⟩
  · show Acp ((E0 p ++ E p) ++ E2) _ _
    rw [List.append_assoc]
    exact h1 p hp _ _ _ (g2 p hp E2 st hs ha)
  · show snd (E0 q ++ E q) p = rcv (E0 p ++ E p) q
    rw [snd_ap, rcv_ap, h2 q p hq hp, g3 q p hq hp]
theorem cO_lt (s : Nat) : cO s < 8 := Nat.mod_lt _ (by decide)
theorem cL_lt (s : Nat) : cL s < 16 := Nat.mod_lt _ (by decide)
theorem cV_lt (s : Nat) : cV s < 4 := Nat.mod_lt _ (by decide)
theorem Rn_sm {x : Nat → Fo} {s : Nat} (hs : PWs s) (hx : Rn x) : Rn (fun p => smA s p (x p)) := by
  obtain ⟨hd, k | ⟨k | k, ho, hne⟩, _⟩ := hs
  · refine Rn_pre (fun p => if p = cD s then [(3, 0, 0)] else []) (fun p hp E2 w st ha => ?_) (fun q p hq hp => ?_) hx
    · show Acp ((if p = cD s then [(3, 0, 0)] else []) ++ E2) w (ap (smA s p (x p)) st)
      unfold smA
      rw [if_pos k]
      by_cases e : p = cD s
      · rw [if_pos e, if_pos e]
        exact acc_1 (cd_K (by decide)) ha
      · rw [if_neg e, if_neg e]
        exact ha
    · show snd (if q = cD s then [(3, 0, 0)] else []) p = rcv (if p = cD s then [(3, 0, 0)] else []) q
      split <;> split <;> rfl
  · refine Rn_pre (fun p => if p = cD s then [(0, cO s, 0)] else if p = cO s then [(1, cD s, 0)] else []) (fun p hp E2 w st ha => ?_) (fun q p hq hp => ?_) hx
    · show Acp ((if p = cD s then [(0, cO s, 0)] else if p = cO s then [(1, cD s, 0)] else []) ++ E2) w (ap (smA s p (x p)) st)
      unfold smA
      rw [if_neg (show ¬ cK s = 1 by omega), if_pos k]
      by_cases e : p = cD s
      · rw [if_pos e, if_pos e]
        have := acc_2 (n := cd 2 0 0 (cO s) 0 (cE s)) (k := .nil) (cd_K (by decide)) ha
        rw [cd_O (by decide) (by decide) (by decide) (cO_lt s)] at this
        exact this
      · rw [if_neg e, if_neg e]
        by_cases e2 : p = cO s
        · rw [if_pos e2, if_pos e2]
          have := acc_3 (n := cd 3 (cV s) 0 (cD s) 0 0) (k := .nil) (cd_K (by decide)) ha
          rw [cd_O (by decide) (cV_lt s) (by decide) (by omega)] at this
          exact this
        · rw [if_neg e2, if_neg e2]
          exact ha
    · show snd (if q = cD s then [(0, cO s, 0)] else if q = cO s then [(1, cD s, 0)] else []) p = rcv (if p = cD s then [(0, cO s, 0)] else if p = cO s then [(1, cD s, 0)] else []) q
      by_cases e1 : q = cD s
      · by_cases e2 : p = cO s
        · rw [if_pos e1, if_neg (show ¬ p = cD s by omega), if_pos e2, snd_cons, rcv_cons, if_pos ⟨rfl, e2.symm⟩, if_pos ⟨rfl, e1.symm⟩]
          rfl
        · rw [if_pos e1, snd_cons, if_neg (fun z => e2 z.2.symm), if_neg e2]
          split
          · rw [rcv_cons, if_neg (fun z => by cases z.1)]
            rfl
          · rfl
      · rw [if_neg e1]
        have : rcv (if p = cD s then [(0, cO s, 0)] else if p = cO s then [(1, cD s, 0)] else []) q = [] := by
          split
          · rw [rcv_cons, if_neg (fun z => by cases z.1)]
            rfl
          · split
            · rw [rcv_cons, if_neg (fun z => e1 z.2.symm)]
              rfl
            · rfl
        rw [this]
        split
        · rw [snd_cons, if_neg (fun z => by cases z.1)]
          rfl
        · rfl
  · refine Rn_pre (fun p => if p = cD s then [(0, cO s, cL s + 1)] else if p = cO s then [(1, cD s, cL s + 1)] else []) (fun p hp E2 w st ha => ?_) (fun q p hq hp => ?_) hx
    · show Acp ((if p = cD s then [(0, cO s, cL s + 1)] else if p = cO s then [(1, cD s, cL s + 1)] else []) ++ E2) w (ap (smA s p (x p)) st)
      unfold smA
      rw [if_neg (show ¬ cK s = 1 by omega), if_neg (show ¬ cK s = 2 by omega)]
      by_cases e : p = cD s
      · rw [if_pos e, if_pos e]
        have := acc_4 (n := cd 4 0 (cL s) (cO s) 0 0) (k := .nil) (cd_K (by decide)) ha
        rw [cd_O (by decide) (by decide) (cL_lt s) (cO_lt s), cd_L (by decide) (by decide) (cL_lt s)] at this
        exact this
      · rw [if_neg e, if_neg e]
        by_cases e2 : p = cO s
        · rw [if_pos e2, if_pos e2]
          have := acc_5 (n := cd 5 0 0 (cD s) 0 0) (k := cn (cL s) (x p) .nil) (r := st) (i := cL s) (cd_K (by decide)) (by rw [gid_cn, if_pos rfl]) ha
          rw [cd_O (by decide) (by decide) (by decide) (by omega)] at this
          exact this
        · rw [if_neg e2, if_neg e2]
          exact ha
    · show snd (if q = cD s then [(0, cO s, cL s + 1)] else if q = cO s then [(1, cD s, cL s + 1)] else []) p = rcv (if p = cD s then [(0, cO s, cL s + 1)] else if p = cO s then [(1, cD s, cL s + 1)] else []) q
      by_cases e1 : q = cD s
      · by_cases e2 : p = cO s
        · rw [if_pos e1, if_neg (show ¬ p = cD s by omega), if_pos e2, snd_cons, rcv_cons, if_pos ⟨rfl, e2.symm⟩, if_pos ⟨rfl, e1.symm⟩]
          rfl
        · rw [if_pos e1, snd_cons, if_neg (fun z => e2 z.2.symm), if_neg e2]
          split
          · rw [rcv_cons, if_neg (fun z => by cases z.1)]
            rfl
          · rfl
      · rw [if_neg e1]
        have : rcv (if p = cD s then [(0, cO s, cL s + 1)] else if p = cO s then [(1, cD s, cL s + 1)] else []) q = [] := by
          split
          · rw [rcv_cons, if_neg (fun z => by cases z.1)]
            rfl
          · split
            · rw [rcv_cons, if_neg (fun z => e1 z.2.symm)]
              rfl
            · rfl
        rw [this]
        split
        · rw [snd_cons, if_neg (fun z => by cases z.1)]
          rfl
        · rfl
def hdE (d l u : Nat) (p : Nat) : List evt := if p = d then (2, 0, 0) :: tvs l u [] else if u.testBit p then [(1, d, l + 1)] else []
theorem hdE_m {d l u : Nat} (hu : u.testBit d = false) (q p : Nat) (hq : q < 6) (hp : p < 6) : snd (hdE d l u q) p = rcv (hdE d l u p) q := by
  unfold hdE
  by_cases e1 : q = d
  · rw [if_pos e1, snd_cons, if_neg (fun z => by cases z.1), snd_tvs hp]
    by_cases e2 : p = d
    · rw [if_pos e2, e2, hu, if_neg (show ¬ false = true by decide), rcv_cons, if_neg (fun z => by cases z.1), rcv_tvs]
      rfl
    · rw [if_neg e2]
      by_cases e3 : u.testBit p = true
      · rw [if_pos e3, if_pos e3, rcv_cons, if_pos ⟨rfl, e1.symm⟩]
        rfl
      · rw [if_neg e3, if_neg e3]
        rfl
  · rw [if_neg e1]
    have h1 : rcv (if p = d then (2, 0, 0) :: tvs l u [] else if u.testBit p then [(1, d, l + 1)] else []) q = [] := by
      split
      · rw [rcv_cons, if_neg (fun z => by cases z.1), rcv_tvs]
        rfl
      · split
        · rw [rcv_cons, if_neg (fun z => e1 z.2.symm)]
          rfl
        · rfl
    rw [h1]
    split
    · rw [snd_cons, if_neg (fun z => by cases z.1)]
      rfl
    · rfl
def pop (w : Nat → List Bool) (d : Nat) : Nat → List Bool := fun p => if p = d then (w p).tail else w p
theorem pop_le (w : Nat → List Bool) (d p : Nat) : (pop w d p).length ≤ (w p).length := by
  unfold pop
  split
  · rw [List.length_tail]
    omega
  · omega
theorem Rn_rd {x c1 : Nat → Fo} {s : Nat} {o : Nat → Bool} (hk : cD s < 6) (hx : Rn x) (h1 : Rn c1) (so : ∀ p, So true (x p)) (sc : ∀ p, So true (c1 p)) (hn : ∀ p, p < 6 → o p = false → c1 p = .nil) : Rn (fun p => rdA s (led s o) (c1 p) p (x p)) := by
  have hlt : led s o < 64 := bts_lt _
  have hld : (led s o).testBit (cD s) = false := by
    unfold led
    rw [bts_t _ hk]
    simp
  have key : ∀ (N : Nat) (w : Nat → List Bool), (w (cD s)).length ≤ N → ∃ (E : Nat → List evt) (w' : Nat → List Bool), (∀ p, (w' p).length ≤ (w p).length) ∧ (∀ p, p < 6 → ∀ E2 st, So true st → Acp E2 (w' p) st → Acp (E p ++ E2) (w p) (ap (rdA s (led s o) (c1 p) p (x p)) st)) ∧ ∀ q p, q < 6 → p < 6 → snd (E q) p = rcv (E p) q := by
    intro N
    induction N with
    | zero =>
      intro w hw
      have hw0 : w (cD s) = [] := List.length_eq_zero_iff.mp (by omega)
      obtain ⟨E, w', g1, g2, g3⟩ := hx (pop w (cD s))
      refine ⟨fun p => hdE (cD s) 0 (led s o) p ++ E p, w', fun p => Nat.le_trans (g1 p) (pop_le w _ p), fun p hp E2 st hs ha => ?_, fun q p hq hp => ?_⟩
      · have hr := g2 p hp E2 st hs ha
        show Acp ((hdE (cD s) 0 (led s o) p ++ E p) ++ E2) _ _
        rw [List.append_assoc]
        unfold hdE rdA
        unfold pop at hr
        by_cases e : p = cD s
        · rw [if_pos e] at hr
          rw [if_pos e, if_pos e, List.cons_append]
          refine acc_7f (cd_K (by decide)) (by rw [e, hw0]; rfl) ?_
          rw [cd_D (by decide) (by decide) (by decide) (by decide) hlt, tvs_ap]
          exact acc_tel (by decide) hr
        · rw [if_neg e] at hr
          rw [if_neg e, if_neg e]
          by_cases e2 : (led s o).testBit p = true
          · rw [if_pos e2, if_pos e2]
            have := acc_8f (n := cd 8 0 0 (cD s) 0 0) (k := cn 0 (c1 p) .nil) (cd_K (by decide)) hr
            rw [cd_O (by decide) (by decide) (by decide) (by omega)] at this
            exact this
          · rw [if_neg e2, if_neg e2]
            exact hr
      · show snd (hdE (cD s) 0 (led s o) q ++ E q) p = rcv (hdE (cD s) 0 (led s o) p ++ E p) q
        rw [snd_ap, rcv_ap, hdE_m hld q p hq hp, g3 q p hq hp]
    | succ N ihN =>
      intro w hw
      cases hb : (w (cD s)).headD false with
      | false =>
        obtain ⟨E, w', g1, g2, g3⟩ := hx (pop w (cD s))
        refine ⟨fun p => hdE (cD s) 0 (led s o) p ++ E p, w', fun p => Nat.le_trans (g1 p) (pop_le w _ p), fun p hp E2 st hs ha => ?_, fun q p hq hp => ?_⟩
        · have hr := g2 p hp E2 st hs ha
          show Acp ((hdE (cD s) 0 (led s o) p ++ E p) ++ E2) _ _
          rw [List.append_assoc]
          unfold hdE rdA
          unfold pop at hr
          by_cases e : p = cD s
          · rw [if_pos e] at hr
            rw [if_pos e, if_pos e, List.cons_append]
            refine acc_7f (cd_K (by decide)) (by rw [e, hb]) ?_
            rw [cd_D (by decide) (by decide) (by decide) (by decide) hlt, tvs_ap]
            exact acc_tel (by decide) hr
          · rw [if_neg e] at hr
            rw [if_neg e, if_neg e]
            by_cases e2 : (led s o).testBit p = true
            · rw [if_pos e2, if_pos e2]
              have := acc_8f (n := cd 8 0 0 (cD s) 0 0) (k := cn 0 (c1 p) .nil) (cd_K (by decide)) hr
              rw [cd_O (by decide) (by decide) (by decide) (by omega)] at this
              exact this
            · rw [if_neg e2, if_neg e2]
              exact hr
        · show snd (hdE (cD s) 0 (led s o) q ++ E q) p = rcv (hdE (cD s) 0 (led s o) p ++ E p) q
          rw [snd_ap, rcv_ap, hdE_m hld q p hq hp, g3 q p hq hp]
      | true =>
        obtain ⟨E1, w1, g1, g2, g3⟩ := h1 (pop w (cD s))
        have hl : (w1 (cD s)).length ≤ N := by
          have a1 := g1 (cD s)
          have a2 : (pop w (cD s) (cD s)).length = (w (cD s)).length - 1 := by
            unfold pop
            rw [if_pos rfl, List.length_tail]
          omega
        obtain ⟨E, w', k1, k2, k3⟩ := ihN w1 hl
        refine ⟨fun p => hdE (cD s) 1 (led s o) p ++ (E1 p ++ E p), w', fun p => Nat.le_trans (k1 p) (Nat.le_trans (g1 p) (pop_le w _ p)), fun p hp E2 st hs ha => ?_, fun q p hq hp => ?_⟩
        · have hr0 := k2 p hp E2 st hs ha
          have hso : So true (ap (rdA s (led s o) (c1 p) p (x p)) st) := So_ap (rdA_so (so p) (sc p)) hs
          have hr := g2 p hp _ _ hso hr0
          show Acp ((hdE (cD s) 1 (led s o) p ++ (E1 p ++ E p)) ++ E2) _ _
          rw [List.append_assoc, List.append_assoc]
          unfold hdE
          unfold rdA at hr ⊢
          unfold pop at hr
          by_cases e : p = cD s
          · rw [if_pos e, if_pos e] at hr
            rw [if_pos e, if_pos e, List.cons_append]
            refine acc_7t (x := c1 p) (cd_K (by decide)) (by rw [e, hb]) (by rw [gid_cn, if_pos rfl]) ?_
            rw [cd_D (by decide) (by decide) (by decide) (by decide) hlt, tvs_ap]
            exact acc_tel (by decide) hr
          · rw [if_neg e, if_neg e] at hr
            rw [if_neg e, if_neg e]
            by_cases e2 : (led s o).testBit p = true
            · rw [if_pos e2] at hr
              rw [if_pos e2, if_pos e2]
              have := acc_8t (n := cd 8 0 0 (cD s) 0 0) (k := cn 0 (c1 p) .nil) (x := c1 p) (cd_K (by decide)) (by rw [gid_cn, if_pos rfl]) hr
              rw [cd_O (by decide) (by decide) (by decide) (by omega)] at this
              exact this
            · rw [if_neg e2] at hr
              rw [if_neg e2, if_neg e2]
              have ho : o p = false := by
                unfold led at e2
                rw [bts_t _ hp, decide_eq_false e] at e2
                cases h : o p with
                | false => rfl
                | true => rw [h] at e2; exact (e2 rfl).elim
              rw [hn p hp ho, nil_ap] at hr
              exact hr
        · show snd (hdE (cD s) 1 (led s o) q ++ (E1 q ++ E q)) p = rcv (hdE (cD s) 1 (led s o) p ++ (E1 p ++ E p)) q
          rw [snd_ap, rcv_ap, snd_ap, rcv_ap, hdE_m hld q p hq hp, g3 q p hq hp, k3 q p hq hp]
  intro w
  exact key _ w (Nat.le_refl _)
theorem Rn_ch {x c1 c2 : Nat → Fo} {s : Nat} (hk : cD s < 6) (hx : Rn x) (h1 : Rn c1) (h2 : Rn c2) (so : ∀ p, So true (x p)) (s1 : ∀ p, So true (c1 p)) (s2 : ∀ p, So true (c2 p)) : Rn (fun p => chA s c1 c2 p (x p)) := by
  have hud : (unw (cD s) c1 c2).testBit (cD s) = false := by
    unfold unw
    rw [bts_t _ hk]
    simp
  have hJ : ∀ p, p < 6 → p ≠ cD s → ¬ (unw (cD s) c1 c2).testBit p = true → ∃ c, J true (c1 p) (c2 p) = some c := by
    intro p hp hne h
    unfold unw at h
    rw [bts_t _ hp, decide_eq_false hne] at h
    cases hj : J true (c1 p) (c2 p) with
    | none => rw [hj] at h; exact (h rfl).elim
    | some c => exact ⟨c, rfl⟩
  intro w
  have fin : ∀ (cb : Nat → Fo) (l : Nat), l < 16 → Rn cb → (∀ p, So true (cb p)) → (∀ p, p < 6 → p = cD s → gid (if (w p).headD false = true then 0 else 1) (cn 0 (tel 1 (unw (cD s) c1 c2) (c1 p)) (cn 1 (tel 0 (unw (cD s) c1 c2) (c2 p)) .nil)) = some (tel l (unw (cD s) c1 c2) (cb p))) → (∀ p, gid l (cn 0 (c2 p) (cn 1 (c1 p) .nil)) = some (cb p)) → (∀ p c, J true (c1 p) (c2 p) = some c → le true (cb p) c) → ∃ (E : Nat → List evt) (w' : Nat → List Bool), (∀ p, (w' p).length ≤ (w p).length) ∧ (∀ p, p < 6 → ∀ E2 st, So true st → Acp E2 (w' p) st → Acp (E p ++ E2) (w p) (ap (chA s c1 c2 p (x p)) st)) ∧ ∀ q p, q < 6 → p < 6 → snd (E q) p = rcv (E p) q := by
    intro cb l hl hb sb hg1 hg2 hle
    obtain ⟨E1, w1, g1, g2, g3⟩ := hb (pop w (cD s))
    obtain ⟨E, w', k1, k2, k3⟩ := hx w1
    refine ⟨fun p => hdE (cD s) l (unw (cD s) c1 c2) p ++ (E1 p ++ E p), w', fun p => Nat.le_trans (k1 p) (Nat.le_trans (g1 p) (pop_le w _ p)), fun p hp E2 st hs ha => ?_, fun q p hq hp => ?_⟩
    · have hr := g2 p hp _ _ (So_ap (so p) hs) (k2 p hp E2 st hs ha)
      show Acp ((hdE (cD s) l (unw (cD s) c1 c2) p ++ (E1 p ++ E p)) ++ E2) _ _
      rw [List.append_assoc, List.append_assoc]
      unfold hdE chA
      unfold pop at hr
      by_cases e : p = cD s
      · rw [if_pos e] at hr
        rw [if_pos e, if_pos e, List.cons_append]
        refine acc_6 (x := tel l (unw (cD s) c1 c2) (cb p)) (cd_K (by decide)) (hg1 p hp e) ?_
        rw [tel_ap, tvs_ap]
        exact acc_tel hl hr
      · rw [if_neg e] at hr
        rw [if_neg e, if_neg e]
        by_cases e2 : (unw (cD s) c1 c2).testBit p = true
        · rw [if_pos e2, if_pos e2]
          have := acc_5 (n := cd 5 0 0 (cD s) 0 0) (k := cn 0 (c2 p) (cn 1 (c1 p) .nil)) (i := l) (cd_K (by decide)) (hg2 p) hr
          rw [cd_O (by decide) (by decide) (by decide) (by omega)] at this
          exact this
        · rw [if_neg e2, if_neg e2]
          obtain ⟨c, hc⟩ := hJ p hp e e2
          rw [hc, Option.getD_some, ap_as]
          exact le_acc _ _ _ _ (So_ap (sb p) (So_ap (so p) hs)) (le_ap (sb p) (hle p c hc) (le_refl _ _ (So_ap (so p) hs))) hr
    · show snd (hdE (cD s) l (unw (cD s) c1 c2) q ++ (E1 q ++ E q)) p = rcv (hdE (cD s) l (unw (cD s) c1 c2) p ++ (E1 p ++ E p)) q
      rw [snd_ap, rcv_ap, snd_ap, rcv_ap, hdE_m hud q p hq hp, g3 q p hq hp, k3 q p hq hp]
  cases hb : (w (cD s)).headD false with
  | true =>
    refine fin c1 1 (by decide) h1 s1 (fun p _ e => ?_) (fun p => rfl) (fun p c hc => (Jm _ true (s1 p) _ _ (s2 p) hc).1)
    rw [e, hb, if_pos rfl, gid_cn, if_pos rfl]
  | false =>
    refine fin c2 0 (by decide) h2 s2 (fun p _ e => ?_) (fun p => rfl) (fun p c hc => (Jm _ true (s1 p) _ _ (s2 p) hc).2.1)
    rw [e, hb, if_neg (by decide), gid_cn, if_neg (by decide), gid_cn, if_pos rfl]
theorem Rn_cut {D : Nat → Nat} : ∀ (t : Fo), PW D t → Rn (cut D t) := PW_ind (fun w => ⟨fun _ => [], w, fun _ => Nat.le_refl _, fun _ _ _ _ _ h => h, fun _ _ _ _ => rfl⟩) (fun q r hs _ ih => Rn_sm hs ih) (fun q i t1 r _ hd p1 p2 ih1 ih2 => Rn_rd hd.1 ih2 ih1 (cut_so r p2) (cut_so t1 p1) (fun p hp ho => cut_occ hp t1 p1 ho)) (fun q i j t1 t2 r _ hd p1 p2 p3 ih1 ih2 ih3 => Rn_ch hd.1 ih3 ih1 ih2 (cut_so r p3) (cut_so t1 p1) (cut_so t2 p2))
theorem Gd_0 {D : Nat → Nat} {t : Fo} (h : PW D t) : Gd (cut D t) (fun _ _ => []) := by
  intro w
  obtain ⟨E, w', g1, g2, g3⟩ := Rn_cut t h w
  refine ⟨E, fun p hp => ?_, fun q p hq hp => g3 q p hq hp⟩
  have := g2 p hp [] .nil So_nil rfl
  rw [List.append_nil, ap_nil (cut_so t h p)] at this
  exact this
