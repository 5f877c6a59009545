def upK (K : Nat → Fo) (p : Nat) (t : Fo) : Nat → Fo := fun x => if x = p then t else K x
def upQ (Q : Nat → Nat → List Nat) (a b : Nat) (l : List Nat) : Nat → Nat → List Nat := fun x y => if x = a ∧ y = b then l else Q x y
section GD
variable {K : Nat → Fo} {Q : Nat → Nat → List Nat} {p n m o : Nat} {k r t x : Fo} {l : List Nat}
def upE (E : Nat → List evt) (p : Nat) (F : List evt) : Nat → List evt := fun x => if x = p then F else E x
theorem Gd_inv (g : Gd K Q) (hp : p < 6) (hK : K p = cn n k r) (w : Nat → List Bool) : ∃ (E : Nat → List evt) (e : evt) (F : List evt) (w' : List Bool) (t : Fo), (∀ x, x < 6 → Acp (E x) (w x) (K x)) ∧ (∀ q x, q < 6 → x < 6 → Q q x ++ snd (E q) x = rcv (E x) q) ∧ E p = e :: F ∧ sto n k r (w p) e = some (w', t) ∧ Acp F w' t := by
  obtain ⟨E, h1, h2⟩ := g w
  have hp1 := h1 p hp
  rw [hK] at hp1
  cases hE : E p with
  | nil =>
    rw [hE] at hp1
    cases hp1
  | cons e F =>
    rw [hE] at hp1
    obtain ⟨w', t, e1, e2⟩ := hp1
    exact ⟨E, e, F, w', t, h1, h2, hE, e1, e2⟩
theorem upE_acc {E : Nat → List evt} {F : List evt} {w0 w : Nat → List Bool} (h1 : ∀ x, x < 6 → Acp (E x) (w0 x) (K x)) (hw : ∀ x, x ≠ p → w0 x = w x) (h2 : Acp F (w p) t) : ∀ x, x < 6 → Acp (upE E p F x) (w x) (upK K p t x) := by
  intro x hx
  unfold upE upK
  by_cases e : x = p
  · rw [if_pos e, if_pos e, e]
    exact h2
  · rw [if_neg e, if_neg e, ← hw x e]
    exact h1 x hx
theorem rb_s {E : Nat → List evt} {e : evt} {F : List evt} (h : ∀ q x, q < 6 → x < 6 → Q q x ++ snd (E q) x = rcv (E x) q) (hE : E p = e :: F) (he : 2 ≤ e.1) : ∀ q x, q < 6 → x < 6 → Q q x ++ snd (upE E p F q) x = rcv (upE E p F x) q := by
  intro q x hq hx
  have a1 : snd (upE E p F q) x = snd (E q) x := by
    unfold upE
    by_cases c : q = p
    · rw [if_pos c, c, hE, snd_cons, if_neg (fun z => by have := z.1; omega)]
    · rw [if_neg c]
  have a2 : rcv (upE E p F x) q = rcv (E x) q := by
    unfold upE
    by_cases c : x = p
    · rw [if_pos c, c, hE, rcv_cons, if_neg (fun z => by have := z.1; omega)]
    · rw [if_neg c]
  rw [a1, a2]
  exact h q x hq hx
theorem rb_o {E : Nat → List evt} {F : List evt} (h : ∀ q x, q < 6 → x < 6 → Q q x ++ snd (E q) x = rcv (E x) q) (hE : E p = (0, o, m) :: F) : ∀ q x, q < 6 → x < 6 → upQ Q p o (Q p o ++ [m]) q x ++ snd (upE E p F q) x = rcv (upE E p F x) q := by
  intro q x hq hx
  have a2 : rcv (upE E p F x) q = rcv (E x) q := by
    unfold upE
    by_cases c : x = p
    · rw [if_pos c, c, hE, rcv_cons, if_neg (fun z => by cases z.1)]
    · rw [if_neg c]
  rw [a2, ← h q x hq hx]
  unfold upQ upE
  by_cases c : q = p
  · by_cases c2 : x = o
    · rw [if_pos ⟨c, c2⟩, if_pos c, c, hE, snd_cons, if_pos ⟨rfl, c2.symm⟩, c2, List.append_assoc]
      rfl
    · rw [if_neg (fun z => c2 z.2), if_pos c, c, hE, snd_cons, if_neg (fun z => c2 z.2.symm)]
  · rw [if_neg (fun z => c z.1), if_neg c]
theorem rb_i {E : Nat → List evt} {F : List evt} (h : ∀ q x, q < 6 → x < 6 → Q q x ++ snd (E q) x = rcv (E x) q) (hE : E p = (1, o, m) :: F) (hQ : Q o p = m :: l) : ∀ q x, q < 6 → x < 6 → upQ Q o p l q x ++ snd (upE E p F q) x = rcv (upE E p F x) q := by
  intro q x hq hx
  have a1 : snd (upE E p F q) x = snd (E q) x := by
    unfold upE
    by_cases c : q = p
    · rw [if_pos c, c, hE, snd_cons, if_neg (fun z => by cases z.1)]
    · rw [if_neg c]
  rw [a1]
  have h0 := h q x hq hx
  unfold upQ upE
  by_cases c : x = p
  · rw [c, hE, rcv_cons] at h0
    by_cases c2 : q = o
    · rw [if_pos ⟨c2, c⟩, if_pos c, c]
      rw [c2, if_pos ⟨rfl, rfl⟩, hQ, List.cons_append] at h0
      rw [c2]
      exact (List.cons.inj h0).2
    · rw [if_neg (fun z => c2 z.1), if_pos c, c]
      rw [if_neg (fun z => c2 z.2.symm)] at h0
      exact h0
  · rw [if_neg (fun z => c z.2), if_neg c]
    exact h0
theorem hd_i {E : Nat → List evt} {F : List evt} {m' : Nat} (h : ∀ q x, q < 6 → x < 6 → Q q x ++ snd (E q) x = rcv (E x) q) (ho : o < 6) (hp : p < 6) (hE : E p = (1, o, m') :: F) (hQ : Q o p = m :: l) : m' = m := by
  have h0 := h o p ho hp
  rw [hE, rcv_cons, if_pos ⟨rfl, rfl⟩, hQ, List.cons_append] at h0
  exact (List.cons.inj h0).1.symm
theorem Gd_set (g : Gd K Q) (hp : p < 6) (hK : K p = cn n k r) (hk : cK n = 1) : Gd (upK K p r) Q := by
  intro w
  obtain ⟨E, e, F, w', t, h1, h2, h3, h4, h5⟩ := Gd_inv g hp hK w
  rw [sto_1 hk] at h4
  split at h4
  · next q =>
    cases h4
    subst q
    exact ⟨upE E p F, upE_acc h1 (fun _ _ => rfl) h5, rb_s h2 h3 (by decide)⟩
  · cases h4
theorem Gd_send (g : Gd K Q) (hp : p < 6) (hK : K p = cn n k r) (hk : cK n = 2) : Gd (upK K p r) (upQ Q p (cO n) (Q p (cO n) ++ [0])) := by
  intro w
  obtain ⟨E, e, F, w', t, h1, h2, h3, h4, h5⟩ := Gd_inv g hp hK w
  rw [sto_2 hk] at h4
  split at h4
  · next q =>
    cases h4
    subst q
    exact ⟨upE E p F, upE_acc h1 (fun _ _ => rfl) h5, rb_o h2 h3⟩
  · cases h4
theorem Gd_tell (g : Gd K Q) (hp : p < 6) (hK : K p = cn n k r) (hk : cK n = 4) : Gd (upK K p r) (upQ Q p (cO n) (Q p (cO n) ++ [cL n + 1])) := by
  intro w
  obtain ⟨E, e, F, w', t, h1, h2, h3, h4, h5⟩ := Gd_inv g hp hK w
  rw [sto_4 hk] at h4
  split at h4
  · next q =>
    cases h4
    subst q
    exact ⟨upE E p F, upE_acc h1 (fun _ _ => rfl) h5, rb_o h2 h3⟩
  · cases h4
theorem Gd_take (g : Gd K Q) (hp : p < 6) (hK : K p = cn n k r) (hk : cK n = 3) (ho : cO n < 6) (hQ : Q (cO n) p = m :: l) : m = 0 ∧ Gd (upK K p r) (upQ Q (cO n) p l) := by
  have key : ∀ w : Nat → List Bool, m = 0 ∧ ∃ E : Nat → List evt, (∀ x, x < 6 → Acp (E x) (w x) (upK K p r x)) ∧ ∀ q x, q < 6 → x < 6 → upQ Q (cO n) p l q x ++ snd (E q) x = rcv (E x) q := by
    intro w
    obtain ⟨E, e, F, w', t, h1, h2, h3, h4, h5⟩ := Gd_inv g hp hK w
    rw [sto_3 hk] at h4
    split at h4
    · next q =>
      cases h4
      subst q
      have hm := hd_i h2 ho hp h3 hQ
      subst hm
      exact ⟨rfl, upE E p F, upE_acc h1 (fun _ _ => rfl) h5, rb_i h2 h3 hQ⟩
    · cases h4
  exact ⟨(key (fun _ => [])).1, fun w => (key w).2⟩
theorem Gd_hear (g : Gd K Q) (hp : p < 6) (hK : K p = cn n k r) (hk : cK n = 5) (ho : cO n < 6) (hQ : Q (cO n) p = m :: l) : ∃ i x, m = i + 1 ∧ gid i k = some x ∧ Gd (upK K p (ap x r)) (upQ Q (cO n) p l) := by
  have key : ∀ w : Nat → List Bool, 0 < m ∧ ∃ x, gid (m - 1) k = some x ∧ ∃ E : Nat → List evt, (∀ y, y < 6 → Acp (E y) (w y) (upK K p (ap x r) y)) ∧ ∀ q y, q < 6 → y < 6 → upQ Q (cO n) p l q y ++ snd (E q) y = rcv (E y) q := by
    intro w
    obtain ⟨E, e, F, w', t, h1, h2, h3, h4, h5⟩ := Gd_inv g hp hK w
    rw [sto_5 hk] at h4
    split at h4
    · next q =>
      rw [Option.map_eq_some_iff] at h4
      obtain ⟨x, g1, g2⟩ := h4
      cases g2
      obtain ⟨e1, e2, e3⟩ := e
      obtain ⟨q1, q2, q3⟩ := q
      have q1' : e1 = 1 := q1
      have q2' : e2 = cO n := q2
      subst q1' q2'
      have hm := hd_i h2 ho hp h3 hQ
      subst hm
      exact ⟨q3, x, g1, upE E p F, upE_acc h1 (fun _ _ => rfl) h5, rb_i h2 h3 hQ⟩
    · cases h4
  obtain ⟨k1, x, k2, _⟩ := key (fun _ => [])
  refine ⟨m - 1, x, by omega, k2, fun w => ?_⟩
  obtain ⟨_, x', k3, k4⟩ := key w
  rw [k2] at k3
  cases k3
  exact k4
def psh (w : Nat → List Bool) (p : Nat) (b : Bool) : Nat → List Bool := fun x => if x = p then b :: w x else w x
theorem psh_e {w : Nat → List Bool} {b : Bool} : psh w p b p = b :: w p := if_pos rfl
theorem pw_ne {w : Nat → List Bool} {b : Bool} : ∀ x, x ≠ p → psh w p b x = w x := fun _ h => if_neg h
theorem Gd_choose (g : Gd K Q) (hp : p < 6) (hK : K p = cn n k r) (hk : cK n = 6) (b : Bool) : ∃ x, gid (if b = true then 0 else 1) k = some x ∧ Gd (upK K p (ap x r)) Q := by
  have key : ∀ w : Nat → List Bool, ∃ x, gid (if b = true then 0 else 1) k = some x ∧ ∃ E : Nat → List evt, (∀ y, y < 6 → Acp (E y) (w y) (upK K p (ap x r) y)) ∧ ∀ q y, q < 6 → y < 6 → Q q y ++ snd (E q) y = rcv (E y) q := by
    intro w
    obtain ⟨E, e, F, w', t, h1, h2, h3, h4, h5⟩ := Gd_inv g hp hK (psh w p b)
    rw [sto_6 hk, psh_e] at h4
    split at h4
    · next q =>
      rw [Option.map_eq_some_iff] at h4
      obtain ⟨x, g1, g2⟩ := h4
      cases g2
      subst q
      exact ⟨x, g1, upE E p F, upE_acc h1 pw_ne h5, rb_s h2 h3 (by decide)⟩
    · cases h4
  obtain ⟨x, k2, _⟩ := key (fun _ => [])
  refine ⟨x, k2, fun w => ?_⟩
  obtain ⟨x', k3, k4⟩ := key w
  rw [k2] at k3
  cases k3
  exact k4
theorem Gd_rf (g : Gd K Q) (hp : p < 6) (hK : K p = cn n k r) (hk : cK n = 7) : Gd (upK K p (tel 0 (cD n) r)) Q := by
  intro w
  obtain ⟨E, e, F, w', t, h1, h2, h3, h4, h5⟩ := Gd_inv g hp hK (psh w p false)
  rw [sto_7 hk, psh_e] at h4
  split at h4
  · next q =>
    rw [if_neg (show ¬ (false :: w p).headD false = true from Bool.noConfusion)] at h4
    cases h4
    subst q
    exact ⟨upE E p F, upE_acc h1 pw_ne h5, rb_s h2 h3 (by decide)⟩
  · cases h4
theorem Gd_rt (g : Gd K Q) (hp : p < 6) (hK : K p = cn n k r) (hk : cK n = 7) : ∃ x, gid 0 k = some x ∧ Gd (upK K p (tel 1 (cD n) (ap x (cn n k r)))) Q := by
  have key : ∀ w : Nat → List Bool, ∃ x, gid 0 k = some x ∧ ∃ E : Nat → List evt, (∀ y, y < 6 → Acp (E y) (w y) (upK K p (tel 1 (cD n) (ap x (cn n k r))) y)) ∧ ∀ q y, q < 6 → y < 6 → Q q y ++ snd (E q) y = rcv (E y) q := by
    intro w
    obtain ⟨E, e, F, w', t, h1, h2, h3, h4, h5⟩ := Gd_inv g hp hK (psh w p true)
    rw [sto_7 hk, psh_e] at h4
    split at h4
    · next q =>
      rw [if_pos (show (true :: w p).headD false = true from rfl), Option.map_eq_some_iff] at h4
      obtain ⟨x, g1, g2⟩ := h4
      cases g2
      subst q
      exact ⟨x, g1, upE E p F, upE_acc h1 pw_ne h5, rb_s h2 h3 (by decide)⟩
    · cases h4
  obtain ⟨x, k2, _⟩ := key (fun _ => [])
  refine ⟨x, k2, fun w => ?_⟩
  obtain ⟨x', k3, k4⟩ := key w
  rw [k2] at k3
  cases k3
  exact k4
theorem Gd_follow (g : Gd K Q) (hp : p < 6) (hK : K p = cn n k r) (hk : cK n = 8) (ho : cO n < 6) (hQ : Q (cO n) p = m :: l) : (m = 2 ∧ ∃ x, gid 0 k = some x ∧ Gd (upK K p (ap x (cn n k r))) (upQ Q (cO n) p l)) ∨ (m = 1 ∧ Gd (upK K p r) (upQ Q (cO n) p l)) := by
  have key : ∀ w : Nat → List Bool, (m = 2 ∧ ∃ x, gid 0 k = some x ∧ ∃ E : Nat → List evt, (∀ y, y < 6 → Acp (E y) (w y) (upK K p (ap x (cn n k r)) y)) ∧ ∀ q y, q < 6 → y < 6 → upQ Q (cO n) p l q y ++ snd (E q) y = rcv (E y) q) ∨ (m = 1 ∧ ∃ E : Nat → List evt, (∀ y, y < 6 → Acp (E y) (w y) (upK K p r y)) ∧ ∀ q y, q < 6 → y < 6 → upQ Q (cO n) p l q y ++ snd (E q) y = rcv (E y) q) := by
    intro w
    obtain ⟨E, e, F, w', t, h1, h2, h3, h4, h5⟩ := Gd_inv g hp hK w
    rw [sto_8 hk] at h4
    split at h4
    · next q =>
      rw [Option.map_eq_some_iff] at h4
      obtain ⟨x, g1, g2⟩ := h4
      cases g2
      subst q
      have hm := hd_i h2 ho hp h3 hQ
      subst hm
      exact Or.inl ⟨rfl, x, g1, upE E p F, upE_acc h1 (fun _ _ => rfl) h5, rb_i h2 h3 hQ⟩
    · split at h4
      · next q =>
        cases h4
        subst q
        have hm := hd_i h2 ho hp h3 hQ
        subst hm
        exact Or.inr ⟨rfl, upE E p F, upE_acc h1 (fun _ _ => rfl) h5, rb_i h2 h3 hQ⟩
      · cases h4
  rcases key (fun _ => []) with ⟨a, x, k2, _⟩ | ⟨a, _⟩
  · refine Or.inl ⟨a, x, k2, fun w => ?_⟩
    rcases key w with ⟨_, x', k3, k4⟩ | ⟨b, _⟩
    · rw [k2] at k3
      cases k3
      exact k4
    · omega
  · refine Or.inr ⟨a, fun w => ?_⟩
    rcases key w with ⟨b, _⟩ | ⟨_, k4⟩
    · omega
    · exact k4
end GD
