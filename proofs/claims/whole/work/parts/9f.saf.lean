abbrev evt : Type := Nat × Nat × Nat
def sto (n : Nat) (k r : Fo) (w : List Bool) (e : evt) : Option (List Bool × Fo) :=
  if cK n = 1 then (if e = (3, 0, 0) then some (w, r) else none)
  else if cK n = 2 then (if e = (0, cO n, 0) then some (w, r) else none)
  else if cK n = 3 then (if e = (1, cO n, 0) then some (w, r) else none)
  else if cK n = 4 then (if e = (0, cO n, cL n + 1) then some (w, r) else none)
  else if cK n = 5 then (if e.1 = 1 ∧ e.2.1 = cO n ∧ 0 < e.2.2 then (gid (e.2.2 - 1) k).map fun x => (w, ap x r) else none)
  else if cK n = 6 then (if e = (2, 0, 0) then (gid (if w.headD false = true then 0 else 1) k).map fun x => (w.tail, ap x r) else none)
  else if cK n = 7 then (if e = (2, 0, 0) then (if w.headD false = true then (gid 0 k).map fun x => (w.tail, tel 1 (cD n) (ap x (cn n k r))) else some (w.tail, tel 0 (cD n) r)) else none)
  else if cK n = 8 then (if e = (1, cO n, 2) then (gid 0 k).map fun x => (w, ap x (cn n k r)) else if e = (1, cO n, 1) then some (w, r) else none)
  else none
def Acp : List evt → List Bool → Fo → Prop
  | [], _, t => t = .nil
  | e :: E, w, .append (.tag n k) r => ∃ w' t, sto n k r w e = some (w', t) ∧ Acp E w' t
  | _ :: _, _, _ => False
def snd (E : List evt) (p : Nat) : List Nat := E.filterMap fun e => if e.1 = 0 ∧ e.2.1 = p then some e.2.2 else none
def rcv (E : List evt) (q : Nat) : List Nat := E.filterMap fun e => if e.1 = 1 ∧ e.2.1 = q then some e.2.2 else none
def Gd (K : Nat → Fo) (Q : Nat → Nat → List Nat) : Prop := ∀ w : Nat → List Bool, ∃ E : Nat → List evt, (∀ p, p < 6 → Acp (E p) (w p) (K p)) ∧ ∀ q p, q < 6 → p < 6 → Q q p ++ snd (E q) p = rcv (E p) q
section SI
variable {n : Nat} {k r : Fo} {w : List Bool} {e : evt}
theorem sto_1 (h : cK n = 1) : sto n k r w e = if e = (3, 0, 0) then some (w, r) else none := by unfold sto; rw [if_pos h]
theorem sto_2 (h : cK n = 2) : sto n k r w e = if e = (0, cO n, 0) then some (w, r) else none := by unfold sto; rw [if_neg (by omega), if_pos h]
theorem sto_3 (h : cK n = 3) : sto n k r w e = if e = (1, cO n, 0) then some (w, r) else none := by unfold sto; rw [if_neg (by omega), if_neg (by omega), if_pos h]
theorem sto_4 (h : cK n = 4) : sto n k r w e = if e = (0, cO n, cL n + 1) then some (w, r) else none := by unfold sto; rw [if_neg (by omega), if_neg (by omega), if_neg (by omega), if_pos h]
theorem sto_5 (h : cK n = 5) : sto n k r w e = if e.1 = 1 ∧ e.2.1 = cO n ∧ 0 < e.2.2 then (gid (e.2.2 - 1) k).map fun x => (w, ap x r) else none := by unfold sto; rw [if_neg (by omega), if_neg (by omega), if_neg (by omega), if_neg (by omega), if_pos h]
theorem sto_6 (h : cK n = 6) : sto n k r w e = if e = (2, 0, 0) then (gid (if w.headD false = true then 0 else 1) k).map fun x => (w.tail, ap x r) else none := by unfold sto; rw [if_neg (by omega), if_neg (by omega), if_neg (by omega), if_neg (by omega), if_neg (by omega), if_pos h]
theorem sto_7 (h : cK n = 7) : sto n k r w e = if e = (2, 0, 0) then (if w.headD false = true then (gid 0 k).map fun x => (w.tail, tel 1 (cD n) (ap x (cn n k r))) else some (w.tail, tel 0 (cD n) r)) else none := by unfold sto; rw [if_neg (by omega), if_neg (by omega), if_neg (by omega), if_neg (by omega), if_neg (by omega), if_neg (by omega), if_pos h]
theorem sto_8 (h : cK n = 8) : sto n k r w e = if e = (1, cO n, 2) then (gid 0 k).map fun x => (w, ap x (cn n k r)) else if e = (1, cO n, 1) then some (w, r) else none := by unfold sto; rw [if_neg (by omega), if_neg (by omega), if_neg (by omega), if_neg (by omega), if_neg (by omega), if_neg (by omega), if_neg (by omega), if_pos h]
theorem sto_k {x : List Bool × Fo} (h : sto n k r w e = some x) : cK n = 1 ∨ cK n = 2 ∨ cK n = 3 ∨ cK n = 4 ∨ cK n = 5 ∨ cK n = 6 ∨ cK n = 7 ∨ cK n = 8 := by
  by_cases q : cK n = 1 ∨ cK n = 2 ∨ cK n = 3 ∨ cK n = 4 ∨ cK n = 5 ∨ cK n = 6 ∨ cK n = 7 ∨ cK n = 8
  · exact q
  · unfold sto at h
    rw [if_neg (by omega), if_neg (by omega), if_neg (by omega), if_neg (by omega), if_neg (by omega), if_neg (by omega), if_neg (by omega), if_neg (by omega)] at h
    cases h
end SI
section AC
variable {n : Nat} {k r x t st : Fo} {w w' : List Bool} {E : List evt} {e : evt}
theorem Acp_cn : Acp (e :: E) w (cn n k r) ↔ ∃ w' t, sto n k r w e = some (w', t) ∧ Acp E w' t := Iff.rfl
theorem snd_ap (a b : List evt) (p : Nat) : snd (a ++ b) p = snd a p ++ snd b p := List.filterMap_append
theorem rcv_ap (a b : List evt) (p : Nat) : rcv (a ++ b) p = rcv a p ++ rcv b p := List.filterMap_append
theorem snd_nil (p : Nat) : snd [] p = [] := rfl
theorem rcv_nil (p : Nat) : rcv [] p = [] := rfl
theorem snd_cons (p : Nat) : snd (e :: E) p = if e.1 = 0 ∧ e.2.1 = p then e.2.2 :: snd E p else snd E p := by
  unfold snd
  rw [List.filterMap_cons]
  split <;> simp_all
theorem rcv_cons (p : Nat) : rcv (e :: E) p = if e.1 = 1 ∧ e.2.1 = p then e.2.2 :: rcv E p else rcv E p := by
  unfold rcv
  rw [List.filterMap_cons]
  split <;> simp_all
theorem acc_1 (h : cK n = 1) (a : Acp E w r) : Acp ((3, 0, 0) :: E) w (cn n k r) := ⟨w, r, by unfold sto; rw [if_pos h, if_pos rfl], a⟩
theorem acc_2 (h : cK n = 2) (a : Acp E w r) : Acp ((0, cO n, 0) :: E) w (cn n k r) := ⟨w, r, by unfold sto; simp [h], a⟩
theorem acc_3 (h : cK n = 3) (a : Acp E w r) : Acp ((1, cO n, 0) :: E) w (cn n k r) := ⟨w, r, by unfold sto; simp [h], a⟩
theorem acc_4 (h : cK n = 4) (a : Acp E w r) : Acp ((0, cO n, cL n + 1) :: E) w (cn n k r) := ⟨w, r, by unfold sto; simp [h], a⟩
theorem acc_5 {i : Nat} (h : cK n = 5) (hg : gid i k = some x) (a : Acp E w (ap x r)) : Acp ((1, cO n, i + 1) :: E) w (cn n k r) := ⟨w, ap x r, by unfold sto; simp [h, hg], a⟩
theorem acc_6 (h : cK n = 6) (hg : gid (if w.headD false = true then 0 else 1) k = some x) (a : Acp E w.tail (ap x r)) : Acp ((2, 0, 0) :: E) w (cn n k r) := ⟨w.tail, ap x r, by rw [sto_6 h, if_pos rfl, hg]; rfl, a⟩
theorem acc_7t (h : cK n = 7) (hw : w.headD false = true) (hg : gid 0 k = some x) (a : Acp E w.tail (tel 1 (cD n) (ap x (cn n k r)))) : Acp ((2, 0, 0) :: E) w (cn n k r) := ⟨w.tail, _, by rw [sto_7 h, if_pos rfl, if_pos hw, hg]; rfl, a⟩
theorem acc_7f (h : cK n = 7) (hw : w.headD false = false) (a : Acp E w.tail (tel 0 (cD n) r)) : Acp ((2, 0, 0) :: E) w (cn n k r) := ⟨w.tail, _, by rw [sto_7 h, if_pos rfl, if_neg (by rw [hw]; decide)], a⟩
theorem acc_8t (h : cK n = 8) (hg : gid 0 k = some x) (a : Acp E w (ap x (cn n k r))) : Acp ((1, cO n, 2) :: E) w (cn n k r) := ⟨w, _, by unfold sto; simp [h, hg], a⟩
theorem acc_8f (h : cK n = 8) (a : Acp E w r) : Acp ((1, cO n, 1) :: E) w (cn n k r) := ⟨w, _, by unfold sto; simp [h], a⟩
def tv1 (l u p : Nat) (E : List evt) : List evt := if u.testBit p then (0, p, l + 1) :: E else E
def tvs (l u : Nat) (E : List evt) : List evt := tv1 l u 0 (tv1 l u 1 (tv1 l u 2 (tv1 l u 3 (tv1 l u 4 (tv1 l u 5 E)))))
theorem acc_tl1 {l u p : Nat} (hl : l < 16) (hp : p < 8) (a : Acp E w x) : Acp (tv1 l u p E) w (tl1 l u p x) := by
  unfold tv1 tl1
  split
  · have := acc_4 (n := cd 4 0 l p 0 0) (k := .nil) (cd_K (by omega)) a
    rw [cd_O (by omega) (by omega) hl hp, cd_L (by omega) (by omega) hl] at this
    exact this
  · exact a
theorem acc_tel {l u : Nat} (hl : l < 16) (a : Acp E w x) : Acp (tvs l u E) w (tel l u x) := acc_tl1 hl (by decide) (acc_tl1 hl (by decide) (acc_tl1 hl (by decide) (acc_tl1 hl (by decide) (acc_tl1 hl (by decide) (acc_tl1 hl (by decide) a)))))
theorem tl1_ap {l u p : Nat} : ap (tl1 l u p x) st = tl1 l u p (ap x st) := by
  unfold tl1
  split <;> rfl
theorem tel_ap {l u : Nat} : ap (tel l u x) st = tel l u (ap x st) := by
  unfold tel
  rw [tl1_ap, tl1_ap, tl1_ap, tl1_ap, tl1_ap, tl1_ap]
theorem tv1_ap {l u p : Nat} {F : List evt} : tv1 l u p E ++ F = tv1 l u p (E ++ F) := by
  unfold tv1
  split <;> rfl
theorem tvs_ap {l u : Nat} {F : List evt} : tvs l u E ++ F = tvs l u (E ++ F) := by
  unfold tvs
  rw [tv1_ap, tv1_ap, tv1_ap, tv1_ap, tv1_ap, tv1_ap]
theorem rcv_tv1 {l u p q : Nat} : rcv (tv1 l u p E) q = rcv E q := by
  unfold tv1
  split
  · rw [rcv_cons, if_neg (by simp)]
  · rfl
theorem rcv_tvs {l u q : Nat} : rcv (tvs l u E) q = rcv E q := by
  unfold tvs
  rw [rcv_tv1, rcv_tv1, rcv_tv1, rcv_tv1, rcv_tv1, rcv_tv1]
theorem snd_tv1 {l u p q : Nat} : snd (tv1 l u p E) q = if u.testBit p = true ∧ p = q then (l + 1) :: snd E q else snd E q := by
  unfold tv1
  by_cases h : u.testBit p = true
  · rw [if_pos h, snd_cons]
    by_cases h2 : p = q
    · rw [if_pos ⟨rfl, h2⟩, if_pos ⟨h, h2⟩]
    · rw [if_neg (fun z => h2 z.2), if_neg (fun z => h2 z.2)]
  · rw [if_neg h, if_neg (fun z => h z.1)]
theorem snd_tvs {l u q : Nat} (hq : q < 6) : snd (tvs l u E) q = if u.testBit q = true then (l + 1) :: snd E q else snd E q := by
  unfold tvs
  rw [snd_tv1, snd_tv1, snd_tv1, snd_tv1, snd_tv1, snd_tv1]
  have h : q = 0 ∨ q = 1 ∨ q = 2 ∨ q = 3 ∨ q = 4 ∨ q = 5 := by omega
  rcases h with rfl | rfl | rfl | rfl | rfl | rfl <;> simp
end AC
theorem tl1_so {l u p : Nat} {x : Fo} (h : So true x) : So true (tl1 l u p x) := by
  unfold tl1
  split
  · exact ⟨So_nil, h, fun z => Bool.noConfusion z⟩
  · exact h
theorem tel_so {l u : Nat} {x : Fo} (h : So true x) : So true (tel l u x) := tl1_so (tl1_so (tl1_so (tl1_so (tl1_so (tl1_so h)))))
theorem le_tl1 {l u p : Nat} {x y : Fo} (h : le true x y) : le true (tl1 l u p x) (tl1 l u p y) := by
  unfold tl1
  split
  · exact ⟨.nil, y, rfl, trivial, h⟩
  · exact h
theorem le_tel {l u : Nat} {x y : Fo} (h : le true x y) : le true (tel l u x) (tel l u y) := le_tl1 (le_tl1 (le_tl1 (le_tl1 (le_tl1 (le_tl1 h)))))
theorem leK_get {a b x : Fo} {i : Nat} (h : So false a) : le false a b → gid i a = some x → ∃ y, gid i b = some y ∧ le true x y := So_ind (P := fun m a => m = false → le false a b → gid i a = some x → ∃ y, gid i b = some y ∧ le true x y) (fun _ _ _ h => by cases h) (fun m n k r _ _ _ _ ih hm hl hg => by
    subst hm
    rw [gid_cn] at hg
    split at hg
    · next e =>
      subst e
      cases hg
      exact hl.1
    · exact ih rfl hl.2 hg) a false h rfl
theorem le_acc : ∀ (E : List evt) (w : List Bool) (a b : Fo), So true a → le true a b → Acp E w a → Acp E w b
  | [], w, a, b, hs, hl, ha => by
    have ha' : a = .nil := ha
    subst ha'
    exact hl
  | e :: E, w, a, b, hs, hl, ha => by
    revert hl ha
    refine So_ind (P := fun m a => m = true → le true a b → Acp (e :: E) w a → Acp (e :: E) w b) (fun _ _ _ h => h.elim) (fun m n k r h1 h2 _ _ _ hm hl ha => ?_) a true hs rfl
    subst hm
    obtain ⟨l, s, rfl, hk, hr⟩ := hl
    obtain ⟨w', t, e1, e2⟩ := ha
    have hsr : So true (cn n k r) := ⟨h1, h2, fun z => Bool.noConfusion z⟩
    have hlr : le true (cn n k r) (cn n l s) := ⟨l, s, rfl, hk, hr⟩
    have go : ∀ t', sto n l s w e = some (w', t') → So true t → le true t t' → Acp (e :: E) w (cn n l s) := fun t' g1 g2 g3 => ⟨w', t', g1, le_acc E w' t t' g2 g3 e2⟩
    rcases sto_k e1 with c | c | c | c | c | c | c | c
    · rw [sto_1 c] at e1
      split at e1
      · next q =>
        cases e1
        exact go s (by rw [sto_1 c, if_pos q]) h2 hr
      · cases e1
    · rw [sto_2 c] at e1
      split at e1
      · next q =>
        cases e1
        exact go s (by rw [sto_2 c, if_pos q]) h2 hr
      · cases e1
    · rw [sto_3 c] at e1
      split at e1
      · next q =>
        cases e1
        exact go s (by rw [sto_3 c, if_pos q]) h2 hr
      · cases e1
    · rw [sto_4 c] at e1
      split at e1
      · next q =>
        cases e1
        exact go s (by rw [sto_4 c, if_pos q]) h2 hr
      · cases e1
    · rw [sto_5 c] at e1
      split at e1
      · next q =>
        rw [Option.map_eq_some_iff] at e1
        obtain ⟨x, g1, g2⟩ := e1
        cases g2
        obtain ⟨y, y1, y2⟩ := leK_get h1 hk g1
        exact go (ap y s) (by rw [sto_5 c, if_pos q, y1]; rfl) (So_ap (gid_so h1 g1) h2) (le_ap (gid_so h1 g1) y2 hr)
      · cases e1
    · rw [sto_6 c] at e1
      split at e1
      · next q =>
        rw [Option.map_eq_some_iff] at e1
        obtain ⟨x, g1, g2⟩ := e1
        cases g2
        obtain ⟨y, y1, y2⟩ := leK_get h1 hk g1
        exact go (ap y s) (by rw [sto_6 c, if_pos q, y1]; rfl) (So_ap (gid_so h1 g1) h2) (le_ap (gid_so h1 g1) y2 hr)
      · cases e1
    · rw [sto_7 c] at e1
      split at e1
      · next q =>
        split at e1
        · next q2 =>
          rw [Option.map_eq_some_iff] at e1
          obtain ⟨x, g1, g2⟩ := e1
          cases g2
          obtain ⟨y, y1, y2⟩ := leK_get h1 hk g1
          exact go (tel 1 (cD n) (ap y (cn n l s))) (by rw [sto_7 c, if_pos q, if_pos q2, y1]; rfl) (tel_so (So_ap (gid_so h1 g1) hsr)) (le_tel (le_ap (gid_so h1 g1) y2 hlr))
        · next q2 =>
          cases e1
          exact go (tel 0 (cD n) s) (by rw [sto_7 c, if_pos q, if_neg q2]) (tel_so h2) (le_tel hr)
      · cases e1
    · rw [sto_8 c] at e1
      split at e1
      · next q =>
        rw [Option.map_eq_some_iff] at e1
        obtain ⟨x, g1, g2⟩ := e1
        cases g2
        obtain ⟨y, y1, y2⟩ := leK_get h1 hk g1
        exact go (ap y (cn n l s)) (by rw [sto_8 c, if_pos q, y1]; rfl) (So_ap (gid_so h1 g1) hsr) (le_ap (gid_so h1 g1) y2 hlr)
      · next q =>
        split at e1
        · next q2 =>
          cases e1
          exact go s (by rw [sto_8 c, if_neg q, if_pos q2]) h2 hr
        · cases e1
