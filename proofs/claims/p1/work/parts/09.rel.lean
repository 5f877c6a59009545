def ie_ad (b0 scr k : Nat) : Nat := if k = ie_S then scr else b0 + k
def ie_cv (b0 scr : Nat) (v : Value) : Value := match v with
  | .ref k => .ref (ie_ad b0 scr k)
  | v => v
def ie_ca0 (b0 scr : Nat) (a : vp_A) : vp_A := match a with
  | (n, .inr (.inr (.inr (.inr f)))) => (n, .inr (.inr (.inr (.inr (fun j => (f j).map (ie_ad b0 scr))))))
  | a => a
def ie_cc (b0 scr : Nat) (kA : Nat → ClassId) (c : ie_C) : va_E := match c with
  | .inl (t, a) => .inl (kA t, ie_ca0 b0 scr a)
  | .inr (ci, fs) => .inr (ci, fs.map (ie_cv b0 scr))
def ie_ws (b0 scr : Nat) (kA : Nat → ClassId) (h : ie_H) : va_W := h.mapIdx (fun k c => (b0 + k, ie_cc b0 scr kA c))
theorem ie_ws_get {b0 scr : Nat} {kA : Nat → ClassId} {h : ie_H} {k : Nat} {c : ie_C} (hk : h[k]? = some c) : (ie_ws b0 scr kA h)[k]? = some (b0 + k, ie_cc b0 scr kA c) := by
  unfold ie_ws; rw [List.getElem?_mapIdx, hk]; rfl
theorem ie_ws_get' {b0 scr : Nat} {kA : Nat → ClassId} {h : ie_H} {k : Nat} {q : Nat × va_E} (hk : (ie_ws b0 scr kA h)[k]? = some q) : ∃ c, h[k]? = some c ∧ q = (b0 + k, ie_cc b0 scr kA c) := by
  unfold ie_ws at hk; rw [List.getElem?_mapIdx] at hk
  cases hc : h[k]? with
  | none => rw [hc] at hk; cases hk
  | some c => rw [hc] at hk; exact ⟨c, rfl, (Option.some.inj hk).symm⟩
theorem ie_ws_set {b0 scr : Nat} {kA : Nat → ClassId} {h : ie_H} {k : Nat} {c : ie_C} : ie_ws b0 scr kA (h.set k c) = (ie_ws b0 scr kA h).set k (b0 + k, ie_cc b0 scr kA c) := by
  apply List.ext_getElem?
  intro j
  unfold ie_ws
  rw [List.getElem?_mapIdx, List.getElem?_set, List.getElem?_set, List.getElem?_mapIdx, List.length_mapIdx]
  by_cases hj : k = j
  · subst hj
    rw [if_pos rfl, if_pos rfl]
    by_cases hl : k < h.length
    · rw [if_pos hl, if_pos hl]; rfl
    · rw [if_neg hl, if_neg hl]; rfl
  · rw [if_neg hj, if_neg hj]
theorem ie_ws_push {b0 scr : Nat} {kA : Nat → ClassId} {h : ie_H} {c : ie_C} : ie_ws b0 scr kA (h ++ [c]) = ie_ws b0 scr kA h ++ [(b0 + h.length, ie_cc b0 scr kA c)] := by
  unfold ie_ws; rw [List.mapIdx_append]; simp
theorem ie_ws_len {b0 scr : Nat} {kA : Nat → ClassId} {h : ie_H} : (ie_ws b0 scr kA h).length = h.length := by
  unfold ie_ws; rw [List.length_mapIdx]
def ie_A (b0 : Nat) : Nat → Prop := fun q => b0 ≤ q
theorem ie_ws_D {b0 scr : Nat} {kA : Nat → ClassId} {h : ie_H} : va_D (ie_A b0) (ie_ws b0 scr kA h) := by
  refine ⟨fun i j p q hi hj he => ?_, fun k q hq => ?_⟩
  · obtain ⟨c, -, rfl⟩ := ie_ws_get' hi
    obtain ⟨c', -, rfl⟩ := ie_ws_get' hj
    exact Nat.add_left_cancel he
  · obtain ⟨c, -, rfl⟩ := ie_ws_get' hq
    exact Nat.le_add_right _ _
def ie_wk (w : Jvm.Cond) : Bool := match w with
  | .fieldLinkNest .. => true
  | .methodLinkNest .. => true
  | .castable .. => true
  | .declares _ => true
  | w => goodWord w
def ie_Ws (U : State) : Prop := ∀ w ∈ lw_tbl, ie_wk w = true → ∀ a, w.before a U = true
theorem ie_Ws.warm {s U : State} (h : ie_Ws s) (hW : s.WarmedH U.vm) : ie_Ws U := by
  intro w hw hk a
  have h0 := h w hw hk #[]
  by_cases hg : goodWord w = true
  · exact word_at hW (good_of_word hg) h0
  · cases w with
    | fieldLinkNest x1 x2 x3 x4 x5 x6 => exact va_Nw.use rfl (va_Nw.warmF hW h0)
    | methodLinkNest x1 x2 x3 x4 => exact va_Nw.use rfl (va_Nw.warmM hW h0)
    | castable x1 x2 => exact va_Nw.use rfl (va_Nw.warmC hW h0)
    | declares x1 => exact va_Nw.use rfl (va_Nw.warmD hW h0)
    | _ => exact absurd hk hg
theorem ie_Ws.at {s : State} (h : ie_Ws s) {i : Nat} {w : Jvm.Cond} (hi : lw_tbl[i]? = some w) (hk : ie_wk w = true) (a : Array Value) : w.before a s = true := h w (List.mem_of_getElem? hi) hk a
def ie_ty (kA : Nat → ClassId) : List (ClassId × FieldType) := ie_kd.mapIdx (fun k t => (kA k, t))
theorem ie_ty_get {kA : Nat → ClassId} {k : Nat} {t : FieldType} (hk : ie_kd[k]? = some t) : (ie_ty kA)[k]? = some (kA k, t) := by
  unfold ie_ty; rw [List.getElem?_mapIdx, hk]; rfl
def ie_np : List (String × String) := [("java/lang/IllegalArgumentException", "java/lang/IllegalStateException"), ("java/lang/IllegalArgumentException", "java/lang/UnsupportedOperationException"), ("java/lang/IllegalArgumentException", "java/lang/IndexOutOfBoundsException"), ("java/lang/IllegalArgumentException", "java/util/NoSuchElementException"), ("java/lang/IllegalStateException", "java/lang/IllegalArgumentException"), ("java/lang/IllegalStateException", "java/lang/UnsupportedOperationException"), ("java/lang/IllegalStateException", "java/lang/IndexOutOfBoundsException"), ("java/lang/IllegalStateException", "java/util/NoSuchElementException"), ("java/lang/UnsupportedOperationException", "java/lang/IllegalArgumentException"), ("java/lang/UnsupportedOperationException", "java/lang/IllegalStateException"), ("java/lang/UnsupportedOperationException", "java/lang/IndexOutOfBoundsException"), ("java/lang/UnsupportedOperationException", "java/util/NoSuchElementException"), ("java/lang/IndexOutOfBoundsException", "java/lang/IllegalArgumentException"), ("java/lang/IndexOutOfBoundsException", "java/lang/IllegalStateException"), ("java/lang/IndexOutOfBoundsException", "java/lang/UnsupportedOperationException"), ("java/lang/IndexOutOfBoundsException", "java/util/NoSuchElementException"), ("java/util/NoSuchElementException", "java/lang/IllegalArgumentException"), ("java/util/NoSuchElementException", "java/lang/IllegalStateException"), ("java/util/NoSuchElementException", "java/lang/UnsupportedOperationException"), ("java/util/NoSuchElementException", "java/lang/IndexOutOfBoundsException")]
def ie_G (D : va_G) (kA : Nat → ClassId) (b0 scr : Nat) (X : ie_X) (U : State) (H : Heap) : Prop :=
  ie_Ws U ∧ va_K D ie_cl (ie_ty kA) U ∧ (∀ k, 4 ≤ k → k < 8 → va_AO (ie_q (ie_kc k)).1 U) ∧ (∀ q ∈ ie_np, va_Nc q.1 q.2 U) ∧ vx_Zq Bundle.tN "UNASSIGNED_STACK" Bundle.steD (ie_A b0) U H ∧ vx_Zq Bundle.tN "SUPPRESSED_SENTINEL" Bundle.listD (ie_A b0) U H ∧ va_X scr X.1 X.2 U H ∧ scr < b0 ∧ b0 ≤ H.size
theorem ie_G.go {D : va_G} {kA : Nat → ClassId} {b0 scr : Nat} {X : ie_X} {s U : State} {H H1 : Heap} (h : ie_G D kA b0 scr X s H) (hW : s.WarmedH U.vm) (hz : H.size ≤ H1.size) (hq : ∀ q : Nat, q < H.size → ¬ ie_A b0 q → H1[q]? = H[q]?) : ie_G D kA b0 scr X U H1 := by
  obtain ⟨h1, h2, h3, h4, h5, h6, h7, h8, h9⟩ := h
  refine ⟨h1.warm hW, va_K.moved hW.alike h2, fun k a b => va_AO.moved hW.alike (h3 k a b), fun q hq' => va_Nc.moved hW.alike (h4 q hq'), vx_Zq.moved hW.alike (h5.kept hq), vx_Zq.moved hW.alike (h6.kept hq), va_X.moved hW.alike (h7.kept (hq scr (by omega) (fun z => by unfold ie_A at z; omega))), h8, by omega⟩
def ie_lo (b0 scr : Nat) (lg : List Nat) (nL : Nat) (ls : ie_L) (sl : Array Slot) : Prop :=
  sl.size = nL ∧ ls.length = nL ∧ lv_wf sl ∧ (∀ (i : Nat) (v : Value), ls[i]? = some (some v) → sl[i]? = some (Slot.val (ie_cv b0 scr v))) ∧ (∀ (i : Nat) (v : Value), ls[i]? = some (some v) → v.category = 2 → i ∈ lg)
def ie_lv (b0 scr : Nat) (ls : ie_L) : List (Nat × Value) := (List.range ls.length).filterMap (fun i => match ls[i]? with | some (some v) => some (i, ie_cv b0 scr v) | _ => none)
theorem ie_lv_mem {b0 scr : Nat} {ls : ie_L} {i : Nat} {v : Value} (h : ls[i]? = some (some v)) : (i, ie_cv b0 scr v) ∈ ie_lv b0 scr ls := by
  unfold ie_lv
  refine List.mem_filterMap.mpr ⟨i, List.mem_range.mpr (List.getElem?_eq_some_iff.mp h).1, ?_⟩
  rw [h]
theorem ie_lv_mem' {b0 scr : Nat} {ls : ie_L} {q : Nat × Value} (h : q ∈ ie_lv b0 scr ls) : ∃ v, ls[q.1]? = some (some v) ∧ q.2 = ie_cv b0 scr v := by
  unfold ie_lv at h
  obtain ⟨i, -, hi⟩ := List.mem_filterMap.mp h
  cases hc : ls[i]? with
  | none => rw [hc] at hi; cases hi
  | some o =>
    cases o with
    | none => rw [hc] at hi; cases hi
    | some v => rw [hc] at hi; cases hi; exact ⟨v, hc, rfl⟩
theorem ie_lo.has {b0 scr : Nat} {lg : List Nat} {nL : Nat} {ls : ie_L} {sl : Array Slot} (h : ie_lo b0 scr lg nL ls sl) : lv_has sl nL (ie_lv b0 scr ls) := by
  obtain ⟨h1, h2, h3, h4, h5⟩ := h
  refine ⟨h1, h3, fun q hq => ?_⟩
  obtain ⟨v, e1, e2⟩ := ie_lv_mem' hq
  rw [e2]; exact h4 _ _ e1
theorem ie_cv_cat {b0 scr : Nat} (v : Value) : (ie_cv b0 scr v).category = v.category := by cases v <;> rfl
theorem ie_lo.put {b0 scr : Nat} {lg : List Nat} {nL : Nat} {ls : ie_L} {sl sl' : Array Slot} {i : Nat} {x : Value} (h : ie_lo b0 scr lg nL ls sl) (hc : x.category = 1) (h1 : ∀ j ∈ lg, j + 1 ≠ i)
    (h' : lv_has sl' nL ((i, ie_cv b0 scr x) :: (ie_lv b0 scr ls).filter (fun q => !(q.1 == i) && !(q.1 + 1 == i && q.2.category == 2)))) : ie_lo b0 scr lg nL (ls.set i (some x)) sl' := by
  obtain ⟨e1, e2, e3, e4, e5⟩ := h
  obtain ⟨f1, f2, f3⟩ := h'
  have key : ∀ (j : Nat) (v : Value), (ls.set i (some x))[j]? = some (some v) → (j = i ∧ v = x) ∨ (j ≠ i ∧ ls[j]? = some (some v)) := by
    intro j v hj
    rw [List.getElem?_set] at hj
    by_cases hij : i = j
    · subst hij
      rw [if_pos rfl] at hj
      by_cases hl : i < ls.length
      · rw [if_pos hl] at hj; exact Or.inl ⟨rfl, (Option.some.inj (Option.some.inj hj)).symm⟩
      · rw [if_neg hl] at hj; cases hj
    · rw [if_neg hij] at hj; exact Or.inr ⟨fun z => hij z.symm, hj⟩
  refine ⟨f1, by rw [List.length_set]; exact e2, f2, fun j v hj => ?_, fun j v hj hv => ?_⟩
  · rcases key j v hj with ⟨rfl, rfl⟩ | ⟨hne, hj⟩
    · exact f3 _ List.mem_cons_self
    · refine f3 (j, ie_cv b0 scr v) (List.mem_cons_of_mem _ (List.mem_filter.mpr ⟨ie_lv_mem hj, ?_⟩))
      have a1 : (j == i) = false := by simpa using hne
      simp only [a1, Bool.not_false, Bool.true_and]
      by_cases hj1 : j + 1 = i
      · by_cases hcat : v.category = 2
        · exact absurd hj1 (h1 j (e5 j v hj hcat))
        · rw [ie_cv_cat]; simp [hcat]
      · simp [hj1]
  · rcases key j v hj with ⟨rfl, rfl⟩ | ⟨hne, hj⟩
    · rw [hc] at hv; cases hv
    · exact e5 j v hj hv
