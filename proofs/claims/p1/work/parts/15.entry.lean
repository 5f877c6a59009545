theorem ie_sp_cons (v : Value) (vs : List Value) : ie_sp (v :: vs) = (if v.category = 2 then [some v, none] else [some v]) ++ ie_sp vs := by
  unfold ie_sp
  rw [List.flatMap_cons]
  congr 1
  cases v <;> rfl
theorem ie_sp_len {b0 scr : Nat} (vs : List Value) : (lg_sl (vs.map (ie_cv b0 scr))).length = (ie_sp vs).length := by
  induction vs with
  | nil => rfl
  | cons v vs ih =>
    rw [ie_sp_cons, List.map_cons]
    unfold lg_sl at ih ⊢
    rw [List.flatMap_cons, List.length_append, List.length_append, ih, ie_cv_cat]
    by_cases h : v.category = 2
    · rw [if_pos h, if_pos h]; rfl
    · rw [if_neg h, if_neg h]; rfl
theorem ie_sp_args {b0 scr : Nat} : ∀ (vs : List Value) (k i : Nat) (v : Value), (ie_sp vs)[i]? = some (some v) → (k + i, ie_cv b0 scr v) ∈ lv_args k (vs.map (ie_cv b0 scr))
  | [], k, i, v, h => by cases h
  | w :: vs, k, i, v, h => by
    rw [ie_sp_cons] at h
    rw [List.map_cons]
    unfold lv_args
    rw [ie_cv_cat]
    by_cases hc : w.category = 2
    · rw [if_pos hc] at h ⊢
      match i, h with
      | 0, h => cases h; exact List.mem_cons_self
      | 1, h => cases h
      | i + 2, h =>
        have := ie_sp_args (b0 := b0) (scr := scr) vs (k + 2) i v (by simpa using h)
        rw [show k + (i + 2) = k + 2 + i by omega]
        exact List.mem_cons_of_mem _ this
    · rw [if_neg hc] at h ⊢
      match i, h with
      | 0, h => cases h; exact List.mem_cons_self
      | i + 1, h =>
        have := ie_sp_args (b0 := b0) (scr := scr) vs (k + 1) i v (by simpa using h)
        rw [show k + (i + 1) = k + 1 + i by omega]
        exact List.mem_cons_of_mem _ this
theorem ie_lgs_cons (k : Nat) (w : Value) (vs : List Value) : ie_lgs k (w :: vs) = if w.category = 2 then k :: ie_lgs (k + 2) vs else ie_lgs (k + 1) vs := by
  cases w <;> rfl
theorem ie_sp_lg : ∀ (vs : List Value) (k i : Nat) (v : Value), (ie_sp vs)[i]? = some (some v) → v.category = 2 → k + i ∈ ie_lgs k vs
  | [], k, i, v, h, _ => by cases h
  | w :: vs, k, i, v, h, hv => by
    rw [ie_sp_cons] at h
    rw [ie_lgs_cons]
    by_cases hc : w.category = 2
    · rw [if_pos hc] at h ⊢
      match i, h with
      | 0, h => exact List.mem_cons_self
      | 1, h => cases h
      | i + 2, h =>
        have := ie_sp_lg vs (k + 2) i v (by simpa using h) hv
        rw [show k + (i + 2) = k + 2 + i by omega]
        exact List.mem_cons_of_mem _ this
    · rw [if_neg hc] at h ⊢
      match i, h with
      | 0, h => cases h; exact absurd hv hc
      | i + 1, h =>
        have := ie_sp_lg vs (k + 1) i v (by simpa using h) hv
        rw [show k + (i + 1) = k + 1 + i by omega]
        exact this
theorem ie_en_at {m i : Nat} {vs : List Value} {v : Value} (h : (ie_en m vs)[i]? = some (some v)) : (ie_sp vs)[i]? = some (some v) := by
  unfold ie_en at h
  by_cases hi : i < (ie_sp vs).length
  · rwa [List.getElem?_append_left hi] at h
  · rw [List.getElem?_append_right (by omega), List.getElem?_replicate] at h
    split at h <;> cases h
theorem ie_enter {b0 scr m : Nat} {vs : List Value} (h1 : ie_lgs 0 vs = ie_lg m) (h2 : (ie_sp vs).length ≤ ie_mx m) :
    ie_lo b0 scr (ie_lg m) (ie_mx m) (ie_en m vs) ((lg_sl (vs.map (ie_cv b0 scr)) ++ List.replicate (ie_mx m - (lg_sl (vs.map (ie_cv b0 scr))).length) Slot.unset).toArray) := by
  have hl := lv_entry (vs.map (ie_cv b0 scr)) (n := ie_mx m) (by rw [ie_sp_len]; exact h2)
  refine ⟨hl.1, ?_, hl.2.1, fun i v hi => ?_, fun i v hi hv => ?_⟩
  · unfold ie_en; rw [List.length_append, List.length_replicate]; show _ + (ie_mx m - _) = _; omega
  · have := ie_sp_args (b0 := b0) (scr := scr) vs 0 i v (ie_en_at hi)
    rw [Nat.zero_add] at this
    exact hl.2.2 _ this
  · have := ie_sp_lg vs 0 i v (ie_en_at hi) hv
    rw [Nat.zero_add, h1] at this
    exact this
