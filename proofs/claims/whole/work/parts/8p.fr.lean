def Fw (W : List (Nat × Nat × Nat)) (S T : hS) : Prop := Ex S T ∧ ∀ a, a < S.1 → (∀ k, (0, S.2.1 a, k) ∉ W → zI T k a = zI S k a) ∧ (∀ k, (1, S.2.1 a, k) ∉ W → zR T k a = zR S k a) ∧ ((2, S.2.1 a, 0) ∉ W → zL T a = zL S a) ∧ ((3, S.2.1 a, 0) ∉ W → zAI T a = zAI S a) ∧ ((4, S.2.1 a, 0) ∉ W → zAR T a = zAR S a)
section FW
variable {W V : List (Nat × Nat × Nat)} {S T U : hS} {a k t : Nat}
theorem Fw_r : Fw W S S := ⟨Ex_r, fun _ _ => ⟨fun _ _ => rfl, fun _ _ => rfl, fun _ => rfl, fun _ => rfl, fun _ => rfl⟩⟩
theorem Fw_t (h1 : Fw W S T) (h2 : Fw W T U) : Fw W S U := by
  obtain ⟨e1, f1⟩ := h1
  obtain ⟨e2, f2⟩ := h2
  refine ⟨Ex_t e1 e2, ?_⟩
  intro a ha
  obtain ⟨p1, p2, p3, p4, p5⟩ := f1 a ha
  have e3 : T.2.1 a = S.2.1 a := (e1.2.1 a ha).1
  obtain ⟨q1, q2, q3, q4, q5⟩ := f2 a (Nat.lt_of_lt_of_le ha e1.1)
  rw [e3] at q1 q2 q3 q4 q5
  exact ⟨fun k hk => (q1 k hk).trans (p1 k hk), fun k hk => (q2 k hk).trans (p2 k hk), fun h => (q3 h).trans (p3 h), fun h => (q4 h).trans (p4 h), fun h => (q5 h).trans (p5 h)⟩
theorem Fw_m (hs : W.all (fun x => V.contains x) = true) (h : Fw W S T) : Fw V S T := by
  have hm : ∀ x, x ∉ V → x ∉ W := fun x hx hw => hx (by simpa using List.all_eq_true.mp hs x hw)
  obtain ⟨e, f⟩ := h
  refine ⟨e, fun a ha => ?_⟩
  obtain ⟨p1, p2, p3, p4, p5⟩ := f a ha
  exact ⟨fun k hk => p1 k (hm _ hk), fun k hk => p2 k (hm _ hk), fun h => p3 (hm _ h), fun h => p4 (hm _ h), fun h => p5 (hm _ h)⟩
theorem Fw_n {S1 : hS} {ci : Nat} (h : ci < 10) (hx : Fw W S T) (e : szN T ci = S1 ∧ T.1 < ie_S) : Fw W S S1 := by
  have e' := e
  obtain ⟨rfl, -⟩ := e
  refine Fw_t hx ⟨Ex_n h e', fun a ha => ?_⟩
  have n : a ≠ T.1 := by omega
  exact ⟨fun _ _ => zall_ne n, fun _ _ => zall_ne n, fun _ => zup_ne n, fun _ => rfl, fun _ => rfl⟩
theorem Fw_a {S1 : hS} {u n : Nat} (h : n ≤ 16) (hx : Fw W S T) (e : szNA T u n = S1 ∧ T.1 < ie_S) : Fw W S S1 := by
  have e' := e
  obtain ⟨rfl, -⟩ := e
  refine Fw_t hx ⟨Ex_a h e', fun a ha => ?_⟩
  have n : a ≠ T.1 := by omega
  exact ⟨fun _ _ => rfl, fun _ _ => rfl, fun _ => rfl, fun _ => zup_ne n, fun _ => zup_ne n⟩
theorem Fw_ex {ci : Nat} (hx : Fw W S T) : Fw W S (szEx T ci) := Fw_t hx ⟨Ex_ex, fun _ _ => ⟨fun _ _ => rfl, fun _ _ => rfl, fun _ => rfl, fun _ => rfl, fun _ => rfl⟩⟩
theorem zup2_ne {α : Type} {f : Nat → Nat → α} {k a j b : Nat} {v : α} (h : j = k → b ≠ a) : zup2 f k a v j b = f j b := by
  unfold zup2
  by_cases q : j = k
  · rw [if_pos q, if_neg (h q)]
  · rw [if_neg q]
theorem Fw_I {v : Int32} (hx : Fw W S T) (b : ztg T a = t) (hm : (W.contains (0, t, k) && Nat.ble 1 t) = true) : Fw W S (szI T k a v) := by
  rw [Bool.and_eq_true] at hm
  have hc : (0, t, k) ∈ W := by simpa using hm.1
  refine Fw_t hx ⟨⟨Nat.le_refl _, fun _ _ => ⟨rfl, rfl⟩, fun c h1 h2 => absurd (show c < T.1 from h2) (by omega), rfl, rfl⟩, fun c hc2 => ⟨fun j hj => ?_, fun _ _ => rfl, fun _ => rfl, fun _ => rfl, fun _ => rfl⟩⟩
  refine zup2_ne (fun e1 e2 => hj ?_)
  subst e1 e2
  obtain ⟨t', rfl⟩ : ∃ t', t = t' + 1 := ⟨t - 1, by have := Nat.le_of_ble_eq_true hm.2; omega⟩
  rw [(ztg_lt b).2.2]
  exact hc
theorem Fw_R {v : Option Nat} (hx : Fw W S T) (b : ztg T a = t) (hm : (W.contains (1, t, k) && Nat.ble 1 t) = true) : Fw W S (szR T k a v) := by
  rw [Bool.and_eq_true] at hm
  have hc : (1, t, k) ∈ W := by simpa using hm.1
  refine Fw_t hx ⟨⟨Nat.le_refl _, fun _ _ => ⟨rfl, rfl⟩, fun c h1 h2 => absurd (show c < T.1 from h2) (by omega), rfl, rfl⟩, fun c hc2 => ⟨fun _ _ => rfl, fun j hj => ?_, fun _ => rfl, fun _ => rfl, fun _ => rfl⟩⟩
  refine zup2_ne (fun e1 e2 => hj ?_)
  subst e1 e2
  obtain ⟨t', rfl⟩ : ∃ t', t = t' + 1 := ⟨t - 1, by have := Nat.le_of_ble_eq_true hm.2; omega⟩
  rw [(ztg_lt b).2.2]
  exact hc
theorem Fw_L {v : Int64} (hx : Fw W S T) (b : ztg T a = t) (hm : (W.contains (2, t, 0) && Nat.ble 1 t) = true) : Fw W S (szL T a v) := by
  rw [Bool.and_eq_true] at hm
  have hc : (2, t, 0) ∈ W := by simpa using hm.1
  refine Fw_t hx ⟨⟨Nat.le_refl _, fun _ _ => ⟨rfl, rfl⟩, fun c h1 h2 => absurd (show c < T.1 from h2) (by omega), rfl, rfl⟩, fun c hc2 => ⟨fun _ _ => rfl, fun _ _ => rfl, fun hj => ?_, fun _ => rfl, fun _ => rfl⟩⟩
  refine zup_ne (fun e2 => hj ?_)
  subst e2
  obtain ⟨t', rfl⟩ : ∃ t', t = t' + 1 := ⟨t - 1, by have := Nat.le_of_ble_eq_true hm.2; omega⟩
  rw [(ztg_lt b).2.2]
  exact hc
theorem Fw_AI {g : Nat → Int32} (hx : Fw W S T) (b : ztg T a = t) (hm : (W.contains (3, t, 0) && Nat.ble 1 t) = true) : Fw W S (szAI T a g) := by
  rw [Bool.and_eq_true] at hm
  have hc : (3, t, 0) ∈ W := by simpa using hm.1
  refine Fw_t hx ⟨⟨Nat.le_refl _, fun _ _ => ⟨rfl, rfl⟩, fun c h1 h2 => absurd (show c < T.1 from h2) (by omega), rfl, rfl⟩, fun c hc2 => ⟨fun _ _ => rfl, fun _ _ => rfl, fun _ => rfl, fun hj => ?_, fun _ => rfl⟩⟩
  refine zup_ne (fun e2 => hj ?_)
  subst e2
  obtain ⟨t', rfl⟩ : ∃ t', t = t' + 1 := ⟨t - 1, by have := Nat.le_of_ble_eq_true hm.2; omega⟩
  rw [(ztg_lt b).2.2]
  exact hc
theorem Fw_AR {g : Nat → Option Nat} (hx : Fw W S T) (b : ztg T a = t) (hm : (W.contains (4, t, 0) && Nat.ble 1 t) = true) : Fw W S (szAR T a g) := by
  rw [Bool.and_eq_true] at hm
  have hc : (4, t, 0) ∈ W := by simpa using hm.1
  refine Fw_t hx ⟨⟨Nat.le_refl _, fun _ _ => ⟨rfl, rfl⟩, fun c h1 h2 => absurd (show c < T.1 from h2) (by omega), rfl, rfl⟩, fun c hc2 => ⟨fun _ _ => rfl, fun _ _ => rfl, fun _ => rfl, fun _ => rfl, fun hj => ?_⟩⟩
  refine zup_ne (fun e2 => hj ?_)
  subst e2
  obtain ⟨t', rfl⟩ : ∃ t', t = t' + 1 := ⟨t - 1, by have := Nat.le_of_ble_eq_true hm.2; omega⟩
  rw [(ztg_lt b).2.2]
  exact hc
theorem Fw_AL {g : Nat → Int64} (hx : Fw W S T) : Fw W S (szAL T a g) := Fw_t hx ⟨⟨Nat.le_refl _, fun _ _ => ⟨rfl, rfl⟩, fun c h1 h2 => absurd (show c < T.1 from h2) (by omega), rfl, rfl⟩, fun _ _ => ⟨fun _ _ => rfl, fun _ _ => rfl, fun _ => rfl, fun _ => rfl, fun _ => rfl⟩⟩
end FW
