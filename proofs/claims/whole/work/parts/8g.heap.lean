abbrev hS : Type := Nat × (Nat → Nat) × (Nat → Nat) × (Nat → Nat → Int32) × (Nat → Int64) × (Nat → Nat → Option Nat) × (Nat → Nat → Int32) × (Nat → Nat → Option Nat) × (Nat → Nat → Int64) × (Nat → Int32) × (Nat → Nat → Int32)
def zN (S : hS) : Nat := S.1
def zT (S : hS) : Nat → Nat := S.2.1
def zLen (S : hS) : Nat → Nat := S.2.2.1
def zI (S : hS) : Nat → Nat → Int32 := S.2.2.2.1
def zL (S : hS) : Nat → Int64 := S.2.2.2.2.1
def zR (S : hS) : Nat → Nat → Option Nat := S.2.2.2.2.2.1
def zAI (S : hS) : Nat → Nat → Int32 := S.2.2.2.2.2.2.1
def zAR (S : hS) : Nat → Nat → Option Nat := S.2.2.2.2.2.2.2.1
def zAL (S : hS) : Nat → Nat → Int64 := S.2.2.2.2.2.2.2.2.1
def zMI (S : hS) : Nat → Int32 := S.2.2.2.2.2.2.2.2.2.1
def zMA (S : hS) : Nat → Nat → Int32 := S.2.2.2.2.2.2.2.2.2.2
def zup {α : Type} (f : Nat → α) (a : Nat) (v : α) : Nat → α := fun b => if b = a then v else f b
def zup2 {α : Type} (f : Nat → Nat → α) (k a : Nat) (v : α) : Nat → Nat → α := fun j b => if j = k then (if b = a then v else f j b) else f j b
def zall {α : Type} (f : Nat → Nat → α) (a : Nat) (v : α) : Nat → Nat → α := fun j b => if b = a then v else f j b
def szI (S : hS) (k a : Nat) (v : Int32) : hS := (S.1, S.2.1, S.2.2.1, zup2 S.2.2.2.1 k a v, S.2.2.2.2.1, S.2.2.2.2.2.1, S.2.2.2.2.2.2.1, S.2.2.2.2.2.2.2.1, S.2.2.2.2.2.2.2.2.1, S.2.2.2.2.2.2.2.2.2.1, S.2.2.2.2.2.2.2.2.2.2)
def szL (S : hS) (a : Nat) (v : Int64) : hS := (S.1, S.2.1, S.2.2.1, S.2.2.2.1, zup S.2.2.2.2.1 a v, S.2.2.2.2.2.1, S.2.2.2.2.2.2.1, S.2.2.2.2.2.2.2.1, S.2.2.2.2.2.2.2.2.1, S.2.2.2.2.2.2.2.2.2.1, S.2.2.2.2.2.2.2.2.2.2)
def szR (S : hS) (k a : Nat) (v : Option Nat) : hS := (S.1, S.2.1, S.2.2.1, S.2.2.2.1, S.2.2.2.2.1, zup2 S.2.2.2.2.2.1 k a v, S.2.2.2.2.2.2.1, S.2.2.2.2.2.2.2.1, S.2.2.2.2.2.2.2.2.1, S.2.2.2.2.2.2.2.2.2.1, S.2.2.2.2.2.2.2.2.2.2)
def szAI (S : hS) (a : Nat) (f : Nat → Int32) : hS := (S.1, S.2.1, S.2.2.1, S.2.2.2.1, S.2.2.2.2.1, S.2.2.2.2.2.1, zup S.2.2.2.2.2.2.1 a f, S.2.2.2.2.2.2.2.1, S.2.2.2.2.2.2.2.2.1, S.2.2.2.2.2.2.2.2.2.1, S.2.2.2.2.2.2.2.2.2.2)
def szAR (S : hS) (a : Nat) (f : Nat → Option Nat) : hS := (S.1, S.2.1, S.2.2.1, S.2.2.2.1, S.2.2.2.2.1, S.2.2.2.2.2.1, S.2.2.2.2.2.2.1, zup S.2.2.2.2.2.2.2.1 a f, S.2.2.2.2.2.2.2.2.1, S.2.2.2.2.2.2.2.2.2.1, S.2.2.2.2.2.2.2.2.2.2)
def szM (S : hS) (I : Nat → Int32) (B : Nat → Nat → Int32) : hS := (S.1, S.2.1, S.2.2.1, S.2.2.2.1, S.2.2.2.2.1, S.2.2.2.2.2.1, S.2.2.2.2.2.2.1, S.2.2.2.2.2.2.2.1, S.2.2.2.2.2.2.2.2.1, I, B)
def szN (S : hS) (ci : Nat) : hS := (S.1 + 1, zup S.2.1 S.1 (ci + 1), S.2.2.1, zall S.2.2.2.1 S.1 0, zup S.2.2.2.2.1 S.1 0, zall S.2.2.2.2.2.1 S.1 none, S.2.2.2.2.2.2.1, S.2.2.2.2.2.2.2.1, S.2.2.2.2.2.2.2.2.1, S.2.2.2.2.2.2.2.2.2.1, S.2.2.2.2.2.2.2.2.2.2)
def szNA (S : hS) (t n : Nat) : hS := (S.1 + 1, zup S.2.1 S.1 (20 + t), zup S.2.2.1 S.1 n, S.2.2.2.1, S.2.2.2.2.1, S.2.2.2.2.2.1, zup S.2.2.2.2.2.2.1 S.1 (fun _ => 0), zup S.2.2.2.2.2.2.2.1 S.1 (fun _ => none), zup S.2.2.2.2.2.2.2.2.1 S.1 (fun _ => 0), S.2.2.2.2.2.2.2.2.2.1, S.2.2.2.2.2.2.2.2.2.2)
def szEx (S : hS) (ci : Nat) : hS := (S.1 + 1, zup S.2.1 S.1 (40 + ci), S.2.2.1, S.2.2.2.1, S.2.2.2.2.1, S.2.2.2.2.2.1, S.2.2.2.2.2.2.1, S.2.2.2.2.2.2.2.1, S.2.2.2.2.2.2.2.2.1, S.2.2.2.2.2.2.2.2.2.1, S.2.2.2.2.2.2.2.2.2.2)
def ztg (S : hS) (a : Nat) : Nat := if a < S.1 ∧ a < ie_S then S.2.1 a else 0
def zfl : Nat → hS → Nat → List Value
  | 0, S, a => [va_rf (zR S 0 a), .int (zI S 1 a), .int (zI S 2 a), .int (zI S 3 a), va_rf (zR S 4 a), va_rf (zR S 5 a), va_rf (zR S 6 a)]
  | 1, S, a => [.int (zI S 0 a), .int (zI S 1 a), .int (zI S 2 a), .int (zI S 3 a), .int (zI S 4 a), .long (zL S a), va_rf (zR S 6 a), .int (zI S 7 a), va_rf (zR S 8 a), va_rf (zR S 9 a)]
  | 2, S, a => [.int (zI S 0 a), .int (zI S 1 a), .int (zI S 2 a), .int (zI S 3 a)]
  | 3, S, a => [va_rf (zR S 0 a), .int (zI S 1 a)]
  | 4, S, a => [va_rf (zR S 0 a), va_rf (zR S 1 a), va_rf (zR S 2 a), .int (zI S 3 a), .int (zI S 4 a), .int (zI S 5 a)]
  | 5, S, a => [va_rf (zR S 0 a), .int (zI S 1 a), .int (zI S 2 a), .int (zI S 3 a), .int (zI S 4 a), .long (zL S a), .int (zI S 6 a)]
  | 6, S, a => [va_rf (zR S 0 a), va_rf (zR S 1 a), .int (zI S 2 a), .int (zI S 3 a)]
  | 7, S, a => [va_rf (zR S 0 a), va_rf (zR S 1 a), va_rf (zR S 2 a), .int (zI S 3 a)]
  | 8, S, a => [va_rf (zR S 0 a), va_rf (zR S 1 a), va_rf (zR S 2 a), va_rf (zR S 3 a), .int (zI S 4 a), .int (zI S 5 a)]
  | 9, S, a => [.int (zI S 0 a), .int (zI S 1 a), .int (zI S 2 a), .int (zI S 3 a), .int (zI S 4 a), .int (zI S 5 a), .long (zL S a), va_rf (zR S 7 a), va_rf (zR S 8 a), va_rf (zR S 9 a), va_rf (zR S 10 a), .int (zI S 11 a)]
  | _, _, _ => []
def zmt (j : Nat) : Nat := if j = 41 then 2 else 0
def zml (j : Nat) : Nat := ([0, 200, 200, 200, 200, 200, 200, 200, 200, 200, 200, 200, 200, 200, 200, 8, 200, 200, 200, 200, 200, 200, 200, 200, 200, 200, 6000, 6, 1100, 20, 1000, 1000, 1000, 24, 24, 24, 6, 6, 6, 36, 288, 288, 1000] : List Nat).getD j 0
def zcl (S : hS) (a : Nat) : ie_C := if S.2.1 a < 11 then .inr (S.2.1 a - 1, zfl (S.2.1 a - 1) S a) else if S.2.1 a = 11 then .inr (10, mf (zMI S)) else if S.2.1 a < 20 then .inl (zmt (a - 134), zml (a - 134), .inl (zMA S (a - 134))) else if S.2.1 a < 23 then .inl (S.2.1 a - 20, zLen S a, .inl (zAI S a)) else if S.2.1 a = 23 then .inl (3, zLen S a, .inr (.inl (zAL S a))) else if S.2.1 a < 28 then .inl (S.2.1 a - 20, zLen S a, .inr (.inr (.inr (.inr (zAR S a))))) else .inr (S.2.1 a - 40, [])
def zhp (S : hS) : ie_H := (List.range S.1).map (zcl S)
theorem zhp_len {S : hS} : (zhp S).length = S.1 := by unfold zhp; rw [List.length_map, List.length_range]
theorem zhp_get {S : hS} {a : Nat} (h : a < S.1) : (zhp S)[a]? = some (zcl S a) := by
  unfold zhp
  rw [List.getElem?_map, List.getElem?_range h]
  rfl
theorem zhp_set {S S' : hS} {a : Nat} {c : ie_C} (hN : S'.1 = S.1) (hc : zcl S' a = c) (hf : ∀ b, b ≠ a → zcl S' b = zcl S b) : List.set (zhp S) a c = zhp S' := by
  apply List.ext_getElem?
  intro i
  by_cases hi : i < S.1
  · rw [zhp_get (S := S') (by omega), List.getElem?_set]
    by_cases e : a = i
    · subst e
      rw [if_pos rfl, if_pos (by rw [zhp_len]; exact hi), hc]
    · rw [if_neg e, zhp_get hi, hf i (Ne.symm e)]
  · rw [List.getElem?_eq_none (by rw [List.length_set, zhp_len]; omega), List.getElem?_eq_none (by rw [zhp_len]; omega)]
theorem zhp_app {S S' : hS} {c : ie_C} (hN : S'.1 = S.1 + 1) (hc : zcl S' S.1 = c) (hf : ∀ b, b < S.1 → zcl S' b = zcl S b) : zhp S ++ [c] = zhp S' := by
  unfold zhp
  rw [hN, List.range_succ, List.map_append, List.map_cons, List.map_nil, hc]
  congr 1
  apply List.map_congr_left
  intro b hb
  exact (hf b (List.mem_range.mp hb)).symm
theorem ztg_lt {S : hS} {a t : Nat} (h : ztg S a = t + 1) : a < S.1 ∧ a ≠ ie_S ∧ S.2.1 a = t + 1 := by
  unfold ztg at h
  by_cases q : a < S.1 ∧ a < ie_S
  · rw [if_pos q] at h
    exact ⟨q.1, by omega, h⟩
  · rw [if_neg q] at h
    cases h
theorem zhp_obj {S : hS} {a ci : Nat} (ht : ztg S a = ci + 1) (hc : ci < 10) : (zhp S)[a]? = some (.inr (ci, zfl ci S a)) := by
  obtain ⟨h1, -, h3⟩ := ztg_lt ht
  rw [zhp_get h1]
  unfold zcl
  rw [h3, if_pos (by omega), Nat.add_sub_cancel]
theorem zhp_iar {S : hS} {a t : Nat} (ht : ztg S a = 20 + t) (hc : t < 3) : (zhp S)[a]? = some (.inl (t, zLen S a, .inl (zAI S a))) := by
  obtain ⟨h1, -, h3⟩ := ztg_lt (t := 19 + t) (by rw [ht]; omega)
  rw [zhp_get h1]
  unfold zcl
  rw [h3, if_neg (by omega), if_neg (by omega), if_neg (by omega), if_pos (by omega), show 19 + t + 1 - 20 = t by omega]
abbrev zar (S : hS) (a : Nat) : Prop := 24 ≤ ztg S a ∧ ztg S a < 28
abbrev zal (S : hS) (a : Nat) : Prop := 20 ≤ ztg S a ∧ ztg S a < 28
theorem zhp_rar {S : hS} {a : Nat} (ht : zar S a) : (zhp S)[a]? = some (.inl (ztg S a - 20, zLen S a, .inr (.inr (.inr (.inr (zAR S a)))))) := by
  obtain ⟨t, ht2⟩ : ∃ t, ztg S a = t + 1 := ⟨ztg S a - 1, by omega⟩
  obtain ⟨h1, -, h3⟩ := ztg_lt ht2
  rw [zhp_get h1]
  obtain ⟨g1, g2⟩ := ht
  rw [ht2] at g1 g2 ⊢
  unfold zcl
  rw [h3, if_neg (by omega), if_neg (by omega), if_neg (by omega), if_neg (by omega), if_neg (by omega), if_pos (by omega)]
theorem zcl_I {S : hS} {k a b : Nat} {v : Int32} (h : b ≠ a) : zcl (szI S k a v) b = zcl S b := by
  have e : ∀ j, zI (szI S k a v) j b = zI S j b := by
    intro j
    unfold zI szI zup2
    simp only [if_neg h, ite_self]
  have f : ∀ c, zfl c (szI S k a v) b = zfl c S b := by
    intro c
    rcases c with _ | _ | _ | _ | _ | _ | _ | _ | _ | _ | c <;> simp only [zfl, e] <;> rfl
  unfold zcl
  rw [f]
  rfl
theorem zcl_L {S : hS} {a b : Nat} {v : Int64} (h : b ≠ a) : zcl (szL S a v) b = zcl S b := by
  have e : zL (szL S a v) b = zL S b := by
    unfold zL szL zup
    simp only [if_neg h]
  have f : ∀ c, zfl c (szL S a v) b = zfl c S b := by
    intro c
    rcases c with _ | _ | _ | _ | _ | _ | _ | _ | _ | _ | c <;> simp only [zfl, e] <;> rfl
  unfold zcl
  rw [f]
  rfl
theorem zcl_R {S : hS} {k a b : Nat} {v : Option Nat} (h : b ≠ a) : zcl (szR S k a v) b = zcl S b := by
  have e : ∀ j, zR (szR S k a v) j b = zR S j b := by
    intro j
    unfold zR szR zup2
    simp only [if_neg h, ite_self]
  have f : ∀ c, zfl c (szR S k a v) b = zfl c S b := by
    intro c
    rcases c with _ | _ | _ | _ | _ | _ | _ | _ | _ | _ | c <;> simp only [zfl, e] <;> rfl
  unfold zcl
  rw [f]
  rfl
theorem zcl_AI {S : hS} {a b : Nat} {g : Nat → Int32} (h : b ≠ a) : zcl (szAI S a g) b = zcl S b := by
  have e : zAI (szAI S a g) b = zAI S b := by
    unfold zAI szAI zup
    simp only [if_neg h]
  have f : ∀ c, zfl c (szAI S a g) b = zfl c S b := by
    intro c
    rcases c with _ | _ | _ | _ | _ | _ | _ | _ | _ | _ | c <;> rfl
  unfold zcl
  rw [e, f]
  rfl
theorem zcl_AR {S : hS} {a b : Nat} {g : Nat → Option Nat} (h : b ≠ a) : zcl (szAR S a g) b = zcl S b := by
  have e : zAR (szAR S a g) b = zAR S b := by
    unfold zAR szAR zup
    simp only [if_neg h]
  have f : ∀ c, zfl c (szAR S a g) b = zfl c S b := by
    intro c
    rcases c with _ | _ | _ | _ | _ | _ | _ | _ | _ | _ | c <;> rfl
  unfold zcl
  rw [e, f]
  rfl
theorem zI_self (S : hS) (k a : Nat) (v : Int32) : zI (szI S k a v) k a = v := by simp [zI, szI, zup2]
theorem zL_self (S : hS) (a : Nat) (v : Int64) : zL (szL S a v) a = v := by simp [zL, szL, zup]
theorem zR_self (S : hS) (k a : Nat) (v : Option Nat) : zR (szR S k a v) k a = v := by simp [zR, szR, zup2]
theorem zAI_self (S : hS) (a : Nat) (g : Nat → Int32) : zAI (szAI S a g) a = g := by simp [zAI, szAI, zup]
theorem zAR_self (S : hS) (a : Nat) (g : Nat → Option Nat) : zAR (szAR S a g) a = g := by simp [zAR, szAR, zup]
def zok (S : hS) (a : Nat) (v : Option Nat) : Bool := decide (24 ≤ ztg S a) && decide (ztg S a < 28) && (match v with | none => true | some b => ztg S b == ie_kc (ztg S a - 20) + 1)
abbrev zbe (n : Int32) : Prop := 0 ≤ n.toInt ∧ n.toInt ≤ 100000
abbrev zcpk (n : Int32) (S : hS) (a b : Nat) : Prop := 0 ≤ n.toInt ∧ n.toNatClampNeg ≤ zLen S a ∧ n.toNatClampNeg ≤ zLen S b
def zob {β : Type} (o : Option Nat) (f : Nat → Option β) : Option β := match o with
  | none => none
  | some a => f a
theorem zob_inv {β : Type} {o : Option Nat} {f : Nat → Option β} {y : β} (h : zob o f = some y) : ∃ a, o = some a ∧ f a = some y := by
  cases o with
  | none => cases h
  | some a => exact ⟨a, rfl, h⟩
def zoc {β : Type} (o : Option Nat) (x : Option β) (f : Nat → Option β) : Option β := match o with
  | none => x
  | some a => f a
theorem zoc_n {β : Type} {x : Option β} {f : Nat → Option β} {y : Option β} (h : zoc none x f = y) : x = y := h
theorem zoc_s {β : Type} {x : Option β} {f : Nat → Option β} {y : Option β} {a : Nat} (h : zoc (some a) x f = y) : f a = y := h
def zlb {β : Type} (o : Option Nat) (f : Option Nat → Option β) : Option β := f o
theorem zlb_inv {β : Type} {o : Option Nat} {f : Option Nat → Option β} {y : β} (h : zlb o f = some y) : ∃ p, o = p ∧ f p = some y := ⟨o, rfl, h⟩
def znw {β : Type} (S : hS) (ci : Nat) (f : hS → Nat → Option β) : Option β := if S.1 < ie_S then f (szN S ci) S.1 else none
def zna {β : Type} (S : hS) (t n : Nat) (f : hS → Nat → Option β) : Option β := if S.1 < ie_S then f (szNA S t n) S.1 else none
theorem znw_inv {β : Type} {S : hS} {ci : Nat} {f : hS → Nat → Option β} {y : β} (h : znw S ci f = some y) : ∃ S1 a1, (szN S ci = S1 ∧ S.1 < ie_S) ∧ S.1 = a1 ∧ f S1 a1 = some y := by
  unfold znw at h
  by_cases q : S.1 < ie_S
  · rw [if_pos q] at h; exact ⟨_, _, ⟨rfl, q⟩, rfl, h⟩
  · rw [if_neg q] at h; cases h
theorem zna_inv {β : Type} {S : hS} {t n : Nat} {f : hS → Nat → Option β} {y : β} (h : zna S t n f = some y) : ∃ S1 a1, (szNA S t n = S1 ∧ S.1 < ie_S) ∧ S.1 = a1 ∧ f S1 a1 = some y := by
  unfold zna at h
  by_cases q : S.1 < ie_S
  · rw [if_pos q] at h; exact ⟨_, _, ⟨rfl, q⟩, rfl, h⟩
  · rw [if_neg q] at h; cases h
def zcV {β : Type} (x : Option hS) (f : hS → Option β) : Option β := match x with
  | none => none
  | some S => f S
theorem zcV_inv {β : Type} {x : Option hS} {f : hS → Option β} {y : β} (h : zcV x f = some y) : ∃ S, x = some S ∧ f S = some y := by
  cases x with
  | none => cases h
  | some S => exact ⟨S, rfl, h⟩
def zcP {α β : Type} (x : Option (hS × α)) (f : hS → α → Option β) : Option β := match x with
  | none => none
  | some r => f r.1 r.2
theorem zcP_inv {α β : Type} {x : Option (hS × α)} {f : hS → α → Option β} {y : β} (h : zcP x f = some y) : ∃ S v, x = some (S, v) ∧ f S v = some y := by
  cases x with
  | none => cases h
  | some r => exact ⟨r.1, r.2, rfl, h⟩
def zcTv (r : hS × (Nat ⊕ Int32)) (f : hS → Int32 → Option (hS × (Nat ⊕ Int32))) : Option (hS × (Nat ⊕ Int32)) := match r with
  | (S, .inl c) => some (S, .inl c)
  | (S, .inr v) => f S v
def zcT (x : Option (hS × (Nat ⊕ Int32))) (f : hS → Int32 → Option (hS × (Nat ⊕ Int32))) : Option (hS × (Nat ⊕ Int32)) := match x with
  | none => none
  | some r => zcTv r f
theorem zcT_inv {x : Option (hS × (Nat ⊕ Int32))} {f : hS → Int32 → Option (hS × (Nat ⊕ Int32))} {y : hS × (Nat ⊕ Int32)} (h : zcT x f = some y) : ∃ S w, x = some (S, w) ∧ zcTv (S, w) f = some y := by
  cases x with
  | none => cases h
  | some r => exact ⟨r.1, r.2, rfl, h⟩
theorem zcT_v {S : hS} {v : Int32} {f : hS → Int32 → Option (hS × (Nat ⊕ Int32))} {y : Option (hS × (Nat ⊕ Int32))} (h : zcTv (S, .inr v) f = y) : f S v = y := h
def roI (r : Nat ⊕ Int32) : ie_O := match r with
  | .inl c => .inr c
  | .inr v => .inl (some (.int v))
def roV (r : Nat ⊕ Int32) : ie_O := match r with
  | .inl c => .inr c
  | .inr _ => .inl none
theorem zgd {β : Type} {c : Prop} [Decidable c] {x : Option β} {y : β} (h : (if c then x else none) = some y) : c ∧ x = some y := by
  by_cases q : c
  · rw [if_pos q] at h; exact ⟨q, h⟩
  · rw [if_neg q] at h; cases h
theorem ztg_newN {S S1 : hS} {ci a1 : Nat} (e : szN S ci = S1 ∧ S.1 < ie_S) (ea : S.1 = a1) : ztg S1 a1 = ci + 1 := by
  obtain ⟨rfl, h⟩ := e
  subst ea
  have e : (szN S ci).2.1 S.1 = ci + 1 := by simp [szN, zup]
  unfold ztg
  rw [if_pos ⟨Nat.lt_succ_self _, h⟩]
  exact e
theorem ztg_newA {S S1 : hS} {t n a1 : Nat} (e : szNA S t n = S1 ∧ S.1 < ie_S) (ea : S.1 = a1) : ztg S1 a1 = 20 + t := by
  obtain ⟨rfl, h⟩ := e
  subst ea
  have e : (szNA S t n).2.1 S.1 = 20 + t := by simp [szNA, zup]
  unfold ztg
  rw [if_pos ⟨Nat.lt_succ_self _, h⟩]
  exact e
theorem ztg_oldN {S S1 : hS} {ci b t : Nat} (e : szN S ci = S1 ∧ S.1 < ie_S) (h : ztg S b = t) (h0 : Nat.beq t 0 = false) : ztg S1 b = t := by
  obtain ⟨rfl, -⟩ := e
  cases t with
  | zero => cases h0
  | succ t =>
    obtain ⟨h1, h2, h3⟩ := ztg_lt h
    have h4 : b < ie_S := by
      unfold ztg at h
      by_cases q : b < S.1 ∧ b < ie_S
      · exact q.2
      · rw [if_neg q] at h; cases h
    unfold ztg szN zup
    rw [if_pos ⟨by show b < S.1 + 1; omega, h4⟩]
    show (if b = S.1 then _ else S.2.1 b) = _
    rw [if_neg (by omega)]
    exact h3
theorem ztg_oldA {S S1 : hS} {u n b t : Nat} (e : szNA S u n = S1 ∧ S.1 < ie_S) (h : ztg S b = t) (h0 : Nat.beq t 0 = false) : ztg S1 b = t := by
  obtain ⟨rfl, -⟩ := e
  cases t with
  | zero => cases h0
  | succ t =>
    obtain ⟨h1, h2, h3⟩ := ztg_lt h
    have h4 : b < ie_S := by
      unfold ztg at h
      by_cases q : b < S.1 ∧ b < ie_S
      · exact q.2
      · rw [if_neg q] at h; cases h
    unfold ztg szNA zup
    rw [if_pos ⟨by show b < S.1 + 1; omega, h4⟩]
    show (if b = S.1 then _ else S.2.1 b) = _
    rw [if_neg (by omega)]
    exact h3
theorem zfl_new {S : hS} : ∀ ci, ci < 10 → zfl ci (szN S ci) S.1 = ie_df ci := by
  intro ci h
  have e1 : ∀ j c, zI (szN S c) j S.1 = 0 := by intro j c; simp [zI, szN, zall]
  have e2 : ∀ c, zL (szN S c) S.1 = 0 := by intro c; simp [zL, szN, zup]
  have e3 : ∀ j c, zR (szN S c) j S.1 = none := by intro j c; simp [zR, szN, zall]
  rcases ci with _ | _ | _ | _ | _ | _ | _ | _ | _ | _ | ci
  all_goals first | (simp only [zfl, e1, e2, e3]; rfl) | (exfalso; omega)
theorem zcl_old {S S' : hS} {b : Nat} (h1 : S'.2.1 b = S.2.1 b) (h2 : zLen S' b = zLen S b) (h3 : ∀ k, zI S' k b = zI S k b) (h4 : zL S' b = zL S b) (h5 : ∀ k, zR S' k b = zR S k b) (h6 : zAI S' b = zAI S b) (h7 : zAR S' b = zAR S b) (h8 : zAL S' b = zAL S b) (h9 : zMI S' = zMI S) (h10 : zMA S' = zMA S) : zcl S' b = zcl S b := by
  have f : ∀ c, zfl c S' b = zfl c S b := by
    intro c
    rcases c with _ | _ | _ | _ | _ | _ | _ | _ | _ | _ | c <;> simp only [zfl, h3, h4, h5]
  unfold zcl
  rw [h1, f, h2, h6, h7, h8, h9, h10]
theorem zup_ne {α : Type} {f : Nat → α} {a b : Nat} {v : α} (h : b ≠ a) : zup f a v b = f b := if_neg h
theorem zall_ne {α : Type} {f : Nat → Nat → α} {a b k : Nat} {v : α} (h : b ≠ a) : zall f a v k b = f k b := if_neg h
theorem zhp_new {S : hS} {ci : Nat} (h : ci < 10) : zhp S ++ [.inr (ci, ie_df ci)] = zhp (szN S ci) := by
  refine zhp_app rfl ?_ ?_
  · unfold zcl
    have e : (szN S ci).2.1 S.1 = ci + 1 := by simp [szN, zup]
    rw [e, if_pos (by omega), Nat.add_sub_cancel, zfl_new ci h]
  · intro b hb
    have n : b ≠ S.1 := by omega
    exact zcl_old (zup_ne n) rfl (fun k => zall_ne n) (zup_ne n) (fun k => zall_ne n) rfl rfl rfl rfl rfl
theorem zhp_na {S : hS} {t n : Nat} (h : t < 8) : zhp S ++ [ie_z t n] = zhp (szNA S t n) := by
  refine zhp_app rfl ?_ ?_
  · unfold zcl
    have e : (szNA S t n).2.1 S.1 = 20 + t := by simp [szNA, zup]
    have e1 : zLen (szNA S t n) S.1 = n := by simp [zLen, szNA, zup]
    have e2 : zAI (szNA S t n) S.1 = fun _ => 0 := by simp [zAI, szNA, zup]
    have e3 : zAR (szNA S t n) S.1 = fun _ => none := by simp [zAR, szNA, zup]
    have e4 : zAL (szNA S t n) S.1 = fun _ => 0 := by simp [zAL, szNA, zup]
    rw [e, e1, e2, e3, e4, if_neg (by omega), if_neg (by omega), if_neg (by omega), show 20 + t - 20 = t by omega]
    unfold ie_z
    by_cases q : t < 3
    · rw [if_pos (by omega), if_pos q]
    · rw [if_neg (by omega), if_neg q]
      by_cases q2 : t = 3
      · rw [if_pos (by omega), if_pos q2, q2]
      · rw [if_neg (by omega), if_neg q2, if_pos (by omega)]
  · intro b hb
    have n : b ≠ S.1 := by omega
    exact zcl_old (zup_ne n) (zup_ne n) (fun k => rfl) rfl (fun k => rfl) (zup_ne n) (zup_ne n) (zup_ne n) rfl rfl
theorem zhp_ex {S : hS} {ci : Nat} : zhp S ++ [.inr (ci, [])] = zhp (szEx S ci) := by
  refine zhp_app rfl ?_ ?_
  · unfold zcl
    have e : (szEx S ci).2.1 S.1 = 40 + ci := by simp [szEx, zup]
    rw [e, if_neg (by omega), if_neg (by omega), if_neg (by omega), if_neg (by omega), if_neg (by omega), if_neg (by omega), show 40 + ci - 40 = ci by omega]
  · intro b hb
    have n : b ≠ S.1 := by omega
    exact zcl_old (zup_ne n) rfl (fun k => rfl) rfl (fun k => rfl) rfl rfl rfl rfl rfl
def szAL (S : hS) (a : Nat) (f : Nat → Int64) : hS := (S.1, S.2.1, S.2.2.1, S.2.2.2.1, S.2.2.2.2.1, S.2.2.2.2.2.1, S.2.2.2.2.2.2.1, S.2.2.2.2.2.2.2.1, zup S.2.2.2.2.2.2.2.2.1 a f, S.2.2.2.2.2.2.2.2.2.1, S.2.2.2.2.2.2.2.2.2.2)
theorem zAL_self (S : hS) (a : Nat) (g : Nat → Int64) : zAL (szAL S a g) a = g := by simp [zAL, szAL, zup]
theorem zcl_AL {S : hS} {a b : Nat} {g : Nat → Int64} (h : b ≠ a) : zcl (szAL S a g) b = zcl S b := by
  have e : zAL (szAL S a g) b = zAL S b := by
    unfold zAL szAL zup
    simp only [if_neg h]
  have f : ∀ c, zfl c (szAL S a g) b = zfl c S b := by
    intro c
    rcases c with _ | _ | _ | _ | _ | _ | _ | _ | _ | _ | c <;> rfl
  unfold zcl
  rw [e, f]
  rfl
def zcHv {β : Type} (r : hS × (Nat ⊕ Int32)) (g : hS → Nat → Option β) (f : hS → Int32 → Option β) : Option β := match r with
  | (S, .inl c) => g S c
  | (S, .inr v) => f S v
def zcH {β : Type} (x : Option (hS × (Nat ⊕ Int32))) (g : hS → Nat → Option β) (f : hS → Int32 → Option β) : Option β := match x with
  | none => none
  | some r => zcHv r g f
theorem zcH_inv {β : Type} {x : Option (hS × (Nat ⊕ Int32))} {g : hS → Nat → Option β} {f : hS → Int32 → Option β} {y : β} (h : zcH x g f = some y) : ∃ S w, x = some (S, w) ∧ zcHv (S, w) g f = some y := by
  cases x with
  | none => cases h
  | some r => exact ⟨r.1, r.2, rfl, h⟩
theorem zcH_v {β : Type} {S : hS} {v : Int32} {g : hS → Nat → Option β} {f : hS → Int32 → Option β} {y : Option β} (h : zcHv (S, .inr v) g f = y) : f S v = y := h
theorem zcH_t {β : Type} {S : hS} {c : Nat} {g : hS → Nat → Option β} {f : hS → Int32 → Option β} {y : Option β} (h : zcHv (S, .inl c) g f = y) : g S c = y := h
def zsz (S : hS) (b : Nat) : Nat := if S.2.1 b < 11 then 12 else if S.2.1 b < 20 then 1000 else if S.2.1 b < 28 then S.2.2.1 b else 6
def Ex (S T : hS) : Prop := S.1 ≤ T.1 ∧ (∀ b, b < S.1 → T.2.1 b = S.2.1 b ∧ T.2.2.1 b = S.2.2.1 b) ∧ (∀ b, S.1 ≤ b → b < T.1 → zsz T b ≤ 16) ∧ zMI T = zMI S ∧ zMA T = zMA S
theorem Ex_r {S : hS} : Ex S S := ⟨Nat.le_refl _, fun _ _ => ⟨rfl, rfl⟩, fun b h1 h2 => absurd h2 (by omega), rfl, rfl⟩
theorem Ex_t {S T U : hS} (h1 : Ex S T) (h2 : Ex T U) : Ex S U := by
  obtain ⟨a1, a2, a3, a4, a5⟩ := h1
  obtain ⟨b1, b2, b3, b4, b5⟩ := h2
  refine ⟨by omega, ?_, ?_, by rw [b4, a4], by rw [b5, a5]⟩
  · intro b hb
    obtain ⟨c1, c2⟩ := b2 b (by omega)
    obtain ⟨e1, e2⟩ := a2 b hb
    exact ⟨by rw [c1, e1], by rw [c2, e2]⟩
  · intro b h3 h4
    by_cases q : b < T.1
    · have := a3 b h3 q
      obtain ⟨c1, c2⟩ := b2 b q
      unfold zsz at this ⊢
      rw [c1, c2]
      exact this
    · exact b3 b (by omega) h4
theorem Ex_n {S S1 : hS} {ci : Nat} (h : ci < 10) (e : szN S ci = S1 ∧ S.1 < ie_S) : Ex S S1 := by
  obtain ⟨rfl, -⟩ := e
  refine ⟨Nat.le_succ _, ?_, ?_, rfl, rfl⟩
  · intro b hb
    exact ⟨zup_ne (by omega), rfl⟩
  · intro b h1 h2
    have : b = S.1 := by
      have : b < S.1 + 1 := h2
      omega
    subst this
    have e : (szN S ci).2.1 S.1 = ci + 1 := by simp [szN, zup]
    unfold zsz
    rw [e, if_pos (by omega)]
    decide
theorem Ex_a {S S1 : hS} {t n : Nat} (h : n ≤ 16) (e : szNA S t n = S1 ∧ S.1 < ie_S) : Ex S S1 := by
  obtain ⟨rfl, -⟩ := e
  refine ⟨Nat.le_succ _, ?_, ?_, rfl, rfl⟩
  · intro b hb
    exact ⟨zup_ne (by omega), zup_ne (by omega)⟩
  · intro b h1 h2
    have : b = S.1 := by
      have : b < S.1 + 1 := h2
      omega
    subst this
    have e : (szNA S t n).2.1 S.1 = 20 + t := by simp [szNA, zup]
    have e2 : (szNA S t n).2.2.1 S.1 = n := by simp [szNA, zup]
    unfold zsz
    rw [e, e2, if_neg (by omega), if_neg (by omega)]
    split
    · exact h
    · decide
theorem Ex_ex {S : hS} {ci : Nat} : Ex S (szEx S ci) := by
  refine ⟨Nat.le_succ _, ?_, ?_, rfl, rfl⟩
  · intro b hb
    exact ⟨zup_ne (by omega), rfl⟩
  · intro b h1 h2
    have : b = S.1 := by
      have : b < S.1 + 1 := h2
      omega
    subst this
    have e : (szEx S ci).2.1 S.1 = 40 + ci := by simp [szEx, zup]
    unfold zsz
    rw [e, if_neg (by omega), if_neg (by omega), if_neg (by omega)]
    decide
section ZR
variable {X : ie_X} {d m pc len idx : Nat} {r : Nat × Nat × Nat} {ls : ie_L} {st : List Value} {S S1 : hS} {o : ie_O} {h' : ie_H} {ci k w a a1 : Nat}
theorem go_hg {v : Value} (hat : ie_at m pc = some ((.getfield idx, len), (ci, k, w))) (ht : ztg S a = ci + 1) (hc : ci < 10) (hv : (zfl ci S a)[k]? = some v) (kk : Go X d m (pc + 3, ls, v :: st, zhp S) o h') : Go X d m (pc, ls, .ref a :: st, zhp S) o h' := go_gf hat (zhp_obj ht hc) hv kk
theorem go_hpI {v : Int32} (hat : ie_at m pc = some ((.putfield idx, len), (ci, k, w))) (ht : ztg S a = ci + 1) (hc : ci < 10) (hf : ie_fitb ((ie_fl.getD ci (fun _ => .int)) k) (.int v) = true) (hk : k < (zfl ci S a).length) (hs : (zfl ci S a).set k (.int v) = zfl ci (szI S k a v) a) (kk : Go X d m (pc + 3, ls, st, zhp (szI S k a v)) o h') : Go X d m (pc, ls, .int v :: .ref a :: st, zhp S) o h' := by
  refine go_pf hat (zhp_obj ht hc) hk hf (zhp_set (S' := szI S k a v) rfl ?_ (fun b hb => zcl_I hb)) kk
  obtain ⟨-, -, h3⟩ := ztg_lt ht
  unfold zcl
  rw [show (szI S k a v).2.1 a = ci + 1 from h3, if_pos (by omega), Nat.add_sub_cancel, hs]
theorem go_hpL {v : Int64} (hat : ie_at m pc = some ((.putfield idx, len), (ci, k, w))) (ht : ztg S a = ci + 1) (hc : ci < 10) (hf : ie_fitb ((ie_fl.getD ci (fun _ => .int)) k) (.long v) = true) (hk : k < (zfl ci S a).length) (hs : (zfl ci S a).set k (.long v) = zfl ci (szL S a v) a) (kk : Go X d m (pc + 3, ls, st, zhp (szL S a v)) o h') : Go X d m (pc, ls, .long v :: .ref a :: st, zhp S) o h' := by
  refine go_pf hat (zhp_obj ht hc) hk hf (zhp_set (S' := szL S a v) rfl ?_ (fun b hb => zcl_L hb)) kk
  obtain ⟨-, -, h3⟩ := ztg_lt ht
  unfold zcl
  rw [show (szL S a v).2.1 a = ci + 1 from h3, if_pos (by omega), Nat.add_sub_cancel, hs]
theorem go_hpR {v : Option Nat} (hat : ie_at m pc = some ((.putfield idx, len), (ci, k, w))) (ht : ztg S a = ci + 1) (hc : ci < 10) (hf : ie_fitb ((ie_fl.getD ci (fun _ => .int)) k) (va_rf v) = true) (hk : k < (zfl ci S a).length) (hs : (zfl ci S a).set k (va_rf v) = zfl ci (szR S k a v) a) (kk : Go X d m (pc + 3, ls, st, zhp (szR S k a v)) o h') : Go X d m (pc, ls, va_rf v :: .ref a :: st, zhp S) o h' := by
  refine go_pf hat (zhp_obj ht hc) hk hf (zhp_set (S' := szR S k a v) rfl ?_ (fun b hb => zcl_R hb)) kk
  obtain ⟨-, -, h3⟩ := ztg_lt ht
  unfold zcl
  rw [show (szR S k a v).2.1 a = ci + 1 from h3, if_pos (by omega), Nat.add_sub_cancel, hs]
theorem go_hald0 {i v : Int32} {g : Nat → Int32} (hat : ie_at m pc = some ((.iaload, len), r)) (ht : ztg S a = 20) (hi : ib i (zLen S a)) (hr : zAI S a = g) (hv : g i.toNatClampNeg = v) (kk : Go X d m (pc + 1, ls, .int v :: st, zhp S) o h') : Go X d m (pc, ls, .int i :: .ref a :: st, zhp S) o h' := go_iald hat (ztg_lt ht).2.1 (zhp_iar (t := 0) ht (by decide)) hi (by rw [hr]; exact hv) kk
theorem go_hald1 {i v : Int32} {g : Nat → Int32} (hat : ie_at m pc = some ((.caload, len), r)) (ht : ztg S a = 21) (hi : ib i (zLen S a)) (hr : zAI S a = g) (hv : g i.toNatClampNeg = v) (kk : Go X d m (pc + 1, ls, .int v :: st, zhp S) o h') : Go X d m (pc, ls, .int i :: .ref a :: st, zhp S) o h' := go_cald hat (ztg_lt ht).2.1 (zhp_iar (t := 1) ht (by decide)) hi (by rw [hr]; exact hv) kk
theorem go_hald2 {i v : Int32} {g : Nat → Int32} (hat : ie_at m pc = some ((.baload, len), r)) (ht : ztg S a = 22) (hi : ib i (zLen S a)) (hr : zAI S a = g) (hv : g i.toNatClampNeg = v) (kk : Go X d m (pc + 1, ls, .int v :: st, zhp S) o h') : Go X d m (pc, ls, .int i :: .ref a :: st, zhp S) o h' := go_bald hat (ztg_lt ht).2.1 (zhp_iar (t := 2) ht (by decide)) hi (by rw [hr]; exact hv) kk
theorem zhp_ais {t : Nat} {g : Nat → Int32} (ht : ztg S a = 20 + t) (hc : t < 3) : List.set (zhp S) a (.inl (t, zLen S a, .inl g)) = zhp (szAI S a g) := by
  refine zhp_set (S' := szAI S a g) rfl ?_ (fun b hb => zcl_AI hb)
  obtain ⟨-, -, h3⟩ := ztg_lt (t := 19 + t) (by rw [ht]; omega)
  unfold zcl
  rw [show (szAI S a g).2.1 a = 19 + t + 1 from h3, if_neg (by omega), if_neg (by omega), if_neg (by omega), if_pos (by omega), show 19 + t + 1 - 20 = t by omega, zAI_self]
  rfl
theorem go_hast0 {i x : Int32} {g g2 : Nat → Int32} (hat : ie_at m pc = some ((.iastore, len), r)) (ht : ztg S a = 20) (hi : ib i (zLen S a)) (hr : zAI S a = g) (he : upd g i.toNatClampNeg x = g2) (kk : Go X d m (pc + 1, ls, st, zhp (szAI S a g2)) o h') : Go X d m (pc, ls, .int x :: .int i :: .ref a :: st, zhp S) o h' := go_iast hat (zhp_iar (t := 0) ht (by decide)) hi (by rw [hr, he]; exact zhp_ais (t := 0) ht (by decide)) kk
theorem go_hast1 {i x : Int32} {g g2 : Nat → Int32} (hat : ie_at m pc = some ((.castore, len), r)) (ht : ztg S a = 21) (hi : ib i (zLen S a)) (hr : zAI S a = g) (he : upd g i.toNatClampNeg (vp_nar .char x) = g2) (kk : Go X d m (pc + 1, ls, st, zhp (szAI S a g2)) o h') : Go X d m (pc, ls, .int x :: .int i :: .ref a :: st, zhp S) o h' := go_cast hat (zhp_iar (t := 1) ht (by decide)) hi (by rw [hr, he]; exact zhp_ais (t := 1) ht (by decide)) kk
theorem go_hast2 {i x : Int32} {g g2 : Nat → Int32} (hat : ie_at m pc = some ((.bastore, len), r)) (ht : ztg S a = 22) (hi : ib i (zLen S a)) (hr : zAI S a = g) (he : upd g i.toNatClampNeg (vp_nar .boolean x) = g2) (kk : Go X d m (pc + 1, ls, st, zhp (szAI S a g2)) o h') : Go X d m (pc, ls, .int x :: .int i :: .ref a :: st, zhp S) o h' := go_bast hat (zhp_iar (t := 2) ht (by decide)) hi (by rw [hr, he]; exact zhp_ais (t := 2) ht (by decide)) kk
theorem go_haald {i : Int32} {g : Nat → Option Nat} {v : Option Nat} (hat : ie_at m pc = some ((.aaload, len), r)) (ht : zar S a) (hi : ib i (zLen S a)) (hr : zAR S a = g) (hv : g i.toNatClampNeg = v) (kk : Go X d m (pc + 1, ls, va_rf v :: st, zhp S) o h') : Go X d m (pc, ls, .int i :: .ref a :: st, zhp S) o h' := go_aald hat (zhp_rar ht) (by have := ht.1; have := ht.2; omega) hi (by rw [hr]; exact hv) kk
theorem zhp_ars {g : Nat → Option Nat} (ht : zar S a) : List.set (zhp S) a (.inl (ztg S a - 20, zLen S a, .inr (.inr (.inr (.inr g))))) = zhp (szAR S a g) := by
  refine zhp_set (S' := szAR S a g) rfl ?_ (fun b hb => zcl_AR hb)
  obtain ⟨t, ht2⟩ : ∃ t, ztg S a = t + 1 := ⟨ztg S a - 1, by have := ht.1; omega⟩
  obtain ⟨-, -, h3⟩ := ztg_lt ht2
  obtain ⟨g1, g2⟩ := ht
  rw [ht2] at g1 g2 ⊢
  unfold zcl
  rw [show (szAR S a g).2.1 a = t + 1 from h3, if_neg (by omega), if_neg (by omega), if_neg (by omega), if_neg (by omega), if_neg (by omega), if_pos (by omega), zAR_self]
  rfl
theorem go_haast {i : Int32} {g g2 : Nat → Option Nat} {v : Option Nat} (hat : ie_at m pc = some ((.aastore, len), r)) (ht : zok S a v = true) (hi : ib i (zLen S a)) (hr : zAR S a = g) (he : va_up g i.toNatClampNeg v = g2) (kk : Go X d m (pc + 1, ls, st, zhp (szAR S a g2)) o h') : Go X d m (pc, ls, va_rf v :: .int i :: .ref a :: st, zhp S) o h' := by
  unfold zok at ht
  rw [Bool.and_eq_true, Bool.and_eq_true, decide_eq_true_eq, decide_eq_true_eq] at ht
  have hz : zar S a := ht.1
  cases v with
  | none =>
    refine go_step hat ?_ kk
    show ie_ast pc ls (.null :: .int i :: .ref a :: st) (zhp S) = _
    simp only [ie_ast, zhp_rar hz]
    rw [if_pos ⟨by have := hz.1; omega, by have := hz.2; omega⟩, if_pos hi, hr, he, zhp_ars hz]
    rfl
  | some b =>
    have hb : ztg S b = ie_kc (ztg S a - 20) + 1 := by
      have := ht.2
      simpa using this
    have hk : ie_kc (ztg S a - 20) < 10 := by
      unfold ie_kc
      split
      · decide
      · split
        · decide
        · split
          · decide
          · decide
    exact go_aast hat (zhp_rar hz) (zhp_obj hb hk) ⟨by have := hz.1; omega, by have := hz.2; omega⟩ hi (by rw [hr, he, zhp_ars hz]) kk
theorem go_hlen (hat : ie_at m pc = some ((.arraylength, len), r)) (ht : zal S a) (kk : Go X d m (pc + 1, ls, .int (Int32.ofNat (zLen S a)) :: st, zhp S) o h') : Go X d m (pc, ls, .ref a :: st, zhp S) o h' := by
  obtain ⟨t, ht2⟩ : ∃ t, ztg S a = t + 1 := ⟨ztg S a - 1, by have := ht.1; omega⟩
  obtain ⟨h1, h2, h3⟩ := ztg_lt ht2
  obtain ⟨g1, g2⟩ := ht
  rw [ht2] at g1 g2
  have hc : ∃ z, zcl S a = .inl (t + 1 - 20, zLen S a, z) := by
    unfold zcl
    rw [h3, if_neg (by omega), if_neg (by omega), if_neg (by omega)]
    by_cases q1 : t + 1 < 23
    · rw [if_pos q1]; exact ⟨_, rfl⟩
    · rw [if_neg q1]
      by_cases q2 : t + 1 = 23
      · rw [if_pos q2, q2]; exact ⟨_, rfl⟩
      · rw [if_neg q2, if_pos g2]; exact ⟨_, rfl⟩
  obtain ⟨z, hz⟩ := hc
  exact go_len hat h2 (by rw [zhp_get h1, hz]) (by omega) rfl kk
theorem go_hnew (hat : ie_at m pc = some ((.new idx, len), (ci, k, w))) (hc : ci < 10) (_he : (0 : Nat) = 0) (eS : szN S ci = S1 ∧ S.1 < ie_S) (ea : S.1 = a1) (kk : Go X d m (pc + 3, ls, .ref a1 :: st, zhp S1) o h') : Go X d m (pc, ls, st, zhp S) o h' := by
  obtain ⟨rfl, -⟩ := eS
  subst ea
  refine go_step hat ?_ kk
  show ie_new ci pc ls st (zhp S) = _
  unfold ie_new
  rw [if_pos (by omega), zhp_len, zhp_new hc]
  rfl
theorem go_hna {ty : ArrayType} {t q n9 : Nat} {n : Int32} (hat : ie_at m pc = some ((.newarray ty, len), (t, q, w))) (ht : t < 8) (hn : zbe n) (hx : n.toNatClampNeg = n9) (eS : szNA S t n9 = S1 ∧ S.1 < ie_S) (ea : S.1 = a1) (kk : Go X d m (pc + 2, ls, .ref a1 :: st, zhp S1) o h') : Go X d m (pc, ls, .int n :: st, zhp S) o h' := by
  obtain ⟨rfl, -⟩ := eS
  subst ea hx
  refine go_step hat ?_ kk
  show ie_na 2 t pc ls (.int n :: st) (zhp S) = _
  unfold ie_na
  simp only
  rw [if_pos hn, zhp_len, zhp_na ht]
  rfl
theorem go_hnr {t q n9 : Nat} {n : Int32} (hat : ie_at m pc = some ((.anewarray idx, len), (t, q, w))) (ht : t < 8) (hn : zbe n) (hx : n.toNatClampNeg = n9) (eS : szNA S t n9 = S1 ∧ S.1 < ie_S) (ea : S.1 = a1) (kk : Go X d m (pc + 3, ls, .ref a1 :: st, zhp S1) o h') : Go X d m (pc, ls, .int n :: st, zhp S) o h' := by
  obtain ⟨rfl, -⟩ := eS
  subst ea hx
  refine go_step hat ?_ kk
  show ie_na 3 t pc ls (.int n :: st) (zhp S) = _
  unfold ie_na
  simp only
  rw [if_pos hn, zhp_len, zhp_na ht]
  rfl
theorem go_hexc (hat : ie_at m pc = some ((.new idx, len), (ci, k, w))) (hc : ¬ ci < 11) (hs : ie_cat st ≤ 8) : Go X d m (pc, ls, st, zhp S) (.inr ci) (zhp (szEx S ci)) := by
  refine go_end hat ?_
  show ie_new ci pc ls st (zhp S) = _
  unfold ie_new
  rw [if_neg hc, if_pos hs, zhp_ex]
  rfl
theorem go_hcp {n : Int32} {b : Nat} {q : Nat} (hat : ie_at m pc = some ((.invokestatic idx, len), (10001, q, w))) (ha : ztg S a = 20) (hb : ztg S b = 20) (hn : zcpk n S a b) (hc : ie_cat st ≤ 8) (kk : Go X d m (pc + 3, ls, st, zhp (szAI S b (va_cpy (zAI S a) (zAI S b) 0 0 n.toNatClampNeg))) o h') : Go X d m (pc, ls, .int n :: .int 0 :: .ref b :: .int 0 :: .ref a :: st, zhp S) o h' := by
  refine go_step hat ?_ kk
  show ie_is 10001 q pc ls _ (zhp S) = _
  unfold ie_is
  rw [if_pos rfl]
  have e1 := zhp_iar (t := 0) ha (by decide)
  have e2 := zhp_iar (t := 0) hb (by decide)
  simp only [ie_cp, e1, e2]
  rw [if_pos ⟨⟨by decide, by decide, hn.1⟩, by simpa using hn.2.1, by simpa using hn.2.2, hc⟩]
  show ie_nx (pc + 3) ls st (List.set (zhp S) b (.inl (0, zLen S b, .inl (va_cpy (zAI S a) (zAI S b) 0 0 n.toNatClampNeg)))) = _
  rw [zhp_ais (t := 0) hb (by decide)]
  rfl
theorem go_al {v : Option Nat} {k4 : Fin 4} (hat : ie_at m pc = some ((.aload_n k4, len), r)) (hl : ls[k4.val]? = some (some (va_rf v))) (kk : Go X d m (pc + 1, ls, va_rf v :: st, zhp S) o h') : Go X d m (pc, ls, st, zhp S) o h' := by
  refine go_step hat ?_ kk
  cases v with
  | none => show ie_la 1 k4.val pc ls st (zhp S) = _; unfold ie_la; rw [hl]; rfl
  | some b => show ie_la 1 k4.val pc ls st (zhp S) = _; unfold ie_la; rw [hl]; rfl
theorem go_al2 {v : Option Nat} (hat : ie_at m pc = some ((.aload k, len), r)) (hl : ls[k]? = some (some (va_rf v))) (kk : Go X d m (pc + 2, ls, va_rf v :: st, zhp S) o h') : Go X d m (pc, ls, st, zhp S) o h' := by
  refine go_step hat ?_ kk
  cases v with
  | none => show ie_la 2 k pc ls st (zhp S) = _; unfold ie_la; rw [hl]; rfl
  | some b => show ie_la 2 k pc ls st (zhp S) = _; unfold ie_la; rw [hl]; rfl
theorem go_as {v : Option Nat} {k4 : Fin 4} (hat : ie_at m pc = some ((.astore_n k4, len), r)) (kk : Go X d m (pc + 1, ls.set k4.val (some (va_rf v)), st, zhp S) o h') : Go X d m (pc, ls, va_rf v :: st, zhp S) o h' := by
  refine go_step hat ?_ kk
  cases v with
  | none => rfl
  | some b => rfl
theorem go_as2 {v : Option Nat} (hat : ie_at m pc = some ((.astore k, len), r)) (kk : Go X d m (pc + 2, ls.set k (some (va_rf v)), st, zhp S) o h') : Go X d m (pc, ls, va_rf v :: st, zhp S) o h' := by
  refine go_step hat ?_ kk
  cases v with
  | none => rfl
  | some b => rfl
theorem go_reta {v : Option Nat} {ty : FieldType} (hat : ie_at m pc = some ((.areturn, len), r)) (hr : ie_ret m = some ty) (h1 : ie_fitb ty .null = true) (h2 : ∀ b, ie_fitb ty (.ref b) = true) : Go X d m (pc, ls, [va_rf v], zhp S) (.inl (some (va_rf v))) (zhp S) := by
  refine go_end hat ?_
  cases v with
  | none => show ie_rv 2 m [.null] (zhp S) = _; simp only [ie_rv, hr, h1, ie_kv, if_true, ie_end]; rfl
  | some b => show ie_rv 2 m [.ref b] (zhp S) = _; simp only [ie_rv, hr, h2 b, ie_kv, if_true, ie_end]; rfl
theorem go_hlast {i : Int32} {x : Int64} (hat : ie_at m pc = some ((.lastore, len), r)) (ht : ztg S a = 23) (hi : ib i (zLen S a)) (kk : Go X d m (pc + 1, ls, st, zhp (szAL S a (vp_updL (zAL S a) i.toNatClampNeg x))) o h') : Go X d m (pc, ls, .long x :: .int i :: .ref a :: st, zhp S) o h' := by
  obtain ⟨h1, h2, h3⟩ := ztg_lt ht
  have hc : (zhp S)[a]? = some (.inl (3, zLen S a, .inr (.inl (zAL S a)))) := by
    rw [zhp_get h1]
    unfold zcl
    rw [h3, if_neg (by omega), if_neg (by omega), if_neg (by omega), if_neg (by omega), if_pos rfl]
  refine go_last hat hc hi (zhp_set (S' := szAL S a (vp_updL (zAL S a) i.toNatClampNeg x)) rfl ?_ (fun b hb => zcl_AL hb)) kk
  unfold zcl
  rw [show (szAL S a (vp_updL (zAL S a) i.toNatClampNeg x)).2.1 a = 22 + 1 from h3, if_neg (by omega), if_neg (by omega), if_neg (by omega), if_neg (by omega), if_pos rfl, zAL_self]
  rfl
end ZR
theorem i_chb (u : UInt32) : 0 ≤ (u % 65536).toInt32.toInt ∧ (u % 65536).toInt32.toInt < 65536 := by
  have h : (u % 65536).toNat < 65536 := by
    rw [UInt32.toNat_mod]
    exact Nat.mod_lt _ (by decide)
  have e : (u % 65536).toInt32.toInt = ((u % 65536).toNat : Int) := by
    show (u % 65536).toBitVec.toInt = _
    rw [BitVec.toInt_eq_toNat_of_lt (by show 2 * (u % 65536).toNat < 2 ^ 32; omega)]
    rfl
  rw [e]
  omega
theorem y_pk {X : ie_X} {d : Nat} {h : ie_H} (w : Int64) (i : Int32) : Go X d 6 (0, ie_en 6 [.long w, .int i], [], h) (.inl (some (.int (by_c w i)))) h := by
  refine go_run 9 (F' := (12, [some (.long w), none, some (.int i)], [.int (by_c w i)], h)) rfl ?_
  refine go_ret rfl rfl rfl ?_
  exact decide_eq_true (i_chb _)
def i_us (x y : Int32) : Int32 := (x.toUInt32 >>> (y.toUInt32 &&& Int32.toUInt32 31)).toInt32
def i_ch (x : Int32) : Int32 := (x.toUInt32 % 65536).toInt32
theorem fs_0_1 {S : hS} {a : Nat} {v : Int32} : (zfl 0 S a).set 1 (.int v) = zfl 0 (szI S 1 a v) a := by simp [zfl, zI, szI, zL, zR, zup2]
theorem fs_0_2 {S : hS} {a : Nat} {v : Int32} : (zfl 0 S a).set 2 (.int v) = zfl 0 (szI S 2 a v) a := by simp [zfl, zI, szI, zL, zR, zup2]
theorem fs_0_3 {S : hS} {a : Nat} {v : Int32} : (zfl 0 S a).set 3 (.int v) = zfl 0 (szI S 3 a v) a := by simp [zfl, zI, szI, zL, zR, zup2]
theorem fs_0_4 {S : hS} {a : Nat} {v : Option Nat} : (zfl 0 S a).set 4 (va_rf v) = zfl 0 (szR S 4 a v) a := by simp [zfl, zI, szR, zL, zR, zup2]
theorem fs_1_0 {S : hS} {a : Nat} {v : Int32} : (zfl 1 S a).set 0 (.int v) = zfl 1 (szI S 0 a v) a := by simp [zfl, zI, szI, zL, zR, zup2]
theorem fs_1_1 {S : hS} {a : Nat} {v : Int32} : (zfl 1 S a).set 1 (.int v) = zfl 1 (szI S 1 a v) a := by simp [zfl, zI, szI, zL, zR, zup2]
theorem fs_1_2 {S : hS} {a : Nat} {v : Int32} : (zfl 1 S a).set 2 (.int v) = zfl 1 (szI S 2 a v) a := by simp [zfl, zI, szI, zL, zR, zup2]
theorem fs_1_3 {S : hS} {a : Nat} {v : Int32} : (zfl 1 S a).set 3 (.int v) = zfl 1 (szI S 3 a v) a := by simp [zfl, zI, szI, zL, zR, zup2]
theorem fs_1_4 {S : hS} {a : Nat} {v : Int32} : (zfl 1 S a).set 4 (.int v) = zfl 1 (szI S 4 a v) a := by simp [zfl, zI, szI, zL, zR, zup2]
theorem fs_1_5 {S : hS} {a : Nat} {v : Int64} : (zfl 1 S a).set 5 (.long v) = zfl 1 (szL S a v) a := by simp [zfl, zI, szL, zL, zR, zup]
theorem fs_1_6 {S : hS} {a : Nat} {v : Option Nat} : (zfl 1 S a).set 6 (va_rf v) = zfl 1 (szR S 6 a v) a := by simp [zfl, zI, szR, zL, zR, zup2]
theorem fs_1_7 {S : hS} {a : Nat} {v : Int32} : (zfl 1 S a).set 7 (.int v) = zfl 1 (szI S 7 a v) a := by simp [zfl, zI, szI, zL, zR, zup2]
theorem fs_1_8 {S : hS} {a : Nat} {v : Option Nat} : (zfl 1 S a).set 8 (va_rf v) = zfl 1 (szR S 8 a v) a := by simp [zfl, zI, szR, zL, zR, zup2]
theorem fs_1_9 {S : hS} {a : Nat} {v : Option Nat} : (zfl 1 S a).set 9 (va_rf v) = zfl 1 (szR S 9 a v) a := by simp [zfl, zI, szR, zL, zR, zup2]
theorem fs_2_0 {S : hS} {a : Nat} {v : Int32} : (zfl 2 S a).set 0 (.int v) = zfl 2 (szI S 0 a v) a := by simp [zfl, zI, szI, zL, zR, zup2]
theorem fs_2_1 {S : hS} {a : Nat} {v : Int32} : (zfl 2 S a).set 1 (.int v) = zfl 2 (szI S 1 a v) a := by simp [zfl, zI, szI, zL, zR, zup2]
theorem fs_2_2 {S : hS} {a : Nat} {v : Int32} : (zfl 2 S a).set 2 (.int v) = zfl 2 (szI S 2 a v) a := by simp [zfl, zI, szI, zL, zR, zup2]
theorem fs_2_3 {S : hS} {a : Nat} {v : Int32} : (zfl 2 S a).set 3 (.int v) = zfl 2 (szI S 3 a v) a := by simp [zfl, zI, szI, zL, zR, zup2]
theorem fs_3_1 {S : hS} {a : Nat} {v : Int32} : (zfl 3 S a).set 1 (.int v) = zfl 3 (szI S 1 a v) a := by simp [zfl, zI, szI, zL, zR, zup2]
theorem fs_4_1 {S : hS} {a : Nat} {v : Option Nat} : (zfl 4 S a).set 1 (va_rf v) = zfl 4 (szR S 1 a v) a := by simp [zfl, zI, szR, zL, zR, zup2]
theorem fs_4_2 {S : hS} {a : Nat} {v : Option Nat} : (zfl 4 S a).set 2 (va_rf v) = zfl 4 (szR S 2 a v) a := by simp [zfl, zI, szR, zL, zR, zup2]
theorem fs_4_3 {S : hS} {a : Nat} {v : Int32} : (zfl 4 S a).set 3 (.int v) = zfl 4 (szI S 3 a v) a := by simp [zfl, zI, szI, zL, zR, zup2]
theorem fs_4_4 {S : hS} {a : Nat} {v : Int32} : (zfl 4 S a).set 4 (.int v) = zfl 4 (szI S 4 a v) a := by simp [zfl, zI, szI, zL, zR, zup2]
theorem fs_4_5 {S : hS} {a : Nat} {v : Int32} : (zfl 4 S a).set 5 (.int v) = zfl 4 (szI S 5 a v) a := by simp [zfl, zI, szI, zL, zR, zup2]
theorem fs_5_0 {S : hS} {a : Nat} {v : Option Nat} : (zfl 5 S a).set 0 (va_rf v) = zfl 5 (szR S 0 a v) a := by simp [zfl, zI, szR, zL, zR, zup2]
theorem fs_5_1 {S : hS} {a : Nat} {v : Int32} : (zfl 5 S a).set 1 (.int v) = zfl 5 (szI S 1 a v) a := by simp [zfl, zI, szI, zL, zR, zup2]
theorem fs_5_2 {S : hS} {a : Nat} {v : Int32} : (zfl 5 S a).set 2 (.int v) = zfl 5 (szI S 2 a v) a := by simp [zfl, zI, szI, zL, zR, zup2]
theorem fs_5_3 {S : hS} {a : Nat} {v : Int32} : (zfl 5 S a).set 3 (.int v) = zfl 5 (szI S 3 a v) a := by simp [zfl, zI, szI, zL, zR, zup2]
theorem fs_5_4 {S : hS} {a : Nat} {v : Int32} : (zfl 5 S a).set 4 (.int v) = zfl 5 (szI S 4 a v) a := by simp [zfl, zI, szI, zL, zR, zup2]
theorem fs_5_5 {S : hS} {a : Nat} {v : Int64} : (zfl 5 S a).set 5 (.long v) = zfl 5 (szL S a v) a := by simp [zfl, zI, szL, zL, zR, zup]
theorem fs_5_6 {S : hS} {a : Nat} {v : Int32} : (zfl 5 S a).set 6 (.int v) = zfl 5 (szI S 6 a v) a := by simp [zfl, zI, szI, zL, zR, zup2]
theorem fs_6_2 {S : hS} {a : Nat} {v : Int32} : (zfl 6 S a).set 2 (.int v) = zfl 6 (szI S 2 a v) a := by simp [zfl, zI, szI, zL, zR, zup2]
theorem fs_6_3 {S : hS} {a : Nat} {v : Int32} : (zfl 6 S a).set 3 (.int v) = zfl 6 (szI S 3 a v) a := by simp [zfl, zI, szI, zL, zR, zup2]
theorem fs_7_0 {S : hS} {a : Nat} {v : Option Nat} : (zfl 7 S a).set 0 (va_rf v) = zfl 7 (szR S 0 a v) a := by simp [zfl, zI, szR, zL, zR, zup2]
theorem fs_7_1 {S : hS} {a : Nat} {v : Option Nat} : (zfl 7 S a).set 1 (va_rf v) = zfl 7 (szR S 1 a v) a := by simp [zfl, zI, szR, zL, zR, zup2]
theorem fs_7_2 {S : hS} {a : Nat} {v : Option Nat} : (zfl 7 S a).set 2 (va_rf v) = zfl 7 (szR S 2 a v) a := by simp [zfl, zI, szR, zL, zR, zup2]
theorem fs_7_3 {S : hS} {a : Nat} {v : Int32} : (zfl 7 S a).set 3 (.int v) = zfl 7 (szI S 3 a v) a := by simp [zfl, zI, szI, zL, zR, zup2]
theorem fs_8_4 {S : hS} {a : Nat} {v : Int32} : (zfl 8 S a).set 4 (.int v) = zfl 8 (szI S 4 a v) a := by simp [zfl, zI, szI, zL, zR, zup2]
theorem fs_8_5 {S : hS} {a : Nat} {v : Int32} : (zfl 8 S a).set 5 (.int v) = zfl 8 (szI S 5 a v) a := by simp [zfl, zI, szI, zL, zR, zup2]
theorem fs_9_0 {S : hS} {a : Nat} {v : Int32} : (zfl 9 S a).set 0 (.int v) = zfl 9 (szI S 0 a v) a := by simp [zfl, zI, szI, zL, zR, zup2]
theorem fs_9_1 {S : hS} {a : Nat} {v : Int32} : (zfl 9 S a).set 1 (.int v) = zfl 9 (szI S 1 a v) a := by simp [zfl, zI, szI, zL, zR, zup2]
theorem fs_9_2 {S : hS} {a : Nat} {v : Int32} : (zfl 9 S a).set 2 (.int v) = zfl 9 (szI S 2 a v) a := by simp [zfl, zI, szI, zL, zR, zup2]
theorem fs_9_3 {S : hS} {a : Nat} {v : Int32} : (zfl 9 S a).set 3 (.int v) = zfl 9 (szI S 3 a v) a := by simp [zfl, zI, szI, zL, zR, zup2]
theorem fs_9_4 {S : hS} {a : Nat} {v : Int32} : (zfl 9 S a).set 4 (.int v) = zfl 9 (szI S 4 a v) a := by simp [zfl, zI, szI, zL, zR, zup2]
theorem fs_9_5 {S : hS} {a : Nat} {v : Int32} : (zfl 9 S a).set 5 (.int v) = zfl 9 (szI S 5 a v) a := by simp [zfl, zI, szI, zL, zR, zup2]
theorem fs_9_6 {S : hS} {a : Nat} {v : Int64} : (zfl 9 S a).set 6 (.long v) = zfl 9 (szL S a v) a := by simp [zfl, zI, szL, zL, zR, zup]
theorem fs_9_7 {S : hS} {a : Nat} {v : Option Nat} : (zfl 9 S a).set 7 (va_rf v) = zfl 9 (szR S 7 a v) a := by simp [zfl, zI, szR, zL, zR, zup2]
theorem fs_9_8 {S : hS} {a : Nat} {v : Option Nat} : (zfl 9 S a).set 8 (va_rf v) = zfl 9 (szR S 8 a v) a := by simp [zfl, zI, szR, zL, zR, zup2]
theorem fs_9_9 {S : hS} {a : Nat} {v : Option Nat} : (zfl 9 S a).set 9 (va_rf v) = zfl 9 (szR S 9 a v) a := by simp [zfl, zI, szR, zL, zR, zup2]
theorem fs_9_10 {S : hS} {a : Nat} {v : Option Nat} : (zfl 9 S a).set 10 (va_rf v) = zfl 9 (szR S 10 a v) a := by simp [zfl, zI, szR, zL, zR, zup2]
theorem fs_9_11 {S : hS} {a : Nat} {v : Int32} : (zfl 9 S a).set 11 (.int v) = zfl 9 (szI S 11 a v) a := by simp [zfl, zI, szI, zL, zR, zup2]
