def cS7 (X : hS) (a : Nat) (x1 : Int32) : hS := szI (szI (szI (szI (szN (szI X 1 0 0) 2) 2 X.1 (-1)) 3 X.1 (-1)) 0 X.1 x1) 1 X.1 (zI (szN (szI X 1 0 0) 2) 3 a)
def AftC (n : Nat) (a1 a6 a5 : Nat) (S8 : hS) (o8 : Option Nat) : Option (hS × (Nat ⊕ Int32)) := (if ztg S8 a6 = 3 then (if ztg S8 0 = 1 then (if zI S8 3 a6 = (-1) then (if zI S8 2 a6 = (-1) then (zcV (yS_settle n 9 (szI (szI S8 2 0 (zI S8 2 a6)) 3 0 (zI S8 3 a6)) (some a5) none 0) fun S9 => (if ztg S9 0 = 1 then (zlb (zR S9 5 0) fun o10 => (zob o10 fun a11 => (if ztg S9 a11 = 9 then (zcV (yT_takeParts n (szR S9 4 0 (some a5)) a11 o8) fun S12 => (if ztg S12 0 = 1 then (zlb (zR S12 6 0) fun o13 => (zcV (y_clear n S12 o13) fun S14 => (if ztg S14 a6 = 3 then (if ztg S14 a1 = 6 then (some (S14, .inr ((zI S14 1 a6) - (zI S14 3 a1)))) else none) else none))) else none)) else none))) else none)) else (some (szEx (szI (szI S8 2 0 (zI S8 2 a6)) 3 0 (zI S8 3 a6)) 13, .inl 13))) else (some (szEx (szI (szI S8 2 0 (zI S8 2 a6)) 3 0 (zI S8 3 a6)) 12, .inl 12))) else none) else none)
section LC
variable {S X : hS} {f : Nat → Int32} {g : Nat → Nat} {c n : Nat} {T : pw × Nat × Fo} {pi : Bool} {v : Option Nat}
theorem s7_tg (hN : X.1 < ie_S) {x1 : Int32} {a : Nat} : ztg (cS7 X a x1) X.1 = 3 := by
  show (if X.1 < X.1 + 1 ∧ X.1 < ie_S then zup X.2.1 X.1 3 X.1 else 0) = 3
  rw [if_pos ⟨Nat.lt_succ_self _, hN⟩]
  exact if_pos rfl
theorem s7_ko {x1 : Int32} {a : Nat} (h : KO S X) : KO S (cS7 X a x1) := by
  have h1 : KO S (szI X 1 0 0) := KO_I h (Or.inr ⟨rfl, Or.inl rfl⟩)
  have h2 : KO S (szN (szI X 1 0 0) 2) := KO_G2 h1 (Grw_N 2)
  exact KO_I (KO_I (KO_I (KO_I h2 (Or.inl h.1)) (Or.inl h.1)) (Or.inl h.1)) (Or.inl h.1)
theorem KO_r : KO S S := ⟨Nat.le_refl _, fun _ _ => ⟨rfl, rfl, rfl, rfl, rfl, fun _ => rfl, fun _ _ => rfl⟩, rfl, rfl⟩
theorem s7_3 {a k : Nat} (ha : a < X.1) (h0 : a ≠ 0) : zI (szN (szI X 1 0 0) 2) k a = zI X k a := by
  have := ((Grw_N (S := szI X 1 0 0) 2).2.1 a ha).1 k
  rw [this, zI_ne h0]
theorem s7_ct {a cnt : Nat} (hN : X.1 < ie_S) (ha : a < X.1) (h0 : a ≠ 0) (h3 : zI X 3 a = Int32.ofNat cnt) : Ct (cS7 X a (ty_b pi)) X.1 pi cnt := by
  refine ⟨s7_tg hN, ?_, ?_, ?_, ?_⟩
  · unfold cS7
    rw [zI_k (by decide), zI_self]
  · unfold cS7
    rw [zI_self, s7_3 ha h0]
    exact h3
  · unfold cS7
    rw [zI_k (by decide), zI_k (by decide), zI_k (by decide), zI_self]
  · unfold cS7
    rw [zI_k (by decide), zI_k (by decide), zI_self]
theorem s7_10 {a : Nat} {x1 : Int32} (h : 0 < X.1) : zI (cS7 X a x1) 1 0 = 0 := by
  unfold cS7
  rw [zI_ne (by omega), zI_ne (by omega), zI_ne (by omega), zI_ne (by omega)]
  have := ((Grw_N (S := szI X 1 0 0) 2).2.1 0 h).1 1
  rw [this, zI_self]
theorem MdB_i {B th k b : Nat} {S S' : hS} (m : MdB B th S S') (h1 : b < S.1) (h2 : b ≠ th) (h3 : b < B) : zI S' k b = zI S k b := by
  obtain ⟨L, ⟨m1, m2, m3, m4, m5, m6, m7⟩, mL⟩ := m
  exact (m3 k b h1 (fun z => by rcases mL b z with e | e <;> omega)).1
theorem ld_eq {a5 : Nat} (h0 : ztg S 0 = 1) (hN : S.1 < ie_S) (r0 : zR S 0 0 = some 1) (t1 : zI S 1 0 = Int32.ofNat c) (hR1 : ztg (nrd S c) S.1 = 6) (e1 : yR_readPlay n (nrd S c) S.1 = some (X, some a5)) (tX : ztg X 0 = 1) (tR : ztg X S.1 = 6) (hXN : X.1 < ie_S) {S8 : hS} {o8 : Option Nat} (hc : yC_cutRow n 9 (cS7 X S.1 (ty_b pi)) X.1 (some a5) 0 = some (S8, o8)) : y_load n S 0 (ty_b pi) = AftC n S.1 X.1 a5 S8 o8 := by
  have hlt : S.1 < X.1 := (ztg_lt tR).1
  have g6 : Grw (szI X 1 0 0) (szN (szI X 1 0 0) 2) := Grw_N 2
  unfold y_load
  refine (znw_s hN).trans ?_
  refine (if_pos (ztg_g h0 (Grw_N 5))).trans ?_
  refine zlb_s.trans ?_
  refine (zcV_s (new_rd h0 hN r0 t1)).trans ?_
  refine (if_pos hR1).trans ?_
  refine (zcP_s e1).trans ?_
  refine (if_pos tX).trans ?_
  rw [zoc_S]
  refine (znw_s (S := szI X 1 0 0) hXN).trans ?_
  refine (if_pos (ztg_g (S := szI X 1 0 0) tR g6)).trans ?_
  have hnew : yC_new (szN (szI X 1 0 0) 2) X.1 (ty_b pi) (zI (szN (szI X 1 0 0) 2) 3 S.1) = some (cS7 X S.1 (ty_b pi)) := by
    unfold yC_new
    rw [if_pos (show ztg (szN (szI X 1 0 0) 2) X.1 = 3 from s7_tg (x1 := ty_b pi) (a := S.1) hXN), if_pos (show ty_b pi = 0 ∨ ty_b pi = 1 by cases pi <;> decide)]
    rfl
  refine (zcV_s hnew).trans ?_
  refine (if_pos (s7_tg hXN)).trans ?_
  exact (zcP_s hc).trans rfl
theorem ld_fau {P w : Nat} {S8 : hS} {o8 : Option Nat} {a1 a5 : Nat} (hP : P < 2 ^ 31) (t0 : ztg S8 0 = 1) (ct : CtF S8 X.1 P w) : AftC n a1 X.1 a5 S8 o8 = some (szEx (szI (szI S8 2 0 (Int32.ofNat P)) 3 0 (if w < 6 then Int32.ofNat w else -1)) (if w < 6 then 12 else 13), .inl (if w < 6 then 12 else 13)) := by
  obtain ⟨c1, c2, c3⟩ := ct
  unfold AftC
  rw [if_pos c1, if_pos t0, c2, c3]
  have nm : ∀ x, x < 2 ^ 31 → ¬ Int32.ofNat x = -1 := fun x hx e => by
    have := congrArg Int32.toInt e
    rw [(j_n hx).1, show (-1 : Int32).toInt = -1 by decide] at this
    omega
  by_cases q : w < 6
  · rw [if_pos q, if_pos q, if_neg (nm w (by omega))]
  · rw [if_neg q, if_neg q, if_pos rfl, if_neg (nm P hP)]
end LC
