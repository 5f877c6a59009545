section UX
variable {I I' I2 : Nat → Int32} {A A' A2 : Nat → Nat → Int32} {D : Nat → Nat}
theorem s_unaware {h e1 e2 s n : Nat} {t1 t2 : Fo} (hs : PWb s) (p1 : PW D t1) (p2 : PW D t2) (hh : h < 198) (h4 : A 4 h = Int32.ofNat (cD s)) (h10 : A 10 h = Int32.ofNat e1) (h11 : A 11 h = Int32.ofNat e2) (c1 : IC A D t1 (h + 2) e1) (c2 : IC A D t2 (e1 + 2) e2) (l1 : e1 ≤ 198) (l2 : e2 ≤ 200) (w : wt D t1 + wt D t2 ≤ 900) (d1 : dpt t1 < 18) (d2 : dpt t2 < 18) (hn : 5010 ≤ n) : ∃ I' A', x_unaware n I A (Int32.ofNat h) = some (I', A', Int32.ofNat (unw (cD s) (cut D t1) (cut D t2))) ∧ FrU I A I' A' := by
  have key : ∀ (q m : Nat), q ≤ 6 → 5000 ≤ m → ∃ I' A', x_unaware_4 (m + q) I A (Int32.ofNat h) 0 0 = x_unaware_4 m I' A' (Int32.ofNat h) (Int32.ofNat (bq (fun q => !decide (q = cD s) && (J true (cut D t1 q) (cut D t2 q)).isNone) q)) (Int32.ofNat q) ∧ FrU I A I' A' := by
    intro q
    induction q with
    | zero => exact fun m _ _ => ⟨I, A, rfl, FrU_r⟩
    | succ q ih =>
      intro m hq hm
      obtain ⟨I1, A1, e1', f1⟩ := ih (m + 1) (by omega) (by omega)
      have eA : ∀ j, j < 28 → A1 j = A j := fun j hj => f1.2 j (by omega) (by omega)
      obtain ⟨I2, A2, e2', f2⟩ := un_step (I := I1) (A := A1) (n := m) (q := q) hs p1 p2 hh (by rw [eA 4 (by decide)]; exact h4) (by rw [eA 10 (by decide)]; exact h10) (by rw [eA 11 (by decide)]; exact h11) (IC_e eA t1 p1 _ _ c1) (IC_e eA t2 p2 _ _ c2) l1 l2 w d1 d2 (by omega) hm (bq_lt _ q)
      refine ⟨I2, A2, ?_, FrU_t f1 f2⟩
      rw [show m + (q + 1) = m + 1 + q by omega, e1', e2']
      rfl
  obtain ⟨I', A', e, f⟩ := key 6 (n - 6) (Nat.le_refl _) (by omega)
  refine ⟨I', A', ?_, f⟩
  unfold x_unaware
  rw [show n - 6 + 6 = n by omega] at e
  obtain ⟨m, hm⟩ : ∃ m, n - 6 = m + 1 := ⟨n - 7, by omega⟩
  rw [e, hm, x_unaware_4, if_pos (by decide), bq_6]
  rfl
theorem bit_v : ∀ u, u < 64 → ∀ q, q < 6 → (Int32.ofNat u >>> (Int32.ofNat q &&& 31)) &&& 1 = Int32.ofNat (if u.testBit q then 1 else 0) := by decide +kernel
theorem s_bitsOf {u n : Nat} (hu : u < 64) (hn : 7 ≤ n) : x_bitsOf n I A (Int32.ofNat u) = some (I, A, Int32.ofNat (bpc u)) := by
  obtain ⟨m, rfl⟩ : ∃ m, n = m + 7 := ⟨n - 7, by omega⟩
  have st : ∀ (q m a : Nat), q < 6 → x_bitsOf_4 (m + 1) I A (Int32.ofNat u) (Int32.ofNat a) (Int32.ofNat q) = x_bitsOf_4 m I A (Int32.ofNat u) (Int32.ofNat (a + if u.testBit q then 1 else 0)) (Int32.ofNat (q + 1)) := by
    intro q m a hq
    rw [x_bitsOf_4, if_neg (show ¬ (6 : Int32) ≤ Int32.ofNat q from mt (j_le (m := 6) (by decide) (by omega)).mp (by omega)), bit_v u hu q hq, o_add, o1]
  unfold x_bitsOf
  have s0 := st 0 (m + 6) 0 (by decide)
  have s1 := st 1 (m + 5) (0 + if u.testBit 0 then 1 else 0) (by decide)
  have s2 := st 2 (m + 4) (0 + (if u.testBit 0 then 1 else 0) + if u.testBit 1 then 1 else 0) (by decide)
  have s3 := st 3 (m + 3) (0 + (if u.testBit 0 then 1 else 0) + (if u.testBit 1 then 1 else 0) + if u.testBit 2 then 1 else 0) (by decide)
  have s4 := st 4 (m + 2) (0 + (if u.testBit 0 then 1 else 0) + (if u.testBit 1 then 1 else 0) + (if u.testBit 2 then 1 else 0) + if u.testBit 3 then 1 else 0) (by decide)
  have s5 := st 5 (m + 1) (0 + (if u.testBit 0 then 1 else 0) + (if u.testBit 1 then 1 else 0) + (if u.testBit 2 then 1 else 0) + (if u.testBit 3 then 1 else 0) + if u.testBit 4 then 1 else 0) (by decide)
  refine (s0.trans (s1.trans (s2.trans (s3.trans (s4.trans s5))))).trans ?_
  rw [x_bitsOf_4, if_pos (by decide)]
  unfold bpc
  rw [Nat.zero_add]
def lob (u : Nat) : Nat := if u.testBit 0 then 0 else if u.testBit 1 then 1 else if u.testBit 2 then 2 else if u.testBit 3 then 3 else if u.testBit 4 then 4 else 5
theorem nz_bit : ∀ u, u < 64 → u ≠ 0 → (u.testBit 0 || u.testBit 1 || u.testBit 2 || u.testBit 3 || u.testBit 4 || u.testBit 5) = true := by decide +kernel
theorem s_193 {u n : Nat} (hu : u < 64) (h0 : u ≠ 0) (hI : I 0 = 2) (hn : 7 ≤ n) : ∃ I', x_load_193 n I A (Int32.ofNat u) 5 = some (I', A, 0) ∧ I' 3 = Int32.ofNat (lob u) ∧ ∀ k, k ≠ 3 → I' k = I k := by
  obtain ⟨m, rfl⟩ : ∃ m, n = m + 7 := ⟨n - 7, by omega⟩
  have st : ∀ (q m : Nat) (J : Nat → Int32), q < 6 → J 0 = 2 → ∃ J', x_load_193 (m + 1) J A (Int32.ofNat u) (Int32.ofNat q) = x_load_193 m J' A (Int32.ofNat u) (Int32.ofNat q - 1) ∧ J' 3 = (if u.testBit q then Int32.ofNat q else J 3) ∧ ∀ k, k ≠ 3 → J' k = J k := by
    intro q m J hq hJ
    rw [x_load_193, if_neg (show ¬ Int32.ofNat q < 0 from mt (j_lt (n := 0) (by omega) (by decide)).mp (by omega)), if_pos hJ, o_add_m1]
    by_cases e : u.testBit q = true
    · rw [if_pos ((bit_o u hu q hq).mpr e), if_pos e]
      exact ⟨_, rfl, upd_s, fun k hk => upd_n hk⟩
    · rw [if_neg (mt (bit_o u hu q hq).mp e), if_neg e]
      exact ⟨_, rfl, upd_s, fun k hk => upd_n hk⟩
  obtain ⟨J5, a5, b5, c5⟩ := st 5 (m + 6) I (by decide) hI
  obtain ⟨J4, a4, b4, c4⟩ := st 4 (m + 5) J5 (by decide) ((c5 0 (by decide)).trans hI)
  obtain ⟨J3, a3, b3, c3⟩ := st 3 (m + 4) J4 (by decide) ((c4 0 (by decide)).trans ((c5 0 (by decide)).trans hI))
  obtain ⟨J2, a2, b2, c2⟩ := st 2 (m + 3) J3 (by decide) ((c3 0 (by decide)).trans ((c4 0 (by decide)).trans ((c5 0 (by decide)).trans hI)))
  obtain ⟨J1, a1, b1, c1⟩ := st 1 (m + 2) J2 (by decide) ((c2 0 (by decide)).trans ((c3 0 (by decide)).trans ((c4 0 (by decide)).trans ((c5 0 (by decide)).trans hI))))
  obtain ⟨J0, a0, b0, c0⟩ := st 0 (m + 1) J1 (by decide) ((c1 0 (by decide)).trans ((c2 0 (by decide)).trans ((c3 0 (by decide)).trans ((c4 0 (by decide)).trans ((c5 0 (by decide)).trans hI)))))
  refine ⟨J0, ?_, ?_, fun k hk => (c0 k hk).trans ((c1 k hk).trans ((c2 k hk).trans ((c3 k hk).trans ((c4 k hk).trans (c5 k hk)))))⟩
  · refine a5.trans ?_
    rw [show Int32.ofNat 5 - 1 = Int32.ofNat 4 from rfl]
    refine a4.trans ?_
    rw [show Int32.ofNat 4 - 1 = Int32.ofNat 3 from rfl]
    refine a3.trans ?_
    rw [show Int32.ofNat 3 - 1 = Int32.ofNat 2 from rfl]
    refine a2.trans ?_
    rw [show Int32.ofNat 2 - 1 = Int32.ofNat 1 from rfl]
    refine a1.trans ?_
    rw [show Int32.ofNat 1 - 1 = Int32.ofNat 0 from rfl]
    refine a0.trans ?_
    rw [x_load_193, if_pos (by decide)]
  · have := nz_bit u hu h0
    rw [b0, b1, b2, b3, b4, b5]
    unfold lob
    revert this
    cases u.testBit 0 <;> cases u.testBit 1 <;> cases u.testBit 2 <;> cases u.testBit 3 <;> cases u.testBit 4 <;> cases u.testBit 5 <;> intro this <;> first | rfl | cases this
theorem s_193b {n : Nat} {u : Int32} (hI : I 0 = 3) (hn : 1 ≤ n) : x_load_193 n I A u 5 = some (I, A, 0) := by
  obtain ⟨m, rfl⟩ : ∃ m, n = m + 1 := ⟨n - 1, by omega⟩
  rw [x_load_193, if_neg (by decide), hI, if_neg (by decide)]
end UX
abbrev ckR : Type := Nat ⊕ (Nat × Nat)
def ckb (x : ckR) (f : Nat → ckR) : ckR := match x with
  | .inl p => f p
  | .inr e => .inr e
def ckc (pi : Bool) (cnt u P put : Nat) : ckR := if u = 0 then .inl put else if pi = false then .inr (P, lob u) else if cnt + (put + 2 * bpc u) ≤ 80 then .inl (put + 2 * bpc u) else .inr (P, 6)
def ck (D : Nat → Nat) (pi : Bool) (cnt : Nat) : Fo → Nat → ckR
  | .append (.tag P (.append (.tag _ t1) (.append (.tag _ t2) _))) r => fun put => ckb (ck D pi cnt t1 put) fun p1 => ckb (ck D pi cnt t2 p1) fun p2 => ckb (ckc pi cnt (unw (cD (D P)) (cut D t1) (cut D t2)) P p2) fun p3 => ck D pi cnt r p3
  | .append (.tag _ (.append (.tag _ t1) _)) r => fun put => ckb (ck D pi cnt t1 put) fun p1 => ck D pi cnt r p1
  | .append (.tag _ _) r => fun put => ck D pi cnt r put
  | _ => fun put => .inl put
def bas (D : Nat → Nat) : Fo → Nat
  | .append (.tag P (.append (.tag _ t1) (.append (.tag _ t2) _))) r => (xt (cE (D P))).length + 6 + bas D t1 + bas D t2 + bas D r
  | .append (.tag P (.append (.tag _ t1) _)) r => (xt (cE (D P))).length + 8 + bas D t1 + bas D r
  | .append (.tag P _) r => (if cK (D P) = 1 then (xt (cE (D P))).length + 4 else if cK (D P) = 2 then (xt (cE (D P))).length + 5 else 6) + bas D r
  | _ => 0
theorem ckb_l {x : ckR} {f : Nat → ckR} {p : Nat} (h : ckb x f = .inl p) : ∃ q, x = .inl q ∧ f q = .inl p := by
  cases x with
  | inl q => exact ⟨q, rfl, h⟩
  | inr e => cases h
theorem ckc_l {pi : Bool} {cnt u P put put' : Nat} (h : ckc pi cnt u P put = .inl put') : put' = put + 2 * bpc u ∧ (put' = put ∨ cnt + put' ≤ 80) := by
  unfold ckc at h
  split at h
  · next e =>
    cases h
    subst e
    exact ⟨rfl, Or.inl rfl⟩
  · split at h
    · cases h
    · split at h
      · next e =>
        cases h
        exact ⟨rfl, Or.inr e⟩
      · cases h
theorem ck_wt {D : Nat → Nat} {pi : Bool} {cnt : Nat} : ∀ (t : Fo), PW D t → ∀ put put', ck D pi cnt t put = .inl put' → wt D t + 5 * put = bas D t + 5 * put' ∧ put ≤ put' ∧ (put' = put ∨ cnt + put' ≤ 80) := PW_ind (fun put put' h => by
    have h' : put = put' := Sum.inl.inj h
    subst h'
    exact ⟨rfl, Nat.le_refl _, Or.inl rfl⟩) (fun q r _ _ ih put put' h => by
    obtain ⟨a, b, c⟩ := ih put put' h
    have e1 : wt D (cn q .nil r) = (if cK (D q) = 1 then (xt (cE (D q))).length + 4 else if cK (D q) = 2 then (xt (cE (D q))).length + 5 else 6) + wt D r := rfl
    have e2 : bas D (cn q .nil r) = (if cK (D q) = 1 then (xt (cE (D q))).length + 4 else if cK (D q) = 2 then (xt (cE (D q))).length + 5 else 6) + bas D r := rfl
    exact ⟨by omega, b, c⟩) (fun q i t1 r _ _ _ _ ih1 ih2 put put' h => by
    obtain ⟨p1, h1, h2⟩ := ckb_l h
    obtain ⟨a, b, c⟩ := ih1 put p1 h1
    obtain ⟨a2, b2, c2⟩ := ih2 p1 put' h2
    have e1 : wt D (cn q (cn i t1 .nil) r) = (xt (cE (D q))).length + 8 + wt D t1 + wt D r := rfl
    have e2 : bas D (cn q (cn i t1 .nil) r) = (xt (cE (D q))).length + 8 + bas D t1 + bas D r := rfl
    exact ⟨by omega, by omega, by omega⟩) (fun q i j t1 t2 r _ _ _ _ _ ih1 ih2 ih3 put put' h => by
    obtain ⟨p1, h1, h2⟩ := ckb_l h
    obtain ⟨p2, h2, h3⟩ := ckb_l h2
    obtain ⟨p3, h3, h4⟩ := ckb_l h3
    obtain ⟨a, b, c⟩ := ih1 put p1 h1
    obtain ⟨a2, b2, c2⟩ := ih2 p1 p2 h2
    obtain ⟨a3, c3⟩ := ckc_l h3
    obtain ⟨a4, b4, c4⟩ := ih3 p3 put' h4
    have e1 : wt D (cn q (cn i t1 (cn j t2 .nil)) r) = (xt (cE (D q))).length + 6 + 10 * bpc (unw (cD (D q)) (cut D t1) (cut D t2)) + wt D t1 + wt D t2 + wt D r := rfl
    have e2 : bas D (cn q (cn i t1 (cn j t2 .nil)) r) = (xt (cE (D q))).length + 6 + bas D t1 + bas D t2 + bas D r := rfl
    exact ⟨by omega, by omega, by omega⟩)
