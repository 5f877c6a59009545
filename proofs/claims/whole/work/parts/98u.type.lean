section TY
variable {w : Int64} {c n : Nat}
theorem by_x {i : Nat} (hi : i < 8) : Int64.toInt32 ((w >>> (Int32.toInt64 (8 * Int32.ofNat i) &&& 63)) &&& 255) = by_g w i := by
  have h := by_me w i hi
  unfold by_m at h
  have h2 : Int64.toInt32 ((w >>> (Int32.toInt64 (8 * Int32.ofNat i) &&& 63)) &&& 255) = (Int64.ofNat (by_N w i)).toInt32 := congrArg Int64.toInt32 h
  rw [h2]
  exact (by_small _ (by_lt w i)).2.1
theorem by_z {i : Nat} (hi : i < 8) : lg_cmp ((w >>> (Int32.toInt64 (8 * Int32.ofNat i) &&& 63)) &&& 255) 0 = 0 ↔ by_g w i = 0 := by
  have h := by_me w i hi
  unfold by_m at h
  have h2 : ((w >>> (Int32.toInt64 (8 * Int32.ofNat i) &&& 63)) &&& 255) = Int64.ofNat (by_N w i) := h
  rw [h2]
  exact ty_mz
theorem szAI_2 {S : hS} {a : Nat} {g g2 : Nat → Int32} : szAI (szAI S a g) a g2 = szAI S a g2 := by
  have e : zup (zup S.2.2.2.2.2.2.1 a g) a g2 = zup S.2.2.2.2.2.2.1 a g2 := by
    funext b
    unfold zup
    by_cases q : b = a
    · rw [if_pos q, if_pos q]
    · rw [if_neg q, if_neg q, if_neg q]
  show (S.1, S.2.1, S.2.2.1, S.2.2.2.1, S.2.2.2.2.1, S.2.2.2.2.2.1, zup (zup S.2.2.2.2.2.2.1 a g) a g2, _) = _
  rw [e]
  rfl
theorem szAI_id {S : hS} {a : Nat} : szAI S a (zAI S a) = S := by
  have e : zup S.2.2.2.2.2.2.1 a (zAI S a) = S.2.2.2.2.2.2.1 := zup_id rfl
  show (S.1, S.2.1, S.2.2.1, S.2.2.2.1, S.2.2.2.2.1, S.2.2.2.2.2.1, zup S.2.2.2.2.2.2.1 a (zAI S a), _) = _
  rw [e]
theorem zAI_s {S : hS} {a : Nat} {g : Nat → Int32} : zAI (szAI S a g) a = g := if_pos rfl
theorem ya (hn : n ≤ 8) (hc : c + n ≤ 200) : ∀ (j i m : Nat) (S : hS), j + i = n → j + 1 ≤ m → ztg S 0 = 1 → zR S 0 0 = some 1 → ztg S 1 = 21 → zLen S 1 = 200 → zI S 1 0 = Int32.ofNat c → ∃ g, y_type_62 0 m S w (Int32.ofNat n) (Int32.ofNat i) = some (szI (szAI S 1 g) 1 0 (Int32.ofNat (c + n)), 1) ∧ (∀ x, x < c + i → g x = zAI S 1 x) ∧ (∀ x, i ≤ x → x < n → g (c + x) = by_g w x)
  | _, _, 0, _, _, h, _, _, _, _, _ => by omega
  | 0, i, m + 1, S, hj, hm, h0, r0, h1, h2, t1 => by
    refine ⟨zAI S 1, ?_, fun _ _ => rfl, fun x a1 a2 => by omega⟩
    rw [y_type_62, if_pos (show Int32.ofNat n ≤ Int32.ofNat i from (j_le (by omega) (by omega)).mpr (by omega)), if_pos h0, t1, ty_add, szAI_id]
  | j + 1, i, m + 1, S, hj, hm, h0, r0, h1, h2, t1 => by
    obtain ⟨g, e1, e2, e3⟩ := ya hn hc j (i + 1) m (szAI S 1 (upd (zAI S 1) (c + i) (by_g w i))) (by omega) (by omega) h0 r0 h1 h2 t1
    rw [zAI_s] at e2
    rw [szAI_2] at e1
    refine ⟨g, ?_, fun x hx => ?_, fun x a1 a2 => ?_⟩
    · rw [y_type_62, if_neg (show ¬ Int32.ofNat n ≤ Int32.ofNat i from mt (j_le (by omega) (by omega)).mp (by omega))]
      refine (if_pos h0).trans ?_
      refine zlb_s.trans ?_
      refine (zob_s r0).trans ?_
      refine (if_pos h1).trans ?_
      rw [h2, t1, ty_add, if_pos (show ib (Int32.ofNat (c + i)) 200 from j_in (by omega) (by omega)), (j_n (n := c + i) (by omega)).2, by_ce w i (by omega), ty_nar, show Int32.ofNat i + 1 = Int32.ofNat (i + 1) from ty_add i 1]
      exact e1
    · rw [e2 x (by omega), upd_n (by omega)]
    · by_cases z : x = i
      · subst z
        rw [e2 (c + x) (by omega), upd_s]
      · exact e3 x (by omega) a2
theorem xa {I : Nat → Int32} (hn : n ≤ 8) (hc : c + n ≤ 200) (t1 : I 1 = Int32.ofNat c) : ∀ (j i m : Nat) (A : Nat → Nat → Int32), j + i = n → j + 1 ≤ m → ∃ A', x_type_98 m I A w (Int32.ofNat n) (Int32.ofNat i) = some (upd I 1 (Int32.ofNat (c + n)), A', 1) ∧ (∀ k, k ≠ 1 → A' k = A k) ∧ (∀ x, x < c + i → A' 1 x = A 1 x) ∧ (∀ x, i ≤ x → x < n → A' 1 (c + x) = by_g w x)
  | _, _, 0, _, _, h => by omega
  | 0, i, m + 1, A, hj, hm => by
    refine ⟨A, ?_, fun _ _ => rfl, fun _ _ => rfl, fun x a1 a2 => by omega⟩
    rw [x_type_98, if_pos (show Int32.ofNat n ≤ Int32.ofNat i from (j_le (by omega) (by omega)).mpr (by omega)), t1, ty_add]
  | j + 1, i, m + 1, A, hj, hm => by
    obtain ⟨A', e1, e0, e2, e3⟩ := xa hn hc t1 j (i + 1) m (upA A 1 (upd (A 1) (c + i) (by_g w i))) (by omega) (by omega)
    rw [upA_eq] at e2
    refine ⟨A', ?_, fun k hk => (e0 k hk).trans (upA_ne hk), fun x hx => ?_, fun x a1 a2 => ?_⟩
    · rw [x_type_98, if_neg (show ¬ Int32.ofNat n ≤ Int32.ofNat i from mt (j_le (by omega) (by omega)).mp (by omega)), t1, ty_add, if_pos (show ib (Int32.ofNat (c + i)) 200 from j_in (by omega) (by omega)), (j_n (n := c + i) (by omega)).2, by_x (by omega), show Int32.ofNat i + 1 = Int32.ofNat (i + 1) from ty_add i 1]
      exact e1
    · rw [e2 x (by omega), upd_n (by omega)]
    · by_cases z : x = i
      · subst z
        rw [e2 (c + x) (by omega), upd_s]
      · exact e3 x (by omega) a2
def yout (S : hS) (w : Int64) (m : Nat) : Option Nat → Option (hS × Int32)
  | none => some (S, 0)
  | some n => if zI S 1 0 + Int32.ofNat n ≤ 200 then y_type_62 0 m S w (Int32.ofNat n) 0 else some (S, 0)
theorem ys {S : hS} (h0 : ztg S 0 = 1) : ∀ (j k m : Nat), j + k = 8 → j + 10 ≤ m → ∃ m', 9 ≤ m' ∧ y_type_2 0 m S w (Int32.ofNat k) = yout S w m' (ty_sc (by_g w) j k)
  | _, _, 0, _, h => by omega
  | 0, k, m + 1, hj, hm => by
    have : k = 8 := by omega
    subst this
    refine ⟨m, by omega, ?_⟩
    rw [y_type_2, if_pos (by decide), if_pos h0]
    rfl
  | j + 1, k, m + 1, hj, hm => by
    obtain ⟨m', e1, e2⟩ := ys h0 j (k + 1) m (by omega) (by omega)
    unfold ty_sc
    rw [y_type_2, if_neg (ty_n8 k (by omega)).1, by_ce w k (by omega), (ty_n8 k (by omega)).2]
    by_cases q0 : by_g w k = 0
    · rw [if_pos q0, if_pos q0]
      exact ⟨m, by omega, if_pos h0⟩
    · rw [if_neg q0, if_neg q0]
      by_cases q1 : by_g w k < 33
      · rw [if_pos q1, if_pos q1]
        exact ⟨9, Nat.le_refl _, rfl⟩
      · rw [if_neg q1, if_neg q1]
        by_cases q2 : by_g w k ≤ 126
        · rw [if_pos q2, if_pos q2]
          exact ⟨m', e1, e2⟩
        · rw [if_neg q2, if_neg q2]
          exact ⟨9, Nat.le_refl _, rfl⟩
def xout (I : Nat → Int32) (A : Nat → Nat → Int32) (w : Int64) (m : Nat) (r : Nat × Bool) : Option xR := if r.2 = false then some (I, A, 0) else if I 1 + Int32.ofNat r.1 ≤ 200 then x_type_98 m I A w (Int32.ofNat r.1) 0 else some (I, A, 0)
theorem xs {I : Nat → Int32} {A : Nat → Nat → Int32} : ∀ (j k m : Nat) (b : Bool), j + k = 8 → j + 10 ≤ m → ∃ m', 9 ≤ m' ∧ x_type_10 m I A w (Int32.ofNat k) (ty_b b) = xout I A w m' (ty_ms (by_g w) j k b)
  | _, _, 0, _, _, h => by omega
  | 0, k, m + 1, b, hj, hm => by
    have : k = 8 := by omega
    subst this
    refine ⟨m, by omega, ?_⟩
    rw [x_type_10, if_pos (by decide)]
    cases b with
    | true => rfl
    | false => rfl
  | j + 1, k, m + 1, b, hj, hm => by
    unfold ty_ms
    rw [x_type_10, if_neg (ty_n8 k (by omega)).1, by_x (by omega), (ty_n8 k (by omega)).2]
    by_cases q0 : by_g w k = 0
    · rw [if_pos ((by_z (by omega)).mpr q0), if_pos q0]
      refine ⟨m, by omega, ?_⟩
      cases b with
      | true => rfl
      | false => rfl
    · rw [if_neg (mt (by_z (by omega)).mp q0), if_neg q0]
      cases b with
      | false =>
        obtain ⟨m', e1, e2⟩ := xs (I := I) (A := A) j (k + 1) m false (by omega) (by omega)
        exact ⟨m', e1, (if_pos rfl).trans e2⟩
      | true =>
        obtain ⟨m', e1, e2⟩ := xs (I := I) (A := A) j (k + 1) m (true && ty_ok (by_g w k)) (by omega) (by omega)
        refine ⟨m', e1, ?_⟩
        rw [← e2, if_neg (show ¬ ty_b true = 0 by decide)]
        unfold ty_ok
        by_cases q1 : by_g w k ≤ 32
        · rw [if_pos q1, decide_eq_false (show ¬ ¬ by_g w k ≤ 32 from fun z => z q1)]
          rfl
        · rw [if_neg q1, decide_eq_true q1]
          by_cases q2 : 127 ≤ by_g w k
          · rw [if_pos q2, decide_eq_false (show ¬ ¬ 127 ≤ by_g w k from fun z => z q2)]
            rfl
          · rw [if_neg q2, decide_eq_true q2]
            rfl
theorem sc_ok (w : Int64) : ∀ (j k n : Nat), ty_sc (by_g w) j k = some n → n ≤ j + k ∧ ∀ x, k ≤ x → x < n → 33 ≤ (by_g w x).toInt ∧ (by_g w x).toInt ≤ 126
  | 0, k, n, h => by
    unfold ty_sc at h
    cases h
    exact ⟨by omega, fun x a1 a2 => by omega⟩
  | j + 1, k, n, h => by
    unfold ty_sc at h
    by_cases q0 : by_g w k = 0
    · rw [if_pos q0] at h
      cases h
      exact ⟨by omega, fun x a1 a2 => by omega⟩
    · rw [if_neg q0] at h
      by_cases q1 : by_g w k < 33
      · rw [if_pos q1] at h
        cases h
      · rw [if_neg q1] at h
        by_cases q2 : by_g w k ≤ 126
        · rw [if_pos q2] at h
          obtain ⟨r1, r2⟩ := sc_ok w j (k + 1) n h
          refine ⟨by omega, fun x a1 a2 => ?_⟩
          by_cases z : x = k
          · subst z
            have y1 := mt Int32.lt_iff_toInt_lt.mpr q1
            have y2 := Int32.le_iff_toInt_le.mp q2
            rw [show (33 : Int32).toInt = 33 from rfl] at y1
            rw [show (126 : Int32).toInt = 126 from rfl] at y2
            exact ⟨by omega, y2⟩
          · exact r2 x (by omega) a2
        · rw [if_neg q2] at h
          cases h
end TY
