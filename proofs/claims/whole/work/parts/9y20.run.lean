def nxl (d : Nat) : Nat → Nat → Option Nat
  | 0, _ => none
  | f + 1, i => if d.testBit i = true then some i else nxl d f (i + 1)
def nxv (o : Option Nat) : Int32 := match o with
  | none => -1
  | some j => Int32.ofNat j
section GO
variable {S : hS} {p a n m k h z r : Nat} {ks : Fo} {V : Nat → Int32} {v b : Int32}
theorem nxl_lt {d : Nat} : ∀ (f i : Nat), i + f = 6 → ∀ j, nxl d f i = some j → i ≤ j ∧ j < 6 ∧ d.testBit j = true
  | 0, _, _, _, h => by cases h
  | f + 1, i, hi, j, h => by
    unfold nxl at h
    split at h
    · next q =>
      cases h
      exact ⟨Nat.le_refl _, by omega, q⟩
    · obtain ⟨a, b, c⟩ := nxl_lt f (i + 1) (by omega) j h
      exact ⟨by omega, b, c⟩
theorem telF_n {l d : Nat} {x : Fo} : ∀ (f i : Nat), i + f = 6 → telF l d f i x = match nxl d f i with
    | none => x
    | some j => cn (cd 4 0 l j 0 0) .nil (telF l d (5 - j) (j + 1) x)
  | 0, i, _ => rfl
  | f + 1, i, hi => by
    show tl1 l d i (telF l d f (i + 1) x) = match (if d.testBit i = true then some i else nxl d f (i + 1)) with
      | none => x
      | some j => cn (cd 4 0 l j 0 0) .nil (telF l d (5 - j) (j + 1) x)
    unfold tl1
    by_cases q : d.testBit i = true
    · rw [if_pos q, if_pos q]
      show _ = cn (cd 4 0 l i 0 0) .nil (telF l d (5 - i) (i + 1) x)
      rw [show 5 - i = f by omega]
    · rw [if_neg q, if_neg q, telF_n f (i + 1) (by omega)]
theorem ldf_n {d : Nat} : ∀ (f i : Nat), i + f = 6 → ldf d f i = match nxl d f i with
    | none => []
    | some j => (65 + j) :: ldf d (5 - j) (j + 1)
  | 0, i, _ => rfl
  | f + 1, i, hi => by
    show (if d.testBit i then [65 + i] else []) ++ ldf d f (i + 1) = match (if d.testBit i = true then some i else nxl d f (i + 1)) with
      | none => []
      | some j => (65 + j) :: ldf d (5 - j) (j + 1)
    by_cases q : d.testBit i = true
    · rw [if_pos q, if_pos q]
      show _ = (65 + i) :: ldf d (5 - i) (i + 1)
      rw [show 5 - i = f by omega]
      rfl
    · rw [if_neg q, if_neg q, ldf_n f (i + 1) (by omega)]
      rfl
theorem led_2 {d : Nat} (hd : d < 64) (ha : ztg S a = 2) (h4 : zI S 4 a = Int32.ofNat d) : ∀ (f i m : Nat), i + f = 6 → yA_ledFrom_2 a (m + 1 + f) S (Int32.ofNat i) = some (S, nxv (nxl d f i))
  | 0, i, m, hi => by
    rw [show m + 1 + 0 = m + 1 from rfl, yA_ledFrom_2, if_pos (show (6 : Int32) ≤ Int32.ofNat i from (j_le (m := 6) (by decide) (by omega)).mpr (by omega))]
    rfl
  | f + 1, i, m, hi => by
    rw [show m + 1 + (f + 1) = m + 1 + f + 1 by omega, yA_ledFrom_2, if_neg (fun z : (6 : Int32) ≤ Int32.ofNat i => by
      have := (j_le (m := 6) (by decide) (by omega)).mp z
      omega), if_pos ha, h4]
    unfold nxl
    by_cases q : d.testBit i = true
    · rw [if_neg (fun z => by rw [(con_o d hd i (by omega)).mp z] at q; cases q), if_pos q]
      rfl
    · rw [if_pos ((con_o d hd i (by omega)).mpr (by simpa using q)), if_neg q, o1]
      exact led_2 hd ha h4 f (i + 1) m (by omega)
theorem led_ok {d i : Nat} (hd : d < 64) (ha : ztg S a = 2) (h4 : zI S 4 a = Int32.ofNat d) (hi : i ≤ 6) (hm : 10 ≤ m) : yA_ledFrom m S a (Int32.ofNat i) = some (S, nxv (nxl d (6 - i) i)) := by
  have := led_2 hd ha h4 (6 - i) i (m - 1 - (6 - i)) (by omega)
  rw [show m - 1 - (6 - i) + 1 + (6 - i) = m by omega] at this
  exact this
theorem val_for {e : Nat} (h9 : ztg S 2 = 9) (h3 : zR S 3 2 = some 6) (h6 : ztg S 6 = 20) (l6 : zLen S 6 = 24) (ha : ztg S a = 2) (hL : zL S a = Int64.ofNat e) (hx : Xok e) (hp : p < 6) (hV : ∀ v, v < 4 → V v = zAI S 6 (4 * p + v)) (hm : 20 ≤ m) : yT_valueFor m S 2 (Int32.ofNat p) (some a) = some (S, evx V (xt e)) := by
  unfold yT_valueFor
  refine (zob_s rfl).trans ?_
  rw [if_pos ha, if_pos h9]
  refine zlb_s.trans ?_
  rw [hL, h3]
  exact (zcP_s (value_ok h6 l6 hp hV hx hm)).trans rfl
theorem go_1 (hx : Fix S) (hp : p < 6) (nd : Ndd S a n ks) (hk : cK n = 1) (hX : Xok (cE n)) (hV : ∀ v, v < 4 → V v = zAI S 6 (4 * p + v)) (hm : 20 ≤ m) : yT_goOn m S 2 (Int32.ofNat p) (some a) = some (szR (szAI S 6 (upd (zAI S 6) (4 * p + cV n) (evx V (xt (cE n))))) 2 (7 + 3 * p) (zR S 9 a), 1) := by
  obtain ⟨_, _, ⟨d1, d2, d3, d4, d5⟩, ⟨e1, e2, e3⟩, _, _, ⟨g1, g2⟩, _, _, jj, _⟩ := hx
  have hv := cV_lt n
  obtain ⟨n1, ⟨n2, n3, n4, n5, n6, n7⟩, _⟩ := nd
  unfold yT_goOn
  rw [if_pos d1]
  refine zlb_s.trans ((zob_s d2).trans ?_)
  rw [if_pos (zal_r (Or.inl e1)).2, e2, if_pos (j_in (by omega) hp), (j_n (n := p) (by omega)).2, e3, rf3_o p hp]
  refine zlb_s.trans ((zob_s rfl).trans ?_)
  rw [if_pos n1, n2, hk, if_pos (by decide)]
  refine zlb_s.trans ?_
  refine (zcP_s (val_for d1 d5 g1 g2 n1 n7 hX hp hV hm)).trans ?_
  refine (zob_s d5).trans ?_
  have e0 : y_indexOf (Int32.ofNat p) (zI S 1 a) = Int32.ofNat (4 * p + cV n) := by
    unfold y_indexOf
    rw [n3, show (4 : Int32) = Int32.ofNat 4 from rfl, ← Int32.ofNat_mul, ty_add, Nat.mul_comm]
  rw [if_pos g1, g2, e0, if_pos (j_in (by omega) (by omega)), if_pos n1, (j_n (n := 4 * p + cV n) (by omega)).2]
  refine zlb_s.trans ((zob_s rfl).trans ?_)
  rw [if_pos (jj p hp).1]
theorem send_ok (hx : Fix S) (hp : p < 6) (nd : Ndd S a n ks) (ho : cO n < 6) (hk : k = 6 * p + cO n) (hr : zI S 4 2 = Int32.ofNat r) (r8 : r ≤ 8) (hh : zI S 2 (25 + 3 * k) = Int32.ofNat h) (h8 : h < 8) (hz : zI S 3 (25 + 3 * k) = Int32.ofNat z) (zr : z ≤ r) (hb : b = 0 ∨ b = 1) : (z < r → yT_send S 2 (Int32.ofNat p) (some a) v b = some (szR (eqS S k h z v b) 2 (7 + 3 * p) (zR S 9 a), 1)) ∧ (z = r → yT_send S 2 (Int32.ofNat p) (some a) v b = some (S, 0)) := by
  have en := enq_ok (v := v) hx hp ho hk hr r8 hh h8 hz zr hb
  obtain ⟨_, _, ⟨d1, d2, d3, d4, d5⟩, ⟨e1, e2, e3⟩, _, _, ⟨g1, g2⟩, _, _, jj, _⟩ := hx
  obtain ⟨n1, ⟨n2, n3, n4, n5, n6, n7⟩, _⟩ := nd
  unfold yT_send
  refine ⟨fun hl => ?_, fun hl => ?_⟩
  · refine (zob_s rfl).trans ?_
    rw [if_pos n1, if_pos d1, n5]
    refine (zcP_s (en.1 hl)).trans ?_
    rw [if_neg (by decide), if_pos (show ztg (eqS S k h z v b) 2 = 9 from d1)]
    refine zlb_s.trans ((zob_s (show zR (eqS S k h z v b) 0 2 = some 3 from d2)).trans ?_)
    rw [if_pos (show zar (eqS S k h z v b) 3 from (zal_r (Or.inl e1)).2), show zLen (eqS S k h z v b) 3 = 6 from e2, if_pos (j_in (by omega) hp), (j_n (n := p) (by omega)).2, show zAR (eqS S k h z v b) 3 = rf_3 from e3, rf3_o p hp]
    refine zlb_s.trans ?_
    rw [if_pos (show ztg (eqS S k h z v b) a = 2 from n1)]
    refine zlb_s.trans ((zob_s rfl).trans ?_)
    rw [if_pos (show ztg (eqS S k h z v b) (7 + 3 * p) = 5 from (jj p hp).1)]
    rfl
  · refine (zob_s rfl).trans ?_
    rw [if_pos n1, if_pos d1, n5]
    refine (zcP_s (en.2 hl)).trans ?_
    rw [if_pos rfl]
theorem go_24 (hx : Fix S) (hp : p < 6) (nd : Ndd S a n ks) (ho : cO n < 6) (hc : (cK n = 2 ∧ Xok (cE n) ∧ v = evx V (xt (cE n)) ∧ b = 0) ∨ (cK n = 4 ∧ v = Int32.ofNat (cL n) ∧ b = 1)) (hk : k = 6 * p + cO n) (hr : zI S 4 2 = Int32.ofNat r) (r8 : r ≤ 8) (hh : zI S 2 (25 + 3 * k) = Int32.ofNat h) (h8 : h < 8) (hz : zI S 3 (25 + 3 * k) = Int32.ofNat z) (zr : z ≤ r) (hV : ∀ v, v < 4 → V v = zAI S 6 (4 * p + v)) (hm : 20 ≤ m) : (z < r → yT_goOn m S 2 (Int32.ofNat p) (some a) = some (szR (eqS S k h z v b) 2 (7 + 3 * p) (zR S 9 a), 1)) ∧ (z = r → yT_goOn m S 2 (Int32.ofNat p) (some a) = some (S, 0)) := by
  have hb : b = 0 ∨ b = 1 := by
    rcases hc with ⟨_, _, _, e⟩ | ⟨_, _, e⟩
    · exact Or.inl e
    · exact Or.inr e
  have sn := send_ok (v := v) hx hp nd ho hk hr r8 hh h8 hz zr hb
  obtain ⟨_, _, ⟨d1, d2, d3, d4, d5⟩, ⟨e1, e2, e3⟩, _, _, ⟨g1, g2⟩, _, _, jj, _⟩ := hx
  obtain ⟨n1, ⟨n2, n3, n4, n5, n6, n7⟩, _⟩ := nd
  have key : ∀ (y : hS) (w : Int32), (w = 0 ∨ w = 1) → yT_send S 2 (Int32.ofNat p) (some a) v b = some (y, w) → yT_goOn m S 2 (Int32.ofNat p) (some a) = some (y, w) := by
    intro y w hw hs
    unfold yT_goOn
    rw [if_pos d1]
    refine zlb_s.trans ((zob_s d2).trans ?_)
    rw [if_pos (zal_r (Or.inl e1)).2, e2, if_pos (j_in (by omega) hp), (j_n (n := p) (by omega)).2, e3, rf3_o p hp]
    refine zlb_s.trans ((zob_s rfl).trans ?_)
    rw [if_pos n1, n2]
    rcases hc with ⟨hk, hX, rfl, rfl⟩ | ⟨hk, rfl, rfl⟩
    · rw [hk, if_neg (by decide), if_pos (by decide)]
      refine (zcP_s (val_for d1 d5 g1 g2 n1 n7 hX hp hV hm)).trans ?_
      rw [if_pos d1]
      refine (zcP_s hs).trans ?_
      rw [if_pos hw]
    · rw [hk, if_neg (by decide), if_neg (by decide), if_pos (by decide), n4]
      refine (zcP_s hs).trans ?_
      rw [if_pos hw]
  exact ⟨fun hl => key _ _ (Or.inr rfl) (sn.1 hl), fun hl => key _ _ (Or.inl rfl) (sn.2 hl)⟩
theorem go_6 {w : Option Nat} {i : Nat} (hx : Fix S) (hp : p < 6) (nd : Ndd S a n ks) (hk : cK n = 6) (hX : Xok (cE n)) (hV : ∀ v, v < 4 → V v = zAI S 6 (4 * p + v)) (hi : i = if evx V (xt (cE n)) = 0 then 1 else 0) (he : yA_enter S a (Int32.ofNat i) = some (S, w)) (hm : 20 ≤ m) : yT_goOn m S 2 (Int32.ofNat p) (some a) = some (szR S 2 (7 + 3 * p) w, 1) := by
  obtain ⟨_, _, ⟨d1, d2, d3, d4, d5⟩, ⟨e1, e2, e3⟩, _, _, ⟨g1, g2⟩, _, _, jj, _⟩ := hx
  obtain ⟨n1, ⟨n2, n3, n4, n5, n6, n7⟩, _⟩ := nd
  unfold yT_goOn
  rw [if_pos d1]
  refine zlb_s.trans ((zob_s d2).trans ?_)
  rw [if_pos (zal_r (Or.inl e1)).2, e2, if_pos (j_in (by omega) hp), (j_n (n := p) (by omega)).2, e3, rf3_o p hp]
  refine zlb_s.trans ((zob_s rfl).trans ?_)
  rw [if_pos n1, n2, hk, if_neg (by decide), if_neg (by decide), if_neg (by decide), if_pos (by decide)]
  refine (zcP_s (val_for d1 d5 g1 g2 n1 n7 hX hp hV hm)).trans ?_
  by_cases q : evx V (xt (cE n)) = 0
  · rw [if_pos q] at hi ⊢
    subst hi
    rw [if_pos n1]
    refine (zcP_s he).trans ((zob_s rfl).trans ?_)
    rw [if_pos (jj p hp).1]
  · rw [if_neg q] at hi ⊢
    subst hi
    rw [if_pos n1]
    refine (zcP_s he).trans ((zob_s rfl).trans ?_)
    rw [if_pos (jj p hp).1]
end GO
