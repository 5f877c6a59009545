section GR
variable {S : hS} {p a n m k h z r i d : Nat} {ks : Fo} {V : Nat → Int32} {v b : Int32} {w : Option Nat}
theorem r85_n (h1 : ztg S (7 + 3 * p) = 5) (h2 : zI S 5 (7 + 3 * p) ≠ -1) : yT_goRound_85 2 m S (some a) (some (7 + 3 * p)) = some (S, 1) := by
  unfold yT_goRound_85
  refine (zob_s rfl).trans ?_
  rw [if_pos h1, if_neg h2]
theorem r85_0 (h1 : ztg S (7 + 3 * p) = 5) (h2 : zI S 5 (7 + 3 * p) = -1) (h3 : zI S 4 (7 + 3 * p) = 0) (ha : ztg S a = 2) : yT_goRound_85 2 m S (some a) (some (7 + 3 * p)) = some (szR (szI S 3 (7 + 3 * p) 0) 2 (7 + 3 * p) (zR S 9 a), 1) := by
  unfold yT_goRound_85
  refine (zob_s rfl).trans ?_
  rw [if_pos h1, if_pos h2, if_pos h3]
  refine (zob_s rfl).trans ?_
  rw [if_pos ha]
  rfl
theorem r85_1 (h1 : ztg S (7 + 3 * p) = 5) (h2 : zI S 5 (7 + 3 * p) = -1) (h3 : zI S 4 (7 + 3 * p) ≠ 0) (ha : ztg S a = 2) (he : yA_enter (szI S 3 (7 + 3 * p) 0) a 0 = some (szI S 3 (7 + 3 * p) 0, w)) : yT_goRound_85 2 m S (some a) (some (7 + 3 * p)) = some (szR (szI S 3 (7 + 3 * p) 0) 2 (7 + 3 * p) w, 1) := by
  unfold yT_goRound_85
  refine (zob_s rfl).trans ?_
  rw [if_pos h1, if_pos h2, if_neg h3]
  refine (zob_s rfl).trans ?_
  rw [if_pos ha]
  refine (zcP_s he).trans ?_
  rw [if_pos (show ztg (szI S 3 (7 + 3 * p) 0) (7 + 3 * p) = 5 from h1)]
theorem gro_0 (hx : Fix S) (hp : p < 6) (nd : Ndd S a n ks) (hX : Xok (cE n)) (hV : ∀ v, v < 4 → V v = zAI S 6 (4 * p + v)) (h3 : zI S 3 (7 + 3 * p) = 0) (hm : 20 ≤ m) (hb : b = if evx V (xt (cE n)) = 0 then 0 else 1) : yT_goRound m S 2 (Int32.ofNat p) (some a) = yT_goRound_85 2 m (szI (szI (szI S 3 (7 + 3 * p) 1) 4 (7 + 3 * p) b) 5 (7 + 3 * p) (nxv (nxl (cD n) 6 0))) (some a) (some (7 + 3 * p)) := by
  obtain ⟨_, _, ⟨d1, d2, d3, d4, d5⟩, ⟨e1, e2, e3⟩, _, _, ⟨g1, g2⟩, _, _, jj, _⟩ := hx
  obtain ⟨n1, ⟨n2, n3, n4, n5, n6, n7⟩, _⟩ := nd
  have hd := cD_lt n
  have hq := (jj p hp).1
  have na : a ≠ 7 + 3 * p := fun e => by rw [e, hq] at n1; omega
  unfold yT_goRound
  rw [if_pos d1]
  refine zlb_s.trans ((zob_s d2).trans ?_)
  rw [if_pos (zal_r (Or.inl e1)).2, e2, if_pos (j_in (by omega) hp), (j_n (n := p) (by omega)).2, e3, rf3_o p hp]
  refine zlb_s.trans ((zob_s rfl).trans ?_)
  rw [if_pos hq, if_pos h3]
  refine (zcP_s (val_for (S := szI S 3 (7 + 3 * p) 1) d1 d5 g1 g2 n1 n7 hX hp hV hm)).trans ?_
  have ld : ∀ c : Int32, yA_ledFrom m (szI (szI S 3 (7 + 3 * p) 1) 4 (7 + 3 * p) c) a 0 = some (szI (szI S 3 (7 + 3 * p) 1) 4 (7 + 3 * p) c, nxv (nxl (cD n) 6 0)) := fun c => led_ok (i := 0) hd n1 (by rw [zI_ne na, zI_ne na]; exact n6) (by omega) (by omega)
  by_cases q : evx V (xt (cE n)) = 0
  · rw [if_pos q] at hb ⊢
    subst hb
    rw [if_pos (show ztg (szI S 3 (7 + 3 * p) 1) (7 + 3 * p) = 5 from hq)]
    refine (zob_s rfl).trans ?_
    rw [if_pos (show ztg (szI S 3 (7 + 3 * p) 1) a = 2 from n1)]
    refine (zcP_s (ld 0)).trans ?_
    rw [if_pos (show ztg (szI (szI S 3 (7 + 3 * p) 1) 4 (7 + 3 * p) 0) (7 + 3 * p) = 5 from hq)]
  · rw [if_neg q] at hb ⊢
    subst hb
    rw [if_pos (show ztg (szI S 3 (7 + 3 * p) 1) (7 + 3 * p) = 5 from hq)]
    refine (zob_s rfl).trans ?_
    rw [if_pos (show ztg (szI S 3 (7 + 3 * p) 1) a = 2 from n1)]
    refine (zcP_s (ld 1)).trans ?_
    rw [if_pos (show ztg (szI (szI S 3 (7 + 3 * p) 1) 4 (7 + 3 * p) 1) (7 + 3 * p) = 5 from hq)]
theorem gro_1 (hx : Fix S) (hp : p < 6) (nd : Ndd S a n ks) (h3 : zI S 3 (7 + 3 * p) = 1) (h5 : zI S 5 (7 + 3 * p) = Int32.ofNat i) (hi : i < 6) (hk : k = 6 * p + i) (hr : zI S 4 2 = Int32.ofNat r) (r8 : r ≤ 8) (hh : zI S 2 (25 + 3 * k) = Int32.ofNat h) (h8 : h < 8) (hz : zI S 3 (25 + 3 * k) = Int32.ofNat z) (zr : z ≤ r) (hm : 20 ≤ m) : (z < r → yT_goRound m S 2 (Int32.ofNat p) (some a) = yT_goRound_85 2 m (szI (eqS S k h z (zI S 4 (7 + 3 * p)) 1) 5 (7 + 3 * p) (nxv (nxl (cD n) (5 - i) (i + 1)))) (some a) (some (7 + 3 * p))) ∧ (z = r → yT_goRound m S 2 (Int32.ofNat p) (some a) = some (S, 0)) := by
  have en := enq_ok (v := zI S 4 (7 + 3 * p)) hx hp hi hk hr r8 hh h8 hz zr (Or.inr rfl)
  obtain ⟨_, _, ⟨d1, d2, d3, d4, d5⟩, ⟨e1, e2, e3⟩, _, _, ⟨g1, g2⟩, _, _, jj, kk⟩ := hx
  obtain ⟨n1, ⟨n2, n3, n4, n5, n6, n7⟩, _⟩ := nd
  have hd := cD_lt n
  have hq := (jj p hp).1
  have na : a ≠ 25 + 3 * k := fun e => by rw [e, (kk k (by omega)).1] at n1; omega
  have key : ∀ y c, (yT_enqueue S 2 (Int32.ofNat p) (Int32.ofNat i) (zI S 4 (7 + 3 * p)) 1 = some (y, c)) → yT_goRound m S 2 (Int32.ofNat p) (some a) = (if c = 0 then some (y, 0) else (if ztg y (7 + 3 * p) = 5 then (zob (some a) fun a11 => (if ztg y a11 = 2 then (zcP (yA_ledFrom m y a11 ((zI y 5 (7 + 3 * p)) + 1)) fun S12 v12 => (if ztg S12 (7 + 3 * p) = 5 then (yT_goRound_85 2 m (szI S12 5 (7 + 3 * p) v12) (some a11) (some (7 + 3 * p))) else none)) else none)) else none)) := by
    intro y c he
    unfold yT_goRound
    rw [if_pos d1]
    refine zlb_s.trans ((zob_s d2).trans ?_)
    rw [if_pos (zal_r (Or.inl e1)).2, e2, if_pos (j_in (by omega) hp), (j_n (n := p) (by omega)).2, e3, rf3_o p hp]
    refine zlb_s.trans ((zob_s rfl).trans ?_)
    rw [if_pos hq, h3, if_neg (by decide), h5]
    exact (zcP_s he).trans rfl
  refine ⟨fun hl => ?_, fun hl => ?_⟩
  · rw [key _ _ (en.1 hl), if_neg (by decide), if_pos (show ztg (eqS S k h z (zI S 4 (7 + 3 * p)) 1) (7 + 3 * p) = 5 from hq)]
    refine (zob_s rfl).trans ?_
    rw [if_pos (show ztg (eqS S k h z (zI S 4 (7 + 3 * p)) 1) a = 2 from n1)]
    have e5 : zI (eqS S k h z (zI S 4 (7 + 3 * p)) 1) 5 (7 + 3 * p) = Int32.ofNat i := by
      unfold eqS
      rw [zI_ne (by omega)]
      exact h5
    have e4 : zI (eqS S k h z (zI S 4 (7 + 3 * p)) 1) 4 a = Int32.ofNat (cD n) := by
      unfold eqS
      rw [zI_ne na]
      exact n6
    rw [e5, o1]
    refine (zcP_s (led_ok (S := eqS S k h z (zI S 4 (7 + 3 * p)) 1) (m := m) (i := i + 1) hd n1 e4 (by omega) (by omega))).trans ?_
    rw [if_pos (show ztg (eqS S k h z (zI S 4 (7 + 3 * p)) 1) (7 + 3 * p) = 5 from hq), show 6 - (i + 1) = 5 - i by omega]
  · rw [key _ _ (en.2 hl), if_pos rfl]
theorem go_7 {y : hS} (hx : Fix S) (hp : p < 6) (nd : Ndd S a n ks) (hk : cK n = 7) (hb : b = 0 ∨ b = 1) (hg : yT_goRound m S 2 (Int32.ofNat p) (some a) = some (y, b)) : yT_goOn m S 2 (Int32.ofNat p) (some a) = some (y, b) := by
  obtain ⟨_, _, ⟨d1, d2, d3, d4, d5⟩, ⟨e1, e2, e3⟩, _, _, ⟨g1, g2⟩, _, _, jj, _⟩ := hx
  obtain ⟨n1, ⟨n2, n3, n4, n5, n6, n7⟩, _⟩ := nd
  unfold yT_goOn
  rw [if_pos d1]
  refine zlb_s.trans ((zob_s d2).trans ?_)
  rw [if_pos (zal_r (Or.inl e1)).2, e2, if_pos (j_in (by omega) hp), (j_n (n := p) (by omega)).2, e3, rf3_o p hp]
  refine zlb_s.trans ((zob_s rfl).trans ?_)
  rw [if_pos n1, n2, hk, if_neg (by decide), if_neg (by decide), if_neg (by decide), if_neg (by decide), if_pos (by decide)]
  refine (zcP_s hg).trans ?_
  rw [if_pos hb]
theorem go_r {y : hS} (hx : Fix S) (hp : p < 6) (nd : Ndd S a n ks) (hk : cK n = 3 ∨ cK n = 5 ∨ cK n = 8) (hb : b = 0 ∨ b = 1) (hg : yT_receive S 2 (Int32.ofNat p) (some a) = some (y, b)) : yT_goOn m S 2 (Int32.ofNat p) (some a) = some (y, b) := by
  obtain ⟨_, _, ⟨d1, d2, d3, d4, d5⟩, ⟨e1, e2, e3⟩, _, _, ⟨g1, g2⟩, _, _, jj, _⟩ := hx
  obtain ⟨n1, ⟨n2, n3, n4, n5, n6, n7⟩, _⟩ := nd
  unfold yT_goOn
  rw [if_pos d1]
  refine zlb_s.trans ((zob_s d2).trans ?_)
  rw [if_pos (zal_r (Or.inl e1)).2, e2, if_pos (j_in (by omega) hp), (j_n (n := p) (by omega)).2, e3, rf3_o p hp]
  refine zlb_s.trans ((zob_s rfl).trans ?_)
  have key : zcP (yT_receive S 2 (Int32.ofNat p) (some a)) (fun S19 v19 => (if v19 = 0 ∨ v19 = 1 then (some (S19, v19)) else none)) = some (y, b) := by
    refine (zcP_s hg).trans ?_
    rw [if_pos hb]
  rcases hk with hk | hk | hk
  · rw [if_pos n1, n2, hk, if_neg (by decide), if_neg (by decide), if_neg (by decide), if_neg (by decide), if_neg (by decide)]
    exact key
  · rw [if_pos n1, n2, hk, if_neg (by decide), if_neg (by decide), if_neg (by decide), if_neg (by decide), if_neg (by decide)]
    exact key
  · rw [if_pos n1, n2, hk, if_neg (by decide), if_neg (by decide), if_neg (by decide), if_neg (by decide), if_neg (by decide)]
    exact key
theorem rc_0 (hx : Fix S) (hp : p < 6) (nd : Ndd S a n ks) (ho : cO n < 6) (hk : k = 6 * cO n + p) (hz : zI S 3 (25 + 3 * k) = 0) : yT_receive S 2 (Int32.ofNat p) (some a) = some (S, 0) := by
  have hx' := hx
  obtain ⟨_, _, ⟨d1, d2, d3, d4, d5⟩, _, _, _, _, _, _, jj, kk⟩ := hx
  obtain ⟨n1, ⟨n2, n3, n4, n5, n6, n7⟩, _⟩ := nd
  subst hk
  unfold yT_receive
  refine (zob_s rfl).trans ?_
  rw [if_pos n1, if_pos d1, n5]
  refine (zcP_s (queueOf_ok hx' ho hp)).trans ((zob_s rfl).trans ?_)
  rw [if_pos (kk _ (by omega)).1, if_pos hz]
theorem rc_1 {X : Option (hS × Int32)} (hx : Fix S) (hp : p < 6) (nd : Ndd S a n ks) (ho : cO n < 6) (hk : k = 6 * cO n + p) (hz : zI S 3 (25 + 3 * k) = Int32.ofNat z) (z1 : 1 ≤ z) (z8 : z ≤ 8) (hh : zI S 2 (25 + 3 * k) = Int32.ofNat h) (h8 : h < 8) (hv : zAI S (26 + 3 * k) h = v) (h5 : cK n = 5 → yA_hasPart S a v = some (S, 1)) (hX : yT_receive_45 2 S (Int32.ofNat p) (some a) (some (25 + 3 * k)) v = X) : yT_receive S 2 (Int32.ofNat p) (some a) = X := by
  have hx' := hx
  obtain ⟨_, _, ⟨d1, d2, d3, d4, d5⟩, _, _, _, _, _, _, jj, kk⟩ := hx
  obtain ⟨n1, ⟨n2, n3, n4, n5, n6, n7⟩, _⟩ := nd
  obtain ⟨m1, m2, m3, m4, m5, m6, m7⟩ := kk k (by omega)
  have hK : cK n < 16 := Nat.mod_lt _ (by decide)
  have vat : yQ_valueAt S (25 + 3 * k) 0 = some (S, v) := by
    unfold yQ_valueAt
    rw [if_pos m1]
    refine zlb_s.trans ((zob_s m2).trans ?_)
    rw [if_pos m4, hh, Int32.add_zero, rm8 h (by omega), m5, if_pos (j_in (by omega) (by omega)), (j_n (n := h % 8) (by omega)).2, Nat.mod_eq_of_lt h8, hv]
  subst hk
  unfold yT_receive
  refine (zob_s rfl).trans ?_
  rw [if_pos n1, if_pos d1, n5]
  refine (zcP_s (queueOf_ok hx' ho hp)).trans ((zob_s rfl).trans ?_)
  rw [if_pos m1, hz, if_neg (fun e => by
    have := (cq0 (c := z) (by omega)).mp e
    omega)]
  refine (zcP_s vat).trans ?_
  rw [if_pos n1, n2]
  by_cases q : cK n = 5
  · rw [if_pos (by rw [q]; decide)]
    refine (zcP_s (h5 q)).trans ?_
    rw [if_neg (by decide)]
    exact hX
  · rw [if_neg (show ¬ Int32.ofNat (cK n) = 5 from fun e => q ((cq (c := cK n) (e := 5) (x := 5) (by omega) (by decide) rfl).mp e))]
    exact hX
theorem rm_ok (hx : Fix S) (hk : k < 36) (hz : zI S 3 (25 + 3 * k) = Int32.ofNat z) (z1 : 1 ≤ z) (z8 : z ≤ 8) (hh : zI S 2 (25 + 3 * k) = Int32.ofNat h) (h8 : h < 8) : yQ_removeFirst S (25 + 3 * k) = some (rmS S k h z) := by
  obtain ⟨_, _, _, _, _, _, _, _, _, jj, kk⟩ := hx
  unfold yQ_removeFirst
  rw [if_pos (kk k hk).1, hz, if_neg (nz z1 (by omega)), hh, o1, rm8 (h + 1) (by omega), o_s1 z1]
  rfl
theorem rc_45 {X : Option (hS × Int32)} (hx : Fix S) (hp : p < 6) (nd : Ndd S a n ks) (hk : k < 36) (hz : zI S 3 (25 + 3 * k) = Int32.ofNat z) (z1 : 1 ≤ z) (z8 : z ≤ 8) (hh : zI S 2 (25 + 3 * k) = Int32.ofNat h) (h8 : h < 8) (hX : (cK n = 3 ∧ X = some (szR (szAI (rmS S k h z) 6 (upd (zAI S 6) (4 * p + cV n) v)) 2 (7 + 3 * p) (zR S 9 a), 1)) ∨ (cK n = 5 ∧ yA_enter (rmS S k h z) a v = some (rmS S k h z, w) ∧ X = some (szR (rmS S k h z) 2 (7 + 3 * p) w, 1)) ∨ (cK n = 8 ∧ v = 0 ∧ X = some (szR (rmS S k h z) 2 (7 + 3 * p) (zR S 9 a), 1)) ∨ (cK n = 8 ∧ v ≠ 0 ∧ yA_enter (rmS S k h z) a 0 = some (rmS S k h z, w) ∧ X = some (szR (rmS S k h z) 2 (7 + 3 * p) w, 1))) : yT_receive_45 2 S (Int32.ofNat p) (some a) (some (25 + 3 * k)) v = X := by
  have rm := rm_ok hx hk hz z1 z8 hh h8
  obtain ⟨_, _, ⟨d1, d2, d3, d4, d5⟩, ⟨e1, e2, e3⟩, _, _, ⟨g1, g2⟩, _, _, jj, kk⟩ := hx
  obtain ⟨n1, ⟨n2, n3, n4, n5, n6, n7⟩, _⟩ := nd
  have hK : cK n < 16 := Nat.mod_lt _ (by decide)
  have hv' := cV_lt n
  have na : a ≠ 25 + 3 * k := fun e => by rw [e, (kk k hk).1] at n1; omega
  have zi : ∀ m, zI (rmS S k h z) m a = zI S m a := fun m => by
    unfold rmS
    rw [zI_ne na, zI_ne na]
  unfold yT_receive_45
  refine (zob_s rfl).trans ?_
  rw [if_pos (kk k hk).1]
  refine (zcV_s rm).trans ?_
  rw [if_pos (show ztg (rmS S k h z) 2 = 9 from d1)]
  refine zlb_s.trans ((zob_s (show zR (rmS S k h z) 0 2 = some 3 from d2)).trans ?_)
  rw [if_pos (show zar (rmS S k h z) 3 from (zal_r (Or.inl e1)).2), show zLen (rmS S k h z) 3 = 6 from e2, if_pos (j_in (by omega) hp), (j_n (n := p) (by omega)).2, show zAR (rmS S k h z) 3 = rf_3 from e3, rf3_o p hp]
  refine zlb_s.trans ((zob_s rfl).trans ?_)
  rw [if_pos (show ztg (rmS S k h z) a = 2 from n1), zi 0, n2]
  rcases hX with ⟨hk, rfl⟩ | ⟨hk, he, rfl⟩ | ⟨hk, rfl, rfl⟩ | ⟨hk, hv, he, rfl⟩
  · rw [hk, if_pos (by decide)]
    refine zlb_s.trans ((zob_s (show zR (rmS S k h z) 3 2 = some 6 from d5)).trans ?_)
    have e0 : y_indexOf (Int32.ofNat p) (zI (rmS S k h z) 1 a) = Int32.ofNat (4 * p + cV n) := by
      unfold y_indexOf
      rw [zi, n3, show (4 : Int32) = Int32.ofNat 4 from rfl, ← Int32.ofNat_mul, ty_add, Nat.mul_comm]
    rw [if_pos (show ztg (rmS S k h z) 6 = 20 from g1), show zLen (rmS S k h z) 6 = 24 from g2, e0, if_pos (j_in (by omega) (by omega)), (j_n (n := 4 * p + cV n) (by omega)).2]
    refine zlb_s.trans ((zob_s rfl).trans ?_)
    rw [if_pos (show ztg (rmS S k h z) (7 + 3 * p) = 5 from (jj p hp).1)]
    rfl
  · rw [hk, if_neg (by decide), if_pos (by decide)]
    refine (zcP_s he).trans ((zob_s rfl).trans ?_)
    rw [if_pos (show ztg (rmS S k h z) (7 + 3 * p) = 5 from (jj p hp).1)]
  · rw [hk, if_neg (by decide), if_neg (by decide), if_pos rfl]
    refine zlb_s.trans ((zob_s rfl).trans ?_)
    rw [if_pos (show ztg (rmS S k h z) (7 + 3 * p) = 5 from (jj p hp).1)]
    rfl
  · rw [hk, if_neg (by decide), if_neg (by decide), if_neg hv]
    refine (zcP_s he).trans ((zob_s rfl).trans ?_)
    rw [if_pos (show ztg (rmS S k h z) (7 + 3 * p) = 5 from (jj p hp).1)]
theorem turn_ok {y : hS} (hx : Fix S) (hp : p < 6) (hb : b = 0 ∨ b = 1) (h2 : zR S 2 (7 + 3 * p) = some a) (hg : yT_goOn m S 2 (Int32.ofNat p) (some a) = some (y, b)) (hy : ztg y 2 = 9) : yT_takeTurn m S 2 (Int32.ofNat p) = some (if b = 0 then y else szI y 5 2 1, b) := by
  obtain ⟨_, _, ⟨d1, d2, d3, d4, d5⟩, ⟨e1, e2, e3⟩, _, _, _, _, _, jj, kk⟩ := hx
  unfold yT_takeTurn
  rw [if_pos d1]
  refine zlb_s.trans ((zob_s d2).trans ?_)
  rw [if_pos (zal_r (Or.inl e1)).2, e2, if_pos (j_in (by omega) hp), (j_n (n := p) (by omega)).2, e3, rf3_o p hp]
  refine zlb_s.trans ((zob_s rfl).trans ?_)
  rw [if_pos (jj p hp).1]
  refine zlb_s.trans ?_
  rw [h2, zoc_S]
  refine (zcP_s hg).trans ?_
  rcases hb with rfl | rfl
  · rw [if_pos rfl, if_pos rfl]
  · rw [if_neg (by decide), if_pos hy, if_neg (by decide)]
theorem turn_e (hx : Fix S) (hp : p < 6) (h2 : zR S 2 (7 + 3 * p) = none) : yT_takeTurn m S 2 (Int32.ofNat p) = some (S, 2) := by
  obtain ⟨_, _, ⟨d1, d2, d3, d4, d5⟩, ⟨e1, e2, e3⟩, _, _, _, _, _, jj, kk⟩ := hx
  unfold yT_takeTurn
  rw [if_pos d1]
  refine zlb_s.trans ((zob_s d2).trans ?_)
  rw [if_pos (zal_r (Or.inl e1)).2, e2, if_pos (j_in (by omega) hp), (j_n (n := p) (by omega)).2, e3, rf3_o p hp]
  refine zlb_s.trans ((zob_s rfl).trans ?_)
  rw [if_pos (jj p hp).1]
  refine zlb_s.trans ?_
  rw [h2, zoc_N]
end GR
