def Chg (p k : Nat) (S S1 : hS) : Prop := (S1.1 = S.1 ∧ S1.2.1 = S.2.1 ∧ S1.2.2.1 = S.2.2.1) ∧ (∀ m b, b ≠ 7 + 3 * p → b ≠ 25 + 3 * k → b ≠ 2 → zI S1 m b = zI S m b) ∧ (∀ m, m ≠ 2 → m ≠ 3 → zI S1 m (25 + 3 * k) = zI S m (25 + 3 * k)) ∧ (∀ m, m ≠ 5 → zI S1 m 2 = zI S m 2) ∧ (∀ m b, (m = 2 → b ≠ 7 + 3 * p) → zR S1 m b = zR S m b) ∧ (∀ b, b ≠ 6 → b ≠ 26 + 3 * k → b ≠ 27 + 3 * k → zAI S1 b = zAI S b) ∧ zL S1 = zL S ∧ zAR S1 = zAR S ∧ zAL S1 = zAL S ∧ zMI S1 = zMI S ∧ zMA S1 = zMA S
def eqS (S : hS) (k h z : Nat) (v b : Int32) : hS := szI (szAI (szAI S (26 + 3 * k) (upd (zAI S (26 + 3 * k)) ((h + z) % 8) v)) (27 + 3 * k) (upd (zAI S (27 + 3 * k)) ((h + z) % 8) b)) 3 (25 + 3 * k) (Int32.ofNat (z + 1))
def rmS (S : hS) (k h z : Nat) : hS := szI (szI S 2 (25 + 3 * k) (Int32.ofNat ((h + 1) % 8))) 3 (25 + 3 * k) (Int32.ofNat (z - 1))
def gvA (A : Nat → Nat → Int32) (k z : Nat) (v b : Int32) : Nat → Nat → Int32 := upA (upA (upA A 40 (upd (A 40) (8 * k + z) v)) 41 (upd (A 41) (8 * k + z) b)) 39 (upd (A 39) k (Int32.ofNat (z + 1)))
section CH
variable {S S1 S2 : hS} {p q k h z r n : Nat} {v b : Int32} {A : Nat → Nat → Int32} {I : Nat → Int32}
theorem Chg_r : Chg p k S S := ⟨⟨rfl, rfl, rfl⟩, fun _ _ _ _ _ => rfl, fun _ _ _ => rfl, fun _ _ => rfl, fun _ _ _ => rfl, fun _ _ _ _ => rfl, rfl, rfl, rfl, rfl, rfl⟩
theorem Chg_t (a : Chg p k S S1) (c : Chg p k S1 S2) : Chg p k S S2 := by
  obtain ⟨⟨a1, a2, a3⟩, a4, a5, a6, a7, a8, a9, a10, a11, a12, a13⟩ := a
  obtain ⟨⟨c1, c2, c3⟩, c4, c5, c6, c7, c8, c9, c10, c11, c12, c13⟩ := c
  exact ⟨⟨c1.trans a1, c2.trans a2, c3.trans a3⟩, fun m b x y w => (c4 m b x y w).trans (a4 m b x y w), fun m x y => (c5 m x y).trans (a5 m x y), fun m x => (c6 m x).trans (a6 m x), fun m b x => (c7 m b x).trans (a7 m b x), fun b x y w => (c8 b x y w).trans (a8 b x y w), c9.trans a9, c10.trans a10, c11.trans a11, c12.trans a12, c13.trans a13⟩
theorem Chg_R {w : Option Nat} : Chg p k S (szR S 2 (7 + 3 * p) w) := ⟨⟨rfl, rfl, rfl⟩, fun _ _ _ _ _ => rfl, fun _ _ _ => rfl, fun _ _ => rfl, fun m b e => zR_q e, fun _ _ _ _ => rfl, rfl, rfl, rfl, rfl, rfl⟩
theorem Chg_V {g : Nat → Int32} : Chg p k S (szAI S 6 g) := ⟨⟨rfl, rfl, rfl⟩, fun _ _ _ _ _ => rfl, fun _ _ _ => rfl, fun _ _ => rfl, fun _ _ _ => rfl, fun b e _ _ => zAI_n e, rfl, rfl, rfl, rfl, rfl⟩
theorem Chg_P {m : Nat} (hp : p < 6) : Chg p k S (szI S m (7 + 3 * p) v) := ⟨⟨rfl, rfl, rfl⟩, fun j b e _ _ => zI_ne e, fun j _ _ => zI_ne (by omega), fun j _ => zI_ne (by omega), fun _ _ _ => rfl, fun _ _ _ _ => rfl, rfl, rfl, rfl, rfl, rfl⟩
theorem Chg_T : Chg p k S (szI S 5 2 v) := ⟨⟨rfl, rfl, rfl⟩, fun j b _ _ e => zI_ne e, fun j _ _ => zI_ne (by omega), fun j e => zI_k e, fun _ _ _ => rfl, fun _ _ _ _ => rfl, rfl, rfl, rfl, rfl, rfl⟩
theorem Chg_Q {m : Nat} (hm : m = 2 ∨ m = 3) : Chg p k S (szI S m (25 + 3 * k) v) := ⟨⟨rfl, rfl, rfl⟩, fun j b _ e _ => zI_ne e, fun j h2 h3 => zI_k (by omega), fun j _ => zI_ne (by omega), fun _ _ _ => rfl, fun _ _ _ _ => rfl, rfl, rfl, rfl, rfl, rfl⟩
theorem Chg_A {g : Nat → Int32} : Chg p k S (szAI S (26 + 3 * k) g) ∧ Chg p k S (szAI S (27 + 3 * k) g) := ⟨⟨⟨rfl, rfl, rfl⟩, fun _ _ _ _ _ => rfl, fun _ _ _ => rfl, fun _ _ => rfl, fun _ _ _ => rfl, fun b _ e _ => zAI_n e, rfl, rfl, rfl, rfl, rfl⟩, ⟨⟨rfl, rfl, rfl⟩, fun _ _ _ _ _ => rfl, fun _ _ _ => rfl, fun _ _ => rfl, fun _ _ _ => rfl, fun b _ _ e => zAI_n e, rfl, rfl, rfl, rfl, rfl⟩⟩
theorem Chg_e : Chg p k S (eqS S k h z v b) := Chg_t (Chg_t Chg_A.1 Chg_A.2) (Chg_Q (Or.inr rfl))
theorem Chg_m : Chg p k S (rmS S k h z) := Chg_t (Chg_Q (Or.inl rfl)) (Chg_Q (Or.inr rfl))
theorem Chg_tg (c : Chg p k S S1) (a : Nat) : ztg S1 a = ztg S a := by
  unfold ztg
  rw [c.1.1, c.1.2.1]
theorem Chg_ln (c : Chg p k S S1) (a : Nat) : zLen S1 a = zLen S a := by
  show S1.2.2.1 a = S.2.2.1 a
  rw [c.1.2.2]
theorem Chg_fix (c : Chg p k S S1) (h : Fix S) : Fix S1 := by
  have t := Chg_tg c
  have l := Chg_ln c
  obtain ⟨_, _, _, _, c7, _, _, c10, _⟩ := c
  obtain ⟨⟨a1, a2, a3, a4⟩, ⟨b1, b2⟩, ⟨d1, d2, d3, d4, d5⟩, ⟨e1, e2, e3⟩, ⟨f1, f2, f3⟩, ⟨g1, g2⟩, ⟨h1, h2⟩, ⟨i1, i2⟩, ⟨j1, j2⟩, kk, ll⟩ := h
  have R : ∀ m b, m ≠ 2 ∨ b = 0 ∨ b = 2 → zR S1 m b = zR S m b := fun m b e => c7 m b (fun z => by omega)
  refine ⟨⟨by rw [t]; exact a1, by rw [R _ _ (by omega)]; exact a2, by rw [R _ _ (by omega)]; exact a3, by rw [R _ _ (by omega)]; exact a4⟩, ⟨by rw [t]; exact b1, by rw [l]; exact b2⟩, ⟨by rw [t]; exact d1, by rw [R _ _ (by omega)]; exact d2, by rw [R _ _ (by omega)]; exact d3, by rw [R _ _ (by omega)]; exact d4, by rw [R _ _ (by omega)]; exact d5⟩, ⟨by rw [t]; exact e1, by rw [l]; exact e2, by rw [c10]; exact e3⟩, ⟨by rw [t]; exact f1, by rw [l]; exact f2, by rw [c10]; exact f3⟩, ⟨by rw [t]; exact g1, by rw [l]; exact g2⟩, ⟨by rw [t]; exact h1, by rw [l]; exact h2⟩, ⟨by rw [t]; exact i1, by rw [l]; exact i2⟩, ⟨by rw [t]; exact j1, by rw [l]; exact j2⟩, ?_, ?_⟩
  · intro p' hp
    rw [t, t, t, l, R _ _ (by omega), R _ _ (by omega)]
    exact kk p' hp
  · intro k' hk
    rw [t, t, t, l, l, R _ _ (by omega), R _ _ (by omega)]
    exact ll k' hk
theorem queueOf_ok (hx : Fix S) (hp : p < 6) (hq : q < 6) : yT_queueOf S 2 (Int32.ofNat p) (Int32.ofNat q) = some (S, some (25 + 3 * (6 * p + q))) := by
  obtain ⟨_, _, ⟨d1, d2, d3, d4, d5⟩, _, ⟨f1, f2, f3⟩, _⟩ := hx
  unfold yT_queueOf
  rw [if_pos d1]
  refine zlb_s.trans ((zob_s d3).trans ?_)
  have e : Int32.ofNat p * 6 + Int32.ofNat q = Int32.ofNat (6 * p + q) := by
    rw [show (6 : Int32) = Int32.ofNat 6 from rfl, ← Int32.ofNat_mul, ty_add, Nat.mul_comm]
  rw [if_pos (zal_r (Or.inr f1)).2, f2, e, if_pos (j_in (by omega) (by omega)), (j_n (n := 6 * p + q) (by omega)).2, f3, rf4_o (6 * p + q) (by omega)]
  rfl
theorem narb (hb : b = 0 ∨ b = 1) : vp_nar .boolean b = b := by
  rcases hb with rfl | rfl <;> decide
theorem add_ok (hx : Fix S) (hk : k < 36) (hh : zI S 2 (25 + 3 * k) = Int32.ofNat h) (h8 : h < 8) (hz : zI S 3 (25 + 3 * k) = Int32.ofNat z) (z8 : z < 8) (hb : b = 0 ∨ b = 1) : yQ_add S (25 + 3 * k) v b = some (eqS S k h z v b) := by
  obtain ⟨_, _, _, _, _, _, _, _, _, _, ll⟩ := hx
  obtain ⟨m1, m2, m3, m4, m5, m6, m7⟩ := ll k hk
  unfold yQ_add
  rw [if_pos m1, hh, hz, if_neg (le8 z8)]
  refine zlb_s.trans ((zob_s m2).trans ?_)
  rw [if_pos m4, m5, ty_add, rm8 (h + z) (by omega), if_pos (j_in (by omega) (by omega))]
  refine zlb_s.trans ((zob_s m3).trans ?_)
  rw [if_pos m6, m7, if_pos (j_in (by omega) (by omega)), (j_n (n := (h + z) % 8) (by omega)).2, narb hb, o1, zAI_n (by omega)]
  rfl
theorem enq_ok (hx : Fix S) (hp : p < 6) (hq : q < 6) (hk : k = 6 * p + q) (hr : zI S 4 2 = Int32.ofNat r) (r8 : r ≤ 8) (hh : zI S 2 (25 + 3 * k) = Int32.ofNat h) (h8 : h < 8) (hz : zI S 3 (25 + 3 * k) = Int32.ofNat z) (zr : z ≤ r) (hb : b = 0 ∨ b = 1) : (z < r → yT_enqueue S 2 (Int32.ofNat p) (Int32.ofNat q) v b = some (eqS S k h z v b, 1)) ∧ (z = r → yT_enqueue S 2 (Int32.ofNat p) (Int32.ofNat q) v b = some (S, 0)) := by
  have hx' := hx
  obtain ⟨_, _, ⟨d1, _⟩, _, _, _, _, _, _, _, ll⟩ := hx'
  obtain ⟨m1, m2, m3, m4, m5, m6, m7⟩ := ll k (by omega)
  unfold yT_enqueue
  rw [if_pos d1]
  subst hk
  refine ⟨fun hl => ?_, fun hl => ?_⟩
  · refine (zcP_s (queueOf_ok hx hp hq)).trans ((zob_s rfl).trans ?_)
    rw [if_pos m1, if_pos d1, hz, hr, if_pos ((j_lt (by omega) (by omega)).mpr hl)]
    exact (zcV_s (add_ok hx (by omega) hh h8 hz (by omega) hb)).trans rfl
  · refine (zcP_s (queueOf_ok hx hp hq)).trans ((zob_s rfl).trans ?_)
    rw [if_pos m1, if_pos d1, hz, hr, if_neg (mt (j_lt (by omega) (by omega)).mp (by omega))]
theorem ixq (hp : p < 6) (hq : q < 6) : (6 : Int32) * Int32.ofNat p + Int32.ofNat q = Int32.ofNat (6 * p + q) := by
  rw [show (6 : Int32) = Int32.ofNat 6 from rfl, ← Int32.ofNat_mul, ty_add]
theorem full_ok (hp : p < 6) (hq : q < 6) (hk : k = 6 * p + q) (hz : A 39 k = Int32.ofNat z) (hr : I 17 = Int32.ofNat r) (zr : z ≤ r) (r8 : r ≤ 8) : x_isFull I A (Int32.ofNat p) (Int32.ofNat q) = some (I, A, if z < r then 0 else 1) := by
  subst hk
  unfold x_isFull
  rw [ixq hp hq, if_pos (j_in (by omega) (by omega)), (j_n (n := 6 * p + q) (by omega)).2, hz, hr]
  by_cases hl : z < r
  · rw [if_neg (mt (cq (by omega) (e := r) (by omega) rfl).mp (by omega)), if_pos hl]
  · rw [if_pos (by rw [show z = r by omega]), if_neg hl]
theorem give_ok (hp : p < 6) (hq : q < 6) (hk : k = 6 * p + q) (hz : A 39 k = Int32.ofNat z) (z8 : z < 8) (hb : b = 0 ∨ b = 1) : x_give I A (Int32.ofNat p) (Int32.ofNat q) v b = some (I, gvA A k z v b, 0) := by
  subst hk
  unfold x_give
  have e : (8 : Int32) * Int32.ofNat (6 * p + q) + Int32.ofNat z = Int32.ofNat (8 * (6 * p + q) + z) := by
    rw [show (8 : Int32) = Int32.ofNat 8 from rfl, ← Int32.ofNat_mul, ty_add]
  rw [ixq hp hq, if_pos (j_in (by omega) (by omega)), (j_n (n := 6 * p + q) (by omega)).2, hz, e, if_pos (j_in (by omega) (by omega)), (j_n (n := 8 * (6 * p + q) + z) (by omega)).2, narb hb, o1]
  rfl
def FtA (A A' : Nat → Nat → Int32) (k z : Nat) : Prop := (∀ j, j ≠ 39 → j ≠ 40 → j ≠ 41 → A' j = A j) ∧ A' 39 = upd (A 39) k (Int32.ofNat (z - 1)) ∧ (∀ i, i < z - 1 → A' 40 (8 * k + i) = A 40 (8 * k + i + 1) ∧ A' 41 (8 * k + i) = A 41 (8 * k + i + 1)) ∧ (∀ x, (x < 8 * k ∨ 8 * k + 8 ≤ x) → A' 40 x = A 40 x ∧ A' 41 x = A 41 x)
theorem ft_34 (hk : k < 36) (z8 : z ≤ 7) (w : Int32) : ∀ (d i : Nat) (A : Nat → Nat → Int32), i + d = z → A 39 k = Int32.ofNat z → (∀ j, j ≤ z → A 41 (8 * k + j) = 0 ∨ A 41 (8 * k + j) = 1) → ∃ A', (∀ m, x_fetch_34 (m + 1 + d) I A (Int32.ofNat k) w (Int32.ofNat (8 * k + i)) = some (I, A', w)) ∧ (∀ j, j ≠ 40 → j ≠ 41 → A' j = A j) ∧ (∀ j, i ≤ j → j < z → A' 40 (8 * k + j) = A 40 (8 * k + j + 1) ∧ A' 41 (8 * k + j) = A 41 (8 * k + j + 1)) ∧ (∀ x, (x < 8 * k + i ∨ 8 * k + z ≤ x) → A' 40 x = A 40 x ∧ A' 41 x = A 41 x)
  | 0, i, A, hi, h39, _ => by
    refine ⟨A, fun m => ?_, fun _ _ _ => rfl, fun j h1 h2 => by omega, fun x _ => ⟨rfl, rfl⟩⟩
    have e : (8 : Int32) * Int32.ofNat k + Int32.ofNat z = Int32.ofNat (8 * k + z) := by
      rw [show (8 : Int32) = Int32.ofNat 8 from rfl, ← Int32.ofNat_mul, ty_add]
    rw [show m + 1 + 0 = m + 1 from rfl, x_fetch_34, if_pos (j_in (by omega) hk), (j_n (n := k) (by omega)).2, h39, e, if_pos ((j_le (by omega) (by omega)).mpr (by omega))]
  | d + 1, i, A, hi, h39, hb => by
    have e : (8 : Int32) * Int32.ofNat k + Int32.ofNat z = Int32.ofNat (8 * k + z) := by
      rw [show (8 : Int32) = Int32.ofNat 8 from rfl, ← Int32.ofNat_mul, ty_add]
    have hbi := hb (i + 1) (by omega)
    rw [← Nat.add_assoc] at hbi
    obtain ⟨A', h1, h2, h3, h4⟩ := ft_34 hk z8 w d (i + 1) (upA (upA A 40 (upd (A 40) (8 * k + i) (A 40 (8 * k + i + 1)))) 41 (upd (A 41) (8 * k + i) (A 41 (8 * k + i + 1)))) (by omega) h39 (fun j hj => by
      show upd (A 41) (8 * k + i) (A 41 (8 * k + i + 1)) (8 * k + j) = 0 ∨ upd (A 41) (8 * k + i) (A 41 (8 * k + i + 1)) (8 * k + j) = 1
      by_cases q : j = i
      · rw [q, upd_s]
        exact hbi
      · rw [upd_n (by omega)]
        exact hb j hj)
    refine ⟨A', fun m => ?_, fun j h5 h6 => ?_, fun j h5 h6 => ?_, fun x hx => ?_⟩
    · rw [show m + 1 + (d + 1) = m + 1 + d + 1 by omega, x_fetch_34, if_pos (j_in (by omega) hk), (j_n (n := k) (by omega)).2, h39, e, if_neg (mt (j_le (by omega) (by omega)).mp (by omega)), o1, if_pos (j_in (by omega) (by omega)), if_pos (j_in (by omega) (by omega)), (j_n (n := 8 * k + i) (by omega)).2, (j_n (n := 8 * k + i + 1) (by omega)).2, narb hbi]
      exact h1 m
    · rw [h2 j h5 h6]
      unfold upA
      rw [if_neg h6, if_neg h5]
    · by_cases q : j = i
      · subst q
        obtain ⟨a, c⟩ := h4 (8 * k + j) (by omega)
        rw [a, c]
        exact ⟨upd_s, upd_s⟩
      · obtain ⟨a, c⟩ := h3 j (by omega) h6
        rw [a, c]
        exact ⟨upd_n (by omega), upd_n (by omega)⟩
    · obtain ⟨a, c⟩ := h4 x (by omega)
      rw [a, c]
      exact ⟨upd_n (by omega), upd_n (by omega)⟩
theorem fetch_ok (hp : p < 6) (hq : q < 6) (hk : k = 6 * q + p) (hz : A 39 k = Int32.ofNat z) (z1 : 1 ≤ z) (z8 : z ≤ 8) (hb : ∀ j, j < z → A 41 (8 * k + j) = 0 ∨ A 41 (8 * k + j) = 1) : ∃ A', (∀ n, 20 ≤ n → x_fetch n I A (Int32.ofNat q) (Int32.ofNat p) = some (I, A', A 40 (8 * k))) ∧ FtA A A' k z := by
  subst hk
  have e8 : (8 : Int32) * Int32.ofNat (6 * q + p) = Int32.ofNat (8 * (6 * q + p)) := by
    rw [show (8 : Int32) = Int32.ofNat 8 from rfl, ← Int32.ofNat_mul]
  obtain ⟨A', h1, h2, h3, h4⟩ := ft_34 (I := I) (k := 6 * q + p) (z := z - 1) (by omega) (by omega) (A 40 (8 * (6 * q + p))) (z - 1) 0 (upA A 39 (upd (A 39) (6 * q + p) (Int32.ofNat (z - 1)))) (by omega) upd_s (fun j hj => hb j (by omega))
  refine ⟨A', fun n hn => ?_, fun j a b c => ?_, ?_, fun i hi => ?_, fun x hx => ?_⟩
  · have h1' := h1 (n - 1 - (z - 1))
    rw [show n - 1 - (z - 1) + 1 + (z - 1) = n by omega, Nat.add_zero] at h1'
    unfold x_fetch
    rw [ixq hq hp, e8, if_pos (j_in (by omega) (by omega)), if_pos (j_in (by omega) (by omega)), (j_n (n := 6 * q + p) (by omega)).2, (j_n (n := 8 * (6 * q + p)) (by omega)).2, hz, o_s1 z1]
    exact h1'
  · rw [h2 j b c]
    unfold upA
    rw [if_neg a]
  · rw [h2 39 (by decide) (by decide)]
    rfl
  · exact h3 i (Nat.zero_le _) hi
  · exact h4 x (by omega)
end CH
