def PF (S : hS) : Prop := ztg S 2 = 9 ∧ zR S 0 2 = some 3 ∧ ztg S 3 = 24 ∧ zLen S 3 = 6 ∧ zAR S 3 = rf_3 ∧ ∀ p, p < 6 → ztg S (7 + 3 * p) = 5 ∧ zR S 0 (7 + 3 * p) = some (8 + 3 * p) ∧ ztg S (8 + 3 * p) = 4 ∧ zR S 0 (8 + 3 * p) = some (9 + 3 * p) ∧ ztg S (9 + 3 * p) = 21 ∧ zLen S (9 + 3 * p) = 600
def Kp (S S' : hS) : Prop := ∃ f g h, S' = stY S f g h ∧ (∀ k b, (k = 9 → ztg S b ≠ 2) → (k = 1 → ztg S b ≠ 5) → g k b = zR S k b) ∧ (∀ k b, (k = 1 → ztg S b ≠ 4) → f k b = zI S k b) ∧ (∀ b, ztg S b ≠ 21 → h b = zAI S b)
def TPo (S : hS) (K sh : Nat → Fo) (F : Nat → Option Nat) (p : Nat) : Prop := Rp S true (K p) (sh p) (fun _ => F p) ∧ BH S true (K p) (sh p) none ∧ zR S 1 (7 + 3 * p) = F p ∧ XT S (8 + 3 * p) (9 + 3 * p) (tx 0 (K p))
def TPk (n : Nat) (K sh : Nat → Fo) : Prop := (∀ p, p < 6 → So true (K p) ∧ WK true (K p) ∧ dq true (K p) ≤ 64 ∧ nq true (K p) + 25 ≤ n ∧ (tx 0 (K p)).length ≤ 600 ∧ Spt true (sh p)) ∧ Dsi sh 0
section TP
variable {S S' : hS} {n ia : Nat} {K sh : Nat → Fo} {F : Nat → Option Nat}
theorem Kp_r : Kp S S := ⟨zI S, zR S, zAI S, rfl, fun _ _ _ _ => rfl, fun _ _ _ => rfl, fun _ _ => rfl⟩
theorem Kp_t {S2 : hS} (h1 : Kp S S') (h2 : Kp S' S2) : Kp S S2 := by
  obtain ⟨f, g, h, rfl, a1, a2, a3⟩ := h1
  obtain ⟨f2, g2, h', rfl, b1, b2, b3⟩ := h2
  exact ⟨f2, g2, h', rfl, fun k b e1 e2 => (b1 k b e1 e2).trans (a1 k b e1 e2), fun k b e => (b2 k b e).trans (a2 k b e), fun b e => (b3 b e).trans (a3 b e)⟩
theorem Kp_9 {L : List Nat} (h : Md9 9 S S' L) (hL : ∀ x, x ∈ L → ztg S x = 2) : Kp S S' := by
  obtain ⟨f, rfl, hf⟩ := h
  refine ⟨zI S, f, zAI S, rfl, fun k b e _ => hf k b ?_, fun _ _ _ => rfl, fun _ _ => rfl⟩
  by_cases q : k = 9
  · exact Or.inr (fun z => e q (hL b z))
  · exact Or.inl q
theorem Kp_X {th b : Nat} (h : MdX th b S S') (ht : ztg S th = 4) (hb : ztg S b = 21) : Kp S S' := by
  obtain ⟨f, g, rfl, hf, hg⟩ := h
  refine ⟨f, zR S, g, rfl, fun _ _ _ _ => rfl, fun k b e => hf k b ?_, fun c e => hg c (fun z => e (by rw [z]; exact hb))⟩
  by_cases q : k = 1
  · exact Or.inr (fun z => e q (by rw [z]; exact ht))
  · exact Or.inl q
theorem Kp_1 {a : Nat} {v : Option Nat} (ha : ztg S a = 5) : Kp S (szR S 1 a v) := ⟨zI S, zR (szR S 1 a v), zAI S, rfl, fun k b _ e => zR_q (fun z h => e z (by rw [h]; exact ha)), fun _ _ _ => rfl, fun _ _ => rfl⟩
theorem Rp_kp {t s : Fo} {m : Bool} {G : Nat → Option Nat} (hs : So m t) (h : Rp S m t s G) (k : Kp S S') : Rp S' m t s G := Rp_fr t m hs s G h (fun x hx => by
    obtain ⟨f, g, h', rfl, a1, a2, a3⟩ := k
    have ht := (Rp_nd t m hs s G h x hx).1
    exact ⟨fun k => a2 k x (fun _ => by rw [ht]; decide), a1 6 x (fun z => absurd z (by decide)) (fun z => absurd z (by decide)), a1 8 x (fun z => absurd z (by decide)) (fun z => absurd z (by decide)), rfl, rfl, rfl, rfl, rfl⟩)
theorem Fix_kp (h : Fix S) (k : Kp S S') : Fix S' := by
  obtain ⟨f, g, h', rfl, a1, a2, a3⟩ := k
  obtain ⟨⟨b1, b2, b3, b4⟩, c', ⟨d1, d2, d3, d4, d5⟩, e', f', g', i', j', k', l', m'⟩ := h
  have n0 : ∀ k b, k ≠ 9 → k ≠ 1 → g k b = zR S k b := fun k b e1 e2 => a1 k b (fun z => absurd z e1) (fun z => absurd z e2)
  refine ⟨⟨b1, (n0 0 0 (by decide) (by decide)).trans b2, (n0 5 0 (by decide) (by decide)).trans b3, (n0 6 0 (by decide) (by decide)).trans b4⟩, c', ⟨d1, (n0 0 2 (by decide) (by decide)).trans d2, (a1 1 2 (fun z => absurd z (by decide)) (fun _ => by rw [d1]; decide)).trans d3, (n0 2 2 (by decide) (by decide)).trans d4, (n0 3 2 (by decide) (by decide)).trans d5⟩, e', f', g', i', j', k', fun p hp => ?_, fun k hk => ?_⟩
  · obtain ⟨l1, l2, l3, l4, l5⟩ := l' p hp
    exact ⟨l1, (n0 0 _ (by decide) (by decide)).trans l2, l3, (n0 0 _ (by decide) (by decide)).trans l4, l5⟩
  · obtain ⟨l1, l2, l3, l4⟩ := m' k hk
    exact ⟨l1, (n0 0 _ (by decide) (by decide)).trans l2, (a1 1 _ (fun z => absurd z (by decide)) (fun _ => by rw [l1]; decide)).trans l3, l4⟩
theorem PF_fix (h : Fix S) : PF S := by
  obtain ⟨-, -, ⟨h1, h2, h3, h4, h5⟩, ⟨p1, p2, p3⟩, -, -, -, -, -, hp, hq⟩ := h
  exact ⟨h1, h2, p1, p2, p3, hp⟩
theorem InR_kp {i : Nat} (h : InR S ia K sh i) (k : Kp S S') : InR S' ia K sh (i + 1) := by
  have k0 := k
  obtain ⟨f, g, h', rfl, a1, a2, a3⟩ := k
  obtain ⟨h1, h2, h3⟩ := h
  refine ⟨h1, h2, fun p h4 h5 => ?_⟩
  obtain ⟨b1, b2, b3, b4, b5⟩ := h3 p (by omega) h5
  refine ⟨b1, b2, b3, ?_, b5⟩
  rw [show zR (stY S f g h') 0 (ia + 1 + p) = zR S 0 (ia + 1 + p) from a1 0 _ (fun z => absurd z (by decide)) (fun z => absurd z (by decide))]
  exact Rp_kp b3 b4 k0
theorem zal_26 {a : Nat} (h : ztg S a = 26) : zal S a ∧ zar S a := by
  unfold zal zar
  rw [h]
  decide
theorem tp (hk : TPk n K sh) : ∀ (e i m : Nat) (S : hS), i + e = 6 → n ≤ m → Fix S → InR S ia K sh i → (∀ p, i ≤ p → p < 6 → F p = zR S 0 (ia + 1 + p)) → (∀ p, p < i → TPo S K sh F p) → ∃ S6, yT_takeParts_2 2 (m + e) S (some ia) (Int32.ofNat i) = yT_takeParts_2 2 m S6 (some ia) 6 ∧ Kp S S6 ∧ ∀ p, p < 6 → TPo S6 K sh F p
  | 0, i, m, S, hi, hm, hf, hr, hF, ht => by
    have : i = 6 := by omega
    subst this
    exact ⟨S, rfl, Kp_r, ht⟩
  | e + 1, i, m, S, hi, hm, hf, hr, hF, ht => by
    have hi6 : i < 6 := by omega
    have hf0 := hf
    obtain ⟨r1, r2, r3⟩ := hr
    obtain ⟨b1, b2, b3, b4, b5⟩ := r3 i (Nat.le_refl _) hi6
    obtain ⟨k1, k2, k3, k4, k5, k6⟩ := hk.1 i hi6
    rw [← hF i (Nat.le_refl _) hi6] at b4
    obtain ⟨S8, c1, m1, d1⟩ := settle_ok (n := m + e) (E := none) k1 k2 b4 b5 k3 (by omega)
    have m1k : Kp S S8 := Kp_9 m1 (fun x hx => (Rp_nd _ true k1 _ _ b4 x hx).1)
    have hf8 := PF_fix (Fix_kp hf0 m1k)
    obtain ⟨g1, g2, g3, g4, g5, g6⟩ := hf8
    obtain ⟨p1, p2, p3, p4, p5, p6⟩ := g6 i hi6
    have kr : Kp S8 (szR S8 1 (7 + 3 * i) (F i)) := Kp_1 p1
    have q2 : zR (szR S8 1 (7 + 3 * i) (F i)) 0 (8 + 3 * i) = some (9 + 3 * i) := (zR_ne (by omega)).trans p4
    obtain ⟨S19, c2, m2, x2⟩ := write_ok (n := m + e) (S := szR S8 1 (7 + 3 * i) (F i)) (th := 8 + 3 * i) (b := 9 + 3 * i) (G := fun _ => F i) k1 k2 (Rp_kp k1 (Rp_kp k1 b4 m1k) kr) p3 q2 p5 p6 k5 k3 (by omega)
    have m2k : Kp (szR S8 1 (7 + 3 * i) (F i)) S19 := Kp_X m2 p3 p5
    have kall : Kp S S19 := Kp_t m1k (Kp_t kr m2k)
    have zr : ∀ k x, k ≠ 1 → (k ≠ 9 ∨ x ∉ ad true (sh i)) → zR S19 k x = zR S k x := fun k x e1 e2 => by
      rw [MdX_R m2, zR_q (fun z => absurd z e1)]
      exact Md9_R m1 e2
    have hT : ∀ p, p < i + 1 → TPo S19 K sh F p := fun p hp => by
      by_cases q : p = i
      · subst q
        refine ⟨Rp_kp k1 b4 kall, BH_fr (K p) true k1 (sh p) none _ (Rp_kp k1 b4 m1k) d1 (fun x hx => ?_), ?_, x2⟩
        · rw [MdX_R m2, zR_q (fun z => absurd z (by decide)), zR_q (fun z => absurd z (by decide))]
          exact ⟨rfl, rfl⟩
        · rw [MdX_R m2]
          exact zR_self _ _ _ _
      · obtain ⟨t1, t2, t3, t4⟩ := ht p (by omega)
        have kk := (hk.1 p (by omega)).1
        refine ⟨Rp_kp kk t1 kall, BH_fr (K p) true kk (sh p) none _ t1 t2 (fun x hx => ⟨zr 8 x (by decide) (Or.inl (by decide)), zr 9 x (by decide) (Or.inr (hk.2 p i (Nat.zero_le _) (Nat.zero_le _) (by omega) hi6 q x hx))⟩), ?_, ?_⟩
        · rw [MdX_R m2, zR_ne (by omega), Md9_R m1 (Or.inl (by decide))]
          exact t3
        · obtain ⟨y1, y2, y3, y4, y5, y6, y7⟩ := t4
          obtain ⟨f, g, e0, hf, hg⟩ := m2
          obtain ⟨f9, e9, hf9⟩ := m1
          subst e9
          subst e0
          refine ⟨y1, (zR_q (S := stR S f9) (k := 1) (a := 7 + 3 * i) (v := F i) (j := 0) (b := 8 + 3 * p) (fun z => absurd z (by decide))).trans ((hf9 0 _ (Or.inl (by decide))).trans y2), y3, y4, (hf 1 _ (Or.inr (by omega))).trans y5, y6, fun j hj => ?_⟩
          rw [← y7 j hj]
          exact congrFun (hg (9 + 3 * p) (by omega)) j
    obtain ⟨S6, z1, z2, z3⟩ := tp hk e (i + 1) m S19 (by omega) hm (Fix_kp hf0 kall) (InR_kp ⟨r1, r2, r3⟩ kall) (fun p hp hp6 => by
      rw [zr 0 _ (by decide) (Or.inl (by decide))]
      exact hF p (by omega) hp6) hT
    refine ⟨S6, ?_, Kp_t kall z2, z3⟩
    rw [← z1, ← Nat.add_assoc, yT_takeParts_2, if_neg (show ¬ (6 : Int32) ≤ Int32.ofNat i from mt (j_le (m := 6) (by decide) (by omega)).mp (by omega))]
    refine (zob_s rfl).trans ?_
    rw [if_pos (zal_26 r1).2, r2, if_pos (j_in (by omega) hi6), (j_n (n := i) (by omega)).2, b1]
    refine zlb_s.trans ((zob_s rfl).trans ?_)
    rw [if_pos b2, ← hF i (Nat.le_refl _) hi6]
    refine zlb_s.trans ((zcV_s c1).trans ?_)
    rw [if_pos g1]
    refine zlb_s.trans ((zob_s g2).trans ?_)
    rw [if_pos (zal_r (Or.inl g3)).2, g4, if_pos (j_in (by omega) hi6), g5, rf3_o i hi6]
    refine zlb_s.trans ((zob_s rfl).trans ?_)
    rw [if_pos p1]
    refine zlb_s.trans ((zob_s g2).trans ?_)
    rw [if_pos (zal_r (Or.inl g3)).2, g4, if_pos (j_in (by omega) hi6), g5, rf3_o i hi6]
    refine zlb_s.trans ((zob_s rfl).trans ?_)
    rw [if_pos p1]
    refine zlb_s.trans ((zob_s p2).trans ?_)
    rw [if_pos p3, o1]
    exact zcV_s c2
def TK (S S' : hS) (K sh : Nat → Fo) (F : Nat → Option Nat) : Prop := ∃ S6 g, Kp S S6 ∧ (∀ p, p < 6 → TPo S6 K sh F p) ∧ (∀ j, j < 24 → g j = 0) ∧ BG (szAI S6 5 g) S'
theorem take_ok (hk : TPk n K sh) (hx : Fix S) (hr : InR S ia K sh 0) (hF : ∀ p, p < 6 → F p = zR S 0 (ia + 1 + p)) {m : Nat} (hm : n + 60 ≤ m) : ∃ S', yT_takeParts m S 2 (some ia) = some S' ∧ TK S S' K sh F := by
  obtain ⟨m, rfl⟩ : ∃ k, m = (k + 1) + 6 := ⟨m - 7, by omega⟩
  obtain ⟨S6, e1, e2, e3⟩ := tp hk 6 0 (m + 1) S rfl (by omega) hx hr (fun p _ hp => hF p hp) (fun p hp => by omega)
  have hx6 := Fix_kp hx e2
  have hx0 := hx6
  obtain ⟨-, -, ⟨h1, h2, h3, h4, h5⟩, -, -, ⟨i1, i2⟩, -⟩ := hx6
  obtain ⟨g, c1, c2⟩ := clear_ok (n := m) i1 i2 (by decide) (by omega)
  have hx7 : Fix (szAI S6 5 g) := hx0
  obtain ⟨S7, d1, d2⟩ := begin_ok (n := m) hx7 (by omega)
  refine ⟨S7, ?_, S6, g, e2, e3, c2, d2⟩
  refine Eq.trans e1 ?_
  rw [yT_takeParts_2, if_pos (by decide), if_pos h1, h4]
  refine zlb_s.trans ((zcV_s c1).trans ?_)
  rw [if_pos (show ztg (szAI S6 5 g) 2 = 9 from h1)]
  exact zcV_s d1
end TP
