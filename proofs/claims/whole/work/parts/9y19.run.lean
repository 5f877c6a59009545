def Dsc (d : Nat) (v l : Int32) : Prop := (d = 0 ∧ l = 0) ∨ ∃ b, b < 10 ∧ d = b + 1 ∧ l = 1 ∧ v = Int32.ofNat b
def QK (S : hS) (r k : Nat) (D : List Nat) : Prop := ∃ h z, h < 8 ∧ z ≤ r ∧ zI S 2 (25 + 3 * k) = Int32.ofNat h ∧ zI S 3 (25 + 3 * k) = Int32.ofNat z ∧ zMA S 39 k = Int32.ofNat z ∧ D.length = z ∧ ∀ i, i < z → zAI S (26 + 3 * k) ((h + i) % 8) = zMA S 40 (8 * k + i) ∧ zAI S (27 + 3 * k) ((h + i) % 8) = zMA S 41 (8 * k + i) ∧ Dsc (D.getD i 0) (zMA S 40 (8 * k + i)) (zMA S 41 (8 * k + i))
def QQ (S : hS) (Q : Nat → Nat → List Nat) : Prop := ∃ r, 1 ≤ r ∧ r ≤ 8 ∧ zI S 4 2 = Int32.ofNat r ∧ zMI S 17 = Int32.ofNat r ∧ ∀ q p, q < 6 → p < 6 → QK S r (6 * q + p) (Q q p)
def ChR (p k : Nat) (I I' : Nat → Int32) (A B : Nat → Nat → Int32) : Prop := (∀ j, j ≠ 18 → j ≠ 19 → j ≠ 20 → I' j = I j) ∧ (∀ j, j < 34 ∨ j = 35 ∨ 41 < j → B j = A j) ∧ (∀ j, j = 36 ∨ j = 37 ∨ j = 38 → ∀ x, x ≠ p → B j x = A j x) ∧ (∀ x, x ≠ k → B 39 x = A 39 x) ∧ (∀ j, j = 40 ∨ j = 41 → ∀ x, x < 8 * k ∨ 8 * k + 8 ≤ x → B j x = A j x)
def telF (l u : Nat) : Nat → Nat → Fo → Fo
  | 0, _, x => x
  | f + 1, i, x => tl1 l u i (telF l u f (i + 1) x)
def PtA (S : hS) (p : Nat) (T : List Nat) (R : Fo) (L : List (Fo × Fo)) (k : Nat) : Prop := ∃ n ks r sh L' x b i pos w, L = (cn n ks r, sh) :: L' ∧ cK n = 7 ∧ ks = cn 0 x .nil ∧ zI S 3 (7 + 3 * p) = 1 ∧ (b = 0 ∨ b = 1) ∧ zI S 4 (7 + 3 * p) = Int32.ofNat b ∧ zMA S 38 p = Int32.ofNat b ∧ i < 6 ∧ (cD n).testBit i = true ∧ zI S 5 (7 + 3 * p) = Int32.ofNat i ∧ zMA S 37 p = Int32.ofNat pos ∧ Sfx T pos (ldf (cD n) (6 - i) i ++ 123 :: w) ∧ pos + (ldf (cD n) (6 - i) i).length = k + 1 + (xt (cE n) ++ ldl (cD n)).length ∧ R = telF b (cD n) (6 - i) i (if b = 1 then ap x (remL L) else ap r (remL L'))
def Pty (S : hS) (p : Nat) (T : List Nat) (R : Fo) : Prop := ∃ L k, LW L ∧ Stk S L (zR S 2 (7 + 3 * p)) ∧ zMA S 36 p = Int32.ofNat k ∧ TP T (L.map Prod.fst) k ∧ ((zI S 3 (7 + 3 * p) = 0 ∧ zMA S 37 p = -1 ∧ R = remL L) ∨ PtA S p T R L k)
def RnS (S : hS) (K : Nat → Fo) (Q : Nat → Nat → List Nat) (Kr : Nat → Fo) : Prop := QQ S Q ∧ Gd Kr Q ∧ ∀ p, p < 6 → TX (zMA S) p (tx 0 (K p)) ∧ Pty S p (tx 0 (K p)) (Kr p)
def zM0 (S : hS) : Nat → Int32 := upd (zMI S) 0 0
section RN
variable {S S1 : hS} {p q k r n h z : Nat} {I : Nat → Int32} {A B : Nat → Nat → Int32} {K Kr : Nat → Fo} {Q : Nat → Nat → List Nat} {D : List Nat} {T : List Nat} {R : Fo} {v b : Int32} {d : Nat}
theorem QQ_que (h : QQ S Q) : Que S := by
  obtain ⟨r, r1, r8, h1, h2, h3⟩ := h
  refine ⟨r, r1, r8, h1, h2, fun k hk => ?_⟩
  obtain ⟨h, z, a1, a2, a3, a4, a5, a6, a7⟩ := h3 (k / 6) (k % 6) (by omega) (by omega)
  rw [show 6 * (k / 6) + k % 6 = k by omega] at a3 a4 a5 a7
  refine ⟨h, z, a1, a2, a3, a4, a5, fun i hi => ⟨(a7 i hi).1, (a7 i hi).2.1, ?_⟩⟩
  rcases (a7 i hi).2.2 with ⟨_, e⟩ | ⟨_, _, _, e, _⟩
  · exact Or.inl e
  · exact Or.inr e
theorem QK_eq {S' : hS} (e1 : zI S' 2 (25 + 3 * k) = zI S 2 (25 + 3 * k)) (e2 : zI S' 3 (25 + 3 * k) = zI S 3 (25 + 3 * k)) (e3 : zAI S' (26 + 3 * k) = zAI S (26 + 3 * k)) (e4 : zAI S' (27 + 3 * k) = zAI S (27 + 3 * k)) (e5 : zMA S' 39 k = zMA S 39 k) (e6 : ∀ i, i < 8 → zMA S' 40 (8 * k + i) = zMA S 40 (8 * k + i) ∧ zMA S' 41 (8 * k + i) = zMA S 41 (8 * k + i)) (r8 : r ≤ 8) (h : QK S r k D) : QK S' r k D := by
  obtain ⟨h, z, a1, a2, a3, a4, a5, a6, a7⟩ := h
  refine ⟨h, z, a1, a2, by rw [e1]; exact a3, by rw [e2]; exact a4, by rw [e5]; exact a5, a6, fun i hi => ?_⟩
  rw [e3, e4, (e6 i (by omega)).1, (e6 i (by omega)).2]
  exact a7 i hi
theorem QQ_ch {p0 : Nat} (hp0 : p0 < 6) (hq : q < 6) (hp : p < 6) (hk : k = 6 * q + p) (c : Chg p0 k S S1) (cr : ChR p0 k (zM0 S) I (zMA S) B) (h : QQ S Q) (hn : ∀ r, zI S 4 2 = Int32.ofNat r → 1 ≤ r → r ≤ 8 → QK (szM S1 I B) r k D) : QQ (szM S1 I B) (upQ Q q p D) := by
  obtain ⟨r, r1, r8, h1, h2, h3⟩ := h
  obtain ⟨_, c1, c2, c3, c4, c5, _, _, _, _, _⟩ := c
  obtain ⟨d1, d2, d3, d4, d5⟩ := cr
  refine ⟨r, r1, r8, ?_, ?_, fun q' p' hq' hp' => ?_⟩
  · show zI S1 4 2 = _
    rw [c3 4 (by decide)]
    exact h1
  · show I 17 = _
    rw [d1 17 (by decide) (by decide) (by decide)]
    exact h2
  · unfold upQ
    by_cases e : q' = q ∧ p' = p
    · rw [if_pos e, e.1, e.2, ← hk]
      exact hn r h1 r1 r8
    · rw [if_neg e]
      have ek : 6 * q' + p' ≠ k := by omega
      refine QK_eq (S := S) ?_ ?_ ?_ ?_ ?_ (fun i hi => ?_) r8 (h3 q' p' hq' hp')
      · exact c1 2 _ (by omega) (by omega) (by omega)
      · exact c1 3 _ (by omega) (by omega) (by omega)
      · exact c5 _ (by omega) (by omega) (by omega)
      · exact c5 _ (by omega) (by omega) (by omega)
      · exact d4 _ ek
      · exact ⟨d5 40 (Or.inl rfl) _ (by omega), d5 41 (Or.inr rfl) _ (by omega)⟩
theorem mod_ne {h i z : Nat} (h1 : i < z) (h2 : z < 8) : (h + i) % 8 ≠ (h + z) % 8 := by omega
theorem QK_give (h8 : h < 8) (z1 : z < r) (r8 : r ≤ 8) (hh : zI S 2 (25 + 3 * k) = Int32.ofNat h) (hz : zMA S 39 k = Int32.ofNat z) (hD : D.length = z) (ha : ∀ i, i < z → zAI S (26 + 3 * k) ((h + i) % 8) = zMA S 40 (8 * k + i) ∧ zAI S (27 + 3 * k) ((h + i) % 8) = zMA S 41 (8 * k + i) ∧ Dsc (D.getD i 0) (zMA S 40 (8 * k + i)) (zMA S 41 (8 * k + i))) (hd : Dsc d v b) : QK (szM (eqS S k h z v b) I (gvA (zMA S) k z v b)) r k (D ++ [d]) := by
  refine ⟨h, z + 1, h8, z1, ?_, zI_self _ 3 _ _, ?_, by rw [List.length_append, hD]; rfl, fun i hi => ?_⟩
  · show zI (eqS S k h z v b) 2 (25 + 3 * k) = _
    unfold eqS
    rw [zI_k (by decide)]
    exact hh
  · show gvA (zMA S) k z v b 39 k = _
    exact upd_s
  · have e1 : zAI (szM (eqS S k h z v b) I (gvA (zMA S) k z v b)) (26 + 3 * k) = upd (zAI S (26 + 3 * k)) ((h + z) % 8) v := by
      show zAI (szAI (szAI S (26 + 3 * k) (upd (zAI S (26 + 3 * k)) ((h + z) % 8) v)) (27 + 3 * k) (upd (zAI S (27 + 3 * k)) ((h + z) % 8) b)) (26 + 3 * k) = _
      rw [zAI_n (by omega), zAI_s]
    have e2 : zAI (szM (eqS S k h z v b) I (gvA (zMA S) k z v b)) (27 + 3 * k) = upd (zAI S (27 + 3 * k)) ((h + z) % 8) b := by
      show zAI (szAI (szAI S (26 + 3 * k) (upd (zAI S (26 + 3 * k)) ((h + z) % 8) v)) (27 + 3 * k) (upd (zAI S (27 + 3 * k)) ((h + z) % 8) b)) (27 + 3 * k) = _
      rw [zAI_s]
    rw [e1, e2]
    show _ = upd (zMA S 40) (8 * k + z) v (8 * k + i) ∧ _ = upd (zMA S 41) (8 * k + z) b (8 * k + i) ∧ Dsc _ (upd (zMA S 40) (8 * k + z) v (8 * k + i)) (upd (zMA S 41) (8 * k + z) b (8 * k + i))
    by_cases e : i = z
    · rw [e, upd_s, upd_s, upd_s, upd_s, List.getD_eq_getElem?_getD, List.getElem?_append_right (by omega), hD, Nat.sub_self]
      exact ⟨rfl, rfl, hd⟩
    · have hi' : i < z := by omega
      have := mod_ne (h := h) hi' (by omega)
      rw [upd_n this, upd_n this, upd_n (by omega), upd_n (by omega), List.getD_eq_getElem?_getD, List.getElem?_append_left (by omega), ← List.getD_eq_getElem?_getD]
      exact ha i hi'
theorem QK_fetch {l : List Nat} (z1 : 1 ≤ z) (zr : z ≤ r) (r8 : r ≤ 8) (h8 : h < 8) (hD : (d :: l).length = z) (ha : ∀ i, i < z → zAI S (26 + 3 * k) ((h + i) % 8) = zMA S 40 (8 * k + i) ∧ zAI S (27 + 3 * k) ((h + i) % 8) = zMA S 41 (8 * k + i) ∧ Dsc ((d :: l).getD i 0) (zMA S 40 (8 * k + i)) (zMA S 41 (8 * k + i))) (hf : FtA (zMA S) B k z) : QK (szM (rmS S k h z) I B) r k l := by
  obtain ⟨f1, f2, f3, f4⟩ := hf
  have hl : l.length = z - 1 := by rw [List.length_cons] at hD; omega
  refine ⟨(h + 1) % 8, z - 1, Nat.mod_lt _ (by decide), by omega, ?_, zI_self _ 3 _ _, ?_, hl, fun i hi => ?_⟩
  · show zI (rmS S k h z) 2 (25 + 3 * k) = _
    unfold rmS
    rw [zI_k (by decide), zI_self]
  · show B 39 k = _
    rw [f2, upd_s]
  · show zAI S (26 + 3 * k) (((h + 1) % 8 + i) % 8) = B 40 (8 * k + i) ∧ zAI S (27 + 3 * k) (((h + 1) % 8 + i) % 8) = B 41 (8 * k + i) ∧ Dsc (l.getD i 0) (B 40 (8 * k + i)) (B 41 (8 * k + i))
    obtain ⟨g1, g2⟩ := f3 i hi
    rw [g1, g2, show ((h + 1) % 8 + i) % 8 = (h + (i + 1)) % 8 by omega]
    exact ha (i + 1) (by omega)
theorem Pty_fr {S' : hS} (hf : HF S S') (e1 : zR S' 2 (7 + 3 * p) = zR S 2 (7 + 3 * p)) (e2 : ∀ m, zI S' m (7 + 3 * p) = zI S m (7 + 3 * p)) (e3 : zMA S' 36 p = zMA S 36 p) (e4 : zMA S' 37 p = zMA S 37 p) (e5 : zMA S' 38 p = zMA S 38 p) (h : Pty S p T R) : Pty S' p T R := by
  obtain ⟨L, k, h1, h2, h3, h4, h5⟩ := h
  refine ⟨L, k, h1, by rw [e1]; exact Stk_fr hf L _ h1 h2, by rw [e3]; exact h3, h4, ?_⟩
  unfold PtA
  rw [e2, e2, e2, e4, e5]
  exact h5
theorem Chg_hf (c : Chg p k S S1) (hx : Fix S) (hp : p < 6) (hk : k < 36) : HF S (szM S1 I B) := fun x hx2 _ => by
  have tg := Chg_tg c
  have ln := Chg_ln c
  obtain ⟨_, c1, c2, c3, c4, c5, c6, c7, _⟩ := c
  obtain ⟨_, _, ⟨d1, _⟩, _, _, _, _, _, _, jj, kk⟩ := hx
  have n1 : x ≠ 7 + 3 * p := fun e => by rw [e, (jj p hp).1] at hx2; omega
  have n2 : x ≠ 25 + 3 * k := fun e => by rw [e, (kk k hk).1] at hx2; omega
  have n3 : x ≠ 2 := fun e => by rw [e, d1] at hx2; omega
  exact ⟨⟨fun m => c1 m x n1 n2 n3, c4 6 x (by omega), c4 8 x (by omega), congrFun c6 x, tg x, tg (x + 1), ln (x + 1), congrFun c7 (x + 1)⟩, c4 9 x (by omega)⟩
theorem TX_e (e1 : B 26 = A 26) (e2 : B 27 = A 27) (h : TX A p T) : TX B p T := by
  unfold TX
  rw [e1, e2]
  exact h
theorem RnS_fin {Q' : Nat → Nat → List Nat} {R' : Fo} (hx : Fix S) (hp : p < 6) (hk : k < 36) (c : Chg p k S S1) (cr : ChR p k (zM0 S) I (zMA S) B) (h : RnS S K Q Kr) (hP : Pty (szM S1 I B) p (tx 0 (K p)) R') (hQ : QQ (szM S1 I B) Q') (hG : Gd (upK Kr p R') Q') : RnS (szM S1 I B) K Q' (upK Kr p R') := by
  have hf := Chg_hf (I := I) (B := B) c hx hp hk
  obtain ⟨_, _, h3⟩ := h
  obtain ⟨_, c1, c2, c3, c4, c5, c6, c7, _⟩ := c
  obtain ⟨d1, d2, d3, d4, d5⟩ := cr
  refine ⟨hQ, hG, fun p' hp' => ⟨TX_e (d2 26 (by decide)) (d2 27 (by decide)) (h3 p' hp').1, ?_⟩⟩
  unfold upK
  by_cases e : p' = p
  · rw [if_pos e, e]
    exact hP
  · rw [if_neg e]
    exact Pty_fr hf (c4 2 _ (by omega)) (fun m => c1 m _ (by omega) (by omega) (by omega)) (d3 36 (Or.inl rfl) p' e) (d3 37 (Or.inr (Or.inl rfl)) p' e) (d3 38 (Or.inr (Or.inr rfl)) p' e) (h3 p' hp').2
end RN
