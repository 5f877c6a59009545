section L1
variable {S T : hS} {K : Nat → Fo} {I : Nat → Int32} {A : Nat → Nat → Int32} {D : Nat → Nat}
theorem KO_x {c : Nat} (h : KO S T) : KO S (szEx T c) := by
  obtain ⟨h1, h2, h3, h4⟩ := h
  refine ⟨Nat.le_succ_of_le h1, fun x hx => ?_, h3, h4⟩
  obtain ⟨a1, a2, a3, a4, a5, a6, a7⟩ := h2 x hx
  refine ⟨?_, a2, a3, a4, a5, a6, a7⟩
  show zup T.2.1 T.1 (40 + c) x = _
  rw [zup_ne (by omega)]
  exact a1
theorem JJ_ko (h : JJ S) (k : KO S T) (hT : Lay T) (i1 : zI T 1 0 = 0) (i2 : zI T 2 0 = I 2) (i3 : zI T 3 0 = I 3) (j1 : I 1 = 0) (hI : ∀ j, j = 10 ∨ j = 11 ∨ 16 < j → I j = zMI S j) (hA : ∀ j, j < 2 ∨ (15 < j ∧ j < 28) ∨ (32 < j ∧ j ≠ 42) → A j = zMA S j) : JJ (szM T I A) := by
  obtain ⟨⟨hl, hf, ht, hq, hv, hfl⟩, hL, hP, hE, hD⟩ := h
  have hf1 := KO_fix hf k
  have lo : ∀ x, x < 178 → x < S.1 := fun x hx => Nat.lt_of_lt_of_le hx hl.1
  have zi : ∀ m x, x < 178 → x ≠ 0 → zI T m x = zI S m x := fun m x hx h0 => (k.2.1 x (lo x hx)).2.2.2.2.2.2 m (fun z => absurd z h0)
  have zr : ∀ m x, x < 178 → zR T m x = zR S m x := fun m x hx => (k.2.1 x (lo x hx)).2.2.2.2.2.1 m
  have za : ∀ x, x < 178 → zAI T x = zAI S x := fun x hx => (k.2.1 x (lo x hx)).2.2.1
  refine ⟨⟨Lay_M hT, Fix_M hf1, ⟨0, by decide, i1, j1, fun i hi => by omega⟩, ?_, fun i hi => ⟨?_, ?_, ?_⟩, i2, i3, ?_⟩, ?_, fun p' hp' => ?_, fun e k' hk' => ?_, fun e => ?_⟩
  · obtain ⟨r, r1, r8, h1, h2, h3⟩ := hq
    refine ⟨r, r1, r8, ?_, ?_, fun k hk => ?_⟩
    · show zI T 4 2 = _
      rw [zi 4 2 (by decide) (by decide)]
      exact h1
    · show I 17 = _
      rw [hI 17 (by omega)]
      exact h2
    · obtain ⟨h', z, a1, a2, a3, a4, a5, a6⟩ := h3 k hk
      refine ⟨h', z, a1, a2, ?_, ?_, ?_, fun i hi => ?_⟩
      · show zI T 2 _ = _
        rw [zi 2 _ (by omega) (by omega)]
        exact a3
      · show zI T 3 _ = _
        rw [zi 3 _ (by omega) (by omega)]
        exact a4
      · show A 39 k = _
        rw [hA 39 (by omega)]
        exact a5
      · show zAI T (26 + 3 * k) ((h' + i) % 8) = A 40 (8 * k + i) ∧ zAI T (27 + 3 * k) ((h' + i) % 8) = A 41 (8 * k + i) ∧ (A 41 (8 * k + i) = 0 ∨ A 41 (8 * k + i) = 1)
        rw [za _ (by omega), za _ (by omega), hA 40 (by omega), hA 41 (by omega)]
        exact a6 i hi
  · show zAI T 5 i = A 33 i
    rw [za 5 (by decide), hA 33 (by omega)]
    exact (hv i hi).1
  · show zAI T 6 i = A 34 i
    rw [za 6 (by decide), hA 34 (by omega)]
    exact (hv i hi).2.1
  · show zAI T 133 i = A 35 i
    rw [za 133 (by decide), hA 35 (by omega)]
    exact (hv i hi).2.2
  · show zI T 5 2 = I 18 ∧ (I 18 = 0 ∨ I 18 = 1)
    rw [zi 5 2 (by decide) (by decide), hI 18 (by omega)]
    exact hfl.2.2
  · show zR T 4 0 = none ↔ I 10 = 0
    rw [zr 4 0 (by decide), hI 10 (by omega)]
    exact hL
  · obtain ⟨t, t1, t2, t3, t4⟩ := hP p' hp'
    refine ⟨t, t1, ?_, ?_, fun i hi => ?_⟩
    · show zI T 1 (8 + 3 * p') = _
      rw [zi 1 _ (by omega) (by omega)]
      exact t2
    · show A 27 p' = _
      rw [hA 27 (by omega)]
      exact t3
    · show zAI T (9 + 3 * p') i = A 26 (1000 * p' + i)
      rw [za _ (by omega), hA 26 (by omega)]
      exact t4 i hi
  · have e' : I 18 = 0 := e
    rw [hI 18 (by omega)] at e'
    show zI T 3 _ = 0
    rw [zi 3 _ (by omega) (by omega)]
    exact hE e' k' hk'
  · have e' : ¬ I 10 = 0 := e
    rw [hI 10 (by omega)] at e'
    obtain ⟨K, ⟨Q, Kr, h1⟩, h2⟩ := hD e'
    have ho : OF S (szM T I A) := OF_M (KO_of hf.1.1 k)
    refine ⟨K, ⟨Q, Kr, RnS_o ho (fun p hp => zr 2 _ (by omega)) (fun p hp m => zi m _ (by omega) (by omega)) (fun j hj => hA j (by omega)) (QQ_o ?_ (hI 17 (by omega)) (fun k hk m => zi m _ (by omega) (by omega)) (fun k hk => ⟨za _ (by omega), za _ (by omega)⟩) (fun j hj => hA j (by omega)) h1.1) h1⟩, Fxd_o ho (fun p hp => zr 1 _ (by omega)) (zr 4 0 (by decide)) (fun j a b => hA j (by omega)) (hI 11 (by omega)) h2⟩
    exact zi 4 2 (by decide) (by decide)
theorem ckc_pl {pi : Bool} {cnt u P put P' w : Nat} (h : ckc pi cnt u P put = .inr (P', w)) : P' = P := by
  unfold ckc at h
  split at h
  · cases h
  split at h
  · cases h
    rfl
  split at h
  · cases h
  · cases h
    rfl
theorem ck_pl {pi : Bool} {cnt : Nat} : ∀ (t : Fo), PW D t → ∀ lo hi put P w, PI t lo hi → ck D pi cnt t put = .inr (P, w) → P < hi := PW_ind (fun lo hi put P w _ h => by cases h) (fun q r _ pr ih lo hi put P w hp h => ih _ _ _ _ _ hp.2 h) (fun q i t1 r _ _ p1 pr ih1 ih2 lo hi put P w hp h => by
    obtain ⟨h1, m, h2, h3⟩ := hp
    have l2 := PI_hi r pr _ _ h3
    have h' : ckb (ck D pi cnt t1 put) (fun p1 => ck D pi cnt r p1) = .inr (P, w) := h
    cases e : ck D pi cnt t1 put with
    | inl p =>
      rw [e] at h'
      exact ih2 _ _ _ _ _ h3 h'
    | inr x =>
      rw [e] at h'
      cases h'
      have := ih1 _ _ _ _ _ h2 e
      omega) (fun q i j t1 t2 r _ _ p1 p2 pr ih1 ih2 ih3 lo hi put P w hp h => by
    obtain ⟨h1, m, m2, h2, h3, h4⟩ := hp
    have l2 := PI_hi r pr _ _ h4
    have l3 := PI_hi t2 p2 _ _ h3
    have l4 := PI_hi t1 p1 _ _ h2
    have h' : ckb (ck D pi cnt t1 put) (fun p1 => ckb (ck D pi cnt t2 p1) fun p2 => ckb (ckc pi cnt (unw (cD (D q)) (cut D t1) (cut D t2)) q p2) fun p3 => ck D pi cnt r p3) = .inr (P, w) := h
    cases e : ck D pi cnt t1 put with
    | inr x =>
      rw [e] at h'
      cases h'
      have := ih1 _ _ _ _ _ h2 e
      omega
    | inl p =>
      rw [e] at h'
      have h' : ckb (ck D pi cnt t2 p) (fun p2 => ckb (ckc pi cnt (unw (cD (D q)) (cut D t1) (cut D t2)) q p2) fun p3 => ck D pi cnt r p3) = .inr (P, w) := h'
      cases e2 : ck D pi cnt t2 p with
      | inr x =>
        rw [e2] at h'
        cases h'
        have := ih2 _ _ _ _ _ h3 e2
        omega
      | inl p' =>
        rw [e2] at h'
        have h' : ckb (ckc pi cnt (unw (cD (D q)) (cut D t1) (cut D t2)) q p') (fun p3 => ck D pi cnt r p3) = .inr (P, w) := h'
        cases e3 : ckc pi cnt (unw (cD (D q)) (cut D t1) (cut D t2)) q p' with
        | inr x =>
          rw [e3] at h'
          cases h'
          have : P = q := ckc_pl e3
          omega
        | inl p3 =>
          rw [e3] at h'
          exact ih3 _ _ _ _ _ h4 h')
end L1
