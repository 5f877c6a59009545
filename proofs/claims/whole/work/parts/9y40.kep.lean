def Pre (S : hS) (K : Nat → Fo) : Prop := Lay S ∧ Fix S ∧ Txt S ∧ (∃ r, 1 ≤ r ∧ r ≤ 8 ∧ zI S 4 2 = Int32.ofNat r ∧ zMI S 17 = Int32.ofNat r ∧ ∀ k, k < 36 → ∃ h, h < 8 ∧ zI S 2 (25 + 3 * k) = Int32.ofNat h) ∧ (∀ i, i < 24 → zAI S 5 i = zMA S 33 i ∧ zAI S 5 i = zMA S 34 i ∧ zAI S 133 i = zMA S 35 i) ∧ (zI S 2 0 = zMI S 2 ∧ zI S 3 0 = zMI S 3 ∧ zMI S 18 = 0) ∧ Lod S ∧ Prt S ∧ (∀ k, k < 36 → zMA S 39 k = 0) ∧ (∀ p, p < 6 → zMA S 36 p = 0 ∧ zMA S 37 p = -1) ∧ Fxd S K ∧ (∀ p, p < 6 → TX (zMA S) p (tx 0 (K p)))
section BJ
variable {S S1 : hS} {K : Nat → Fo} {p k f n j : Nat} {I : Nat → Int32} {A B : Nat → Nat → Int32}
theorem BG_of (hb : BG S S1) (hx : Fix S) : OF S S1 := by
  obtain ⟨f, g, h, rfl, b1, b2, b3, b4, b5, b6, b7, b8⟩ := hb
  obtain ⟨⟨a1, _⟩, _, ⟨d1, _⟩, _, _, _, _, _, _, jj, kk⟩ := hx
  have key : ∀ x t, ztg S x = t → t = 2 ∨ t = 10 → (∀ m, f m x = zI S m x) ∧ (∀ m, g m x = zR S m x) := fun x t h1 h2 => by
    have n1 : ∀ p, p < 6 → x ≠ 7 + 3 * p := fun p hp e => by rw [e, (jj p hp).1] at h1; omega
    have n2 : ∀ k, k < 36 → x ≠ 25 + 3 * k := fun k hk e => by rw [e, (kk k hk).1] at h1; omega
    have n3 : x ≠ 2 := fun e => by rw [e, d1] at h1; omega
    exact ⟨fun m => b6 m x (fun _ => ⟨n2, n1⟩) (fun _ => n3), fun m => b8 m x (fun _ => n1)⟩
  refine ⟨Nat.le_refl _, fun x h1 h2 => ?_, fun x h1 => ?_⟩
  · obtain ⟨k1, k2⟩ := key x _ h1 (Or.inl rfl)
    exact ⟨⟨k1, k2 6, k2 8, rfl, rfl, rfl, rfl, rfl⟩, k2 9⟩
  · obtain ⟨k1, k2⟩ := key x _ h1 (Or.inr rfl)
    exact ⟨k1, k2, rfl, rfl⟩
theorem BG_fix (hb : BG S S1) (hx : Fix S) : Fix S1 := by
  obtain ⟨f, g, h, rfl, b1, b2, b3, b4, b5, b6, b7, b8⟩ := hb
  obtain ⟨⟨a1, a2, a3, a4⟩, ⟨b1', b2'⟩, ⟨d1, d2, d3, d4, d5⟩, ⟨e1, e2, e3⟩, ⟨f1, f2, f3⟩, ⟨g1, g2⟩, ⟨h1, h2⟩, ⟨i1, i2⟩, ⟨j1, j2⟩, kk, ll⟩ := hx
  have R : ∀ m b, m ≠ 2 ∨ b = 0 ∨ b = 2 → zR (stY S f g h) m b = zR S m b := fun m b e => b8 m b (fun z p hp => by omega)
  refine ⟨⟨a1, by rw [R _ _ (by omega)]; exact a2, by rw [R _ _ (by omega)]; exact a3, by rw [R _ _ (by omega)]; exact a4⟩, ⟨b1', b2'⟩, ⟨d1, by rw [R _ _ (by omega)]; exact d2, by rw [R _ _ (by omega)]; exact d3, by rw [R _ _ (by omega)]; exact d4, by rw [R _ _ (by omega)]; exact d5⟩, ⟨e1, e2, e3⟩, ⟨f1, f2, f3⟩, ⟨g1, g2⟩, ⟨h1, h2⟩, ⟨i1, i2⟩, ⟨j1, j2⟩, ?_, ?_⟩
  · intro p' hp
    rw [R _ _ (by omega), R _ _ (by omega)]
    exact kk p' hp
  · intro k' hk
    rw [R _ _ (by omega), R _ _ (by omega)]
    exact ll k' hk
theorem bg_J (h : Pre (szM S I B) K) (hb : BG S S1) : RI (szM S1 I B) K := by
  obtain ⟨hl, hf, ht, ⟨r, r1, r8, q1, q2, q3⟩, hv, ⟨t2, t3, t18⟩, hL, hP, h39, h36, hF, hT⟩ := h
  have hf0 : Fix S := hf
  have ho : OF S S1 := BG_of hb hf0
  have hf1 : Fix S1 := BG_fix hb hf0
  obtain ⟨f, g, h, rfl, b1, b2, b3, b4, b5, b6, b7, b8⟩ := hb
  have hl1 : Lay (stY S f g h) := hl
  have hQQ : QQ (szM (stY S f g h) I B) (fun _ _ => []) := by
    refine ⟨r, r1, r8, ?_, q2, fun q p hq hp => ?_⟩
    · show f 4 2 = _
      rw [b6 4 2 (fun e => by omega) (fun e => by omega)]
      exact q1
    · obtain ⟨h', e1, e2⟩ := q3 (6 * q + p) (by omega)
      refine ⟨h', 0, e1, Nat.zero_le _, ?_, b3 _ (by omega), h39 _ (by omega), rfl, fun i hi => by omega⟩
      show f 2 _ = _
      rw [b6 2 _ (fun e => by omega) (fun e => by omega)]
      exact e2
  have zI0 : ∀ m b, m ≠ 3 → m ≠ 5 → f m b = zI S m b := fun m b e1 e2 => b6 m b (fun e => absurd e e1) (fun e => absurd e e2)
  refine ⟨⟨Lay_M hl1, Fix_M hf1, ?_, QQ_que hQQ, fun i hi => ⟨?_, ?_, ?_⟩, ?_, ?_, ?_⟩, ?_, fun p' hp' => ?_, fun _ k' hk' => b3 k' hk', ⟨fun _ _ => [], K, hQQ, hF.1, fun p hp => ⟨hT p hp, ?_⟩⟩, ?_⟩
  · obtain ⟨cc, u1, u2, u3, u4⟩ := ht
    refine ⟨cc, u1, ?_, u3, fun i hi => ?_⟩
    · show f 1 0 = _
      rw [zI0 1 0 (by decide) (by decide)]
      exact u2
    · show h 1 i = B 1 i ∧ 33 ≤ (h 1 i).toInt ∧ (h 1 i).toInt ≤ 126
      rw [b2 1 (by decide)]
      exact u4 i hi
  · show h 5 i = B 33 i
    rw [b2 5 (by decide)]
    exact (hv i hi).1
  · show h 6 i = B 34 i
    rw [b1 i hi]
    exact (hv i hi).2.1
  · show h 133 i = B 35 i
    rw [b2 133 (by decide)]
    exact (hv i hi).2.2
  · show f 2 0 = I 2
    rw [zI0 2 0 (by decide) (by decide)]
    exact t2
  · show f 3 0 = I 3
    rw [b6 3 0 (fun _ => ⟨fun k hk => by omega, fun p hp => by omega⟩) (fun e => by omega)]
    exact t3
  · show f 5 2 = I 18 ∧ (I 18 = 0 ∨ I 18 = 1)
    have t18' : I 18 = 0 := t18
    rw [b5, t18']
    exact ⟨rfl, Or.inl rfl⟩
  · show g 4 0 = none ↔ I 10 = 0
    rw [b8 4 0 (fun e => by omega)]
    exact hL
  · obtain ⟨t, u1, u2, u3, u4⟩ := hP p' hp'
    refine ⟨t, u1, ?_, u3, fun i hi => ?_⟩
    · show f 1 (8 + 3 * p') = _
      rw [zI0 1 _ (by decide) (by decide)]
      exact u2
    · show h (9 + 3 * p') i = B 26 (1000 * p' + i)
      rw [b2 _ (by omega)]
      exact u4 i hi
  · obtain ⟨s1, s2, sh, s3, s4⟩ := hF.2.1 p hp
    have nd := Rp_nd (K p) true s1 sh _ s3
    have s3' : Rp (szM (stY S f g h) I B) true (K p) sh (fun _ => zR S 1 (7 + 3 * p)) := Rp_fr (S := szM S I B) (K p) true s1 sh _ s3 (fun x hx => (ho.2.1 x (nd x hx).1 (nd x hx).2).1)
    have s4' : BH (szM (stY S f g h) I B) true (K p) sh none := BH_fr (S := szM S I B) (K p) true s1 sh none _ s3 s4 (fun x hx => ⟨(ho.2.1 x (nd x hx).1 (nd x hx).2).1.2.2.1, (ho.2.1 x (nd x hx).1 (nd x hx).2).2⟩)
    refine ⟨[(K p, sh)], 0, ?_, ?_, (h36 p hp).1, ?_, Or.inl ⟨b4 p hp, (h36 p hp).2, (ap_nil s1).symm⟩⟩
    · intro x hx
      rw [List.mem_singleton.mp hx]
      exact ⟨s1, s2⟩
    · show Stk (szM (stY S f g h) I B) [(K p, sh)] (g 2 (7 + 3 * p))
      rw [b7 p hp]
      exact ⟨zR S 1 (7 + 3 * p), none, s3', s4', rfl, by cases zR S 1 (7 + 3 * p) <;> rfl⟩
    · by_cases e : K p = .nil
      · refine Or.inl ⟨e, ?_⟩
        show 0 = (tx 0 (K p)).length
        rw [e, tx_n]
        rfl
      · exact Or.inr ⟨e, s1, s2, [], ⟨[], by simp, rfl⟩, Or.inl rfl, Nat.zero_add _⟩
  · exact Fxd_o (S := szM S I B) (S' := szM (stY S f g h) I B) ho (fun p hp => b8 1 _ (fun e => by omega)) (b8 4 0 (fun e => by omega)) (fun _ _ _ => rfl) rfl hF
theorem op_8 {a1 a2 a3 : Int32} (h : JJ S) : ∃ S', Alk_8 S a1 a2 a3 S' ∧ JJ S' ∧ RM S S' := by
  have h' := h
  obtain ⟨⟨hl, hf, ht, hq, hv, hfl⟩, hL, hP, hE, hD⟩ := h
  have hf' := hf
  obtain ⟨⟨z1, z2, z3, z4⟩, ⟨b1, b2⟩, ⟨c1, c2, c3, c4, c5⟩, _⟩ := hf'
  cases hz : zR S 4 0 with
  | none =>
    have l0 := hL.mp hz
    refine ⟨_, ⟨0, 1, 0, szEx S 12, upd (zMI S) 0 1, zMA S, ?_, ?_, rfl, rfl⟩, JJ_ro h' (RO_x 12 1)⟩
    · simp only [yL_reset, y_reset, y_needPlay, zob, zoc, zcH, zcHv, zcT, zcTv, zlb, z1, hz, if_true]
    · show x_reset 0 (zMI S) (zMA S) = _
      simp only [x_reset, l0, if_true]
  | some b =>
    have l0 : ¬ zMI S 10 = 0 := fun z => by rw [hL.mpr z] at hz; cases hz
    obtain ⟨S1, e1, e2⟩ := begin_ok (n := 80) hf (by decide)
    obtain ⟨B, r1, r2, r3, r4, r5⟩ := s_restart (n := 80) (I := upd (zMI S) 0 0) (A := zMA S) (by decide)
    obtain ⟨K, ⟨Q, Kr, hR⟩, hF⟩ := hD l0
    have hpre : Pre (szM S (upd (upd (zMI S) 0 0) 18 0) B) K := by
      obtain ⟨r, q1, q8, q2, q3, q4⟩ := hq
      have eA : ∀ j, j < 34 ∨ j = 35 → B j = zMA S j := fun j hj => r5 j (by omega) (by omega) (by omega) (by omega)
      refine ⟨Lay_M hl, Fix_M hf, ?_, ⟨r, q1, q8, q2, q3, fun k hk => ?_⟩, fun i hi => ⟨?_, ?_, ?_⟩, ⟨hfl.1, hfl.2.1, rfl⟩, hL, fun p hp => ?_, r3, r4, ?_, fun p hp => ?_⟩
      · obtain ⟨cc, u1, u2, u3, u4⟩ := ht
        refine ⟨cc, u1, u2, u3, fun i hi => ?_⟩
        show zAI S 1 i = B 1 i ∧ _
        rw [eA 1 (by omega)]
        exact u4 i hi
      · obtain ⟨h'', z, a1, a2, a3, _⟩ := q4 k hk
        exact ⟨h'', a1, a3⟩
      · show zAI S 5 i = B 33 i
        rw [eA 33 (by omega)]
        exact (hv i hi).1
      · show zAI S 5 i = B 34 i
        rw [r2 i hi]
        exact (hv i hi).1
      · show zAI S 133 i = B 35 i
        rw [eA 35 (by omega)]
        exact (hv i hi).2.2
      · obtain ⟨t, u1, u2, u3, u4⟩ := hP p hp
        refine ⟨t, u1, u2, ?_, fun i hi => ?_⟩
        · show B 27 p = _
          rw [eA 27 (by omega)]
          exact u3
        · show zAI S (9 + 3 * p) i = B 26 (1000 * p + i)
          rw [eA 26 (by omega)]
          exact u4 i hi
      · have ho : OF S S := ⟨Nat.le_refl _, fun x _ _ => ⟨Lk_r, rfl⟩, fun x _ => ⟨fun _ => rfl, fun _ => rfl, rfl, rfl⟩⟩
        exact Fxd_o (S := S) (OF_M ho) (fun _ _ => rfl) rfl (fun j a b => eA j (by omega)) rfl hF
      · exact TX_e (eA 26 (by omega)) (eA 27 (by omega)) (hR.2.2 p hp).1
    have hJ := RI_JJ (bg_J hpre e2)
    have e2' := e2
    obtain ⟨f, g, hh, es, _, _, _, _, _, b6, _⟩ := e2'
    refine ⟨szM S1 (upd (upd (zMI S) 0 0) 18 0) B, ⟨80, 0, 0, S1, upd (upd (zMI S) 0 0) 18 0, B, ?_, ?_, rfl, rfl⟩, hJ, ?_, ?_⟩
    · simp only [yL_reset, y_reset, y_needPlay, zob, zoc, zcH, zcHv, zcT, zcTv, zlb, z1, z3, c1, hz, if_true]
      rw [e1]
      rfl
    · have em : zMI S1 = zMI S ∧ zMA S1 = zMA S := by rw [es]; exact ⟨rfl, rfl⟩
      rw [em.1, em.2]
      simp only [x_reset, if_neg l0]
      exact (xb_some r1).trans rfl
    · rw [es]
      exact Nat.le_succ _
    · rw [es]
      exact b6 1 0 (fun e => by omega) (fun e => by omega)
end BJ
