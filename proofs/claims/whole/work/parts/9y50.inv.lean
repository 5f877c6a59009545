section INV
variable {S S' : hS} {a0 a1 a2 a3 : Int32} {c : Nat}
def Gw (S S' : hS) : Prop := ∀ c, c ≤ 200 → zI S 1 0 = Int32.ofNat c → ∃ c', c' ≤ 200 ∧ zI S' 1 0 = Int32.ofNat c' ∧ S'.1 + 13 * c' ≤ S.1 + 13 * c + 150
theorem Gw_rm (h : RM S S') : Gw S S' := fun c hc e => ⟨c, hc, h.2.trans e, by have := h.1; omega⟩
theorem oi {a b : Nat} (ha : a ≤ 200) (hb : b ≤ 200) (h : Int32.ofNat a = Int32.ofNat b) : a = b := by
  have h1 := congrArg Int32.toInt h
  rw [Int32.toInt_ofNat_of_lt (by omega), Int32.toInt_ofNat_of_lt (by omega)] at h1
  omega
theorem JJ_ty (h : JJ S) (r : TYP S S') : JJ S' := by
  obtain ⟨hB, hL, hP, hE, hD⟩ := h
  refine ⟨Bas_ty hB r, Lod_ty hL r, Prt_ty hP r, Emp_ty hE r, fun e => Lds_ty hB.2.1 hB.1 r (hD ?_)⟩
  obtain ⟨g, v, A', rfl, -, -⟩ := r
  exact e
theorem JJ_inp (h : JJ S) (r : INP S S') : JJ S' ∧ RM S S' := by
  obtain ⟨hB, hL, hP, hE, hD⟩ := h
  refine ⟨⟨Bas_inp hB r, Lod_inp hL r, Prt_inp hP r, Emp_inp hE r, fun e => Lds_inp hB.2.1 hB.1 r (hD ?_)⟩, ?_⟩
  · obtain ⟨i, v, g, -, rfl, -⟩ := r
    exact e
  · obtain ⟨i, v, g, -, rfl, -⟩ := r
    exact ⟨Nat.le_succ _, rfl⟩
theorem JJ_rom (h : JJ S) (r : ROM S S') : JJ S' ∧ RM S S' := by
  obtain ⟨hB, hL, hP, hE, hD⟩ := h
  refine ⟨⟨Bas_rom hB hE r, Lod_rom hL r, Prt_rom hP r, Emp_rom hE r, fun e => Lds_rom hB.2.1 hB.1 hE r (hD ?_)⟩, ?_⟩
  · obtain ⟨i, -, -, rfl, -⟩ := r
    exact e
  · obtain ⟨i, -, -, rfl, -⟩ := r
    exact ⟨Nat.le_succ _, show zI (szI S 4 2 (Int32.ofNat i)) 1 0 = zI S 1 0 from zI_k (by decide)⟩
theorem JJ_bad (h : JJ S) (r : BAD S S') : JJ S' ∧ zI S' 1 0 = 0 := by
  obtain ⟨hB, hL, hP, hE, hD⟩ := h
  refine ⟨⟨Bas_bad hB r, Lod_bad hB.2.1 hL r, Prt_bad hB.2.1 hP r, Emp_bad hB.2.1 hE r, fun e => Lds_bad hB.2.1 hB.1 r (hD ?_)⟩, ?_⟩
  · obtain ⟨X, I, B, q, -, -, rfl, -, -, -, -, h10, -⟩ := r
    exact fun z => e ((h10 10 (Nat.le_refl _)).trans z)
  · obtain ⟨X, I, B, q, -, -, rfl, -⟩ := r
    show zI (szI (szI (szI X 1 0 0) 2 0 q) 3 0 (-1)) 1 0 = 0
    rw [zI_k (by decide), zI_k (by decide)]
    exact zI_self _ _ _ _
theorem op_0n (h : Bas S) : ∃ S', Alk_0 S a1 a2 a3 S' ∧ (RO S S' ∨ (TYP S S' ∧ Gw S S')) := by
  obtain ⟨hl, hf, ht, hq, hv, hfl⟩ := h
  obtain ⟨⟨h0, r0, -, -⟩, ⟨h1, h2⟩, -⟩ := hf
  obtain ⟨c, hc, t1, t2, t3⟩ := ht
  unfold Alk_0
  generalize ((Int32.toInt64 a1) <<< (Int32.toInt64 32 &&& 63)) ||| ((Int32.toInt64 a2) &&& 4294967295) = w
  obtain ⟨m1, q1, e1⟩ := ys (w := w) (S := S) h0 8 0 18 rfl (Nat.le_refl _)
  obtain ⟨m2, q2, e2⟩ := xs (w := w) (I := upd (zMI S) 0 0) (A := zMA S) 8 0 18 true rfl (Nat.le_refl _)
  have k := ty_ms_sc w 8 0
  have t2' : upd (zMI S) 0 0 1 = Int32.ofNat c := t2
  have Y : ∀ {z}, y_type_2 0 18 S w (Int32.ofNat 0) = z → y_type 18 S 0 w = z := fun z => by unfold y_type; exact z
  have X : ∀ {z}, x_type_10 18 (upd (zMI S) 0 0) (zMA S) w (Int32.ofNat 0) (ty_b true) = z → x_type 18 (zMI S) (zMA S) w = z := fun z => by unfold x_type; exact z
  cases hs : ty_sc (by_g w) 8 0 with
  | none =>
    rw [hs] at k e1
    have k' : (ty_ms (by_g w) 8 0 true).2 = false := k
    exact ⟨szM S (upd (zMI S) 0 0) (zMA S), ⟨18, 0, S, upd (zMI S) 0 0, zMA S, Y e1, X (e2.trans (if_pos k')), rfl⟩, Or.inl (RO_r 0)⟩
  | some n =>
    rw [hs] at k e1
    have k' : ty_ms (by_g w) 8 0 true = (n, true) := k
    rw [k'] at e2
    obtain ⟨hn, hok⟩ := sc_ok w 8 0 n hs
    unfold yout at e1
    unfold xout at e2
    rw [if_neg (show ¬ ((n, true) : Nat × Bool).2 = false from fun z => Bool.noConfusion z), t2', show ((n, true) : Nat × Bool).1 = n from rfl, ty_add] at e2
    simp only [] at e1
    rw [t1, ty_add] at e1
    by_cases q : c + n ≤ 200
    · rw [if_pos ((ty_le200 (c + n) (by omega)).mpr q)] at e1 e2
      obtain ⟨g, y1, y2, y3⟩ := ya (w := w) (n := n) (c := c) hn q n 0 m1 S (by omega) (by omega) h0 r0 h1 h2 t1
      obtain ⟨A', x1, x0, x2, x3⟩ := xa (w := w) (n := n) (c := c) (I := upd (zMI S) 0 0) hn q t2' n 0 m2 (zMA S) (by omega) (by omega)
      have z10 : zI (szI (szAI S 1 g) 1 0 (Int32.ofNat (c + n))) 1 0 = Int32.ofNat (c + n) := zI_self _ _ _ _
      refine ⟨szM (szI (szAI S 1 g) 1 0 (Int32.ofNat (c + n))) (upd (upd (zMI S) 0 0) 1 (Int32.ofNat (c + n))) A', ⟨18, 1, szI (szAI S 1 g) 1 0 (Int32.ofNat (c + n)), _, A', Y (e1.trans y1), X (e2.trans x1), rfl⟩, Or.inr ⟨⟨g, _, A', rfl, x0, c + n, q, z10, (show upd (upd (zMI S) 0 0) 1 (Int32.ofNat (c + n)) 1 = Int32.ofNat (c + n) from upd_s), fun i hi => ?_⟩, fun c2 hc2 e => ⟨c + n, q, z10, ?_⟩⟩⟩
      · show zAI (szAI S 1 g) 1 i = A' 1 i ∧ 33 ≤ (zAI (szAI S 1 g) 1 i).toInt ∧ (zAI (szAI S 1 g) 1 i).toInt ≤ 126
        rw [zAI_s]
        by_cases z : i < c
        · rw [y2 i (by omega), x2 i (by omega)]
          exact t3 i z
        · obtain ⟨x, hx⟩ : ∃ x, i = c + x := ⟨i - c, by omega⟩
          subst hx
          rw [y3 x (Nat.zero_le _) (by omega), x3 x (Nat.zero_le _) (by omega)]
          exact ⟨rfl, hok x (Nat.zero_le _) (by omega)⟩
      · have : c2 = c := oi hc2 hc (e.symm.trans t1)
        show S.1 + 13 * (c + n) ≤ S.1 + 13 * c2 + 150
        omega
    · rw [if_neg (mt (ty_le200 (c + n) (by omega)).mp q)] at e1 e2
      exact ⟨szM S (upd (zMI S) 0 0) (zMA S), ⟨18, 0, S, upd (zMI S) 0 0, zMA S, Y e1, X e2, rfl⟩, Or.inl (RO_r 0)⟩
theorem op_1 (h : JJ S) (hN : S.1 + 3000 < ie_S) : ∃ S', Alk_1 S a1 a2 a3 S' ∧ JJ S' ∧ Gw S S' := by
  have h' := h
  obtain ⟨hB, hL, hP, hE, hD⟩ := h
  obtain ⟨c, hc, t1, t2, t3⟩ := hB.2.2.1
  have fin : ∀ S' : hS, zI S' 1 0 = 0 → S'.1 ≤ S.1 + 43 + 13 * c → Gw S S' := fun S' z hs c2 hc2 e => ⟨0, by decide, z, by
    have : c2 = c := oi hc2 hc (e.symm.trans t1)
    omega⟩
  by_cases hb : (pRow (zAI S 1) c 9 0 (0, false) 0).1.2 = true ∨ (pRow (zAI S 1) c 9 0 (0, false) 0).2.2 = .nil
  · obtain ⟨S', e1, e2, e3⟩ := op_1b (a1 := a1) (a2 := a2) (a3 := a3) hB (by omega) hc t1 t2 t3 rfl hb
    obtain ⟨j1, j2⟩ := JJ_bad h' e2
    exact ⟨S', e1, j1, fin S' j2 (by omega)⟩
  · obtain ⟨S', e1, e2, e3, e4⟩ := op_1g (a1 := a1) (a2 := a2) (a3 := a3) h' hN t1 t2 hc t3 rfl (Bool.eq_false_iff.mpr (fun z => hb (Or.inl z))) (fun z => hb (Or.inr z))
    exact ⟨S', e1, e2, fin S' e3 e4⟩
theorem JJ_0 : JJ S0 := by
  have z : ∀ (k a : Nat), (k = 2 ∧ a = 0 → False) → (k = 3 ∧ a = 0 → False) → (k = 4 ∧ a = 2 → False) → zI S0 k a = 0 := fun k a h1 h2 h3 => by
    show S0I k a = 0
    unfold S0I
    rw [if_neg h1, if_neg h2, if_neg h3]
  refine ⟨⟨S0_lay, Fix_0, ⟨0, by decide, rfl, rfl, fun i hi => by omega⟩, ⟨4, by decide, by decide, rfl, rfl, fun k hk => ⟨0, 0, by decide, by decide, z _ _ (by omega) (by omega) (by omega), z _ _ (by omega) (by omega) (by omega), rfl, fun i hi => by omega⟩⟩, fun i _ => ⟨rfl, rfl, rfl⟩, rfl, rfl, rfl, Or.inl rfl⟩, ⟨fun _ => rfl, fun _ => rfl⟩, fun p hp => ⟨0, by decide, z _ _ (by omega) (by omega) (by omega), rfl, fun i hi => by omega⟩, fun _ k hk => z _ _ (by omega) (by omega) (by omega), fun e => absurd rfl e⟩
theorem all_op (h : JJ S) (hN : S.1 + 3000 < ie_S) : ∃ S', Alk S a0 a1 a2 a3 S' ∧ JJ S' ∧ Gw S S' := by
  have ro : ∀ S', RO S S' → JJ S' ∧ Gw S S' := fun S' r => ⟨(JJ_ro h r).1, Gw_rm (JJ_ro h r).2⟩
  obtain ⟨hB, hL, hP, hE, hD⟩ := id h
  unfold Alk
  rcases p1_k a0 with ⟨k, hk, e⟩ | e
  · match k, hk with
    | 0, _ =>
      obtain ⟨S', e1, e2⟩ := op_0n (a1 := a1) (a2 := a2) (a3 := a3) hB
      refine ⟨S', Or.inr (Or.inl (⟨e, e1⟩)), ?_⟩
      rcases e2 with r | ⟨r, g⟩
      · exact ro _ r
      · exact ⟨JJ_ty h r, g⟩
    | 1, _ =>
      obtain ⟨S', e1, e2⟩ := op_1 (a1 := a1) (a2 := a2) (a3 := a3) h hN
      exact ⟨S', Or.inr (Or.inr (Or.inl (⟨e, e1⟩))), e2⟩
    | 2, _ =>
      obtain ⟨S', e1, r⟩ := op_2 (a1 := a1) (a2 := a2) (a3 := a3) hB
      exact ⟨S', Or.inr (Or.inr (Or.inr (Or.inl (⟨e, e1⟩)))), ro _ r⟩
    | 3, _ =>
      obtain ⟨S', e1, r⟩ := op_3 (a1 := a1) (a2 := a2) (a3 := a3) hB
      exact ⟨S', Or.inr (Or.inr (Or.inr (Or.inr (Or.inl (⟨e, e1⟩))))), ro _ r⟩
    | 4, _ =>
      obtain ⟨S', e1, r⟩ := op_4 (a1 := a1) (a2 := a2) (a3 := a3) hB hL hP
      exact ⟨S', Or.inr (Or.inr (Or.inr (Or.inr (Or.inr (Or.inl (⟨e, e1⟩)))))), ro _ r⟩
    | 5, _ =>
      obtain ⟨S', e1, r⟩ := op_5 (a1 := a1) (a2 := a2) (a3 := a3) hB hL hP
      exact ⟨S', Or.inr (Or.inr (Or.inr (Or.inr (Or.inr (Or.inr (Or.inl (⟨e, e1⟩))))))), ro _ r⟩
    | 6, _ =>
      obtain ⟨S', e1, e2⟩ := op_6 (a1 := a1) (a2 := a2) (a3 := a3) hB hL
      refine ⟨S', Or.inr (Or.inr (Or.inr (Or.inr (Or.inr (Or.inr (Or.inr (Or.inl (⟨e, e1⟩)))))))), ?_⟩
      rcases e2 with r | r
      · exact ro _ r
      · exact ⟨(JJ_inp h r).1, Gw_rm (JJ_inp h r).2⟩
    | 7, _ =>
      obtain ⟨S', e1, e2⟩ := op_7 (a1 := a1) (a2 := a2) (a3 := a3) hB hL
      refine ⟨S', Or.inr (Or.inr (Or.inr (Or.inr (Or.inr (Or.inr (Or.inr (Or.inr (Or.inl (⟨e, e1⟩))))))))), ?_⟩
      rcases e2 with r | r
      · exact ro _ r
      · exact ⟨(JJ_rom h r).1, Gw_rm (JJ_rom h r).2⟩
    | 8, _ =>
      obtain ⟨S', e1, e2, e3⟩ := op_8 (a1 := a1) (a2 := a2) (a3 := a3) h
      exact ⟨S', Or.inr (Or.inr (Or.inr (Or.inr (Or.inr (Or.inr (Or.inr (Or.inr (Or.inr (Or.inl (⟨e, e1⟩)))))))))), e2, Gw_rm e3⟩
    | 9, _ =>
      obtain ⟨S', e1, e2, e3⟩ := op_9 (a1 := a1) (a2 := a2) (a3 := a3) h
      exact ⟨S', Or.inr (Or.inr (Or.inr (Or.inr (Or.inr (Or.inr (Or.inr (Or.inr (Or.inr (Or.inr (Or.inl (⟨e, e1⟩))))))))))), e2, Gw_rm e3⟩
    | 10, _ =>
      obtain ⟨S', e1, e2, e3⟩ := op_10 (a1 := a1) (a2 := a2) (a3 := a3) h
      exact ⟨S', Or.inr (Or.inr (Or.inr (Or.inr (Or.inr (Or.inr (Or.inr (Or.inr (Or.inr (Or.inr (Or.inr (Or.inl (⟨e, e1⟩)))))))))))), e2, Gw_rm e3⟩
    | 11, _ =>
      obtain ⟨S', e1, e2, e3⟩ := op_11 (a1 := a1) (a2 := a2) (a3 := a3) h
      exact ⟨S', Or.inr (Or.inr (Or.inr (Or.inr (Or.inr (Or.inr (Or.inr (Or.inr (Or.inr (Or.inr (Or.inr (Or.inr (Or.inl (⟨e, e1⟩))))))))))))), e2, Gw_rm e3⟩
    | 12, _ =>
      obtain ⟨S', e1, r⟩ := op_12 (a1 := a1) (a2 := a2) (a3 := a3) hB
      exact ⟨S', Or.inr (Or.inr (Or.inr (Or.inr (Or.inr (Or.inr (Or.inr (Or.inr (Or.inr (Or.inr (Or.inr (Or.inr (Or.inr (Or.inl (⟨e, e1⟩)))))))))))))), ro _ r⟩
    | 13, _ =>
      obtain ⟨S', e1, r⟩ := op_13 (a1 := a1) (a2 := a2) (a3 := a3) hB
      exact ⟨S', Or.inr (Or.inr (Or.inr (Or.inr (Or.inr (Or.inr (Or.inr (Or.inr (Or.inr (Or.inr (Or.inr (Or.inr (Or.inr (Or.inr (Or.inl (⟨e, e1⟩))))))))))))))), ro _ r⟩
    | 14, _ =>
      obtain ⟨S', e1, r⟩ := op_14 (a1 := a1) (a2 := a2) (a3 := a3) hB
      exact ⟨S', Or.inr (Or.inr (Or.inr (Or.inr (Or.inr (Or.inr (Or.inr (Or.inr (Or.inr (Or.inr (Or.inr (Or.inr (Or.inr (Or.inr (Or.inr (Or.inl (⟨e, e1⟩)))))))))))))))), ro _ r⟩
    | 15, _ =>
      obtain ⟨S', e1, r⟩ := op_15 (a1 := a1) (a2 := a2) (a3 := a3) hB
      exact ⟨S', Or.inr (Or.inr (Or.inr (Or.inr (Or.inr (Or.inr (Or.inr (Or.inr (Or.inr (Or.inr (Or.inr (Or.inr (Or.inr (Or.inr (Or.inr (Or.inr (Or.inl (⟨e, e1⟩))))))))))))))))), ro _ r⟩
    | 16, _ =>
      obtain ⟨S', e1, e2, e3⟩ := op_16 (a1 := a1) (a2 := a2) (a3 := a3) h
      exact ⟨S', Or.inr (Or.inr (Or.inr (Or.inr (Or.inr (Or.inr (Or.inr (Or.inr (Or.inr (Or.inr (Or.inr (Or.inr (Or.inr (Or.inr (Or.inr (Or.inr (Or.inr (Or.inl (⟨e, e1⟩)))))))))))))))))), e2, Gw_rm e3⟩
    | 17, _ =>
      obtain ⟨S', e1, r⟩ := op_17 (a1 := a1) (a2 := a2) (a3 := a3) hB
      exact ⟨S', Or.inr (Or.inr (Or.inr (Or.inr (Or.inr (Or.inr (Or.inr (Or.inr (Or.inr (Or.inr (Or.inr (Or.inr (Or.inr (Or.inr (Or.inr (Or.inr (Or.inr (Or.inr (⟨e, e1⟩)))))))))))))))))), ro _ r⟩
    | k + 18, hk => exact absurd hk (by omega)
  · exact ⟨S, Or.inl ⟨e, rfl⟩, h, Gw_rm ⟨Nat.le_succ _, rfl⟩⟩
def Inv (j : Nat) (S : hS) : Prop := JJ S ∧ (∃ c, c ≤ 200 ∧ zI S 1 0 = Int32.ofNat c ∧ S.1 + 13 * c ≤ 178 + 150 * j) ∧ ie_sm (zhp S) + 70 * 178 ≤ 100000 + 70 * S.1
theorem inv_s {j : Nat} (hj : j < 512) (h : Inv j S) : ∃ S', Alk S a0 a1 a2 a3 S' ∧ Inv (j + 1) S' := by
  obtain ⟨hJ, ⟨c, hc, e, hs⟩, hm⟩ := h
  have hN : S.1 + 3000 < ie_S := by
    unfold ie_S
    omega
  obtain ⟨S', hA, hJ', hg⟩ := all_op (a0 := a0) (a1 := a1) (a2 := a2) (a3 := a3) hJ hN
  obtain ⟨c', hc', e', hs'⟩ := hg c hc e
  have hm' := sm_all hA
  exact ⟨S', hA, hJ', ⟨c', hc', e', by omega⟩, by omega⟩
theorem inv_0 : Inv 0 S0 := by
  refine ⟨JJ_0, ⟨0, by decide, rfl, Nat.le_refl _⟩, ?_⟩
  have h1 := sm_st
  show ie_sm (zhp S0) + 70 * 178 ≤ 100000 + 70 * 178
  generalize ie_sm (zhp S0) = x at h1
  omega
theorem inv_b {j : Nat} (hj : j ≤ 512) (h : Inv j S) : S.1 ≤ 601024 ∧ ie_sm (zhp S) ≤ 7293033 := by
  obtain ⟨-, ⟨c, -, -, hs⟩, hm⟩ := h
  omega
theorem ie_claim (L : Nat) (xs : Nat → Int32) (hL : L ≤ 2048) : ∃ (n d : Nat) (h' : ie_H), ie_ev (L, xs) n d 222 (0, ie_en 222 [.ref ie_S], [], []) = some (.inl (some (.int 1)), h') ∧ h'.length ≤ 601024 ∧ ie_sm h' ≤ 7293033 ∧ d ≤ 1000 := claim_of L xs hL Inv (fun j S a0 a1 a2 a3 hj h => inv_s hj h) inv_0 (fun j S hj h => inv_b hj h)
end INV
