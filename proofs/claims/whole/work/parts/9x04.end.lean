def WRs (th b : Nat) (S : hS) (L : List Nat) (x : Option hS) (T : List Nat) : Prop := ∃ S', x = some S' ∧ MdX th b S S' ∧ XT S' th b (L ++ T)
section WR2
variable {S : hS} {th b a na : Nat} {L T T1 T2 : List Nat} {k : Fo}
theorem wr_b {x : Option hS} {f : hS → Option hS} (h : WRs th b S L x T1) (h2 : ∀ S', MdX th b S S' → XT S' th b (L ++ T1) → WRs th b S' (L ++ T1) (f S') T2) : WRs th b S L (zcV x f) (T1 ++ T2) := by
  obtain ⟨S1, e1, m1, t1⟩ := h
  obtain ⟨S2, e2, m2, t2⟩ := h2 S1 m1 t1
  exact ⟨S2, (zcV_s e1).trans e2, MdX_t m1 m2, by rw [← List.append_assoc]; exact t2⟩
theorem wr_e {x : Option hS} (h : WRs th b S L x T) : WRs th b S L (zcV x fun S' => some S') T := by
  obtain ⟨S1, e1, m1, t1⟩ := h
  exact ⟨S1, (zcV_s e1), m1, t1⟩
theorem wr_p {x1 x2 : Int32} {c : Nat} (h : XT S th b L) (hc : x1 + x2 = Int32.ofNat c) (hc2 : c < 256) (hl : L.length < 600) : WRs th b S L (yX_put S th x1 x2) [c] := put_ok h hc hc2 hl
theorem la {A B : List Nat} : (A ++ B).length = A.length + B.length := List.length_append
theorem by_o {e i : Nat} (he : e < 2 ^ 64) (hi : i < 8) : by_c (Int64.ofNat e) (Int32.ofNat i) = Int32.ofNat (e / 256 ^ i % 256) := by
  rw [by_ce _ i hi]
  unfold by_g by_N
  congr 1
  have h1 : (Int64.ofNat e).toBitVec.toNat = e := by
    show (BitVec.ofNat 64 e).toNat = e
    rw [BitVec.toNat_ofNat]
    exact Nat.mod_eq_of_lt he
  rw [h1, show (256 : Nat) ^ i = 2 ^ (8 * i) by rw [Nat.pow_mul]]
theorem wr_x {e : Nat} (he : e < 2 ^ 64) : ∀ (f i m : Nat) (S : hS) (L : List Nat), i + f = 8 → XT S th b L → L.length + (xtf f (e / 256 ^ i)).length ≤ 600 → WRs th b S L (yX_putExpression_2 th (m + 1 + f) S (Int64.ofNat e) (Int32.ofNat i)) (xtf f (e / 256 ^ i))
  | 0, i, m, S, L, hi, h, hl => by
    rw [show i = 8 by omega]
    refine ⟨S, ?_, MdX_r, ?_⟩
    · rw [Nat.add_zero, yX_putExpression_2]
      exact if_pos (by decide)
    · show XT S th b (L ++ [])
      rw [List.append_nil]
      exact h
  | f + 1, i, m, S, L, hi, h, hl => by
    rw [← Nat.add_assoc, yX_putExpression_2, if_neg (show ¬ (8 : Int32) ≤ Int32.ofNat i from mt (j_le (m := 8) (by decide) (by omega)).mp (by omega)), by_o he (by omega)]
    have hx : xtf (f + 1) (e / 256 ^ i) = if e / 256 ^ i % 256 = 0 then [] else (e / 256 ^ i % 256) :: xtf f (e / 256 ^ (i + 1)) := by
      show (if _ then _ else _ :: xtf f (e / 256 ^ i / 256)) = _
      rw [Nat.div_div_eq_div_mul, Nat.pow_succ]
    rw [hx] at hl ⊢
    have hlt : e / 256 ^ i % 256 < 256 := Nat.mod_lt _ (by decide)
    by_cases q : e / 256 ^ i % 256 = 0
    · rw [if_pos q, q]
      exact ⟨S, if_pos rfl, MdX_r, by rw [List.append_nil]; exact h⟩
    · rw [if_neg q] at hl ⊢
      have hl' : L.length + ((xtf f (e / 256 ^ (i + 1))).length + 1) ≤ 600 := hl
      rw [if_neg (show ¬ Int32.ofNat (e / 256 ^ i % 256) = 0 from mt (j_eq (n := 0) (by omega) (by decide)).mp q), if_pos h.1, o1]
      refine wr_b (T1 := [e / 256 ^ i % 256]) (T2 := xtf f (e / 256 ^ (i + 1))) (wr_p h (Int32.add_zero _) hlt (by omega)) (fun S' m1 t1 => ?_)
      exact wr_x he f (i + 1) m S' _ (by omega) t1 (by rw [la]; show L.length + 1 + _ ≤ _; omega)
theorem wr_X {e n : Nat} (he : e < 2 ^ 64) (h : XT S th b L) (hl : L.length + (xt e).length ≤ 600) (hn : 9 ≤ n) : WRs th b S L (yX_putExpression n S th (Int64.ofNat e)) (xt e) := by
  obtain ⟨m, rfl⟩ : ∃ m, n = m + 1 + 8 := ⟨n - 9, by omega⟩
  have := wr_x he 8 0 m S L rfl h (by rw [Nat.pow_zero, Nat.div_one]; exact hl)
  rw [Nat.pow_zero, Nat.div_one] at this
  exact this
theorem ch65 {i : Nat} : (65 : Int32) + Int32.ofNat i = Int32.ofNat (65 + i) := ty_add 65 i
theorem ch48 {i : Nat} : (48 : Int32) + Int32.ofNat i = Int32.ofNat (48 + i) := ty_add 48 i
theorem ch119 {i : Nat} : (119 : Int32) + Int32.ofNat i = Int32.ofNat (119 + i) := ty_add 119 i
theorem wr_T {o : Nat} (ho : o < 6) (h : XT S th b L) (hl : L.length + 3 ≤ 600) : WRs th b S L (yX_putTo S th (Int32.ofNat o)) [62, 65 + o, 59] := by
  unfold yX_putTo
  rw [if_pos h.1]
  refine wr_b (T1 := [62]) (T2 := [65 + o, 59]) (wr_p h rfl (by decide) (by omega)) (fun S1 m1 t1 => ?_)
  rw [if_pos t1.1]
  refine wr_b (T1 := [65 + o]) (T2 := [59]) (wr_p t1 ch65 (by omega) (by rw [la]; show L.length + 1 < _; omega)) (fun S2 m2 t2 => ?_)
  rw [if_pos t2.1]
  exact wr_e (wr_p t2 rfl (by decide) (by rw [la, la]; show L.length + 1 + 1 < _; omega))
def ldf (d : Nat) : Nat → Nat → List Nat
  | 0, _ => []
  | f + 1, i => (if d.testBit i then [65 + i] else []) ++ ldf d f (i + 1)
theorem wr_l {d : Nat} (hd : d < 64) : ∀ (f i m : Nat) (S : hS) (L : List Nat), i + f = 6 → XT S th b L → L.length + (ldf d f i).length ≤ 600 → WRs th b S L (yX_putLed_2 th (m + 1 + f) S (Int32.ofNat d) (Int32.ofNat i)) (ldf d f i)
  | 0, i, m, S, L, hi, h, hl => by
    rw [show i = 6 by omega]
    refine ⟨S, ?_, MdX_r, ?_⟩
    · rw [Nat.add_zero, yX_putLed_2]
      exact if_pos (by decide)
    · show XT S th b (L ++ [])
      rw [List.append_nil]
      exact h
  | f + 1, i, m, S, L, hi, h, hl => by
    rw [← Nat.add_assoc, yX_putLed_2, if_neg (show ¬ (6 : Int32) ≤ Int32.ofNat i from mt (j_le (m := 6) (by decide) (by omega)).mp (by omega))]
    have hc := con_o d hd i (by omega)
    have hx : ldf d (f + 1) i = (if d.testBit i then [65 + i] else []) ++ ldf d f (i + 1) := rfl
    rw [hx] at hl ⊢
    rw [o1]
    cases q : d.testBit i with
    | false =>
      rw [if_pos (hc.mpr q)]
      rw [q] at hl
      exact wr_l hd f (i + 1) m S L (by omega) h hl
    | true =>
      rw [if_neg (mt hc.mp (by rw [q]; decide)), if_pos h.1]
      rw [q, la] at hl
      have hl : L.length + (1 + (ldf d f (i + 1)).length) ≤ 600 := hl
      exact wr_b (T1 := [65 + i]) (wr_p h ch65 (by omega) (by omega)) (fun S' m1 t1 => wr_l hd f (i + 1) m S' _ (by omega) t1 (by rw [la]; show L.length + 1 + _ ≤ _; omega))
theorem wr_L {d n : Nat} (hd : d < 64) (h : XT S th b L) (hl : L.length + (ldl d).length ≤ 600) (hn : 7 ≤ n) : WRs th b S L (yX_putLed n S th (Int32.ofNat d)) (ldl d) := by
  obtain ⟨m, rfl⟩ : ∃ m, n = m + 1 + 6 := ⟨n - 7, by omega⟩
  have e : ldl d = ldf d 6 0 := by
    unfold ldl ldf ldf ldf ldf ldf ldf ldf
    rw [List.append_nil]
  rw [e] at hl ⊢
  exact wr_l hd 6 0 m S L rfl h hl
theorem wr_H {n m : Nat} (hn : 20 ≤ m) (hv : Hv na) (nd : Ndd S a na k) (h : XT S th b L) (hl : L.length + (hdt na).length ≤ 600) : WRs th b S L (yX_writeHead m S th (some a)) (hdt na) := by
  have hax := nd_th nd h.1
  obtain ⟨c1, c2, c3, c4, c5, c6⟩ := nd.2.1
  have kc : ∀ c, cK na = c → c < 16 → ∀ v : Int32, ∀ w, v = Int32.ofNat w → w < 16 → (zI S 0 a = v ↔ c = w) := by
    intro c hc hlt v w hw hww
    rw [c1, hw, hc]
    exact j_eq (by omega) (by omega)
  unfold yX_writeHead
  refine (congrArg (fun x => WRs th b S L x (hdt na)) (zob_s rfl)).mpr ?_
  rw [if_pos nd.1]
  rcases hv with ⟨q, _, x⟩ | ⟨q, _, o, x⟩ | ⟨q, _, o⟩ | ⟨q, _, o, l⟩ | ⟨q, _, o⟩ | ⟨q, _, x⟩ | ⟨q, _, x⟩ | ⟨q, _, o⟩
  · have hh : hdt na = [119 + cV na] ++ ([58] ++ (xt (cE na) ++ [59])) := by unfold hdt; rw [if_pos q]; rfl
    rw [hh] at hl ⊢
    rw [la, la, la] at hl
    have hl : L.length + (1 + (1 + ((xt (cE na)).length + 1))) ≤ 600 := hl
    have hv4 : cV na < 4 := Nat.mod_lt _ (by decide)
    rw [if_pos ((kc 1 q (by decide) 1 1 rfl (by decide)).mpr rfl), if_pos h.1, c2]
    refine wr_b (wr_p h ch119 (by omega) (by omega)) (fun S1 m1 t1 => ?_)
    rw [if_pos t1.1]
    refine wr_b (wr_p t1 rfl (by decide) (by rw [la]; show L.length + 1 < _; omega)) (fun S2 m2 t2 => ?_)
    rw [if_pos ((MdX_tg m2 a).trans ((MdX_tg m1 a).trans nd.1)), if_pos t2.1, MdX_L m2, MdX_L m1, c6]
    refine wr_b (wr_X (xok_lt x) t2 (by rw [la, la]; show L.length + 1 + 1 + _ ≤ _; omega) (by omega)) (fun S3 m3 t3 => ?_)
    rw [if_pos t3.1]
    exact wr_e (wr_p t3 rfl (by decide) (by rw [la, la, la]; show L.length + 1 + 1 + _ < _; omega))
  · have hh : hdt na = xt (cE na) ++ [62, 65 + cO na, 59] := by unfold hdt; rw [if_neg (by omega), if_pos q]
    rw [hh] at hl ⊢
    rw [la] at hl
    have hl : L.length + ((xt (cE na)).length + 3) ≤ 600 := hl
    rw [if_neg (mt (kc 2 q (by decide) 1 1 rfl (by decide)).mp (by decide)), if_pos ((kc 2 q (by decide) 2 2 rfl (by decide)).mpr rfl), if_pos h.1, c6]
    refine wr_b (wr_X (xok_lt x) h (by omega) (by omega)) (fun S1 m1 t1 => ?_)
    rw [if_pos ((MdX_tg m1 a).trans nd.1), if_pos t1.1, MdX_I m1 (Or.inr hax), c4]
    exact wr_e (wr_T o t1 (by rw [la]; omega))
  · have hh : hdt na = [65 + cO na] ++ ([62] ++ ([119 + cV na] ++ [59])) := by unfold hdt; rw [if_neg (by omega), if_neg (by omega), if_pos q]; rfl
    rw [hh] at hl ⊢
    rw [la, la, la] at hl
    have hl : L.length + (1 + (1 + (1 + 1))) ≤ 600 := hl
    have hv4 : cV na < 4 := Nat.mod_lt _ (by decide)
    rw [if_neg (mt (kc 3 q (by decide) 1 1 rfl (by decide)).mp (by decide)), if_neg (mt (kc 3 q (by decide) 2 2 rfl (by decide)).mp (by decide)), if_pos ((kc 3 q (by decide) 3 3 rfl (by decide)).mpr rfl), if_pos h.1, c4]
    refine wr_b (wr_p h ch65 (by omega) (by omega)) (fun S1 m1 t1 => ?_)
    rw [if_pos t1.1]
    refine wr_b (wr_p t1 rfl (by decide) (by rw [la]; show L.length + 1 < _; omega)) (fun S2 m2 t2 => ?_)
    rw [if_pos ((MdX_tg m2 a).trans ((MdX_tg m1 a).trans nd.1)), if_pos t2.1, MdX_I m2 (Or.inr hax), MdX_I m1 (Or.inr hax), c2]
    refine wr_b (wr_p t2 ch119 (by omega) (by rw [la, la]; show L.length + 1 + 1 < _; omega)) (fun S3 m3 t3 => ?_)
    rw [if_pos t3.1]
    exact wr_e (wr_p t3 rfl (by decide) (by rw [la, la, la]; show L.length + 1 + 1 + 1 < _; omega))
  · have hh : hdt na = [33] ++ ([48 + cL na] ++ [62, 65 + cO na, 59]) := by unfold hdt; rw [if_neg (by omega), if_neg (by omega), if_neg (by omega), if_pos q]; rfl
    rw [hh] at hl ⊢
    rw [la, la] at hl
    have hl : L.length + (1 + (1 + 3)) ≤ 600 := hl
    rw [if_neg (mt (kc 4 q (by decide) 1 1 rfl (by decide)).mp (by decide)), if_neg (mt (kc 4 q (by decide) 2 2 rfl (by decide)).mp (by decide)), if_neg (mt (kc 4 q (by decide) 3 3 rfl (by decide)).mp (by decide)), if_pos ((kc 4 q (by decide) 4 4 rfl (by decide)).mpr rfl), if_pos h.1]
    refine wr_b (wr_p h rfl (by decide) (by omega)) (fun S1 m1 t1 => ?_)
    rw [if_pos ((MdX_tg m1 a).trans nd.1), if_pos t1.1, MdX_I m1 (Or.inr hax), c3]
    refine wr_b (wr_p t1 ch48 (by omega) (by rw [la]; show L.length + 1 < _; omega)) (fun S2 m2 t2 => ?_)
    rw [if_pos ((MdX_tg m2 a).trans ((MdX_tg m1 a).trans nd.1)), if_pos t2.1, MdX_I m2 (Or.inr hax), MdX_I m1 (Or.inr hax), c4]
    exact wr_e (wr_T o t2 (by rw [la, la]; show L.length + 1 + 1 + _ ≤ _; omega))
  all_goals
    rw [if_neg (mt (kc _ q (by decide) 1 1 rfl (by decide)).mp (by decide)), if_neg (mt (kc _ q (by decide) 2 2 rfl (by decide)).mp (by decide)), if_neg (mt (kc _ q (by decide) 3 3 rfl (by decide)).mp (by decide)), if_neg (mt (kc _ q (by decide) 4 4 rfl (by decide)).mp (by decide)), if_pos h.1]
    refine wr_e ?_
    unfold yX_writeHeadOfParts
    refine (congrArg (fun x => WRs th b S L x (hdt na)) (zob_s rfl)).mpr ?_
    rw [if_pos nd.1]
  · have hh : hdt na = [65 + cO na] := by unfold hdt; rw [if_neg (by omega), if_neg (by omega), if_neg (by omega), if_neg (by omega), if_pos q]
    rw [hh] at hl ⊢
    rw [if_pos ((kc 5 q (by decide) 5 5 rfl (by decide)).mpr rfl), if_pos h.1, c4]
    exact wr_e (wr_p h ch65 (by omega) (by have hl : L.length + 1 ≤ 600 := hl; omega))
  · have hh : hdt na = [63] ++ xt (cE na) := by unfold hdt; rw [if_neg (by omega), if_neg (by omega), if_neg (by omega), if_neg (by omega), if_neg (by omega), if_pos q]; rfl
    rw [hh] at hl ⊢
    rw [la] at hl
    have hl : L.length + (1 + (xt (cE na)).length) ≤ 600 := hl
    rw [if_neg (mt (kc 6 q (by decide) 5 5 rfl (by decide)).mp (by decide)), if_pos ((kc 6 q (by decide) 6 6 rfl (by decide)).mpr rfl), if_pos h.1]
    refine wr_b (wr_p h rfl (by decide) (by omega)) (fun S1 m1 t1 => ?_)
    rw [if_pos ((MdX_tg m1 a).trans nd.1), if_pos t1.1, MdX_L m1, c6]
    exact wr_e (wr_X (xok_lt x) t1 (by rw [la]; show L.length + 1 + _ ≤ _; omega) (by omega))
  · have hh : hdt na = [64] ++ (xt (cE na) ++ ldl (cD na)) := by unfold hdt; rw [if_neg (by omega), if_neg (by omega), if_neg (by omega), if_neg (by omega), if_neg (by omega), if_neg (by omega), if_pos q]; rfl
    rw [hh] at hl ⊢
    rw [la, la] at hl
    have hl : L.length + (1 + ((xt (cE na)).length + (ldl (cD na)).length)) ≤ 600 := hl
    rw [if_neg (mt (kc 7 q (by decide) 5 5 rfl (by decide)).mp (by decide)), if_neg (mt (kc 7 q (by decide) 6 6 rfl (by decide)).mp (by decide)), if_pos ((kc 7 q (by decide) 7 7 rfl (by decide)).mpr rfl), if_pos h.1]
    refine wr_b (wr_p h rfl (by decide) (by omega)) (fun S1 m1 t1 => ?_)
    rw [if_pos ((MdX_tg m1 a).trans nd.1), if_pos t1.1, MdX_L m1, c6]
    refine wr_b (wr_X (xok_lt x) t1 (by rw [la]; show L.length + 1 + _ ≤ _; omega) (by omega)) (fun S2 m2 t2 => ?_)
    rw [if_pos ((MdX_tg m2 a).trans ((MdX_tg m1 a).trans nd.1)), if_pos t2.1, MdX_I m2 (Or.inr hax), MdX_I m1 (Or.inr hax), c5]
    exact wr_e (wr_L (Nat.mod_lt _ (by decide)) t2 (by rw [la, la]; show L.length + 1 + _ + _ ≤ _; omega) (by omega))
  · have hh : hdt na = [65 + cO na] ++ [64] := by unfold hdt; rw [if_neg (by omega), if_neg (by omega), if_neg (by omega), if_neg (by omega), if_neg (by omega), if_neg (by omega), if_neg (by omega)]; rfl
    rw [hh] at hl ⊢
    have hl : L.length + 2 ≤ 600 := hl
    rw [if_neg (mt (kc 8 q (by decide) 5 5 rfl (by decide)).mp (by decide)), if_neg (mt (kc 8 q (by decide) 6 6 rfl (by decide)).mp (by decide)), if_neg (mt (kc 8 q (by decide) 7 7 rfl (by decide)).mp (by decide)), if_pos h.1, c4]
    refine wr_b (wr_p h ch65 (by omega) (by omega)) (fun S1 m1 t1 => ?_)
    rw [if_pos t1.1]
    exact wr_e (wr_p t1 rfl (by decide) (by rw [la]; show L.length + 1 < _; omega))
end WR2
