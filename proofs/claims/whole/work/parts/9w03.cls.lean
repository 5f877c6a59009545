theorem vlx_lt : ∀ (l : List Nat), (∀ c, c ∈ l → c < 256) → vlx l < 256 ^ l.length
  | [], _ => by decide
  | c :: l, h => by
    have a := vlx_lt l (fun d hd => h d (List.mem_cons_of_mem _ hd))
    have b := h c List.mem_cons_self
    show c + 256 * vlx l < 256 ^ (l.length + 1)
    rw [Nat.pow_succ]
    omega
theorem xok_lt {e : Nat} (h : Xok e) : e < 2 ^ 64 := by
  have a := vlx_lt (xt e) (fun c hc => (xtf_m _ _ _ hc).2)
  rw [h.2.1.1] at a
  have b : 256 ^ (xt e).length ≤ 256 ^ 8 := Nat.pow_le_pow_right (by decide) (xt_8 e)
  have c : (256 : Nat) ^ 8 = 2 ^ 64 := by decide
  omega
theorem Hv_e {n : Nat} (h : Hv n) : cE n < 2 ^ 64 := by
  have z : ∀ k v l o, k < 16 → v < 4 → l < 16 → o < 8 → n = cd k v l o 0 0 → cE n < 2 ^ 64 := fun k v l o a b c d e => by
    rw [e, cd_E a b c d (by decide)]
    decide
  rcases h with ⟨k, c, x⟩ | ⟨k, c, ho, x⟩ | ⟨k, c, ho⟩ | ⟨k, c, ho, hl⟩ | ⟨k, c, ho⟩ | ⟨k, c, x⟩ | ⟨k, c, x⟩ | ⟨k, c, ho⟩
  · exact xok_lt x
  · exact xok_lt x
  · exact z 3 (cV n) 0 (cO n) (by decide) (cV_lt n) (by decide) (cO_lt n) c
  · exact z 4 0 (cL n) (cO n) (by decide) (by decide) (cL_lt n) (cO_lt n) c
  · exact z 5 0 0 (cO n) (by decide) (by decide) (by decide) (cO_lt n) c
  · exact xok_lt x
  · exact xok_lt x
  · exact z 8 0 0 (cO n) (by decide) (by decide) (by decide) (cO_lt n) c
theorem i64_inj {a b : Nat} (ha : a < 2 ^ 64) (hb : b < 2 ^ 64) (h : Int64.ofNat a = Int64.ofNat b) : a = b := by
  have := congrArg (fun x : Int64 => x.toBitVec.toNat) h
  have e1 : (Int64.ofNat a).toBitVec.toNat = a % 2 ^ 64 := rfl
  have e2 : (Int64.ofNat b).toBitVec.toNat = b % 2 ^ 64 := rfl
  have h' : (Int64.ofNat a).toBitVec.toNat = (Int64.ofNat b).toBitVec.toNat := this
  rw [e1, e2] at h'
  omega
theorem cD_lt (n : Nat) : cD n < 64 := Nat.mod_lt _ (by decide)
theorem cK_lt (n : Nat) : cK n < 16 := Nat.mod_lt _ (by decide)
section CJ
variable {S : hS} {a b n m : Nat} {k l : Fo}
theorem like_ok (ha : Ndd S a n k) (hb : Ndd S b m l) (hn : Hv n) (hm : Hv m) : yA_isLike S a (some b) = some (S, ty_b (decide (n = m))) := by
  obtain ⟨a1, ⟨c0, c1, c2, c3, c4, c5⟩, _⟩ := ha
  obtain ⟨b1, ⟨d0, d1, d2, d3, d4, d5⟩, _⟩ := hb
  unfold yA_isLike
  rw [if_pos a1]
  refine (zob_s rfl).trans ?_
  rw [if_pos b1, c0, c1, c2, c3, c4, c5, d0, d1, d2, d3, d4, d5]
  have i1 := cK_lt n
  have i2 := cK_lt m
  have i3 := cV_lt n
  have i4 := cV_lt m
  have i5 := cL_lt n
  have i6 := cL_lt m
  have i7 := cO_lt n
  have i8 := cO_lt m
  have i9 := cD_lt n
  have i0 := cD_lt m
  by_cases q0 : cK n = cK m
  · rw [if_pos (show Int32.ofNat (cK n) = Int32.ofNat (cK m) by rw [q0])]
    by_cases q1 : cV n = cV m
    · rw [if_pos (show Int32.ofNat (cV n) = Int32.ofNat (cV m) by rw [q1])]
      by_cases q5 : cE n = cE m
      · rw [if_pos (show lg_cmp (Int64.ofNat (cE n)) (Int64.ofNat (cE m)) = 0 from lgc.mpr (by rw [q5]))]
        by_cases q2 : cL n = cL m
        · rw [if_pos (show Int32.ofNat (cL n) = Int32.ofNat (cL m) by rw [q2])]
          by_cases q3 : cO n = cO m
          · rw [if_pos (show Int32.ofNat (cO n) = Int32.ofNat (cO m) by rw [q3])]
            by_cases q4 : cD n = cD m
            · rw [if_pos (show Int32.ofNat (cD n) = Int32.ofNat (cD m) by rw [q4])]
              have e : n = m := by rw [← cd_self n, ← cd_self m, q0, q1, q2, q3, q4, q5]
              rw [decide_eq_true e]
              rfl
            · rw [if_neg (mt (j_eq (by omega) (by omega)).mp q4), decide_eq_false (fun e => q4 (by rw [e]))]
              rfl
          · rw [if_neg (mt (j_eq (by omega) (by omega)).mp q3), decide_eq_false (fun e => q3 (by rw [e]))]
            rfl
        · rw [if_neg (mt (j_eq (by omega) (by omega)).mp q2), decide_eq_false (fun e => q2 (by rw [e]))]
          rfl
      · rw [if_neg (fun z => q5 (i64_inj (Hv_e hn) (Hv_e hm) (lgc.mp z))), decide_eq_false (fun e => q5 (by rw [e]))]
        rfl
    · rw [if_neg (mt (j_eq (by omega) (by omega)).mp q1), decide_eq_false (fun e => q1 (by rw [e]))]
      rfl
  · rw [if_neg (mt (j_eq (by omega) (by omega)).mp q0), decide_eq_false (fun e => q0 (by rw [e]))]
    rfl
theorem tag_lt {i : Nat} {x : Fo} (hn : Hv n) (hk : Hk n k) (hw : WK false k) (hs : So false k) (hg : gid i k = some x) : i < pof (cK n) := by
  unfold pof
  have hi := (WK_get hs hw hg).1
  rcases hn with h | h | h | h | h | h | h | h
  · rw [hk.1 (by omega)] at hg
    cases hg
  · rw [hk.1 (by omega)] at hg
    cases hg
  · rw [hk.1 (by omega)] at hg
    cases hg
  · rw [hk.1 (by omega)] at hg
    cases hg
  · rw [if_pos h.1]
    exact hi
  · rw [if_neg (by omega), if_pos h.1]
    obtain ⟨x', y', rfl⟩ := hk.2.2.1 h.1
    rw [gid_cn, gid_cn] at hg
    by_cases q : i = 0
    · omega
    · rw [if_neg q] at hg
      by_cases q2 : i = 1
      · omega
      · rw [if_neg q2] at hg
        cases hg
  · rw [if_neg (by omega), if_neg (by omega), if_pos (Or.inl h.1)]
    obtain ⟨x', rfl⟩ := hk.2.2.2 (Or.inl h.1)
    rw [gid_cn] at hg
    by_cases q : i = 0
    · omega
    · rw [if_neg q] at hg
      cases hg
  · rw [if_neg (by omega), if_neg (by omega), if_pos (Or.inr h.1)]
    obtain ⟨x', rfl⟩ := hk.2.2.2 (Or.inr h.1)
    rw [gid_cn] at hg
    by_cases q : i = 0
    · omega
    · rw [if_neg q] at hg
      cases hg
theorem pof_le (j : Nat) : pof j ≤ 10 := by
  unfold pof
  split
  · omega
  · split
    · omega
    · split <;> omega
theorem zal_27 {c : Nat} (h : ztg S c = 27) : zal S c ∧ zar S c := by
  unfold zal zar
  rw [h]
  decide
theorem has_ok {i : Nat} (ha : Ndd S a n k) (ht : ∀ i x, gid i k = some x → i < pof (cK n)) (hi : i < 10) : yA_hasPart S a (Int32.ofNat i) = some (S, ty_b (gid i k).isSome) := by
  obtain ⟨a1, _, a3, a4, a5, ⟨x, a6, a7, a8⟩, _⟩ := ha
  have hp := pof_le (cK n)
  unfold yA_hasPart
  rw [if_neg (show ¬ Int32.ofNat i < 0 from mt (j_lt (n := 0) (by omega) (by decide)).mp (by omega)), if_pos a1]
  refine zlb_s.trans ?_
  refine (zob_s a3).trans ?_
  rw [if_pos (zal_27 a4).1, a5, a7]
  by_cases q : pof (cK n) ≤ i
  · rw [if_pos ((j_le (by omega) (by omega)).mpr q)]
    cases hg : gid i k with
    | none => rfl
    | some y =>
      have := ht i y hg
      omega
  · rw [if_neg (mt (j_le (by omega) (by omega)).mp q)]
    have := bit_z x a6 i hi
    rw [a8 i hi] at this
    cases hg : (gid i k).isSome with
    | false =>
      rw [if_pos (this.mpr hg)]
      rfl
    | true =>
      rw [if_neg (mt this.mp (by rw [hg]; decide))]
      rfl
def jk (k l : Fo) : Nat → Nat → Bool
  | _, 0 => true
  | i, d + 1 => (match gid i k, gid i l with
    | some x, some y => (J true x y).isSome
    | _, _ => true) && jk k l (i + 1) d
theorem J_none : ∀ (k : Fo), So false k → ∀ l, So false l → J false k l = none → ∃ i x y, gid i k = some x ∧ gid i l = some y ∧ J true x y = none := fun k hk => So_ind (P := fun m k => m = false → ∀ l, So false l → J false k l = none → ∃ i x y, gid i k = some x ∧ gid i l = some y ∧ J true x y = none) (fun _ _ l _ h => by cases h) (fun m n x r h1 h2 h3 _ ih hm l hl hj => by
    subst hm
    rw [J_k] at hj
    have gks := gek_so (n := n + 1) hl
    cases hr : J false r (gek (n + 1) l) with
    | none =>
      obtain ⟨i, x', y', e1, e2, e3⟩ := ih rfl _ gks.1 hr
      rw [gks.2.2.2 i] at e2
      by_cases q : n + 1 ≤ i
      · rw [if_pos q] at e2
        exact ⟨i, x', y', by rw [gid_cn, if_neg (by omega)]; exact e1, e2, e3⟩
      · rw [if_neg q] at e2
        cases e2
    | some r' =>
      rw [hr] at hj
      cases hg : gid n l with
      | none =>
        rw [hg] at hj
        cases hj
      | some y =>
        rw [hg] at hj
        cases hx : J true x y with
        | none => exact ⟨n, x, y, by rw [gid_cn, if_pos rfl], hg, hx⟩
        | some z =>
          have hj' : ((J true x y).bind fun x' => (some r').bind fun r' => some (ap (ltk n l) (cn n x' r'))) = none := hj
          rw [hx] at hj'
          cases hj') k false hk rfl
theorem jk_t (hc : ∀ i x y, gid i k = some x → gid i l = some y → (J true x y).isSome = true) : ∀ d i, jk k l i d = true
  | 0, _ => rfl
  | d + 1, i => by
    unfold jk
    rw [jk_t hc d (i + 1), Bool.and_true]
    cases h1 : gid i k with
    | none => rfl
    | some x =>
      cases h2 : gid i l with
      | none => rfl
      | some y => exact hc i x y h1 h2
theorem jk_f {j : Nat} {x y : Fo} (h1 : gid j k = some x) (h2 : gid j l = some y) (h3 : J true x y = none) : ∀ d i, i ≤ j → j < i + d → jk k l i d = false
  | 0, i, a, b => by omega
  | d + 1, i, a, b => by
    unfold jk
    by_cases e : i = j
    · subst e
      rw [h1, h2]
      show ((J true x y).isSome && _) = false
      rw [h3]
      rfl
    · rw [jk_f h1 h2 h3 d (i + 1) (by omega) (by omega), Bool.and_false]
theorem jk_J (hk : So false k) (hl : So false l) {N : Nat} (ht : ∀ i x, gid i k = some x → i < N) : (J false k l).isSome = jk k l 0 N := by
  cases hj : J false k l with
  | none =>
    obtain ⟨i, x, y, e1, e2, e3⟩ := J_none k hk l hl hj
    rw [jk_f e1 e2 e3 N 0 (Nat.zero_le _) (by have := ht i x e1; omega)]
    rfl
  | some c =>
    have := (Jm k false hk l c hl hj).2.2.2 rfl
    rw [jk_t (fun i x y h1 h2 => ?_) N 0]
    · rfl
    · obtain ⟨z, _, hz, _⟩ := (this.2 i).2.2 x y h1 h2
      rw [hz]
      rfl
end CJ
def dq : Bool → Fo → Nat
  | true, .append (.tag _ k) r => max (dq false k) (dq true r)
  | false, .append (.tag _ x) r => max (1 + dq true x) (dq false r)
  | _, _ => 0
def nq : Bool → Fo → Nat
  | true, .append (.tag _ k) r => 1 + nq false k + nq true r
  | false, .append (.tag _ x) r => nq true x + nq false r
  | _, _ => 0
theorem dq_gid {i : Nat} {k x : Fo} (hs : So false k) : gid i k = some x → 1 + dq true x ≤ dq false k ∧ nq true x ≤ nq false k := So_ind (P := fun m k => m = false → gid i k = some x → 1 + dq true x ≤ dq false k ∧ nq true x ≤ nq false k) (fun _ _ h => by cases h) (fun m l y r _ _ _ _ ih hm hg => by
    subst hm
    rw [gid_cn] at hg
    have e1 : dq false (cn l y r) = max (1 + dq true y) (dq false r) := rfl
    have e2 : nq false (cn l y r) = nq true y + nq false r := rfl
    split at hg
    · cases hg
      omega
    · have := ih rfl hg
      omega) k false hs rfl
theorem So_cs {m : Bool} {t : Fo} (h : So m t) : t = .nil ∨ ∃ n k r, t = cn n k r ∧ So (!m) k ∧ So m r ∧ (m = false → Lo (n + 1) r) := So_ind (P := fun m t => t = .nil ∨ ∃ n k r, t = cn n k r ∧ So (!m) k ∧ So m r ∧ (m = false → Lo (n + 1) r)) (fun _ => Or.inl rfl) (fun _ n k r h1 h2 h3 _ _ => Or.inr ⟨n, k, r, rfl, h1, h2, h3⟩) t m h
section CK
variable {S : hS} {n : Nat}
def CjR (S : hS) (n : Nat) (t : Fo) : Prop := ∀ (t2 sh1 sh2 : Fo) (G1 G2 : Nat → Option Nat) (r d m : Nat), So true t2 → WK true t2 → Rp S true t sh1 G1 → Rp S true t2 sh2 G2 → dq true t ≤ r → d + dq true t ≤ 64 → nq true t + 12 ≤ m → nq true t + 12 ≤ n → yA_canJoin_13 (yA_canJoin n r) m S (Int32.ofNat d) (G1 0) (G2 0) = some (S, ty_b (J true t t2).isSome)
theorem Cj_top {t t2 sh1 sh2 : Fo} {G1 G2 : Nat → Option Nat} {r d : Nat} (h : CjR S n t) (s2 : So true t2) (w2 : WK true t2) (r1 : Rp S true t sh1 G1) (r2 : Rp S true t2 sh2 G2) (hr : dq true t < r) (hd : d + dq true t ≤ 64) (hn : nq true t + 12 ≤ n) : yA_canJoin n r S (G1 0) (G2 0) (Int32.ofNat d) = some (S, ty_b (J true t t2).isSome) := by
  obtain ⟨r, rfl⟩ : ∃ k, r = k + 1 := ⟨r - 1, by omega⟩
  rw [yA_canJoin, if_pos (show Int32.ofNat d ≤ 64 from (j_le (n := 64) (by omega) (by decide)).mpr (by omega))]
  exact h t2 sh1 sh2 G1 G2 r d n s2 w2 r1 r2 (by omega) hd hn hn
theorem pcj {a b na nb : Nat} {k l k' l' : Fo} {r d : Nat} (ha : Ndd S a na k) (hb : Ndd S b nb l) (sk : So false k) (sl : So false l) (wl : WK false l) (ta : ∀ i x, gid i k = some x → i < pof (cK na)) (tb : ∀ i x, gid i l = some x → i < pof (cK nb)) (rk : Rp S false k k' (zAR S (a + 1))) (rl : Rp S false l l' (zAR S (b + 1))) (hc : ∀ i x, gid i k = some x → CjR S n x) (hr : dq false k ≤ r) (hd : d + dq false k ≤ 64) (hn : nq false k + 12 ≤ n) (hk : cK na = cK nb) : ∀ (e i m : Nat), i + e = pof (cK na) → yA_partsCanJoin_2 (yA_canJoin n r) (m + 1 + e) S (some a) (some b) (Int32.ofNat d) (Int32.ofNat i) = some (S, ty_b (jk k l i e))
  | 0, i, m, hi => by
    have hp := pof_le (cK na)
    obtain ⟨a1, _, a3, a4, a5, _⟩ := ha
    rw [Nat.add_zero, yA_partsCanJoin_2]
    refine (zob_s rfl).trans ?_
    rw [if_pos a1]
    refine zlb_s.trans ((zob_s a3).trans ?_)
    rw [if_pos (zal_27 a4).1, a5, if_pos ((j_le (by omega) (by omega)).mpr (by omega))]
    rfl
  | e + 1, i, m, hi => by
    have hp := pof_le (cK na)
    have hk2 : pof (cK nb) = pof (cK na) := by rw [hk]
    have ih := pcj ha hb sk sl wl ta tb rk rl hc hr hd hn hk e (i + 1) m (by omega)
    have h1 := has_ok ha ta (show i < 10 by omega)
    have h2 := has_ok hb tb (show i < 10 by omega)
    obtain ⟨a1, _, a3, a4, a5, _⟩ := ha
    obtain ⟨b1, _, b3, b4, b5, _⟩ := hb
    rw [← Nat.add_assoc, yA_partsCanJoin_2]
    refine (zob_s rfl).trans ?_
    rw [if_pos a1]
    refine zlb_s.trans ((zob_s a3).trans ?_)
    rw [if_pos (zal_27 a4).1, a5, if_neg (mt (j_le (by omega) (by omega)).mp (by omega))]
    refine (zcP_s h1).trans ?_
    unfold jk
    rw [o1]
    cases g1 : gid i k with
    | none => exact ih
    | some x =>
      show (if ty_b true = 0 then _ else _) = _
      rw [tb1]
      refine (zob_s rfl).trans ?_
      rw [if_pos b1]
      refine (zcP_s h2).trans ?_
      cases g2 : gid i l with
      | none => exact ih
      | some y =>
        show (if ty_b true = 0 then _ else _) = _
        rw [tb1, if_pos a1]
        refine zlb_s.trans ((zob_s a3).trans ?_)
        rw [if_pos (zal_27 a4).2, a5, if_pos (j_in (by omega) (by omega)), (j_n (n := i) (by omega)).2]
        refine zlb_s.trans ?_
        rw [if_pos b1]
        refine zlb_s.trans ((zob_s b3).trans ?_)
        rw [if_pos (zal_27 b4).2, b5, if_pos (j_in (by omega) (by omega))]
        refine zlb_s.trans ?_
        obtain ⟨x', _, rx, _⟩ := Rp_gid sk rk g1
        obtain ⟨y', _, ry, _⟩ := Rp_gid sl rl g2
        have dqx := dq_gid sk g1
        have hcall := Cj_top (hc i x g1) (gid_so sl g2) (WK_get sl wl g2).2 rx ry (r := r) (d := d + 1) (by omega) (by omega) (by omega)
        rw [o1]
        refine (zcP_s hcall).trans ?_
        show _ = some (S, ty_b ((J true x y).isSome && jk k l (i + 1) e))
        cases (J true x y).isSome with
        | false => rfl
        | true =>
          show (if ty_b true = 0 then _ else _) = _
          rw [tb1, Bool.true_and]
          exact ih
theorem cj_all : ∀ (t : Fo) (m : Bool), So m t → WK m t → (m = true → CjR S n t) ∧ (m = false → ∀ i x, gid i t = some x → CjR S n x) := So_ind (P := fun m t => WK m t → (m = true → CjR S n t) ∧ (m = false → ∀ i x, gid i t = some x → CjR S n x)) (fun m _ => ⟨fun _ t2 sh1 sh2 G1 G2 r d m s2 w2 r1 r2 _ _ hm _ => by
      obtain ⟨m, rfl⟩ : ∃ k, m = k + 1 := ⟨m - 1, by omega⟩
      rw [yA_canJoin_13, (Rp_n r1).2 rfl]
      rcases So_cs s2 with rfl | ⟨n2, l, s, rfl, _⟩
      · rw [(Rp_n r2).2 rfl]
        rfl
      · obtain ⟨a, _, _, _, h1, _⟩ := Rp_r r2
        rw [h1]
        rfl, fun _ i x h => by cases h⟩) (fun m na k r0 h1 h2 h3 ihk ihr hw => by
    cases m with
    | true =>
      refine ⟨fun _ t2 sh1 sh2 G1 G2 r d m s2 w2 r1 r2 hr hd hm hn => ?_, fun z => Bool.noConfusion z⟩
      obtain ⟨v1, v2, v3, v4⟩ := hw
      have e1 : dq true (cn na k r0) = max (dq false k) (dq true r0) := rfl
      have e2 : nq true (cn na k r0) = 1 + nq false k + nq true r0 := rfl
      obtain ⟨m, rfl⟩ : ∃ j, m = j + 1 := ⟨m - 1, by omega⟩
      obtain ⟨a, k', r', rfl, g1, nda, rk, rr⟩ := Rp_r r1
      rw [yA_canJoin_13, g1]
      rcases So_cs s2 with rfl | ⟨nb, l, s, rfl, q1, q2, q3⟩
      · rw [(Rp_n r2).2 rfl]
        rfl
      · obtain ⟨u1, u2, u3, u4⟩ := w2
        obtain ⟨b, l', s', rfl, g2, ndb, rl, rs⟩ := Rp_r r2
        rw [g2]
        show (if ztg S a = 2 then _ else none) = _
        rw [if_pos nda.1]
        refine (zcP_s (like_ok nda ndb v1 u1)).trans ?_
        rw [J_r]
        by_cases e : na = nb
        · subst e
          rw [decide_eq_true rfl, tb1, if_pos rfl]
          have hp := pof_le (cK na)
          obtain ⟨m', hm'⟩ : ∃ m', m = m' + 1 + pof (cK na) := ⟨m - pof (cK na) - 1, by omega⟩
          have hpc := pcj (n := n) (r := r) (d := d) nda ndb h1 q1 u3 (fun i x hg => tag_lt v1 v2 v3 h1 hg) (fun i x hg => tag_lt v1 u2 u3 q1 hg) rk rl ((ihk v3).2 rfl) (by omega) (by omega) (by omega) rfl (pof (cK na)) 0 m' (Nat.zero_add _)
          rw [← hm', ← jk_J h1 q1 (fun i x hg => tag_lt v1 v2 v3 h1 hg)] at hpc
          refine (zcP_s (show yA_partsCanJoin (yA_canJoin n r) m S (some a) (some b) (Int32.ofNat d) = _ from hpc)).trans ?_
          cases hj : J false k l with
          | none => rfl
          | some c =>
            show (if ty_b true = 0 then _ else _) = _
            rw [tb1, if_pos nda.1]
            refine zlb_s.trans ?_
            rw [if_pos ndb.1]
            refine zlb_s.trans ?_
            have := (ihr v4).1 rfl s r' s' (fun _ => zR S 8 a) (fun _ => zR S 8 b) r d m q2 u4 rr rs (by omega) (by omega) (by omega) (by omega)
            rw [this]
            cases J true r0 s <;> rfl
        · rw [decide_eq_false e, tb0, if_neg e]
          rfl
    | false =>
      refine ⟨fun z => Bool.noConfusion z, fun _ i x hi => ?_⟩
      rw [gid_cn] at hi
      split at hi
      · cases hi
        exact (ihk hw.2.1).1 rfl
      · exact (ihr hw.2.2).2 rfl i x hi)
theorem canJoin_ok {t t2 sh1 sh2 : Fo} {G1 G2 : Nat → Option Nat} (s1 : So true t) (w1 : WK true t) (s2 : So true t2) (w2 : WK true t2) (r1 : Rp S true t sh1 G1) (r2 : Rp S true t2 sh2 G2) (hd : dq true t ≤ 64) (hn : nq true t + 12 ≤ n) : yA_canJoin n 67 S (G1 0) (G2 0) 0 = some (S, ty_b (J true t t2).isSome) := Cj_top ((cj_all t true s1 w1).1 rfl) s2 w2 r1 r2 (by omega) (by rw [Nat.zero_add]; exact hd) hn
end CK
