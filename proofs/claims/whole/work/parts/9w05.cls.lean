theorem Rp_tag {S : hS} {t sh : Fo} {G : Nat → Option Nat} (hs : So true t) (h : Rp S true t sh G) : ∀ b, G 0 = some b → ztg S b = 2 := by
  intro b hb
  rcases So_cs hs with rfl | ⟨n, k, r, rfl, _⟩
  · rw [(Rp_n h).2 rfl] at hb
    cases hb
  · obtain ⟨a, _, _, _, h1, h2, _⟩ := Rp_r h
    rw [h1] at hb
    cases hb
    exact h2.1
def JnR (n : Nat) (t : Fo) : Prop := ∀ (S : hS) (t2 c sh1 sh2 : Fo) (G1 G2 : Nat → Option Nat) (r d m : Nat), So true t2 → WK true t2 → Rp S true t sh1 G1 → Rp S true t2 sh2 G2 → J true t t2 = some c → Spt true sh1 → Spt true sh2 → (∀ x, x ∈ ad true sh1 → x ∉ ad true sh2) → dq true t ≤ r → d + dq true t ≤ 64 → nq true t + 12 ≤ m → nq true t + 12 ≤ n → ∃ S' sh', yA_join_12 (yA_join n r) m S (Int32.ofNat d) (G1 0) (G2 0) = some S' ∧ Rp S' true c sh' G1 ∧ Mdf S S' (ad true sh1) ∧ (∀ x, x ∈ ad true sh' → x ∈ ad true sh1 ∨ x ∈ ad true sh2) ∧ Spt true sh'
theorem Jn_top {n : Nat} {S : hS} {t t2 c sh1 sh2 : Fo} {G1 G2 : Nat → Option Nat} {r d : Nat} (h : JnR n t) (s2 : So true t2) (w2 : WK true t2) (r1 : Rp S true t sh1 G1) (r2 : Rp S true t2 sh2 G2) (hj : J true t t2 = some c) (p1 : Spt true sh1) (p2 : Spt true sh2) (p3 : ∀ x, x ∈ ad true sh1 → x ∉ ad true sh2) (hr : dq true t < r) (hd : d + dq true t ≤ 64) (hn : nq true t + 12 ≤ n) : ∃ S' sh', yA_join n r S (G1 0) (G2 0) (Int32.ofNat d) = some S' ∧ Rp S' true c sh' G1 ∧ Mdf S S' (ad true sh1) ∧ (∀ x, x ∈ ad true sh' → x ∈ ad true sh1 ∨ x ∈ ad true sh2) ∧ Spt true sh' := by
  obtain ⟨r, rfl⟩ : ∃ k, r = k + 1 := ⟨r - 1, by omega⟩
  rw [yA_join, if_pos (show Int32.ofNat d ≤ 64 from (j_le (n := 64) (by omega) (by decide)).mpr (by omega))]
  exact h S t2 c sh1 sh2 G1 G2 r d n s2 w2 r1 r2 hj p1 p2 p3 (by omega) hd hn hn
def uf (f : Nat → Fo) (i : Nat) (s : Fo) : Nat → Fo := fun j => if j = i then s else f j
theorem uf_s {f : Nat → Fo} {i : Nat} {s : Fo} : uf f i s i = s := if_pos rfl
theorem uf_n {f : Nat → Fo} {i j : Nat} {s : Fo} (h : j ≠ i) : uf f i s j = f j := if_neg h
section JL
variable {S0 : hS} {n a b na r d : Nat} {k l ck k' l' : Fo}
def Jsl (S0 S : hS) (a : Nat) (k l ck k' l' : Fo) (i : Nat) (f : Nat → Fo) : Prop := (∀ j, j < 10 → ∀ z, (if j < i then gid j ck else gid j k) = some z → Rp S true z (f j) (fun _ => zAR S (a + 1) j) ∧ Spt true (f j) ∧ (∀ x, x ∈ ad true (f j) → (∃ s, gid j k' = some s ∧ x ∈ ad true s) ∨ (∃ s, gid j l' = some s ∧ x ∈ ad true s))) ∧ (∀ j, j < 10 → i ≤ j → ∀ s, gid j k' = some s → f j = s) ∧ (∀ j, (if j < i then gid j ck else gid j k) = none → zAR S (a + 1) j = none) ∧ (∃ x, x < 1024 ∧ zI S 7 a = Int32.ofNat x ∧ ∀ j, j < 10 → x.testBit j = (if j < i then gid j ck else gid j k).isSome) ∧ Mdf S0 S (a :: ad false k')
theorem jnl (nda : Ndd S0 a na k) (ndb : Ndd S0 b na l) (sk : So false k) (sl : So false l) (wl : WK false l) (ta : ∀ i x, gid i k = some x → i < pof (cK na)) (tb : ∀ i x, gid i l = some x → i < pof (cK na)) (rk : Rp S0 false k k' (zAR S0 (a + 1))) (rl : Rp S0 false l l' (zAR S0 (b + 1))) (hj : J false k l = some ck) (pk : Spt false k') (pl : Spt false l') (ak : a ∉ ad false k') (al : a ∉ ad false l') (hab : b ≠ a) (bk : b ∉ ad false k') (dkl : ∀ x, x ∈ ad false k' → x ∉ ad false l') (hc : ∀ i x, gid i k = some x → JnR n x) (hr : dq false k ≤ r) (hd : d + dq false k ≤ 64) (hn : nq false k + 12 ≤ n) : ∀ (e i m : Nat) (S : hS) (f : Nat → Fo), i + e = pof (cK na) → Jsl S0 S a k l ck k' l' i f → ∃ S' f', yA_joinParts_2 (yA_join n r) (m + 1 + e) S (some a) (some b) (Int32.ofNat d) (Int32.ofNat i) = some S' ∧ Jsl S0 S' a k l ck k' l' (pof (cK na)) f'
  | 0, i, m, S, f, hi, inv => by
    have hp := pof_le (cK na)
    have inv0 := inv
    obtain ⟨_, _, _, _, md⟩ := inv
    have ndb' := Nd_fr ndb (Mdf_lk md (by rw [List.mem_cons]; exact fun z => z.elim hab bk))
    obtain ⟨b1, _, b3, b4, b5, _⟩ := ndb'
    have hi' : i = pof (cK na) := by omega
    refine ⟨S, f, ?_, by rw [← hi']; exact inv0⟩
    rw [Nat.add_zero, yA_joinParts_2]
    refine (zob_s rfl).trans ?_
    rw [if_pos b1]
    refine zlb_s.trans ((zob_s b3).trans ?_)
    rw [if_pos (zal_27 b4).1, b5, if_pos ((j_le (by omega) (by omega)).mpr (by omega))]
  | e + 1, i, m, S, f, hi, inv => by
    have hp := pof_le (cK na)
    have inv0 := inv
    obtain ⟨i1, i2, i3, ⟨xb, i4, i5, i6⟩, md⟩ := inv
    have ndb' := Nd_fr ndb (Mdf_lk md (by rw [List.mem_cons]; exact fun z => z.elim hab bk))
    have lkb := Mdf_lk md (show b ∉ a :: ad false k' by rw [List.mem_cons]; exact fun z => z.elim hab bk)
    have h2 := has_ok ndb' tb (show i < 10 by omega)
    obtain ⟨a1, a2, a3, a4, a5, _, _⟩ := nda
    have a1' : ztg S a = 2 := (Mdf_tg md a).trans a1
    have a3' : zR S 6 a = some (a + 1) := by rw [md.2.2.2.2.2.1]; exact a3
    have a4' : ztg S (a + 1) = 27 := (Mdf_tg md (a + 1)).trans a4
    have a5' : zLen S (a + 1) = pof (cK na) := by unfold zLen; rw [md.2.2.1]; exact a5
    have a2' : Cdn S a na := by
      unfold Cdn at a2 ⊢
      rw [md.2.2.2.1 0 a (Or.inl (by decide)), md.2.2.2.1 1 a (Or.inl (by decide)), md.2.2.2.1 2 a (Or.inl (by decide)), md.2.2.2.1 3 a (Or.inl (by decide)), md.2.2.2.1 4 a (Or.inl (by decide)), md.2.2.2.2.1]
      exact a2
    have b0 := ndb'
    obtain ⟨b1, _, b3, b4, b5, _, b7⟩ := ndb'
    have bit := bit_z xb i4 i (by omega)
    rw [i6 i (by omega), if_neg (Nat.lt_irrefl i)] at bit
    have h1 : yA_hasPart S a (Int32.ofNat i) = some (S, ty_b (gid i k).isSome) := by
      unfold yA_hasPart
      rw [if_neg (show ¬ Int32.ofNat i < 0 from mt (j_lt (n := 0) (by omega) (by decide)).mp (by omega)), if_pos a1']
      refine zlb_s.trans ((zob_s a3').trans ?_)
      rw [if_pos (zal_27 a4').1, a5', if_neg (mt (j_le (by omega) (by omega)).mp (by omega)), i5]
      cases hg : (gid i k).isSome with
      | false =>
        rw [if_pos (bit.mpr hg)]
        rfl
      | true =>
        rw [if_neg (mt bit.mp (by rw [hg]; decide))]
        rfl
    obtain ⟨_, jsp⟩ := (Jm k false sk l ck sl hj).2.2.2 rfl
    have go : ∀ (S1 : hS) (f1 : Nat → Fo), Jsl S0 S1 a k l ck k' l' (i + 1) f1 → ∃ S' f', yA_joinParts_2 (yA_join n r) (m + 1 + e) S1 (some a) (some b) (Int32.ofNat d) (Int32.ofNat (i + 1)) = some S' ∧ Jsl S0 S' a k l ck k' l' (pof (cK na)) f' := fun S1 f1 h => jnl ⟨a1, a2, a3, a4, a5, by assumption, by assumption⟩ ndb sk sl wl ta tb rk rl hj pk pl ak al hab bk dkl hc hr hd hn e (i + 1) m S1 f1 (by omega) h
    have keep : gid i ck = gid i k → Jsl S0 S a k l ck k' l' (i + 1) f := fun hck => by
      have eqi : ∀ j, (if j < i + 1 then gid j ck else gid j k) = (if j < i then gid j ck else gid j k) := fun j => by
        by_cases q : j < i
        · rw [if_pos q, if_pos (by omega)]
        · by_cases q2 : j = i
          · rw [if_pos (by omega), if_neg q, q2, hck]
          · rw [if_neg (by omega), if_neg q]
      refine ⟨fun j hj z hz => i1 j hj z (by rw [← eqi]; exact hz), fun j h1 h2 s hs => i2 j h1 (by omega) s hs, fun j hz => i3 j (by rw [← eqi]; exact hz), ⟨xb, i4, i5, fun j hj => by rw [eqi]; exact i6 j hj⟩, md⟩
    rw [← Nat.add_assoc, yA_joinParts_2]
    refine Exists.imp (fun S' hS => Exists.imp (fun f' (h : _ ∧ _) => ⟨(zob_s rfl).trans h.1, h.2⟩) hS) ?_
    rw [if_pos b1]
    refine Exists.imp (fun S' hS => Exists.imp (fun f' (h : _ ∧ _) => ⟨zlb_s.trans ((zob_s b3).trans h.1), h.2⟩) hS) ?_
    rw [if_pos (zal_27 b4).1, b5, if_neg (mt (j_le (by omega) (by omega)).mp (by omega))]
    refine Exists.imp (fun S' hS => Exists.imp (fun f' (h : _ ∧ _) => ⟨(zob_s rfl).trans h.1, h.2⟩) hS) ?_
    rw [if_pos a1']
    refine Exists.imp (fun S' hS => Exists.imp (fun f' (h : _ ∧ _) => ⟨(zcP_s h1).trans h.1, h.2⟩) hS) ?_
    rw [o1]
    have inK : ∀ j s, gid j k' = some s → ∀ x, x ∈ ad true s → x ∈ ad false k' := fun j s hs x hx => by
      cases hg : gid j k with
      | none =>
        rw [Rp_gn sk rk hg] at hs
        cases hs
      | some t =>
        obtain ⟨s', e1, _, e3⟩ := Rp_gid sk rk hg
        rw [hs] at e1
        cases e1
        exact e3 x hx
    have inL : ∀ j s, gid j l' = some s → ∀ x, x ∈ ad true s → x ∈ ad false l' := fun j s hs x hx => by
      cases hg : gid j l with
      | none =>
        rw [Rp_gn sl rl hg] at hs
        cases hs
      | some t =>
        obtain ⟨s', e1, _, e3⟩ := Rp_gid sl rl hg
        rw [hs] at e1
        cases e1
        exact e3 x hx
    have hbs : zAR S (b + 1) = zAR S0 (b + 1) := lkb.2.2.2.2.2.2.2
    cases g1 : gid i k with
    | none =>
      show ∃ S' f', (if ty_b false = 0 then _ else _) = _ ∧ _
      rw [tb0, if_pos b1]
      refine Exists.imp (fun S' hS => Exists.imp (fun f' (h : _ ∧ _) => ⟨(zcP_s h2).trans h.1, h.2⟩) hS) ?_
      cases g2 : gid i l with
      | none =>
        show ∃ S' f', (if ty_b false = 0 then _ else _) = _ ∧ _
        rw [tb0]
        exact go S f (keep (by rw [(jsp i).1 g1, g1, g2]))
      | some y =>
        show ∃ S' f', (if ty_b true = 0 then _ else _) = _ ∧ _
        rw [tb1, if_pos b1]
        obtain ⟨y', gy, ry, sy⟩ := Rp_gid sl rl g2
        have cki : gid i ck = some y := by rw [(jsp i).1 g1, g2]
        refine Exists.imp (fun S' hS => Exists.imp (fun f' (h : _ ∧ _) => ⟨zlb_s.trans ((zob_s b3).trans h.1), h.2⟩) hS) ?_
        rw [if_pos (zal_27 b4).2, b5, if_pos (j_in (by omega) (by omega)), (j_n (n := i) (by omega)).2]
        refine Exists.imp (fun S' hS => Exists.imp (fun f' (h : _ ∧ _) => ⟨zlb_s.trans h.1, h.2⟩) hS) ?_
        rw [if_pos a1']
        have ndaS : Ndd S a na .nil ∨ True := Or.inr trivial
        have hv : ∀ c, zAR S (b + 1) i = some c → ztg S c = 2 := fun c hc' => by
          rw [hbs] at hc'
          rw [Mdf_tg md]
          exact Rp_tag (gid_so sl g2) ry c hc'
        have hset : yA_setPart S a (Int32.ofNat i) (zAR S (b + 1) i) = some (stP S a i (zAR S (b + 1) i)) := by
          unfold yA_setPart
          rw [if_neg (show ¬ Int32.ofNat i < 0 from mt (j_lt (n := 0) (by omega) (by decide)).mp (by omega)), if_pos a1']
          refine zlb_s.trans ((zob_s a3').trans ?_)
          rw [if_pos (zal_27 a4').1, a5', if_neg (mt (j_le (by omega) (by omega)).mp (by omega))]
          refine zlb_s.trans ((zob_s a3').trans ?_)
          rw [if_pos a4', if_pos (zok_ok a4' hv), a5', if_pos (j_in (by omega) (by omega)), (j_n (n := i) (by omega)).2]
          rfl
        refine Exists.imp (fun S' hS => Exists.imp (fun f' (h : _ ∧ _) => ⟨(zcV_s hset).trans h.1, h.2⟩) hS) ?_
        have md1 : Mdf S0 (stP S a i (zAR S (b + 1) i)) (a :: ad false k') := Mdf_t md stP_m (fun x hx => hx) (fun x hx => by rw [List.mem_singleton] at hx; rw [hx]; exact List.mem_cons_self)
        refine go _ (uf f i y') ⟨fun j hj z hz => ?_, fun j q1 q2 s hs => ?_, fun j hz => ?_, ⟨xb ||| 2 ^ i, or_lt xb i4 i (by omega), stP_7 i5 i4 (by omega), fun j hj => ?_⟩, md1⟩
        · by_cases e : j = i
          · subst e
            rw [if_pos (Nat.lt_succ_self _), cki] at hz
            cases hz
            rw [uf_s]
            refine ⟨?_, Spt_gid l sl l' _ y rl pl g2 gy, fun x hx => Or.inr ⟨y', gy, hx⟩⟩
            have : zAR (stP S a j (zAR S (b + 1) j)) (a + 1) j = zAR S0 (b + 1) j := by
              rw [stP_a, hbs]
              exact if_pos rfl
            rw [this]
            exact Rp_fr y true (gid_so sl g2) y' _ ry (fun x hx => Mdf_lk md1 (by
              rw [List.mem_cons]
              exact fun z => z.elim (fun z => al (by rw [← z]; exact sy x hx)) (fun z => dkl x z (sy x hx))))
          · have hz' : (if j < i then gid j ck else gid j k) = some z := by
              by_cases q : j < i
              · rw [if_pos q]
                rw [if_pos (by omega)] at hz
                exact hz
              · rw [if_neg q]
                rw [if_neg (by omega)] at hz
                exact hz
            obtain ⟨k1, k2, k3⟩ := i1 j hj z hz'
            rw [uf_n e]
            refine ⟨?_, k2, k3⟩
            have hso : So true z := by
              split at hz'
              · exact gid_so (Jm k false sk l ck sl (by assumption)).2.2.1 hz'
              · exact gid_so sk hz'
            have : zAR (stP S a i (zAR S (b + 1) i)) (a + 1) j = zAR S (a + 1) j := by
              rw [stP_a]
              exact if_neg e
            rw [this]
            refine Rp_fr z true hso (f j) _ k1 (fun x hx => Mdf_lk stP_m (by
              rw [List.mem_singleton]
              intro z
              rcases k3 x hx with ⟨s, hs, hx2⟩ | ⟨s, hs, hx2⟩
              · exact ak (by rw [← z]; exact inK j s hs x hx2)
              · exact al (by rw [← z]; exact inL j s hs x hx2)))
        · rw [uf_n (by omega)]
          exact i2 j q1 (by omega) s hs
        · by_cases e : j = i
          · subst e
            rw [if_pos (Nat.lt_succ_self _), cki] at hz
            cases hz
          · rw [stP_a]
            show (if j = i then _ else zAR S (a + 1) j) = none
            rw [if_neg e]
            refine i3 j ?_
            by_cases q : j < i
            · rw [if_pos q]
              rw [if_pos (by omega)] at hz
              exact hz
            · rw [if_neg q]
              rw [if_neg (by omega)] at hz
              exact hz
        · rw [or_bit, i6 j hj]
          by_cases e : j = i
          · subst e
            rw [if_pos (Nat.lt_succ_self _), cki, decide_eq_true rfl, Bool.or_true]
            rfl
          · rw [decide_eq_false (Ne.symm e), Bool.or_false]
            by_cases q : j < i
            · rw [if_pos q, if_pos (by omega)]
            · rw [if_neg q, if_neg (by omega)]
    | some x =>
      show ∃ S' f', (if ty_b true = 0 then _ else _) = _ ∧ _
      rw [tb1, if_pos b1]
      refine Exists.imp (fun S' hS => Exists.imp (fun f' (h : _ ∧ _) => ⟨(zcP_s h2).trans h.1, h.2⟩) hS) ?_
      cases g2 : gid i l with
      | none =>
        show ∃ S' f', (if ty_b false = 0 then _ else _) = _ ∧ _
        rw [tb0, if_pos b1]
        refine Exists.imp (fun S' hS => Exists.imp (fun f' (h : _ ∧ _) => ⟨(zcP_s h2).trans h.1, h.2⟩) hS) ?_
        rw [g2]
        show ∃ S' f', (if ty_b false = 0 then _ else _) = _ ∧ _
        rw [tb0]
        exact go S f (keep (by rw [(jsp i).2.1 x g1 g2, g1]))
      | some y =>
        show ∃ S' f', (if ty_b true = 0 then _ else _) = _ ∧ _
        rw [tb1, if_pos a1']
        refine Exists.imp (fun S' hS => Exists.imp (fun f' (h : _ ∧ _) => ⟨zlb_s.trans ((zob_s a3').trans h.1), h.2⟩) hS) ?_
        rw [if_pos (zal_27 a4').2, a5', if_pos (j_in (by omega) (by omega)), (j_n (n := i) (by omega)).2]
        refine Exists.imp (fun S' hS => Exists.imp (fun f' (h : _ ∧ _) => ⟨zlb_s.trans h.1, h.2⟩) hS) ?_
        rw [if_pos b1]
        refine Exists.imp (fun S' hS => Exists.imp (fun f' (h : _ ∧ _) => ⟨zlb_s.trans ((zob_s b3).trans h.1), h.2⟩) hS) ?_
        rw [if_pos (zal_27 b4).2, b5, if_pos (j_in (by omega) (by omega))]
        refine Exists.imp (fun S' hS => Exists.imp (fun f' (h : _ ∧ _) => ⟨zlb_s.trans h.1, h.2⟩) hS) ?_
        obtain ⟨y', gy, ry, sy⟩ := Rp_gid sl rl g2
        obtain ⟨x', gx, rx0, sx⟩ := Rp_gid sk rk g1
        obtain ⟨z, cki, jz, _⟩ := (jsp i).2.2 x y g1 g2
        have fi : f i = x' := i2 i (by omega) (Nat.le_refl _) x' gx
        obtain ⟨rx, px, _⟩ := i1 i (by omega) x (by rw [if_neg (Nat.lt_irrefl i)]; exact g1)
        rw [fi] at rx px
        have ryS : Rp S true y y' (fun _ => zAR S (b + 1) i) := by
          rw [hbs]
          exact Rp_fr y true (gid_so sl g2) y' _ ry (fun w hw => Mdf_lk md (by
            rw [List.mem_cons]
            exact fun z => z.elim (fun z => al (by rw [← z]; exact sy w hw)) (fun z => dkl w z (sy w hw))))
        have dqx := dq_gid sk g1
        obtain ⟨S1, z', c1, c2, c3, c4, c5⟩ := Jn_top (hc i x g1) (gid_so sl g2) (WK_get sl wl g2).2 rx ryS jz px (Spt_gid l sl l' _ y rl pl g2 gy) (fun w hw hw2 => dkl w (sx w hw) (sy w hw2)) (r := r) (d := d + 1) (by omega) (by omega) (by omega)
        rw [o1]
        refine Exists.imp (fun S' hS => Exists.imp (fun f' (h : _ ∧ _) => ⟨(zcV_s c1).trans h.1, h.2⟩) hS) ?_
        have ax : a ∉ ad true x' := fun h => ak (sx a h)
        have eA : zAR S1 (a + 1) = zAR S (a + 1) := c3.2.2.2.2.2.2.2.1 (a + 1) (fun c hc' e => ax (by rw [show a = c by omega]; exact hc'))
        have md1 : Mdf S0 S1 (a :: ad false k') := Mdf_t md c3 (fun w hw => hw) (fun w hw => List.mem_cons_of_mem _ (sx w hw))
        refine go _ (uf f i z') ⟨fun j hj w hz => ?_, fun j q1 q2 s hs => ?_, fun j hz => ?_, ⟨xb, i4, by rw [c3.2.2.2.1 7 a (Or.inr ax)]; exact i5, fun j hj => ?_⟩, md1⟩
        · by_cases e : j = i
          · subst e
            rw [if_pos (Nat.lt_succ_self _), cki] at hz
            cases hz
            rw [uf_s, eA]
            refine ⟨c2, c5, fun w hw => ?_⟩
            rcases c4 w hw with q | q
            · exact Or.inl ⟨x', gx, q⟩
            · exact Or.inr ⟨y', gy, q⟩
          · have hz' : (if j < i then gid j ck else gid j k) = some w := by
              by_cases q : j < i
              · rw [if_pos q]
                rw [if_pos (by omega)] at hz
                exact hz
              · rw [if_neg q]
                rw [if_neg (by omega)] at hz
                exact hz
            obtain ⟨k1, k2, k3⟩ := i1 j hj w hz'
            rw [uf_n e, eA]
            refine ⟨?_, k2, k3⟩
            have hso : So true w := by
              split at hz'
              · exact gid_so (Jm k false sk l ck sl (by assumption)).2.2.1 hz'
              · exact gid_so sk hz'
            refine Rp_fr w true hso (f j) _ k1 (fun v hv => Mdf_lk c3 (fun hx => ?_))
            rcases k3 v hv with ⟨s, hs, hx2⟩ | ⟨s, hs, hx2⟩
            · exact Spt_dis k sk k' _ rk pk e hs gx v hx2 hx
            · exact dkl v (sx v hx) (inL j s hs v hx2)
        · rw [uf_n (by omega)]
          exact i2 j q1 (by omega) s hs
        · by_cases e : j = i
          · subst e
            rw [if_pos (Nat.lt_succ_self _), cki] at hz
            cases hz
          · rw [eA]
            refine i3 j ?_
            by_cases q : j < i
            · rw [if_pos q]
              rw [if_pos (by omega)] at hz
              exact hz
            · rw [if_neg q]
              rw [if_neg (by omega)] at hz
              exact hz
        · rw [i6 j hj]
          by_cases e : j = i
          · subst e
            rw [if_neg (Nat.lt_irrefl _), if_pos (Nat.lt_succ_self _), cki, g1]
            rfl
          · by_cases q : j < i
            · rw [if_pos q, if_pos (by omega)]
            · rw [if_neg q, if_neg (by omega)]
end JL
