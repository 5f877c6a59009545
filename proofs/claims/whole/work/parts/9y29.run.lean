def StA (S : hS) (p : Nat) (K : Nat → Fo) : Prop := ∃ S1 I B ans k, (∃ N, ∀ m, N ≤ m → yT_takeTurn m S 2 (Int32.ofNat p) = some (S1, ans) ∧ x_stepOf m (zM0 S) (zMA S) (Int32.ofNat p) = some (I, B, ans)) ∧ k < 36 ∧ Chg p k S S1 ∧ ChR p k (zM0 S) I (zMA S) B ∧ (∃ Q' Kr', RnS (szM S1 I B) K Q' Kr') ∧ (∀ i, i < 24 → zAI S1 6 i = B 34 i) ∧ (zI S1 5 2 = I 18 ∧ (I 18 = 0 ∨ I 18 = 1)) ∧ (I 18 = 0 → S1 = S ∧ B = zMA S) ∧ (ans = 0 ∨ ans = 1 ∨ ans = 2)
section C9
variable {S y : hS} {p k j a n : Nat} {I I' : Nat → Int32} {B : Nat → Nat → Int32} {K Kr : Nat → Fo} {Q : Nat → Nat → List Nat} {T la : List Nat} {w : Int32} {ks r ks' r' x : Fo} {L' : List (Fo × Fo)} {E : Option Nat} {X : Nat → Option xR}
theorem RnS_s (hx : Fix y) (h : RnS (szM y I' B) K Q Kr) (e : I 17 = I' 17) : RnS (szM (szI y 5 2 w) I B) K Q Kr := by
  obtain ⟨h1, h2, h3⟩ := h
  have hf : HF (szM y I' B) (szM (szI y 5 2 w) I B) := fun x hx2 _ => by
    have n3 : x ≠ 2 := fun e' => by
      have : ztg y 2 = 2 := by rw [e'] at hx2; exact hx2
      rw [hx.2.2.1.1] at this
      omega
    exact ⟨⟨fun m => zI_ne (S := y) n3, rfl, rfl, rfl, rfl, rfl, rfl, rfl⟩, rfl⟩
  refine ⟨QQ_same (S := szM y I' B) h1 (zI_k (by decide)) e (fun k _ m => ?_) (fun _ _ => ⟨rfl, rfl⟩) ⟨rfl, rfl, rfl⟩, h2, fun p hp => ⟨(h3 p hp).1, Pty_fr hf rfl (fun m => ?_) rfl rfl rfl (h3 p hp).2⟩⟩
  · show zI (szI y 5 2 w) m (25 + 3 * k) = zI y m (25 + 3 * k)
    exact zI_ne (by omega)
  · show zI (szI y 5 2 w) m (7 + 3 * p) = zI y m (7 + 3 * p)
    exact zI_ne (by omega)
theorem wrap {c : Nat} (hx : Fix S) (hz : zI S 5 2 = zM0 S 18 ∧ (zM0 S 18 = 0 ∨ zM0 S 18 = 1)) (hp : p < 6) (h2 : zR S 2 (7 + 3 * p) = some a) (ht : TX (zMA S) p T) (h36 : zMA S 36 p = Int32.ofNat j) (hs : Sfx T j (c :: la)) (hX : X = if c = 33 then (fun m => x_stepTell m (zM0 S) (zMA S) (Int32.ofNat p) (Int32.ofNat j)) else if c = 63 then (fun m => x_stepChoice m (zM0 S) (zMA S) (Int32.ofNat p) (Int32.ofNat j)) else if c = 64 then (fun m => x_stepRound m (zM0 S) (zMA S) (Int32.ofNat p) (Int32.ofNat j)) else if ptc c = true then (fun m => x_stepMessage m (zM0 S) (zMA S) (Int32.ofNat p) (Int32.ofNat j)) else (fun m => x_stepValue m (zM0 S) (zMA S) (Int32.ofNat p) (Int32.ofNat j))) (hO : OutS S p K (fun m => yT_goOn m S 2 (Int32.ofNat p) (some a)) X) : StA S p K := by
  obtain ⟨y, I, B, ans, k, ⟨N, hN⟩, hk, c1, cr, hans, ⟨Q', Kr', hR'⟩, hv, h5, h18, hs0⟩ := hO
  have hy : Fix y := Chg_fix c1 hx
  have tk := fun m (hm : N ≤ m) => turn_ok (m := m) hx hp hans h2 (hN m hm).1 hy.2.2.1.1
  have so := fun m (hm : N ≤ m) => sof (m := m) ht h36 hs hX hz.2 hans h18 (hN m hm).2
  have crI : ∀ v, ChR p k (zM0 S) (upd I 18 v) (zMA S) B := fun v => ⟨fun j a b c => by rw [upd_n a]; exact cr.1 j a b c, cr.2⟩
  rcases hans with rfl | rfl
  · obtain ⟨e1, e2⟩ := hs0 rfl
    subst e1
    have id : szI y 5 2 (zI y 5 2) = y := szI_id rfl
    refine ⟨y, upd I 18 (zM0 y 18), B, 0, k, ⟨N, fun m hm => ⟨?_, ?_⟩⟩, hk, c1, crI _, ⟨Q', Kr', ?_⟩, hv, ⟨by rw [upd_s]; exact hz.1, by rw [upd_s]; exact hz.2⟩, fun _ => ⟨rfl, e2⟩, Or.inl rfl⟩
    · rw [tk m hm, if_pos rfl]
    · rw [so m hm, if_neg (by decide)]
    · rw [← id]
      exact RnS_s hy hR' (upd_n (by decide))
  · refine ⟨szI y 5 2 1, upd I 18 1, B, 1, k, ⟨N, fun m hm => ⟨?_, ?_⟩⟩, hk, Chg_t c1 Chg_T, crI _, ⟨Q', Kr', RnS_s hy hR' (upd_n (by decide))⟩, hv, ⟨by rw [upd_s, zI_self], by rw [upd_s]; exact Or.inr rfl⟩, fun e => by rw [upd_s] at e; exact absurd e (by decide), Or.inr (Or.inl rfl)⟩
    · rw [tk m hm, if_neg (by decide)]
    · rw [so m hm, if_pos rfl]
theorem step_all (hx : Fix S) (hv6 : ∀ i, i < 24 → zAI S 6 i = zMA S 34 i) (hz : zI S 5 2 = zM0 S 18 ∧ (zM0 S 18 = 0 ∨ zM0 S 18 = 1)) (hR : RnS S K Q Kr) (hp : p < 6) : StA S p K := by
  obtain ⟨ht, L, j, hw, hst, h36, htp, hal⟩ := hR.2.2 p hp
  rcases hal with ⟨h3, h37, hrem⟩ | ⟨n, ks, r, sh, L', x, b, i, pos, w', rfl, hk, hq, z3, hb, z4, b38, hi, hbit, z5, b37, hsp, hpos, hrem⟩
  · rcases Stk_norm L _ hw hst htp with ⟨h2, _, hj⟩ | ⟨a, n, ks, r, ks', r', L', E, h2, nd, hr, hwL, la, hs, hl, he⟩
    · refine ⟨S, zM0 S, zMA S, 2, 0, ⟨0, fun m _ => ⟨turn_e hx hp h2, ?_⟩⟩, by decide, Chg_r, ChR_r, ⟨Q, Kr, RnS_I hx hR rfl⟩, hv6, hz, fun _ => ⟨rfl, rfl⟩, Or.inr (Or.inr rfl)⟩
      have hl := ht.2.2.2.1
      unfold x_stepOf
      rw [if_pos (j_in (by omega) hp), (j_n (n := p) (by omega)).2, h36, ht.2.1, if_neg (mt (j_lt (by omega) (by omega)).mp (by omega))]
    · have hAt : AtN S p (tx 0 (K p)) a n ks r ks' r' L' E j la := ⟨hp, ht, nd, hwL, hs, hl, he, h36, h2⟩
      obtain ⟨s0, w0⟩ := hwL _ List.mem_cons_self
      obtain ⟨w1, w2, w3, w4⟩ := w0
      obtain ⟨c, l, hc, c1, c2, c3, c4, c6, c7⟩ := hd_c w1
      have hs' : Sfx (tx 0 (K p)) j (c :: (l ++ (tx (if cK n = 5 then 1 else 2) ks ++ tx 0 r) ++ la)) := by
        rw [show tx 0 (cn n ks r) = _ from tx_cn, hc] at hs
        exact hs
      have hK : Kr p = cn n ks (ap r (remL L')) := hrem.trans hr
      have go : ∀ X, X = (if c = 33 then (fun m => x_stepTell m (zM0 S) (zMA S) (Int32.ofNat p) (Int32.ofNat j)) else if c = 63 then (fun m => x_stepChoice m (zM0 S) (zMA S) (Int32.ofNat p) (Int32.ofNat j)) else if c = 64 then (fun m => x_stepRound m (zM0 S) (zMA S) (Int32.ofNat p) (Int32.ofNat j)) else if ptc c = true then (fun m => x_stepMessage m (zM0 S) (zMA S) (Int32.ofNat p) (Int32.ofNat j)) else (fun m => x_stepValue m (zM0 S) (zMA S) (Int32.ofNat p) (Int32.ofNat j))) → OutS S p K (fun m => yT_goOn m S 2 (Int32.ofNat p) (some a)) X → StA S p K := fun X hX hO => wrap hx hz hp h2 ht h36 hs' hX hO
      have kk : cK n = 1 ∨ cK n = 2 ∨ cK n = 3 ∨ cK n = 4 ∨ cK n = 5 ∨ cK n = 6 ∨ cK n = 7 ∨ cK n = 8 := by
        rcases w1 with ⟨k, _⟩ | ⟨k, _⟩ | ⟨k, _⟩ | ⟨k, _⟩ | ⟨k, _⟩ | ⟨k, _⟩ | ⟨k, _⟩ | ⟨k, _⟩ <;> omega
      rcases kk with k | k | k | k | k | k | k | k
      · obtain ⟨u1, u2, u3, u4⟩ := c1 k
        exact go _ (by rw [if_neg u1, if_neg u2, if_neg u3, if_neg (by rw [u4]; decide)]) (case_1 hx hv6 hR hAt h3 h37 hK k)
      · obtain ⟨u1, u2, u3, u4⟩ := c2 k
        exact go _ (by rw [if_neg u1, if_neg u2, if_neg u3, if_neg (by rw [u4]; decide)]) (case_2 hx hv6 hR hAt h3 hK k)
      · obtain ⟨u1, u2, u3, u4⟩ := c3 (Or.inl k)
        exact go _ (by rw [if_neg u1, if_neg u2, if_neg u3, if_pos u4]) (case_3 hx hv6 hR hAt h3 hK k)
      · exact go _ (by rw [if_pos (c4 k)]) (case_4 hx hv6 hR hAt h3 hK k)
      · obtain ⟨u1, u2, u3, u4⟩ := c3 (Or.inr (Or.inl k))
        exact go _ (by rw [if_neg u1, if_neg u2, if_neg u3, if_pos u4]) (case_5 hx hv6 hR hAt h3 hK k)
      · exact go _ (by rw [c6 k, if_neg (by decide), if_pos rfl]) (case_6 hx hv6 hR hAt h3 hK k)
      · exact go _ (by rw [c7 k, if_neg (by decide), if_neg (by decide), if_pos rfl]) (case_7a hx hv6 hR hAt h3 h37 hK k)
      · obtain ⟨u1, u2, u3, u4⟩ := c3 (Or.inr (Or.inr k))
        exact go _ (by rw [if_neg u1, if_neg u2, if_neg u3, if_pos u4]) (case_8 hx hv6 hR hAt h3 hK k)
  · obtain ⟨ks', r', E, a, rfl, h2, nd⟩ := Stk_nd hst
    obtain ⟨s0, w0⟩ := hw _ List.mem_cons_self
    have htp' : ∃ la, Sfx (tx 0 (K p)) j (tx 0 (cn n ks r) ++ la) ∧ Edr la ∧ EndK (tx 0 (K p)) (j + (tx 0 (cn n ks r)).length) (L'.map Prod.fst) := by
      rcases htp with ⟨e, _⟩ | ⟨_, _, _, la, e1, e2, e3⟩
      · cases e
      · exact ⟨la, e1, e2, e3⟩
    obtain ⟨la, hs, hl, he⟩ := htp'
    have hAt : AtN S p (tx 0 (K p)) a n ks r ks' r' L' E j la := ⟨hp, ht, nd, hw, hs, hl, he, h36, h2⟩
    have hO := case_7b hx hv6 hR hAt hk hq z3 hb z4 b38 hi hbit z5 b37 hsp hpos hrem
    have hs' : Sfx (tx 0 (K p)) j (64 :: ((xt (cE n) ++ ldl (cD n)) ++ (tx (if cK n = 5 then 1 else 2) ks ++ tx 0 r) ++ la)) := by
      rw [show tx 0 (cn n ks r) = _ from tx_cn, hv_7 hk] at hs
      exact hs
    exact wrap hx hz hp h2 ht h36 hs' (by rw [if_neg (by decide), if_neg (by decide), if_pos rfl]) hO
end C9
