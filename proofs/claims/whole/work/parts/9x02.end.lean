section ST2
variable {n : Nat}
def StR9 (n : Nat) (t : Fo) : Prop := ∀ (S : hS) (sh : Fo) (G : Nat → Option Nat) (E : Option Nat) (r d m : Nat), Rp S true t sh G → Spt true sh → dq true t < r → d + dq true t ≤ 64 → nq true t + 12 ≤ m → nq true t + 12 ≤ n → ∃ S', yA_settle_9 (yA_settle n r) m S E (Int32.ofNat d) (G 0) = some S' ∧ Md9 9 S S' (ad true sh) ∧ BH S' true t sh E
theorem St_top {S : hS} {t sh : Fo} {G : Nat → Option Nat} {E : Option Nat} {r d : Nat} (h : StR9 n t) (r1 : Rp S true t sh G) (sp : Spt true sh) (hr : dq true t + 1 < r) (hd : d + dq true t ≤ 64) (hn : nq true t + 12 ≤ n) : ∃ S', yA_settle n r S (G 0) E (Int32.ofNat d) = some S' ∧ Md9 9 S S' (ad true sh) ∧ BH S' true t sh E := by
  obtain ⟨r, rfl⟩ : ∃ k, r = k + 1 := ⟨r - 1, by omega⟩
  rw [yA_settle, if_pos (show Int32.ofNat d ≤ 64 from (j_le (n := 64) (by omega) (by decide)).mpr (by omega))]
  exact h S sh G E r d n r1 sp (by omega) hd hn hn
theorem st_nil {S : hS} {E : Option Nat} {x : Int32} {r : Nat} (hr : 0 < r) (hn : 0 < n) : yA_settle n r S none E x = some S := by
  obtain ⟨r, rfl⟩ : ∃ k, r = k + 1 := ⟨r - 1, by omega⟩
  obtain ⟨n, rfl⟩ : ∃ k, n = k + 1 := ⟨n - 1, by omega⟩
  rw [yA_settle]
  split
  · rfl
  · rfl
theorem again_ok {S : hS} {a na : Nat} {k : Fo} (ha : Ndd S a na k) : yA_comesAgain S a = some (S, ty_b (kLp na)) := by
  unfold yA_comesAgain
  rw [if_pos ha.1, ha.2.1.1]
  unfold kLp
  have hk : cK na < 16 := Nat.mod_lt _ (by decide)
  revert hk
  generalize cK na = c
  intro hk
  have : ∀ c, c < 16 → (if Int32.ofNat c = 7 then some (S, (1 : Int32)) else if Int32.ofNat c = 8 then some (S, 1) else some (S, 0)) = some (S, ty_b (decide (c = 7) || decide (c = 8))) := by
    intro c hc
    rcases (by omega : c = 0 ∨ c = 1 ∨ c = 2 ∨ c = 3 ∨ c = 4 ∨ c = 5 ∨ c = 6 ∨ c = 7 ∨ c = 8 ∨ c = 9 ∨ c = 10 ∨ c = 11 ∨ c = 12 ∨ c = 13 ∨ c = 14 ∨ c = 15) with rfl | rfl | rfl | rfl | rfl | rfl | rfl | rfl | rfl | rfl | rfl | rfl | rfl | rfl | rfl | rfl <;> rfl
  exact this c hk
theorem stl {a na : Nat} {k k' : Fo} {r d : Nat} {B : Option Nat} {rec9 : hS → Option Nat → Int32 → Option Nat → Option hS} (sk : So false k) (ta : ∀ i x, gid i k = some x → i < pof (cK na)) (sp : Spt false k') (hc : ∀ i x, gid i k = some x → StR9 n x) (hr : dq false k < r) (hd : d + dq false k ≤ 64) (hn : nq false k + 12 ≤ n) : ∀ (e i m : Nat) (S : hS), Ndd S a na k → Rp S false k k' (zAR S (a + 1)) → a ∉ ad false k' → i + e = pof (cK na) → (∀ j x x', j < i → gid j k = some x → gid j k' = some x' → BH S true x x' (if kLp na = true then some a else zR S 9 a)) → ∃ S', yA_settle_35 (yA_settle n r) rec9 (m + 1 + e) S B (Int32.ofNat d) (some a) (Int32.ofNat i) = rec9 S' B (Int32.ofNat d) (zR S' 8 a) ∧ Md9 9 S S' (ad false k') ∧ BH S' false k k' (if kLp na = true then some a else zR S' 9 a)
  | 0, i, m, S, ha, rk, hna, hi, hb => by
    have hp := pof_le (cK na)
    refine ⟨S, ?_, Md9_r, BH_of k sk k' _ rk (fun j x x' e1 e2 => hb j x x' (by have := ta j x e1; omega) e1 e2)⟩
    obtain ⟨a1, _, a3, a4, a5, _⟩ := ha
    rw [Nat.add_zero, yA_settle_35]
    refine (zob_s rfl).trans ?_
    rw [if_pos a1]
    refine zlb_s.trans ((zob_s a3).trans ?_)
    rw [if_pos (zal_27 a4).1, a5, if_pos ((j_le (by omega) (by omega)).mpr (by omega))]
    rfl
  | e + 1, i, m, S, ha, rk, hna, hi, hb => by
    have hp := pof_le (cK na)
    have hag := again_ok ha
    have ha' := ha
    obtain ⟨a1, _, a3, a4, a5, _, a7⟩ := ha
    have step : ∃ S1, Md9 9 S S1 (ad false k') ∧ (∀ x x', gid i k = some x → gid i k' = some x' → BH S1 true x x' (if kLp na = true then some a else zR S 9 a)) ∧ (∀ z, (∀ x', gid i k' = some x' → z ∉ ad true x') → zR S1 9 z = zR S 9 z) ∧ yA_settle n r S (zAR S (a + 1) i) (if kLp na = true then some a else zR S 9 a) (Int32.ofNat (d + 1)) = some S1 := by
      cases g : gid i k with
      | none =>
        refine ⟨S, Md9_r, (fun _ _ h => nomatch h), fun _ _ => rfl, ?_⟩
        rw [a7 i g]
        exact st_nil (by omega) (by omega)
      | some x =>
        obtain ⟨x', gx, rx, hx⟩ := Rp_gid sk rk g
        have dqx := dq_gid sk g
        obtain ⟨S1, e1, e2, e3⟩ := St_top (hc i x g) rx (Spt_gid k sk k' _ x rk sp g gx) (r := r) (d := d + 1) (E := if kLp na = true then some a else zR S 9 a) (by omega) (by omega) (by omega)
        refine ⟨S1, Md9_m e2 hx, fun y y' h1 h2 => ?_, fun z hz => Md9_R e2 (Or.inr (hz x' gx)), e1⟩
        cases h1
        rw [gx] at h2
        cases h2
        exact e3
    obtain ⟨S1, m1, b1, z1, c1⟩ := step
    have hz9 : zR S1 9 a = zR S 9 a := Md9_R m1 (Or.inr hna)
    obtain ⟨S2, e1, e2, e3⟩ := stl sk ta sp hc hr hd hn (rec9 := rec9) (B := B) (a := a) (na := na) (r := r) (d := d) e (i + 1) m S1 (Ndd_m9 ha' m1) (by rw [Md9_A m1]; exact Rp_m9 sk rk m1) hna (by omega) (fun j x x' hj h1 h2 => by
      rw [hz9]
      by_cases q : j = i
      · subst q
        exact b1 x x' h1 h2
      · have hb1 := hb j x x' (by omega) h1 h2
        obtain ⟨y', gy, ry, hy⟩ := Rp_gid sk rk h1
        rw [h2] at gy
        cases gy
        refine BH_fr x true (gid_so sk h1) x' _ _ ry hb1 (fun z hzz => ⟨Md9_R m1 (Or.inl (by decide)), z1 z (fun w hw hc' => Spt_dis k sk k' _ rk sp (fun e => q e) h2 hw z hzz hc')⟩))
    refine ⟨S2, ?_, Md9_t m1 e2 (fun _ h => h) (fun _ h => h), e3⟩
    rw [← e1, ← Nat.add_assoc, yA_settle_35]
    refine (zob_s rfl).trans ?_
    rw [if_pos a1]
    refine zlb_s.trans ((zob_s a3).trans ?_)
    rw [if_pos (zal_27 a4).1, a5, if_neg (mt (j_le (by omega) (by omega)).mp (by omega))]
    refine zlb_s.trans ((zob_s a3).trans ?_)
    rw [if_pos (zal_27 a4).2, a5, if_pos (j_in (by omega) (by omega)), (j_n (n := i) (by omega)).2]
    refine zlb_s.trans ((zcP_s hag).trans ?_)
    cases hl : kLp na with
    | false =>
      rw [hl] at c1
      show (if ty_b false = 0 then _ else _) = _
      rw [tb0, if_pos a1]
      refine zlb_s.trans ?_
      rw [o1]
      refine (zcV_s c1).trans ?_
      rw [o1]
    | true =>
      rw [hl] at c1
      show (if ty_b true = 0 then _ else _) = _
      rw [tb1, o1]
      refine (zcV_s c1).trans ?_
      rw [o1]
theorem st_all : ∀ (t : Fo) (m : Bool), So m t → WK m t → (m = true → StR9 n t) ∧ (m = false → ∀ i x, gid i t = some x → StR9 n x) := So_ind (P := fun m t => WK m t → (m = true → StR9 n t) ∧ (m = false → ∀ i x, gid i t = some x → StR9 n x)) (fun m _ => ⟨fun _ S sh G E r d m r1 sp _ _ hm _ => by
      obtain ⟨m, rfl⟩ : ∃ k, m = k + 1 := ⟨m - 1, by omega⟩
      rw [yA_settle_9, (Rp_n r1).2 rfl]
      cases (Rp_n r1).1
      exact ⟨S, rfl, Md9_r, trivial⟩, fun _ i x h => by cases h⟩) (fun m na k r0 h1 h2 h3 ihk ihr hw => by
    cases m with
    | true =>
      refine ⟨fun _ S sh G E r d m r1 sp hr hd hm hn => ?_, fun z => Bool.noConfusion z⟩
      obtain ⟨v1, v2, v3, v4⟩ := hw
      have e1 : dq true (cn na k r0) = max (dq false k) (dq true r0) := rfl
      have e2 : nq true (cn na k r0) = 1 + nq false k + nq true r0 := rfl
      obtain ⟨m, rfl⟩ : ∃ j, m = j + 1 := ⟨m - 1, by omega⟩
      obtain ⟨a, k', r', rfl, g1, nda, rk, rr⟩ := Rp_r r1
      obtain ⟨p1, p2, p3, p4⟩ := sp
      have hp := pof_le (cK na)
      obtain ⟨m', hm'⟩ : ∃ m', m = m' + 1 + pof (cK na) := ⟨m - pof (cK na) - 1, by omega⟩
      have key : ∀ v, v = (match zR S 8 a with | none => E | some b => some b) → ∃ S', yA_settle_35 (yA_settle n r) (yA_settle_9 (yA_settle n r) m) m (szR S 9 a v) E (Int32.ofNat d) (some a) 0 = some S' ∧ Md9 9 S S' (ad true (cn a k' r')) ∧ BH S' true (cn na k r0) (cn a k' r') E := by
        intro v hv
        have m0 : Md9 9 S (szR S 9 a v) [a] := Md9_s
        have ndA : a ∉ ad false k' := fun z => (p3 a z).1 rfl
        obtain ⟨S1, c1, m1, b1⟩ := stl (n := n) (r := r) (d := d) (B := E) (rec9 := yA_settle_9 (yA_settle n r) m) h1 (fun i x hg => tag_lt v1 v2 v3 h1 hg) p1 ((ihk v3).2 rfl) (by omega) (by omega) (by omega) (pof (cK na)) 0 m' (szR S 9 a v) (Ndd_m9 nda m0) (Rp_m9 h1 rk m0) ndA (Nat.zero_add _) (fun j x x' hj => by omega)
        have m01 := Md9_t (L3 := a :: ad false k') m0 m1 (fun x hx => by rw [List.mem_singleton.mp hx]; exact List.mem_cons_self) (fun x hx => List.mem_cons_of_mem _ hx)
        have r8 : zR S1 8 a = zR S 8 a := Md9_R m01 (Or.inl (by decide))
        have r9 : zR S1 9 a = v := (Md9_R m1 (Or.inr ndA)).trans (zR_self _ _ _ _)
        obtain ⟨S2, c2, m2, b2⟩ := (ihr v4).1 rfl S1 r' (fun _ => zR S1 8 a) E r d m (by rw [r8]; exact Rp_m9 h2 rr m01) p2 (by omega) (by omega) (by omega) (by omega)
        refine ⟨S2, ?_, Md9_t m01 m2 (fun x hx => ?_) (fun x hx => List.mem_cons_of_mem _ (List.mem_append_right _ hx)), ?_, ?_, b2⟩
        · rw [hm'] at c1 ⊢
          rw [hm'] at c2
          exact c1.trans c2
        · rcases List.mem_cons.mp hx with rfl | hx
          · exact List.mem_cons_self
          · exact List.mem_cons_of_mem _ (List.mem_append_left _ hx)
        · rw [Md9_R m2 (k := 8) (b := a) (Or.inl (by decide)), Md9_R m2 (k := 9) (b := a) (Or.inr p4), r9, r8]
          exact hv
        · rw [Md9_R m2 (Or.inr p4)]
          exact BH_fr k false h1 k' _ _ (Rp_m9 h1 rk m01) b1 (fun x hx => ⟨Md9_R m2 (Or.inl (by decide)), Md9_R m2 (Or.inr (p3 x hx).2)⟩)
      rw [yA_settle_9, g1]
      show ∃ S', (if ztg S a = 2 then _ else none) = _ ∧ _
      rw [if_pos nda.1]
      cases h8 : zR S 8 a with
      | none =>
        obtain ⟨S', c, x⟩ := key E (by rw [h8])
        exact ⟨S', c, x⟩
      | some b =>
        obtain ⟨S', c, x⟩ := key (some b) (by rw [h8])
        refine ⟨S', ?_, x⟩
        exact c
    | false =>
      refine ⟨fun z => Bool.noConfusion z, fun _ i x hi => ?_⟩
      rw [gid_cn] at hi
      split at hi
      · cases hi
        exact (ihk hw.2.1).1 rfl
      · exact (ihr hw.2.2).2 rfl i x hi)
theorem settle_ok {S : hS} {t sh : Fo} {G : Nat → Option Nat} {E : Option Nat} (s1 : So true t) (w1 : WK true t) (r1 : Rp S true t sh G) (sp : Spt true sh) (hd : dq true t ≤ 64) (hn : nq true t + 12 ≤ n) : ∃ S', yA_settle n 67 S (G 0) E 0 = some S' ∧ Md9 9 S S' (ad true sh) ∧ BH S' true t sh E := St_top ((st_all t true s1 w1).1 rfl) r1 sp (by omega) (by rw [Nat.zero_add]; exact hd) hn
end ST2
