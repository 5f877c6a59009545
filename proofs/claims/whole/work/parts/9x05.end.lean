theorem gek_0 {k : Fo} (h : So false k) : gek 0 k = k := by
  rcases So_cs h with rfl | ⟨n, x, r, rfl, _⟩
  · rfl
  · show (if n < 0 then _ else _) = _
    exact if_neg (Nat.not_lt_zero _)
theorem gek_s {i : Nat} {x : Fo} : ∀ (k : Fo), So false k → gid i k = some x → gek i k = cn i x (gek (i + 1) k) := fun k hk => So_ind (P := fun m k => m = false → gid i k = some x → gek i k = cn i x (gek (i + 1) k)) (fun _ _ h => by cases h) (fun m j y r h1 h2 h3 _ ih hm hg => by
    subst hm
    rw [gid_cn] at hg
    show (if j < i then gek i r else cn j y r) = cn i x (if j < i + 1 then gek (i + 1) r else cn j y r)
    by_cases e : i = j
    · subst e
      rw [if_pos rfl] at hg
      cases hg
      rw [if_neg (Nat.lt_irrefl _), if_pos (Nat.lt_succ_self _), gek_id h2 (h3 rfl)]
    · rw [if_neg e] at hg
      have hl : j < i := Nat.lt_of_not_le (fun z => by rw [gid_lo h2 (show i < j + 1 by omega) (h3 rfl)] at hg; cases hg)
      rw [if_pos hl, if_pos (by omega)]
      exact ih rfl hg) k false hk rfl
theorem gek_z {i : Nat} : ∀ (k : Fo), So false k → gid i k = none → gek i k = gek (i + 1) k := fun k hk => So_ind (P := fun m k => m = false → gid i k = none → gek i k = gek (i + 1) k) (fun _ _ _ => rfl) (fun m j y r h1 h2 h3 _ ih hm hg => by
    subst hm
    rw [gid_cn] at hg
    show (if j < i then gek i r else cn j y r) = (if j < i + 1 then gek (i + 1) r else cn j y r)
    by_cases e : i = j
    · subst e
      rw [if_pos rfl] at hg
      cases hg
    · rw [if_neg e] at hg
      by_cases q : j < i
      · rw [if_pos q, if_pos (by omega)]
        exact ih rfl hg
      · rw [if_neg q, if_neg (by omega)]) k false hk rfl
theorem gek_e {N : Nat} {k : Fo} (h : So false k) (ht : ∀ i x, gid i k = some x → i < N) : gek N k = .nil := by
  rcases So_cs (gek_so (n := N) h).1 with e | ⟨j, y, r, e, _⟩
  · exact e
  · have g := (gek_so (n := N) h).2.2.2 j
    have g2 := (gek_so (n := N) h).2.1
    rw [e] at g g2
    rw [gid_cn, if_pos rfl, if_pos g2.1] at g
    have := ht j y g.symm
    have := g2.1
    omega
section WR3
variable {n th b : Nat}
def WrR (n th b : Nat) (t : Fo) : Prop := ∀ (S : hS) (sh : Fo) (G : Nat → Option Nat) (r d m : Nat) (L : List Nat), Rp S true t sh G → XT S th b L → L.length + (tx 0 t).length ≤ 600 → dq true t ≤ r → d + dq true t ≤ 64 → nq true t + 25 ≤ m → nq true t + 25 ≤ n → WRs th b S L (yX_writeRow_9 th (yX_writeRow n r) m S (Int32.ofNat d) (G 0)) (tx 0 t)
theorem Wr_top {S : hS} {L : List Nat} {t sh : Fo} {G : Nat → Option Nat} {r d : Nat} (h : WrR n th b t) (r1 : Rp S true t sh G) (x : XT S th b L) (hl : L.length + (tx 0 t).length ≤ 600) (hr : dq true t < r) (hd : d + dq true t ≤ 64) (hn : nq true t + 25 ≤ n) : WRs th b S L (yX_writeRow n r S th (G 0) (Int32.ofNat d)) (tx 0 t) := by
  obtain ⟨r, rfl⟩ : ∃ k, r = k + 1 := ⟨r - 1, by omega⟩
  rw [yX_writeRow, if_pos (show Int32.ofNat d ≤ 64 from (j_le (n := 64) (by omega) (by decide)).mpr (by omega))]
  exact h S sh G r d n L r1 x hl (by omega) hd hn hn
theorem tx_5 {i : Nat} {x r : Fo} : tx 1 (cn i x r) = [48 + i] ++ ([123] ++ (tx 0 x ++ ([125] ++ tx 1 r))) := rfl
theorem tx_6 {i : Nat} {x r : Fo} : tx 2 (cn i x r) = [123] ++ (tx 0 x ++ ([125] ++ tx 2 r)) := rfl
theorem wrl {a na : Nat} {k k' : Fo} {r d : Nat} {T : List Nat} {rec9 : hS → Int32 → Option Nat → Option hS} (sk : So false k) (ta : ∀ i x, gid i k = some x → i < pof (cK na)) (hc : ∀ i x, gid i k = some x → WrR n th b x) (hr : dq false k ≤ r) (hd : d + dq false k ≤ 64) (hn : nq false k + 25 ≤ n) : ∀ (e i m : Nat) (S : hS) (L : List Nat), Ndd S a na k → Rp S false k k' (zAR S (a + 1)) → XT S th b L → i + e = pof (cK na) → L.length + (tx (if cK na = 5 then 1 else 2) (gek i k)).length ≤ 600 → (∀ S' L', MdX th b S S' → L' = L ++ tx (if cK na = 5 then 1 else 2) (gek i k) → XT S' th b L' → WRs th b S' L' (rec9 S' (Int32.ofNat d) (zR S' 8 a)) T) → WRs th b S L (yX_writeRow_21 th (yX_writeRow n r) rec9 (m + 1 + e) S (Int32.ofNat d) (some a) (Int32.ofNat i)) (tx (if cK na = 5 then 1 else 2) (gek i k) ++ T)
  | 0, i, m, S, L, ha, rk, h, hi, hl, hrec => by
    have hp := pof_le (cK na)
    obtain ⟨a1, _, a3, a4, a5, _⟩ := ha
    have hz : gek i k = .nil := by
      rw [show i = pof (cK na) by omega]
      exact gek_e sk ta
    have ht : tx (if cK na = 5 then 1 else 2) (gek i k) = [] := by
      rw [hz]
      split <;> rfl
    rw [ht] at hrec ⊢
    have := hrec S L MdX_r (by rw [List.append_nil]) h
    refine (congrArg (fun x => WRs th b S L x T) ?_).mp this
    rw [Nat.add_zero, yX_writeRow_21]
    refine Eq.symm ((zob_s rfl).trans ?_)
    rw [if_pos a1]
    refine zlb_s.trans ((zob_s a3).trans ?_)
    rw [if_pos (zal_27 a4).1, a5, if_pos ((j_le (by omega) (by omega)).mpr (by omega))]
    rfl
  | e + 1, i, m, S, L, ha, rk, h, hi, hl, hrec => by
    have hp := pof_le (cK na)
    have hax := nd_th ha h.1
    have h1 := has_ok ha ta (show i < 10 by omega)
    have ha' := ha
    obtain ⟨a1, ⟨c1, _⟩, a3, a4, a5, _⟩ := ha
    have st0 : ∀ X, (if ty_b (gid i k).isSome = 0 then (yX_writeRow_21 th (yX_writeRow n r) rec9 (m + 1 + e) S (Int32.ofNat d) (some a) (Int32.ofNat i + 1)) else (if ztg S a = 2 then (if zI S 0 a = 5 then (if ztg S th = 4 then (zcV (yX_put S th 48 (Int32.ofNat i)) fun S6 => (yX_writeRow_56 th (yX_writeRow n r) rec9 (yX_writeRow_21 th (yX_writeRow n r) rec9 (m + 1 + e)) (m + 1 + e) S6 (Int32.ofNat d) (some a) (Int32.ofNat i))) else none) else (yX_writeRow_56 th (yX_writeRow n r) rec9 (yX_writeRow_21 th (yX_writeRow n r) rec9 (m + 1 + e)) (m + 1 + e) S (Int32.ofNat d) (some a) (Int32.ofNat i))) else none)) = X → yX_writeRow_21 th (yX_writeRow n r) rec9 (m + 1 + (e + 1)) S (Int32.ofNat d) (some a) (Int32.ofNat i) = X := by
      intro X hX
      rw [← hX, ← Nat.add_assoc, yX_writeRow_21]
      refine (zob_s rfl).trans ?_
      rw [if_pos a1]
      refine zlb_s.trans ((zob_s a3).trans ?_)
      rw [if_pos (zal_27 a4).1, a5, if_neg (mt (j_le (by omega) (by omega)).mp (by omega))]
      exact zcP_s h1
    rw [st0 _ rfl]
    cases g : gid i k with
    | none =>
      rw [gek_z k sk g] at hl hrec ⊢
      show WRs th b S L (if ty_b false = 0 then _ else _) _
      rw [tb0, o1]
      exact wrl sk ta hc hr hd hn e (i + 1) m S L ha' rk h (by omega) hl hrec
    | some x =>
      show WRs th b S L (if ty_b true = 0 then _ else _) _
      rw [tb1, if_pos a1]
      rw [gek_s k sk g] at hl hrec ⊢
      obtain ⟨x', gx, rx, hx⟩ := Rp_gid sk rk g
      have dqx := dq_gid sk g
      have body : ∀ (S1 : hS) (L1 : List Nat), MdX th b S S1 → XT S1 th b L1 → L1.length + (1 + ((tx 0 x).length + (1 + (tx (if cK na = 5 then 1 else 2) (gek (i + 1) k)).length))) ≤ 600 → L1 ++ ([123] ++ (tx 0 x ++ ([125] ++ tx (if cK na = 5 then 1 else 2) (gek (i + 1) k)))) = L ++ tx (if cK na = 5 then 1 else 2) (cn i x (gek (i + 1) k)) → WRs th b S1 L1 (yX_writeRow_56 th (yX_writeRow n r) rec9 (yX_writeRow_21 th (yX_writeRow n r) rec9 (m + 1 + e)) (m + 1 + e) S1 (Int32.ofNat d) (some a) (Int32.ofNat i)) ([123] ++ (tx 0 x ++ ([125] ++ (tx (if cK na = 5 then 1 else 2) (gek (i + 1) k) ++ T)))) := by
        intro S1 L1 m1 t1 hl1 heq
        unfold yX_writeRow_56
        rw [if_pos t1.1]
        refine wr_b (wr_p t1 rfl (by decide) (by omega)) (fun S2 m2 t2 => ?_)
        have m12 := MdX_t m1 m2
        have nd2 := Ndd_mX ha' m12 hax
        have r2 := Rp_mX sk rk m12 h.1
        obtain ⟨b1, _, b3, b4, b5, _⟩ := nd2
        refine (congrArg (fun z => WRs th b S2 (L1 ++ [123]) z _) (zob_s rfl)).mpr ?_
        rw [if_pos b1]
        refine (congrArg (fun z => WRs th b S2 (L1 ++ [123]) z _) (zlb_s.trans (zob_s b3))).mpr ?_
        rw [if_pos (zal_27 b4).2, b5, if_pos (j_in (by omega) (by omega)), (j_n (n := i) (by omega)).2]
        refine (congrArg (fun z => WRs th b S2 (L1 ++ [123]) z _) zlb_s).mpr ?_
        rw [if_pos t2.1, o1]
        refine wr_b (T1 := tx 0 x) (Wr_top (hc i x g) (G := fun _ => zAR S2 (a + 1) i) (by rw [MdX_A m12]; exact Rp_mX (gid_so sk g) rx m12 h.1) t2 (by rw [la]; show L1.length + 1 + _ ≤ _; omega) (by omega) (by omega) (by omega)) (fun S3 m3 t3 => ?_)
        rw [if_pos t3.1]
        refine wr_b (wr_p t3 rfl (by decide) (by rw [la, la]; show L1.length + 1 + _ < _; omega)) (fun S4 m4 t4 => ?_)
        have m14 := MdX_t m12 (MdX_t m3 m4)
        rw [o1]
        refine wrl sk ta hc hr hd hn e (i + 1) m S4 _ (Ndd_mX ha' m14 hax) (by rw [MdX_A m14]; exact Rp_mX sk rk m14 h.1) t4 (by omega) (by rw [la, la, la]; show L1.length + 1 + _ + 1 + _ ≤ _; omega) (fun S5 L5 m5 e5 t5 => hrec S5 L5 (MdX_t m14 m5) ?_ t5)
        rw [e5, ← heq, List.append_assoc, List.append_assoc, List.append_assoc]
      by_cases q : cK na = 5
      · rw [if_pos q, tx_5] at hl
        rw [if_pos (show zI S 0 a = 5 by rw [c1, q]; rfl), if_pos h.1]
        rw [if_pos q] at body hrec ⊢
        rw [tx_5, List.append_assoc, List.append_assoc, List.append_assoc, List.append_assoc]
        rw [la, la, la, la] at hl
        have hl : L.length + (1 + (1 + ((tx 0 x).length + (1 + (tx 1 (gek (i + 1) k)).length)))) ≤ 600 := hl
        refine wr_b (wr_p h ch48 (by omega) (by omega)) (fun S1 m1 t1 => body S1 _ m1 t1 (by rw [la]; show L.length + 1 + _ ≤ _; omega) ?_)
        rw [tx_5, List.append_assoc]
      · rw [if_neg q, tx_6] at hl
        have hk16 : cK na < 16 := Nat.mod_lt _ (by decide)
        rw [if_neg (show ¬ zI S 0 a = 5 from fun z => q ((j_eq (n := 5) (by omega) (by decide)).mp (c1.symm.trans z)))]
        rw [if_neg q] at body hrec ⊢
        rw [tx_6, List.append_assoc, List.append_assoc, List.append_assoc]
        rw [la, la, la] at hl
        exact body S L MdX_r h hl (by rw [tx_6])
theorem wr_all : ∀ (t : Fo) (m : Bool), So m t → WK m t → (m = true → WrR n th b t) ∧ (m = false → ∀ i x, gid i t = some x → WrR n th b x) := So_ind (P := fun m t => WK m t → (m = true → WrR n th b t) ∧ (m = false → ∀ i x, gid i t = some x → WrR n th b x)) (fun m _ => ⟨fun _ S sh G r d m L r1 x _ _ _ hm _ => by
      obtain ⟨m, rfl⟩ : ∃ k, m = k + 1 := ⟨m - 1, by omega⟩
      rw [yX_writeRow_9, (Rp_n r1).2 rfl]
      exact ⟨S, rfl, MdX_r, by show XT S th b (L ++ []); rw [List.append_nil]; exact x⟩, fun _ i x h => by cases h⟩) (fun m na k r0 h1 h2 h3 ihk ihr hw => by
    cases m with
    | true =>
      refine ⟨fun _ S sh G r d m L r1 x hl hr hd hm hn => ?_, fun z => Bool.noConfusion z⟩
      obtain ⟨v1, v2, v3, v4⟩ := hw
      have e1 : dq true (cn na k r0) = max (dq false k) (dq true r0) := rfl
      have e2 : nq true (cn na k r0) = 1 + nq false k + nq true r0 := rfl
      have e3 : tx 0 (cn na k r0) = hdt na ++ (tx (if cK na = 5 then 1 else 2) k ++ tx 0 r0) := rfl
      rw [e3] at hl ⊢
      rw [la, la] at hl
      obtain ⟨m, rfl⟩ : ∃ j, m = j + 1 := ⟨m - 1, by omega⟩
      obtain ⟨a, k', r', rfl, g1, nda, rk, rr⟩ := Rp_r r1
      have hp := pof_le (cK na)
      obtain ⟨m', hm'⟩ : ∃ m', m = m' + 1 + pof (cK na) := ⟨m - pof (cK na) - 1, by omega⟩
      rw [yX_writeRow_9, g1]
      show WRs th b S L (if ztg S th = 4 then _ else none) _
      rw [if_pos x.1]
      refine wr_b (wr_H (n := n) (by omega) v1 nda x (by omega)) (fun S1 m1 t1 => ?_)
      have hax := nd_th nda x.1
      have hk0 := gek_0 h1
      have := wrl (n := n) (th := th) (b := b) (T := tx 0 r0) (rec9 := yX_writeRow_9 th (yX_writeRow n r) m) (a := a) (na := na) (k' := k') (r := r) (d := d) h1 (fun i x hg => tag_lt v1 v2 v3 h1 hg) ((ihk v3).2 rfl) (by omega) (by omega) (by omega) (pof (cK na)) 0 m' S1 _ (Ndd_mX nda m1 hax) (by rw [MdX_A m1]; exact Rp_mX h1 rk m1 x.1) t1 (Nat.zero_add _) (by rw [hk0, la]; omega) (fun S2 L2 m2 e2 t2 => by
        rw [hk0] at e2
        have m12 := MdX_t m1 m2
        refine (ihr v4).1 rfl S2 r' (fun _ => zR S2 8 a) r d m L2 (by rw [MdX_R m12]; exact Rp_mX h2 rr m12 x.1) t2 (by rw [e2, la, la]; omega) (by omega) (by omega) (by omega) (by omega))
      rw [hk0, ← hm'] at this
      exact this
    | false =>
      refine ⟨fun z => Bool.noConfusion z, fun _ i x hi => ?_⟩
      rw [gid_cn] at hi
      split at hi
      · cases hi
        exact (ihk hw.2.1).1 rfl
      · exact (ihr hw.2.2).2 rfl i x hi)
theorem write_ok {S : hS} {t sh : Fo} {G : Nat → Option Nat} (s1 : So true t) (w1 : WK true t) (r1 : Rp S true t sh G) (x1 : ztg S th = 4) (x2 : zR S 0 th = some b) (x3 : ztg S b = 21) (x4 : zLen S b = 600) (hl : (tx 0 t).length ≤ 600) (hd : dq true t ≤ 64) (hn : nq true t + 25 ≤ n) : ∃ S', yX_write n S th (G 0) = some S' ∧ MdX th b S S' ∧ XT S' th b (tx 0 t) := by
  have mx : MdX th b S (szI S 1 th 0) := ⟨zI (szI S 1 th 0), zAI S, rfl, fun k a e => zup2_ne (fun e2 => by
    rcases e with e | e
    · exact (e e2).elim
    · exact e), fun _ _ => rfl⟩
  have x0 : XT (szI S 1 th 0) th b [] := ⟨x1, x2, x3, x4, zI_self _ _ _ _, Nat.zero_le _, fun i hi => by cases hi⟩
  obtain ⟨S', e1, e2, e3⟩ := Wr_top (r := 67) (d := 0) ((wr_all t true s1 w1).1 rfl) (Rp_mX s1 r1 mx x1) x0 (by show 0 + _ ≤ _; omega) (by omega) (by omega) hn
  refine ⟨S', ?_, MdX_t mx e2, e3⟩
  unfold yX_write
  rw [if_pos x1]
  exact zcV_s e1
end WR3
