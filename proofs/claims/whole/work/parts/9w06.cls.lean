section JA
variable {n : Nat}
theorem jn_all : ∀ (t : Fo) (m : Bool), So m t → WK m t → (m = true → JnR n t) ∧ (m = false → ∀ i x, gid i t = some x → JnR n x) := So_ind (P := fun m t => WK m t → (m = true → JnR n t) ∧ (m = false → ∀ i x, gid i t = some x → JnR n x)) (fun m _ => ⟨fun _ S t2 c sh1 sh2 G1 G2 r d m s2 w2 r1 r2 hj p1 p2 p3 _ _ hm _ => (by
      obtain ⟨m, rfl⟩ : ∃ k, m = k + 1 := ⟨m - 1, by omega⟩
      obtain ⟨e1, e2⟩ := Rp_n r1
      rcases So_cs s2 with rfl | ⟨n2, l, s, rfl, _⟩
      · cases hj
        refine ⟨S, .nil, ?_, e2 rfl, Mdf_r, fun x hx => (by rw [ad_n] at hx; cases hx), trivial⟩
        rw [yA_join_12, e2 rfl]
        rfl
      · cases hj), fun _ i x h => by cases h⟩) (fun m na k r0 h1 h2 h3 ihk ihr hw => by
    cases m with
    | true =>
      refine ⟨fun _ S t2 c sh1 sh2 G1 G2 r d m s2 w2 r1 r2 hj p1 p2 p3 hr hd hm hn => ?_, fun z => Bool.noConfusion z⟩
      obtain ⟨v1, v2, v3, v4⟩ := hw
      have e1 : dq true (cn na k r0) = max (dq false k) (dq true r0) := rfl
      have e2 : nq true (cn na k r0) = 1 + nq false k + nq true r0 := rfl
      obtain ⟨m, rfl⟩ : ∃ j, m = j + 1 := ⟨m - 1, by omega⟩
      obtain ⟨a, k', r', rfl, g1, nda, rk, rr⟩ := Rp_r r1
      rcases So_cs s2 with rfl | ⟨nb, l, s, rfl, q1, q2, q3⟩
      · cases hj
      · obtain ⟨u1, u2, u3, u4⟩ := w2
        obtain ⟨b, l', s', rfl, g2, ndb, rl, rs⟩ := Rp_r r2
        rw [J_r] at hj
        by_cases ecode : na = nb
        · subst ecode
          rw [if_pos rfl, Option.bind_eq_some_iff] at hj
          obtain ⟨ck, jk1, hj⟩ := hj
          rw [Option.bind_eq_some_iff] at hj
          obtain ⟨rc, jr1, hj⟩ := hj
          cases hj
          obtain ⟨sp1, sp2, sp3, sp4⟩ := p1
          obtain ⟨sq1, sq2, sq3, sq4⟩ := p2
          have inA : ∀ x, x ∈ ad true (cn a k' r') ↔ x = a ∨ x ∈ ad false k' ∨ x ∈ ad true r' := fun x => by rw [ad_r, List.mem_cons, List.mem_append]
          have inB : ∀ x, x ∈ ad true (cn b l' s') ↔ x = b ∨ x ∈ ad false l' ∨ x ∈ ad true s' := fun x => by rw [ad_r, List.mem_cons, List.mem_append]
          have ak : a ∉ ad false k' := fun h => (sp3 a h).1 rfl
          have al : a ∉ ad false l' := fun h => p3 a ((inA a).mpr (Or.inl rfl)) ((inB a).mpr (Or.inr (Or.inl h)))
          have hab : b ≠ a := fun h => p3 a ((inA a).mpr (Or.inl rfl)) ((inB a).mpr (Or.inl h.symm))
          have bk : b ∉ ad false k' := fun h => p3 b ((inA b).mpr (Or.inr (Or.inl h))) ((inB b).mpr (Or.inl rfl))
          have dkl : ∀ x, x ∈ ad false k' → x ∉ ad false l' := fun x hx hy => p3 x ((inA x).mpr (Or.inr (Or.inl hx))) ((inB x).mpr (Or.inr (Or.inl hy)))
          have ta : ∀ i x, gid i k = some x → i < pof (cK na) := fun i x hg => tag_lt v1 v2 v3 h1 hg
          have tb : ∀ i x, gid i l = some x → i < pof (cK na) := fun i x hg => tag_lt v1 u2 u3 q1 hg
          have hp := pof_le (cK na)
          have init : Jsl S S a k l ck k' l' 0 (fun j => (gid j k').getD .nil) := by
            refine ⟨fun j hj z hz => ?_, fun j _ _ s hs => ?_, fun j hz => ?_, ?_, Mdf_r⟩
            · rw [if_neg (by omega)] at hz
              obtain ⟨z', gz, rz, _⟩ := Rp_gid h1 rk hz
              show Rp S true z ((gid j k').getD .nil) _ ∧ Spt true ((gid j k').getD .nil) ∧ (∀ x, x ∈ ad true ((gid j k').getD .nil) → _)
              rw [gz, Option.getD_some]
              exact ⟨rz, Spt_gid k h1 k' _ z rk sp1 hz gz, fun x hx => Or.inl ⟨z', rfl, hx⟩⟩
            · show (gid j k').getD .nil = s
              rw [hs]
              rfl
            · rw [if_neg (by omega)] at hz
              exact nda.2.2.2.2.2.2 j hz
            · obtain ⟨x, x1, x2, x3⟩ := nda.2.2.2.2.2.1
              exact ⟨x, x1, x2, fun j hj => by rw [if_neg (by omega)]; exact x3 j hj⟩
          obtain ⟨m', hm'⟩ : ∃ m', m = m' + 1 + pof (cK na) := ⟨m - pof (cK na) - 1, by omega⟩
          obtain ⟨S1, f1, c1, j1, _, j3, j4, md⟩ := jnl (n := n) (r := r) (d := d) nda ndb h1 q1 u3 ta tb rk rl jk1 sp1 sq1 ak al hab bk dkl ((ihk v3).2 rfl) (by omega) (by omega) (by omega) (pof (cK na)) 0 m' S _ (Nat.zero_add _) init
          rw [← hm'] at c1
          obtain ⟨jlo, jsp⟩ := (Jm k false h1 l ck q1 jk1).2.2.2 rfl
          have sck : So false ck := (Jm k false h1 l ck q1 jk1).2.2.1
          have cont : ∀ j, (if j < pof (cK na) then gid j ck else gid j k) = gid j ck := fun j => by
            by_cases q : j < pof (cK na)
            · rw [if_pos q]
            · rw [if_neg q]
              have hk0 : gid j k = none := by
                cases hg : gid j k with
                | none => rfl
                | some x => exact absurd (ta j x hg) q
              have hl0 : gid j l = none := by
                cases hg : gid j l with
                | none => rfl
                | some x => exact absurd (tb j x hg) q
              rw [(jsp j).1 hk0, hk0, hl0]
          have tck : ∀ j x, gid j ck = some x → j < 10 := fun j x hx => by
            have := cont j
            rw [hx] at this
            by_cases q : j < pof (cK na)
            · omega
            · rw [if_neg q] at this
              have := ta j x this
              omega
          have j1' : ∀ j z, gid j ck = some z → Rp S1 true z (f1 j) (fun _ => zAR S1 (a + 1) j) ∧ Spt true (f1 j) ∧ (∀ x, x ∈ ad true (f1 j) → (∃ s, gid j k' = some s ∧ x ∈ ad true s) ∨ (∃ s, gid j l' = some s ∧ x ∈ ad true s)) := fun j z hz => j1 j (tck j z hz) z (by rw [cont]; exact hz)
          have inK : ∀ j s, gid j k' = some s → ∀ x, x ∈ ad true s → x ∈ ad false k' := fun j s hs x hx => by
            cases hg : gid j k with
            | none =>
              rw [Rp_gn h1 rk hg] at hs
              cases hs
            | some t =>
              obtain ⟨s', e1, _, e3⟩ := Rp_gid h1 rk hg
              rw [hs] at e1
              cases e1
              exact e3 x hx
          have inL : ∀ j s, gid j l' = some s → ∀ x, x ∈ ad true s → x ∈ ad false l' := fun j s hs x hx => by
            cases hg : gid j l with
            | none =>
              rw [Rp_gn q1 rl hg] at hs
              cases hs
            | some t =>
              obtain ⟨s', e1, _, e3⟩ := Rp_gid q1 rl hg
              rw [hs] at e1
              cases e1
              exact e3 x hx
          have nd1 : Ndd S1 a na ck := by
            obtain ⟨a1, a2, a3, a4, a5, _, _⟩ := nda
            refine ⟨(Mdf_tg md a).trans a1, ?_, by rw [md.2.2.2.2.2.1]; exact a3, (Mdf_tg md (a + 1)).trans a4, by unfold zLen; rw [md.2.2.1]; exact a5, ?_, fun i hi => j3 i (by rw [cont]; exact hi)⟩
            · unfold Cdn at a2 ⊢
              rw [md.2.2.2.1 0 a (Or.inl (by decide)), md.2.2.2.1 1 a (Or.inl (by decide)), md.2.2.2.1 2 a (Or.inl (by decide)), md.2.2.2.1 3 a (Or.inl (by decide)), md.2.2.2.1 4 a (Or.inl (by decide)), md.2.2.2.2.1]
              exact a2
            · obtain ⟨x, x1, x2, x3⟩ := j4
              exact ⟨x, x1, x2, fun j hj => by rw [x3 j hj, cont]⟩
          have rk1 : Rp S1 false ck (mkS ck f1) (zAR S1 (a + 1)) := mkS_rp ck sck (fun j z hz => (j1' j z hz).1)
          have adm : ∀ x, x ∈ ad false (mkS ck f1) → x ∈ ad false k' ∨ x ∈ ad false l' := fun x hx => by
            obtain ⟨j, z, hz, hx2⟩ := mkS_ad ck sck hx
            rcases (j1' j z hz).2.2 x hx2 with ⟨s, hs, hh⟩ | ⟨s, hs, hh⟩
            · exact Or.inl (inK j s hs x hh)
            · exact Or.inr (inL j s hs x hh)
          have spm : Spt false (mkS ck f1) := mkS_sp ck sck (fun j z hz => (j1' j z hz).2.1) (fun i j x y hi hj hne z hz hz2 => by
            rcases (j1' i x hi).2.2 z hz with ⟨s, hs, hh⟩ | ⟨s, hs, hh⟩
            · rcases (j1' j y hj).2.2 z hz2 with ⟨s2, hs2, hh2⟩ | ⟨s2, hs2, hh2⟩
              · exact Spt_dis k h1 k' _ rk sp1 hne hs hs2 z hh hh2
              · exact dkl z (inK i s hs z hh) (inL j s2 hs2 z hh2)
            · rcases (j1' j y hj).2.2 z hz2 with ⟨s2, hs2, hh2⟩ | ⟨s2, hs2, hh2⟩
              · exact dkl z (inK j s2 hs2 z hh2) (inL i s hs z hh)
              · exact Spt_dis l q1 l' _ rl sq1 hne hs hs2 z hh hh2)
          have rr1 : Rp S1 true r0 r' (fun _ => zR S1 8 a) := by
            rw [md.2.2.2.2.2.1]
            refine Rp_fr r0 true h2 r' _ rr (fun x hx => Mdf_lk md (fun h => ?_))
            rw [List.mem_cons] at h
            rcases h with h | h
            · exact sp4 (by rw [← h]; exact hx)
            · exact (sp3 x h).2 hx
          have rs1 : Rp S1 true s s' (fun _ => zR S1 8 b) := by
            rw [md.2.2.2.2.2.1]
            refine Rp_fr s true q2 s' _ rs (fun x hx => Mdf_lk md (fun h => ?_))
            rw [List.mem_cons] at h
            exact p3 x ((inA x).mpr (h.imp id (fun h => Or.inl h))) ((inB x).mpr (Or.inr (Or.inr hx)))
          obtain ⟨S2, sr, d1, d2, d3, d4, d5⟩ := (ihr v4).1 rfl S1 s rc r' s' (fun _ => zR S1 8 a) (fun _ => zR S1 8 b) r d m q2 u4 rr1 rs1 jr1 sp2 sq2 (fun x hx hy => p3 x ((inA x).mpr (Or.inr (Or.inr hx))) ((inB x).mpr (Or.inr (Or.inr hy)))) (by omega) (by omega) (by omega) (by omega)
          have rsd : ∀ x, x ∈ ad true sr → x ≠ a ∧ x ∉ ad false (mkS ck f1) := fun x hx => by
            rcases d4 x hx with h | h
            · refine ⟨fun e => sp4 (by rw [← e]; exact h), fun hm => ?_⟩
              rcases adm x hm with hm | hm
              · exact (sp3 x hm).2 h
              · exact p3 x ((inA x).mpr (Or.inr (Or.inr h))) ((inB x).mpr (Or.inr (Or.inl hm)))
            · refine ⟨fun e => p3 x ((inA x).mpr (Or.inl e)) ((inB x).mpr (Or.inr (Or.inr h))), fun hm => ?_⟩
              rcases adm x hm with hm | hm
              · exact p3 x ((inA x).mpr (Or.inr (Or.inl hm))) ((inB x).mpr (Or.inr (Or.inr h)))
              · exact (sq3 x hm).2 h
          refine ⟨S2, cn a (mkS ck f1) sr, ?_, Rp_rm g1 (Nd_fr nd1 (Mdf_lk d3 sp4)) ?_ ?_, Mdf_t md d3 (fun x hx => ?_) (fun x hx => (inA x).mpr (Or.inr (Or.inr hx))), fun x hx => ?_, spm, d5, fun x hx => ⟨fun e => ?_, fun h => (rsd x h).2 hx⟩, fun h => (rsd a h).1 rfl⟩
          · rw [yA_join_12, g1, g2]
            refine (zcV_s (show yA_joinParts (yA_join n r) m S (some a) (some b) (Int32.ofNat d) = some S1 from c1)).trans ?_
            rw [if_pos nd1.1]
            refine zlb_s.trans ?_
            rw [if_pos ((Mdf_tg md b).trans ndb.1)]
            exact zlb_s.trans d1
          · have : zAR S2 (a + 1) = zAR S1 (a + 1) := (Mdf_lk d3 sp4).2.2.2.2.2.2.2
            rw [this]
            refine Rp_fr ck false sck _ _ rk1 (fun x hx => Mdf_lk d3 (fun h => ?_))
            rcases adm x hx with hm | hm
            · exact (sp3 x hm).2 h
            · exact p3 x ((inA x).mpr (Or.inr (Or.inr h))) ((inB x).mpr (Or.inr (Or.inl hm)))
          · rw [show zR S2 8 a = zR S1 8 a from (Mdf_lk d3 sp4).2.2.1]
            exact d2
          · rw [List.mem_cons] at hx
            exact (inA x).mpr (hx.imp id (fun h => Or.inl h))
          · rw [ad_r, List.mem_cons, List.mem_append] at hx
            rcases hx with h | h | h
            · exact Or.inl ((inA x).mpr (Or.inl h))
            · rcases adm x h with h | h
              · exact Or.inl ((inA x).mpr (Or.inr (Or.inl h)))
              · exact Or.inr ((inB x).mpr (Or.inr (Or.inl h)))
            · rcases d4 x h with h | h
              · exact Or.inl ((inA x).mpr (Or.inr (Or.inr h)))
              · exact Or.inr ((inB x).mpr (Or.inr (Or.inr h)))
          · rcases adm x hx with hm | hm
            · exact ak (by rw [← e]; exact hm)
            · exact al (by rw [← e]; exact hm)
        · rw [if_neg ecode] at hj
          cases hj
    | false =>
      refine ⟨fun z => Bool.noConfusion z, fun _ i x hi => ?_⟩
      rw [gid_cn] at hi
      split at hi
      · cases hi
        exact (ihk hw.2.1).1 rfl
      · exact (ihr hw.2.2).2 rfl i x hi)
theorem join_ip {S : hS} {t t2 c sh1 sh2 : Fo} {G1 G2 : Nat → Option Nat} (s1 : So true t) (w1 : WK true t) (s2 : So true t2) (w2 : WK true t2) (r1 : Rp S true t sh1 G1) (r2 : Rp S true t2 sh2 G2) (hj : J true t t2 = some c) (p1 : Spt true sh1) (p2 : Spt true sh2) (p3 : ∀ x, x ∈ ad true sh1 → x ∉ ad true sh2) (hd : dq true t ≤ 64) (hn : nq true t + 12 ≤ n) : ∃ S' sh', yA_join n 67 S (G1 0) (G2 0) 0 = some S' ∧ Rp S' true c sh' G1 ∧ Mdf S S' (ad true sh1) ∧ (∀ x, x ∈ ad true sh' → x ∈ ad true sh1 ∨ x ∈ ad true sh2) ∧ Spt true sh' := Jn_top (d := 0) ((jn_all t true s1 w1).1 rfl) s2 w2 r1 r2 hj p1 p2 p3 (by omega) (by rw [Nat.zero_add]; exact hd) hn
end JA
