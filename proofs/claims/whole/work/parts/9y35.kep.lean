def RI (S : hS) (K : Nat → Fo) : Prop := Bas S ∧ Lod S ∧ Prt S ∧ Emp S ∧ (∃ Q Kr, RnS S K Q Kr) ∧ Fxd S K
section KR
variable {S S1 : hS} {K : Nat → Fo} {p k : Nat} {I : Nat → Int32} {B : Nat → Nat → Int32}
theorem Chg_of (c : Chg p k S S1) (hx : Fix S) (hp : p < 6) (hk : k < 36) : OF S S1 := by
  refine ⟨Nat.le_of_eq c.1.1.symm, Chg_h0 c hx hp hk, fun x h1 => ?_⟩
  have tg := Chg_tg c
  obtain ⟨_, c1, c2, c3, c4, c5, c6, c7, _⟩ := c
  obtain ⟨_, _, ⟨d1, _⟩, _, _, _, _, _, _, jj, kk⟩ := hx
  have n1 : x ≠ 7 + 3 * p := fun e => by rw [e, (jj p hp).1] at h1; omega
  have n2 : x ≠ 25 + 3 * k := fun e => by rw [e, (kk k hk).1] at h1; omega
  have n3 : x ≠ 2 := fun e => by rw [e, d1] at h1; omega
  exact ⟨fun m => c1 m x n1 n2 n3, fun m => c4 m x (fun _ => n1), congrFun c6 x, tg x⟩
theorem Chg_lay (c : Chg p k S S1) (h : Lay S) : Lay S1 := by
  obtain ⟨⟨c1, c2, c3⟩, _⟩ := c
  unfold Lay
  rw [c1, c2, c3]
  exact h
theorem RI_step (h : RI S K) (hp : p < 6) : ∃ S1 I B ans k, (∃ N, ∀ m, N ≤ m → yT_takeTurn m S 2 (Int32.ofNat p) = some (S1, ans) ∧ x_stepOf m (zM0 S) (zMA S) (Int32.ofNat p) = some (I, B, ans)) ∧ RI (szM S1 I B) K ∧ k < 36 ∧ Chg p k S S1 ∧ (∀ j, j ≠ 18 → j ≠ 19 → j ≠ 20 → I j = zM0 S j) ∧ (ans = 0 ∨ ans = 1 ∨ ans = 2) := by
  obtain ⟨⟨hl, hf, ht, hq, hv, hfl⟩, hL, hP, hE, ⟨Q, Kr, hR⟩, hF⟩ := h
  obtain ⟨S1, I, B, ans, k, hN, hk, c, cr, ⟨Q', Kr', hR'⟩, hv6, h5, h18, hans⟩ := step_all hf (fun i hi => (hv i hi).2.1) hfl.2.2 hR hp
  have hf1 := Chg_fix c hf
  have hl1 := Chg_lay c hl
  have ho := Chg_of c hf hp hk
  obtain ⟨_, c1, c2, c3, c4, c5, c6, c7, c8, c9, c10⟩ := c
  obtain ⟨r1, r2, r3, r4, r5⟩ := cr
  refine ⟨S1, I, B, ans, k, hN, ⟨⟨Lay_M hl1, Fix_M hf1, ?_, QQ_que hR'.1, fun i hi => ⟨?_, ?_, ?_⟩, ?_, ?_, h5⟩, ?_, fun p' hp' => ?_, fun e k' hk' => ?_, ⟨Q', Kr', hR'⟩, ?_⟩, hk, ⟨‹_›, c1, c2, c3, c4, c5, c6, c7, c8, c9, c10⟩, r1, hans⟩
  · obtain ⟨cc, t1, t2, t3, t4⟩ := ht
    refine ⟨cc, t1, ?_, ?_, fun i hi => ?_⟩
    · show zI S1 1 0 = _
      rw [c1 1 0 (by omega) (by omega) (by omega)]
      exact t2
    · show I 1 = _
      rw [r1 1 (by decide) (by decide) (by decide)]
      exact t3
    · show zAI S1 1 i = B 1 i ∧ 33 ≤ (zAI S1 1 i).toInt ∧ (zAI S1 1 i).toInt ≤ 126
      rw [c5 1 (by omega) (by omega) (by omega), r2 1 (by omega)]
      exact t4 i hi
  · show zAI S1 5 i = B 33 i
    rw [c5 5 (by omega) (by omega) (by omega), r2 33 (by omega)]
    exact (hv i hi).1
  · exact hv6 i hi
  · show zAI S1 133 i = B 35 i
    rw [c5 133 (by omega) (by omega) (by omega), r2 35 (by omega)]
    exact (hv i hi).2.2
  · show zI S1 2 0 = I 2
    rw [c1 2 0 (by omega) (by omega) (by omega), r1 2 (by decide) (by decide) (by decide)]
    exact hfl.1
  · show zI S1 3 0 = I 3
    rw [c1 3 0 (by omega) (by omega) (by omega), r1 3 (by decide) (by decide) (by decide)]
    exact hfl.2.1
  · show zR S1 4 0 = none ↔ I 10 = 0
    rw [c4 4 0 (by omega), r1 10 (by decide) (by decide) (by decide)]
    exact hL
  · obtain ⟨t, t1, t2, t3, t4⟩ := hP p' hp'
    refine ⟨t, t1, ?_, ?_, fun i hi => ?_⟩
    · show zI S1 1 (8 + 3 * p') = _
      rw [c1 1 _ (by omega) (by omega) (by omega)]
      exact t2
    · show B 27 p' = _
      rw [r2 27 (by omega)]
      exact t3
    · show zAI S1 (9 + 3 * p') i = B 26 (1000 * p' + i)
      rw [c5 _ (by omega) (by omega) (by omega), r2 26 (by omega)]
      exact t4 i hi
  · obtain ⟨e1, e2⟩ := h18 e
    show zI S1 3 (25 + 3 * k') = 0
    rw [e1]
    refine hE ?_ k' hk'
    have e' : I 18 = 0 := e
    rw [← hfl.2.2.1, ← e', ← h5.1, e1]
  · exact Fxd_o (S := S) (OF_M ho) (fun p' hp' => c4 1 _ (by omega)) (c4 4 0 (by omega)) (fun j a b => r2 j (by omega)) (r1 11 (by decide) (by decide) (by decide)) hF
end KR
