section CP
variable {S : hS} {a c m : Nat} {f : Nat → Int32}
theorem zup2_id {α : Type} {F : Nat → Nat → α} {k a : Nat} {v : α} (h : F k a = v) : zup2 F k a v = F := by
  funext j b
  unfold zup2
  by_cases q : j = k
  · rw [if_pos q]
    by_cases q2 : b = a
    · rw [if_pos q2, q, q2]; exact h.symm
    · rw [if_neg q2]
  · rw [if_neg q]
theorem zup_id {α : Type} {F : Nat → α} {a : Nat} {v : α} (h : F a = v) : zup F a v = F := by
  funext b
  unfold zup
  by_cases q2 : b = a
  · rw [if_pos q2, q2]; exact h.symm
  · rw [if_neg q2]
theorem szI_id {k a : Nat} {v : Int32} (h : zI S k a = v) : szI S k a v = S := by
  have e : zup2 S.2.2.2.1 k a v = S.2.2.2.1 := zup2_id h
  show (S.1, S.2.1, S.2.2.1, zup2 S.2.2.2.1 k a v, _) = _
  rw [e]
theorem szL_id {a : Nat} {v : Int64} (h : zL S a = v) : szL S a v = S := by
  have e : zup S.2.2.2.2.1 a v = S.2.2.2.2.1 := zup_id h
  show (S.1, S.2.1, S.2.2.1, S.2.2.2.1, zup S.2.2.2.2.1 a v, _) = _
  rw [e]
theorem U_id (h2 : zI S 2 a = 0) (h3 : zI S 3 a = 0) (h4 : zI S 4 a = 0) (h6 : zI S 6 a = 0) (hL : zL S a = 0) : U S a (0, false, 0, 0) 0 = S := by
  unfold U
  show szI (szI (szI (szI (szL S a 0) 2 a 0) 3 a 0) 4 a 0) 6 a 0 = S
  rw [szL_id hL, szI_id h2, szI_id h3, szI_id h4, szI_id h6]
def nrd (S : hS) (c : Nat) : hS := szI (szR (szN S 5) 0 S.1 (some 1)) 1 S.1 (Int32.ofNat c)
theorem nrd_I {k : Nat} (hk : k ≠ 1) : zI (nrd S c) k S.1 = 0 := by
  unfold nrd
  rw [zI_k hk]
  exact zI_new 5 k
theorem rd_new (hN : S.1 < ie_S) (h1 : ztg S 1 = 21) (h2 : zLen S 1 = 200) (hc : c ≤ 200) (hf : zAI S 1 = f) (hl : Ltr f c) : Rd (nrd S c) S.1 c f ∧ U (nrd S c) S.1 (0, false, 0, 0) 0 = nrd S c := by
  have l1 := ztg_lt h1
  refine ⟨⟨?_, ?_, ?_, h2, ?_, hc, hf, fun j hj => ?_⟩, U_id (nrd_I (by decide)) (nrd_I (by decide)) (nrd_I (by decide)) (nrd_I (by decide)) (show zL (szN S 5) S.1 = 0 from zL_new 5)⟩
  · show (if S.1 < S.1 + 1 ∧ S.1 < ie_S then zup S.2.1 S.1 6 S.1 else 0) = 6
    rw [if_pos ⟨Nat.lt_succ_self _, hN⟩]
    exact if_pos rfl
  · unfold nrd
    exact zR_self (szN S 5) 0 S.1 (some 1)
  · show (if 1 < S.1 + 1 ∧ 1 < ie_S then zup S.2.1 S.1 6 1 else 0) = 21
    rw [if_pos ⟨Nat.lt_succ_of_lt l1.1, Nat.lt_trans l1.1 hN⟩]
    unfold ztg at h1
    rw [if_pos ⟨l1.1, Nat.lt_trans l1.1 hN⟩] at h1
    exact (if_neg (Nat.ne_of_lt l1.1)).trans h1
  · unfold nrd
    exact zI_self _ _ _ _
  · obtain ⟨x1, x2⟩ := hl j hj
    omega
theorem cls_play {T : pw × Nat × Fo} (hT : T = pRow f c 9 0 (0, false) 0) (hm : 84 ≤ m) (hN : S.1 + 42 ≤ ie_S) (h1 : ztg S 1 = 21) (h2 : zLen S 1 = 200) (hc : c ≤ 200) (hf : zAI S 1 = f) (hl : Ltr f c) : ∃ S4 s v, yR_readPlay m (nrd S c) S.1 = some (U S4 S.1 s T.2.1, v) ∧ s.1 = T.1.1 ∧ Grw (nrd S c) S4 ∧ ((T.1.2 = true ∨ T.2.2 = .nil) → v = none) ∧ (T.1.2 = false → RS (U S4 S.1 s T.2.1) f c false T.2.2 (S.1 + 1) v ∧ S4.1 ≤ S.1 + 1 + T.2.1) ∧ T.2.1 ≤ 40 ∧ ztg S4 S.1 = 6 ∧ S4.1 ≤ S.1 + 42 := by
  obtain ⟨hR, hU⟩ := rd_new (c := c) (f := f) (show S.1 < ie_S by omega) h1 h2 hc hf hl
  have rr := rrow (f := f) (c := c) (a := S.1) (M := S.1 + 42) hN hm 9 0 rfl (by decide)
  obtain ⟨S', s', v, e1, e2, e3, e4, e5, e6, e7, e8, e9⟩ := rr (nrd S c) (0, false, 0, 0) 0 hR (Nat.zero_le _) (by decide) (fun _ => show (S.1 + 1) + 41 ≤ S.1 + 42 + 0 by omega)
  have hb9 : S'.1 ≤ S.1 + 42 := by
    have h9 : S'.1 ≤ max (S.1 + 1) (S.1 + 42) := e9
    omega
  clear e9
  rw [hU] at e1
  rw [show pj (0, false, 0, 0) = (0, false) from rfl, ← hT] at e1 e2 e4 e6 e7 e8
  clear hT
  obtain ⟨⟨Q, w⟩, n1, t⟩ := T
  have q1 : s'.1 = Q := congrArg Prod.fst e2
  have q2 : s'.2.1 = w := congrArg Prod.snd e2
  have tg : ztg S' S.1 = 6 := (Rd_g hR e5).1
  have start : yR_readPlay m (nrd S c) S.1 = if ty_b s'.2.1 = 0 then some (U S' S.1 s' n1, v) else some (U S' S.1 s' n1, none) := by
    unfold yR_readPlay
    refine (if_pos hR.1).trans ?_
    refine (zcP_s e1).trans ?_
    refine (if_pos tg).trans ?_
    rw [U_g4]
  cases w with
  | true =>
    rw [q2, if_neg (show ¬ ty_b true = 0 by decide)] at start
    exact ⟨S', s', none, start, q1, e5, fun _ => rfl, fun z => Bool.noConfusion z, e4, tg, hb9⟩
  | false =>
    rw [q2, if_pos (show ty_b false = 0 from rfl)] at start
    rw [q2] at e7
    refine ⟨S', s', v, start, q1, e5, fun z => ?_, fun _ => ⟨RS_fr _ _ _ e7 (Sme_U (Nat.lt_succ_self _)), ?_⟩, e4, tg, hb9⟩
    · have ht : t = .nil := z.resolve_left (fun y => Bool.noConfusion y)
      subst ht
      exact e7
    · have := (e6 q2).2
      have this' : S'.1 + 41 ≤ S.1 + 42 + n1 := this
      show S'.1 ≤ S.1 + 1 + n1
      omega
end CP
