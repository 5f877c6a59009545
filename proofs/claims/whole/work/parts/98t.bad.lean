section LB
variable {S : hS} {c : Nat} {f : Nat → Int32}
theorem znw_s {β : Type} {S : hS} {ci : Nat} {g : hS → Nat → Option β} (h : S.1 < ie_S) : znw S ci g = g (szN S ci) S.1 := if_pos h
theorem zcH_s {β : Type} {x : Option (hS × (Nat ⊕ Int32))} {g : hS → Nat → Option β} {f : hS → Int32 → Option β} {S : hS} {c : Nat} (h : x = some (S, .inl c)) : zcH x g f = g S c := by rw [h]; rfl
theorem Grw_nrd : Grw S (nrd S c) := Grw_I (Grw_R (Grw_N 5) (Nat.le_refl _) _) (Nat.le_refl _) _
theorem Grw_U {T : hS} {a n : Nat} {s : rs} (h : Grw S T) (ha : S.1 ≤ a) : Grw S (U T a s n) := Grw_I (Grw_I (Grw_I (Grw_I (Grw_L h ha _) ha _) ha _) ha _) ha _
theorem new_rd (h0 : ztg S 0 = 1) (hN : S.1 < ie_S) (r0 : zR S 0 0 = some 1) (t1 : zI S 1 0 = Int32.ofNat c) : yR_new (szN S 5) S.1 (zR (szN S 5) 0 0) (zI (szN S 5) 1 0) = some (nrd S c) := by
  have l0 : 0 < S.1 := (ztg_lt h0).1
  have tg : ztg (szN S 5) S.1 = 6 := by
    show (if S.1 < S.1 + 1 ∧ S.1 < ie_S then zup S.2.1 S.1 6 S.1 else 0) = 6
    rw [if_pos ⟨Nat.lt_succ_self _, hN⟩]
    exact if_pos rfl
  obtain ⟨g1, g2, -⟩ := Grw_N (S := S) 5
  obtain ⟨g3, g4, -⟩ := g2 0 l0
  unfold yR_new
  rw [if_pos tg, g3 1, g4 0, r0, t1]
  rfl
theorem y_bad {m : Nat} {x1 : Int32} {T : pw × Nat × Fo} (hT : T = pRow f c 9 0 (0, false) 0) (hm : 84 ≤ m) (hN : S.1 + 42 ≤ ie_S) (h0 : ztg S 0 = 1) (r0 : zR S 0 0 = some 1) (t1 : zI S 1 0 = Int32.ofNat c) (h1 : ztg S 1 = 21) (h2 : zLen S 1 = 200) (hc : c ≤ 200) (hf : zAI S 1 = f) (hl : Ltr f c) (hbad : T.1.2 = true ∨ T.2.2 = .nil) : ∃ X, (Grw S X ∧ X.1 ≤ S.1 + 42) ∧ yL_load m S (some 0) x1 (some 177) = some (szEx (szI (szI (szI X 1 0 0) 2 0 (Int32.ofNat T.1.1)) 3 0 (-1)) 11, 1) := by
  obtain ⟨S4, s, v, e1, e2, e3, e4, -, -, e7, e8⟩ := cls_play (m := m) hT hm hN h1 h2 hc hf hl
  have hv := e4 hbad
  subst hv
  obtain ⟨hR, hU⟩ := rd_new (c := c) (f := f) (show S.1 < ie_S by omega) h1 h2 hc hf hl
  have gX : Grw S (U S4 S.1 s T.2.1) := Grw_U (Grw_t Grw_nrd e3) (Nat.le_refl _)
  have z2 : zI (U S4 S.1 s T.2.1) 2 S.1 = Int32.ofNat T.1.1 := by rw [U_g2, e2]
  have t4 : ztg (U S4 S.1 s T.2.1) S.1 = 6 := e7
  refine ⟨U S4 S.1 s T.2.1, ⟨gX, e8⟩, ?_⟩
  have tX : ztg (U S4 S.1 s T.2.1) 0 = 1 := ztg_g h0 gX
  generalize U S4 S.1 s T.2.1 = X at e1 gX z2 t4 tX
  have e : y_load m S 0 x1 = some (szEx (szI (szI (szI X 1 0 0) 2 0 (Int32.ofNat T.1.1)) 3 0 (-1)) 11, .inl 11) := by
    unfold y_load
    refine (znw_s (show S.1 < ie_S by omega)).trans ?_
    refine (if_pos (ztg_g h0 (Grw_N 5))).trans ?_
    refine zlb_s.trans ?_
    refine (zcV_s (new_rd h0 (show S.1 < ie_S by omega) r0 t1)).trans ?_
    refine (if_pos hR.1).trans ?_
    refine (zcP_s e1).trans ?_
    refine (if_pos tX).trans ?_
    refine (if_pos t4).trans ?_
    rw [z2]
  unfold yL_load
  refine (zob_s rfl).trans ?_
  refine (if_pos h0).trans ?_
  refine (zcH_s e).trans ?_
  exact if_pos rfl
theorem x_bad {I : Nat → Int32} {A : Nat → Nat → Int32} {x1 : Int32} {T : pw × Nat × Fo} (hT : T = pRow f c 9 0 (0, false) 0) (hI : I 1 = Int32.ofNat c) (hc : c ≤ 200) (hf : ∀ j, j < c → A 1 j = f j) (hl : Ltr f c) (hbad : T.1.2 = true ∨ T.2.2 = .nil) : ∃ N, ∀ m, N ≤ m → ∃ I' A', x_load m I A x1 = some (I', A', 0) ∧ I' 0 = 1 ∧ I' 1 = 0 ∧ I' 2 = Int32.ofNat T.1.1 ∧ I' 3 = -1 ∧ (∀ j, 10 ≤ j → I' j = I j) ∧ (∀ j, (j < 2 ∨ 15 < j) → A' j = A j) := by
  obtain ⟨ra, -⟩ := ref_play (I := upd (upd (upd I 0 0) 2 (-1)) 3 (-1)) (A := A) hT hI hc hf hl
  obtain ⟨N, r1⟩ := ra hbad
  refine ⟨N, fun m hm => ?_⟩
  obtain ⟨k, P, b, n, e, A', s1, s2⟩ := r1 m hm
  refine ⟨upd (upd (upd (V (upd (upd (upd (upd I 0 0) 2 (-1)) 3 (-1)) 4 (upd (upd (upd I 0 0) 2 (-1)) 3 (-1) 1)) k P b n e) 2 (Int32.ofNat T.1.1)) 1 0) 0 1, A', ?_, rfl, rfl, rfl, rfl, fun j hj => ?_, s2⟩
  · unfold x_load
    refine (xb_some s1).trans ?_
    exact if_pos rfl
  · unfold V
    rw [upd_n (by omega), upd_n (by omega), upd_n (by omega), upd_n (by omega), upd_n (by omega), upd_n (by omega), upd_n (by omega), upd_n (by omega), upd_n (by omega), upd_n (by omega), upd_n (by omega), upd_n (by omega)]
theorem load_bad {a1 a2 a3 : Int32} {T : pw × Nat × Fo} (hx : Fix S) (hN : S.1 + 42 ≤ ie_S) (hc : c ≤ 200) (t1 : zI S 1 0 = Int32.ofNat c) (t2 : zMI S 1 = Int32.ofNat c) (t3 : ∀ i, i < c → zAI S 1 i = zMA S 1 i ∧ 33 ≤ (zAI S 1 i).toInt ∧ (zAI S 1 i).toInt ≤ 126) (hT : T = pRow (zAI S 1) c 9 0 (0, false) 0) (hbad : T.1.2 = true ∨ T.2.2 = .nil) : ∃ X I B, Grw S X ∧ Alk_1 S a1 a2 a3 (szM (szEx (szI (szI (szI X 1 0 0) 2 0 (Int32.ofNat T.1.1)) 3 0 (-1)) 11) I B) ∧ I 0 = 1 ∧ I 1 = 0 ∧ I 2 = Int32.ofNat T.1.1 ∧ I 3 = -1 ∧ (∀ j, 10 ≤ j → I j = zMI S j) ∧ (∀ j, (j < 2 ∨ 15 < j) → B j = zMA S j) := by
  obtain ⟨⟨h0, r0, -, -⟩, ⟨h1, h2⟩, -⟩ := hx
  have hl : Ltr (zAI S 1) c := fun j hj => (t3 j hj).2
  obtain ⟨N, r1⟩ := x_bad (I := zMI S) (A := zMA S) (x1 := if a1 = 0 then 0 else 1) hT t2 hc (fun j hj => (t3 j hj).1.symm) hl hbad
  obtain ⟨X, ⟨gX, _⟩, e1⟩ := y_bad (m := N + 84) (x1 := if a1 = 0 then 0 else 1) hT (by omega) hN h0 r0 t1 h1 h2 hc rfl hl hbad
  obtain ⟨I, B, s1, s2, s3, s4, s5, s6, s7⟩ := r1 (N + 84) (by omega)
  refine ⟨X, I, B, gX, ⟨N + 84, 1, 0, _, I, B, e1, ?_, s2, fun z => absurd z (by decide), rfl⟩, s2, s3, s4, s5, s6, s7⟩
  have m1 : zMI X = zMI S := gX.2.2.2.2.2.1
  have m2 : zMA X = zMA S := gX.2.2.2.2.2.2
  show x_load (N + 84) (zMI X) (zMA X) _ = _
  rw [m1, m2]
  exact s1
end LB
