section MH
variable {I : Nat → Int32} {A : Nat → Nat → Int32} {k P n e c m : Nat} {f : Nat → Int32}
theorem m_bad (h : Rf I A c f) (hl : Ltr f c) (hP : P < c) (hn : n ≤ 40) (hb : rd_in (f P - 65) 6 = false ∨ n = 40) : x_readStatement m (V I k P false n e) A = some (V I k P true n e, A, 0) := by
  have hc := h.2.1
  have el : rd_la f c P = f P := by unfold rd_la; rw [if_pos hP]
  have e1 := v_now (I := I) (k := k) (b := false) (n := n) (e := e) h (show P ≤ c by omega)
  rw [el] at e1
  obtain ⟨ch, hch, hfc⟩ := lt_n hl hP
  have hpt : rd_pty (f P) = rd_in (f P - 65) 6 := by rw [hfc]; exact (lt_f ch hch).1
  unfold x_readStatement
  refine (xb_some e1).trans ?_
  cases q : rd_pty (f P) with
  | false => rw [tb0, V_7t]
  | true =>
    have hn40 : n = 40 := by
      rcases hb with z | z
      · rw [← hpt, q] at z; cases z
      · exact z
    rw [tb1, show V I k P false n e 8 = Int32.ofNat n from rfl, if_pos (show Int32.ofNat n = 40 by rw [hn40]; rfl), V_7t]
theorem m_head (h : Rf I A c f) (hl : Ltr f c) (hP : P < c) (hk : k ≤ P) (hn : n < 40) (hp : rd_in (f P - 65) 6 = true) : ∃ A1, GrI A A1 k [9, 4, 5, 14] ∧ A1 9 k = Int32.ofNat P ∧ A1 4 k = f P - 65 ∧ A1 5 k = -1 ∧ A1 14 k = 0 ∧ ∀ m, x_readStatement m (V I k P false n e) A = (if P + 1 < c then (if f (P + 1) = 33 then xb (x_readTell (V I (k + 1) (P + 1) false (n + 1) e) A1 (Int32.ofNat k)) (fun I4 A4 _ => some (I4, A4, 0)) else if f (P + 1) = 63 ∨ f (P + 1) = 64 then x_readStatement_151 m (V I (k + 1) (P + 1) false (n + 1) e) A1 (Int32.ofNat k) (f (P + 1)) else xb (x_readValue m (V I (k + 1) (P + 1) false (n + 1) e) A1 (Int32.ofNat k)) (fun I4 A4 _ => some (I4, A4, 0))) else some (V I (k + 1) (P + 1) false (n + 1) e, A1, 0)) := by
  have hc := h.2.1
  have el : rd_la f c P = f P := by unfold rd_la; rw [if_pos hP]
  have e1 := v_now (I := I) (k := k) (b := false) (n := n) (e := e) h (show P ≤ c by omega)
  rw [el] at e1
  obtain ⟨ch, hch, hfc⟩ := lt_n hl hP
  have hpt : rd_pty (f P) = true := by
    have : rd_pty (f P) = rd_in (f P - 65) 6 := by rw [hfc]; exact (lt_f ch hch).1
    rw [this]; exact hp
  have g0 : GrI A (upA A 9 (upd (A 9) k (Int32.ofNat P))) k [9] := GrI_u _
  have h0 : Rf I (upA A 9 (upd (A 9) k (Int32.ofNat P))) c f := Rf_g h g0 rfl
  have z9 : upA A 9 (upd (A 9) k (Int32.ofNat P)) 9 k = Int32.ofNat P := upA_s _
  generalize hB0 : upA A 9 (upd (A 9) k (Int32.ofNat P)) = B at g0 h0 z9
  have g1 : GrI B (upA (upA (upA B 4 (upd (B 4) k (f P - 65))) 5 (upd (B 5) k (-1))) 14 (upd (B 14) k 0)) k (([4] ++ [5]) ++ [14]) := GrI_t (GrI_t (GrI_u _) (GrI_u _)) (GrI_u _)
  have h1 : Rf I (upA (upA (upA B 4 (upd (B 4) k (f P - 65))) 5 (upd (B 5) k (-1))) 14 (upd (B 14) k 0)) c f := Rf_g h0 g1 rfl
  have y4 : upA (upA (upA B 4 (upd (B 4) k (f P - 65))) 5 (upd (B 5) k (-1))) 14 (upd (B 14) k 0) 4 k = f P - 65 := (show upA B 4 (upd (B 4) k (f P - 65)) 4 k = _ from upA_s _)
  have y5 : upA (upA (upA B 4 (upd (B 4) k (f P - 65))) 5 (upd (B 5) k (-1))) 14 (upd (B 14) k 0) 5 k = -1 := (show upA (upA B 4 (upd (B 4) k (f P - 65))) 5 (upd (upA B 4 (upd (B 4) k (f P - 65)) 5) k (-1)) 5 k = _ from upA_s _)
  have y14 : upA (upA (upA B 4 (upd (B 4) k (f P - 65))) 5 (upd (B 5) k (-1))) 14 (upd (B 14) k 0) 14 k = 0 := (show upA (upA (upA B 4 (upd (B 4) k (f P - 65))) 5 (upd (B 5) k (-1))) 14 (upd (upA (upA B 4 (upd (B 4) k (f P - 65))) 5 (upd (B 5) k (-1)) 14) k 0) 14 k = _ from upA_s _)
  have y9 : upA (upA (upA B 4 (upd (B 4) k (f P - 65))) 5 (upd (B 5) k (-1))) 14 (upd (B 14) k 0) 9 k = Int32.ofNat P := z9
  generalize hA1 : upA (upA (upA B 4 (upd (B 4) k (f P - 65))) 5 (upd (B 5) k (-1))) 14 (upd (B 14) k 0) = A1 at g1 h1 y4 y5 y14 y9
  refine ⟨A1, GrI_m (by decide) (GrI_t g0 g1), y9, y4, y5, y14, fun m => ?_⟩
  have e2 := v_now (I := I) (k := k + 1) (b := false) (n := n + 1) (e := e) h0 (show P ≤ c by omega)
  rw [el] at e2
  unfold x_readStatement
  refine (xb_some e1).trans ?_
  rw [hpt, tb1, show V I k P false n e 8 = Int32.ofNat n from rfl, if_neg (show ¬ Int32.ofNat n = 40 from fun z => by have := (j_eq (n := 40) (by omega) (by decide)).mp z; omega), show V I k P false n e 5 = Int32.ofNat k from rfl, if_pos (show ib (Int32.ofNat k) 200 from j_in (by omega) (by omega)), show V I k P false n e 6 = Int32.ofNat P from rfl, (j_n (n := k) (by omega)).2, show (1 : Int32) = Int32.ofNat 1 from rfl, ty_add, ty_add, V_7f, V_5, V_8, hB0]
  refine (xb_some e2).trans ?_
  have hA1' : upA (upA (upA B 4 (upd (B 4) k (f P - 65))) 5 (upd (B 5) k (-Int32.ofNat 1))) 14 (upd (B 14) k 0) = A1 := hA1
  rw [show V I (k + 1) P false (n + 1) e 6 = Int32.ofNat P from rfl, ty_add, show V I (k + 1) P false (n + 1) e 4 = Int32.ofNat c from h.1, V_6, hA1']
  by_cases q : P + 1 < c
  · rw [if_pos (show Int32.ofNat (P + 1) < Int32.ofNat c from (j_lt (by omega) (by omega)).mpr q), if_pos q]
    have el3 : rd_la f c (P + 1) = f (P + 1) := by unfold rd_la; rw [if_pos q]
    have e3 := v_now (I := I) (k := k + 1) (b := false) (n := n + 1) (e := e) h1 (show P + 1 ≤ c by omega)
    rw [el3] at e3
    refine (xb_some e3).trans ?_
    by_cases q1 : f (P + 1) = 33
    · rw [if_pos q1, if_pos q1]
    · rw [if_neg q1, if_neg q1]
      by_cases q2 : f (P + 1) = 63
      · rw [if_pos (Or.inl q2), if_pos q2]
      · by_cases q3 : f (P + 1) = 64
        · rw [if_pos (Or.inr q3), if_neg q2, if_pos q3]
        · rw [if_neg (show ¬ (f (P + 1) = 63 ∨ f (P + 1) = 64) from fun z => Or.elim z q2 q3), if_neg q2, if_neg q3]
  · rw [if_neg (show ¬ Int32.ofNat (P + 1) < Int32.ofNat c from mt (j_lt (by omega) (by omega)).mp q), if_neg q]
end MH
