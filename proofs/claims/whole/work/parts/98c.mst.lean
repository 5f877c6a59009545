def GrI (A B : Nat → Nat → Int32) (i : Nat) (L : List Nat) : Prop := (∀ j, L.contains j = false → B j = A j) ∧ (∀ j x, x ≠ i → B j x = A j x)
section GI
variable {A B C : Nat → Nat → Int32} {i j : Nat} {L M : List Nat}
theorem GrI_r : GrI A A i L := ⟨fun _ _ => rfl, fun _ _ _ => rfl⟩
theorem GrI_t (h1 : GrI A B i L) (h2 : GrI B C i M) : GrI A C i (L ++ M) := by
  refine ⟨fun j hj => ?_, fun j x hx => (h2.2 j x hx).trans (h1.2 j x hx)⟩
  have hj' : L.contains j = false ∧ M.contains j = false := by
    rw [List.contains_append] at hj
    exact Bool.or_eq_false_iff.mp hj
  exact (h2.1 j hj'.2).trans (h1.1 j hj'.1)
theorem GrI_u (v : Int32) : GrI A (upA A j (upd (A j) i v)) i [j] := by
  refine ⟨fun k hk => ?_, fun k x hx => ?_⟩
  · unfold upA
    have : k ≠ j := by
      intro z
      subst z
      simp at hk
    rw [if_neg this]
  · unfold upA
    by_cases q : k = j
    · rw [if_pos q]
      unfold upd
      rw [if_neg hx, q]
    · rw [if_neg q]
theorem upA_s (v : Int32) : upA A j (upd (A j) i v) j i = v := by
  unfold upA
  rw [if_pos rfl]
  unfold upd
  rw [if_pos rfl]
theorem GrI_m (hs : L.all (fun x => M.contains x) = true) (h : GrI A B i L) : GrI A B i M := by
  refine ⟨fun j hj => h.1 j ?_, h.2⟩
  cases hc : L.contains j with
  | false => rfl
  | true =>
    have := List.all_eq_true.mp hs j (by simpa using hc)
    rw [hj] at this
    cases this
end GI
theorem lt_f : ∀ m : Nat, m < 127 → (rd_pty (Int32.ofNat m) = rd_in (Int32.ofNat m - 65) 6 ∧ rd_fig (Int32.ofNat m) = rd_in (Int32.ofNat m - 48) 10 ∧ rd_var (Int32.ofNat m) = rd_in (Int32.ofNat m - 119) 4) := by decide +kernel
def Ltr (f : Nat → Int32) (c : Nat) : Prop := ∀ j, j < c → 33 ≤ (f j).toInt ∧ (f j).toInt ≤ 126
theorem lt_n {f : Nat → Int32} {c j : Nat} (h : Ltr f c) (hj : j < c) : ∃ m : Nat, m < 127 ∧ f j = Int32.ofNat m := by
  obtain ⟨h1, h2⟩ := h j hj
  refine ⟨(f j).toInt.toNat, by omega, ?_⟩
  apply Int32.toInt_inj.mp
  rw [(j_n (by omega)).1]
  omega
theorem sub_iff (x p : Int32) : x - 65 = p ↔ x = 65 + p := by
  constructor
  · intro h
    rw [← h, Int32.add_comm, Int32.sub_add_cancel]
  · intro h
    rw [h, Int32.add_comm, Int32.add_sub_cancel]
def prO (p : Int32) (ch : Int32) : Bool := !decide (ch = 65 + p) && rd_in (ch - 65) 6
section VS
variable {I : Nat → Int32} {A : Nat → Nat → Int32} {k P n e c m i : Nat} {b : Bool} {f : Nat → Int32}
theorem v_other (h : Rf I A c f) (hl : Ltr f c) (hP : P ≤ c) (hi : i < 200) : ∃ A', x_readOther (V I k P b n e) A (Int32.ofNat i) = some (V I k (mwp f c (prO (A 4 i)) (P, b)).1 (mwp f c (prO (A 4 i)) (P, b)).2 n e, A', 0) ∧ GrI A A' i [5] ∧ (b = false → mwp f c (prO (A 4 i)) (P, b) = (P + 1, false) → A' 5 i = f P - 65) := by
  have hc := h.2.1
  unfold x_readOther
  rw [show V I k P b n e 4 = Int32.ofNat c from h.1, show V I k P b n e 6 = Int32.ofNat P from rfl, show V I k P b n e 7 = ty_b b from rfl]
  cases b with
  | true =>
    have ee : mwp f c (prO (A 4 i)) (P, true) = (P, true) := rfl
    rw [ee, tb1]
    exact ⟨A, rfl, GrI_r, fun z => Bool.noConfusion z⟩
  | false =>
    rw [tb0]
    by_cases q : P < c
    · rw [if_pos (show Int32.ofNat P < Int32.ofNat c from (j_lt (by omega) (by omega)).mpr q)]
      have el : rd_la f c P = f P := by unfold rd_la; rw [if_pos q]
      have e1 := v_now (I := I) (k := k) (b := false) (n := n) (e := e) h hP
      rw [el] at e1
      obtain ⟨ch, hch, hfc⟩ := lt_n hl q
      have hpt : rd_pty (f P) = rd_in (f P - 65) 6 := by rw [hfc]; exact (lt_f ch hch).1
      by_cases q1 : rd_pty (f P) = true
      · by_cases q2 : f P - 65 = A 4 i
        · have ee : mwp f c (prO (A 4 i)) (P, false) = (P, true) := by
            have : prO (A 4 i) (f P) = false := by
              unfold prO
              rw [decide_eq_true ((sub_iff _ _).mp q2)]
              rfl
            simp [mwp, q, this]
          rw [ee]
          refine ⟨A, ?_, GrI_r, fun _ z => by cases z⟩
          refine (xb_some e1).trans ?_
          rw [q1, tb1]
          refine (xb_some e1).trans ?_
          rw [if_pos (show ib (Int32.ofNat i) 200 from j_in (by omega) hi), (j_n (n := i) (by omega)).2, if_pos q2, V_7t]
        · have ee : mwp f c (prO (A 4 i)) (P, false) = (P + 1, false) := by
            have : prO (A 4 i) (f P) = true := by
              unfold prO
              rw [decide_eq_false (fun z => q2 ((sub_iff _ _).mpr z)), ← hpt, q1]
              rfl
            simp [mwp, q, this]
          rw [ee]
          refine ⟨upA A 5 (upd (A 5) i (f P - 65)), ?_, GrI_u _, fun _ _ => upA_s _⟩
          refine (xb_some e1).trans ?_
          rw [q1, tb1]
          refine (xb_some e1).trans ?_
          rw [if_pos (show ib (Int32.ofNat i) 200 from j_in (by omega) hi), (j_n (n := i) (by omega)).2, if_neg q2, V_7f]
          refine (xb_some e1).trans ?_
          rw [show V I k P false n e 6 = Int32.ofNat P from rfl, show (1 : Int32) = Int32.ofNat 1 from rfl, ty_add, V_6]
      · have q1' : rd_pty (f P) = false := by simpa using q1
        have ee : mwp f c (prO (A 4 i)) (P, false) = (P, true) := by
          have : prO (A 4 i) (f P) = false := by
            unfold prO
            rw [← hpt, q1', Bool.and_false]
          simp [mwp, q, this]
        rw [ee]
        refine ⟨A, ?_, GrI_r, fun _ z => by cases z⟩
        refine (xb_some e1).trans ?_
        rw [q1', tb0, V_7t]
    · have ee : mwp f c (prO (A 4 i)) (P, false) = (P, false) := by simp [mwp, q]
      rw [if_neg (show ¬ Int32.ofNat P < Int32.ofNat c from mt (j_lt (by omega) (by omega)).mp q), ee]
      refine ⟨A, rfl, GrI_r, fun _ z => ?_⟩
      have : P = P + 1 := congrArg Prod.fst z
      omega
end VS
