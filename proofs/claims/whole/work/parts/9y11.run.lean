def TX (A : Nat → Nat → Int32) (p : Nat) (T : List Nat) : Prop := p < 6 ∧ A 27 p = Int32.ofNat T.length ∧ At (A 26) (1000 * p) T ∧ T.length ≤ 900 ∧ ∀ c, c ∈ T → c < 256
def Sgt (T : List Nat) (k : Nat) (L : List Nat) : Prop := ∃ u w, T = u ++ (L ++ w) ∧ u.length = k
def Blc (L : List Nat) : Prop := ∀ (Φ : List Nat → Prop), Φ [] → (∀ u v, Φ u → Φ v → Φ (u ++ v)) → (∀ u, (∀ c, c ∈ u → c ≠ 123 ∧ c ≠ 125) → Φ u) → (∀ u, Φ u → Φ (123 :: (u ++ [125]))) → Φ L
section TXS
variable {T u v L : List Nat} {k p : Nat} {A : Nat → Nat → Int32} {I : Nat → Int32}
theorem Sgt_0 : Sgt T 0 T := ⟨[], [], by simp, rfl⟩
theorem Sgt_le (h : Sgt T k L) : k + L.length ≤ T.length := by
  obtain ⟨a, w, rfl, rfl⟩ := h
  rw [List.length_append, List.length_append]
  omega
theorem Sgt_l (h : Sgt T k (u ++ v)) : Sgt T k u := by
  obtain ⟨a, w, e, f⟩ := h
  exact ⟨a, v ++ w, by rw [e, List.append_assoc], f⟩
theorem Sgt_r (h : Sgt T k (u ++ v)) : Sgt T (k + u.length) v := by
  obtain ⟨a, w, e, f⟩ := h
  exact ⟨a ++ u, w, by rw [e, List.append_assoc, List.append_assoc], by rw [List.length_append, f]⟩
theorem Sgt_c {c : Nat} (h : Sgt T k (c :: v)) : Sgt T (k + 1) v := Sgt_r (u := [c]) h
theorem Sgt_g {c : Nat} (h : Sgt T k (c :: v)) : T.getD k 0 = c := by
  obtain ⟨a, w, e, f⟩ := h
  rw [e, List.getD_eq_getElem?_getD, List.getElem?_append_right (by omega), f, Nat.sub_self]
  rfl
theorem Sgt_e (h : T.length ≤ k) : T.getD k 0 = 0 := by
  rw [List.getD_eq_getElem?_getD, List.getElem?_eq_none h]
  rfl
theorem Sgt_m {c : Nat} (h : Sgt T k (c :: v)) : k < T.length ∧ c ∈ T := by
  have := Sgt_le h
  obtain ⟨a, w, e, f⟩ := h
  refine ⟨by rw [List.length_cons] at this; omega, ?_⟩
  rw [e]
  simp
theorem chr (h : TX A p T) (hk : k < 2 ^ 20) : x_charAt I A (Int32.ofNat p) (Int32.ofNat k) = some (I, A, Int32.ofNat (T.getD k 0)) := by
  obtain ⟨h1, h2, h3, h4, h5⟩ := h
  unfold x_charAt
  rw [if_pos (j_in (by omega) h1), (j_n (n := p) (by omega)).2, h2]
  by_cases q : T.length ≤ k
  · rw [if_pos ((j_le (by omega) (by omega)).mpr q), Sgt_e q]
    rfl
  · rw [if_neg (mt (j_le (by omega) (by omega)).mp q)]
    have e : (1000 : Int32) * Int32.ofNat p + Int32.ofNat k = Int32.ofNat (1000 * p + k) := by
      rw [show (1000 : Int32) = Int32.ofNat 1000 from rfl, ← Int32.ofNat_mul, ty_add]
    rw [e, if_pos (j_in (by omega) (by omega)), (j_n (n := 1000 * p + k) (by omega)).2, At_get T _ k h3 (by omega)]
theorem cq {c e : Nat} {x : Int32} (hc : c < 256) (he : e < 256) (hx : x = Int32.ofNat e) : Int32.ofNat c = x ↔ c = e := ⟨fun z => by
    have := congrArg Int32.toInt z
    rw [hx, (j_n (by omega)).1, (j_n (by omega)).1] at this
    omega, fun z => by rw [z, hx]⟩
theorem cq33 {c : Nat} (hc : c < 256) : Int32.ofNat c = 33 ↔ c = 33 := cq hc (by decide) rfl
theorem cq58 {c : Nat} (hc : c < 256) : Int32.ofNat c = 58 ↔ c = 58 := cq hc (by decide) rfl
theorem cq62 {c : Nat} (hc : c < 256) : Int32.ofNat c = 62 ↔ c = 62 := cq hc (by decide) rfl
theorem cq63 {c : Nat} (hc : c < 256) : Int32.ofNat c = 63 ↔ c = 63 := cq hc (by decide) rfl
theorem cq64 {c : Nat} (hc : c < 256) : Int32.ofNat c = 64 ↔ c = 64 := cq hc (by decide) rfl
theorem cq123 {c : Nat} (hc : c < 256) : Int32.ofNat c = 123 ↔ c = 123 := cq hc (by decide) rfl
theorem cq125 {c : Nat} (hc : c < 256) : Int32.ofNat c = 125 ↔ c = 125 := cq hc (by decide) rfl
theorem nz {d : Nat} (h : 1 ≤ d) (h2 : d < 2 ^ 31) : ¬ Int32.ofNat d ≤ 0 := fun z => by
  have := (j_le (m := d) (n := 0) h2 (by decide)).mp z
  omega
theorem Blc_0 : Blc [] := fun Φ h _ _ _ => h
theorem Blc_a (h1 : Blc u) (h2 : Blc v) : Blc (u ++ v) := fun Φ a b c d => b u v (h1 Φ a b c d) (h2 Φ a b c d)
theorem Blc_n (h : ∀ c, c ∈ u → c ≠ 123 ∧ c ≠ 125) : Blc u := fun Φ a b c d => c u h
theorem Blc_b (h : Blc u) : Blc (123 :: (u ++ [125])) := fun Φ a b c d => d u (h Φ a b c d)
theorem tx_blc : ∀ (t : Fo) (m : Bool), So m t → WK m t → (m = true → Blc (tx 0 t)) ∧ (m = false → Blc (tx 1 t) ∧ Blc (tx 2 t)) := So_ind (P := fun m t => WK m t → (m = true → Blc (tx 0 t)) ∧ (m = false → Blc (tx 1 t) ∧ Blc (tx 2 t))) (fun m _ => ⟨fun _ => by rw [tx_n]; exact Blc_0, fun _ => ⟨by rw [tx_n]; exact Blc_0, by rw [tx_n]; exact Blc_0⟩⟩) (fun m n k r _ _ _ ihk ihr hw => by
    cases m with
    | true =>
      refine ⟨fun _ => ?_, fun z => Bool.noConfusion z⟩
      obtain ⟨w1, w2, w3, w4⟩ := hw
      rw [tx_cn]
      refine Blc_a (Blc_n (fun c hc => hdt_nb w1 hc)) (Blc_a ?_ ((ihr w4).1 rfl))
      split
      · exact ((ihk w3).2 rfl).1
      · exact ((ihk w3).2 rfl).2
    | false =>
      refine ⟨fun z => Bool.noConfusion z, fun _ => ?_⟩
      obtain ⟨w1, w2, w3⟩ := hw
      have b := Blc_b ((ihk w2).1 rfl)
      have e : ∀ w, 123 :: (tx 0 k ++ 125 :: w) = (123 :: (tx 0 k ++ [125])) ++ w := fun w => by simp
      rw [tx_1, tx_2, e (tx 1 r), e (tx 2 r)]
      refine ⟨?_, Blc_a b ((ihr w3).2 rfl).2⟩
      exact Blc_a (u := [48 + n]) (Blc_n (fun c hc => by rw [List.mem_singleton.mp hc]; omega)) (Blc_a b ((ihr w3).2 rfl).1))
def Ovr (L : List Nat) : Prop := ∀ (A : Nat → Nat → Int32) (I : Nat → Int32) (p : Nat) (T : List Nat) (j d N : Nat), TX A p T → Sgt T (j + 1) L → 1 ≤ d → d + L.length < 2 ^ 20 → x_closing_5 (N + L.length) I A (Int32.ofNat p) (Int32.ofNat j) (Int32.ofNat d) = x_closing_5 N I A (Int32.ofNat p) (Int32.ofNat (j + L.length)) (Int32.ofNat d)
theorem clo_1 {j d N c : Nat} (h : TX A p T) (hs : Sgt T (j + 1) (c :: v)) (hd : 1 ≤ d) (hd2 : d < 2 ^ 20) : x_closing_5 (N + 1) I A (Int32.ofNat p) (Int32.ofNat j) (Int32.ofNat d) = x_closing_5 N I A (Int32.ofNat p) (Int32.ofNat (j + 1)) (Int32.ofNat (if c = 123 then d + 1 else if c = 125 then d - 1 else d)) := by
  have hm := Sgt_m hs
  have hc : c < 256 := h.2.2.2.2 c hm.2
  have hl := h.2.2.2.1
  rw [x_closing_5, if_neg (nz hd (by omega)), o1]
  refine (xb_some (chr h (by omega))).trans ?_
  rw [Sgt_g hs]
  by_cases q1 : c = 123
  · rw [if_pos ((cq hc (e := 123) (x := 123) (by decide) rfl).mpr q1), if_pos q1, o1]
  · rw [if_neg (mt (cq hc (e := 123) (x := 123) (by decide) rfl).mp q1), if_neg q1]
    by_cases q2 : c = 125
    · rw [if_pos ((cq hc (e := 125) (x := 125) (by decide) rfl).mpr q2), if_pos q2, o_m1 hd]
    · rw [if_neg (mt (cq hc (e := 125) (x := 125) (by decide) rfl).mp q2), if_neg q2, Int32.add_zero]
theorem Ovr_0 : Ovr [] := fun A I p T j d N _ _ _ _ => rfl
theorem Ovr_a (h1 : Ovr u) (h2 : Ovr v) : Ovr (u ++ v) := fun A I p T j d N ht hs hd hl => by
  rw [List.length_append] at hl ⊢
  rw [← Nat.add_assoc, Nat.add_right_comm, h1 A I p T j d (N + v.length) ht (Sgt_l hs) hd (by omega), h2 A I p T (j + u.length) d N ht (by have := Sgt_r hs; rw [Nat.add_right_comm] at this; exact this) hd (by omega), Nat.add_assoc]
theorem Ovr_n : ∀ (u : List Nat), (∀ c, c ∈ u → c ≠ 123 ∧ c ≠ 125) → Ovr u
  | [], _ => Ovr_0
  | c :: u, h => fun A I p T j d N ht hs hd hl => by
    have hc := h c List.mem_cons_self
    rw [List.length_cons] at hl ⊢
    rw [← Nat.add_assoc, clo_1 ht hs hd (by omega), if_neg hc.1, if_neg hc.2, Ovr_n u (fun d hd => h d (List.mem_cons_of_mem _ hd)) A I p T (j + 1) d N ht (Sgt_c hs) hd (by omega)]
    rw [show j + 1 + u.length = j + (u.length + 1) by omega]
theorem Ovr_b (h : Ovr u) : Ovr (123 :: (u ++ [125])) := fun A I p T j d N ht hs hd hl => by
  have e : (123 :: (u ++ [125])).length = u.length + 2 := by simp
  rw [e] at hl ⊢
  have s1 := Sgt_c hs
  have s2 := Sgt_r s1
  rw [show N + (u.length + 2) = N + 1 + u.length + 1 by omega, clo_1 ht hs hd (by omega), if_pos rfl, h A I p T (j + 1) (d + 1) (N + 1) ht (Sgt_l s1) (by omega) (by omega), clo_1 ht (by rw [show j + 1 + u.length + 1 = j + 1 + 1 + u.length by omega]; exact s2) (by omega) (by omega), if_neg (by decide), if_pos rfl, Nat.add_sub_cancel, show j + 1 + u.length + 1 = j + (u.length + 2) by omega]
theorem Blc_o (h : Blc L) : Ovr L := h Ovr Ovr_0 (fun _ _ => Ovr_a) Ovr_n (fun _ => Ovr_b)
theorem closing_ok {N : Nat} (h : TX A p T) (hs : Sgt T k (123 :: (L ++ 125 :: v))) (hb : Blc L) (hN : L.length + 3 ≤ N) : x_closing N I A (Int32.ofNat p) (Int32.ofNat k) = some (I, A, Int32.ofNat (k + 1 + L.length)) := by
  have hl := h.2.2.2.1
  have hle := Sgt_le hs
  have e : (123 :: (L ++ 125 :: v)).length = L.length + v.length + 2 := by simp; omega
  rw [e] at hle
  obtain ⟨N, rfl⟩ : ∃ M, N = M + 1 + 1 + L.length := ⟨N - 2 - L.length, by omega⟩
  have s1 := Sgt_c hs
  have s2 := Sgt_r s1
  unfold x_closing
  rw [show (1 : Int32) = Int32.ofNat 1 from rfl, Blc_o hb A I p T k 1 (N + 1 + 1) h (Sgt_l s1) (by omega) (by omega), clo_1 h (by rw [show k + L.length + 1 = k + 1 + L.length by omega]; exact s2) (by omega) (by omega), if_neg (by decide), if_pos rfl, x_closing_5, if_pos (by decide), show k + L.length + 1 = k + 1 + L.length by omega]
def Ovb (L : List Nat) : Prop := ∀ (A : Nat → Nat → Int32) (I : Nat → Int32) (p : Nat) (T : List Nat) (j d N : Nat), TX A p T → Sgt T j L → 1 ≤ d → d + L.length < 2 ^ 20 → x_opening_5 (N + L.length) I A (Int32.ofNat p) (Int32.ofNat (j + L.length)) (Int32.ofNat d) = x_opening_5 N I A (Int32.ofNat p) (Int32.ofNat j) (Int32.ofNat d)
theorem ope_1 {j d N c : Nat} (h : TX A p T) (hs : Sgt T j (c :: v)) (hd : 1 ≤ d) (hd2 : d < 2 ^ 20) : x_opening_5 (N + 1) I A (Int32.ofNat p) (Int32.ofNat (j + 1)) (Int32.ofNat d) = x_opening_5 N I A (Int32.ofNat p) (Int32.ofNat j) (Int32.ofNat (if c = 125 then d + 1 else if c = 123 then d - 1 else d)) := by
  have hm := Sgt_m hs
  have hc : c < 256 := h.2.2.2.2 c hm.2
  have hl := h.2.2.2.1
  rw [x_opening_5, if_neg (nz hd (by omega)), o_m1 (by omega), Nat.add_sub_cancel]
  refine (xb_some (chr h (by omega))).trans ?_
  rw [Sgt_g hs]
  by_cases q1 : c = 125
  · rw [if_pos ((cq hc (e := 125) (x := 125) (by decide) rfl).mpr q1), if_pos q1, o1]
  · rw [if_neg (mt (cq hc (e := 125) (x := 125) (by decide) rfl).mp q1), if_neg q1]
    by_cases q2 : c = 123
    · rw [if_pos ((cq hc (e := 123) (x := 123) (by decide) rfl).mpr q2), if_pos q2, o_m1 hd]
    · rw [if_neg (mt (cq hc (e := 123) (x := 123) (by decide) rfl).mp q2), if_neg q2, Int32.add_zero]
theorem Ovb_0 : Ovb [] := fun A I p T j d N _ _ _ _ => rfl
theorem Ovb_a (h1 : Ovb u) (h2 : Ovb v) : Ovb (u ++ v) := fun A I p T j d N ht hs hd hl => by
  rw [List.length_append] at hl ⊢
  rw [show N + (u.length + v.length) = N + u.length + v.length by omega, show j + (u.length + v.length) = j + u.length + v.length by omega, h2 A I p T (j + u.length) d (N + u.length) ht (Sgt_r hs) hd (by omega), h1 A I p T j d N ht (Sgt_l hs) hd (by omega)]
theorem Ovb_n : ∀ (u : List Nat), (∀ c, c ∈ u → c ≠ 123 ∧ c ≠ 125) → Ovb u
  | [], _ => Ovb_0
  | c :: u, h => fun A I p T j d N ht hs hd hl => by
    have hc := h c List.mem_cons_self
    rw [List.length_cons] at hl ⊢
    have a := Ovb_n u (fun d hd => h d (List.mem_cons_of_mem _ hd)) A I p T (j + 1) d (N + 1) ht (Sgt_c hs) hd (by omega)
    rw [show N + (u.length + 1) = N + 1 + u.length by omega, show j + (u.length + 1) = j + 1 + u.length by omega, a, ope_1 ht hs hd (by omega), if_neg hc.2, if_neg hc.1]
theorem Ovb_b (h : Ovb u) : Ovb (123 :: (u ++ [125])) := fun A I p T j d N ht hs hd hl => by
  have e : (123 :: (u ++ [125])).length = u.length + 2 := by simp
  rw [e] at hl ⊢
  have s1 := Sgt_c hs
  have s2 := Sgt_r s1
  rw [show N + (u.length + 2) = N + 1 + u.length + 1 by omega, show j + (u.length + 2) = j + 1 + u.length + 1 by omega, ope_1 ht s2 hd (by omega), if_pos rfl, h A I p T (j + 1) (d + 1) (N + 1) ht (Sgt_l s1) (by omega) (by omega), ope_1 ht hs (by omega) (by omega), if_neg (by decide), if_pos rfl, Nat.add_sub_cancel]
theorem Blc_p (h : Blc L) : Ovb L := h Ovb Ovb_0 (fun _ _ => Ovb_a) Ovb_n (fun _ => Ovb_b)
theorem opening_ok {N : Nat} (h : TX A p T) (hs : Sgt T k (123 :: (L ++ 125 :: v))) (hb : Blc L) (hN : L.length + 3 ≤ N) : x_opening N I A (Int32.ofNat p) (Int32.ofNat (k + 1 + L.length)) = some (I, A, Int32.ofNat k) := by
  have hl := h.2.2.2.1
  have hle := Sgt_le hs
  have e : (123 :: (L ++ 125 :: v)).length = L.length + v.length + 2 := by simp; omega
  rw [e] at hle
  obtain ⟨N, rfl⟩ : ∃ M, N = M + 1 + 1 + L.length := ⟨N - 2 - L.length, by omega⟩
  have s1 := Sgt_c hs
  unfold x_opening
  rw [show (1 : Int32) = Int32.ofNat 1 from rfl, Blc_p hb A I p T (k + 1) 1 (N + 1 + 1) h (Sgt_l s1) (by omega) (by omega), ope_1 h hs (by omega) (by omega), if_neg (by decide), if_pos rfl, x_opening_5, if_pos (by decide)]
end TXS
