theorem xtf_m : ∀ (f e c : Nat), c ∈ xtf f e → 0 < c ∧ c < 256
  | 0, _, _, h => by cases h
  | f + 1, e, c, h => by
    unfold xtf at h
    split at h
    · cases h
    · next q =>
      rw [List.mem_cons] at h
      rcases h with rfl | h
      · have := Nat.mod_lt e (show 256 > 0 by decide)
        omega
      · exact xtf_m f _ c h
theorem hdt_sml {n : Nat} : Sml (hdt n) := by
  intro c hc
  have hv := cV_lt n
  have ho := cO_lt n
  have hl := cL_lt n
  unfold hdt at hc
  have hx : ∀ c, c ∈ xt (cE n) → 0 < c ∧ c < 256 := fun c h => xtf_m _ _ _ h
  split at hc
  · simp only [List.mem_cons, List.mem_append, List.not_mem_nil, or_false] at hc
    rcases hc with h | h | h | h
    · omega
    · omega
    · exact hx c h
    · omega
  · split at hc
    · simp only [List.mem_cons, List.mem_append, List.not_mem_nil, or_false] at hc
      rcases hc with h | h | h | h
      · exact hx c h
      · omega
      · omega
      · omega
    · split at hc
      · simp only [List.mem_cons, List.not_mem_nil, or_false] at hc
        omega
      · split at hc
        · simp only [List.mem_cons, List.not_mem_nil, or_false] at hc
          omega
        · split at hc
          · simp only [List.mem_cons, List.not_mem_nil, or_false] at hc
            omega
          · split at hc
            · simp only [List.mem_cons] at hc
              rcases hc with h | h
              · omega
              · exact hx c h
            · split at hc
              · simp only [List.mem_cons, List.mem_append] at hc
                rcases hc with h | h | h
                · omega
                · exact hx c h
                · have := ldl_m h
                  omega
              · simp only [List.mem_cons, List.not_mem_nil, or_false] at hc
                omega
theorem tx_sml : ∀ (t : Fo) (m : Bool), So m t → WK m t → (m = true → Sml (tx 0 t)) ∧ (m = false → Sml (tx 1 t) ∧ Sml (tx 2 t)) := So_ind (P := fun m t => WK m t → (m = true → Sml (tx 0 t)) ∧ (m = false → Sml (tx 1 t) ∧ Sml (tx 2 t))) (fun m _ => ⟨fun _ => by rw [tx_n]; exact fun c h => (by cases h), fun _ => by rw [tx_n, tx_n]; exact ⟨fun c h => (by cases h), fun c h => by cases h⟩⟩) (fun m n k r _ _ _ ihk ihr hw => by
    cases m with
    | true =>
      obtain ⟨h1, h2, h3, h4⟩ := hw
      refine ⟨fun _ => ?_, fun z => Bool.noConfusion z⟩
      rw [tx_cn]
      intro c hc
      rw [List.mem_append, List.mem_append] at hc
      rcases hc with hc | hc | hc
      · exact hdt_sml c hc
      · have := (ihk h3).2 rfl
        split at hc
        · exact this.1 c hc
        · exact this.2 c hc
      · exact (ihr h4).1 rfl c hc
    | false =>
      obtain ⟨h1, h2, h3⟩ := hw
      refine ⟨fun z => Bool.noConfusion z, fun _ => ⟨fun c hc => ?_, fun c hc => ?_⟩⟩
      · rw [tx_1] at hc
        simp only [List.mem_cons, List.mem_append] at hc
        rcases hc with hc | hc | hc | hc | hc
        · omega
        · omega
        · exact (ihk h2).1 rfl c hc
        · omega
        · exact ((ihr h3).2 rfl).1 c hc
      · rw [tx_2] at hc
        simp only [List.mem_cons, List.mem_append] at hc
        rcases hc with hc | hc | hc | hc
        · omega
        · exact (ihk h2).1 rfl c hc
        · omega
        · exact ((ihr h3).2 rfl).2 c hc)
theorem upA_id (A : Nat → Nat → Int32) (j : Nat) : upA A j (A j) = A := by
  funext i
  unfold upA
  split
  · next h => rw [h]
  · rfl
theorem join_ok {I : Nat → Int32} {A : Nat → Nat → Int32} {a b : Fo} {n : Nat} (sa : So true a) (sb : So true b) (wa : WK true a) (wb : WK true b) (hI : I 14 = Int32.ofNat (tx 0 a).length) (hJ : I 15 = Int32.ofNat (tx 0 b).length) (ha : At (A 30) 0 (tx 0 a)) (hb : At (A 31) 0 (tx 0 b)) (hl : (tx 0 a).length + (tx 0 b).length ≤ 1000) (hn : (tx 0 a).length + (tx 0 b).length + 1 < n) : (∀ c, J true a b = some c → ∃ g, x_join n I A = some (upd I 16 (Int32.ofNat (tx 0 c).length), upA A 32 g, 1) ∧ At g 0 (tx 0 c) ∧ (tx 0 c).length ≤ 1000) ∧ (J true a b = none → ∃ g o, x_join n I A = some (upd I 16 o, upA A 32 g, 0)) := by
  obtain ⟨q1, q2⟩ := tj_J sa sb wa wb n (by omega)
  have pv : ∀ F, Pv F 0 0 := fun F => ⟨by decide, fun _ => by decide, fun z => by omega⟩
  have e0 : x_join n I A = x_join_9 n (upd I 16 (Int32.ofNat ([] : List Nat).length)) (upA A 32 (A 32)) (Int32.ofNat 0) (Int32.ofNat 0) := by
    rw [upA_id]
    rfl
  have sim := fun b' o h => j_sim (I := I) (A := A) n 0 (tx 0 a) 0 (tx 0 b) [] 0 0 (A 32) b' o h (by rw [hI]; congr 1; omega) (by rw [hJ]; congr 1; omega) ha hb (by omega) (by omega) (by simp; omega) ((tx_sml a true sa wa).1 rfl) ((tx_sml b true sb wb).1 rfl) (pv _) (pv _) hn trivial
  refine ⟨fun c hc => ?_, fun h => ?_⟩
  · obtain ⟨g, e1, e2, e3⟩ := sim true (tx 0 c) (q1 c hc)
    exact ⟨g, e0.trans e1, e2, e3⟩
  · obtain ⟨o, ho⟩ := q2 h
    obtain ⟨g, e1, e2, e3⟩ := sim false o ho
    exact ⟨g, _, e0.trans e1⟩
def FrC (I : Nat → Int32) (A : Nat → Nat → Int32) (I' : Nat → Int32) (A' : Nat → Nat → Int32) : Prop := (∀ k, k < 12 ∨ 16 < k → I' k = I k) ∧ (∀ j, j < 28 ∨ 32 < j → A' j = A j)
def CS (I : Nat → Int32) (A : Nat → Nat → Int32) (b os cur : List Nat) : Prop := I 12 = Int32.ofNat (b.length + cur.length) ∧ At (A 28) 0 (b ++ cur) ∧ I 13 = Int32.ofNat os.length ∧ At (A 29) 0 (os ++ [b.length]) ∧ os.length < 19
def Ads (I : Nat → Int32) (A : Nat → Nat → Int32) (b os cur u : List Nat) (x : Option xR) : Prop := ∃ I' A', x = some (I', A', 0) ∧ CS I' A' b os (cur ++ u) ∧ FrC I A I' A' ∧ I' 14 = I 14 ∧ I' 15 = I 15 ∧ I' 16 = I 16 ∧ A' 30 = A 30 ∧ A' 31 = A 31 ∧ A' 32 = A 32
section CT
variable {I I' I2 : Nat → Int32} {A A' A2 : Nat → Nat → Int32} {b os cur u v l : List Nat} {c n k i : Nat}
theorem FrC_r : FrC I A I A := ⟨fun _ _ => rfl, fun _ _ => rfl⟩
theorem FrC_t (h1 : FrC I A I' A') (h2 : FrC I' A' I2 A2) : FrC I A I2 A2 := ⟨fun k hk => (h2.1 k hk).trans (h1.1 k hk), fun j hj => (h2.2 j hj).trans (h1.2 j hj)⟩
theorem Ads_0 (h : CS I A b os cur) : Ads I A b os cur [] (some (I, A, 0)) := ⟨I, A, rfl, by rw [List.append_nil]; exact h, FrC_r, rfl, rfl, rfl, rfl, rfl, rfl⟩
theorem Ads_b {x : Option xR} {F : (Nat → Int32) → (Nat → Nat → Int32) → Int32 → Option xR} (h1 : Ads I A b os cur u x) (h2 : ∀ I' A', CS I' A' b os (cur ++ u) → FrC I A I' A' → I' 14 = I 14 → I' 15 = I 15 → I' 16 = I 16 → A' 30 = A 30 → A' 31 = A 31 → A' 32 = A 32 → Ads I' A' b os (cur ++ u) v (F I' A' 0)) : Ads I A b os cur (u ++ v) (xb x F) := by
  obtain ⟨I', A', e, h, f, g1, g2, g3, g4, g5, g6⟩ := h1
  obtain ⟨I2, A2, e2, k, f2, k1, k2, k3, k4, k5, k6⟩ := h2 I' A' h f g1 g2 g3 g4 g5 g6
  refine ⟨I2, A2, (xb_some e).trans e2, ?_, FrC_t f f2, k1.trans g1, k2.trans g2, k3.trans g3, k4.trans g4, k5.trans g5, k6.trans g6⟩
  rw [← List.append_assoc]
  exact k
theorem s_add (h : CS I A b os cur) (hl : b.length + cur.length < 1100) : Ads I A b os cur [c] (x_add I A (Int32.ofNat c)) := by
  obtain ⟨h1, h2, h3, h4, h5⟩ := h
  unfold x_add
  rw [h1, if_pos (j_in (by omega) (by omega)), (j_n (n := b.length + cur.length) (by omega)).2, o1]
  refine ⟨_, _, rfl, ⟨?_, ?_, ?_, ?_, h5⟩, ⟨fun k hk => upd_n (by omega), fun j hj => upA_ne (by omega)⟩, upd_n (by decide), upd_n (by decide), upd_n (by decide), upA_ne (by decide), upA_ne (by decide), upA_ne (by decide)⟩
  · rw [upd_s, List.length_append]
    rfl
  · rw [upA_eq, ← List.append_assoc, ← List.length_append]
    exact At_put h2
  · rw [upd_n (by decide)]
    exact h3
  · rw [upA_ne (by decide)]
    exact h4
end CT
