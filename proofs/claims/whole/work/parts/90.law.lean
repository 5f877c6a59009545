def Lay (S : hS) : Prop := 178 ≤ S.1 ∧ S.2.1 0 = 1 ∧ S.2.1 134 = 11 ∧ (∀ b, 134 < b → b < 177 → S.2.1 b = 12) ∧ S.2.1 177 = 23 ∧ S.2.2.1 177 = 1 ∧ (∀ b, b < S.1 → b < 134 ∨ 177 ≤ b → S.2.1 b < 11 ∨ 20 ≤ S.2.1 b)
theorem Lay_ex {S S' : hS} (h : Lay S) (e : Ex S S') : Lay S' := by
  obtain ⟨h1, h2, h3, h4, h5, h6, h7⟩ := h
  obtain ⟨e1, e2, e3, -, -⟩ := e
  refine ⟨by omega, by rw [(e2 0 (by omega)).1]; exact h2, by rw [(e2 134 (by omega)).1]; exact h3, ?_, by rw [(e2 177 (by omega)).1]; exact h5, by rw [(e2 177 (by omega)).2]; exact h6, ?_⟩
  · intro b hb hb2
    rw [(e2 b (by omega)).1]
    exact h4 b hb hb2
  · intro b hb hb2
    by_cases q : b < S.1
    · rw [(e2 b q).1]
      exact h7 b q hb2
    · have := e3 b (by omega) hb
      unfold zsz at this
      by_cases q1 : S'.2.1 b < 11
      · exact Or.inl q1
      · rw [if_neg q1] at this
        by_cases q2 : S'.2.1 b < 20
        · rw [if_pos q2] at this; omega
        · exact Or.inr (by omega)
def zpre (S : hS) : ie_H := (List.range 134).map (zcl S)
def zpost (S : hS) : ie_H := (zhp S).drop 177
theorem zpre_len {S : hS} : (zpre S).length = 134 := by unfold zpre; rw [List.length_map, List.length_range]
theorem zcl_M {S : hS} {I : Nat → Int32} {B : Nat → Nat → Int32} {b : Nat} (h : S.2.1 b < 11 ∨ 20 ≤ S.2.1 b) : zcl (szM S I B) b = zcl S b := by
  have f : ∀ c, zfl c (szM S I B) b = zfl c S b := by
    intro c
    rcases c with _ | _ | _ | _ | _ | _ | _ | _ | _ | _ | c <;> rfl
  have t : (szM S I B).2.1 b = S.2.1 b := rfl
  unfold zcl
  rw [f, t]
  by_cases q : S.2.1 b < 11
  · rw [if_pos q, if_pos q]
  · have q1 : ¬ S.2.1 b = 11 := by omega
    have q2 : ¬ S.2.1 b < 20 := by omega
    rw [if_neg q, if_neg q, if_neg q1, if_neg q1, if_neg q2, if_neg q2]
    rfl
theorem zcl_m0 {S : hS} (h : S.2.1 134 = 11) : zcl S 134 = .inr (10, mf (zMI S)) := by
  unfold zcl
  rw [h]
  rfl
theorem zcl_mj {S : hS} {b : Nat} (h : S.2.1 b = 12) : zcl S b = .inl (zmt (b - 134), zml (b - 134), .inl (zMA S (b - 134))) := by
  unfold zcl
  rw [h]
  rfl
theorem range_split (n : Nat) : List.range (178 + n) = List.range 134 ++ ([134, 135, 136, 137, 138, 139, 140, 141, 142, 143, 144, 145, 146, 147, 148, 149, 150, 151, 152, 153, 154, 155, 156, 157, 158, 159, 160, 161, 162, 163, 164, 165, 166, 167, 168, 169, 170, 171, 172, 173, 174, 175, 176] ++ (List.range (1 + n)).map (fun x => 177 + x)) := by
  rw [show 178 + n = 134 + (43 + (1 + n)) by omega, List.range_add, List.range_add, List.map_append, List.map_map, show ((fun x => 134 + x) ∘ fun x => 43 + x) = fun x => 177 + x from funext (fun x => by show 134 + (43 + x) = 177 + x; omega)]
  rfl
theorem zhp_W {S : hS} (h : Lay S) : zhp S = Wm (zpre S) (zpost S) (zMI S) (zMA S) := by
  obtain ⟨h1, h2, h3, h4, h5, h6, h7⟩ := h
  have e0 : zhp S = zpre S ++ (([134, 135, 136, 137, 138, 139, 140, 141, 142, 143, 144, 145, 146, 147, 148, 149, 150, 151, 152, 153, 154, 155, 156, 157, 158, 159, 160, 161, 162, 163, 164, 165, 166, 167, 168, 169, 170, 171, 172, 173, 174, 175, 176] : List Nat).map (zcl S) ++ (List.range (1 + (S.1 - 178))).map (fun x => zcl S (177 + x))) := by
    unfold zhp zpre
    rw [show S.1 = 178 + (S.1 - 178) by omega, range_split, List.map_append, List.map_append, List.map_map]
    rw [show 178 + (S.1 - 178) - 178 = S.1 - 178 by omega]
    rfl
  have e1 : zpost S = (List.range (1 + (S.1 - 178))).map (fun x => zcl S (177 + x)) := by
    unfold zpost
    rw [e0, ← List.append_assoc, List.drop_left' (by rw [List.length_append, zpre_len]; rfl)]
  rw [e0, ← e1]
  unfold Wm
  congr 1
  have e2 : ([134, 135, 136, 137, 138, 139, 140, 141, 142, 143, 144, 145, 146, 147, 148, 149, 150, 151, 152, 153, 154, 155, 156, 157, 158, 159, 160, 161, 162, 163, 164, 165, 166, 167, 168, 169, 170, 171, 172, 173, 174, 175, 176] : List Nat).map (zcl S) = [.inr (10, mf (zMI S)), .inl (0, 200, .inl (zMA S 1)), .inl (0, 200, .inl (zMA S 2)), .inl (0, 200, .inl (zMA S 3)), .inl (0, 200, .inl (zMA S 4)), .inl (0, 200, .inl (zMA S 5)), .inl (0, 200, .inl (zMA S 6)), .inl (0, 200, .inl (zMA S 7)), .inl (0, 200, .inl (zMA S 8)), .inl (0, 200, .inl (zMA S 9)), .inl (0, 200, .inl (zMA S 10)), .inl (0, 200, .inl (zMA S 11)), .inl (0, 200, .inl (zMA S 12)), .inl (0, 200, .inl (zMA S 13)), .inl (0, 200, .inl (zMA S 14)), .inl (0, 8, .inl (zMA S 15)), .inl (0, 200, .inl (zMA S 16)), .inl (0, 200, .inl (zMA S 17)), .inl (0, 200, .inl (zMA S 18)), .inl (0, 200, .inl (zMA S 19)), .inl (0, 200, .inl (zMA S 20)), .inl (0, 200, .inl (zMA S 21)), .inl (0, 200, .inl (zMA S 22)), .inl (0, 200, .inl (zMA S 23)), .inl (0, 200, .inl (zMA S 24)), .inl (0, 200, .inl (zMA S 25)), .inl (0, 6000, .inl (zMA S 26)), .inl (0, 6, .inl (zMA S 27)), .inl (0, 1100, .inl (zMA S 28)), .inl (0, 20, .inl (zMA S 29)), .inl (0, 1000, .inl (zMA S 30)), .inl (0, 1000, .inl (zMA S 31)), .inl (0, 1000, .inl (zMA S 32)), .inl (0, 24, .inl (zMA S 33)), .inl (0, 24, .inl (zMA S 34)), .inl (0, 24, .inl (zMA S 35)), .inl (0, 6, .inl (zMA S 36)), .inl (0, 6, .inl (zMA S 37)), .inl (0, 6, .inl (zMA S 38)), .inl (0, 36, .inl (zMA S 39)), .inl (0, 288, .inl (zMA S 40)), .inl (2, 288, .inl (zMA S 41)), .inl (0, 1000, .inl (zMA S 42))] := by
    simp only [List.map]
    rw [zcl_m0 h3]
    rw [zcl_mj (h4 135 (by decide) (by decide)), zcl_mj (h4 136 (by decide) (by decide)), zcl_mj (h4 137 (by decide) (by decide)), zcl_mj (h4 138 (by decide) (by decide)), zcl_mj (h4 139 (by decide) (by decide)), zcl_mj (h4 140 (by decide) (by decide)), zcl_mj (h4 141 (by decide) (by decide)), zcl_mj (h4 142 (by decide) (by decide)), zcl_mj (h4 143 (by decide) (by decide)), zcl_mj (h4 144 (by decide) (by decide)), zcl_mj (h4 145 (by decide) (by decide)), zcl_mj (h4 146 (by decide) (by decide)), zcl_mj (h4 147 (by decide) (by decide)), zcl_mj (h4 148 (by decide) (by decide)), zcl_mj (h4 149 (by decide) (by decide)), zcl_mj (h4 150 (by decide) (by decide)), zcl_mj (h4 151 (by decide) (by decide)), zcl_mj (h4 152 (by decide) (by decide)), zcl_mj (h4 153 (by decide) (by decide)), zcl_mj (h4 154 (by decide) (by decide)), zcl_mj (h4 155 (by decide) (by decide)), zcl_mj (h4 156 (by decide) (by decide)), zcl_mj (h4 157 (by decide) (by decide)), zcl_mj (h4 158 (by decide) (by decide)), zcl_mj (h4 159 (by decide) (by decide)), zcl_mj (h4 160 (by decide) (by decide)), zcl_mj (h4 161 (by decide) (by decide)), zcl_mj (h4 162 (by decide) (by decide)), zcl_mj (h4 163 (by decide) (by decide)), zcl_mj (h4 164 (by decide) (by decide)), zcl_mj (h4 165 (by decide) (by decide)), zcl_mj (h4 166 (by decide) (by decide)), zcl_mj (h4 167 (by decide) (by decide)), zcl_mj (h4 168 (by decide) (by decide)), zcl_mj (h4 169 (by decide) (by decide)), zcl_mj (h4 170 (by decide) (by decide)), zcl_mj (h4 171 (by decide) (by decide)), zcl_mj (h4 172 (by decide) (by decide)), zcl_mj (h4 173 (by decide) (by decide)), zcl_mj (h4 174 (by decide) (by decide)), zcl_mj (h4 175 (by decide) (by decide)), zcl_mj (h4 176 (by decide) (by decide))]
    rfl
  rw [e2]
  rfl
theorem Lay_M {S : hS} {I : Nat → Int32} {B : Nat → Nat → Int32} (h : Lay S) : Lay (szM S I B) := h
theorem zpre_M {S : hS} {I : Nat → Int32} {B : Nat → Nat → Int32} (h : Lay S) : zpre (szM S I B) = zpre S := by
  obtain ⟨h1, h2, h3, h4, h5, h6, h7⟩ := h
  unfold zpre
  apply List.map_congr_left
  intro b hb
  have := List.mem_range.mp hb
  exact zcl_M (h7 b (by omega) (Or.inl this))
theorem zpost_M {S : hS} {I : Nat → Int32} {B : Nat → Nat → Int32} (h : Lay S) : zpost (szM S I B) = zpost S := by
  obtain ⟨h1, h2, h3, h4, h5, h6, h7⟩ := h
  unfold zpost zhp
  rw [← List.map_drop, ← List.map_drop]
  apply List.map_congr_left
  intro b hb
  have : 177 ≤ b ∧ b < S.1 := by
    obtain ⟨i, hi, rfl⟩ := List.mem_iff_getElem.mp hb
    rw [List.getElem_drop, List.getElem_range]
    rw [List.length_drop, List.length_range] at hi
    have : i < S.1 - 177 := hi
    omega
  exact zcl_M (h7 b this.2 (Or.inr this.1))
theorem zhp_M {S : hS} {I : Nat → Int32} {B : Nat → Nat → Int32} (h : Lay S) : Wm (zpre S) (zpost S) I B = zhp (szM S I B) := by
  rw [zhp_W (Lay_M h), zpre_M h, zpost_M h]
  rfl
theorem Lay_0 {S : hS} (h : Lay S) : (zhp S)[0]? = some (.inr (0, zfl 0 S 0)) := by
  obtain ⟨h1, h2, h3, h4, h5, h6, h7⟩ := h
  rw [zhp_get (by omega)]
  unfold zcl
  rw [h2]
  rfl
theorem Lay_134 {S : hS} (h : Lay S) : (zhp S)[134]? = some (.inr (10, mf (zMI S))) := by
  obtain ⟨h1, h2, h3, h4, h5, h6, h7⟩ := h
  rw [zhp_get (by omega), zcl_m0 h3]
theorem Lay_177 {S : hS} (h : Lay S) : (zhp S)[177]? = some (.inl (3, 1, .inr (.inl (zAL S 177)))) := by
  obtain ⟨h1, h2, h3, h4, h5, h6, h7⟩ := h
  rw [zhp_get (by omega)]
  unfold zcl
  rw [h5, show zLen S 177 = 1 from h6]
  rfl
def Alk_0 (S : hS) (a1 a2 a3 : Int32) (S' : hS) : Prop := ∃ (n : Nat) (b : Int32) (S1 : hS) (I : Nat → Int32) (B : Nat → Nat → Int32), y_type n S 0 (((Int32.toInt64 a1) <<< (Int32.toInt64 32 &&& 63)) ||| ((Int32.toInt64 a2) &&& 4294967295)) = some (S1, b) ∧ x_type n (zMI S1) (zMA S1) (((Int32.toInt64 a1) <<< (Int32.toInt64 32 &&& 63)) ||| ((Int32.toInt64 a2) &&& 4294967295)) = some (I, B, b) ∧ S' = szM S1 I B
def Alk_1 (S : hS) (a1 a2 a3 : Int32) (S' : hS) : Prop := ∃ (n : Nat) (k b : Int32) (S1 : hS) (I : Nat → Int32) (B : Nat → Nat → Int32), yL_load n S (some 0) (if a1 = 0 then 0 else 1) (some 177) = some (S1, k) ∧ x_load n (zMI S1) (zMA S1) (if a1 = 0 then 0 else 1) = some (I, B, b) ∧ I 0 = k ∧ (k = 0 → zAL S1 177 0 = Int32.toInt64 b) ∧ S' = szM S1 I B
def Alk_2 (S : hS) (a1 a2 a3 : Int32) (S' : hS) : Prop := ∃ (b : Int32) (S1 : hS) (I : Nat → Int32) (B : Nat → Nat → Int32), y_fault S 0 = some (S1, b) ∧ x_fault (zMI S1) (zMA S1) = some (I, B, b) ∧ S' = szM S1 I B
def Alk_3 (S : hS) (a1 a2 a3 : Int32) (S' : hS) : Prop := ∃ (b : Int32) (S1 : hS) (I : Nat → Int32) (B : Nat → Nat → Int32), y_who S 0 = some (S1, b) ∧ x_who (zMI S1) (zMA S1) = some (I, B, b) ∧ S' = szM S1 I B
def Alk_4 (S : hS) (a1 a2 a3 : Int32) (S' : hS) : Prop := ∃ (k b : Int32) (S1 : hS) (I : Nat → Int32) (B : Nat → Nat → Int32), yL_length S (some 0) a1 (some 177) = some (S1, k) ∧ x_length (zMI S1) (zMA S1) a1 = some (I, B, b) ∧ I 0 = k ∧ (k = 0 → zAL S1 177 0 = Int32.toInt64 b) ∧ S' = szM S1 I B
def Alk_5 (S : hS) (a1 a2 a3 : Int32) (S' : hS) : Prop := ∃ (k b : Int32) (S1 : hS) (I : Nat → Int32) (B : Nat → Nat → Int32), yL_letter S (some 0) a1 a2 (some 177) = some (S1, k) ∧ x_letter (zMI S1) (zMA S1) a1 a2 = some (I, B, b) ∧ I 0 = k ∧ (k = 0 → zAL S1 177 0 = Int32.toInt64 b) ∧ S' = szM S1 I B
def Alk_6 (S : hS) (a1 a2 a3 : Int32) (S' : hS) : Prop := ∃ (k b : Int32) (S1 : hS) (I : Nat → Int32) (B : Nat → Nat → Int32), yL_input S (some 0) a1 a2 a3 (some 177) = some (S1, k) ∧ x_input (zMI S1) (zMA S1) a1 a2 a3 = some (I, B, b) ∧ I 0 = k ∧ (k = 0 → zAL S1 177 0 = Int32.toInt64 b) ∧ S' = szM S1 I B
def Alk_7 (S : hS) (a1 a2 a3 : Int32) (S' : hS) : Prop := ∃ (k b : Int32) (S1 : hS) (I : Nat → Int32) (B : Nat → Nat → Int32), yL_room S (some 0) a1 = some (S1, k) ∧ x_room (zMI S1) (zMA S1) a1 = some (I, B, b) ∧ I 0 = k ∧ S' = szM S1 I B
def Alk_8 (S : hS) (a1 a2 a3 : Int32) (S' : hS) : Prop := ∃ (n : Nat) (k b : Int32) (S1 : hS) (I : Nat → Int32) (B : Nat → Nat → Int32), yL_reset n S (some 0) = some (S1, k) ∧ x_reset n (zMI S1) (zMA S1) = some (I, B, b) ∧ I 0 = k ∧ S' = szM S1 I B
def Alk_9 (S : hS) (a1 a2 a3 : Int32) (S' : hS) : Prop := ∃ (n : Nat) (k b : Int32) (S1 : hS) (I : Nat → Int32) (B : Nat → Nat → Int32), yL_step n S (some 0) a1 (some 177) = some (S1, k) ∧ x_step n (zMI S1) (zMA S1) a1 = some (I, B, b) ∧ I 0 = k ∧ (k = 0 → zAL S1 177 0 = Int32.toInt64 b) ∧ S' = szM S1 I B
def Alk_10 (S : hS) (a1 a2 a3 : Int32) (S' : hS) : Prop := ∃ (n : Nat) (k b : Int32) (S1 : hS) (I : Nat → Int32) (B : Nat → Nat → Int32), yL_run n S (some 0) a1 a2 (some 177) = some (S1, k) ∧ x_run n (zMI S1) (zMA S1) a1 a2 = some (I, B, b) ∧ I 0 = k ∧ (k = 0 → zAL S1 177 0 = Int32.toInt64 b) ∧ S' = szM S1 I B
def Alk_11 (S : hS) (a1 a2 a3 : Int32) (S' : hS) : Prop := ∃ (k b : Int32) (S1 : hS) (I : Nat → Int32) (B : Nat → Nat → Int32), yL_at S (some 0) a1 (some 177) = some (S1, k) ∧ x_at (zMI S1) (zMA S1) a1 = some (I, B, b) ∧ I 0 = k ∧ (k = 0 → zAL S1 177 0 = Int32.toInt64 b) ∧ S' = szM S1 I B
def Alk_12 (S : hS) (a1 a2 a3 : Int32) (S' : hS) : Prop := ∃ (k b : Int32) (S1 : hS) (I : Nat → Int32) (B : Nat → Nat → Int32), yL_variable S (some 0) a1 a2 (some 177) = some (S1, k) ∧ x_variable (zMI S1) (zMA S1) a1 a2 = some (I, B, b) ∧ I 0 = k ∧ (k = 0 → zAL S1 177 0 = Int32.toInt64 b) ∧ S' = szM S1 I B
def Alk_13 (S : hS) (a1 a2 a3 : Int32) (S' : hS) : Prop := ∃ (k b : Int32) (S1 : hS) (I : Nat → Int32) (B : Nat → Nat → Int32), yL_queue S (some 0) a1 a2 (some 177) = some (S1, k) ∧ x_queue (zMI S1) (zMA S1) a1 a2 = some (I, B, b) ∧ I 0 = k ∧ (k = 0 → zAL S1 177 0 = Int32.toInt64 b) ∧ S' = szM S1 I B
def Alk_14 (S : hS) (a1 a2 a3 : Int32) (S' : hS) : Prop := ∃ (k b : Int32) (S1 : hS) (I : Nat → Int32) (B : Nat → Nat → Int32), yL_message S (some 0) a1 a2 a3 (some 177) = some (S1, k) ∧ x_message (zMI S1) (zMA S1) a1 a2 a3 = some (I, B, b) ∧ I 0 = k ∧ (k = 0 → zAL S1 177 0 = Int32.toInt64 b) ∧ S' = szM S1 I B
def Alk_15 (S : hS) (a1 a2 a3 : Int32) (S' : hS) : Prop := ∃ (k b : Int32) (S1 : hS) (I : Nat → Int32) (B : Nat → Nat → Int32), yL_label S (some 0) a1 a2 a3 (some 177) = some (S1, k) ∧ x_label (zMI S1) (zMA S1) a1 a2 a3 = some (I, B, b) ∧ I 0 = k ∧ (k = 0 → zAL S1 177 0 = if b = 0 then 0 else 1) ∧ S' = szM S1 I B
def Alk_16 (S : hS) (a1 a2 a3 : Int32) (S' : hS) : Prop := ∃ (n : Nat) (k b : Int32) (S1 : hS) (I : Nat → Int32) (B : Nat → Nat → Int32), yL_whole n S (some 0) a1 (some 177) = some (S1, k) ∧ x_whole n (zMI S1) (zMA S1) a1 = some (I, B, b) ∧ I 0 = k ∧ (k = 0 → zAL S1 177 0 = Int32.toInt64 b) ∧ S' = szM S1 I B
def Alk_17 (S : hS) (a1 a2 a3 : Int32) (S' : hS) : Prop := ∃ (k b : Int32) (S1 : hS) (I : Nat → Int32) (B : Nat → Nat → Int32), yL_wanted S (some 0) a1 a2 (some 177) = some (S1, k) ∧ x_wanted (zMI S1) (zMA S1) a1 a2 = some (I, B, b) ∧ I 0 = k ∧ (k = 0 → zAL S1 177 0 = Int32.toInt64 b) ∧ S' = szM S1 I B
def Alk (S : hS) (a0 a1 a2 a3 : Int32) (S' : hS) : Prop := (17 < (a0 &&& 31).toInt ∧ S' = S) ∨ (a0 &&& 31 = 0 ∧ Alk_0 S a1 a2 a3 S') ∨ (a0 &&& 31 = 1 ∧ Alk_1 S a1 a2 a3 S') ∨ (a0 &&& 31 = 2 ∧ Alk_2 S a1 a2 a3 S') ∨ (a0 &&& 31 = 3 ∧ Alk_3 S a1 a2 a3 S') ∨ (a0 &&& 31 = 4 ∧ Alk_4 S a1 a2 a3 S') ∨ (a0 &&& 31 = 5 ∧ Alk_5 S a1 a2 a3 S') ∨ (a0 &&& 31 = 6 ∧ Alk_6 S a1 a2 a3 S') ∨ (a0 &&& 31 = 7 ∧ Alk_7 S a1 a2 a3 S') ∨ (a0 &&& 31 = 8 ∧ Alk_8 S a1 a2 a3 S') ∨ (a0 &&& 31 = 9 ∧ Alk_9 S a1 a2 a3 S') ∨ (a0 &&& 31 = 10 ∧ Alk_10 S a1 a2 a3 S') ∨ (a0 &&& 31 = 11 ∧ Alk_11 S a1 a2 a3 S') ∨ (a0 &&& 31 = 12 ∧ Alk_12 S a1 a2 a3 S') ∨ (a0 &&& 31 = 13 ∧ Alk_13 S a1 a2 a3 S') ∨ (a0 &&& 31 = 14 ∧ Alk_14 S a1 a2 a3 S') ∨ (a0 &&& 31 = 15 ∧ Alk_15 S a1 a2 a3 S') ∨ (a0 &&& 31 = 16 ∧ Alk_16 S a1 a2 a3 S') ∨ (a0 &&& 31 = 17 ∧ Alk_17 S a1 a2 a3 S')
def LL (i : Int32) (u5 u6 : Option Value) : ie_L := [some (.ref ie_S), some (.ref 0), some (.ref 134), some (.ref 177), some (.int i), u5, u6]
def Sto (X : ie_X) (i : Int32) (S S' : hS) : Prop := ∀ (d : Nat) (u5 u6 : Option Value) (o : ie_O) (h9 : ie_H), (∀ v5 v6, Go X (d + 301) 222 (1150, LL i v5 v6, [], zhp S') o h9) → Go X (d + 301) 222 (32, LL i u5 u6, [], zhp S) o h9
section ST
variable {X : ie_X} {i a0 a1 a2 a3 : Int32} {S S' : hS}
theorem stp_0 (hL : Lay S) (hop : a0 &&& 31 = 0) (hi0 : 0 ≤ i.toInt ∧ i.toInt < (X.1 : Int)) (e0 : X.2 i.toNatClampNeg = a0) (hi1 : 0 ≤ (i + 1).toInt ∧ (i + 1).toInt < (X.1 : Int)) (e1 : X.2 (i + 1).toNatClampNeg = a1) (hi2 : 0 ≤ (i + 2).toInt ∧ (i + 2).toInt < (X.1 : Int)) (e2 : X.2 (i + 2).toNatClampNeg = a2) (hi3 : 0 ≤ (i + 3).toInt ∧ (i + 3).toInt < (X.1 : Int)) (e3 : X.2 (i + 3).toNatClampNeg = a3) (hA : Alk_0 S a1 a2 a3 S') : Sto X i S S' := by
  obtain ⟨n, b, S1, I, B, h1, h2, rfl⟩ := hA
  have hE := ehy_type h1
  have hL1 := Lay_ex hL hE
  intro d u5 u6 o h9 kk
  have c1 := hy_type (X := X) (d := d + 299) h1
  have c2 := g_type (X := X) (d := d + 300) (pre := zpre S1) (post := zpost S1) zpre_len h2
  rw [← zhp_W hL1, zhp_M hL1] at c2
  exact lw_op0 (d := d + 300) hop hi0 e0 hi1 e1 hi2 e2 c1 c2 (Lay_0 hL) (Lay_134 hL1) (kk u5 u6)
theorem stp_1 (hL : Lay S) (hop : a0 &&& 31 = 1) (hi0 : 0 ≤ i.toInt ∧ i.toInt < (X.1 : Int)) (e0 : X.2 i.toNatClampNeg = a0) (hi1 : 0 ≤ (i + 1).toInt ∧ (i + 1).toInt < (X.1 : Int)) (e1 : X.2 (i + 1).toNatClampNeg = a1) (hi2 : 0 ≤ (i + 2).toInt ∧ (i + 2).toInt < (X.1 : Int)) (e2 : X.2 (i + 2).toNatClampNeg = a2) (hi3 : 0 ≤ (i + 3).toInt ∧ (i + 3).toInt < (X.1 : Int)) (e3 : X.2 (i + 3).toNatClampNeg = a3) (hA : Alk_1 S a1 a2 a3 S') : Sto X i S S' := by
  obtain ⟨n, k, b, S1, I, B, h1, h2, h3, h4, rfl⟩ := hA
  have hE := ehyL_load h1
  have hL1 := Lay_ex hL hE
  intro d u5 u6 o h9 kk
  have c1 := hyL_load (X := X) (d := d + 144) h1
  have c2 := g_load (X := X) (d := d + 294) (pre := zpre S1) (post := zpost S1) zpre_len h2
  rw [← zhp_W hL1, zhp_M hL1] at c2
  by_cases q : a1 = 0
  · rw [if_pos q] at c1 c2
    exact lw_op1z (d := d + 300) hop hi0 e0 hi1 e1 q c1 c2 (Lay_134 hL1) (Lay_134 (Lay_M hL1)) (by show some (Value.int (I 0)) = _; rw [h3]) (fun z => ⟨_, Lay_177 (Lay_M hL1), h4 z⟩) (kk _ _)
  · rw [if_neg q] at c1 c2
    exact lw_op1n (d := d + 300) hop hi0 e0 hi1 e1 q c1 c2 (Lay_134 hL1) (Lay_134 (Lay_M hL1)) (by show some (Value.int (I 0)) = _; rw [h3]) (fun z => ⟨_, Lay_177 (Lay_M hL1), h4 z⟩) (kk _ _)
theorem stp_2 (hL : Lay S) (hop : a0 &&& 31 = 2) (hi0 : 0 ≤ i.toInt ∧ i.toInt < (X.1 : Int)) (e0 : X.2 i.toNatClampNeg = a0) (hi1 : 0 ≤ (i + 1).toInt ∧ (i + 1).toInt < (X.1 : Int)) (e1 : X.2 (i + 1).toNatClampNeg = a1) (hi2 : 0 ≤ (i + 2).toInt ∧ (i + 2).toInt < (X.1 : Int)) (e2 : X.2 (i + 2).toNatClampNeg = a2) (hi3 : 0 ≤ (i + 3).toInt ∧ (i + 3).toInt < (X.1 : Int)) (e3 : X.2 (i + 3).toNatClampNeg = a3) (hA : Alk_2 S a1 a2 a3 S') : Sto X i S S' := by
  obtain ⟨b, S1, I, B, h1, h2, rfl⟩ := hA
  have hE := ehy_fault h1
  have hL1 := Lay_ex hL hE
  intro d u5 u6 o h9 kk
  have c1 := hy_fault (X := X) (d := d + 300) h1
  have c2 := g_fault (X := X) (d := d + 300) (pre := zpre S1) (post := zpost S1) zpre_len h2
  rw [← zhp_W hL1, zhp_M hL1] at c2
  exact lw_op2 (d := d + 300) hop hi0 e0 c1 c2 (Lay_0 hL) (Lay_134 hL1) (kk u5 u6)
theorem stp_3 (hL : Lay S) (hop : a0 &&& 31 = 3) (hi0 : 0 ≤ i.toInt ∧ i.toInt < (X.1 : Int)) (e0 : X.2 i.toNatClampNeg = a0) (hi1 : 0 ≤ (i + 1).toInt ∧ (i + 1).toInt < (X.1 : Int)) (e1 : X.2 (i + 1).toNatClampNeg = a1) (hi2 : 0 ≤ (i + 2).toInt ∧ (i + 2).toInt < (X.1 : Int)) (e2 : X.2 (i + 2).toNatClampNeg = a2) (hi3 : 0 ≤ (i + 3).toInt ∧ (i + 3).toInt < (X.1 : Int)) (e3 : X.2 (i + 3).toNatClampNeg = a3) (hA : Alk_3 S a1 a2 a3 S') : Sto X i S S' := by
  obtain ⟨b, S1, I, B, h1, h2, rfl⟩ := hA
  have hE := ehy_who h1
  have hL1 := Lay_ex hL hE
  intro d u5 u6 o h9 kk
  have c1 := hy_who (X := X) (d := d + 300) h1
  have c2 := g_who (X := X) (d := d + 300) (pre := zpre S1) (post := zpost S1) zpre_len h2
  rw [← zhp_W hL1, zhp_M hL1] at c2
  exact lw_op3 (d := d + 300) hop hi0 e0 c1 c2 (Lay_0 hL) (Lay_134 hL1) (kk u5 u6)
theorem stp_4 (hL : Lay S) (hop : a0 &&& 31 = 4) (hi0 : 0 ≤ i.toInt ∧ i.toInt < (X.1 : Int)) (e0 : X.2 i.toNatClampNeg = a0) (hi1 : 0 ≤ (i + 1).toInt ∧ (i + 1).toInt < (X.1 : Int)) (e1 : X.2 (i + 1).toNatClampNeg = a1) (hi2 : 0 ≤ (i + 2).toInt ∧ (i + 2).toInt < (X.1 : Int)) (e2 : X.2 (i + 2).toNatClampNeg = a2) (hi3 : 0 ≤ (i + 3).toInt ∧ (i + 3).toInt < (X.1 : Int)) (e3 : X.2 (i + 3).toNatClampNeg = a3) (hA : Alk_4 S a1 a2 a3 S') : Sto X i S S' := by
  obtain ⟨k, b, S1, I, B, h1, h2, h3, h4, rfl⟩ := hA
  have hE := ehyL_length h1
  have hL1 := Lay_ex hL hE
  intro d u5 u6 o h9 kk
  have c1 := hyL_length (X := X) (d := d + 297) h1
  have c2 := g_length (X := X) (d := d + 299) (pre := zpre S1) (post := zpost S1) zpre_len h2
  rw [← zhp_W hL1, zhp_M hL1] at c2
  exact lw_op4 (d := d + 300) hop hi0 e0 hi1 e1 c1 c2 (Lay_134 hL1) (Lay_134 (Lay_M hL1)) (by show some (Value.int (I 0)) = _; rw [h3]) (fun z => ⟨_, Lay_177 (Lay_M hL1), h4 z⟩) (kk _ _)
theorem stp_5 (hL : Lay S) (hop : a0 &&& 31 = 5) (hi0 : 0 ≤ i.toInt ∧ i.toInt < (X.1 : Int)) (e0 : X.2 i.toNatClampNeg = a0) (hi1 : 0 ≤ (i + 1).toInt ∧ (i + 1).toInt < (X.1 : Int)) (e1 : X.2 (i + 1).toNatClampNeg = a1) (hi2 : 0 ≤ (i + 2).toInt ∧ (i + 2).toInt < (X.1 : Int)) (e2 : X.2 (i + 2).toNatClampNeg = a2) (hi3 : 0 ≤ (i + 3).toInt ∧ (i + 3).toInt < (X.1 : Int)) (e3 : X.2 (i + 3).toNatClampNeg = a3) (hA : Alk_5 S a1 a2 a3 S') : Sto X i S S' := by
  obtain ⟨k, b, S1, I, B, h1, h2, h3, h4, rfl⟩ := hA
  have hE := ehyL_letter h1
  have hL1 := Lay_ex hL hE
  intro d u5 u6 o h9 kk
  have c1 := hyL_letter (X := X) (d := d + 297) h1
  have c2 := g_letter (X := X) (d := d + 299) (pre := zpre S1) (post := zpost S1) zpre_len h2
  rw [← zhp_W hL1, zhp_M hL1] at c2
  exact lw_op5 (d := d + 300) hop hi0 e0 hi1 e1 hi2 e2 c1 c2 (Lay_134 hL1) (Lay_134 (Lay_M hL1)) (by show some (Value.int (I 0)) = _; rw [h3]) (fun z => ⟨_, Lay_177 (Lay_M hL1), h4 z⟩) (kk _ _)
theorem stp_6 (hL : Lay S) (hop : a0 &&& 31 = 6) (hi0 : 0 ≤ i.toInt ∧ i.toInt < (X.1 : Int)) (e0 : X.2 i.toNatClampNeg = a0) (hi1 : 0 ≤ (i + 1).toInt ∧ (i + 1).toInt < (X.1 : Int)) (e1 : X.2 (i + 1).toNatClampNeg = a1) (hi2 : 0 ≤ (i + 2).toInt ∧ (i + 2).toInt < (X.1 : Int)) (e2 : X.2 (i + 2).toNatClampNeg = a2) (hi3 : 0 ≤ (i + 3).toInt ∧ (i + 3).toInt < (X.1 : Int)) (e3 : X.2 (i + 3).toNatClampNeg = a3) (hA : Alk_6 S a1 a2 a3 S') : Sto X i S S' := by
  obtain ⟨k, b, S1, I, B, h1, h2, h3, h4, rfl⟩ := hA
  have hE := ehyL_input h1
  have hL1 := Lay_ex hL hE
  intro d u5 u6 o h9 kk
  have c1 := hyL_input (X := X) (d := d + 297) h1
  have c2 := g_input (X := X) (d := d + 299) (pre := zpre S1) (post := zpost S1) zpre_len h2
  rw [← zhp_W hL1, zhp_M hL1] at c2
  exact lw_op6 (d := d + 300) hop hi0 e0 hi1 e1 hi2 e2 hi3 e3 c1 c2 (Lay_134 hL1) (Lay_134 (Lay_M hL1)) (by show some (Value.int (I 0)) = _; rw [h3]) (fun z => ⟨_, Lay_177 (Lay_M hL1), h4 z⟩) (kk _ _)
theorem stp_7 (hL : Lay S) (hop : a0 &&& 31 = 7) (hi0 : 0 ≤ i.toInt ∧ i.toInt < (X.1 : Int)) (e0 : X.2 i.toNatClampNeg = a0) (hi1 : 0 ≤ (i + 1).toInt ∧ (i + 1).toInt < (X.1 : Int)) (e1 : X.2 (i + 1).toNatClampNeg = a1) (hi2 : 0 ≤ (i + 2).toInt ∧ (i + 2).toInt < (X.1 : Int)) (e2 : X.2 (i + 2).toNatClampNeg = a2) (hi3 : 0 ≤ (i + 3).toInt ∧ (i + 3).toInt < (X.1 : Int)) (e3 : X.2 (i + 3).toNatClampNeg = a3) (hA : Alk_7 S a1 a2 a3 S') : Sto X i S S' := by
  obtain ⟨k, b, S1, I, B, h1, h2, h3, rfl⟩ := hA
  have hE := ehyL_room h1
  have hL1 := Lay_ex hL hE
  intro d u5 u6 o h9 kk
  have c1 := hyL_room (X := X) (d := d + 298) h1
  have c2 := g_room (X := X) (d := d + 300) (pre := zpre S1) (post := zpost S1) zpre_len h2
  rw [← zhp_W hL1, zhp_M hL1] at c2
  exact lw_op7 (d := d + 300) hop hi0 e0 hi1 e1 c1 c2 (Lay_134 hL1) (Lay_134 (Lay_M hL1)) (by show some (Value.int (I 0)) = _; rw [h3]) (kk _ _)
theorem stp_8 (hL : Lay S) (hop : a0 &&& 31 = 8) (hi0 : 0 ≤ i.toInt ∧ i.toInt < (X.1 : Int)) (e0 : X.2 i.toNatClampNeg = a0) (hi1 : 0 ≤ (i + 1).toInt ∧ (i + 1).toInt < (X.1 : Int)) (e1 : X.2 (i + 1).toNatClampNeg = a1) (hi2 : 0 ≤ (i + 2).toInt ∧ (i + 2).toInt < (X.1 : Int)) (e2 : X.2 (i + 2).toNatClampNeg = a2) (hi3 : 0 ≤ (i + 3).toInt ∧ (i + 3).toInt < (X.1 : Int)) (e3 : X.2 (i + 3).toNatClampNeg = a3) (hA : Alk_8 S a1 a2 a3 S') : Sto X i S S' := by
  obtain ⟨n, k, b, S1, I, B, h1, h2, h3, rfl⟩ := hA
  have hE := ehyL_reset h1
  have hL1 := Lay_ex hL hE
  intro d u5 u6 o h9 kk
  have c1 := hyL_reset (X := X) (d := d + 297) h1
  have c2 := g_reset (X := X) (d := d + 299) (pre := zpre S1) (post := zpost S1) zpre_len h2
  rw [← zhp_W hL1, zhp_M hL1] at c2
  exact lw_op8 (d := d + 300) hop hi0 e0 c1 c2 (Lay_134 hL1) (Lay_134 (Lay_M hL1)) (by show some (Value.int (I 0)) = _; rw [h3]) (kk _ _)
theorem stp_9 (hL : Lay S) (hop : a0 &&& 31 = 9) (hi0 : 0 ≤ i.toInt ∧ i.toInt < (X.1 : Int)) (e0 : X.2 i.toNatClampNeg = a0) (hi1 : 0 ≤ (i + 1).toInt ∧ (i + 1).toInt < (X.1 : Int)) (e1 : X.2 (i + 1).toNatClampNeg = a1) (hi2 : 0 ≤ (i + 2).toInt ∧ (i + 2).toInt < (X.1 : Int)) (e2 : X.2 (i + 2).toNatClampNeg = a2) (hi3 : 0 ≤ (i + 3).toInt ∧ (i + 3).toInt < (X.1 : Int)) (e3 : X.2 (i + 3).toNatClampNeg = a3) (hA : Alk_9 S a1 a2 a3 S') : Sto X i S S' := by
  obtain ⟨n, k, b, S1, I, B, h1, h2, h3, h4, rfl⟩ := hA
  have hE := ehyL_step h1
  have hL1 := Lay_ex hL hE
  intro d u5 u6 o h9 kk
  have c1 := hyL_step (X := X) (d := d + 292) h1
  have c2 := g_step (X := X) (d := d + 293) (pre := zpre S1) (post := zpost S1) zpre_len h2
  rw [← zhp_W hL1, zhp_M hL1] at c2
  exact lw_op9 (d := d + 300) hop hi0 e0 hi1 e1 c1 c2 (Lay_134 hL1) (Lay_134 (Lay_M hL1)) (by show some (Value.int (I 0)) = _; rw [h3]) (fun z => ⟨_, Lay_177 (Lay_M hL1), h4 z⟩) (kk _ _)
theorem stp_10 (hL : Lay S) (hop : a0 &&& 31 = 10) (hi0 : 0 ≤ i.toInt ∧ i.toInt < (X.1 : Int)) (e0 : X.2 i.toNatClampNeg = a0) (hi1 : 0 ≤ (i + 1).toInt ∧ (i + 1).toInt < (X.1 : Int)) (e1 : X.2 (i + 1).toNatClampNeg = a1) (hi2 : 0 ≤ (i + 2).toInt ∧ (i + 2).toInt < (X.1 : Int)) (e2 : X.2 (i + 2).toNatClampNeg = a2) (hi3 : 0 ≤ (i + 3).toInt ∧ (i + 3).toInt < (X.1 : Int)) (e3 : X.2 (i + 3).toNatClampNeg = a3) (hA : Alk_10 S a1 a2 a3 S') : Sto X i S S' := by
  obtain ⟨n, k, b, S1, I, B, h1, h2, h3, h4, rfl⟩ := hA
  have hE := ehyL_run h1
  have hL1 := Lay_ex hL hE
  intro d u5 u6 o h9 kk
  have c1 := hyL_run (X := X) (d := d + 292) h1
  have c2 := g_run (X := X) (d := d + 293) (pre := zpre S1) (post := zpost S1) zpre_len h2
  rw [← zhp_W hL1, zhp_M hL1] at c2
  exact lw_op10 (d := d + 300) hop hi0 e0 hi1 e1 hi2 e2 c1 c2 (Lay_134 hL1) (Lay_134 (Lay_M hL1)) (by show some (Value.int (I 0)) = _; rw [h3]) (fun z => ⟨_, Lay_177 (Lay_M hL1), h4 z⟩) (kk _ _)
theorem stp_11 (hL : Lay S) (hop : a0 &&& 31 = 11) (hi0 : 0 ≤ i.toInt ∧ i.toInt < (X.1 : Int)) (e0 : X.2 i.toNatClampNeg = a0) (hi1 : 0 ≤ (i + 1).toInt ∧ (i + 1).toInt < (X.1 : Int)) (e1 : X.2 (i + 1).toNatClampNeg = a1) (hi2 : 0 ≤ (i + 2).toInt ∧ (i + 2).toInt < (X.1 : Int)) (e2 : X.2 (i + 2).toNatClampNeg = a2) (hi3 : 0 ≤ (i + 3).toInt ∧ (i + 3).toInt < (X.1 : Int)) (e3 : X.2 (i + 3).toNatClampNeg = a3) (hA : Alk_11 S a1 a2 a3 S') : Sto X i S S' := by
  obtain ⟨k, b, S1, I, B, h1, h2, h3, h4, rfl⟩ := hA
  have hE := ehyL_at h1
  have hL1 := Lay_ex hL hE
  intro d u5 u6 o h9 kk
  have c1 := hyL_at (X := X) (d := d + 297) h1
  have c2 := g_at (X := X) (d := d + 299) (pre := zpre S1) (post := zpost S1) zpre_len h2
  rw [← zhp_W hL1, zhp_M hL1] at c2
  exact lw_op11 (d := d + 300) hop hi0 e0 hi1 e1 c1 c2 (Lay_134 hL1) (Lay_134 (Lay_M hL1)) (by show some (Value.int (I 0)) = _; rw [h3]) (fun z => ⟨_, Lay_177 (Lay_M hL1), h4 z⟩) (kk _ _)
theorem stp_12 (hL : Lay S) (hop : a0 &&& 31 = 12) (hi0 : 0 ≤ i.toInt ∧ i.toInt < (X.1 : Int)) (e0 : X.2 i.toNatClampNeg = a0) (hi1 : 0 ≤ (i + 1).toInt ∧ (i + 1).toInt < (X.1 : Int)) (e1 : X.2 (i + 1).toNatClampNeg = a1) (hi2 : 0 ≤ (i + 2).toInt ∧ (i + 2).toInt < (X.1 : Int)) (e2 : X.2 (i + 2).toNatClampNeg = a2) (hi3 : 0 ≤ (i + 3).toInt ∧ (i + 3).toInt < (X.1 : Int)) (e3 : X.2 (i + 3).toNatClampNeg = a3) (hA : Alk_12 S a1 a2 a3 S') : Sto X i S S' := by
  obtain ⟨k, b, S1, I, B, h1, h2, h3, h4, rfl⟩ := hA
  have hE := ehyL_variable h1
  have hL1 := Lay_ex hL hE
  intro d u5 u6 o h9 kk
  have c1 := hyL_variable (X := X) (d := d + 297) h1
  have c2 := g_variable (X := X) (d := d + 299) (pre := zpre S1) (post := zpost S1) zpre_len h2
  rw [← zhp_W hL1, zhp_M hL1] at c2
  exact lw_op12 (d := d + 300) hop hi0 e0 hi1 e1 hi2 e2 c1 c2 (Lay_134 hL1) (Lay_134 (Lay_M hL1)) (by show some (Value.int (I 0)) = _; rw [h3]) (fun z => ⟨_, Lay_177 (Lay_M hL1), h4 z⟩) (kk _ _)
theorem stp_13 (hL : Lay S) (hop : a0 &&& 31 = 13) (hi0 : 0 ≤ i.toInt ∧ i.toInt < (X.1 : Int)) (e0 : X.2 i.toNatClampNeg = a0) (hi1 : 0 ≤ (i + 1).toInt ∧ (i + 1).toInt < (X.1 : Int)) (e1 : X.2 (i + 1).toNatClampNeg = a1) (hi2 : 0 ≤ (i + 2).toInt ∧ (i + 2).toInt < (X.1 : Int)) (e2 : X.2 (i + 2).toNatClampNeg = a2) (hi3 : 0 ≤ (i + 3).toInt ∧ (i + 3).toInt < (X.1 : Int)) (e3 : X.2 (i + 3).toNatClampNeg = a3) (hA : Alk_13 S a1 a2 a3 S') : Sto X i S S' := by
  obtain ⟨k, b, S1, I, B, h1, h2, h3, h4, rfl⟩ := hA
  have hE := ehyL_queue h1
  have hL1 := Lay_ex hL hE
  intro d u5 u6 o h9 kk
  have c1 := hyL_queue (X := X) (d := d + 297) h1
  have c2 := g_queue (X := X) (d := d + 298) (pre := zpre S1) (post := zpost S1) zpre_len h2
  rw [← zhp_W hL1, zhp_M hL1] at c2
  exact lw_op13 (d := d + 300) hop hi0 e0 hi1 e1 hi2 e2 c1 c2 (Lay_134 hL1) (Lay_134 (Lay_M hL1)) (by show some (Value.int (I 0)) = _; rw [h3]) (fun z => ⟨_, Lay_177 (Lay_M hL1), h4 z⟩) (kk _ _)
theorem stp_14 (hL : Lay S) (hop : a0 &&& 31 = 14) (hi0 : 0 ≤ i.toInt ∧ i.toInt < (X.1 : Int)) (e0 : X.2 i.toNatClampNeg = a0) (hi1 : 0 ≤ (i + 1).toInt ∧ (i + 1).toInt < (X.1 : Int)) (e1 : X.2 (i + 1).toNatClampNeg = a1) (hi2 : 0 ≤ (i + 2).toInt ∧ (i + 2).toInt < (X.1 : Int)) (e2 : X.2 (i + 2).toNatClampNeg = a2) (hi3 : 0 ≤ (i + 3).toInt ∧ (i + 3).toInt < (X.1 : Int)) (e3 : X.2 (i + 3).toNatClampNeg = a3) (hA : Alk_14 S a1 a2 a3 S') : Sto X i S S' := by
  obtain ⟨k, b, S1, I, B, h1, h2, h3, h4, rfl⟩ := hA
  have hE := ehyL_message h1
  have hL1 := Lay_ex hL hE
  intro d u5 u6 o h9 kk
  have c1 := hyL_message (X := X) (d := d + 296) h1
  have c2 := g_message (X := X) (d := d + 297) (pre := zpre S1) (post := zpost S1) zpre_len h2
  rw [← zhp_W hL1, zhp_M hL1] at c2
  exact lw_op14 (d := d + 300) hop hi0 e0 hi1 e1 hi2 e2 hi3 e3 c1 c2 (Lay_134 hL1) (Lay_134 (Lay_M hL1)) (by show some (Value.int (I 0)) = _; rw [h3]) (fun z => ⟨_, Lay_177 (Lay_M hL1), h4 z⟩) (kk _ _)
theorem stp_15 (hL : Lay S) (hop : a0 &&& 31 = 15) (hi0 : 0 ≤ i.toInt ∧ i.toInt < (X.1 : Int)) (e0 : X.2 i.toNatClampNeg = a0) (hi1 : 0 ≤ (i + 1).toInt ∧ (i + 1).toInt < (X.1 : Int)) (e1 : X.2 (i + 1).toNatClampNeg = a1) (hi2 : 0 ≤ (i + 2).toInt ∧ (i + 2).toInt < (X.1 : Int)) (e2 : X.2 (i + 2).toNatClampNeg = a2) (hi3 : 0 ≤ (i + 3).toInt ∧ (i + 3).toInt < (X.1 : Int)) (e3 : X.2 (i + 3).toNatClampNeg = a3) (hA : Alk_15 S a1 a2 a3 S') : Sto X i S S' := by
  obtain ⟨k, b, S1, I, B, h1, h2, h3, h4, rfl⟩ := hA
  have hE := ehyL_label h1
  have hL1 := Lay_ex hL hE
  intro d u5 u6 o h9 kk
  have c1 := hyL_label (X := X) (d := d + 296) h1
  have c2 := g_label (X := X) (d := d + 297) (pre := zpre S1) (post := zpost S1) zpre_len h2
  rw [← zhp_W hL1, zhp_M hL1] at c2
  exact lw_op15 (d := d + 300) hop hi0 e0 hi1 e1 hi2 e2 hi3 e3 c1 c2 (Lay_134 hL1) (Lay_134 (Lay_M hL1)) (by show some (Value.int (I 0)) = _; rw [h3]) (fun z => ⟨_, Lay_177 (Lay_M hL1), h4 z⟩) (kk _ _)
theorem stp_16 (hL : Lay S) (hop : a0 &&& 31 = 16) (hi0 : 0 ≤ i.toInt ∧ i.toInt < (X.1 : Int)) (e0 : X.2 i.toNatClampNeg = a0) (hi1 : 0 ≤ (i + 1).toInt ∧ (i + 1).toInt < (X.1 : Int)) (e1 : X.2 (i + 1).toNatClampNeg = a1) (hi2 : 0 ≤ (i + 2).toInt ∧ (i + 2).toInt < (X.1 : Int)) (e2 : X.2 (i + 2).toNatClampNeg = a2) (hi3 : 0 ≤ (i + 3).toInt ∧ (i + 3).toInt < (X.1 : Int)) (e3 : X.2 (i + 3).toNatClampNeg = a3) (hA : Alk_16 S a1 a2 a3 S') : Sto X i S S' := by
  obtain ⟨n, k, b, S1, I, B, h1, h2, h3, h4, rfl⟩ := hA
  have hE := ehyL_whole h1
  have hL1 := Lay_ex hL hE
  intro d u5 u6 o h9 kk
  have c1 := hyL_whole (X := X) (d := d + 295) h1
  have c2 := g_whole (X := X) (d := d + 296) (pre := zpre S1) (post := zpost S1) zpre_len h2
  rw [← zhp_W hL1, zhp_M hL1] at c2
  exact lw_op16 (d := d + 300) hop hi0 e0 hi1 e1 c1 c2 (Lay_134 hL1) (Lay_134 (Lay_M hL1)) (by show some (Value.int (I 0)) = _; rw [h3]) (fun z => ⟨_, Lay_177 (Lay_M hL1), h4 z⟩) (kk _ _)
theorem stp_17 (hL : Lay S) (hop : a0 &&& 31 = 17) (hi0 : 0 ≤ i.toInt ∧ i.toInt < (X.1 : Int)) (e0 : X.2 i.toNatClampNeg = a0) (hi1 : 0 ≤ (i + 1).toInt ∧ (i + 1).toInt < (X.1 : Int)) (e1 : X.2 (i + 1).toNatClampNeg = a1) (hi2 : 0 ≤ (i + 2).toInt ∧ (i + 2).toInt < (X.1 : Int)) (e2 : X.2 (i + 2).toNatClampNeg = a2) (hi3 : 0 ≤ (i + 3).toInt ∧ (i + 3).toInt < (X.1 : Int)) (e3 : X.2 (i + 3).toNatClampNeg = a3) (hA : Alk_17 S a1 a2 a3 S') : Sto X i S S' := by
  obtain ⟨k, b, S1, I, B, h1, h2, h3, h4, rfl⟩ := hA
  have hE := ehyL_wanted h1
  have hL1 := Lay_ex hL hE
  intro d u5 u6 o h9 kk
  have c1 := hyL_wanted (X := X) (d := d + 297) h1
  have c2 := g_wanted (X := X) (d := d + 299) (pre := zpre S1) (post := zpost S1) zpre_len h2
  rw [← zhp_W hL1, zhp_M hL1] at c2
  exact lw_op17 (d := d + 300) hop hi0 e0 hi1 e1 hi2 e2 c1 c2 (Lay_134 hL1) (Lay_134 (Lay_M hL1)) (by show some (Value.int (I 0)) = _; rw [h3]) (fun z => ⟨_, Lay_177 (Lay_M hL1), h4 z⟩) (kk _ _)
theorem stp_all (hL : Lay S) (hi0 : 0 ≤ i.toInt ∧ i.toInt < (X.1 : Int)) (e0 : X.2 i.toNatClampNeg = a0) (hi1 : 0 ≤ (i + 1).toInt ∧ (i + 1).toInt < (X.1 : Int)) (e1 : X.2 (i + 1).toNatClampNeg = a1) (hi2 : 0 ≤ (i + 2).toInt ∧ (i + 2).toInt < (X.1 : Int)) (e2 : X.2 (i + 2).toNatClampNeg = a2) (hi3 : 0 ≤ (i + 3).toInt ∧ (i + 3).toInt < (X.1 : Int)) (e3 : X.2 (i + 3).toNatClampNeg = a3) (hA : Alk S a0 a1 a2 a3 S') : Sto X i S S' := by
  unfold Alk at hA
  rcases hA with ⟨hop, rfl⟩ | ⟨hop, hA⟩ | ⟨hop, hA⟩ | ⟨hop, hA⟩ | ⟨hop, hA⟩ | ⟨hop, hA⟩ | ⟨hop, hA⟩ | ⟨hop, hA⟩ | ⟨hop, hA⟩ | ⟨hop, hA⟩ | ⟨hop, hA⟩ | ⟨hop, hA⟩ | ⟨hop, hA⟩ | ⟨hop, hA⟩ | ⟨hop, hA⟩ | ⟨hop, hA⟩ | ⟨hop, hA⟩ | ⟨hop, hA⟩ | ⟨hop, hA⟩
  · intro d u5 u6 o h9 kk
    exact lw_op18 (d := d + 300) hop hi0 e0 (kk u5 u6)
  · exact stp_0 hL hop hi0 e0 hi1 e1 hi2 e2 hi3 e3 hA
  · exact stp_1 hL hop hi0 e0 hi1 e1 hi2 e2 hi3 e3 hA
  · exact stp_2 hL hop hi0 e0 hi1 e1 hi2 e2 hi3 e3 hA
  · exact stp_3 hL hop hi0 e0 hi1 e1 hi2 e2 hi3 e3 hA
  · exact stp_4 hL hop hi0 e0 hi1 e1 hi2 e2 hi3 e3 hA
  · exact stp_5 hL hop hi0 e0 hi1 e1 hi2 e2 hi3 e3 hA
  · exact stp_6 hL hop hi0 e0 hi1 e1 hi2 e2 hi3 e3 hA
  · exact stp_7 hL hop hi0 e0 hi1 e1 hi2 e2 hi3 e3 hA
  · exact stp_8 hL hop hi0 e0 hi1 e1 hi2 e2 hi3 e3 hA
  · exact stp_9 hL hop hi0 e0 hi1 e1 hi2 e2 hi3 e3 hA
  · exact stp_10 hL hop hi0 e0 hi1 e1 hi2 e2 hi3 e3 hA
  · exact stp_11 hL hop hi0 e0 hi1 e1 hi2 e2 hi3 e3 hA
  · exact stp_12 hL hop hi0 e0 hi1 e1 hi2 e2 hi3 e3 hA
  · exact stp_13 hL hop hi0 e0 hi1 e1 hi2 e2 hi3 e3 hA
  · exact stp_14 hL hop hi0 e0 hi1 e1 hi2 e2 hi3 e3 hA
  · exact stp_15 hL hop hi0 e0 hi1 e1 hi2 e2 hi3 e3 hA
  · exact stp_16 hL hop hi0 e0 hi1 e1 hi2 e2 hi3 e3 hA
  · exact stp_17 hL hop hi0 e0 hi1 e1 hi2 e2 hi3 e3 hA
theorem lay_all (hL : Lay S) (hA : Alk S a0 a1 a2 a3 S') : Lay S' := by
  unfold Alk at hA
  rcases hA with ⟨hop, rfl⟩ | ⟨hop, hA⟩ | ⟨hop, hA⟩ | ⟨hop, hA⟩ | ⟨hop, hA⟩ | ⟨hop, hA⟩ | ⟨hop, hA⟩ | ⟨hop, hA⟩ | ⟨hop, hA⟩ | ⟨hop, hA⟩ | ⟨hop, hA⟩ | ⟨hop, hA⟩ | ⟨hop, hA⟩ | ⟨hop, hA⟩ | ⟨hop, hA⟩ | ⟨hop, hA⟩ | ⟨hop, hA⟩ | ⟨hop, hA⟩ | ⟨hop, hA⟩
  · exact hL
  · obtain ⟨n, b, S1, I, B, h1, h2, rfl⟩ := hA
    exact Lay_M (Lay_ex hL (ehy_type h1))
  · obtain ⟨n, k, b, S1, I, B, h1, h2, h3, h4, rfl⟩ := hA
    exact Lay_M (Lay_ex hL (ehyL_load h1))
  · obtain ⟨b, S1, I, B, h1, h2, rfl⟩ := hA
    exact Lay_M (Lay_ex hL (ehy_fault h1))
  · obtain ⟨b, S1, I, B, h1, h2, rfl⟩ := hA
    exact Lay_M (Lay_ex hL (ehy_who h1))
  · obtain ⟨k, b, S1, I, B, h1, h2, h3, h4, rfl⟩ := hA
    exact Lay_M (Lay_ex hL (ehyL_length h1))
  · obtain ⟨k, b, S1, I, B, h1, h2, h3, h4, rfl⟩ := hA
    exact Lay_M (Lay_ex hL (ehyL_letter h1))
  · obtain ⟨k, b, S1, I, B, h1, h2, h3, h4, rfl⟩ := hA
    exact Lay_M (Lay_ex hL (ehyL_input h1))
  · obtain ⟨k, b, S1, I, B, h1, h2, h3, rfl⟩ := hA
    exact Lay_M (Lay_ex hL (ehyL_room h1))
  · obtain ⟨n, k, b, S1, I, B, h1, h2, h3, rfl⟩ := hA
    exact Lay_M (Lay_ex hL (ehyL_reset h1))
  · obtain ⟨n, k, b, S1, I, B, h1, h2, h3, h4, rfl⟩ := hA
    exact Lay_M (Lay_ex hL (ehyL_step h1))
  · obtain ⟨n, k, b, S1, I, B, h1, h2, h3, h4, rfl⟩ := hA
    exact Lay_M (Lay_ex hL (ehyL_run h1))
  · obtain ⟨k, b, S1, I, B, h1, h2, h3, h4, rfl⟩ := hA
    exact Lay_M (Lay_ex hL (ehyL_at h1))
  · obtain ⟨k, b, S1, I, B, h1, h2, h3, h4, rfl⟩ := hA
    exact Lay_M (Lay_ex hL (ehyL_variable h1))
  · obtain ⟨k, b, S1, I, B, h1, h2, h3, h4, rfl⟩ := hA
    exact Lay_M (Lay_ex hL (ehyL_queue h1))
  · obtain ⟨k, b, S1, I, B, h1, h2, h3, h4, rfl⟩ := hA
    exact Lay_M (Lay_ex hL (ehyL_message h1))
  · obtain ⟨k, b, S1, I, B, h1, h2, h3, h4, rfl⟩ := hA
    exact Lay_M (Lay_ex hL (ehyL_label h1))
  · obtain ⟨n, k, b, S1, I, B, h1, h2, h3, h4, rfl⟩ := hA
    exact Lay_M (Lay_ex hL (ehyL_whole h1))
  · obtain ⟨k, b, S1, I, B, h1, h2, h3, h4, rfl⟩ := hA
    exact Lay_M (Lay_ex hL (ehyL_wanted h1))
end ST
theorem lw_i : ∀ j : Nat, j < 512 → (Int32.ofNat (4 * j)).toInt = 4 * j ∧ (Int32.ofNat (4 * j) + 1).toInt = 4 * j + 1 ∧ (Int32.ofNat (4 * j) + 2).toInt = 4 * j + 2 ∧ (Int32.ofNat (4 * j) + 3).toInt = 4 * j + 3 ∧ Int32.ofNat (4 * j) + 4 = Int32.ofNat (4 * (j + 1)) := by decide +kernel
theorem lw_n : ∀ j : Nat, j ≤ 2052 → (Int32.ofNat j - 4).toInt = (j : Int) - 4 ∧ (Int32.ofNat j).toInt = j := by decide +kernel
theorem law_loop {X : ie_X} (hX : X.1 ≤ 2048) (Inv : Nat → hS → Prop) (hs : ∀ j S a0 a1 a2 a3, j < 512 → Inv j S → ∃ S', Alk S a0 a1 a2 a3 S' ∧ Inv (j + 1) S') (d : Nat) : ∀ (k j : Nat) (S : hS), k + j = X.1 / 4 → Lay S → Inv j S → ∃ S' j', (∀ u5 u6, Go X (d + 301) 222 (23, LL (Int32.ofNat (4 * j)) u5 u6, [], zhp S) (.inl (some (.int 1))) (zhp S')) ∧ Inv j' S' ∧ j' ≤ 512
  | 0, j, S, hk, hL, hI => by
    refine ⟨S, j, fun u5 u6 => lw_exit (d := d + 300) ?_, hI, by omega⟩
    rw [Int32.lt_iff_toInt_lt, (lw_n X.1 (by omega)).1]
    have : (Int32.ofNat (4 * j)).toInt = (4 * j : Nat) := (lw_n (4 * j) (by omega)).2
    rw [this]
    omega
  | k + 1, j, S, hk, hL, hI => by
    have hj : j < 512 := by omega
    obtain ⟨i1, i2, i3, i4, i5⟩ := lw_i j hj
    obtain ⟨S1, hA, hI1⟩ := hs j S (X.2 (Int32.ofNat (4 * j)).toNatClampNeg) (X.2 (Int32.ofNat (4 * j) + 1).toNatClampNeg) (X.2 (Int32.ofNat (4 * j) + 2).toNatClampNeg) (X.2 (Int32.ofNat (4 * j) + 3).toNatClampNeg) hj hI
    have hst := stp_all (X := X) (i := Int32.ofNat (4 * j)) hL ⟨by omega, by omega⟩ rfl ⟨by omega, by omega⟩ rfl ⟨by omega, by omega⟩ rfl ⟨by omega, by omega⟩ rfl hA
    obtain ⟨S', j', hg, hI', hj'⟩ := law_loop hX Inv hs d k (j + 1) S1 (by omega) (lay_all hL hA) hI1
    refine ⟨S', j', fun u5 u6 => ?_, hI', hj'⟩
    refine lw_head (d := d + 300) ?_ (hst d u5 u6 _ _ (fun v5 v6 => lw_next (d := d + 300) ?_))
    · rw [Int32.lt_iff_toInt_lt, (lw_n X.1 (by omega)).1, i1]
      omega
    · rw [i5]
      exact hg v5 v6
