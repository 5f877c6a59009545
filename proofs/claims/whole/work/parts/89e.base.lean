abbrev xR : Type := (Nat → Int32) × (Nat → Nat → Int32) × Int32
abbrev ib (i : Int32) (n : Nat) : Prop := 0 ≤ i.toInt ∧ i.toInt < (n : Int)
def upA (A : Nat → Nat → Int32) (j : Nat) (f : Nat → Int32) : Nat → Nat → Int32 := fun k => if k = j then f else A k
def xb (x : Option xR) (f : (Nat → Int32) → (Nat → Nat → Int32) → Int32 → Option xR) : Option xR := match x with
  | some r => f r.1 r.2.1 r.2.2
  | none => none
theorem xb_inv {x : Option xR} {f : (Nat → Int32) → (Nat → Nat → Int32) → Int32 → Option xR} {y : xR} (h : xb x f = some y) : ∃ I A v, x = some (I, A, v) ∧ f I A v = some y := by
  cases x with
  | none => cases h
  | some r => exact ⟨r.1, r.2.1, r.2.2, rfl, h⟩
theorem xb_some {I : Nat → Int32} {A : Nat → Nat → Int32} {v : Int32} {x : Option xR} {f : (Nat → Int32) → (Nat → Nat → Int32) → Int32 → Option xR} (h : x = some (I, A, v)) : xb x f = f I A v := by rw [h]; rfl
theorem gd {c : Prop} [Decidable c] {x : Option xR} {y : xR} (h : (if c then x else none) = some y) : c ∧ x = some y := by
  by_cases q : c
  · rw [if_pos q] at h; exact ⟨q, h⟩
  · rw [if_neg q] at h; cases h
def mf (I : Nat → Int32) : List Value := [.int (I 0), .int (I 1), .ref 135, .int (I 2), .int (I 3), .int (I 4), .ref 136, .int (I 5), .ref 137, .ref 138, .ref 139, .ref 140, .ref 141, .ref 142, .ref 143, .ref 144, .ref 145, .ref 146, .ref 147, .ref 148, .int (I 6), .int (I 7), .int (I 8), .int (I 9), .ref 149, .int (I 10), .int (I 11), .ref 150, .ref 151, .ref 152, .ref 153, .ref 154, .ref 155, .ref 156, .ref 157, .ref 158, .ref 159, .ref 160, .ref 161, .int (I 12), .ref 162, .int (I 13), .ref 163, .int (I 14), .ref 164, .int (I 15), .ref 165, .int (I 16), .ref 166, .int (I 17), .int (I 18), .ref 167, .ref 168, .ref 169, .ref 170, .ref 171, .ref 172, .ref 173, .ref 174, .ref 175, .int (I 19), .int (I 20), .ref 176]
def MH (I : Nat → Int32) (A : Nat → Nat → Int32) (post : ie_H) : ie_H := .inr (10, mf I) :: .inl (0, 200, .inl (A 1)) :: .inl (0, 200, .inl (A 2)) :: .inl (0, 200, .inl (A 3)) :: .inl (0, 200, .inl (A 4)) :: .inl (0, 200, .inl (A 5)) :: .inl (0, 200, .inl (A 6)) :: .inl (0, 200, .inl (A 7)) :: .inl (0, 200, .inl (A 8)) :: .inl (0, 200, .inl (A 9)) :: .inl (0, 200, .inl (A 10)) :: .inl (0, 200, .inl (A 11)) :: .inl (0, 200, .inl (A 12)) :: .inl (0, 200, .inl (A 13)) :: .inl (0, 200, .inl (A 14)) :: .inl (0, 8, .inl (A 15)) :: .inl (0, 200, .inl (A 16)) :: .inl (0, 200, .inl (A 17)) :: .inl (0, 200, .inl (A 18)) :: .inl (0, 200, .inl (A 19)) :: .inl (0, 200, .inl (A 20)) :: .inl (0, 200, .inl (A 21)) :: .inl (0, 200, .inl (A 22)) :: .inl (0, 200, .inl (A 23)) :: .inl (0, 200, .inl (A 24)) :: .inl (0, 200, .inl (A 25)) :: .inl (0, 6000, .inl (A 26)) :: .inl (0, 6, .inl (A 27)) :: .inl (0, 1100, .inl (A 28)) :: .inl (0, 20, .inl (A 29)) :: .inl (0, 1000, .inl (A 30)) :: .inl (0, 1000, .inl (A 31)) :: .inl (0, 1000, .inl (A 32)) :: .inl (0, 24, .inl (A 33)) :: .inl (0, 24, .inl (A 34)) :: .inl (0, 24, .inl (A 35)) :: .inl (0, 6, .inl (A 36)) :: .inl (0, 6, .inl (A 37)) :: .inl (0, 6, .inl (A 38)) :: .inl (0, 36, .inl (A 39)) :: .inl (0, 288, .inl (A 40)) :: .inl (2, 288, .inl (A 41)) :: .inl (0, 1000, .inl (A 42)) :: post
def Wm (pre post : ie_H) (I : Nat → Int32) (A : Nat → Nat → Int32) : ie_H := pre ++ MH I A post
theorem w_get {pre l : ie_H} (hp : pre.length = 134) (j : Nat) : (pre ++ l)[134 + j]? = l[j]? := by
  rw [List.getElem?_append_right (by omega), hp, Nat.add_sub_cancel_left]
theorem w_set {pre l : ie_H} (hp : pre.length = 134) (j : Nat) (c : ie_C) : List.set (pre ++ l) (134 + j) c = pre ++ List.set l j c := by
  rw [List.set_append_right _ _ (by omega), hp, Nat.add_sub_cancel_left]
section WW
variable {pre post : ie_H} {I : Nat → Int32} {A : Nat → Nat → Int32}
theorem w_0 (hp : pre.length = 134) : (Wm pre post I A)[134]? = some (.inr (10, mf I)) := w_get hp 0
theorem w_1 (hp : pre.length = 134) : (Wm pre post I A)[135]? = some (.inl (0, 200, .inl (A 1))) := w_get hp 1
theorem ws_1 {f : Nat → Int32} (hp : pre.length = 134) : List.set (Wm pre post I A) 135 (.inl (0, 200, .inl f)) = Wm pre post I (upA A 1 f) := w_set hp 1 _
theorem w_2 (hp : pre.length = 134) : (Wm pre post I A)[136]? = some (.inl (0, 200, .inl (A 2))) := w_get hp 2
theorem ws_2 {f : Nat → Int32} (hp : pre.length = 134) : List.set (Wm pre post I A) 136 (.inl (0, 200, .inl f)) = Wm pre post I (upA A 2 f) := w_set hp 2 _
theorem w_3 (hp : pre.length = 134) : (Wm pre post I A)[137]? = some (.inl (0, 200, .inl (A 3))) := w_get hp 3
theorem ws_3 {f : Nat → Int32} (hp : pre.length = 134) : List.set (Wm pre post I A) 137 (.inl (0, 200, .inl f)) = Wm pre post I (upA A 3 f) := w_set hp 3 _
theorem w_4 (hp : pre.length = 134) : (Wm pre post I A)[138]? = some (.inl (0, 200, .inl (A 4))) := w_get hp 4
theorem ws_4 {f : Nat → Int32} (hp : pre.length = 134) : List.set (Wm pre post I A) 138 (.inl (0, 200, .inl f)) = Wm pre post I (upA A 4 f) := w_set hp 4 _
theorem w_5 (hp : pre.length = 134) : (Wm pre post I A)[139]? = some (.inl (0, 200, .inl (A 5))) := w_get hp 5
theorem ws_5 {f : Nat → Int32} (hp : pre.length = 134) : List.set (Wm pre post I A) 139 (.inl (0, 200, .inl f)) = Wm pre post I (upA A 5 f) := w_set hp 5 _
theorem w_6 (hp : pre.length = 134) : (Wm pre post I A)[140]? = some (.inl (0, 200, .inl (A 6))) := w_get hp 6
theorem ws_6 {f : Nat → Int32} (hp : pre.length = 134) : List.set (Wm pre post I A) 140 (.inl (0, 200, .inl f)) = Wm pre post I (upA A 6 f) := w_set hp 6 _
theorem w_7 (hp : pre.length = 134) : (Wm pre post I A)[141]? = some (.inl (0, 200, .inl (A 7))) := w_get hp 7
theorem ws_7 {f : Nat → Int32} (hp : pre.length = 134) : List.set (Wm pre post I A) 141 (.inl (0, 200, .inl f)) = Wm pre post I (upA A 7 f) := w_set hp 7 _
theorem w_8 (hp : pre.length = 134) : (Wm pre post I A)[142]? = some (.inl (0, 200, .inl (A 8))) := w_get hp 8
theorem ws_8 {f : Nat → Int32} (hp : pre.length = 134) : List.set (Wm pre post I A) 142 (.inl (0, 200, .inl f)) = Wm pre post I (upA A 8 f) := w_set hp 8 _
theorem w_9 (hp : pre.length = 134) : (Wm pre post I A)[143]? = some (.inl (0, 200, .inl (A 9))) := w_get hp 9
theorem ws_9 {f : Nat → Int32} (hp : pre.length = 134) : List.set (Wm pre post I A) 143 (.inl (0, 200, .inl f)) = Wm pre post I (upA A 9 f) := w_set hp 9 _
theorem w_10 (hp : pre.length = 134) : (Wm pre post I A)[144]? = some (.inl (0, 200, .inl (A 10))) := w_get hp 10
theorem ws_10 {f : Nat → Int32} (hp : pre.length = 134) : List.set (Wm pre post I A) 144 (.inl (0, 200, .inl f)) = Wm pre post I (upA A 10 f) := w_set hp 10 _
theorem w_11 (hp : pre.length = 134) : (Wm pre post I A)[145]? = some (.inl (0, 200, .inl (A 11))) := w_get hp 11
theorem ws_11 {f : Nat → Int32} (hp : pre.length = 134) : List.set (Wm pre post I A) 145 (.inl (0, 200, .inl f)) = Wm pre post I (upA A 11 f) := w_set hp 11 _
theorem w_12 (hp : pre.length = 134) : (Wm pre post I A)[146]? = some (.inl (0, 200, .inl (A 12))) := w_get hp 12
theorem ws_12 {f : Nat → Int32} (hp : pre.length = 134) : List.set (Wm pre post I A) 146 (.inl (0, 200, .inl f)) = Wm pre post I (upA A 12 f) := w_set hp 12 _
theorem w_13 (hp : pre.length = 134) : (Wm pre post I A)[147]? = some (.inl (0, 200, .inl (A 13))) := w_get hp 13
theorem ws_13 {f : Nat → Int32} (hp : pre.length = 134) : List.set (Wm pre post I A) 147 (.inl (0, 200, .inl f)) = Wm pre post I (upA A 13 f) := w_set hp 13 _
theorem w_14 (hp : pre.length = 134) : (Wm pre post I A)[148]? = some (.inl (0, 200, .inl (A 14))) := w_get hp 14
theorem ws_14 {f : Nat → Int32} (hp : pre.length = 134) : List.set (Wm pre post I A) 148 (.inl (0, 200, .inl f)) = Wm pre post I (upA A 14 f) := w_set hp 14 _
theorem w_15 (hp : pre.length = 134) : (Wm pre post I A)[149]? = some (.inl (0, 8, .inl (A 15))) := w_get hp 15
theorem ws_15 {f : Nat → Int32} (hp : pre.length = 134) : List.set (Wm pre post I A) 149 (.inl (0, 8, .inl f)) = Wm pre post I (upA A 15 f) := w_set hp 15 _
theorem w_16 (hp : pre.length = 134) : (Wm pre post I A)[150]? = some (.inl (0, 200, .inl (A 16))) := w_get hp 16
theorem ws_16 {f : Nat → Int32} (hp : pre.length = 134) : List.set (Wm pre post I A) 150 (.inl (0, 200, .inl f)) = Wm pre post I (upA A 16 f) := w_set hp 16 _
theorem w_17 (hp : pre.length = 134) : (Wm pre post I A)[151]? = some (.inl (0, 200, .inl (A 17))) := w_get hp 17
theorem ws_17 {f : Nat → Int32} (hp : pre.length = 134) : List.set (Wm pre post I A) 151 (.inl (0, 200, .inl f)) = Wm pre post I (upA A 17 f) := w_set hp 17 _
theorem w_18 (hp : pre.length = 134) : (Wm pre post I A)[152]? = some (.inl (0, 200, .inl (A 18))) := w_get hp 18
theorem ws_18 {f : Nat → Int32} (hp : pre.length = 134) : List.set (Wm pre post I A) 152 (.inl (0, 200, .inl f)) = Wm pre post I (upA A 18 f) := w_set hp 18 _
theorem w_19 (hp : pre.length = 134) : (Wm pre post I A)[153]? = some (.inl (0, 200, .inl (A 19))) := w_get hp 19
theorem ws_19 {f : Nat → Int32} (hp : pre.length = 134) : List.set (Wm pre post I A) 153 (.inl (0, 200, .inl f)) = Wm pre post I (upA A 19 f) := w_set hp 19 _
theorem w_20 (hp : pre.length = 134) : (Wm pre post I A)[154]? = some (.inl (0, 200, .inl (A 20))) := w_get hp 20
theorem ws_20 {f : Nat → Int32} (hp : pre.length = 134) : List.set (Wm pre post I A) 154 (.inl (0, 200, .inl f)) = Wm pre post I (upA A 20 f) := w_set hp 20 _
theorem w_21 (hp : pre.length = 134) : (Wm pre post I A)[155]? = some (.inl (0, 200, .inl (A 21))) := w_get hp 21
theorem ws_21 {f : Nat → Int32} (hp : pre.length = 134) : List.set (Wm pre post I A) 155 (.inl (0, 200, .inl f)) = Wm pre post I (upA A 21 f) := w_set hp 21 _
theorem w_22 (hp : pre.length = 134) : (Wm pre post I A)[156]? = some (.inl (0, 200, .inl (A 22))) := w_get hp 22
theorem ws_22 {f : Nat → Int32} (hp : pre.length = 134) : List.set (Wm pre post I A) 156 (.inl (0, 200, .inl f)) = Wm pre post I (upA A 22 f) := w_set hp 22 _
theorem w_23 (hp : pre.length = 134) : (Wm pre post I A)[157]? = some (.inl (0, 200, .inl (A 23))) := w_get hp 23
theorem ws_23 {f : Nat → Int32} (hp : pre.length = 134) : List.set (Wm pre post I A) 157 (.inl (0, 200, .inl f)) = Wm pre post I (upA A 23 f) := w_set hp 23 _
theorem w_24 (hp : pre.length = 134) : (Wm pre post I A)[158]? = some (.inl (0, 200, .inl (A 24))) := w_get hp 24
theorem ws_24 {f : Nat → Int32} (hp : pre.length = 134) : List.set (Wm pre post I A) 158 (.inl (0, 200, .inl f)) = Wm pre post I (upA A 24 f) := w_set hp 24 _
theorem w_25 (hp : pre.length = 134) : (Wm pre post I A)[159]? = some (.inl (0, 200, .inl (A 25))) := w_get hp 25
theorem ws_25 {f : Nat → Int32} (hp : pre.length = 134) : List.set (Wm pre post I A) 159 (.inl (0, 200, .inl f)) = Wm pre post I (upA A 25 f) := w_set hp 25 _
theorem w_26 (hp : pre.length = 134) : (Wm pre post I A)[160]? = some (.inl (0, 6000, .inl (A 26))) := w_get hp 26
theorem ws_26 {f : Nat → Int32} (hp : pre.length = 134) : List.set (Wm pre post I A) 160 (.inl (0, 6000, .inl f)) = Wm pre post I (upA A 26 f) := w_set hp 26 _
theorem w_27 (hp : pre.length = 134) : (Wm pre post I A)[161]? = some (.inl (0, 6, .inl (A 27))) := w_get hp 27
theorem ws_27 {f : Nat → Int32} (hp : pre.length = 134) : List.set (Wm pre post I A) 161 (.inl (0, 6, .inl f)) = Wm pre post I (upA A 27 f) := w_set hp 27 _
theorem w_28 (hp : pre.length = 134) : (Wm pre post I A)[162]? = some (.inl (0, 1100, .inl (A 28))) := w_get hp 28
theorem ws_28 {f : Nat → Int32} (hp : pre.length = 134) : List.set (Wm pre post I A) 162 (.inl (0, 1100, .inl f)) = Wm pre post I (upA A 28 f) := w_set hp 28 _
theorem w_29 (hp : pre.length = 134) : (Wm pre post I A)[163]? = some (.inl (0, 20, .inl (A 29))) := w_get hp 29
theorem ws_29 {f : Nat → Int32} (hp : pre.length = 134) : List.set (Wm pre post I A) 163 (.inl (0, 20, .inl f)) = Wm pre post I (upA A 29 f) := w_set hp 29 _
theorem w_30 (hp : pre.length = 134) : (Wm pre post I A)[164]? = some (.inl (0, 1000, .inl (A 30))) := w_get hp 30
theorem ws_30 {f : Nat → Int32} (hp : pre.length = 134) : List.set (Wm pre post I A) 164 (.inl (0, 1000, .inl f)) = Wm pre post I (upA A 30 f) := w_set hp 30 _
theorem w_31 (hp : pre.length = 134) : (Wm pre post I A)[165]? = some (.inl (0, 1000, .inl (A 31))) := w_get hp 31
theorem ws_31 {f : Nat → Int32} (hp : pre.length = 134) : List.set (Wm pre post I A) 165 (.inl (0, 1000, .inl f)) = Wm pre post I (upA A 31 f) := w_set hp 31 _
theorem w_32 (hp : pre.length = 134) : (Wm pre post I A)[166]? = some (.inl (0, 1000, .inl (A 32))) := w_get hp 32
theorem ws_32 {f : Nat → Int32} (hp : pre.length = 134) : List.set (Wm pre post I A) 166 (.inl (0, 1000, .inl f)) = Wm pre post I (upA A 32 f) := w_set hp 32 _
theorem w_33 (hp : pre.length = 134) : (Wm pre post I A)[167]? = some (.inl (0, 24, .inl (A 33))) := w_get hp 33
theorem ws_33 {f : Nat → Int32} (hp : pre.length = 134) : List.set (Wm pre post I A) 167 (.inl (0, 24, .inl f)) = Wm pre post I (upA A 33 f) := w_set hp 33 _
theorem w_34 (hp : pre.length = 134) : (Wm pre post I A)[168]? = some (.inl (0, 24, .inl (A 34))) := w_get hp 34
theorem ws_34 {f : Nat → Int32} (hp : pre.length = 134) : List.set (Wm pre post I A) 168 (.inl (0, 24, .inl f)) = Wm pre post I (upA A 34 f) := w_set hp 34 _
theorem w_35 (hp : pre.length = 134) : (Wm pre post I A)[169]? = some (.inl (0, 24, .inl (A 35))) := w_get hp 35
theorem ws_35 {f : Nat → Int32} (hp : pre.length = 134) : List.set (Wm pre post I A) 169 (.inl (0, 24, .inl f)) = Wm pre post I (upA A 35 f) := w_set hp 35 _
theorem w_36 (hp : pre.length = 134) : (Wm pre post I A)[170]? = some (.inl (0, 6, .inl (A 36))) := w_get hp 36
theorem ws_36 {f : Nat → Int32} (hp : pre.length = 134) : List.set (Wm pre post I A) 170 (.inl (0, 6, .inl f)) = Wm pre post I (upA A 36 f) := w_set hp 36 _
theorem w_37 (hp : pre.length = 134) : (Wm pre post I A)[171]? = some (.inl (0, 6, .inl (A 37))) := w_get hp 37
theorem ws_37 {f : Nat → Int32} (hp : pre.length = 134) : List.set (Wm pre post I A) 171 (.inl (0, 6, .inl f)) = Wm pre post I (upA A 37 f) := w_set hp 37 _
theorem w_38 (hp : pre.length = 134) : (Wm pre post I A)[172]? = some (.inl (0, 6, .inl (A 38))) := w_get hp 38
theorem ws_38 {f : Nat → Int32} (hp : pre.length = 134) : List.set (Wm pre post I A) 172 (.inl (0, 6, .inl f)) = Wm pre post I (upA A 38 f) := w_set hp 38 _
theorem w_39 (hp : pre.length = 134) : (Wm pre post I A)[173]? = some (.inl (0, 36, .inl (A 39))) := w_get hp 39
theorem ws_39 {f : Nat → Int32} (hp : pre.length = 134) : List.set (Wm pre post I A) 173 (.inl (0, 36, .inl f)) = Wm pre post I (upA A 39 f) := w_set hp 39 _
theorem w_40 (hp : pre.length = 134) : (Wm pre post I A)[174]? = some (.inl (0, 288, .inl (A 40))) := w_get hp 40
theorem ws_40 {f : Nat → Int32} (hp : pre.length = 134) : List.set (Wm pre post I A) 174 (.inl (0, 288, .inl f)) = Wm pre post I (upA A 40 f) := w_set hp 40 _
theorem w_41 (hp : pre.length = 134) : (Wm pre post I A)[175]? = some (.inl (2, 288, .inl (A 41))) := w_get hp 41
theorem ws_41 {f : Nat → Int32} (hp : pre.length = 134) : List.set (Wm pre post I A) 175 (.inl (2, 288, .inl f)) = Wm pre post I (upA A 41 f) := w_set hp 41 _
theorem w_42 (hp : pre.length = 134) : (Wm pre post I A)[176]? = some (.inl (0, 1000, .inl (A 42))) := w_get hp 42
theorem ws_42 {f : Nat → Int32} (hp : pre.length = 134) : List.set (Wm pre post I A) 176 (.inl (0, 1000, .inl f)) = Wm pre post I (upA A 42 f) := w_set hp 42 _
theorem wo_0 {v : Int32} (hp : pre.length = 134) : List.set (Wm pre post I A) 134 (.inr (10, (mf I).set 0 (.int v))) = Wm pre post (upd I 0 v) A := w_set hp 0 _
theorem wo_1 {v : Int32} (hp : pre.length = 134) : List.set (Wm pre post I A) 134 (.inr (10, (mf I).set 1 (.int v))) = Wm pre post (upd I 1 v) A := w_set hp 0 _
theorem wo_2 {v : Int32} (hp : pre.length = 134) : List.set (Wm pre post I A) 134 (.inr (10, (mf I).set 3 (.int v))) = Wm pre post (upd I 2 v) A := w_set hp 0 _
theorem wo_3 {v : Int32} (hp : pre.length = 134) : List.set (Wm pre post I A) 134 (.inr (10, (mf I).set 4 (.int v))) = Wm pre post (upd I 3 v) A := w_set hp 0 _
theorem wo_4 {v : Int32} (hp : pre.length = 134) : List.set (Wm pre post I A) 134 (.inr (10, (mf I).set 5 (.int v))) = Wm pre post (upd I 4 v) A := w_set hp 0 _
theorem wo_5 {v : Int32} (hp : pre.length = 134) : List.set (Wm pre post I A) 134 (.inr (10, (mf I).set 7 (.int v))) = Wm pre post (upd I 5 v) A := w_set hp 0 _
theorem wo_6 {v : Int32} (hp : pre.length = 134) : List.set (Wm pre post I A) 134 (.inr (10, (mf I).set 20 (.int v))) = Wm pre post (upd I 6 v) A := w_set hp 0 _
theorem wo_7 {v : Int32} (hp : pre.length = 134) : List.set (Wm pre post I A) 134 (.inr (10, (mf I).set 21 (.int v))) = Wm pre post (upd I 7 v) A := w_set hp 0 _
theorem wo_8 {v : Int32} (hp : pre.length = 134) : List.set (Wm pre post I A) 134 (.inr (10, (mf I).set 22 (.int v))) = Wm pre post (upd I 8 v) A := w_set hp 0 _
theorem wo_9 {v : Int32} (hp : pre.length = 134) : List.set (Wm pre post I A) 134 (.inr (10, (mf I).set 23 (.int v))) = Wm pre post (upd I 9 v) A := w_set hp 0 _
theorem wo_10 {v : Int32} (hp : pre.length = 134) : List.set (Wm pre post I A) 134 (.inr (10, (mf I).set 25 (.int v))) = Wm pre post (upd I 10 v) A := w_set hp 0 _
theorem wo_11 {v : Int32} (hp : pre.length = 134) : List.set (Wm pre post I A) 134 (.inr (10, (mf I).set 26 (.int v))) = Wm pre post (upd I 11 v) A := w_set hp 0 _
theorem wo_12 {v : Int32} (hp : pre.length = 134) : List.set (Wm pre post I A) 134 (.inr (10, (mf I).set 39 (.int v))) = Wm pre post (upd I 12 v) A := w_set hp 0 _
theorem wo_13 {v : Int32} (hp : pre.length = 134) : List.set (Wm pre post I A) 134 (.inr (10, (mf I).set 41 (.int v))) = Wm pre post (upd I 13 v) A := w_set hp 0 _
theorem wo_14 {v : Int32} (hp : pre.length = 134) : List.set (Wm pre post I A) 134 (.inr (10, (mf I).set 43 (.int v))) = Wm pre post (upd I 14 v) A := w_set hp 0 _
theorem wo_15 {v : Int32} (hp : pre.length = 134) : List.set (Wm pre post I A) 134 (.inr (10, (mf I).set 45 (.int v))) = Wm pre post (upd I 15 v) A := w_set hp 0 _
theorem wo_16 {v : Int32} (hp : pre.length = 134) : List.set (Wm pre post I A) 134 (.inr (10, (mf I).set 47 (.int v))) = Wm pre post (upd I 16 v) A := w_set hp 0 _
theorem wo_17 {v : Int32} (hp : pre.length = 134) : List.set (Wm pre post I A) 134 (.inr (10, (mf I).set 49 (.int v))) = Wm pre post (upd I 17 v) A := w_set hp 0 _
theorem wo_18 {v : Int32} (hp : pre.length = 134) : List.set (Wm pre post I A) 134 (.inr (10, (mf I).set 50 (.int v))) = Wm pre post (upd I 18 v) A := w_set hp 0 _
theorem wo_19 {v : Int32} (hp : pre.length = 134) : List.set (Wm pre post I A) 134 (.inr (10, (mf I).set 60 (.int v))) = Wm pre post (upd I 19 v) A := w_set hp 0 _
theorem wo_20 {v : Int32} (hp : pre.length = 134) : List.set (Wm pre post I A) 134 (.inr (10, (mf I).set 61 (.int v))) = Wm pre post (upd I 20 v) A := w_set hp 0 _
end WW
