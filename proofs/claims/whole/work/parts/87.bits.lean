def rd_rp (x : Int32) : Bool := decide (¬ x < 0) && decide (¬ 6 ≤ x)
def rd_bo (x : Int32) : Int32 := if rd_rp x = true then 1 <<< (x &&& 31) else 0
def oc_ch (h : ie_H) : List (Nat × Int32) → Value → Prop
  | [], v => v = .null
  | q :: r, v => v = .ref q.1 ∧ ∃ (pl k p ot va l : Int32) (ex : Int64) (x y z w : Value), h[q.1]? = some (st9 pl k p ot va l ex x y z w q.2) ∧ oc_ch h r z
section RB
variable {X : ie_X} {d a c n : Nat} {f : Nat → Int32} {h : ie_H}
theorem rd_isParty (x : Int32) : Go X d 33 (0, ie_en 33 [.int x], [], h) (.inl (some (.int (ty_b (rd_rp x))))) h := by
  refine go_run 1 (F' := (1, [some (.int x)], [.int x], h)) rfl ?_
  refine go_step rfl rfl ?_
  by_cases q1 : x < 0
  · rw [if_pos q1, show rd_rp x = false by simp [rd_rp, q1]]
    refine go_run 1 (F' := (15, [some (.int x)], [.int 0], h)) rfl ?_
    exact go_end rfl rfl
  · rw [if_neg q1]
    refine go_run 2 (F' := (7, [some (.int x)], [.int 6, .int x], h)) rfl ?_
    refine go_step rfl rfl ?_
    by_cases q2 : 6 ≤ x
    · rw [if_pos q2, show rd_rp x = false by simp [rd_rp, q2]]
      refine go_run 1 (F' := (15, [some (.int x)], [.int 0], h)) rfl ?_
      exact go_end rfl rfl
    · rw [if_neg q2, show rd_rp x = true by simp [rd_rp, q1, q2]]
      refine go_run 2 (F' := (15, [some (.int x)], [.int 1], h)) rfl ?_
      exact go_end rfl rfl
theorem rd_bitOf (x : Int32) : Go X (d + 1) 32 (0, ie_en 32 [.int x], [], h) (.inl (some (.int (rd_bo x)))) h := by
  refine go_run 1 (F' := (1, [some (.int x)], [.int x], h)) rfl ?_
  refine go_call (m' := 33) (v := some (.int (ty_b (rd_rp x)))) (h1 := h) rfl rfl ⟨rfl, Nat.le_of_ble_eq_true rfl⟩ (rd_isParty x) ?_
  unfold rd_bo
  cases q : rd_rp x with
  | true =>
    rw [if_pos rfl]
    refine go_run 5 (F' := (14, [some (.int x)], [.int (1 <<< (x &&& 31))], h)) rfl ?_
    exact go_end rfl rfl
  | false =>
    rw [if_neg (by decide)]
    refine go_run 2 (F' := (14, [some (.int x)], [.int 0], h)) rfl ?_
    exact go_end rfl rfl
theorem rd_occL {u : Option Value} : ∀ (r : List (Nat × Int32)) (v : Value) (acc : Int32), oc_ch h r v → Go X d 34 (4, [u, some (.int acc), some v], [], h) (.inl (some (.int (r.foldl (fun s q => s ||| q.2) acc)))) h
  | [], v, acc, hv => by
    cases hv
    refine go_run 3 (F' := (24, [u, some (.int acc), some .null], [.int acc], h)) rfl ?_
    exact go_end rfl rfl
  | q :: r, v, acc, hv => by
    obtain ⟨rfl, pl, k, p, ot, va, l, ex, x, y, z, w, hb, hr⟩ := hv
    refine go_run 4 (F' := (10, [u, some (.int acc), some (.ref q.1)], [.ref q.1, .int acc], h)) rfl ?_
    refine go_gf rfl hb rfl ?_
    refine go_run 3 (F' := (16, [u, some (.int (acc ||| q.2)), some (.ref q.1)], [.ref q.1], h)) rfl ?_
    refine go_gf rfl hb rfl ?_
    have k := rd_occL (u := u) r z (acc ||| q.2) hr
    cases r with
    | nil =>
      cases hr
      refine go_run 2 (F' := (4, [u, some (.int (acc ||| q.2)), some .null], [], h)) rfl ?_
      exact k
    | cons q2 r2 =>
      obtain ⟨rfl, -⟩ := hr
      refine go_run 2 (F' := (4, [u, some (.int (acc ||| q.2)), some (.ref q2.1)], [], h)) rfl ?_
      exact k
theorem rd_occ {r : List (Nat × Int32)} {v : Value} (hv : oc_ch h r v) : Go X d 34 (0, ie_en 34 [v], [], h) (.inl (some (.int (r.foldl (fun s q => s ||| q.2) 0)))) h := by
  have k := rd_occL (X := X) (d := d) (u := some v) r v 0 hv
  cases r with
  | nil =>
    cases hv
    refine go_run 4 (F' := (4, [some .null, some (.int 0), some .null], [], h)) rfl ?_
    exact k
  | cons q r =>
    obtain ⟨rfl, -⟩ := hv
    refine go_run 4 (F' := (4, [some (.ref q.1), some (.int 0), some (.ref q.1)], [], h)) rfl ?_
    exact k
def ks_ends (f : Nat → Int32) (c dp : Nat) (s : rs) : Bool := if dp = 0 then decide (s.1 = c) else decide (ka f c s 0 = 125)
theorem rd_ends {s : rs} {dp : Nat} (hd : dp ≤ 10) (hc : c ≤ 200) (hf : ∀ j, 0 ≤ (f j).toInt ∧ (f j).toInt < 65536) (ca : h[a]? = some (rk c n s)) (ct : h[1]? = some (.inl (1, 200, .inl f))) (hP : s.1 ≤ c) : Go X (d + 1) 14 (0, ie_en 14 [.ref a, .int (Int32.ofNat dp)], [], h) (.inl (some (.int (ty_b (ks_ends f c dp s))))) h := by
  refine go_run 1 (F' := (1, [some (.ref a), some (.int (Int32.ofNat dp))], [.int (Int32.ofNat dp)], h)) rfl ?_
  refine go_step rfl rfl ?_
  by_cases q : dp = 0
  · subst q
    rw [if_pos (by decide : Int32.ofNat 0 = 0)]
    refine go_run 1 (F' := (5, [some (.ref a), some (.int (Int32.ofNat 0))], [.ref a], h)) rfl ?_
    refine go_gf rfl ca rfl ?_
    refine go_run 1 (F' := (9, [some (.ref a), some (.int (Int32.ofNat 0))], [.ref a, .int (Int32.ofNat s.1)], h)) rfl ?_
    refine go_gf rfl ca rfl ?_
    refine go_step rfl rfl ?_
    have hP' : s.1 ≤ c := hP
    by_cases q2 : s.1 = c
    · rw [if_pos ((i_eq (by omega) (by omega)).mpr q2), show ks_ends f c 0 s = true by simp [ks_ends, q2]]
      refine go_run 2 (F' := (38, [some (.ref a), some (.int (Int32.ofNat 0))], [.int 1], h)) rfl ?_
      exact go_end rfl rfl
    · rw [if_neg (fun z => q2 ((i_eq (by omega) (by omega)).mp z)), show ks_ends f c 0 s = false by simp [ks_ends, q2]]
      refine go_run 2 (F' := (38, [some (.ref a), some (.int (Int32.ofNat 0))], [.int 0], h)) rfl ?_
      exact go_end rfl rfl
  · have q9 : ¬ Int32.ofNat dp = 0 := fun z => q ((i_eq (by omega) (by omega : (0 : Nat) ≤ 1000)).mp z)
    rw [if_neg q9]
    refine go_run 2 (F' := (25, [some (.ref a), some (.int (Int32.ofNat dp))], [.int (Int32.ofNat 0), .ref a], h)) rfl ?_
    refine go_call (m' := 15) (v := some (.int (ka f c s 0))) (h1 := h) rfl (by simp only [ie_step, ie_iv, List.drop, ca]; rfl) ⟨rfl, Nat.le_of_ble_eq_true rfl⟩ (rd_ahead ca ct hc hP (by decide) hf) ?_
    refine go_run 1 (F' := (30, [some (.ref a), some (.int (Int32.ofNat dp))], [.int 125, .int (ka f c s 0)], h)) rfl ?_
    refine go_step rfl rfl ?_
    by_cases q2 : ka f c s 0 = 125
    · rw [if_pos q2, show ks_ends f c dp s = true by simp [ks_ends, q, q2]]
      refine go_run 2 (F' := (38, [some (.ref a), some (.int (Int32.ofNat dp))], [.int 1], h)) rfl ?_
      exact go_end rfl rfl
    · rw [if_neg q2, show ks_ends f c dp s = false by simp [ks_ends, q, q2]]
      refine go_run 1 (F' := (38, [some (.ref a), some (.int (Int32.ofNat dp))], [.int 0], h)) rfl ?_
      exact go_end rfl rfl
theorem rd_newS {b : Nat} {P : Int32} (cb : h[b]? = some (st9 0 0 0 0 0 0 0 .null .null .null .null 0)) : Go X d 17 (0, ie_en 17 [.ref b, .int P], [], h) (.inl none) (List.set h b (st9 P 0 0 (-1) 0 0 0 .null .null .null .null 0)) := by
  refine go_run 4 (F' := (6, [some (.ref b), some (.int P)], [.int (-1), .ref b], h)) rfl ?_
  refine go_pf rfl cb (Nat.le_of_ble_eq_true rfl) rfl rfl ?_
  refine go_run 2 (F' := (11, [some (.ref b), some (.int P)], [.int P, .ref b], List.set h b (st9 0 0 0 (-1) 0 0 0 .null .null .null .null 0))) rfl ?_
  refine go_pf rfl (gs_self cb) (Nat.le_of_ble_eq_true rfl) rfl rfl ?_
  refine go_run 0 (F' := (14, [some (.ref b), some (.int P)], [], List.set (List.set h b (st9 0 0 0 (-1) 0 0 0 .null .null .null .null 0)) b (st9 P 0 0 (-1) 0 0 0 .null .null .null .null 0))) rfl ?_
  rw [List.set_set]
  exact go_end rfl rfl
end RB
