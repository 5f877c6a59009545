theorem ty_mz {w : Int64} {k : Nat} : (lg_cmp (Int64.ofNat (by_N w k)) 0 = 0) ↔ by_g w k = 0 := by
  rw [lg_cmp_eq]
  exact (by_small _ (by_lt w k)).2.2.1
theorem ty_m1 {X : ie_X} {d : Nat} {h h' : ie_H} {o : ie_O} {w : Int64} : ∀ (j k : Nat) (b : Bool) (x5 : Option Value), j + k = 8 → (∀ y5, Go X d 135 (76, [some (.ref 134), some (.long w), none, some (.int (Int32.ofNat (ty_ms (by_g w) j k b).1)), some (.int (ty_b (ty_ms (by_g w) j k b).2)), y5], [], h) o h') → Go X d 135 (10, [some (.ref 134), some (.long w), none, some (.int (Int32.ofNat k)), some (.int (ty_b b)), x5], [], h) o h'
  | 0, k, b, x5, hk, h1 => by
    have : k = 8 := by omega
    subst this
    refine go_run 3 (F' := (76, [some (.ref 134), some (.long w), none, some (.int (Int32.ofNat 8)), some (.int (ty_b b)), x5], [], h)) rfl ?_
    exact h1 x5
  | j + 1, k, b, x5, hk, h1 => by
    have hk8 : k < 8 := by omega
    have n8 := ty_n8 k hk8
    refine go_run 2 (F' := (13, [some (.ref 134), some (.long w), none, some (.int (Int32.ofNat k)), some (.int (ty_b b)), x5], [.int 8, .int (Int32.ofNat k)], h)) rfl ?_
    refine go_step rfl rfl ?_
    rw [if_neg n8.1]
    refine go_run 9 (F' := (28, [some (.ref 134), some (.long w), none, some (.int (Int32.ofNat k)), some (.int (ty_b b)), x5], [.int (lg_cmp (by_m w (Int32.ofNat k)) 0)], h)) rfl ?_
    rw [by_me w k hk8]
    refine go_step rfl rfl ?_
    unfold ty_ms at h1
    by_cases q0 : by_g w k = 0
    · rw [if_pos (ty_mz.mpr q0)]
      simp only [if_pos q0] at h1
      exact h1 x5
    · rw [if_neg (fun z => q0 (ty_mz.mp z))]
      simp only [if_neg q0] at h1
      refine go_run 9 (F' := (44, [some (.ref 134), some (.long w), none, some (.int (Int32.ofNat k)), some (.int (ty_b b)), some (.int (Int64.toInt32 (by_m w (Int32.ofNat k))))], [], h)) rfl ?_
      rw [by_me w k hk8, (by_small _ (by_lt w k)).2.1]
      refine go_run 0 (F' := (44, [some (.ref 134), some (.long w), none, some (.int (Int32.ofNat k)), some (.int (ty_b b)), some (.int (by_g w k))], [], h)) rfl ?_
      have fin : Go X d 135 (68, [some (.ref 134), some (.long w), none, some (.int (Int32.ofNat k)), some (.int (ty_b b)), some (.int (by_g w k))], [.int (ty_b (b && ty_ok (by_g w k)))], h) o h' := by
        refine go_run 3 (F' := (10, [some (.ref 134), some (.long w), none, some (.int (Int32.ofNat k + 1)), some (.int (ty_b (b && ty_ok (by_g w k)))), some (.int (by_g w k))], [], h)) rfl ?_
        rw [n8.2]
        exact ty_m1 j (k + 1) _ _ (by omega) h1
      cases b with
      | false =>
        refine go_run 3 (F' := (68, [some (.ref 134), some (.long w), none, some (.int (Int32.ofNat k)), some (.int (ty_b false)), some (.int (by_g w k))], [.int 0], h)) rfl ?_
        exact fin
      | true =>
        refine go_run 4 (F' := (53, [some (.ref 134), some (.long w), none, some (.int (Int32.ofNat k)), some (.int (ty_b true)), some (.int (by_g w k))], [.int 32, .int (by_g w k)], h)) rfl ?_
        refine go_step rfl rfl ?_
        by_cases q1 : by_g w k ≤ 32
        · rw [if_pos q1]
          refine go_run 1 (F' := (68, [some (.ref 134), some (.long w), none, some (.int (Int32.ofNat k)), some (.int (ty_b true)), some (.int (by_g w k))], [.int 0], h)) rfl ?_
          rw [show (true && ty_ok (by_g w k)) = false by simp [ty_ok, q1]] at fin
          exact fin
        · rw [if_neg q1]
          refine go_run 2 (F' := (60, [some (.ref 134), some (.long w), none, some (.int (Int32.ofNat k)), some (.int (ty_b true)), some (.int (by_g w k))], [.int 127, .int (by_g w k)], h)) rfl ?_
          refine go_step rfl rfl ?_
          by_cases q2 : 127 ≤ by_g w k
          · rw [if_pos q2]
            refine go_run 1 (F' := (68, [some (.ref 134), some (.long w), none, some (.int (Int32.ofNat k)), some (.int (ty_b true)), some (.int (by_g w k))], [.int 0], h)) rfl ?_
            rw [show (true && ty_ok (by_g w k)) = false by simp [ty_ok, q2]] at fin
            exact fin
          · rw [if_neg q2]
            refine go_run 2 (F' := (68, [some (.ref 134), some (.long w), none, some (.int (Int32.ofNat k)), some (.int (ty_b true)), some (.int (by_g w k))], [.int 1], h)) rfl ?_
            rw [show (true && ty_ok (by_g w k)) = true by simp [ty_ok, q1, q2]] at fin
            exact fin
section TYM
variable {X : ie_X} {d : Nat} {w : Int64} {t_ fa wh ch it at_ bad co de lo st sz tp am bm mn rm sp be wo : Int32}
theorem ty_m2 {c n : Nat} {f : Nat → Int32} {h9 : ie_H} {o : ie_O} {u : Option Value} (hn : n ≤ 8) (hc : c + n ≤ 200) : ∀ (j i : Nat) (h : ie_H), j + i = n → h[134]? = some (mo t_ (Int32.ofNat c) fa wh ch it at_ bad co de lo st sz tp am bm mn rm sp be wo) → h[135]? = some (.inl (0, 200, .inl (ty_cp (by_g w) f c i))) → (Go X d 135 (134, [some (.ref 134), some (.long w), none, some (.int (Int32.ofNat n)), u, some (.int (Int32.ofNat n))], [], List.set h 135 (.inl (0, 200, .inl (ty_cp (by_g w) f c n)))) o h9) → Go X d 135 (98, [some (.ref 134), some (.long w), none, some (.int (Int32.ofNat n)), u, some (.int (Int32.ofNat i))], [], h) o h9
  | 0, i, h, hj, h0, h1, kk => by
    have : i = n := by omega
    subst this
    refine go_run 2 (F' := (101, [some (.ref 134), some (.long w), none, some (.int (Int32.ofNat i)), u, some (.int (Int32.ofNat i))], [.int (Int32.ofNat i), .int (Int32.ofNat i)], h)) rfl ?_
    refine go_step rfl rfl ?_
    rw [if_pos ((ty_lt8 i hn i hn).mpr (Nat.le_refl _))]
    have hs : List.set h 135 (.inl (0, 200, .inl (ty_cp (by_g w) f c i))) = h := by
      obtain ⟨hl, he⟩ := List.getElem?_eq_some_iff.mp h1
      rw [← he]; exact List.set_getElem_self hl
    rw [hs] at kk
    exact kk
  | j + 1, i, h, hj, h0, h1, kk => by
    have hi : i < n := by omega
    have hi8 : i < 8 := by omega
    refine go_run 2 (F' := (101, [some (.ref 134), some (.long w), none, some (.int (Int32.ofNat n)), u, some (.int (Int32.ofNat i))], [.int (Int32.ofNat n), .int (Int32.ofNat i)], h)) rfl ?_
    refine go_step rfl rfl ?_
    rw [if_neg (fun z => by have := (ty_lt8 i (by omega) n hn).mp z; omega)]
    refine go_run 1 (F' := (105, [some (.ref 134), some (.long w), none, some (.int (Int32.ofNat n)), u, some (.int (Int32.ofNat i))], [.ref 134], h)) rfl ?_
    refine go_gf rfl h0 rfl ?_
    refine go_run 1 (F' := (109, [some (.ref 134), some (.long w), none, some (.int (Int32.ofNat n)), u, some (.int (Int32.ofNat i))], [.ref 134, .ref 135], h)) rfl ?_
    refine go_gf rfl h0 rfl ?_
    refine go_run 10 (F' := (127, [some (.ref 134), some (.long w), none, some (.int (Int32.ofNat n)), u, some (.int (Int32.ofNat i))], [.int (Int64.toInt32 (by_m w (Int32.ofNat i))), .int (Int32.ofNat c + Int32.ofNat i), .ref 135], h)) rfl ?_
    rw [ty_add, by_me w i hi8, (by_small _ (by_lt w i)).2.1]
    have hs := ty_small (c + i) (by omega)
    refine go_iast rfl h1 ?_ rfl ?_
    · rw [hs.1]; omega
    rw [hs.2]
    refine go_run 2 (F' := (98, [some (.ref 134), some (.long w), none, some (.int (Int32.ofNat n)), u, some (.int (Int32.ofNat i + 1))], [], List.set h 135 (.inl (0, 200, .inl (upd (ty_cp (by_g w) f c i) (c + i) (by_g w i)))))) rfl ?_
    rw [(ty_n8 i hi8).2]
    refine ty_m2 hn hc j (i + 1) _ (by omega) (gs_ne (by decide) h0) (gs_self h1) ?_
    rw [List.set_set]
    exact kk
theorem um_type_no {h : ie_H} {c : Nat} (hc : c ≤ 200) (c134 : h[134]? = some (mo t_ (Int32.ofNat c) fa wh ch it at_ bad co de lo st sz tp am bm mn rm sp be wo)) (hno : ty_no w c) : Go X d 135 (0, ie_en 135 [.ref 134, .long w], [], h) (.inl (some (.int 0))) (List.set h 134 (mo 0 (Int32.ofNat c) fa wh ch it at_ bad co de lo st sz tp am bm mn rm sp be wo)) := by
  refine go_run 2 (F' := (2, [some (.ref 134), some (.long w), none, none, none, none], [.int 0, .ref 134], h)) rfl ?_
  refine go_pf rfl c134 (Nat.le_of_ble_eq_true rfl) rfl rfl ?_
  refine go_run 4 (F' := (10, [some (.ref 134), some (.long w), none, some (.int (Int32.ofNat 0)), some (.int (ty_b true)), none], [], List.set h 134 (mo 0 (Int32.ofNat c) fa wh ch it at_ bad co de lo st sz tp am bm mn rm sp be wo))) rfl ?_
  refine ty_m1 8 0 true none rfl ?_
  intro y5
  have key := ty_ms_sc w 8 0
  unfold ty_no at hno
  cases hs : ty_sc (by_g w) 8 0 with
  | none =>
    rw [hs] at key
    simp only at key
    rw [key]
    refine go_run 3 (F' := (94, [some (.ref 134), some (.long w), none, some (.int (Int32.ofNat (ty_ms (by_g w) 8 0 true).1)), some (.int (ty_b false)), y5], [.int 0], List.set h 134 (mo 0 (Int32.ofNat c) fa wh ch it at_ bad co de lo st sz tp am bm mn rm sp be wo))) rfl ?_
    exact go_end rfl rfl
  | some n =>
    have hn := ty_sc_le _ _ _ _ hs
    rw [hs] at key hno
    simp only at key hno
    rw [key]
    refine go_run 3 (F' := (82, [some (.ref 134), some (.long w), none, some (.int (Int32.ofNat n)), some (.int (ty_b true)), y5], [.ref 134], List.set h 134 (mo 0 (Int32.ofNat c) fa wh ch it at_ bad co de lo st sz tp am bm mn rm sp be wo))) rfl ?_
    refine go_gf rfl (gs_self c134) rfl ?_
    refine go_run 3 (F' := (90, [some (.ref 134), some (.long w), none, some (.int (Int32.ofNat n)), some (.int (ty_b true)), y5], [.int 200, .int (Int32.ofNat c + Int32.ofNat n)], List.set h 134 (mo 0 (Int32.ofNat c) fa wh ch it at_ bad co de lo st sz tp am bm mn rm sp be wo))) rfl ?_
    rw [ty_add]
    refine go_step rfl rfl ?_
    rw [if_neg (fun z => by have := (ty_le200 (c + n) (by omega)).mp z; omega)]
    refine go_run 1 (F' := (94, [some (.ref 134), some (.long w), none, some (.int (Int32.ofNat n)), some (.int (ty_b true)), y5], [.int 0], List.set h 134 (mo 0 (Int32.ofNat c) fa wh ch it at_ bad co de lo st sz tp am bm mn rm sp be wo))) rfl ?_
    exact go_end rfl rfl
theorem um_type_yes {h : ie_H} {c n : Nat} {f : Nat → Int32} (c134 : h[134]? = some (mo t_ (Int32.ofNat c) fa wh ch it at_ bad co de lo st sz tp am bm mn rm sp be wo)) (c135 : h[135]? = some (.inl (0, 200, .inl f))) (hs : ty_sc (by_g w) 8 0 = some n) (hc : c + n ≤ 200) : Go X d 135 (0, ie_en 135 [.ref 134, .long w], [], h) (.inl (some (.int 1))) (List.set (List.set (List.set h 134 (mo 0 (Int32.ofNat c) fa wh ch it at_ bad co de lo st sz tp am bm mn rm sp be wo)) 135 (.inl (0, 200, .inl (ty_cp (by_g w) f c n)))) 134 (mo 0 (Int32.ofNat (c + n)) fa wh ch it at_ bad co de lo st sz tp am bm mn rm sp be wo)) := by
  refine go_run 2 (F' := (2, [some (.ref 134), some (.long w), none, none, none, none], [.int 0, .ref 134], h)) rfl ?_
  refine go_pf rfl c134 (Nat.le_of_ble_eq_true rfl) rfl rfl ?_
  refine go_run 4 (F' := (10, [some (.ref 134), some (.long w), none, some (.int (Int32.ofNat 0)), some (.int (ty_b true)), none], [], List.set h 134 (mo 0 (Int32.ofNat c) fa wh ch it at_ bad co de lo st sz tp am bm mn rm sp be wo))) rfl ?_
  refine ty_m1 8 0 true none rfl ?_
  intro y5
  have key := ty_ms_sc w 8 0
  have hn := ty_sc_le _ _ _ _ hs
  rw [hs] at key
  simp only at key
  rw [key]
  refine go_run 3 (F' := (82, [some (.ref 134), some (.long w), none, some (.int (Int32.ofNat n)), some (.int (ty_b true)), y5], [.ref 134], List.set h 134 (mo 0 (Int32.ofNat c) fa wh ch it at_ bad co de lo st sz tp am bm mn rm sp be wo))) rfl ?_
  refine go_gf rfl (gs_self c134) rfl ?_
  refine go_run 3 (F' := (90, [some (.ref 134), some (.long w), none, some (.int (Int32.ofNat n)), some (.int (ty_b true)), y5], [.int 200, .int (Int32.ofNat c + Int32.ofNat n)], List.set h 134 (mo 0 (Int32.ofNat c) fa wh ch it at_ bad co de lo st sz tp am bm mn rm sp be wo))) rfl ?_
  rw [ty_add]
  refine go_step rfl rfl ?_
  rw [if_pos ((ty_le200 (c + n) (by omega)).mpr hc)]
  refine go_run 2 (F' := (98, [some (.ref 134), some (.long w), none, some (.int (Int32.ofNat n)), some (.int (ty_b true)), some (.int (Int32.ofNat 0))], [], List.set h 134 (mo 0 (Int32.ofNat c) fa wh ch it at_ bad co de lo st sz tp am bm mn rm sp be wo))) rfl ?_
  refine ty_m2 (f := f) (by omega) hc n 0 _ rfl (gs_self c134) (gs_ne (by decide) c135) ?_
  refine go_run 2 (F' := (136, [some (.ref 134), some (.long w), none, some (.int (Int32.ofNat n)), some (.int (ty_b true)), some (.int (Int32.ofNat n))], [.ref 134, .ref 134], List.set (List.set h 134 (mo 0 (Int32.ofNat c) fa wh ch it at_ bad co de lo st sz tp am bm mn rm sp be wo)) 135 (.inl (0, 200, .inl (ty_cp (by_g w) f c n))))) rfl ?_
  refine go_gf rfl (gs_ne (by decide) (gs_self c134)) rfl ?_
  refine go_run 2 (F' := (141, [some (.ref 134), some (.long w), none, some (.int (Int32.ofNat n)), some (.int (ty_b true)), some (.int (Int32.ofNat n))], [.int (Int32.ofNat c + Int32.ofNat n), .ref 134], List.set (List.set h 134 (mo 0 (Int32.ofNat c) fa wh ch it at_ bad co de lo st sz tp am bm mn rm sp be wo)) 135 (.inl (0, 200, .inl (ty_cp (by_g w) f c n))))) rfl ?_
  rw [ty_add]
  refine go_pf rfl (gs_ne (by decide) (gs_self c134)) (Nat.le_of_ble_eq_true rfl) rfl rfl ?_
  refine go_run 1 (F' := (145, [some (.ref 134), some (.long w), none, some (.int (Int32.ofNat n)), some (.int (ty_b true)), some (.int (Int32.ofNat n))], [.int 1], List.set (List.set (List.set h 134 (mo 0 (Int32.ofNat c) fa wh ch it at_ bad co de lo st sz tp am bm mn rm sp be wo)) 135 (.inl (0, 200, .inl (ty_cp (by_g w) f c n)))) 134 (mo 0 (Int32.ofNat (c + n)) fa wh ch it at_ bad co de lo st sz tp am bm mn rm sp be wo))) rfl ?_
  exact go_end rfl rfl
end TYM
