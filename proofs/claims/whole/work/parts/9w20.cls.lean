def Ct (S : hS) (th : Nat) (pi : Bool) (c : Nat) : Prop := ztg S th = 3 ∧ zI S 0 th = ty_b pi ∧ zI S 1 th = Int32.ofNat c ∧ zI S 2 th = -1 ∧ zI S 3 th = -1
def CtF (S : hS) (th P w : Nat) : Prop := ztg S th = 3 ∧ zI S 2 th = Int32.ofNat P ∧ zI S 3 th = (if w < 6 then Int32.ofNat w else -1)
section MP
variable {S S' : hS} {B th pa i1 i2 n a sc u : Nat} {C : Nat → List Frm} {t s K1 K2 sh1 sh2 : Nat → Fo} {pi : Bool} {cnt put : Nat}
theorem lst_ok (hu : u < 64) (h0 : u ≠ 0) (hn : 7 ≤ n) : yC_leastOf n S (Int32.ofNat u) = some (S, Int32.ofNat (lob u)) := by
  obtain ⟨m, rfl⟩ : ∃ m, n = m + 7 := ⟨n - 7, by omega⟩
  have st : ∀ (q m : Nat), q < 6 → yC_leastOf_2 (m + 1) S (Int32.ofNat u) (Int32.ofNat q) = if u.testBit q = true then some (S, Int32.ofNat q) else yC_leastOf_2 m S (Int32.ofNat u) (Int32.ofNat (q + 1)) := by
    intro q m hq
    rw [yC_leastOf_2, if_neg (show ¬ (6 : Int32) ≤ Int32.ofNat q from mt (j_le (m := 6) (by decide) (by omega)).mp (by omega)), o1]
    by_cases e : u.testBit q = true
    · rw [if_neg (mt (con_o u hu q hq).mp (by rw [e]; decide)), if_pos e]
    · rw [if_pos ((con_o u hu q hq).mpr (by cases h : u.testBit q with | false => rfl | true => exact (e h).elim)), if_neg e]
  have h5 := nz_bit u hu h0
  unfold yC_leastOf lob
  refine (st 0 (m + 6) (by decide)).trans ?_
  by_cases e0 : u.testBit 0 = true
  · rw [if_pos e0, if_pos e0]
  · rw [if_neg e0, if_neg e0]
    refine (st 1 (m + 5) (by decide)).trans ?_
    by_cases e1 : u.testBit 1 = true
    · rw [if_pos e1, if_pos e1]
    · rw [if_neg e1, if_neg e1]
      refine (st 2 (m + 4) (by decide)).trans ?_
      by_cases e2 : u.testBit 2 = true
      · rw [if_pos e2, if_pos e2]
      · rw [if_neg e2, if_neg e2]
        refine (st 3 (m + 3) (by decide)).trans ?_
        by_cases e3 : u.testBit 3 = true
        · rw [if_pos e3, if_pos e3]
        · rw [if_neg e3, if_neg e3]
          refine (st 4 (m + 2) (by decide)).trans ?_
          by_cases e4 : u.testBit 4 = true
          · rw [if_pos e4, if_pos e4]
          · rw [if_neg e4, if_neg e4]
            refine (st 5 (m + 1) (by decide)).trans ?_
            by_cases e5 : u.testBit 5 = true
            · rw [if_pos e5]
            · exfalso
              rw [Bool.not_eq_true] at e0 e1 e2 e3 e4 e5
              rw [e0, e1, e2, e3, e4, e5] at h5
              cases h5
theorem MdB_th {k : Nat} {v : Int32} : MdB B th S (szI S k th v) := ⟨[th], Md2_I k th v, fun x hx => Or.inl (by rw [List.mem_singleton] at hx; exact hx)⟩
theorem may_ok {P : Nat} (hc : Ct S th pi (cnt + put)) (ha : ztg S a = 10) (hP : zI S 0 a = Int32.ofNat P) (hu : u < 64) (h0 : u ≠ 0) (hn : 7 ≤ n) (hcp : cnt + put ≤ 200) : (∀ p, ckc pi cnt u P put = .inl p → ∃ S', yC_mayPutIn n S th (some a) (Int32.ofNat u) = some (S', 1) ∧ Ct S' th pi (cnt + p) ∧ MdB B th S S' ∧ S'.1 = S.1) ∧ (∀ P' w, ckc pi cnt u P put = .inr (P', w) → ∃ S', yC_mayPutIn n S th (some a) (Int32.ofNat u) = some (S', 0) ∧ CtF S' th P' w ∧ MdB B th S S' ∧ S'.1 = S.1) := by
  obtain ⟨c1, c2, c3, c4, c5⟩ := hc
  have hb := bpc_le u
  unfold ckc yC_mayPutIn
  rw [if_neg h0, if_pos c1, c2]
  cases pi with
  | false =>
    rw [if_pos rfl, tb0]
    refine ⟨fun p hp => (by cases hp), fun P' w hp => ?_⟩
    cases hp
    have hl := lob_lt u
    refine ⟨szI (szI S 2 th (Int32.ofNat P)) 3 th (Int32.ofNat (lob u)), ?_, ⟨c1, ?_, ?_⟩, MdB_t MdB_th MdB_th, rfl⟩
    · refine (zob_s rfl).trans ?_
      rw [if_pos ha, hP]
      refine (zcP_s (lst_ok hu h0 hn)).trans ?_
      rw [if_pos (show ztg (szI S 2 th (Int32.ofNat P)) th = 3 from c1)]
    · rw [zI_k (by decide), zI_self]
    · rw [zI_self, if_pos hl]
  | true =>
    rw [if_neg (show ¬ true = false by decide), tb1, c3, bc_o u hu, mul2_o _ (by omega), o_add]
    by_cases q : cnt + (put + 2 * bpc u) ≤ 80
    · rw [if_pos (show Int32.ofNat (cnt + put + 2 * bpc u) ≤ 80 from (j_le (n := 80) (by omega) (by decide)).mpr (by omega)), if_pos q]
      refine ⟨fun p hp => ?_, fun P' w hp => by cases hp⟩
      cases hp
      refine ⟨_, rfl, ⟨c1, ?_, ?_, ?_, ?_⟩, MdB_th, rfl⟩
      · rw [zI_k (by decide)]
        exact c2
      · rw [zI_self, Nat.add_assoc]
      · rw [zI_k (by decide)]
        exact c4
      · rw [zI_k (by decide)]
        exact c5
    · rw [if_neg (show ¬ Int32.ofNat (cnt + put + 2 * bpc u) ≤ 80 from mt (j_le (n := 80) (by omega) (by decide)).mp (by omega)), if_neg q]
      refine ⟨fun p hp => (by cases hp), fun P' w hp => ?_⟩
      cases hp
      refine ⟨szI (szI S 1 th (Int32.ofNat (cnt + put + 2 * bpc u))) 2 th (Int32.ofNat P), ?_, ⟨c1, ?_, ?_⟩, MdB_t MdB_th MdB_th, rfl⟩
      · refine (zob_s rfl).trans ?_
        rw [if_pos ha, hP]
      · rw [zI_self]
      · rw [zI_k (by decide), zI_k (by decide), if_neg (by decide)]
        exact c5
theorem Ct_b {c : Nat} (h : Ct S th pi c) (md : Md2 S S' []) : Ct S' th pi c := by
  obtain ⟨c1, c2, c3, c4, c5⟩ := h
  have hl := (ztg_lt c1).1
  have e := fun k => (md.2.2.1 k th hl (fun z => by cases z)).1
  exact ⟨Md2_tg md c1, by rw [e]; exact c2, by rw [e]; exact c3, by rw [e]; exact c4, by rw [e]; exact c5⟩
end MP
