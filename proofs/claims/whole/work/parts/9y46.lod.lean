section OG
variable {S X S8 : hS} {f : Nat → Int32} {g : Nat → Nat} {c n : Nat} {T : pw × Nat × Fo} {pi : Bool}
theorem SN_no {D : Nat → Nat} {lw : Nat} : ∀ (t : Fo), PW D t → SN S D lw t none → t = .nil := PW_ind (fun _ => rfl) (fun q r _ _ _ h => by
    obtain ⟨b, e, _⟩ := h
    cases e) (fun q i t1 r _ _ _ _ _ _ h => by
    obtain ⟨b, e, _⟩ := h
    cases e) (fun q i j t1 t2 r _ _ _ _ _ _ _ _ h => by
    obtain ⟨b, e, _⟩ := h
    cases e)
theorem gf_of (hl : Ltr f c) : Gf f (fun j => (f j).toInt.toNat) c := fun j hj => by
  obtain ⟨h1, h2⟩ := hl j hj
  show f j = Int32.ofNat (f j).toInt.toNat ∧ 33 ≤ (f j).toInt.toNat ∧ (f j).toInt.toNat ≤ 126
  refine ⟨?_, by omega, by omega⟩
  apply Int32.toInt_inj.mp
  have e : (f j).toInt = (((f j).toInt.toNat : Nat) : Int) := by omega
  rw [Int32.toInt_ofNat_of_lt (by omega)]
  exact e
theorem rd_good (hf : Fix S) (hN : S.1 + 42 ≤ ie_S) (hc : c ≤ 200) (hl : Ltr (zAI S 1) c) (hT : T = pRow (zAI S 1) c 9 0 (0, false) 0) (hw : T.1.2 = false) (hn : T.2.2 ≠ .nil) (hm : 84 ≤ n) (hR : RowK (zAI S 1) g c T.2.2 0 T.1.1 0 T.2.1 0) : ∃ X a5, yR_readPlay n (nrd S c) S.1 = some (X, some a5) ∧ Grw S X ∧ ztg X S.1 = 6 ∧ zI X 3 S.1 = Int32.ofNat T.2.1 ∧ SR X (Dd (zAI S 1) c) X.1 T.2.2 (some a5) ∧ SN X (Dd (zAI S 1) c) (S.1 + 1) T.2.2 (some a5) ∧ X.1 ≤ S.1 + 1 + T.2.1 ∧ S.1 < X.1 := by
  obtain ⟨S4, s, v, e1, e2, e3, e4, e5, e6, e7⟩ := cls_play (S := S) (m := n) hT hm hN hf.2.1.1 hf.2.1.2 hc rfl hl
  have t6 : ztg S4 S.1 = 6 := by first | exact e7 | exact e7.1
  obtain ⟨e8, e9⟩ := e5 hw
  obtain ⟨p1, p2, p3, p4, p5, p6, p7, p8⟩ := hR
  obtain ⟨s1, s2⟩ := sr_of T.2.2 p1 p2 v _ _ _ e8 p3 (by omega)
  have gX : Grw S (U S4 S.1 s T.2.1) := Grw_U (Grw_t Grw_nrd e3) (Nat.le_refl _)
  have hv : ∃ a5, v = some a5 := by
    cases v with
    | some a => exact ⟨a, rfl⟩
    | none =>
      exact absurd (SN_no T.2.2 p1 s2) hn
  obtain ⟨a5, rfl⟩ := hv
  exact ⟨_, a5, e1, gX, t6, U_g3, s1, s2, e9, (ztg_lt t6).1⟩
end OG
