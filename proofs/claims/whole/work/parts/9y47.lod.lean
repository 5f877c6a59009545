section OC
variable {S : hS} {g : Nat → Nat} {c n : Nat} {T : pw × Nat × Fo} {pi : Bool}
theorem rd_s8 (hf : Fix S) (h178 : 178 ≤ S.1) (hN : S.1 + 3000 < ie_S) (t1 : zI S 1 0 = Int32.ofNat c) (hc : c ≤ 200) (hl : Ltr (zAI S 1) c) (hT : T = pRow (zAI S 1) c 9 0 (0, false) 0) (hw : T.1.2 = false) (hn : T.2.2 ≠ .nil) (h40 : T.2.1 ≤ 40) (hm : 60000 ≤ n) (hR : RowK (zAI S 1) g c T.2.2 0 T.1.1 0 T.2.1 0) : ∃ X a5 S8, (Grw S X ∧ ztg X S.1 = 6 ∧ zI X 3 S.1 = Int32.ofNat T.2.1 ∧ X.1 ≤ S.1 + 1 + T.2.1 ∧ S.1 < X.1) ∧ SN X (Dd (zAI S 1) c) (S.1 + 1) T.2.2 (some a5) ∧ (∃ x, CkO (cS7 X S.1 (ty_b pi)) S8 X.1 (Dd (zAI S 1) c) pi T.2.1 T.2.2 (some a5) x 0 ∧ ∀ o8, x = some (S8, o8) → y_load n S 0 (ty_b pi) = AftC n S.1 X.1 a5 S8 o8) := by
  obtain ⟨X, a5, e1, gX, x6, x3, sr, sn, xs, xl⟩ := rd_good (n := n) hf (by omega) hc hl hT hw hn (by omega) hR
  obtain ⟨p1, p2, p3, p4, p5, p6, p7, p8⟩ := hR
  have kX : KO S X := KO_g gX
  have fX : Fix X := KO_fix hf kX
  have k7 : KO X (cS7 X S.1 (ty_b pi)) := s7_ko KO_r
  have o7 := KO_of fX.1.1 k7
  have XN : X.1 < ie_S := by omega
  have l7 : (cS7 X S.1 (ty_b pi)).1 = X.1 + 1 := rfl
  obtain ⟨S8, hS8⟩ := cutRow_ok (n := n) (pi := pi) (cnt := T.2.1) (B := X.1) (th := X.1) p1 (by omega) (cS7 X S.1 (ty_b pi)) (some a5) 8 0 0 (SR_o o7 T.2.2 p1 _ sr) (by omega) (by omega) (s7_ct XN xl (by omega) x3) (by omega) h40 (by omega) (by omega) (by omega) (by omega) (by omega)
  have hnr : ztg (nrd S c) S.1 = 6 := by
    unfold ztg
    rw [if_pos ⟨Nat.lt_succ_self _, by omega⟩]
    show zup S.2.1 S.1 (5 + 1) S.1 = 6
    simp [zup]
  refine ⟨X, a5, S8, ⟨gX, x6, x3, xs, xl⟩, sn, _, hS8, fun o8 ho => ?_⟩
  exact ld_eq hf.1.1 (by omega) hf.1.2.1 t1 hnr e1 fX.1.1 x6 XN ho
end OC
