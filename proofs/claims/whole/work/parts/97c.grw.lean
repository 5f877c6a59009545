def Grw (S T : hS) : Prop := S.1 ≤ T.1 ∧ (∀ x, x < S.1 → (∀ k, zI T k x = zI S k x) ∧ (∀ k, zR T k x = zR S k x) ∧ zL T x = zL S x ∧ T.2.1 x = S.2.1 x) ∧ T.2.2.1 = S.2.2.1 ∧ zAI T = zAI S ∧ zAR T = zAR S ∧ zMI T = zMI S ∧ zMA T = zMA S
section GW
variable {S T V : hS} {a b c n k t : Nat} {f : Nat → Int32} {s : rs}
theorem Grw_r : Grw S S := ⟨Nat.le_refl _, fun _ _ => ⟨fun _ => rfl, fun _ => rfl, rfl, rfl⟩, rfl, rfl, rfl, rfl, rfl⟩
theorem Grw_t (h1 : Grw S T) (h2 : Grw T V) : Grw S V := by
  obtain ⟨a1, a2, a3, a4, a5, a6, a7⟩ := h1
  obtain ⟨b1, b2, b3, b4, b5, b6, b7⟩ := h2
  refine ⟨by omega, fun x hx => ?_, by rw [b3, a3], by rw [b4, a4], by rw [b5, a5], by rw [b6, a6], by rw [b7, a7]⟩
  obtain ⟨p1, p2, p3, p4⟩ := a2 x hx
  obtain ⟨q1, q2, q3, q4⟩ := b2 x (by omega)
  exact ⟨fun k => (q1 k).trans (p1 k), fun k => (q2 k).trans (p2 k), q3.trans p3, q4.trans p4⟩
theorem Grw_I (h : Grw S T) (hb : S.1 ≤ b) (v : Int32) : Grw S (szI T k b v) := by
  obtain ⟨a1, a2, a3⟩ := h
  refine ⟨a1, fun x hx => ?_, a3⟩
  obtain ⟨p1, p2, p3, p4⟩ := a2 x hx
  exact ⟨fun j => (zI_ne (by omega)).trans (p1 j), p2, p3, p4⟩
theorem Grw_L (h : Grw S T) (hb : S.1 ≤ b) (v : Int64) : Grw S (szL T b v) := by
  obtain ⟨a1, a2, a3⟩ := h
  refine ⟨a1, fun x hx => ?_, a3⟩
  obtain ⟨p1, p2, p3, p4⟩ := a2 x hx
  exact ⟨p1, p2, (zL_ne (by omega)).trans p3, p4⟩
theorem Grw_R (h : Grw S T) (hb : S.1 ≤ b) (v : Option Nat) : Grw S (szR T k b v) := by
  obtain ⟨a1, a2, a3⟩ := h
  refine ⟨a1, fun x hx => ?_, a3⟩
  obtain ⟨p1, p2, p3, p4⟩ := a2 x hx
  exact ⟨p1, fun j => (zR_ne (by omega)).trans (p2 j), p3, p4⟩
theorem Grw_N (ci : Nat) : Grw S (szN S ci) := by
  refine ⟨Nat.le_succ _, fun x hx => ?_, rfl, rfl, rfl, rfl, rfl⟩
  have n : x ≠ S.1 := by omega
  exact ⟨fun _ => zall_ne n, fun _ => zall_ne n, zup_ne n, zup_ne n⟩
theorem ztg_g (h : ztg S a = t + 1) (g : Grw S T) : ztg T a = t + 1 := by
  obtain ⟨h1, -, h3⟩ := ztg_lt h
  have h4 : a < ie_S := by
    unfold ztg at h
    by_cases q : a < S.1 ∧ a < ie_S
    · exact q.2
    · rw [if_neg q] at h; cases h
  unfold ztg
  rw [if_pos ⟨Nat.lt_of_lt_of_le h1 g.1, h4⟩, (g.2.1 a h1).2.2.2]
  exact h3
theorem Rd_g (r : Rd S a c f) (g : Grw S T) : Rd T a c f := by
  obtain ⟨h1, h2, h3, h4, h5, h6, h7, h8⟩ := r
  have ha := (ztg_lt h1).1
  refine ⟨ztg_g h1 g, by rw [(g.2.1 a ha).2.1]; exact h2, ztg_g h3 g, ?_, by rw [(g.2.1 a ha).1]; exact h5, h6, by rw [g.2.2.2.1]; exact h7, h8⟩
  show T.2.2.1 1 = 200
  rw [g.2.2.1]
  exact h4
theorem Sme_g {lo : Nat} (g : Grw S T) : Sme S T lo := by
  intro b h1 h2
  obtain ⟨p1, p2, p3, p4⟩ := g.2.1 b h2
  refine ⟨p1, p2, p3, ?_⟩
  unfold ztg
  by_cases q : b < ie_S
  · rw [if_pos (show b < T.1 ∧ b < ie_S from ⟨Nat.lt_of_lt_of_le h2 g.1, q⟩), if_pos (show b < S.1 ∧ b < ie_S from ⟨h2, q⟩), p4]
  · rw [if_neg (show ¬ (b < T.1 ∧ b < ie_S) from fun z => q z.2), if_neg (show ¬ (b < S.1 ∧ b < ie_S) from fun z => q z.2)]
theorem Sme_I {lo : Nat} (hb : b < lo) (v : Int32) : Sme S (szI S k b v) lo := fun x h1 h2 => ⟨fun j => zI_ne (by omega), fun _ => rfl, rfl, rfl⟩
theorem Sme_R {lo : Nat} (hb : b < lo) (v : Option Nat) : Sme S (szR S k b v) lo := fun x h1 h2 => ⟨fun _ => rfl, fun j => zR_ne (by omega), rfl, rfl⟩
theorem Sme_U {lo : Nat} (ha : a < lo) : Sme S (U S a s n) lo := fun x h1 h2 => ⟨fun j => U_gI (by omega), fun _ => rfl, U_gL' (by omega), rfl⟩
theorem zall_u2 {α : Type} (F : Nat → Nat → α) {k a b : Nat} (v w : α) (h : a ≠ b) : zall (zup2 F k a v) b w = zup2 (zall F b w) k a v := by
  funext j x
  show (if x = b then w else (if j = k then (if x = a then v else F j x) else F j x)) = (if j = k then (if x = a then v else (if x = b then w else F j x)) else (if x = b then w else F j x))
  by_cases q : x = b
  · have qa : ¬ x = a := by omega
    rw [if_pos q, if_pos q, if_neg qa, ite_self]
  · rw [if_neg q, if_neg q]
theorem szN_I (ci : Nat) (v : Int32) (h : a ≠ S.1) : szN (szI S k a v) ci = szI (szN S ci) k a v := by
  show (S.1 + 1, zup S.2.1 S.1 (ci + 1), S.2.2.1, zall (zup2 S.2.2.2.1 k a v) S.1 0, _) = _
  rw [zall_u2 _ _ _ h]
  rfl
theorem szN_L (ci : Nat) (v : Int64) (h : a ≠ S.1) : szN (szL S a v) ci = szL (szN S ci) a v := by
  show (S.1 + 1, zup S.2.1 S.1 (ci + 1), S.2.2.1, zall S.2.2.2.1 S.1 0, zup (zup S.2.2.2.2.1 a v) S.1 0, _) = _
  rw [zup_ca _ _ _ h]
  rfl
theorem U_N (ci : Nat) (h : a < S.1) : szN (U S a s n) ci = U (szN S ci) a s n := by
  have h' : a ≠ S.1 := by omega
  unfold U
  rw [szN_I (a := a) _ _ (by exact h'), szN_I (a := a) _ _ (by exact h'), szN_I (a := a) _ _ (by exact h'), szN_I (a := a) _ _ (by exact h'), szN_L (a := a) _ _ (by exact h')]
theorem zI_new (ci k : Nat) : zI (szN S ci) k S.1 = 0 := by simp [zI, szN, zall]
theorem zR_new (ci k : Nat) : zR (szN S ci) k S.1 = none := by simp [zR, szN, zall]
theorem zL_new (ci : Nat) : zL (szN S ci) S.1 = 0 := by simp [zL, szN, zup]
theorem pj_e {s t : rs} (h : eqv s t) : pj s = pj t := by unfold pj; rw [h.1, h.2]
theorem ex_w {x : Int32} (hx : x ≠ 0) (h : (ks_expect f c x s).2.1 = false) : s.2.1 = false := by
  unfold ks_expect at h
  split at h
  · exact h
  · cases h
end GW
def RCs (rc : hS → Nat → Int32 → Option (hS × Option Nat)) (R : pw → Nat → pw × Nat × Fo) (a c : Nat) (f : Nat → Int32) (d M : Nat) : Prop := ∀ (S : hS) (s : rs) (n : Nat), Rd S a c f → s.1 ≤ c → n ≤ 40 → (s.2.1 = false → S.1 + 41 ≤ M + n) → ∃ S' s' v, rc (U S a s n) a (Int32.ofNat d) = some (U S' a s' (R (pj s) n).2.1, v) ∧ pj s' = (R (pj s) n).1 ∧ s'.1 ≤ c ∧ (R (pj s) n).2.1 ≤ 40 ∧ Grw S S' ∧ (s'.2.1 = false → s.2.1 = false ∧ S'.1 + 41 ≤ M + (R (pj s) n).2.1) ∧ RS S' f c s'.2.1 (R (pj s) n).2.2 S.1 v ∧ rln (R (pj s) n).2.2 ≤ 41 ∧ S'.1 ≤ max S.1 M
section BK
variable {rc : hS → Nat → Int32 → Option (hS × Option Nat)} {R : pw → Nat → pw × Nat × Fo} {a c d M n m : Nat} {f : Nat → Int32} {S : hS} {s : rs}
theorem rb (hR : RCs rc R a c f d M) (h : Rd S a c f) (hs : s.1 ≤ c) (hn : n ≤ 40) (hM : s.2.1 = false → S.1 + 41 ≤ M + n) : ∃ S' s' v, yR_readBlock rc m (U S a s n) a (Int32.ofNat d) = some (U S' a s' (pBlk R f c (pj s) n).2.1, v) ∧ pj s' = (pBlk R f c (pj s) n).1 ∧ s'.1 ≤ c ∧ (pBlk R f c (pj s) n).2.1 ≤ 40 ∧ Grw S S' ∧ (s'.2.1 = false → s.2.1 = false ∧ S'.1 + 41 ≤ M + (pBlk R f c (pj s) n).2.1) ∧ RS S' f c s'.2.1 (pBlk R f c (pj s) n).2.2 S.1 v ∧ rln (pBlk R f c (pj s) n).2.2 ≤ 41 ∧ S'.1 ≤ max S.1 M := by
  have l1 : (ks_expect f c 123 s).1 ≤ c := ks_expect_le (by decide) hs
  obtain ⟨S', s', v, e1, e2, e3, e4, e5, e6, e7, e8, e9⟩ := hR S (ks_expect f c 123 s) n h l1 hn (fun z => hM (ex_w (by decide) z))
  have ep : pj (ks_expect f c 123 (z0 (pj s))) = pj (ks_expect f c 123 s) := (pj_e (eqv_ex eqv_z 123)).symm
  have eb : pBlk R f c (pj s) n = (pj (ks_expect f c 125 (z0 (R (pj (ks_expect f c 123 s)) n).1)), (R (pj (ks_expect f c 123 s)) n).2.1, (R (pj (ks_expect f c 123 s)) n).2.2) := by
    unfold pBlk
    rw [ep]
  rw [eb]
  refine ⟨S', ks_expect f c 125 s', v, ?_, ?_, ks_expect_le (by decide) e3, e4, e5, ?_, ?_, e8, e9⟩
  · unfold yR_readBlock
    refine (if_pos h.1).trans ?_
    refine (zcV_s (u_expect h hs 123)).trans ?_
    refine (if_pos h.1).trans ?_
    refine (zcP_s e1).trans ?_
    have h' := Rd_g h e5
    refine (if_pos h'.1).trans ?_
    refine (zcV_s (u_expect h' e3 125)).trans ?_
    rfl
  · show _ = pj (ks_expect f c 125 (z0 (R (pj (ks_expect f c 123 s)) n).1))
    rw [← e2]
    exact pj_e (eqv_ex eqv_z 125)
  · intro z
    have z1 : s'.2.1 = false := ex_w (by decide) z
    obtain ⟨y1, y2⟩ := e6 z1
    exact ⟨ex_w (by decide) y1, y2⟩
  · cases hw : (ks_expect f c 125 s').2.1 with
    | true => exact RS_w _ _ _ e7
    | false =>
      have z1 : s'.2.1 = false := ex_w (by decide) hw
      rw [z1] at e7
      exact e7
end BK
