def nsm : Fo → Nat
  | .append (.tag _ (.append (.tag _ t1) (.append (.tag _ t2) _))) r => 1 + nsm t1 + nsm t2 + nsm r
  | .append (.tag _ (.append (.tag _ t1) _)) r => 1 + nsm t1 + nsm r
  | .append (.tag _ _) r => 1 + nsm r
  | _ => 0
def SR (S : hS) (D : Nat → Nat) (B : Nat) : Fo → Option Nat → Prop
  | .append (.tag q .nil) r, v => ∃ b, v = some b ∧ (b < B ∧ q < 1000) ∧ StD S b (D q) ∧ zI S 0 b = Int32.ofNat q ∧ SR S D B r (zR S 9 b)
  | .append (.tag q (.append (.tag _ t1) .nil)) r, v => ∃ b, v = some b ∧ (b < B ∧ q < 1000) ∧ StD S b (D q) ∧ zI S 0 b = Int32.ofNat q ∧ zI S 11 b = Int32.ofNat (bts fun p => soc (D q) p || occ D t1 p) ∧ SR S D B t1 (zR S 7 b) ∧ SR S D B r (zR S 9 b)
  | .append (.tag q (.append (.tag _ t1) (.append (.tag _ t2) .nil))) r, v => ∃ b, v = some b ∧ (b < B ∧ q < 1000) ∧ StD S b (D q) ∧ zI S 0 b = Int32.ofNat q ∧ SR S D B t1 (zR S 7 b) ∧ SR S D B t2 (zR S 8 b) ∧ SR S D B r (zR S 9 b)
  | .nil, v => v = none
  | _, _ => False
section SRM
variable {S S' : hS} {D : Nat → Nat} {B th B2 : Nat}
theorem SR_md {L : List Nat} (md : Md2 S S' L) (hL : ∀ x, x ∈ L → x = th ∨ B ≤ x) (ht : ztg S th = 3) : ∀ (t : Fo), PW D t → ∀ v, SR S D B t v → SR S' D B t v := by
  have keep : ∀ b sc, b < B → StD S b sc → StD S' b sc ∧ (∀ k, zI S' k b = zI S k b) ∧ (∀ k, zR S' k b = zR S k b) := fun b sc hb hs => by
    have hn : b ∉ L := fun z => by
      rcases hL b z with e | e
      · have := hs.1
        rw [e, ht] at this
        cases this
      · omega
    have hl := (ztg_lt hs.1).1
    exact ⟨StD_md hs md hn, fun k => (md.2.2.1 k b hl hn).1, fun k => (md.2.2.1 k b hl hn).2⟩
  refine PW_ind (fun v h => h) (fun q r _ _ ih v h => ?_) (fun q i t1 r _ _ _ _ ih1 ih2 v h => ?_) (fun q i j t1 t2 r _ _ _ _ _ ih1 ih2 ih3 v h => ?_)
  · obtain ⟨b, h1, h2, h3, h4, h5⟩ := h
    obtain ⟨k1, k2, k3⟩ := keep b _ h2.1 h3
    exact ⟨b, h1, h2, k1, by rw [k2]; exact h4, by rw [k3]; exact ih _ h5⟩
  · obtain ⟨b, h1, h2, h3, h4, h5, h6, h7⟩ := h
    obtain ⟨k1, k2, k3⟩ := keep b _ h2.1 h3
    exact ⟨b, h1, h2, k1, by rw [k2]; exact h4, by rw [k2]; exact h5, by rw [k3]; exact ih1 _ h6, by rw [k3]; exact ih2 _ h7⟩
  · obtain ⟨b, h1, h2, h3, h4, h5, h6, h7⟩ := h
    obtain ⟨k1, k2, k3⟩ := keep b _ h2.1 h3
    exact ⟨b, h1, h2, k1, by rw [k2]; exact h4, by rw [k3]; exact ih1 _ h5, by rw [k3]; exact ih2 _ h6, by rw [k3]; exact ih3 _ h7⟩
theorem SR_mb (md : MdB B2 th S S') (hB : B ≤ B2) (ht : ztg S th = 3) {t : Fo} (pt : PW D t) {v : Option Nat} (h : SR S D B t v) : SR S' D B t v := by
  obtain ⟨L, m1, m2⟩ := md
  exact SR_md m1 (fun x hx => (m2 x hx).imp id (fun z => by omega)) ht t pt v h
theorem MdB_up (md : MdB B2 th S S') (hB : B ≤ B2) : MdB B th S S' := by
  obtain ⟨L, m1, m2⟩ := md
  exact ⟨L, m1, fun x hx => (m2 x hx).imp id (fun z => by omega)⟩
theorem nq_ap : ∀ (t y : Fo), nq true (ap t y) = nq true t + nq true y
  | .append (.tag a k) r, y => by
    show 1 + nq false k + nq true (ap r y) = 1 + nq false k + nq true r + nq true y
    rw [nq_ap r y]
    omega
  | .append .nil _, _ => (Nat.zero_add _).symm
  | .append .line _, _ => (Nat.zero_add _).symm
  | .append (.align _) _, _ => (Nat.zero_add _).symm
  | .append (.text _) _, _ => (Nat.zero_add _).symm
  | .append (.nest _ _) _, _ => (Nat.zero_add _).symm
  | .append (.append _ _) _, _ => (Nat.zero_add _).symm
  | .append (.group _ _) _, _ => (Nat.zero_add _).symm
  | .nil, _ => (Nat.zero_add _).symm
  | .line, _ => (Nat.zero_add _).symm
  | .align _, _ => (Nat.zero_add _).symm
  | .text _, _ => (Nat.zero_add _).symm
  | .nest _ _, _ => (Nat.zero_add _).symm
  | .group _ _, _ => (Nat.zero_add _).symm
  | .tag _ _, _ => (Nat.zero_add _).symm
theorem nq_pl : ∀ (C : List Frm) (t y : Fo), nq true (plT C (ap t y)) = nq true (plT C t) + nq true y
  | [], t, y => nq_ap t y
  | (ts, ss, h, a, lab) :: C, t, y => by
    show nq true (ap ts (cn h (cn lab (plT C (ap t y)) .nil) .nil)) = nq true (ap ts (cn h (cn lab (plT C t) .nil) .nil)) + nq true y
    have e : ∀ z, nq true (cn h (cn lab z .nil) .nil) = 1 + (nq true z + 0) + 0 := fun _ => rfl
    rw [nq_ap, nq_ap, e, e, nq_pl C t y]
    omega
theorem Rws_in {pa : Nat} {C : Nat → List Frm} {t s : Nat → Fo} (h : Rws S pa C t s) : InR S pa (fun p => plT (C p) (t p)) (fun p => plS (C p) (s p)) 0 ∧ Dsi (fun p => plS (C p) (s p)) 0 := by
  obtain ⟨h1, h2, h3, h4, h5⟩ := h
  refine ⟨⟨h1, h2, fun p _ hp => ?_⟩, fun p q _ _ hp hq hne => h5 p q hp hq hne⟩
  have r := h4 p hp
  have r0 := r
  obtain ⟨r1, ⟨K, r2, r3⟩, r4, r5, r6, r7, r8⟩ := r
  exact ⟨h3 p hp, r1, plT_so (C p) _ K (t p) r2 r4, RowO_cl r0, r8⟩
end SRM
def CkO (S S' : hS) (th : Nat) (D : Nat → Nat) (pi : Bool) (cnt : Nat) (t : Fo) (v : Option Nat) (x : Option (hS × Option Nat)) (put : Nat) : Prop := (∀ p, ck D pi cnt t put = .inl p → ∃ ia sh, x = some (S', some ia) ∧ InR S' ia (cut D t) sh 0 ∧ Dsi sh 0 ∧ (∀ p, p < 6 → ∀ x, x ∈ ad true (sh p) → S.1 ≤ x) ∧ S.1 ≤ ia ∧ MdB S.1 th S S' ∧ Ct S' th pi (cnt + p) ∧ S'.1 ≤ S.1 + 7 + 60 * nsm t ∧ ia + 7 ≤ S'.1) ∧ (∀ P w, ck D pi cnt t put = .inr (P, w) → ∃ ia K sh, x = some (S', some ia) ∧ InR S' ia K sh 0 ∧ Dsi sh 0 ∧ (∀ p, p < 6 → ∀ x, x ∈ ad true (sh p) → S.1 ≤ x) ∧ S.1 ≤ ia ∧ MdB S.1 th S S' ∧ CtF S' th P w ∧ S'.1 ≤ S.1 + 7 + 60 * nsm t ∧ ia + 7 ≤ S'.1 ∧ (∀ p, p < 6 → nq true (K p) ≤ 1000 * nsm t))
def CkR (n : Nat) (D : Nat → Nat) (pi : Bool) (cnt : Nat) (B th : Nat) (t : Fo) : Prop := ∀ (S : hS) (v : Option Nat) (r d put : Nat), SR S D B t v → B ≤ S.1 → th < S.1 → Ct S th pi (cnt + put) → put ≤ 80 → cnt ≤ 40 → bas D t ≤ 400 → 2 * d + dpt t ≤ 12 → dpt t ≤ 2 * r → 1000 * nsm t + 3000 ≤ n → S.1 + 7 + 60 * nsm t + 100 < ie_S → ∃ S', CkO S S' th D pi cnt t v (yC_cutRow n (r + 1) S th v (Int32.ofNat d)) put
