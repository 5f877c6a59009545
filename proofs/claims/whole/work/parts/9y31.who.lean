section WL
variable {A0 A B : Nat → Nat → Int32} {D : Nat → Nat} {I : Nat → Int32} {st lw : Nat} {S : hS}
theorem PW_sh {t : Fo} (h : PW D t) : t = .nil ∨ (∃ q r, t = cn q .nil r ∧ PWs (D q) ∧ PW D r) ∨ (∃ q i t1 r, t = cn q (cn i t1 .nil) r ∧ cK (D q) = 7 ∧ PWb (D q) ∧ PW D t1 ∧ PW D r) ∨ (∃ q i j t1 t2 r, t = cn q (cn i t1 (cn j t2 .nil)) r ∧ cK (D q) = 6 ∧ PWb (D q) ∧ PW D t1 ∧ PW D t2 ∧ PW D r) := by
  refine PW_ind (P := fun t => t = .nil ∨ (∃ q r, t = cn q .nil r ∧ PWs (D q) ∧ PW D r) ∨ (∃ q i t1 r, t = cn q (cn i t1 .nil) r ∧ cK (D q) = 7 ∧ PWb (D q) ∧ PW D t1 ∧ PW D r) ∨ (∃ q i j t1 t2 r, t = cn q (cn i t1 (cn j t2 .nil)) r ∧ cK (D q) = 6 ∧ PWb (D q) ∧ PW D t1 ∧ PW D t2 ∧ PW D r)) (Or.inl rfl) (fun q r a b _ => Or.inr (Or.inl ⟨q, r, rfl, a, b⟩)) (fun q i t1 r a b c d _ _ => Or.inr (Or.inr (Or.inl ⟨q, i, t1, r, rfl, a, b, c, d⟩))) (fun q i j t1 t2 r a b c d e _ _ _ => Or.inr (Or.inr (Or.inr ⟨q, i, j, t1, t2, r, rfl, a, b, c, d, e⟩))) t h
theorem w_end {N k : Nat} {l1 l2 : Int32} (hI : I 11 = Int32.ofNat st) (hst : st ≤ 200) (hk : k = st) : x_whole_70 (N + 1) I A l1 l2 (Int32.ofNat k) = some (I, A, l2) := by
  rw [x_whole_70, hI, if_pos ((j_le (by omega) (by omega)).mpr (by omega))]
theorem w_jmp {N k hd k' : Nat} {l1 l2 : Int32} (hA : ∀ j, j ≠ 35 → A j = A0 j) (hI : I 11 = Int32.ofNat st) (hst : st ≤ 200) (hk : k < st) (h17 : A0 17 k = 7) (h24 : A0 24 k = Int32.ofNat hd) (hh : hd < 200) (hj : (A0 17 hd = 5 ∧ k' = hd) ∨ (A0 17 hd = 4 ∧ A0 23 hd + 1 = Int32.ofNat k')) : x_whole_70 (N + 1) I A l1 l2 (Int32.ofNat k) = x_whole_70 N I A l1 l2 (Int32.ofNat k') := by
  rw [x_whole_70, hI, if_neg (mt (j_le (by omega) (by omega)).mp (by omega)), if_pos (j_in (by omega) (by omega)), (j_n (n := k) (by omega)).2, hA 17 (by decide), hA 24 (by decide), hA 23 (by decide), h17, if_pos rfl, h24, if_pos (j_in (by omega) hh), (j_n (n := hd) (by omega)).2]
  rcases hj with ⟨e, rfl⟩ | ⟨e, e2⟩
  · rw [e, if_pos rfl]
  · rw [e, if_neg (by decide), e2]
theorem w_beg {N k : Nat} {l1 l2 : Int32} (hA : ∀ j, j ≠ 35 → A j = A0 j) (hI : I 11 = Int32.ofNat st) (hst : st ≤ 200) (hk : k < st) (h17 : A0 17 k = 6) : x_whole_70 (N + 1) I A l1 l2 (Int32.ofNat k) = x_whole_70 N I A l1 l2 (Int32.ofNat (k + 1)) := by
  rw [x_whole_70, hI, if_neg (mt (j_le (by omega) (by omega)).mp (by omega)), if_pos (j_in (by omega) (by omega)), (j_n (n := k) (by omega)).2, hA 17 (by decide), h17, if_neg (by decide), if_pos rfl, o1]
theorem EndP_le : ∀ (L : List Fo) (e : Nat), EndP A0 D st e L → e ≤ st
  | [], e, h => Nat.le_of_eq h
  | t :: L, e, h => Nat.le_of_lt h.1
theorem wnorm (hst : st ≤ 200) : ∀ (L : List Fo) (v : Option Nat) (k : Nat), SStk S D lw L v → WP A0 D st L k → (v = none ∧ ∃ c, ∀ (N : Nat) (I : Nat → Int32) (A : Nat → Nat → Int32) (l1 l2 : Int32), (∀ j, j ≠ 35 → A j = A0 j) → I 11 = Int32.ofNat st → x_whole_70 (N + c + 1) I A l1 l2 (Int32.ofNat k) = some (I, A, l2)) ∨ (∃ q kd r L' k2 c, SStk S D lw (cn q kd r :: L') v ∧ WP A0 D st (cn q kd r :: L') k2 ∧ ∀ (N : Nat) (I : Nat → Int32) (A : Nat → Nat → Int32) (l1 l2 : Int32), (∀ j, j ≠ 35 → A j = A0 j) → I 11 = Int32.ofNat st → x_whole_70 (N + c) I A l1 l2 (Int32.ofNat k) = x_whole_70 N I A l1 l2 (Int32.ofNat k2))
  | [], v, k, h, hk => Or.inl ⟨h, 0, fun N I A l1 l2 _ hI => w_end hI hst hk⟩
  | t :: L, v, k, h, hk => by
    have h' := h
    obtain ⟨pt, u, E, sn, sb, ss, hv⟩ := h
    obtain ⟨e, pc, ep⟩ := hk
    rcases PW_sh pt with rfl | ⟨q, r, rfl, _⟩ | ⟨q, i, t1, r, rfl, _⟩ | ⟨q, i, j, t1, t2, r, rfl, _⟩
    · have hu : u = none := sn
      have hke : k = e := pc
      subst hu hke
      have hv' : v = E := hv
      subst hv'
      cases L with
      | nil => exact Or.inl ⟨ss, 0, fun N I A l1 l2 _ hI => w_end hI hst ep⟩
      | cons t' L' =>
        obtain ⟨e1, e2, hd, k', e', e3, e4, e5, e6, e7⟩ := ep
        rcases wnorm hst (t' :: L') v k' ss ⟨e', e6, e7⟩ with ⟨a1, c, a2⟩ | ⟨q, kd, r, L2, k2, c, a1, a2, a3⟩
        · refine Or.inl ⟨a1, c + 1, fun N I A l1 l2 hA hI => ?_⟩
          rw [show N + (c + 1) + 1 = N + c + 1 + 1 by omega, w_jmp hA hI hst e1 e2 e3 e4 e5]
          exact a2 N I A l1 l2 hA hI
        · refine Or.inr ⟨q, kd, r, L2, k2, c + 1, a1, a2, fun N I A l1 l2 hA hI => ?_⟩
          rw [← Nat.add_assoc, w_jmp hA hI hst e1 e2 e3 e4 e5]
          exact a3 N I A l1 l2 hA hI
    · exact Or.inr ⟨q, _, r, L, k, 0, h', ⟨e, pc, ep⟩, fun _ _ _ _ _ _ _ => rfl⟩
    · exact Or.inr ⟨q, _, r, L, k, 0, h', ⟨e, pc, ep⟩, fun _ _ _ _ _ _ _ => rfl⟩
    · exact Or.inr ⟨q, _, r, L, k, 0, h', ⟨e, pc, ep⟩, fun _ _ _ _ _ _ _ => rfl⟩
theorem orE_z {x y : Option Nat} : yS_orElse S x y = some (S, orE x y) := by
  unfold yS_orElse
  cases x <;> rfl
theorem xok_w {s : Nat} (h : PWs s) (hk : cK s = 1 ∨ cK s = 2) : Xok (cE s) := h.2.2.1 (by omega)
def WSt (S : hS) (A0 : Nat → Nat → Int32) (D : Nat → Nat) (st lw : Nat) (g : Nat → Int32) (I : Nat → Int32) (A : Nat → Nat → Int32) (v : Option Nat) (k2 : Nat) : Prop := ∃ b g' I' A' newL k3 k4 c v', v = some b ∧ ztg S b = 10 ∧ k2 < st ∧ A0 17 k2 ≠ 7 ∧ A0 17 k2 ≠ 6 ∧ (∀ m, 20 ≤ m → yS_perform m (szAI S 133 g) b (some 133) = some (szAI S 133 g', v')) ∧ (∀ m, 10 ≤ m → x_play m I A (Int32.ofNat k2) = some (I', A', Int32.ofNat k3)) ∧ (∀ (N : Nat) (I : Nat → Int32) (A : Nat → Nat → Int32) (l1 l2 : Int32), (∀ j, j ≠ 35 → A j = A0 j) → I 11 = Int32.ofNat st → x_whole_70 (N + c) I A l1 l2 (Int32.ofNat k3) = x_whole_70 N I A l1 l2 (Int32.ofNat k4)) ∧ SStk S D lw newL v' ∧ WP A0 D st newL k4 ∧ (∀ i, i < 24 → g' i = A' 35 i) ∧ (∀ j, j ≠ 35 → A' j = A0 j) ∧ (∀ j, j ≠ 19 → I' j = I j)
theorem ExP_f {e k : Nat} (hA : ∀ j, j ≠ 35 → A j = A0 j) (h : ExP A0 e k) : ExP A e k := by
  unfold ExP
  rw [hA 21 (by decide), hA 16 (by decide)]
  exact h
theorem val_p {b e p m : Nat} {g V : Nat → Int32} (t1 : ztg S 133 = 20) (t2 : zLen S 133 = 24) (hp : p < 6) (hx : Xok e) (hV : ∀ v, v < 4 → V v = g (4 * p + v)) (hm : 20 ≤ m) : yE_value m (szAI S 133 g) (Int64.ofNat e) (some 133) (Int32.ofNat p) = some (szAI S 133 g, evx V (xt e)) := value_ok (S := szAI S 133 g) (ar := 133) t1 t2 hp (fun v hv => by rw [zAI_s]; exact hV v hv) hx hm
end WL
