def sgm (g : Nat → Nat) (P k : Nat) : List Nat := (List.range k).map fun i => g (P + i)
def Gf (f : Nat → Int32) (g : Nat → Nat) (c : Nat) : Prop := ∀ j, j < c → f j = Int32.ofNat (g j) ∧ 33 ≤ g j ∧ g j ≤ 126
theorem o64 {a b : Nat} : Int64.ofNat a ||| Int64.ofNat b = Int64.ofNat (a ||| b) := by
  apply Int64.toBitVec_inj.mp
  apply BitVec.eq_of_toNat_eq
  show (a % 2 ^ 64) ||| (b % 2^64) = (a ||| b) % 2 ^ 64
  rw [Nat.or_mod_two_pow]
theorem t64 {d : Nat} (h : d < 2 ^ 31) : (Int32.ofNat d).toInt64 = Int64.ofNat d := by
  apply Int64.toInt_inj.mp
  rw [Int32.toInt_toInt64, Int32.toInt_ofNat_of_lt h, Int64.toInt_ofNat_of_lt (by omega)]
theorem s64 {d l : Nat} (hl : l < 8) : Int64.ofNat d <<< ((8 * Int32.ofNat l).toInt64 &&& 63) = Int64.ofNat (2 ^ (8 * l) * d) := by
  have : ((8 * Int32.ofNat l).toInt64 &&& 63) = Int64.ofNat (8 * l) := by
    have : ∀ l, l < 8 → ((8 * Int32.ofNat l).toInt64 &&& 63) = Int64.ofNat (8 * l) := by decide
    exact this l hl
  rw [this]
  apply Int64.toBitVec_inj.mp
  apply BitVec.eq_of_toNat_eq
  rw [Int64.toBitVec_shiftLeft]
  have e : ((Int64.ofNat (8 * l)).toBitVec.smod 64) = BitVec.ofNat 64 (8 * l) := by
    have : ∀ l, l < 8 → ((Int64.ofNat (8 * l)).toBitVec.smod 64) = BitVec.ofNat 64 (8 * l) := by decide
    exact this l hl
  rw [e]
  show ((d % 2 ^ 64) <<< (8 * l % 2 ^ 64)) % 2 ^ 64 = (2 ^ (8 * l) * d) % 2 ^ 64
  rw [Nat.mod_eq_of_lt (show 8 * l < 2 ^ 64 by omega), Nat.shiftLeft_eq, Nat.mul_comm, Nat.mul_mod_mod]
theorem rdx {v l d : Nat} (hv : v < 256 ^ l) (hl : l < 8) (hd : d < 2 ^ 31) : rd_ex (Int64.ofNat v) l (Int32.ofNat d) = Int64.ofNat (v + 256 ^ l * d) := by
  unfold rd_ex
  rw [t64 hd, s64 hl, o64, show (256 : Nat) ^ l = 2 ^ (8 * l) by rw [Nat.pow_mul]]
  rw [show (256 : Nat) ^ l = 2 ^ (8 * l) by rw [Nat.pow_mul]] at hv
  rw [Nat.or_comm, Nat.add_comm, Nat.two_pow_add_eq_or_of_lt hv]
theorem vlx_ap : ∀ (l : List Nat) (d : Nat), vlx (l ++ [d]) = vlx l + 256 ^ l.length * d
  | [], d => by show d + 256 * 0 = 0 + 256 ^ 0 * d; omega
  | x :: l, d => by
    show x + 256 * vlx (l ++ [d]) = x + 256 * vlx l + 256 ^ (l.length + 1) * d
    rw [vlx_ap l d, Nat.pow_succ, Nat.mul_add, ← Nat.mul_assoc, Nat.mul_comm 256 (256 ^ l.length)]
    omega
theorem vlx_l : ∀ (l : List Nat), (∀ c, c ∈ l → c < 256) → vlx l < 256 ^ l.length
  | [], _ => by decide
  | c :: l, h => by
    have a := vlx_l l (fun d hd => h d (List.mem_cons_of_mem _ hd))
    have b := h c List.mem_cons_self
    show c + 256 * vlx l < 256 ^ (l.length + 1)
    rw [Nat.pow_succ]
    omega
theorem xtf_v : ∀ (l : List Nat) (k : Nat), (∀ c, c ∈ l → 0 < c ∧ c < 256) → l.length < k → xtf k (vlx l) = l
  | [], k, _, hk => by
    obtain ⟨k, rfl⟩ : ∃ j, k = j + 1 := ⟨k - 1, by have : (0 : Nat) < k := hk; omega⟩
    rfl
  | c :: l, k, h, hk => by
    obtain ⟨k, rfl⟩ : ∃ j, k = j + 1 := ⟨k - 1, by have : l.length + 1 < k := hk; omega⟩
    have b := h c List.mem_cons_self
    show (if (c + 256 * vlx l) % 256 = 0 then [] else ((c + 256 * vlx l) % 256) :: xtf k ((c + 256 * vlx l) / 256)) = c :: l
    rw [if_neg (by omega), show (c + 256 * vlx l) % 256 = c by omega, show (c + 256 * vlx l) / 256 = vlx l by omega, xtf_v l k (fun d hd => h d (List.mem_cons_of_mem _ hd)) (by have : l.length + 1 < k + 1 := hk; omega)]
section XP
variable {f : Nat → Int32} {g : Nat → Nat} {c : Nat}
theorem sgm_len {P k : Nat} : (sgm g P k).length = k := by unfold sgm; rw [List.length_map, List.length_range]
theorem sgm_add {P a b : Nat} : sgm g P (a + b) = sgm g P a ++ sgm g (P + a) b := by
  unfold sgm
  rw [List.range_add, List.map_append, List.map_map]
  congr 1
  refine List.map_congr_left (fun i _ => ?_)
  show g (P + (a + i)) = g (P + a + i)
  rw [Nat.add_assoc]
theorem sgm_1 {P : Nat} : sgm g P 1 = [g P] := rfl
theorem sgm_m {P k d : Nat} (h : d ∈ sgm g P k) : ∃ i, i < k ∧ d = g (P + i) := by
  unfold sgm at h
  rw [List.mem_map] at h
  obtain ⟨i, h1, h2⟩ := h
  exact ⟨i, List.mem_range.mp h1, h2.symm⟩
def XS (g : Nat → Nat) (c P : Nat) (s : rs) : Prop := ∃ k, s.1 = P + k ∧ s.2.2.2 = k ∧ P + k ≤ c ∧ s.2.2.1 = Int64.ofNat (vlx (sgm g P k))
theorem sgm_b {P k : Nat} (hg : Gf f g c) (h : P + k ≤ c) : ∀ d, d ∈ sgm g P k → 33 ≤ d ∧ d ≤ 126 := fun d hd => by
  obtain ⟨i, hi, rfl⟩ := sgm_m hd
  exact (hg (P + i) (by omega)).2
theorem xs_keep {P : Nat} {s : rs} (hg : Gf f g c) (h : XS g c P s) (hs : s.1 < c) (h7 : s.1 < P + 8) : XS g c P (ks_keep f c s) ∧ (ks_keep f c s).1 = s.1 + 1 ∧ (ks_keep f c s).2.1 = s.2.1 := by
  unfold ks_keep
  rw [if_pos hs]
  obtain ⟨k, h1, h2, h3, h4⟩ := h
  obtain ⟨a1, a2, a3⟩ := hg s.1 hs
  refine ⟨⟨k + 1, by show s.1 + 1 = _; omega, by show s.2.2.2 + 1 = _; omega, by omega, ?_⟩, rfl, rfl⟩
  show rd_ex s.2.2.1 s.2.2.2 (f s.1) = _
  have hv := vlx_l (sgm g P k) (fun d hd => by have := sgm_b hg h3 d hd; omega)
  rw [sgm_len] at hv
  rw [h4, h2, a1, rdx hv (by omega) (by omega), sgm_add, sgm_1, vlx_ap, sgm_len, h1]
theorem ch_fg {x : Nat} (h : x ≤ 126) : rd_fig (Int32.ofNat x) = fgc x ∧ rd_var (Int32.ofNat x) = vrc x ∧ rd_op (Int32.ofNat x) = opc x := by
  have : ∀ x, x < 127 → rd_fig (Int32.ofNat x) = fgc x ∧ rd_var (Int32.ofNat x) = vrc x ∧ rd_op (Int32.ofNat x) = opc x := by decide +kernel
  exact this x (by omega)
theorem ka_0 {s : rs} (h : ¬ (s.2.1 = false ∧ s.1 < c)) : ka f c s 0 = 0 := by
  unfold ka rd_ah
  split
  · rfl
  · next q =>
    rw [if_neg]
    intro z
    exact h ⟨by simpa using q, by omega⟩
theorem xs_loop {P : Nat} (hg : Gf f g c) : ∀ (j : Nat) (s : rs), XS g c P s → s.2.1 = false → s.1 + j ≤ P + 8 → ∃ k, k ≤ j ∧ XS g c P (ks_loop f c j s) ∧ (ks_loop f c j s).1 = s.1 + k ∧ (ks_loop f c j s).2.1 = false ∧ (∀ d, d ∈ sgm g s.1 k → fgc d = true) ∧ (0 < j → rd_fig (ka f c s 0) = true → 0 < k)
  | 0, s, h, hw, _ => ⟨0, Nat.le_refl _, h, rfl, hw, fun d hd => (by cases hd), fun z => absurd z (Nat.lt_irrefl _)⟩
  | j + 1, s, h, hw, hj => by
    show ∃ k, k ≤ j + 1 ∧ XS g c P (if rd_fig (ka f c s 0) = true then ks_loop f c j (ks_keep f c s) else s) ∧ (if rd_fig (ka f c s 0) = true then ks_loop f c j (ks_keep f c s) else s).1 = s.1 + k ∧ (if rd_fig (ka f c s 0) = true then ks_loop f c j (ks_keep f c s) else s).2.1 = false ∧ _
    by_cases q : rd_fig (ka f c s 0) = true
    · have hs : s.1 < c := by
        by_cases z : s.2.1 = false ∧ s.1 < c
        · exact z.2
        · rw [ka_0 z] at q
          exact absurd q (by decide)
      obtain ⟨k1, k2, k3⟩ := xs_keep hg h hs (by omega)
      obtain ⟨k, e0, e1, e2, e3, e4, e5⟩ := xs_loop hg j (ks_keep f c s) k1 (k3.trans hw) (by omega)
      rw [if_pos q]
      refine ⟨k + 1, by omega, e1, by omega, e3, fun d hd => ?_, fun _ _ => by omega⟩
      rw [Nat.add_comm, sgm_add, sgm_1, List.mem_append] at hd
      rcases hd with hd | hd
      · rw [List.mem_singleton.mp hd]
        rw [ka_y hw hs, (hg s.1 hs).1, (ch_fg (hg s.1 hs).2.2).1] at q
        exact q
      · rw [k2] at e4
        exact e4 d hd
    · rw [if_neg q]
      exact ⟨0, Nat.zero_le _, h, rfl, hw, fun d hd => (by cases hd), fun _ z => absurd z q⟩
theorem xs_lw : ∀ (j : Nat) (s : rs), s.2.1 = true → (ks_loop f c j s).2.1 = true
  | 0, s, h => h
  | j + 1, s, h => by
    show (if rd_fig (ka f c s 0) = true then ks_loop f c j (ks_keep f c s) else s).2.1 = true
    rw [ka_0 (fun z => by rw [z.1] at h; cases h), if_neg (by decide)]
    exact h
theorem xs_term {P : Nat} {s : rs} (hg : Gf f g c) (h : XS g c P s) (h7 : s.1 + 3 ≤ P + 8) (hr : (ks_term f c s).2.1 = false) : s.2.1 = false ∧ ∃ k, XS g c P (ks_term f c s) ∧ (ks_term f c s).1 = s.1 + k ∧ k ≤ 3 ∧ trL (sgm g s.1 k) := by
  unfold ks_term at hr ⊢
  by_cases q : rd_var (ka f c s 0) = true
  · have hs : s.2.1 = false ∧ s.1 < c := by
      by_cases z : s.2.1 = false ∧ s.1 < c
      · exact z
      · rw [ka_0 z] at q
        exact absurd q (by decide)
    rw [if_pos q]
    obtain ⟨k1, k2, k3⟩ := xs_keep hg h hs.2 (by omega)
    rw [ka_y hs.1 hs.2, (hg s.1 hs.2).1, (ch_fg (hg s.1 hs.2).2.2).2.1] at q
    exact ⟨hs.1, 1, k1, k2, by omega, Or.inl ⟨g s.1, rfl, q⟩⟩
  · rw [if_neg q] at hr ⊢
    by_cases q2 : rd_fig (ka f c s 0) = true
    · rw [if_pos q2]
      have hs : s.2.1 = false ∧ s.1 < c := by
        by_cases z : s.2.1 = false ∧ s.1 < c
        · exact z
        · rw [ka_0 z] at q2
          exact absurd q2 (by decide)
      obtain ⟨k, e0, e1, e2, e3, e4, e5⟩ := xs_loop hg 3 s h hs.1 (by omega)
      have := e5 (by decide) q2
      refine ⟨hs.1, k, e1, e2, e0, Or.inr ⟨fun z => ?_, by rw [sgm_len]; exact e0, e4⟩⟩
      have := congrArg List.length z
      rw [sgm_len] at this
      have : k = 0 := this
      omega
    · rw [if_neg q2, xs_lw 3 (ks_wrong s) rfl] at hr
      cases hr
theorem trL_x {l : List Nat} (h : trL l) : l ≠ [] ∧ ∀ d, d ∈ l → xch d = true := by
  rcases h with ⟨v, rfl, hv⟩ | ⟨h1, h2, h3⟩
  · refine ⟨by simp, fun d hd => ?_⟩
    rw [List.mem_singleton.mp hd]
    unfold xch
    rw [hv, Bool.or_true, Bool.true_or]
  · refine ⟨h1, fun d hd => ?_⟩
    unfold xch
    rw [h3 d hd, Bool.true_or, Bool.true_or]
theorem xs_expr {P : Nat} {s : rs} (hg : Gf f g c) (hP : s.1 = P) (hPc : P ≤ c) (hr : (ks_expr f c s).2.1 = false) : s.2.1 = false ∧ ∃ k, (ks_expr f c s).1 = P + k ∧ P + k ≤ c ∧ 0 < k ∧ k ≤ 7 ∧ (ks_expr f c s).2.2.1 = Int64.ofNat (vlx (sgm g P k)) ∧ Xok (vlx (sgm g P k)) ∧ xt (vlx (sgm g P k)) = sgm g P k := by
  have x0 : XS g c P (s.1, s.2.1, 0, 0) := ⟨0, hP, rfl, hPc, rfl⟩
  have fin : ∀ k, P + k ≤ c → k ≤ 7 → Xw (sgm g P k) → (∀ d, d ∈ sgm g P k → xch d = true) → 0 < k → Xok (vlx (sgm g P k)) ∧ xt (vlx (sgm g P k)) = sgm g P k := by
    intro k h1 h2 h3 h4 h5
    have e : xt (vlx (sgm g P k)) = sgm g P k := xtf_v (sgm g P k) 8 (fun d hd => by have := sgm_b hg h1 d hd; omega) (by rw [sgm_len]; omega)
    refine ⟨?_, e⟩
    unfold Xok
    rw [e]
    refine ⟨fun z => ?_, ⟨rfl, h3⟩, h4⟩
    have := congrArg List.length z
    rw [sgm_len] at this
    have : k = 0 := this
    omega
  have pos : ∀ {a k : Nat}, trL (sgm g a k) → 0 < k := fun {a k} h => by
    cases k with
    | zero => exact absurd rfl (trL_x h).1
    | succ k => omega
  unfold ks_expr at hr ⊢
  generalize hs1 : ks_term f c (s.1, s.2.1, 0, 0) = s1 at hr ⊢
  by_cases q : rd_op (ka f c s1 0) = true
  · rw [if_pos q] at hr ⊢
    have hs : s1.2.1 = false ∧ s1.1 < c := by
      by_cases z : s1.2.1 = false ∧ s1.1 < c
      · exact z
      · rw [ka_0 z] at q
        exact absurd q (by decide)
    rw [← hs1] at hs
    obtain ⟨b1, k, b2, b3, b4, b5⟩ := xs_term hg x0 (by show s.1 + 3 ≤ _; omega) hs.1
    rw [hs1] at b2 b3 hs
    have b3' : s1.1 = P + k := by rw [b3]; show s.1 + k = _; omega
    obtain ⟨k1, k2, k3⟩ := xs_keep hg b2 hs.2 (by omega)
    obtain ⟨c1, k', c2, c3, c4, c5⟩ := xs_term hg k1 (by omega) hr
    have c3' : (ks_term f c (ks_keep f c s1)).1 = P + (k + 1 + k') := by omega
    have b5' : trL (sgm g P k) := by rw [← hP]; exact b5
    rw [k2, b3'] at c5
    have e : sgm g P (k + 1 + k') = sgm g P k ++ g (P + k) :: sgm g (P + k + 1) k' := by
      rw [sgm_add, sgm_add, sgm_1, List.append_assoc]
      rfl
    have hop : opc (g (P + k)) = true := by
      rw [ka_y hs.1 hs.2, (hg s1.1 hs.2).1, (ch_fg (hg s1.1 hs.2).2.2).2.2, b3'] at q
      exact q
    have hall : ∀ d, d ∈ sgm g P (k + 1 + k') → xch d = true := fun d hd => by
      rw [e, List.mem_append, List.mem_cons] at hd
      rcases hd with hd | hd | hd
      · exact (trL_x b5').2 d hd
      · rw [hd]
        unfold xch
        rw [hop, Bool.or_true]
      · exact (trL_x c5).2 d hd
    obtain ⟨kk, d1, d2, d3, d4⟩ := c2
    have : kk = k + 1 + k' := by omega
    subst this
    obtain ⟨f1, f2⟩ := fin (k + 1 + k') d3 (by omega) (Or.inr ⟨_, _, _, e, b5', hop, c5⟩) hall (by omega)
    exact ⟨b1, k + 1 + k', c3', d3, by omega, by omega, d4, f1, f2⟩
  · rw [if_neg q] at hr ⊢
    rw [← hs1] at hr
    obtain ⟨b1, k, b2, b3, b4, b5⟩ := xs_term hg x0 (by show s.1 + 3 ≤ _; omega) hr
    rw [hs1] at b2 b3
    have b3' : s1.1 = P + k := by rw [b3]; show s.1 + k = _; omega
    have b5' : trL (sgm g P k) := by rw [← hP]; exact b5
    obtain ⟨kk, d1, d2, d3, d4⟩ := b2
    have : kk = k := by omega
    subst this
    have := pos b5'
    obtain ⟨f1, f2⟩ := fin kk d3 (by omega) (Or.inl b5') (trL_x b5').2 this
    exact ⟨b1, kk, b3', d3, this, by omega, d4, f1, f2⟩
end XP
