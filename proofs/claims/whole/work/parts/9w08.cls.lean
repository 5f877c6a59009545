def nA (S : hS) (k : Nat) : hS := szR (szNA (szI (szN S 1) 0 S.1 (Int32.ofNat k)) 7 (pof k)) 6 S.1 (some (S.1 + 1))
def nN (S : hS) (n : Nat) : hS := szL (szI (szI (szI (szI (nA S (cK n)) 1 S.1 (Int32.ofNat (cV n))) 2 S.1 (Int32.ofNat (cL n))) 3 S.1 (Int32.ofNat (cO n))) 4 S.1 (Int32.ofNat (cD n))) S.1 (Int64.ofNat (cE n))
section NN
variable {S : hS} {k n : Nat}
theorem parts_of (hk : k < 9) : yA_partsOf (Int32.ofNat k) = Int32.ofNat (pof k) := by
  have h : ∀ k, k < 9 → yA_partsOf (Int32.ofNat k) = Int32.ofNat (pof k) := by decide +kernel
  exact h k hk
theorem new_A (hk : k < 9) (hq : S.1 + 2 < ie_S) : yA_new (szN S 1) S.1 (Int32.ofNat k) = some (nA S k) := by
  have ht : ztg (szN S 1) S.1 = 2 := by
    unfold ztg
    rw [if_pos ⟨Nat.lt_succ_self _, by omega⟩]
    exact if_pos rfl
  have hp := pof_le k
  unfold yA_new
  rw [if_pos ht, parts_of hk, if_pos (show zbe (Int32.ofNat (pof k)) by unfold zbe; rw [(j_n (n := pof k) (by omega)).1]; omega), (j_n (n := pof k) (by omega)).2]
  unfold zna
  rw [if_pos (show (szI (szN S 1) 0 S.1 (Int32.ofNat k)).1 < ie_S from (by show S.1 + 1 < ie_S; omega))]
  rfl
theorem nA_1 : (nA S k).1 = S.1 + 2 := rfl
theorem nA_tg (hq : S.1 + 2 < ie_S) : ztg (nA S k) S.1 = 2 ∧ ztg (nA S k) (S.1 + 1) = 27 := by
  constructor
  · unfold ztg
    rw [nA_1, if_pos ⟨by omega, by omega⟩]
    show zup (zup S.2.1 S.1 2) (S.1 + 1) 27 S.1 = 2
    rw [zup_ne (by omega)]
    exact if_pos rfl
  · unfold ztg
    rw [nA_1, if_pos ⟨by omega, by omega⟩]
    exact if_pos rfl
theorem nA_I (j : Nat) : zI (nA S k) j S.1 = if j = 0 then Int32.ofNat k else 0 := by
  show zup2 (zall S.2.2.2.1 S.1 0) 0 S.1 (Int32.ofNat k) j S.1 = _
  unfold zup2 zall
  by_cases e : j = 0
  · rw [if_pos e, if_pos rfl, if_pos e]
  · rw [if_neg e, if_pos rfl, if_neg e]
theorem nA_R (j : Nat) : zR (nA S k) j S.1 = if j = 6 then some (S.1 + 1) else none := by
  show zup2 (zall S.2.2.2.2.2.1 S.1 none) 6 S.1 (some (S.1 + 1)) j S.1 = _
  unfold zup2 zall
  by_cases e : j = 6
  · rw [if_pos e, if_pos rfl, if_pos e]
  · rw [if_neg e, if_pos rfl, if_neg e]
theorem nA_L : zL (nA S k) S.1 = 0 := if_pos rfl
theorem nA_len : zLen (nA S k) (S.1 + 1) = pof k := if_pos rfl
theorem nA_AR : zAR (nA S k) (S.1 + 1) = fun _ => none := if_pos rfl
theorem nN_md : Md2 S (nN S n) [] := by
  have l0 : ∀ x : Nat, x ∈ [S.1] → ¬ x < S.1 := fun x hx => by
    rw [List.mem_singleton] at hx
    omega
  have step : ∀ {T U : hS}, Md2 S T [] → Md2 T U [S.1] → Md2 S U [] := fun {T U} h1 h2 => Md2_t h1 h2 (fun x hx => by cases hx) (fun x hx hl => (l0 x hx hl).elim) (fun x hx hl => (l0 x hx (by omega)).elim)
  have hNA : ∀ {T : hS} {t m : Nat}, Md2 S T [] → Md2 S (szNA T t m) [] := fun {T t m} h1 => Md2_t (L2 := []) h1 (Md2_NA t m) (fun x hx => by cases hx) (fun x hx => by cases hx) (fun x hx => by cases hx)
  unfold nN nA
  exact step (step (step (step (step (step (hNA (step (Md2_N 1) (Md2_I _ _ _))) (Md2_R _ _ _)) (Md2_I _ _ _)) (Md2_I _ _ _)) (Md2_I _ _ _)) (Md2_I _ _ _)) (Md2_L _ _)
theorem nN_1 : (nN S n).1 = S.1 + 2 := rfl
theorem nN_nd (hq : S.1 + 2 < ie_S) : Ndd (nN S n) S.1 n .nil ∧ zR (nN S n) 8 S.1 = none ∧ zAR (nN S n) (S.1 + 1) = fun _ => none := by
  have e8 : zR (nN S n) 8 S.1 = none := by
    show zR (nA S (cK n)) 8 S.1 = none
    rw [nA_R]
    rfl
  have ear : zAR (nN S n) (S.1 + 1) = fun _ => none := nA_AR
  refine ⟨⟨(nA_tg hq).1, ?_, ?_, (nA_tg hq).2, nA_len, ⟨0, by decide, ?_, fun i _ => by rw [Nat.zero_testBit]; rfl⟩, fun i _ => by rw [ear]⟩, e8, ear⟩
  · have z : ∀ (T : hS) (j : Nat) (v : Int64), zI (szL T S.1 v) j S.1 = zI T j S.1 := fun _ _ _ => rfl
    unfold Cdn nN
    rw [z, z, z, z, z]
    refine ⟨?_, ?_, ?_, ?_, ?_, zL_self _ _ _⟩
    · rw [zI_k (by decide), zI_k (by decide), zI_k (by decide), zI_k (by decide), nA_I]
      rfl
    · rw [zI_k (by decide), zI_k (by decide), zI_k (by decide), zI_self]
    · rw [zI_k (by decide), zI_k (by decide), zI_self]
    · rw [zI_k (by decide), zI_self]
    · rw [zI_self]
  · show zR (nA S (cK n)) 6 S.1 = some (S.1 + 1)
    rw [nA_R]
    rfl
  · show zI (szI (szI (szI (szI (nA S (cK n)) 1 S.1 (Int32.ofNat (cV n))) 2 S.1 (Int32.ofNat (cL n))) 3 S.1 (Int32.ofNat (cO n))) 4 S.1 (Int32.ofNat (cD n))) 7 S.1 = Int32.ofNat 0
    rw [zI_k (by decide), zI_k (by decide), zI_k (by decide), zI_k (by decide), nA_I]
    rfl
end NN
abbrev Frm : Type := Fo × Fo × Nat × Nat × Nat
def RpC (S : hS) : List Frm → Option Nat → Option Nat → Prop
  | [], v, K => v = K
  | (ts, ss, h, a, lab) :: C, v, K => So true ts ∧ RpG S ts ss v (some a) ∧ Ndd S a h (cn lab .nil .nil) ∧ zR S 8 a = none ∧ cK h = 5 ∧ lab < 10 ∧ RpC S C (zAR S (a + 1) lab) K
def plT : List Frm → Fo → Fo
  | [], x => x
  | (ts, _, h, _, lab) :: C, x => ap ts (cn h (cn lab (plT C x) .nil) .nil)
def plS : List Frm → Fo → Fo
  | [], x => x
  | (_, ss, _, a, lab) :: C, x => ap ss (cn a (cn lab (plS C x) .nil) .nil)
section CX2
variable {S S' : hS}
theorem Nd_c {a n lab : Nat} {x y : Fo} (h : Ndd S a n (cn lab x .nil)) : Ndd S a n (cn lab y .nil) := by
  have e1 : ∀ i, (gid i (cn lab x .nil)).isSome = (gid i (cn lab y .nil)).isSome := fun i => by
    rw [gid_cn, gid_cn]
    split <;> rfl
  obtain ⟨h1, h2, h3, h4, h5, ⟨z, z1, z2, z3⟩, h7⟩ := h
  refine ⟨h1, h2, h3, h4, h5, ⟨z, z1, z2, fun i hi => by rw [z3 i hi, e1]⟩, fun i hi => h7 i ?_⟩
  have := e1 i
  rw [hi] at this
  cases hg : gid i (cn lab x .nil) with
  | none => rfl
  | some w =>
    rw [hg] at this
    cases this
theorem RpC_pl : ∀ (C : List Frm) (v K : Option Nat) (y sy : Fo), RpC S C v K → Rp S true y sy (fun _ => K) → Rp S true (plT C y) (plS C sy) (fun _ => v)
  | [], v, K, y, sy, h, hy => by
    have e : v = K := h
    subst e
    exact hy
  | (ts, ss, h, a, lab) :: C, v, K, y, sy, hC, hy => by
    obtain ⟨h0, h1, h2, h3, h4, h5, h6⟩ := hC
    refine RpG_ap ts h0 ss v _ _ (some a) h1 (Rp_rm rfl (Nd_c h2) (Rp_km (RpC_pl C _ K y sy h6 hy) trivial) ?_)
    rw [h3]
    exact rfl
theorem RpC_app : ∀ (C : List Frm) (f : Frm) (v K : Option Nat), RpC S (C ++ [f]) v K ↔ ∃ K', RpC S C v K' ∧ RpC S [f] K' K
  | [], f, v, K => ⟨fun h => ⟨v, rfl, h⟩, fun ⟨K', h1, h2⟩ => by
      have e : v = K' := h1
      subst e
      exact h2⟩
  | (ts, ss, h, a, lab) :: C, f, v, K => by
    constructor
    · rintro ⟨h0, h1, h2, h3, h4, h5, h6⟩
      obtain ⟨K', k1, k2⟩ := (RpC_app C f _ K).mp h6
      exact ⟨K', ⟨h0, h1, h2, h3, h4, h5, k1⟩, k2⟩
    · rintro ⟨K', ⟨h0, h1, h2, h3, h4, h5, k1⟩, k2⟩
      exact ⟨h0, h1, h2, h3, h4, h5, (RpC_app C f _ K).mpr ⟨K', k1, k2⟩⟩
theorem plT_app : ∀ (C : List Frm) (f : Frm) (x : Fo), plT (C ++ [f]) x = plT C (plT [f] x)
  | [], _, _ => rfl
  | (ts, ss, h, a, lab) :: C, f, x => by
    show ap ts (cn h (cn lab (plT (C ++ [f]) x) .nil) .nil) = ap ts (cn h (cn lab (plT C (plT [f] x)) .nil) .nil)
    rw [plT_app C f x]
theorem plS_app : ∀ (C : List Frm) (f : Frm) (x : Fo), plS (C ++ [f]) x = plS C (plS [f] x)
  | [], _, _ => rfl
  | (ts, ss, h, a, lab) :: C, f, x => by
    show ap ss (cn a (cn lab (plS (C ++ [f]) x) .nil) .nil) = ap ss (cn a (cn lab (plS C (plS [f] x)) .nil) .nil)
    rw [plS_app C f x]
end CX2
