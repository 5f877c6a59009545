def ie_p2 (c : Jvm.ClassFile.Cond) (t pc : Nat) (x y : Int32) : Nat := match c with
  | .eq => if x = y then t else pc + 3
  | .ne => if x = y then pc + 3 else t
  | .lt => if x < y then t else pc + 3
  | .ge => if y ≤ x then t else pc + 3
  | .gt => if y < x then t else pc + 3
  | .le => if x ≤ y then t else pc + 3
def ie_hi (i : Instr) : Bool := match i with
  | .iaload | .caload | .baload | .laload | .aaload | .iastore | .castore | .bastore | .lastore | .aastore | .arraylength | .newarray _ | .anewarray _ | .new _ | .getfield _ | .putfield _ | .invokespecial _ | .invokestatic _ | .ldc_w _ | .ldc2_w _ => true
  | _ => false
theorem ie_nx_inj {pc : Nat} {ls : ie_L} {st : List Value} {h : ie_H} {F : ie_F} (hs : ie_nx pc ls st h = some (.inl F)) : F = (pc, ls, st, h) := by
  unfold ie_nx at hs; exact (Sum.inl.inj (Option.some.inj hs)).symm
theorem ie_nx_go {pc : Nat} {ls : ie_L} {st : List Value} {h : ie_H} {z : ie_T ⊕ (ie_O × ie_H)} (hs : ie_nx pc ls st h = some (.inr z)) : False := by
  unfold ie_nx at hs; cases hs
theorem ie_b_inv {f : Int32 → Int32 → Int32} {pc : Nat} {ls : ie_L} {st : List Value} {h : ie_H} {F : ie_F} (hs : ie_b f pc ls st h = some (.inl F)) : ∃ x y r, st = .int y :: .int x :: r ∧ F = (pc + 1, ls, .int (f x y) :: r, h) := by
  unfold ie_b at hs
  split at hs
  · exact ⟨_, _, _, rfl, ie_nx_inj hs⟩
  · cases hs
theorem ie_d_inv {f : Int32 → Int32 → Int32} {pc : Nat} {ls : ie_L} {st : List Value} {h : ie_H} {F : ie_F} (hs : ie_d f pc ls st h = some (.inl F)) : ∃ x y r, st = .int y :: .int x :: r ∧ ¬ y = 0 ∧ F = (pc + 1, ls, .int (f x y) :: r, h) := by
  unfold ie_d at hs
  split at hs
  · split at hs
    · cases hs
    · rename_i hy; exact ⟨_, _, _, rfl, hy, ie_nx_inj hs⟩
  · cases hs
theorem ie_bl_inv {f : Int64 → Int64 → Int64} {pc : Nat} {ls : ie_L} {st : List Value} {h : ie_H} {F : ie_F} (hs : ie_bl f pc ls st h = some (.inl F)) : ∃ x y r, st = .long y :: .long x :: r ∧ F = (pc + 1, ls, .long (f x y) :: r, h) := by
  unfold ie_bl at hs
  split at hs
  · exact ⟨_, _, _, rfl, ie_nx_inj hs⟩
  · cases hs
theorem ie_sl_inv {f : Int64 → Int32 → Int64} {pc : Nat} {ls : ie_L} {st : List Value} {h : ie_H} {F : ie_F} (hs : ie_sl f pc ls st h = some (.inl F)) : ∃ x y r, st = .int y :: .long x :: r ∧ F = (pc + 1, ls, .long (f x y) :: r, h) := by
  unfold ie_sl at hs
  split at hs
  · exact ⟨_, _, _, rfl, ie_nx_inj hs⟩
  · cases hs
theorem ie_u_inv {f : Int32 → Value} {pc : Nat} {ls : ie_L} {st : List Value} {h : ie_H} {F : ie_F} (hs : ie_u f pc ls st h = some (.inl F)) : ∃ x r, st = .int x :: r ∧ F = (pc + 1, ls, f x :: r, h) := by
  unfold ie_u at hs
  split at hs
  · exact ⟨_, _, rfl, ie_nx_inj hs⟩
  · cases hs
theorem ie_ul_inv {f : Int64 → Value} {pc : Nat} {ls : ie_L} {st : List Value} {h : ie_H} {F : ie_F} (hs : ie_ul f pc ls st h = some (.inl F)) : ∃ x r, st = .long x :: r ∧ F = (pc + 1, ls, f x :: r, h) := by
  unfold ie_ul at hs
  split at hs
  · exact ⟨_, _, rfl, ie_nx_inj hs⟩
  · cases hs
theorem ie_li_inv {n i pc : Nat} {ls : ie_L} {st : List Value} {h : ie_H} {F : ie_F} (hs : ie_li n i pc ls st h = some (.inl F)) : ∃ x, ls[i]? = some (some (.int x)) ∧ F = (pc + n, ls, .int x :: st, h) := by
  unfold ie_li at hs
  split at hs
  · rename_i x hx; exact ⟨x, hx, ie_nx_inj hs⟩
  · cases hs
theorem ie_ll_inv {n i pc : Nat} {ls : ie_L} {st : List Value} {h : ie_H} {F : ie_F} (hs : ie_ll n i pc ls st h = some (.inl F)) : ∃ x, ls[i]? = some (some (.long x)) ∧ F = (pc + n, ls, .long x :: st, h) := by
  unfold ie_ll at hs
  split at hs
  · rename_i x hx; exact ⟨x, hx, ie_nx_inj hs⟩
  · cases hs
theorem ie_la_inv {n i pc : Nat} {ls : ie_L} {st : List Value} {h : ie_H} {F : ie_F} (hs : ie_la n i pc ls st h = some (.inl F)) : (∃ x, ls[i]? = some (some (.ref x)) ∧ F = (pc + n, ls, .ref x :: st, h)) ∨ (ls[i]? = some (some .null) ∧ F = (pc + n, ls, .null :: st, h)) := by
  unfold ie_la at hs
  split at hs
  · rename_i x hx; exact Or.inl ⟨x, hx, ie_nx_inj hs⟩
  · rename_i hx; exact Or.inr ⟨hx, ie_nx_inj hs⟩
  · cases hs
theorem ie_si_inv {n i pc : Nat} {ls : ie_L} {st : List Value} {h : ie_H} {F : ie_F} (hs : ie_si n i pc ls st h = some (.inl F)) : ∃ x r, st = .int x :: r ∧ F = (pc + n, ls.set i (some (.int x)), r, h) := by
  unfold ie_si at hs
  split at hs
  · exact ⟨_, _, rfl, ie_nx_inj hs⟩
  · cases hs
theorem ie_sa_inv {n i pc : Nat} {ls : ie_L} {st : List Value} {h : ie_H} {F : ie_F} (hs : ie_sa n i pc ls st h = some (.inl F)) : (∃ x r, st = .ref x :: r ∧ F = (pc + n, ls.set i (some (.ref x)), r, h)) ∨ (∃ r, st = .null :: r ∧ F = (pc + n, ls.set i (some .null), r, h)) := by
  unfold ie_sa at hs
  split at hs
  · exact Or.inl ⟨_, _, rfl, ie_nx_inj hs⟩
  · exact Or.inr ⟨_, rfl, ie_nx_inj hs⟩
  · cases hs
theorem ie_inc_inv {i pc : Nat} {n : Int} {ls : ie_L} {st : List Value} {h : ie_H} {F : ie_F} (hs : ie_inc i n pc ls st h = some (.inl F)) : ∃ x, ls[i]? = some (some (.int x)) ∧ F = (pc + 3, ls.set i (some (.int (x + Int32.ofInt n))), st, h) := by
  unfold ie_inc at hs
  split at hs
  · rename_i x hx; exact ⟨x, hx, ie_nx_inj hs⟩
  · cases hs
theorem ie_i0_inv {c : Jvm.ClassFile.Cond} {t pc : Nat} {ls : ie_L} {st : List Value} {h : ie_H} {F : ie_F} (hs : ie_i0 c t pc ls st h = some (.inl F)) : ∃ x r, st = .int x :: r ∧ F = (ie_p2 c t pc x 0, ls, r, h) := by
  unfold ie_i0 at hs
  split at hs
  · refine ⟨_, _, rfl, ?_⟩
    cases c <;> exact ie_nx_inj hs
  · cases hs
theorem ie_i2_inv {c : Jvm.ClassFile.Cond} {t pc : Nat} {ls : ie_L} {st : List Value} {h : ie_H} {F : ie_F} (hs : ie_i2 c t pc ls st h = some (.inl F)) : ∃ x y r, st = .int y :: .int x :: r ∧ F = (ie_p2 c t pc x y, ls, r, h) := by
  unfold ie_i2 at hs
  split at hs
  · refine ⟨_, _, _, rfl, ?_⟩
    cases c <;> exact ie_nx_inj hs
  · cases hs
theorem ie_nu_inv {t1 t2 : Nat} {ls : ie_L} {st : List Value} {h : ie_H} {F : ie_F} (hs : ie_nu t1 t2 ls st h = some (.inl F)) : (∃ r, st = .null :: r ∧ F = (t1, ls, r, h)) ∨ (∃ a r, st = .ref a :: r ∧ F = (t2, ls, r, h)) := by
  unfold ie_nu at hs
  split at hs
  · exact Or.inl ⟨_, rfl, ie_nx_inj hs⟩
  · exact Or.inr ⟨_, _, rfl, ie_nx_inj hs⟩
  · cases hs
theorem ie_ia_inv {t : Nat} {X : ie_X} {pc : Nat} {ls : ie_L} {st : List Value} {h : ie_H} {F : ie_F} (hs : ie_ia t X pc ls st h = some (.inl F)) : ∃ i a r, st = .int i :: .ref a :: r ∧
    ((a = ie_S ∧ t = 0 ∧ (0 ≤ i.toInt ∧ i.toInt < (X.1 : Int)) ∧ F = (pc + 1, ls, .int (X.2 i.toNatClampNeg) :: r, h)) ∨
     (a ≠ ie_S ∧ ∃ n f, h[a]? = some (.inl (t, n, .inl f)) ∧ (0 ≤ i.toInt ∧ i.toInt < (n : Int)) ∧ F = (pc + 1, ls, .int (f i.toNatClampNeg) :: r, h))) := by
  unfold ie_ia at hs
  split at hs
  · rename_i i a r
    refine ⟨i, a, r, rfl, ?_⟩
    split at hs
    · rename_i ha
      split at hs
      · rename_i ht
        split at hs
        · rename_i hi; exact Or.inl ⟨ha, ht, hi, ie_nx_inj hs⟩
        · cases hs
      · cases hs
    · rename_i ha
      split at hs
      · rename_i u n f hc
        split at hs
        · rename_i hu
          subst hu
          split at hs
          · rename_i hi; exact Or.inr ⟨ha, n, f, hc, hi, ie_nx_inj hs⟩
          · cases hs
        · cases hs
      · cases hs
  · cases hs
theorem ie_lal_inv {pc : Nat} {ls : ie_L} {st : List Value} {h : ie_H} {F : ie_F} (hs : ie_lal pc ls st h = some (.inl F)) : ∃ i a r n f, st = .int i :: .ref a :: r ∧ h[a]? = some (.inl (3, n, .inr (.inl f))) ∧ (0 ≤ i.toInt ∧ i.toInt < (n : Int)) ∧ F = (pc + 1, ls, .long (f i.toNatClampNeg) :: r, h) := by
  unfold ie_lal at hs
  split at hs
  · rename_i i a r
    split at hs
    · rename_i u n f hc
      split at hs
      · rename_i hu
        subst hu
        split at hs
        · rename_i hi; exact ⟨i, a, r, n, f, rfl, hc, hi, ie_nx_inj hs⟩
        · cases hs
      · cases hs
    · cases hs
  · cases hs
theorem ie_aal_inv {pc : Nat} {ls : ie_L} {st : List Value} {h : ie_H} {F : ie_F} (hs : ie_aal pc ls st h = some (.inl F)) : ∃ i a r u n f, st = .int i :: .ref a :: r ∧ h[a]? = some (.inl (u, n, .inr (.inr (.inr (.inr f))))) ∧ (4 ≤ u ∧ u < 8) ∧ (0 ≤ i.toInt ∧ i.toInt < (n : Int)) ∧ F = (pc + 1, ls, va_rf (f i.toNatClampNeg) :: r, h) := by
  unfold ie_aal at hs
  split at hs
  · rename_i i a r
    split at hs
    · rename_i u n f hc
      split at hs
      · rename_i hu
        split at hs
        · rename_i hi; exact ⟨i, a, r, u, n, f, rfl, hc, hu, hi, ie_nx_inj hs⟩
        · cases hs
      · cases hs
    · cases hs
  · cases hs
theorem ie_ist_inv {t : Nat} {g : Int32 → Int32} {pc : Nat} {ls : ie_L} {st : List Value} {h : ie_H} {F : ie_F} (hs : ie_ist t g pc ls st h = some (.inl F)) : ∃ x i a r n f, st = .int x :: .int i :: .ref a :: r ∧ h[a]? = some (.inl (t, n, .inl f)) ∧ (0 ≤ i.toInt ∧ i.toInt < (n : Int)) ∧ F = (pc + 1, ls, r, h.set a (.inl (t, n, .inl (upd f i.toNatClampNeg (g x))))) := by
  unfold ie_ist at hs
  split at hs
  · rename_i x i a r
    split at hs
    · rename_i u n f hc
      split at hs
      · rename_i hu
        subst hu
        split at hs
        · rename_i hi; exact ⟨x, i, a, r, n, f, rfl, hc, hi, ie_nx_inj hs⟩
        · cases hs
      · cases hs
    · cases hs
  · cases hs
theorem ie_lst_inv {pc : Nat} {ls : ie_L} {st : List Value} {h : ie_H} {F : ie_F} (hs : ie_lst pc ls st h = some (.inl F)) : ∃ x i a r n f, st = .long x :: .int i :: .ref a :: r ∧ h[a]? = some (.inl (3, n, .inr (.inl f))) ∧ (0 ≤ i.toInt ∧ i.toInt < (n : Int)) ∧ F = (pc + 1, ls, r, h.set a (.inl (3, n, .inr (.inl (vp_updL f i.toNatClampNeg x))))) := by
  unfold ie_lst at hs
  split at hs
  · rename_i x i a r
    split at hs
    · rename_i u n f hc
      split at hs
      · rename_i hu
        subst hu
        split at hs
        · rename_i hi; exact ⟨x, i, a, r, n, f, rfl, hc, hi, ie_nx_inj hs⟩
        · cases hs
      · cases hs
    · cases hs
  · cases hs
theorem ie_ast_inv {pc : Nat} {ls : ie_L} {st : List Value} {h : ie_H} {F : ie_F} (hs : ie_ast pc ls st h = some (.inl F)) :
    (∃ b i a r u n f fs, st = .ref b :: .int i :: .ref a :: r ∧ h[a]? = some (.inl (u, n, .inr (.inr (.inr (.inr f))))) ∧ h[b]? = some (.inr (ie_kc u, fs)) ∧ (4 ≤ u ∧ u < 8) ∧ (0 ≤ i.toInt ∧ i.toInt < (n : Int)) ∧ F = (pc + 1, ls, r, h.set a (.inl (u, n, .inr (.inr (.inr (.inr (va_up f i.toNatClampNeg (some b))))))))) ∨
    (∃ i a r u n f, st = .null :: .int i :: .ref a :: r ∧ h[a]? = some (.inl (u, n, .inr (.inr (.inr (.inr f))))) ∧ (4 ≤ u ∧ u < 8) ∧ (0 ≤ i.toInt ∧ i.toInt < (n : Int)) ∧ F = (pc + 1, ls, r, h.set a (.inl (u, n, .inr (.inr (.inr (.inr (va_up f i.toNatClampNeg none)))))))) := by
  unfold ie_ast at hs
  split at hs
  · rename_i b i a r
    split at hs
    · rename_i u n f hc
      split at hs
      · rename_i ci fs hb
        split at hs
        · rename_i hu
          obtain ⟨h4, h8, rfl⟩ := hu
          split at hs
          · rename_i hi; exact Or.inl ⟨b, i, a, r, u, n, f, fs, rfl, hc, hb, ⟨h4, h8⟩, hi, ie_nx_inj hs⟩
          · cases hs
        · cases hs
      · cases hs
    · cases hs
  · rename_i i a r
    split at hs
    · rename_i u n f hc
      split at hs
      · rename_i hu
        split at hs
        · rename_i hi; exact Or.inr ⟨i, a, r, u, n, f, rfl, hc, hu, hi, ie_nx_inj hs⟩
        · cases hs
      · cases hs
    · cases hs
  · cases hs
theorem ie_len_inv {X : ie_X} {pc : Nat} {ls : ie_L} {st : List Value} {h : ie_H} {F : ie_F} (hs : ie_len X pc ls st h = some (.inl F)) : ∃ a r, st = .ref a :: r ∧
    ((a = ie_S ∧ F = (pc + 1, ls, .int (Int32.ofNat X.1) :: r, h)) ∨ (a ≠ ie_S ∧ ∃ t n z, h[a]? = some (.inl (t, n, z)) ∧ t < 8 ∧ F = (pc + 1, ls, .int (Int32.ofNat n) :: r, h))) := by
  unfold ie_len at hs
  split at hs
  · rename_i a r
    refine ⟨a, r, rfl, ?_⟩
    split at hs
    · rename_i ha; exact Or.inl ⟨ha, ie_nx_inj hs⟩
    · rename_i ha
      split at hs
      · rename_i t n z hc
        split at hs
        · rename_i ht; exact Or.inr ⟨ha, t, n, z, hc, ht, ie_nx_inj hs⟩
        · cases hs
      · cases hs
  · cases hs
theorem ie_na_inv {k t pc : Nat} {ls : ie_L} {st : List Value} {h : ie_H} {F : ie_F} (hs : ie_na k t pc ls st h = some (.inl F)) : ∃ n r, st = .int n :: r ∧ (0 ≤ n.toInt ∧ n.toInt ≤ 100000) ∧ F = (pc + k, ls, .ref h.length :: r, h ++ [ie_z t n.toNatClampNeg]) := by
  unfold ie_na at hs
  split at hs
  · split at hs
    · rename_i hn; exact ⟨_, _, rfl, hn, ie_nx_inj hs⟩
    · cases hs
  · cases hs
theorem ie_new_inv {ci pc : Nat} {ls : ie_L} {st : List Value} {h : ie_H} {F : ie_F} (hs : ie_new ci pc ls st h = some (.inl F)) : ci < 11 ∧ F = (pc + 3, ls, .ref h.length :: st, h ++ [.inr (ci, ie_df ci)]) := by
  unfold ie_new at hs
  split at hs
  · rename_i hc; exact ⟨hc, ie_nx_inj hs⟩
  · unfold ie_end at hs
    split at hs <;> cases hs
theorem ie_gf_inv {ci k pc : Nat} {ls : ie_L} {st : List Value} {h : ie_H} {F : ie_F} (hs : ie_gf ci k pc ls st h = some (.inl F)) : ∃ a r fs v, st = .ref a :: r ∧ h[a]? = some (.inr (ci, fs)) ∧ fs[k]? = some v ∧ F = (pc + 3, ls, v :: r, h) := by
  unfold ie_gf at hs
  split at hs
  · rename_i a r
    split at hs
    · rename_i c fs hc
      split at hs
      · rename_i hcc
        subst hcc
        split at hs
        · rename_i v hv; exact ⟨a, r, fs, v, rfl, hc, hv, ie_nx_inj hs⟩
        · cases hs
      · cases hs
    · cases hs
  · cases hs
theorem ie_pf_inv {ci k pc : Nat} {ls : ie_L} {st : List Value} {h : ie_H} {F : ie_F} (hs : ie_pf ci k pc ls st h = some (.inl F)) : ∃ v a r fs, st = v :: .ref a :: r ∧ h[a]? = some (.inr (ci, fs)) ∧ k < fs.length ∧ ie_fitb ((ie_fl.getD ci (fun _ => .int)) k) v = true ∧ F = (pc + 3, ls, r, h.set a (.inr (ci, fs.set k v))) := by
  unfold ie_pf at hs
  split at hs
  · rename_i v a r
    split at hs
    · rename_i c fs hc
      split at hs
      · rename_i hcc
        subst hcc
        split at hs
        · rename_i z hz
          split at hs
          · rename_i hf; exact ⟨v, a, r, fs, rfl, hc, (List.getElem?_eq_some_iff.mp hz).1, hf, ie_nx_inj hs⟩
          · cases hs
        · cases hs
      · cases hs
    · cases hs
  · cases hs
theorem ie_dup_inv {pc : Nat} {ls : ie_L} {st : List Value} {h : ie_H} {F : ie_F} (hs : ie_dup pc ls st h = some (.inl F)) : ∃ v r, st = v :: r ∧ ie_c1 v = true ∧ F = (pc + 1, ls, v :: v :: r, h) := by
  unfold ie_dup at hs
  split at hs
  · split at hs
    · rename_i hc; exact ⟨_, _, rfl, hc, ie_nx_inj hs⟩
    · cases hs
  · cases hs
theorem ie_dup2_inv {pc : Nat} {ls : ie_L} {st : List Value} {h : ie_H} {F : ie_F} (hs : ie_dup2 pc ls st h = some (.inl F)) : ∃ v w r, st = v :: w :: r ∧ ie_c1 v = true ∧ ie_c1 w = true ∧ F = (pc + 1, ls, v :: w :: v :: w :: r, h) := by
  unfold ie_dup2 at hs
  split at hs
  · split at hs
    · rename_i hc
      split at hs
      · rename_i hd; exact ⟨_, _, _, rfl, hc, hd, ie_nx_inj hs⟩
      · cases hs
    · cases hs
  · cases hs
theorem ie_pop_inv {pc : Nat} {ls : ie_L} {st : List Value} {h : ie_H} {F : ie_F} (hs : ie_pop pc ls st h = some (.inl F)) : ∃ v r, st = v :: r ∧ ie_c1 v = true ∧ F = (pc + 1, ls, r, h) := by
  unfold ie_pop at hs
  split at hs
  · split at hs
    · rename_i hc; exact ⟨_, _, rfl, hc, ie_nx_inj hs⟩
    · cases hs
  · cases hs
theorem ie_iv_no {m n ci : Nat} {st : List Value} {h : ie_H} {F : ie_F} (hs : ie_iv m n ci st h = some (.inl F)) : False := by
  unfold ie_iv ie_go at hs
  repeat' split at hs
  all_goals cases hs
theorem ie_ip_inv {m n pc : Nat} {ls : ie_L} {st : List Value} {h : ie_H} {F : ie_F} (hs : ie_ip m n pc ls st h = some (.inl F)) : ∃ b r, st.drop n = .ref b :: r ∧ m = 10000 ∧ ie_cat r ≤ 8 ∧ F = (pc + 3, ls, r, h) := by
  unfold ie_ip ie_go at hs
  split at hs
  · rename_i b r hd
    split at hs
    · rename_i hcc
      split at hs
      · rename_i hm; exact ⟨b, r, hd, hm, hcc, ie_nx_inj hs⟩
      · cases hs
    · cases hs
  · cases hs
theorem ie_cp_inv {pc : Nat} {ls : ie_L} {st : List Value} {h : ie_H} {F : ie_F} (hs : ie_cp pc ls st h = some (.inl F)) : ∃ n dp b sp a r n0 f n1 g, st = .int n :: .int dp :: .ref b :: .int sp :: .ref a :: r ∧ h[a]? = some (.inl (0, n0, .inl f)) ∧ h[b]? = some (.inl (0, n1, .inl g)) ∧ ((0 ≤ sp.toInt ∧ 0 ≤ dp.toInt ∧ 0 ≤ n.toInt) ∧ sp.toNatClampNeg + n.toNatClampNeg ≤ n0 ∧ dp.toNatClampNeg + n.toNatClampNeg ≤ n1 ∧ ie_cat r ≤ 8) ∧ F = (pc + 3, ls, r, h.set b (.inl (0, n1, .inl (va_cpy f g sp.toNatClampNeg dp.toNatClampNeg n.toNatClampNeg)))) := by
  unfold ie_cp at hs
  split at hs
  · rename_i n dp b sp a r
    split at hs
    · rename_i n0 f n1 g ha hb
      split at hs
      · rename_i hc; exact ⟨n, dp, b, sp, a, r, n0, f, n1, g, rfl, ha, hb, hc, ie_nx_inj hs⟩
      · cases hs
    · cases hs
  · cases hs
theorem ie_is_inv {m n pc : Nat} {ls : ie_L} {st : List Value} {h : ie_H} {F : ie_F} (hs : ie_is m n pc ls st h = some (.inl F)) : m = 10001 ∧ ie_cp pc ls st h = some (.inl F) := by
  unfold ie_is ie_go at hs
  split at hs
  · rename_i hm; exact ⟨hm, hs⟩
  · split at hs <;> cases hs
theorem ie_rv_no {k m : Nat} {st : List Value} {h : ie_H} {F : ie_F} (hs : ie_rv k m st h = some (.inl F)) : False := by
  unfold ie_rv ie_end at hs
  repeat' split at hs
  all_goals cases hs
theorem ie_r0_no {m : Nat} {st : List Value} {h : ie_H} {F : ie_F} (hs : ie_r0 m st h = some (.inl F)) : False := by
  unfold ie_r0 ie_end at hs
  repeat' split at hs
  all_goals cases hs
