theorem ie_cc_arr {b0 scr : Nat} {kA : Nat → ClassId} {t n : Nat} {f : Nat → Int32} : ie_cc b0 scr kA (.inl (t, n, .inl f)) = .inl (kA t, n, .inl f) := rfl
theorem ie_cc_lng {b0 scr : Nat} {kA : Nat → ClassId} {t n : Nat} {f : Nat → Int64} : ie_cc b0 scr kA (.inl (t, n, .inr (.inl f))) = .inl (kA t, n, .inr (.inl f)) := rfl
theorem ie_cc_ref {b0 scr : Nat} {kA : Nat → ClassId} {t n : Nat} {f : Nat → Option Nat} : ie_cc b0 scr kA (.inl (t, n, .inr (.inr (.inr (.inr f))))) = .inl (kA t, n, .inr (.inr (.inr (.inr (fun j => (f j).map (ie_ad b0 scr)))))) := rfl
theorem ie_up_map {b0 scr : Nat} (f : Nat → Option Nat) (k : Nat) (v : Option Nat) : (fun j => (va_up f k v j).map (ie_ad b0 scr)) = va_up (fun j => (f j).map (ie_ad b0 scr)) k (v.map (ie_ad b0 scr)) := by
  funext j; unfold va_up; by_cases hj : j = k
  · rw [if_pos hj, if_pos hj]
  · rw [if_neg hj, if_neg hj]
theorem ie_ca0_1 {b0 scr n : Nat} {z : (Nat → Int32) ⊕ (Nat → Int64) ⊕ (Nat → UInt32) ⊕ (Nat → UInt64) ⊕ (Nat → Option Nat)} : (ie_ca0 b0 scr (n, z)).1 = n := by
  unfold ie_ca0
  split
  · rename_i a b c hh; cases hh; rfl
  · rfl
theorem ie_nn {n : Int32} (h : 0 ≤ n.toInt) : ¬ n < 0 := by
  intro z
  have := Int32.lt_iff_toInt_lt.mp z
  have e : (0 : Int32).toInt = 0 := rfl
  omega
theorem ie_cl_of {n : Int32} (h : 0 ≤ n.toInt) : (n.toNatClampNeg : Int) = n.toInt := by
  obtain ⟨j, hj, rfl⟩ := nI_of (ie_nn h)
  rw [nI_clamp hj, nI_toInt hj]
theorem ie_za {b0 scr : Nat} {kA : Nat → ClassId} : ∀ (t : Nat) (ty : FieldType) (n : Nat), t < 4 → ie_kd[t]? = some ty → ∃ a0, ie_cc b0 scr kA (ie_z t n) = .inl (kA t, a0) ∧ (∀ cA : ClassId, vp_cell cA a0 = arrV cA n (fun _ => defaultValue ty)) ∧ ie_sz (ie_z t n) = n ∧ componentBytes ty ≤ 8
  | 0, ty, n, _, hk => by obtain rfl := Option.some.inj hk; exact ⟨(n, .inl (fun _ => 0)), rfl, fun _ => rfl, rfl, by decide⟩
  | 1, ty, n, _, hk => by obtain rfl := Option.some.inj hk; exact ⟨(n, .inl (fun _ => 0)), rfl, fun _ => rfl, rfl, by decide⟩
  | 2, ty, n, _, hk => by obtain rfl := Option.some.inj hk; exact ⟨(n, .inl (fun _ => 0)), rfl, fun _ => rfl, rfl, by decide⟩
  | 3, ty, n, _, hk => by obtain rfl := Option.some.inj hk; exact ⟨(n, .inr (.inl (fun _ => 0))), rfl, fun _ => rfl, rfl, by decide⟩
  | k + 4, _, _, h, _ => absurd h (by omega)
theorem ie_zq {b0 scr : Nat} {kA : Nat → ClassId} : ∀ (t : Nat) (n : Nat), 4 ≤ t → t < 8 → ie_cc b0 scr kA (ie_z t n) = .inl (kA t, n, .inr (.inr (.inr (.inr (fun _ => none))))) ∧ ie_sz (ie_z t n) = n
  | 0, _, h, _ => absurd h (by omega)
  | 1, _, h, _ => absurd h (by omega)
  | 2, _, h, _ => absurd h (by omega)
  | 3, _, h, _ => absurd h (by omega)
  | 4, _, _, _ => ⟨rfl, rfl⟩
  | 5, _, _, _ => ⟨rfl, rfl⟩
  | 6, _, _, _ => ⟨rfl, rfl⟩
  | 7, _, _, _ => ⟨rfl, rfl⟩
  | n + 8, _, _, h => absurd h (by omega)
theorem ie_dv {b0 scr : Nat} (ty : FieldType) : ie_cv b0 scr (defaultValue ty) = defaultValue ty := by cases ty <;> rfl
theorem ie_df_ok {b0 scr ci j : Nat} (hc : ci < 11) (hj : j < (ie_q ci).2.2) : defaultValue ((ie_fl.getD ci (fun _ => .int)) j) = vp_V ((ie_df ci).map (ie_cv b0 scr)) j := by
  unfold ie_df vp_V
  rw [ie_cl_get ci (by omega)]
  simp only [List.map_map]
  simp [List.getD_eq_getElem?_getD, List.getElem?_map, List.getElem?_range hj, ie_dv]
theorem ie_cat_cv {b0 scr : Nat} (q : List Value) : ((q.map (ie_cv b0 scr)).map fun v => v.category).sum = ie_cat q := by
  unfold ie_cat
  rw [List.map_map]
  congr 1
  apply List.map_congr_left
  intro v _
  exact ie_cv_cat v
theorem ie_mr {mid : MethodId} {pc : Nat} {sl : Array Slot} {sk : List Value} : (F0 mid pc sl sk).monitorRoom = 0 := rfl
section IEH
variable {p : Program} {l : Launch} {e : Env} {R : Room} {s : State} {mid : MethodId} {args : Array Value} {below : List Frame} {meth : Method} {c : Code} {H : Heap} {locs : List Loc} {cells slots : Nat} {Q : State → Prop}
variable {D : va_G} {kA : Nat → ClassId} {b0 scr z0 m : Nat} {X : ie_X} {sl : Array Slot} {pc len : Nat} {ls : ie_L} {st : List Value} {h : ie_H}
theorem ie_Rl.upd (hRl : ie_Rl D kA b0 scr s z0 m ls h H locs cells slots sl) {a : Nat} {cc cc' : ie_C} (ha : h[a]? = some cc) (hz : ie_sz cc' = ie_sz cc) {H1 : Heap} {locs1 : List Loc} (hP : va_P D ie_cl ((ie_ws b0 scr kA h).set a (b0 + a, ie_cc b0 scr kA cc')) H1) (hS : va_S (ie_A b0) s.heap H1 locs1) : ie_Rl D kA b0 scr s z0 m ls (h.set a cc') H1 locs1 cells slots sl := by
  obtain ⟨h1, h2, h3, h4, h5⟩ := hRl
  exact ⟨by rw [ie_ws_set]; exact hP, hS, by rw [List.length_set]; exact h3, by rw [ie_sm_set ha hz]; exact h4, h5⟩
theorem ie_fqW {g : JFrame} {q : Nat} {ee : va_E} {H1 : Heap} {cells1 slots1 : Nat} {locs1 : List Loc} (hz : s.heap.size + cells = b0 + h.length) (hc1 : cells1 = cells + 1) (hP : va_P D ie_cl (ie_ws b0 scr kA h ++ [(q, ee)]) H1) (hD : va_D (ie_A b0) (ie_ws b0 scr kA h ++ [(q, ee)])) (k : q = b0 + h.length → W p l e R s mid args below meth c H1 locs1 cells1 slots1 Q g) : W p l e R s mid args below meth c H1 locs1 cells1 slots1 Q g := by
  intro T hT Y
  refine k ?_ T hT Y
  have h1 := Y.heapSize
  rw [hT] at h1
  have hlast : (ie_ws b0 scr kA h ++ [(q, ee)])[h.length]? = some (q, ee) := by
    rw [List.getElem?_append_right (by rw [ie_ws_len]; exact Nat.le_refl _), ie_ws_len]; simp
  have hlt := (hP _ _ hlast).lt
  have hge : b0 ≤ q := hD.2 _ _ hlast
  simp only at hlt
  by_cases hq : q < b0 + h.length
  · have hk : q - b0 < h.length := by omega
    have hg : (ie_ws b0 scr kA h ++ [(q, ee)])[q - b0]? = some (b0 + (q - b0), ie_cc b0 scr kA h[q - b0]) := by
      rw [List.getElem?_append_left (by rw [ie_ws_len]; exact hk)]
      exact ie_ws_get (List.getElem?_eq_getElem hk)
    have := hD.1 _ _ _ _ hg hlast (by simp only; omega)
    omega
  · omega
theorem ie_kAeq {ty : FieldType} {k : Nat} {cA : ClassId} {tys : List (ClassId × FieldType)} (hK : va_K D ie_cl (ie_ty kA) s) (hk : ie_kd[k]? = some ty) (hK1 : va_K D ie_cl (tys ++ [(cA, ty)]) s) : cA = kA k := by
  have h1 := (hK.2 k _ (ie_ty_get (kA := kA) hk)).2
  have h2 := (hK1.2 tys.length (cA, ty) (by simp)).2
  cases ty with
  | object C =>
    obtain ⟨_, _, _, _, _, f1⟩ := h1
    obtain ⟨_, _, _, _, _, f2⟩ := h2
    exact Option.some.inj (f2.symm.trans f1)
  | _ => exact Option.some.inj (Eq.trans (Eq.symm h2) h1)
set_option maxHeartbeats 4000000 in
theorem ie_next2 {i : Instr} {r : Nat × Nat × Nat} {ini : Bool} {F : ie_F} (Cx : ie_Cx p s mid meth c m) (hinit : ini = true → meth.name = "<init>") (G : ie_G D kA b0 scr X s s.heap) (hdg : decode (ie_by m) pc = .ok (i, len)) (hck : ie_ck m (ie_oname (ie_info m).1.1) ini (pc, (i, len), r) = true)
    (hs : ie_step X m i r pc ls st h = some (.inl F)) (hRl : ie_Rl D kA b0 scr s z0 m ls h H locs cells slots sl) (hSl : h.length < ie_S) (hRc : b0 + F.2.2.2.length ≤ s.heap.size + R.cells) (hRs : ie_sm F.2.2.2 ≤ z0 + R.slots) (hRf : 1 ≤ R.frames) (hRo : 100 ≤ R.locals)
    (kk : ie_KK p l e R s mid args below meth c Q D kA b0 scr z0 m F) :
    W p l e R s mid args below meth c H locs cells slots Q (F0 mid pc sl (st.map (ie_cv b0 scr))) := by
  refine ie_next1 Cx G hdg hck hs hRl kk (fun hin => ?_)
  obtain ⟨hx, hb, hml, hown, hlocks, hret, hini⟩ := Cx
  obtain ⟨r1, r2, w⟩ := r
  obtain ⟨gW, gK, gA, gN, gU, gS, gX, gsc, gb⟩ := G
  have hP := hRl.1
  have hS := hRl.2.1
  have hz := hRl.2.2.1
  have hsl := hRl.2.2.2.1
  have hlo := hRl.2.2.2.2
  have hD : va_D (ie_A b0) (ie_ws b0 scr kA h) := ie_ws_D
  have hA : ∀ q, s.heap.size ≤ q → ie_A b0 q := fun q hq => Nat.le_trans gb hq
  cases i with
  | iaload =>
    have hl : len = 1 := of_decide_eq_true hck
    subst hl
    obtain ⟨i, a, q, rfl, hh⟩ := ie_ia_inv hs
    rcases hh with ⟨rfl, -, hi, rfl⟩ | ⟨ha, n, f, hc, hi, rfl⟩
    · refine ie_skW (sk' := .int i :: .ref scr :: q.map (ie_cv b0 scr)) rfl ?_
      exact va_sld hx hb gX (by omega) (fun z => by unfold ie_A at z; omega) hS (vp_in_iff.mpr hi) hdg (kk H locs cells slots sl hRl)
    · refine ie_skW (sk' := .int i :: .ref (b0 + a) :: q.map (ie_cv b0 scr)) (by simp only [List.map_cons, ie_cv, ie_ad_lt (Nat.le_of_lt hSl) hc]) ?_
      exact va_iald hx hb gK hP a 0 (ie_ws_get hc) (ie_ty_get rfl) (vp_in_iff.mpr hi) hdg (kk H locs cells slots sl hRl)
  | caload =>
    have hl : len = 1 := of_decide_eq_true hck
    subst hl
    obtain ⟨i, a, q, rfl, hh⟩ := ie_ia_inv hs
    rcases hh with ⟨-, h0, -⟩ | ⟨ha, n, f, hc, hi, rfl⟩
    · cases h0
    · refine ie_skW (sk' := .int i :: .ref (b0 + a) :: q.map (ie_cv b0 scr)) (by simp only [List.map_cons, ie_cv, ie_ad_lt (Nat.le_of_lt hSl) hc]) ?_
      exact va_cald hx hb gK hP a 1 (ie_ws_get hc) (ie_ty_get rfl) (vp_in_iff.mpr hi) hdg (kk H locs cells slots sl hRl)
  | baload =>
    have hl : len = 1 := of_decide_eq_true hck
    subst hl
    obtain ⟨i, a, q, rfl, hh⟩ := ie_ia_inv hs
    rcases hh with ⟨-, h0, -⟩ | ⟨ha, n, f, hc, hi, rfl⟩
    · cases h0
    · refine ie_skW (sk' := .int i :: .ref (b0 + a) :: q.map (ie_cv b0 scr)) (by simp only [List.map_cons, ie_cv, ie_ad_lt (Nat.le_of_lt hSl) hc]) ?_
      exact va_zald hx hb gK hP a 2 (ie_ws_get hc) (ie_ty_get rfl) (vp_in_iff.mpr hi) hdg (kk H locs cells slots sl hRl)
  | laload =>
    have hl : len = 1 := of_decide_eq_true hck
    subst hl
    obtain ⟨i, a, q, n, f, rfl, hc, hi, rfl⟩ := ie_lal_inv hs
    refine ie_skW (sk' := .int i :: .ref (b0 + a) :: q.map (ie_cv b0 scr)) (by simp only [List.map_cons, ie_cv, ie_ad_lt (Nat.le_of_lt hSl) hc]) ?_
    exact va_lald hx hb gK hP a 3 (ie_ws_get hc) (ie_ty_get rfl) (vp_in_iff.mpr hi) hdg (kk H locs cells slots sl hRl)
  | aaload =>
    have hl : len = 1 := of_decide_eq_true hck
    subst hl
    obtain ⟨i, a, q, u, n, f, rfl, hc, hu, hi, rfl⟩ := ie_aal_inv hs
    refine ie_skW (sk' := .int i :: .ref (b0 + a) :: q.map (ie_cv b0 scr)) (by simp only [List.map_cons, ie_cv, ie_ad_lt (Nat.le_of_lt hSl) hc]) ?_
    refine va_aldq hx hb gK hP a u (ie_ws_get hc) (ie_ty_get (ie_kd_obj u hu.1 hu.2)) (vp_in_iff.mpr hi) hdg ?_
    refine ie_skW ?_ (kk H locs cells slots sl hRl)
    simp only [List.map_cons, ie_cv_rf]
  | iastore =>
    have hl : len = 1 := of_decide_eq_true hck
    subst hl
    obtain ⟨x, i, a, q, n, f, rfl, hc, hi, rfl⟩ := ie_ist_inv hs
    refine ie_skW (sk' := .int x :: .int i :: .ref (b0 + a) :: q.map (ie_cv b0 scr)) (by simp only [List.map_cons, ie_cv, ie_ad_lt (Nat.le_of_lt hSl) hc]) ?_
    exact va_iast hx hb gK hP hD hS a 0 (ie_ws_get hc) (ie_ty_get rfl) (vp_in_iff.mpr hi) hdg (fun H1 locs1 hP1 _ hS1 => kk H1 locs1 cells slots sl (hRl.upd (cc' := .inl (0, n, .inl (upd f i.toNatClampNeg x))) hc rfl hP1 hS1))
  | castore =>
    have hl : len = 1 := of_decide_eq_true hck
    subst hl
    obtain ⟨x, i, a, q, n, f, rfl, hc, hi, rfl⟩ := ie_ist_inv hs
    refine ie_skW (sk' := .int x :: .int i :: .ref (b0 + a) :: q.map (ie_cv b0 scr)) (by simp only [List.map_cons, ie_cv, ie_ad_lt (Nat.le_of_lt hSl) hc]) ?_
    exact va_cast hx hb gK hP hD hS a 1 (ie_ws_get hc) (ie_ty_get rfl) (vp_in_iff.mpr hi) hdg (fun H1 locs1 hP1 _ hS1 => kk H1 locs1 cells slots sl (hRl.upd (cc' := .inl (1, n, .inl (upd f i.toNatClampNeg (vp_nar .char x)))) hc rfl hP1 hS1))
  | bastore =>
    have hl : len = 1 := of_decide_eq_true hck
    subst hl
    obtain ⟨x, i, a, q, n, f, rfl, hc, hi, rfl⟩ := ie_ist_inv hs
    refine ie_skW (sk' := .int x :: .int i :: .ref (b0 + a) :: q.map (ie_cv b0 scr)) (by simp only [List.map_cons, ie_cv, ie_ad_lt (Nat.le_of_lt hSl) hc]) ?_
    exact va_zast hx hb gK hP hD hS a 2 (ie_ws_get hc) (ie_ty_get rfl) (vp_in_iff.mpr hi) hdg (fun H1 locs1 hP1 _ hS1 => kk H1 locs1 cells slots sl (hRl.upd (cc' := .inl (2, n, .inl (upd f i.toNatClampNeg (vp_nar .boolean x)))) hc rfl hP1 hS1))
  | lastore =>
    have hl : len = 1 := of_decide_eq_true hck
    subst hl
    obtain ⟨x, i, a, q, n, f, rfl, hc, hi, rfl⟩ := ie_lst_inv hs
    refine ie_skW (sk' := .long x :: .int i :: .ref (b0 + a) :: q.map (ie_cv b0 scr)) (by simp only [List.map_cons, ie_cv, ie_ad_lt (Nat.le_of_lt hSl) hc]) ?_
    exact va_last hx hb gK hP hD hS a 3 (ie_ws_get hc) (ie_ty_get rfl) (vp_in_iff.mpr hi) hdg (fun H1 locs1 hP1 _ hS1 => kk H1 locs1 cells slots sl (hRl.upd (cc' := .inl (3, n, .inr (.inl (vp_updL f i.toNatClampNeg x)))) hc rfl hP1 hS1))
  | aastore =>
    have hl : len = 1 := of_decide_eq_true hck
    subst hl
    rcases ie_ast_inv hs with ⟨b, i, a, q, u, n, f, fs, rfl, hc, hbb, hu, hi, rfl⟩ | ⟨i, a, q, u, n, f, rfl, hc, hu, hi, rfl⟩
    · refine ie_skW (sk' := .ref (b0 + b) :: .int i :: .ref (b0 + a) :: q.map (ie_cv b0 scr)) (by simp only [List.map_cons, ie_cv, ie_ad_lt (Nat.le_of_lt hSl) hc, ie_ad_lt (Nat.le_of_lt hSl) hbb]) ?_
      refine va_astq hx hb gK hP hD hS a u b (ie_kc u) (r := ie_q (ie_kc u)) (ie_ws_get hc) (ie_ty_get (ie_kd_obj u hu.1 hu.2)) (ie_ws_get hbb) (ie_cl_get _ (by have := ie_kc_lt u; omega)) (vp_in_iff.mpr hi) hdg (fun H1 locs1 hP1 _ hS1 => kk H1 locs1 cells slots sl (hRl.upd (cc' := .inl (u, n, .inr (.inr (.inr (.inr (va_up f i.toNatClampNeg (some b))))))) hc rfl ?_ hS1))
      rw [ie_cc_ref, ie_up_map]
      show va_P D ie_cl (List.set _ a (b0 + a, .inl (kA u, n, .inr (.inr (.inr (.inr (va_up _ _ (some (ie_ad b0 scr b))))))))) H1
      rw [ie_ad_lt (Nat.le_of_lt hSl) hbb]
      exact hP1
    · refine ie_skW (sk' := .null :: .int i :: .ref (b0 + a) :: q.map (ie_cv b0 scr)) (by simp only [List.map_cons, ie_cv, ie_ad_lt (Nat.le_of_lt hSl) hc]) ?_
      refine va_astqN hx hb gK hP hD hS a u (ie_ws_get hc) (ie_ty_get (ie_kd_obj u hu.1 hu.2)) (vp_in_iff.mpr hi) hdg (fun H1 locs1 hP1 _ hS1 => kk H1 locs1 cells slots sl (hRl.upd (cc' := .inl (u, n, .inr (.inr (.inr (.inr (va_up f i.toNatClampNeg none)))))) hc rfl ?_ hS1))
      rw [ie_cc_ref, ie_up_map]
      exact hP1
  | arraylength =>
    have hl : len = 1 := of_decide_eq_true hck
    subst hl
    obtain ⟨a, q, rfl, hh⟩ := ie_len_inv hs
    rcases hh with ⟨rfl, rfl⟩ | ⟨ha, t, n, zz, hc, ht8, rfl⟩
    · refine ie_skW (sk' := .ref scr :: q.map (ie_cv b0 scr)) rfl ?_
      exact va_slen hx hb gX (by omega) (fun z => by unfold ie_A at z; omega) hS hdg (kk H locs cells slots sl hRl)
    · refine ie_skW (sk' := .ref (b0 + a) :: q.map (ie_cv b0 scr)) (by simp only [List.map_cons, ie_cv, ie_ad_lt (Nat.le_of_lt hSl) hc]) ?_
      obtain ⟨ty, hty⟩ : ∃ ty, ie_kd[t]? = some ty := ⟨ie_kd[t], List.getElem?_eq_getElem ht8⟩
      exact va_alen hx hb gK hP a t (ie_ws_get hc) (ie_ty_get hty) (by rw [ie_ca0_1]) hdg (kk H locs cells slots sl hRl)
  | newarray t =>
    simp only [ie_ck, Bool.and_eq_true, decide_eq_true_eq] at hck
    obtain ⟨⟨⟨hl, hr4⟩, hkd⟩, hw⟩ := hck
    subst hl
    obtain ⟨n, q, rfl, hn, rfl⟩ := ie_na_inv hs
    obtain ⟨a0, ea, ha, hsz, hcb⟩ := ie_za (b0 := b0) (scr := scr) (kA := kA) r1 _ n.toNatClampNeg hr4 hkd
    have hcl := ie_cl_of hn.1
    simp only [List.length_append, List.length_singleton] at hRc
    simp only [ie_sm_push, hsz] at hRs
    refine va_newa hx hb (gW.at hw rfl args) rfl gK hP hD hS hA ha (ie_nn hn.1) rfl (Nat.le_trans (Nat.mul_le_mul (show n.toNatClampNeg ≤ 100000 by omega) hcb) (by decide)) (by omega) (by omega) hdg (fun q1 cA H1 hK1 hP1 hD1 hS1 => ?_)
    refine ie_fqW hz rfl hP1 hD1 (fun hq => ?_)
    subst hq
    obtain rfl := ie_kAeq gK hkd hK1
    refine ie_skW ?_ (kk H1 locs (cells + 1) (slots + n.toNatClampNeg) sl ⟨by rw [ie_ws_push, ea]; exact hP1, hS1, by simp only [List.length_append, List.length_singleton]; omega, by rw [ie_sm_push, hsz]; omega, hlo⟩)
    simp only [List.map_cons, ie_cv, ie_ad]; rw [if_neg (by omega)]
  | anewarray idx =>
    simp only [ie_ck, Bool.and_eq_true, decide_eq_true_eq] at hck
    obtain ⟨⟨⟨hl, hr4⟩, hkd⟩, hw⟩ := hck
    subst hl
    obtain ⟨n, q, rfl, hn, rfl⟩ := ie_na_inv hs
    obtain ⟨ea, hsz⟩ := ie_zq (b0 := b0) (scr := scr) (kA := kA) r1 n.toNatClampNeg hr4.1 hr4.2
    have hcl := ie_cl_of hn.1
    simp only [List.length_append, List.length_singleton] at hRc
    simp only [ie_sm_push, hsz] at hRs
    refine va_newq hx hb hown (gW.at hw rfl args) (gA r1 hr4.1 hr4.2) gK hP hD hS hA (ie_nn hn.1) rfl (by omega) (by omega) (by omega) hdg (fun q1 cA H1 hK1 hP1 hD1 hS1 => ?_)
    refine ie_fqW hz rfl hP1 hD1 (fun hq => ?_)
    subst hq
    obtain rfl := ie_kAeq gK hkd hK1
    refine ie_skW ?_ (kk H1 locs (cells + 1) (slots + n.toNatClampNeg) sl ⟨by rw [ie_ws_push, ea]; exact hP1, hS1, by simp only [List.length_append, List.length_singleton]; omega, by rw [ie_sm_push, hsz]; omega, hlo⟩)
    simp only [List.map_cons, ie_cv, ie_ad]; rw [if_neg (by omega)]
  | new idx =>
    simp only [ie_ck, Bool.and_eq_true, decide_eq_true_eq] at hck
    obtain ⟨⟨hl, hr16⟩, hw⟩ := hck
    subst hl
    obtain ⟨hc11, rfl⟩ := ie_new_inv hs
    obtain ⟨hins, hii⟩ := ie_insok r1 hr16
    rw [if_pos hc11] at hins
    have hsz : ie_sz (.inr (r1, ie_df r1)) = (ie_q r1).2.2 := by simp only [ie_sz]; rw [if_pos hc11]
    simp only [List.length_append, List.length_singleton] at hRc
    simp only [ie_sm_push, hsz] at hRs
    refine va_new (Ts := u_ws (ie_q r1).1 (ie_q r1).2.1 (ie_q r1).2.2) (ci := r1) (fs := (ie_df r1).map (ie_cv b0 scr)) hx hb (ie_ul_ok hc11 gW args) (fun w hw => hw) (ie_fl.getD r1 (fun _ => .int)) (ie_tyok r1 hc11) hown (gW.at hw rfl args) (gW _ hins rfl args) (gW _ hii rfl args) gK hP hD hS hA (ie_cl_get r1 hr16) (fun j hj => ie_df_ok hc11 hj) (by omega) (by omega) hdg (fun q1 H1 hP1 hD1 hS1 => ?_)
    refine ie_fqW hz rfl hP1 hD1 (fun hq => ?_)
    subst hq
    refine ie_skW ?_ (kk H1 locs (cells + 1) (slots + (ie_q r1).2.2) sl ⟨by rw [ie_ws_push]; exact hP1, hS1, by simp only [List.length_append, List.length_singleton]; omega, by rw [ie_sm_push, hsz]; omega, hlo⟩)
    simp only [List.map_cons, ie_cv, ie_ad]; rw [if_neg (by omega)]
  | getfield idx =>
    simp only [ie_ck, Bool.and_eq_true, decide_eq_true_eq] at hck
    obtain ⟨hl, hc11, hk, hT1, hw⟩ := hck
    subst hl
    obtain ⟨a, q, fs, v, rfl, hc, hv, rfl⟩ := ie_gf_inv hs
    refine ie_skW (sk' := .ref (b0 + a) :: q.map (ie_cv b0 scr)) (by simp only [List.map_cons, ie_cv, ie_ad_lt (Nat.le_of_lt hSl) hc]) ?_
    have hv' : (fs.map (ie_cv b0 scr))[r2]? = some (ie_cv b0 scr v) := by rw [List.getElem?_map, hv]; rfl
    rcases hw with hw | hw
    · exact va_get (Ts := u_ws (ie_q r1).1 (ie_q r1).2.1 (ie_q r1).2.2) hx hb (ie_ul_ok hc11 gW args) (fun w hw => hw) hown gK hP a (ie_ws_get hc) (ie_cl_get r1 (by omega)) r2 hk (gW.at hw rfl args) (fun x h9 => by rw [hT1] at h9; exact h9) hv' hdg (kk H locs cells slots sl hRl)
    · exact va_getN (Ts := u_ws (ie_q r1).1 (ie_q r1).2.1 (ie_q r1).2.2) hx hb (ie_ul_ok hc11 gW args) (fun w hw => hw) hown gK hP a (ie_ws_get hc) (ie_cl_get r1 (by omega)) r2 hk (gW.at hw rfl args) (fun x h9 => by rw [hT1] at h9; exact h9) hv' hdg (kk H locs cells slots sl hRl)
  | putfield idx =>
    simp only [ie_ck, Bool.and_eq_true, decide_eq_true_eq] at hck
    obtain ⟨⟨hl, hc11, hk, hT1, hw⟩, hp⟩ := hck
    subst hl
    obtain ⟨v, a, q, fs, rfl, hc, hkl, hfit, rfl⟩ := ie_pf_inv hs
    refine ie_skW (sk' := ie_cv b0 scr v :: .ref (b0 + a) :: q.map (ie_cv b0 scr)) (by simp only [List.map_cons]; congr 1; congr 1; show Value.ref (ie_ad b0 scr a) = _; rw [ie_ad_lt (Nat.le_of_lt hSl) hc]) ?_
    obtain ⟨hn1, hf1⟩ := ie_fit_spec (b0 := b0) (scr := scr) hfit
    have hkl' : r2 < (fs.map (ie_cv b0 scr)).length := by rw [List.length_map]; exact hkl
    have fin : ∀ (H1 : Heap) (locs1 : List Loc), va_P D ie_cl ((ie_ws b0 scr kA h).set a (b0 + a, .inr (r1, (fs.map (ie_cv b0 scr)).set r2 (ie_cv b0 scr v)))) H1 → va_D (ie_A b0) ((ie_ws b0 scr kA h).set a (b0 + a, .inr (r1, (fs.map (ie_cv b0 scr)).set r2 (ie_cv b0 scr v)))) → va_S (ie_A b0) s.heap H1 locs1 → W p l e R s mid args below meth c H1 locs1 cells slots Q (F0 mid (pc + 3) sl (q.map (ie_cv b0 scr))) := fun H1 locs1 hP1 _ hS1 => kk H1 locs1 cells slots sl (hRl.upd (cc' := .inr (r1, fs.set r2 v)) hc rfl (by
        show va_P D ie_cl (List.set _ a (b0 + a, .inr (r1, (fs.set r2 v).map (ie_cv b0 scr)))) H1
        rw [List.map_set]; exact hP1) hS1)
    rcases hp with hp | ⟨hp, hi1, hownc, hw2⟩
    · rcases hw with hw | hw
      · exact va_put (Ts := u_ws (ie_q r1).1 (ie_q r1).2.1 (ie_q r1).2.2) hx hb (ie_ul_ok hc11 gW args) (fun w hw => hw) (ie_fl.getD r1 (fun _ => .int)) (ie_tyok r1 hc11) (ie_nmok r1 hc11) hown gK hP hD hS a (ie_ws_get hc) (ie_cl_get r1 (by omega)) r2 hk (gW.at hw rfl args) (fun x h9 => by rw [hT1] at h9; exact h9) hp (ie_tyok r1 hc11 r2 hk) hn1 hf1 hkl' hdg fin
      · exact va_putN (Ts := u_ws (ie_q r1).1 (ie_q r1).2.1 (ie_q r1).2.2) hx hb (ie_ul_ok hc11 gW args) (fun w hw => hw) (ie_fl.getD r1 (fun _ => .int)) (ie_tyok r1 hc11) (ie_nmok r1 hc11) hown gK hP hD hS a (ie_ws_get hc) (ie_cl_get r1 (by omega)) r2 hk (gW.at hw rfl args) (fun x h9 => by rw [hT1] at h9; exact h9) hp (ie_tyok r1 hc11 r2 hk) hn1 hf1 hkl' hdg fin
    · exact va_putF (Ts := u_ws (ie_q r1).1 (ie_q r1).2.1 (ie_q r1).2.2) hx hb (ie_ul_ok hc11 gW args) (fun w hw => hw) (ie_fl.getD r1 (fun _ => .int)) (ie_tyok r1 hc11) (ie_nmok r1 hc11) hown gK hP hD hS a (ie_ws_get hc) (ie_cl_get r1 (by omega)) r2 hk (gW.at hw2 rfl args) (fun x h9 => by rw [hT1] at h9; exact h9) hp (hinit hi1) (by rw [hT1]; exact hownc.symm) (ie_tyok r1 hc11 r2 hk) hn1 hf1 hkl' hdg fin
  | invokespecial idx =>
    obtain ⟨b, q, hd, hm, hcq, rfl⟩ := ie_ip_inv hs
    simp only [] at hm
    subst hm
    simp only [ie_ck, Bool.and_eq_true, Bool.or_eq_true, decide_eq_true_eq] at hck
    obtain ⟨hl, hck⟩ := hck
    subst hl
    rcases hck with (⟨-, hr2, hw⟩ | ⟨hbad, -⟩) | hbad
    · subst hr2
      have hst0 : st = .ref b :: q := hd
      subst hst0
      exact W.objInit hx hb hown (gW.at hw rfl args) (gW _ ie_oin1 rfl args) (gW _ ie_oin2 rfl args) rfl (hlo.1.trans hml.symm) rfl hdg hRf (by rw [ie_mr, ie_cat_cv]; omega) (kk H locs cells slots sl hRl)
    · exact absurd hbad (by decide)
    · exact absurd hbad.1.1.1.1.2 (by decide)
  | invokestatic idx =>
    obtain ⟨hm, hs⟩ := ie_is_inv hs
    simp only [] at hm
    subst hm
    obtain ⟨n, dp, b, sp, a, q, n0, f, n1, g, rfl, ha, hbb, ⟨⟨h1, h2, h3⟩, h4, h5, h6⟩, rfl⟩ := ie_cp_inv hs
    simp only [ie_ck, Bool.and_eq_true, Bool.or_eq_true, decide_eq_true_eq] at hck
    obtain ⟨hl, hck⟩ := hck
    subst hl
    rcases hck with ⟨-, hw⟩ | hbad
    · refine ie_skW (sk' := .int n :: .int dp :: .ref (b0 + b) :: .int sp :: .ref (b0 + a) :: q.map (ie_cv b0 scr)) (by simp only [List.map_cons, ie_cv, ie_ad_lt (Nat.le_of_lt hSl) ha, ie_ad_lt (Nat.le_of_lt hSl) hbb]) ?_
      have hnw : nativeFrameWords "java/lang/System" "arraycopy" 5 ≤ 60 := by decide
      exact va_copyi hx hb (hml.trans hlo.1.symm) hown (gW.at hw rfl args) (gW _ ie_ac1 rfl args) (gW _ ie_ac2 rfl args) (gW _ ie_ac3 rfl args) gK hP hD hS a b 0 0 (ie_ws_get ha) (ie_ws_get hbb) (ie_ty_get rfl) (ie_ty_get rfl) rfl (ie_nn h1) (ie_nn h2) (ie_nn h3) h4 h5 (fun i _ => rfl) hRf (by rw [ie_cat_cv]; omega) hdg (fun H1 locs1 hP1 _ hS1 => kk H1 locs1 cells slots sl (hRl.upd (cc' := .inl (0, n1, .inl (va_cpy f g sp.toNatClampNeg dp.toNatClampNeg n.toNatClampNeg))) hbb rfl hP1 hS1))
    · exact absurd hbad.1.1.2 (by decide)
  | ldc_w idx =>
    simp only [ie_ck, Bool.and_eq_true, decide_eq_true_eq] at hck
    obtain ⟨hl, hw⟩ := hck
    subst hl; obtain rfl := ie_nx_inj hs
    exact lv_ldcw hx hb hown (gW.at hw rfl args) hdg (kk H locs cells slots sl hRl)
  | ldc2_w idx =>
    simp only [ie_ck, Bool.and_eq_true, decide_eq_true_eq] at hck
    obtain ⟨hl, hw⟩ := hck
    subst hl; obtain rfl := ie_nx_inj hs
    exact lv_ldc2 hx hb hown (gW.at hw rfl args) hdg (kk H locs cells slots sl hRl)
  | _ => exact Bool.noConfusion hin
end IEH
