theorem ie_hst : ∀ m ∈ ie_rng2, (ie_hs m).isEmpty = true ∨ (ie_st m = true ∧ (ie_y m).cls = "PlayCutterLaw") := by decide +kernel
theorem ie_tmh : ∀ m ∈ ie_tm, (ie_hs m).isEmpty = true := by decide +kernel
def ie_nn9 (w : Jvm.Cond) : Bool := match w with
  | .methodLinkNest _ _ y _ => decide (y.cls ≠ "PlayCutterLaw")
  | _ => true
set_option maxRecDepth 100000 in
theorem ie_nest9 : lw_tbl.all ie_nn9 = true := by decide +kernel
def ie_hck (m : Nat) (y : Nat × Nat × Nat × Nat × Nat × Nat) : Bool := decide (y.2.2.2.1 ≠ 0) && decide (11 ≤ y.2.2.2.2.1 ∧ y.2.2.2.2.1 < 16) && decide (lw_tbl[y.2.2.2.2.2]? = some (Jvm.Cond.classLink (ie_oname (ie_info m).1.1) y.2.2.2.1 (ie_q y.2.2.2.2.1).1))
set_option maxRecDepth 100000 in
theorem ie_hall : ∀ m ∈ ie_rng, (ie_hs m).all (ie_hck m) = true := by decide +kernel
theorem ie_q0 : ∀ ci, 11 ≤ ci → ci < 16 → (ie_q ci).2.2 = 0
  | 0, h, _ => absurd h (by omega)
  | 1, h, _ => absurd h (by omega)
  | 2, h, _ => absurd h (by omega)
  | 3, h, _ => absurd h (by omega)
  | 4, h, _ => absurd h (by omega)
  | 5, h, _ => absurd h (by omega)
  | 6, h, _ => absurd h (by omega)
  | 7, h, _ => absurd h (by omega)
  | 8, h, _ => absurd h (by omega)
  | 9, h, _ => absurd h (by omega)
  | 10, h, _ => absurd h (by omega)
  | 11, _, _ => rfl
  | 12, _, _ => rfl
  | 13, _, _ => rfl
  | 14, _, _ => rfl
  | 15, _, _ => rfl
  | n + 16, _, h => absurd h (by omega)
theorem ie_npok0 : ∀ a ∈ ([11, 12, 13, 14, 15] : List Nat), ∀ b ∈ ([11, 12, 13, 14, 15] : List Nat), a = b ∨ ie_np.contains ((ie_q a).1, (ie_q b).1) = true := by decide +kernel
theorem ie_npok (a : Nat) (h1 : 11 ≤ a) (h2 : a < 16) (b : Nat) (h3 : 11 ≤ b) (h4 : b < 16) (h5 : a ≠ b) : ((ie_q a).1, (ie_q b).1) ∈ ie_np := by
  have ha : a ∈ ([11, 12, 13, 14, 15] : List Nat) := by simp only [List.mem_cons, List.not_mem_nil, or_false]; omega
  have hb : b ∈ ([11, 12, 13, 14, 15] : List Nat) := by simp only [List.mem_cons, List.not_mem_nil, or_false]; omega
  rcases ie_npok0 a ha b hb with h | h
  · exact absurd h h5
  · simpa using h
theorem ie_ini0 : ∀ m ∈ ie_rng2, (ie_y m).name = "<init>" → ie_ret m = none := by decide +kernel
theorem ie_cst : ∀ a, 11 ≤ a → a < 16 → Jvm.Cond.castable (ie_q a).1 (ie_q a).1 ∈ lw_tbl
  | 0, h, _ => absurd h (by omega)
  | 1, h, _ => absurd h (by omega)
  | 2, h, _ => absurd h (by omega)
  | 3, h, _ => absurd h (by omega)
  | 4, h, _ => absurd h (by omega)
  | 5, h, _ => absurd h (by omega)
  | 6, h, _ => absurd h (by omega)
  | 7, h, _ => absurd h (by omega)
  | 8, h, _ => absurd h (by omega)
  | 9, h, _ => absurd h (by omega)
  | 10, h, _ => absurd h (by omega)
  | 11, _, _ => List.mem_of_getElem? (i := 455) (by decide +kernel)
  | 12, _, _ => List.mem_of_getElem? (i := 719) (by decide +kernel)
  | 13, _, _ => List.mem_of_getElem? (i := 734) (by decide +kernel)
  | 14, _, _ => List.mem_of_getElem? (i := 827) (by decide +kernel)
  | 15, _, _ => List.mem_of_getElem? (i := 854) (by decide +kernel)
  | n + 16, _, h => absurd h (by omega)
theorem ie_tmm {m' : Nat} (h : ie_tm.contains m' = true) : (ie_hs m').isEmpty = true := ie_tmh m' (by simpa using h)
theorem ie_lo.clr {b0 scr : Nat} {lg : List Nat} {nL : Nat} {ls : ie_L} {sl sl' : Array Slot} {i : Nat} {x : Value} (h : ie_lo b0 scr lg nL ls sl) (h1 : ∀ j ∈ lg, j + 1 ≠ i)
    (h' : lv_has sl' nL ((i, x) :: (ie_lv b0 scr ls).filter (fun q => !(q.1 == i) && !(q.1 + 1 == i && q.2.category == 2)))) : ie_lo b0 scr lg nL (ls.set i none) sl' := by
  obtain ⟨e1, e2, e3, e4, e5⟩ := h
  obtain ⟨f1, f2, f3⟩ := h'
  have key : ∀ (j : Nat) (v : Value), (ls.set i none)[j]? = some (some v) → j ≠ i ∧ ls[j]? = some (some v) := by
    intro j v hj
    rw [List.getElem?_set] at hj
    by_cases hij : i = j
    · subst hij
      rw [if_pos rfl] at hj
      by_cases hl : i < ls.length
      · rw [if_pos hl] at hj; cases hj
      · rw [if_neg hl] at hj; cases hj
    · rw [if_neg hij] at hj; exact ⟨fun z => hij z.symm, hj⟩
  refine ⟨f1, by rw [List.length_set]; exact e2, f2, fun j v hj => ?_, fun j v hj hv => e5 j v (key j v hj).2 hv⟩
  obtain ⟨hne, hj⟩ := key j v hj
  refine f3 (j, ie_cv b0 scr v) (List.mem_cons_of_mem _ (List.mem_filter.mpr ⟨ie_lv_mem hj, ?_⟩))
  have a1 : (j == i) = false := by simpa using hne
  simp only [a1, Bool.not_false, Bool.true_and]
  by_cases hj1 : j + 1 = i
  · by_cases hcat : v.category = 2
    · exact absurd hj1 (h1 j (e5 j v hj hcat))
    · rw [ie_cv_cat]; simp [hcat]
  · simp [hj1]
theorem ie_map_o {b0 scr : Nat} (v : Option Value) (rest : List Value) : (v.map (ie_cv b0 scr)).toList ++ rest.map (ie_cv b0 scr) = (v.toList ++ rest).map (ie_cv b0 scr) := by
  cases v <;> rfl
section IEZ
variable {p : Program} {l : Launch} {e : Env} {R : Room} {s : State} {mid : MethodId} {args : Array Value} {below : List Frame} {meth : Method} {c : Code} {H : Heap} {locs : List Loc} {cells slots : Nat} {Q : State → Prop}
variable {D : va_G} {kA : Nat → ClassId} {b0 scr z0 m : Nat} {X : ie_X} {sl : Array Slot} {pc len : Nat} {ls : ie_L} {st : List Value} {h : ie_H}
set_option maxHeartbeats 2000000 in
theorem ie_thr {idx ci r2 w mc ms : Nat} {Qc : Array Value → State → Outcome → State → Prop} (hl : l.stackTraces = false) (Cx : ie_Cx p s mid meth c m) (htab : c.exceptionTable.toList = tableOf (ie_h4 m)) (G : ie_G D kA b0 scr X s s.heap) (hm : m < 223) (hat : ie_at m pc = some ((.new idx, len), (ci, r2, w))) (hlen : len = 3) (h16 : ci < 16) (hw : lw_tbl[w]? = some (Jvm.Cond.classLink (ie_oname (ie_info m).1.1) idx (ie_q ci).1)) (hci : ¬ ci < 11) (hcat : ie_cat st ≤ 8)
    (hRl : ie_Rl D kA b0 scr s z0 m ls h H locs cells slots sl) (hRc : cells + 1 ≤ R.cells) (hRs : slots + 6 ≤ R.slots) (hRf : 8 ≤ R.frames) (hRo : 100 ≤ R.locals) (hmc : cells + 1 ≤ mc) (hms : slots + 6 ≤ ms) :
    W p l e R s mid args below meth c H locs cells slots (vx_MQ below Qc (ie_Qx D kA b0 scr ci (h ++ [.inr (ci, [])])) args s mc ms (ie_A b0)) (F0 mid pc sl (st.map (ie_cv b0 scr))) := by
  obtain ⟨gW, gK, gA, gN, gU, gS, gX, gsc, gb⟩ := id G
  refine ie_szW gb hRl (fun hsz => ?_)
  obtain ⟨hx, hb, hml, hown, hlocks, hret, hini⟩ := Cx
  obtain ⟨hP, hS, hz, hsl, hlo⟩ := hRl
  subst hlen
  have htk := ie_tall m (ie_in_rng m hm)
  rw [List.all_eq_true] at htk
  have ht := htk _ (ie_at_mem hat)
  simp only [ie_tck, Bool.or_eq_true, Bool.and_eq_true, decide_eq_true_eq] at ht
  rcases ht with ht | ⟨⟨⟨⟨ho, hhe⟩, hd3⟩, hd4⟩, hd7⟩
  · exact absurd ht hci
  obtain ⟨hfit, hatw⟩ := ie_exall ci (by omega) h16
  have e0 : ie_oname (ie_info m).1.1 = "PlayCutter" := by rw [ho]; rfl
  rw [e0] at hown hw
  have htb : c.exceptionTable.toList = [] := htab.trans (ie_h4_nil hhe)
  obtain ⟨ini, -, hk⟩ := ie_kall m hm
  have hcls : s.vm.findClass (ie_q ci).1 = some (D.1 ci) := (gK.1 ci _ (ie_cl_get ci h16)).2.1
  refine ie_throw0 (names := ie_up) (ik := idx) (ic := ie_ic ci) (A := ie_A b0) hx hb hl hown hfit (by decide +kernel) (gW.at hw rfl args) (gW _ (ie_insok ci h16).2 rfl args) (fun w hw => gW w (hatw w hw).1 (hatw w hw).2.1 args) ?_ gU gS hS (hlo.1.trans hml.symm) (hk _ (ie_at_mem hat)).1 (ie_dec hm hd3) (ie_dec hm hd4) (ie_dec hm hd7) (fun x hx => by rw [htb] at hx; cases hx) (by show 2 + 3 < _; omega) (by rw [ie_cat_cv]; show _ + (13 * (2 + 1) + 42) ≤ _; omega) hRc hRs hlocks ?_ hS.2.2 hmc hms
  · intro w hw
    rcases List.mem_cons.mp hw with rfl | hw
    · rfl
    · rcases List.mem_cons.mp hw with rfl | hw
      · rfl
      · exact (hatw w hw).2.2
  · intro t ce hal hz1 hq hce hcv hcl
    refine ⟨rfl, ?_, ⟨Nat.le_trans hS.1 hz1, fun q h1 h2 => (hq q (Nat.lt_of_lt_of_le h1 hS.1)).trans (hS.2.1 q h1 h2)⟩⟩
    rw [ie_ws_push]
    refine (hP.kept (fun k q hk => hq q.1 (hP k q hk).lt)).app (fun k q hk => ?_)
    have hk0 : k = 0 := by
      have := (List.getElem?_eq_some_iff.mp hk).1
      simp at this
      exact this
    subst hk0
    cases hk
    refine ⟨ie_q ci, ie_cl_get ci h16, ce, by rw [← hsz]; exact hce, ?_, hcv, fun k hk => ?_⟩
    · exact Option.some.inj (hcl.symm.trans hcls)
    · rw [ie_q0 ci (by omega) h16] at hk; omega
theorem ie_catchW {ci t t' : Nat} {ls' : ie_L} {q : Addr} {ce : Cell} {rest : List Value} (Cx : ie_Cx p s mid meth c m) (htab : c.exceptionTable.toList = tableOf (ie_h4 m)) (G : ie_G D kA b0 scr X s s.heap) (hm : m < 223) (hhd : ie_hd m pc ci = some t) (hca : ie_ca m t ls = some (t', ls'))
    (hce : H[q]? = some ce) (hcv : ce.vm = .none) (hcl : s.vm.findClass (ie_q ci).1 = some ce.cls) (hlo : ie_lo b0 scr (ie_lg m) (ie_mx m) ls sl)
    (kk : ∀ sl1 : Array Slot, ie_lo b0 scr (ie_lg m) (ie_mx m) ls' sl1 → W p l e R s mid args below meth c H locs cells slots Q (F0 mid t' sl1 [])) : vx_W p l e R s mid args below meth c H locs cells slots Q (F0 mid pc sl rest) q := by
  obtain ⟨gW, gK, gA, gN, gU, gS, gX, gsc, gb⟩ := G
  obtain ⟨hx, hb, hml, hown, hlocks, hret, hini⟩ := Cx
  unfold ie_hd at hhd
  cases hf : (ie_hs m).find? (fun x => decide (x.1 ≤ pc) && decide (pc < x.2.1) && x.2.2.2.2.1 == ci) with
  | none => rw [hf] at hhd; cases hhd
  | some y =>
    rw [hf] at hhd
    have ht : y.2.2.1 = t := Option.some.inj hhd
    have hall := ie_hall m (ie_in_rng m hm)
    rw [List.all_eq_true] at hall
    have hck : ∀ z ∈ ie_hs m, z.2.2.2.1 ≠ 0 ∧ (11 ≤ z.2.2.2.2.1 ∧ z.2.2.2.2.1 < 16) ∧ lw_tbl[z.2.2.2.2.2]? = some (Jvm.Cond.classLink (ie_oname (ie_info m).1.1) z.2.2.2.1 (ie_q z.2.2.2.2.1).1) := fun z hz => by
      have := hall z hz
      simp only [ie_hck, Bool.and_eq_true, decide_eq_true_eq] at this
      exact ⟨this.1.1, this.1.2, this.2⟩
    obtain ⟨hpy, pre, suf, hsp, hpre⟩ := List.find?_eq_some_iff_append.mp hf
    simp only [Bool.and_eq_true, decide_eq_true_eq, beq_iff_eq] at hpy
    have hym : y ∈ ie_hs m := by rw [hsp]; simp
    obtain ⟨y0, y1, y2⟩ := hck y hym
    rw [hpy.2] at y1 y2
    have hsplit : c.exceptionTable.toList = tableOf (pre.map (fun x => (x.1, x.2.1, x.2.2.1, x.2.2.2.1))) ++ (⟨y.1, y.2.1, y.2.2.1, y.2.2.2.1⟩ : ExceptionTableEntry) :: tableOf (suf.map (fun x => (x.1, x.2.1, x.2.2.1, x.2.2.2.1))) := by
      rw [htab]; unfold ie_h4 tableOf; rw [hsp]; simp
    refine vx_catch (E := (ie_q ci).1) (name := (ie_q ci).1) hown _ _ _ hsplit (fun z hz => ?_) (by simp [covers, hpy.1.1, hpy.1.2]) y0 (gW.at y2 rfl args) (gW _ (ie_cst ci y1.1 y1.2) rfl args) hce hcv hcl ?_
    · unfold tableOf at hz
      rw [List.map_map] at hz
      obtain ⟨x, hx1, rfl⟩ := List.mem_map.mp hz
      have hxm : x ∈ ie_hs m := by rw [hsp]; simp [hx1]
      obtain ⟨x0, x1, x2⟩ := hck x hxm
      have hnp := hpre x hx1
      by_cases hcov : x.1 ≤ pc ∧ pc < x.2.1
      · refine Or.inr ⟨x0, (ie_q x.2.2.2.2.1).1, gW.at x2 rfl args, ?_⟩
        have hne : ci ≠ x.2.2.2.2.1 := fun e9 => by
          simp [hcov.1, hcov.2, e9] at hnp
        exact gN _ (ie_npok ci y1.1 y1.2 _ x1.1 x1.2 hne)
      · refine Or.inl ?_
        simp only [Function.comp, covers]
        by_cases h1 : x.1 ≤ pc
        · have h2 : ¬ pc < x.2.1 := fun z9 => hcov ⟨h1, z9⟩
          simp [h1, h2]
        · simp [h1]
    · show W p l e R s mid args below meth c H locs cells slots Q (F0 mid y.2.2.1 sl [.ref q])
      rw [ht]
      unfold ie_ca at hca
      obtain ⟨ini, -, hk⟩ := ie_kall m hm
      split at hca
      · rename_i k ln rr hat
        cases hca
        obtain ⟨hdc, hc9⟩ := hk _ (ie_at_mem hat)
        simp only [ie_ck, Bool.and_eq_true, decide_eq_true_eq] at hc9
        obtain ⟨hl1, hk1⟩ := hc9
        obtain ⟨k1, k2⟩ := ie_stk_spec hk1
        subst hl1
        exact lv_astore_n hx hb hdc rfl hlo.has k1 rfl (fun sl1 h1 => kk sl1 (hlo.clr k2 h1))
      · rename_i k ln rr hat
        cases hca
        obtain ⟨hdc, hc9⟩ := hk _ (ie_at_mem hat)
        simp only [ie_ck, Bool.and_eq_true, decide_eq_true_eq] at hc9
        obtain ⟨hl1, hk1⟩ := hc9
        obtain ⟨k1, k2⟩ := ie_stk_spec hk1
        subst hl1
        exact lv_astore hx hb hdc hlo.has k1 rfl (fun sl1 h1 => kk sl1 (hlo.clr k2 h1))
      · cases hca
end IEZ
