def ie_sz (c : ie_C) : Nat := match c with
  | .inl (_, n, _) => n
  | .inr (ci, _) => if ci < 11 then (ie_q ci).2.2 else 6
def ie_sm (h : ie_H) : Nat := (h.map ie_sz).sum
theorem ie_sm_push (h : ie_H) (c : ie_C) : ie_sm (h ++ [c]) = ie_sm h + ie_sz c := by unfold ie_sm; simp
theorem ie_sm_set {h : ie_H} {a : Nat} {c c' : ie_C} (ha : h[a]? = some c) (he : ie_sz c' = ie_sz c) : ie_sm (h.set a c') = ie_sm h := by
  have key : (h.set a c').map ie_sz = h.map ie_sz := by
    apply List.ext_getElem?
    intro j
    rw [List.getElem?_map, List.getElem?_map, List.getElem?_set]
    by_cases hj : a = j
    · subst hj
      rw [if_pos rfl, ha]
      by_cases hl : a < h.length
      · rw [if_pos hl]; exact congrArg some he
      · exact absurd (List.getElem?_eq_some_iff.mp ha).1 hl
    · rw [if_neg hj]
  unfold ie_sm; rw [key]
def ie_Cx (p : Program) (s : State) (mid : MethodId) (meth : Method) (c : Code) (m : Nat) : Prop :=
  p.tables.exec = Jvm.exec ∧ c.code = ie_by m ∧ c.maxLocals = ie_mx m ∧ s.vm.findClass (ie_oname (ie_info m).1.1) = some mid.cls ∧ meth.locks = false ∧ meth.sig.returnType = ie_ret m ∧ ((ie_y m).name = "<init>" → meth.name = "<init>")
def ie_Rl (D : va_G) (kA : Nat → ClassId) (b0 scr : Nat) (s : State) (z0 m : Nat) (ls : ie_L) (h : ie_H) (H : Heap) (locs : List Loc) (cells slots : Nat) (sl : Array Slot) : Prop :=
  va_P D ie_cl (ie_ws b0 scr kA h) H ∧ va_S (ie_A b0) s.heap H locs ∧ s.heap.size + cells = b0 + h.length ∧ z0 + slots = ie_sm h ∧ ie_lo b0 scr (ie_lg m) (ie_mx m) ls sl
theorem ie_ad_lt {b0 scr a : Nat} {h : ie_H} {c : ie_C} (hS : h.length ≤ ie_S) (ha : h[a]? = some c) : ie_ad b0 scr a = b0 + a := by
  have := (List.getElem?_eq_some_iff.mp ha).1
  unfold ie_ad; rw [if_neg (by omega)]
theorem ie_stk_spec {mx k : Nat} {lg : List Nat} (h : ie_stk mx lg k = true) : k < mx ∧ ∀ j ∈ lg, j + 1 ≠ k := by
  unfold ie_stk at h
  simp only [Bool.and_eq_true, decide_eq_true_eq, Bool.not_eq_true'] at h
  refine ⟨h.1.1, fun j hj e => ?_⟩
  have h2 := h.1.2
  rw [List.any_eq_false] at h2
  exact h2 j hj (by simp [e])
theorem ie_cv_rf {b0 scr : Nat} (o : Option Nat) : ie_cv b0 scr (va_rf o) = va_rf (o.map (ie_ad b0 scr)) := by cases o <;> rfl
theorem ie_c1_cat {b0 scr : Nat} {v : Value} (h : ie_c1 v = true) : (ie_cv b0 scr v).category = 1 := by cases v <;> first | rfl | cases h
section IES
variable {p : Program} {l : Launch} {e : Env} {R : Room} {s : State} {mid : MethodId} {args : Array Value} {below : List Frame} {meth : Method} {c : Code} {H : Heap} {locs : List Loc} {cells slots : Nat} {Q : State → Prop}
variable {D : va_G} {kA : Nat → ClassId} {b0 scr z0 m : Nat} {X : ie_X} {sl : Array Slot} {pc len : Nat} {ls : ie_L} {st : List Value} {h : ie_H}
theorem ie_pcW {a b : Nat} {sk : List Value} (e1 : a = b) (k : W p l e R s mid args below meth c H locs cells slots Q (F0 mid b sl sk)) : W p l e R s mid args below meth c H locs cells slots Q (F0 mid a sl sk) := e1 ▸ k
theorem ie_skW {a : Nat} {sk sk' : List Value} (e1 : sk = sk') (k : W p l e R s mid args below meth c H locs cells slots Q (F0 mid a sl sk')) : W p l e R s mid args below meth c H locs cells slots Q (F0 mid a sl sk) := e1 ▸ k
theorem ie_szW {g : JFrame} (hb0 : b0 ≤ s.heap.size) (hRl : ie_Rl D kA b0 scr s z0 m ls h H locs cells slots sl) (k : H.size = b0 + h.length → W p l e R s mid args below meth c H locs cells slots Q g) : W p l e R s mid args below meth c H locs cells slots Q g := by
  intro T hT Y
  refine k ?_ T hT Y
  obtain ⟨hP, hS, hz, -, -⟩ := hRl
  have h1 := Y.heapSize
  rw [hT] at h1
  have h2 : b0 + h.length ≤ H.size := by
    by_cases he : h.length = 0
    · have := hS.1; omega
    · have hl : h.length - 1 < h.length := by omega
      have hq : h[h.length - 1]? = some h[h.length - 1] := List.getElem?_eq_getElem hl
      have := (hP _ _ (ie_ws_get (b0 := b0) (scr := scr) (kA := kA) hq)).lt
      simp only at this
      omega
  omega
theorem ie_off {pc : Nat} {d x : Int} : ∀ {q : List (Int × Int)}, 0 ≤ (pc : Int) + d → (∀ o ∈ q, 0 ≤ (pc : Int) + o.2) → 0 ≤ (pc : Int) + Op.lookupswitch.offset q d x
  | [], h, _ => by simpa [Op.lookupswitch.offset] using h
  | (a, o) :: r, h, hq => by
    rw [Op.lookupswitch.offset_cons]
    split
    · exact hq (a, o) List.mem_cons_self
    · exact ie_off h (fun z hz => hq z (List.mem_cons_of_mem _ hz))
abbrev ie_KK (p : Program) (l : Launch) (e : Env) (R : Room) (s : State) (mid : MethodId) (args : Array Value) (below : List Frame) (meth : Method) (c : Code) (Q : State → Prop) (D : va_G) (kA : Nat → ClassId) (b0 scr z0 m : Nat) (F : ie_F) : Prop :=
  ∀ (H1 : Heap) (locs1 : List Loc) (cells1 slots1 : Nat) (sl1 : Array Slot), ie_Rl D kA b0 scr s z0 m F.2.1 F.2.2.2 H1 locs1 cells1 slots1 sl1 → W p l e R s mid args below meth c H1 locs1 cells1 slots1 Q (F0 mid F.1 sl1 (F.2.2.1.map (ie_cv b0 scr)))
set_option maxHeartbeats 4000000 in
theorem ie_next1 {i : Instr} {r : Nat × Nat × Nat} {ini : Bool} {F : ie_F} (Cx : ie_Cx p s mid meth c m) (G : ie_G D kA b0 scr X s s.heap) (hdg : decode (ie_by m) pc = .ok (i, len)) (hck : ie_ck m (ie_oname (ie_info m).1.1) ini (pc, (i, len), r) = true)
    (hs : ie_step X m i r pc ls st h = some (.inl F)) (hRl : ie_Rl D kA b0 scr s z0 m ls h H locs cells slots sl) (kk : ie_KK p l e R s mid args below meth c Q D kA b0 scr z0 m F)
    (rest : ie_hi i = true → W p l e R s mid args below meth c H locs cells slots Q (F0 mid pc sl (st.map (ie_cv b0 scr)))) :
    W p l e R s mid args below meth c H locs cells slots Q (F0 mid pc sl (st.map (ie_cv b0 scr))) := by
  obtain ⟨hx, hb, hml, hown, hlocks, hret, hini⟩ := Cx
  obtain ⟨r1, r2, w⟩ := r
  have hlo := hRl.2.2.2.2
  have hlv := hlo.2.2.2.1
  cases i with
  | iconst n =>
    have hl : len = 1 := of_decide_eq_true hck
    subst hl; obtain rfl := ie_nx_inj hs
    exact lv_iconst hx hb hdg rfl (kk H locs cells slots sl hRl)
  | bipush n =>
    have hl : len = 2 := of_decide_eq_true hck
    subst hl; obtain rfl := ie_nx_inj hs
    exact lv_bipush hx hb hdg rfl (kk H locs cells slots sl hRl)
  | sipush n =>
    have hl : len = 3 := of_decide_eq_true hck
    subst hl; obtain rfl := ie_nx_inj hs
    exact lv_sipush hx hb hdg rfl (kk H locs cells slots sl hRl)
  | lconst n =>
    have hl : len = 1 := of_decide_eq_true hck
    subst hl; obtain rfl := ie_nx_inj hs
    exact lv_lconst hx hb hdg rfl (kk H locs cells slots sl hRl)
  | aconst_null =>
    have hl : len = 1 := of_decide_eq_true hck
    subst hl; obtain rfl := ie_nx_inj hs
    exact lv_null hx hb hdg (kk H locs cells slots sl hRl)
  | iload k =>
    have hl : len = 2 := of_decide_eq_true hck
    subst hl; obtain ⟨x, hx1, rfl⟩ := ie_li_inv hs
    exact lv_iload hx hb hdg (hlv _ _ hx1) (kk H locs cells slots sl hRl)
  | iload_n k =>
    have hl : len = 1 := of_decide_eq_true hck
    subst hl; obtain ⟨x, hx1, rfl⟩ := ie_li_inv hs
    exact lv_iload_n hx hb hdg rfl (hlv _ _ hx1) (kk H locs cells slots sl hRl)
  | lload_n k =>
    have hl : len = 1 := of_decide_eq_true hck
    subst hl; obtain ⟨x, hx1, rfl⟩ := ie_ll_inv hs
    exact lv_lload_n hx hb hdg rfl (hlv _ _ hx1) (kk H locs cells slots sl hRl)
  | aload k =>
    have hl : len = 2 := of_decide_eq_true hck
    subst hl
    rcases ie_la_inv hs with ⟨x, hx1, rfl⟩ | ⟨hx1, rfl⟩
    · exact lv_aload hx hb hdg (hlv _ _ hx1) (kk H locs cells slots sl hRl)
    · exact lv_aloadN hx hb hdg (hlv _ _ hx1) (kk H locs cells slots sl hRl)
  | aload_n k =>
    have hl : len = 1 := of_decide_eq_true hck
    subst hl
    rcases ie_la_inv hs with ⟨x, hx1, rfl⟩ | ⟨hx1, rfl⟩
    · exact lv_aload_n hx hb hdg rfl (hlv _ _ hx1) (kk H locs cells slots sl hRl)
    · exact lv_aload_nN hx hb hdg rfl (hlv _ _ hx1) (kk H locs cells slots sl hRl)
  | istore k =>
    simp only [ie_ck, Bool.and_eq_true, decide_eq_true_eq] at hck
    obtain ⟨hl, hk⟩ := hck
    subst hl; obtain ⟨x, q, rfl, rfl⟩ := ie_si_inv hs
    obtain ⟨k1, k2⟩ := ie_stk_spec hk
    exact lv_istore hx hb hdg hlo.has k1 rfl (fun sl1 h1 => kk H locs cells slots sl1 ⟨hRl.1, hRl.2.1, hRl.2.2.1, hRl.2.2.2.1, hlo.put (x := .int x) rfl k2 h1⟩)
  | istore_n k =>
    simp only [ie_ck, Bool.and_eq_true, decide_eq_true_eq] at hck
    obtain ⟨hl, hk⟩ := hck
    subst hl; obtain ⟨x, q, rfl, rfl⟩ := ie_si_inv hs
    obtain ⟨k1, k2⟩ := ie_stk_spec hk
    exact lv_istore_n hx hb hdg rfl hlo.has k1 rfl (fun sl1 h1 => kk H locs cells slots sl1 ⟨hRl.1, hRl.2.1, hRl.2.2.1, hRl.2.2.2.1, hlo.put (x := .int x) rfl k2 h1⟩)
  | astore k =>
    simp only [ie_ck, Bool.and_eq_true, decide_eq_true_eq] at hck
    obtain ⟨hl, hk⟩ := hck
    subst hl
    obtain ⟨k1, k2⟩ := ie_stk_spec hk
    rcases ie_sa_inv hs with ⟨x, q, rfl, rfl⟩ | ⟨q, rfl, rfl⟩
    · exact lv_astore hx hb hdg hlo.has k1 rfl (fun sl1 h1 => kk H locs cells slots sl1 ⟨hRl.1, hRl.2.1, hRl.2.2.1, hRl.2.2.2.1, hlo.put (x := .ref x) rfl k2 h1⟩)
    · exact lv_astoreN hx hb hdg hlo.has k1 rfl (fun sl1 h1 => kk H locs cells slots sl1 ⟨hRl.1, hRl.2.1, hRl.2.2.1, hRl.2.2.2.1, hlo.put (x := .null) rfl k2 h1⟩)
  | astore_n k =>
    simp only [ie_ck, Bool.and_eq_true, decide_eq_true_eq] at hck
    obtain ⟨hl, hk⟩ := hck
    subst hl
    obtain ⟨k1, k2⟩ := ie_stk_spec hk
    rcases ie_sa_inv hs with ⟨x, q, rfl, rfl⟩ | ⟨q, rfl, rfl⟩
    · exact lv_astore_n hx hb hdg rfl hlo.has k1 rfl (fun sl1 h1 => kk H locs cells slots sl1 ⟨hRl.1, hRl.2.1, hRl.2.2.1, hRl.2.2.2.1, hlo.put (x := .ref x) rfl k2 h1⟩)
    · exact lv_astore_nN hx hb hdg rfl hlo.has k1 rfl (fun sl1 h1 => kk H locs cells slots sl1 ⟨hRl.1, hRl.2.1, hRl.2.2.1, hRl.2.2.2.1, hlo.put (x := .null) rfl k2 h1⟩)
  | iinc k n =>
    simp only [ie_ck, Bool.and_eq_true, decide_eq_true_eq] at hck
    obtain ⟨hl, hk⟩ := hck
    subst hl; obtain ⟨x, hx1, rfl⟩ := ie_inc_inv hs
    obtain ⟨k1, k2⟩ := ie_stk_spec hk
    obtain ⟨j, hj⟩ := List.getElem?_of_mem (ie_lv_mem (b0 := b0) (scr := scr) hx1)
    exact lv_iinc hx hb hdg hlo.has hj rfl k1 rfl (fun sl1 h1 => kk H locs cells slots sl1 ⟨hRl.1, hRl.2.1, hRl.2.2.1, hRl.2.2.2.1, hlo.put (x := .int (x + Int32.ofInt n)) rfl k2 h1⟩)
  | iadd =>
    have hl : len = 1 := of_decide_eq_true hck
    subst hl; obtain ⟨x, y, q, rfl, rfl⟩ := ie_b_inv hs
    exact lv_iadd hx hb hdg (kk H locs cells slots sl hRl)
  | isub =>
    have hl : len = 1 := of_decide_eq_true hck
    subst hl; obtain ⟨x, y, q, rfl, rfl⟩ := ie_b_inv hs
    exact lv_isub hx hb hdg (kk H locs cells slots sl hRl)
  | imul =>
    have hl : len = 1 := of_decide_eq_true hck
    subst hl; obtain ⟨x, y, q, rfl, rfl⟩ := ie_b_inv hs
    exact lv_imul hx hb hdg (kk H locs cells slots sl hRl)
  | iand =>
    have hl : len = 1 := of_decide_eq_true hck
    subst hl; obtain ⟨x, y, q, rfl, rfl⟩ := ie_b_inv hs
    exact lv_iand hx hb hdg (kk H locs cells slots sl hRl)
  | ior =>
    have hl : len = 1 := of_decide_eq_true hck
    subst hl; obtain ⟨x, y, q, rfl, rfl⟩ := ie_b_inv hs
    exact lv_ior hx hb hdg (kk H locs cells slots sl hRl)
  | ixor =>
    have hl : len = 1 := of_decide_eq_true hck
    subst hl; obtain ⟨x, y, q, rfl, rfl⟩ := ie_b_inv hs
    exact lv_ixor hx hb hdg (kk H locs cells slots sl hRl)
  | idiv =>
    have hl : len = 1 := of_decide_eq_true hck
    subst hl; obtain ⟨x, y, q, rfl, hy, rfl⟩ := ie_d_inv hs
    exact lv_idiv hx hb hdg hy (kk H locs cells slots sl hRl)
  | irem =>
    have hl : len = 1 := of_decide_eq_true hck
    subst hl; obtain ⟨x, y, q, rfl, hy, rfl⟩ := ie_d_inv hs
    exact lv_irem hx hb hdg hy (kk H locs cells slots sl hRl)
  | ishl =>
    have hl : len = 1 := of_decide_eq_true hck
    subst hl; obtain ⟨x, y, q, rfl, rfl⟩ := ie_b_inv hs
    exact lv_ishl hx hb hdg (kk H locs cells slots sl hRl)
  | ishr =>
    have hl : len = 1 := of_decide_eq_true hck
    subst hl; obtain ⟨x, y, q, rfl, rfl⟩ := ie_b_inv hs
    exact lv_ishr hx hb hdg (kk H locs cells slots sl hRl)
  | iushr =>
    have hl : len = 1 := of_decide_eq_true hck
    subst hl; obtain ⟨x, y, q, rfl, rfl⟩ := ie_b_inv hs
    exact lv_iushr hx hb hdg rfl (kk H locs cells slots sl hRl)
  | land =>
    have hl : len = 1 := of_decide_eq_true hck
    subst hl; obtain ⟨x, y, q, rfl, rfl⟩ := ie_bl_inv hs
    exact lv_land hx hb hdg (kk H locs cells slots sl hRl)
  | lor =>
    have hl : len = 1 := of_decide_eq_true hck
    subst hl; obtain ⟨x, y, q, rfl, rfl⟩ := ie_bl_inv hs
    exact lv_lor hx hb hdg (kk H locs cells slots sl hRl)
  | lshl =>
    have hl : len = 1 := of_decide_eq_true hck
    subst hl; obtain ⟨x, y, q, rfl, rfl⟩ := ie_sl_inv hs
    exact lv_lshl hx hb hdg rfl (kk H locs cells slots sl hRl)
  | lshr =>
    have hl : len = 1 := of_decide_eq_true hck
    subst hl; obtain ⟨x, y, q, rfl, rfl⟩ := ie_sl_inv hs
    exact lv_lshr hx hb hdg rfl (kk H locs cells slots sl hRl)
  | lushr =>
    have hl : len = 1 := of_decide_eq_true hck
    subst hl; obtain ⟨x, y, q, rfl, rfl⟩ := ie_sl_inv hs
    exact lv_lushr hx hb hdg rfl (kk H locs cells slots sl hRl)
  | i2l =>
    have hl : len = 1 := of_decide_eq_true hck
    subst hl; obtain ⟨x, q, rfl, rfl⟩ := ie_u_inv hs
    exact lv_i2l hx hb hdg rfl (kk H locs cells slots sl hRl)
  | i2c =>
    have hl : len = 1 := of_decide_eq_true hck
    subst hl; obtain ⟨x, q, rfl, rfl⟩ := ie_u_inv hs
    exact lv_i2c hx hb hdg rfl (kk H locs cells slots sl hRl)
  | l2i =>
    have hl : len = 1 := of_decide_eq_true hck
    subst hl; obtain ⟨x, q, rfl, rfl⟩ := ie_ul_inv hs
    exact lv_l2i hx hb hdg rfl (kk H locs cells slots sl hRl)
  | lcmp =>
    have hl : len = 1 := of_decide_eq_true hck
    subst hl
    simp only [ie_step] at hs
    split at hs
    · obtain rfl := ie_nx_inj hs
      exact W.lcmp hx hb hdg (kk H locs cells slots sl hRl)
    · cases hs
  | goto off =>
    simp only [ie_ck, Bool.and_eq_true, decide_eq_true_eq] at hck
    obtain ⟨hl, ht⟩ := hck
    subst hl; obtain rfl := ie_nx_inj hs
    exact lv_goto hx hb hdg ht (kk H locs cells slots sl hRl)
  | ifCond cd off =>
    simp only [ie_ck, Bool.and_eq_true, decide_eq_true_eq] at hck
    obtain ⟨hl, ht⟩ := hck
    subst hl; obtain ⟨x, q, rfl, rfl⟩ := ie_i0_inv hs
    have k0 := kk H locs cells slots sl hRl
    cases cd with
    | eq => exact lv_if_eq hx hb hdg ht (fun z => ie_pcW (if_pos z).symm k0) (fun z => ie_pcW (if_neg z).symm k0)
    | ne => exact lv_if_ne hx hb hdg ht (fun z => ie_pcW (if_neg z).symm k0) (fun z => ie_pcW (if_pos z).symm k0)
    | lt => exact lv_if_lt hx hb hdg ht (fun z => ie_pcW (if_pos z).symm k0) (fun z => ie_pcW (if_neg z).symm k0)
    | ge => exact lv_if_ge hx hb hdg ht (fun z => ie_pcW (if_pos z).symm k0) (fun z => ie_pcW (if_neg z).symm k0)
    | gt => exact lv_if_gt hx hb hdg ht (fun z => ie_pcW (if_pos z).symm k0) (fun z => ie_pcW (if_neg z).symm k0)
    | le => exact lv_if_le hx hb hdg ht (fun z => ie_pcW (if_pos z).symm k0) (fun z => ie_pcW (if_neg z).symm k0)
  | if_icmp cd off =>
    simp only [ie_ck, Bool.and_eq_true, decide_eq_true_eq] at hck
    obtain ⟨hl, ht⟩ := hck
    subst hl; obtain ⟨x, y, q, rfl, rfl⟩ := ie_i2_inv hs
    have k0 := kk H locs cells slots sl hRl
    cases cd with
    | eq => exact lv_icmp_eq hx hb hdg ht (fun z => ie_pcW (if_pos z).symm k0) (fun z => ie_pcW (if_neg z).symm k0)
    | ne => exact lv_icmp_ne hx hb hdg ht (fun z => ie_pcW (if_neg z).symm k0) (fun z => ie_pcW (if_pos z).symm k0)
    | lt => exact lv_icmp_lt hx hb hdg ht (fun z => ie_pcW (if_pos z).symm k0) (fun z => ie_pcW (if_neg z).symm k0)
    | ge => exact lv_icmp_ge hx hb hdg ht (fun z => ie_pcW (if_pos z).symm k0) (fun z => ie_pcW (if_neg z).symm k0)
    | gt => exact lv_icmp_gt hx hb hdg ht (fun z => ie_pcW (if_pos z).symm k0) (fun z => ie_pcW (if_neg z).symm k0)
    | le => exact lv_icmp_le hx hb hdg ht (fun z => ie_pcW (if_pos z).symm k0) (fun z => ie_pcW (if_neg z).symm k0)
  | ifnull off =>
    simp only [ie_ck, Bool.and_eq_true, decide_eq_true_eq] at hck
    obtain ⟨hl, ht⟩ := hck
    subst hl
    rcases ie_nu_inv hs with ⟨q, rfl, rfl⟩ | ⟨a, q, rfl, rfl⟩
    · exact lv_ifnullN hx hb hdg ht (kk H locs cells slots sl hRl)
    · exact lv_ifnull hx hb hdg (kk H locs cells slots sl hRl)
  | ifnonnull off =>
    simp only [ie_ck, Bool.and_eq_true, decide_eq_true_eq] at hck
    obtain ⟨hl, ht⟩ := hck
    subst hl
    rcases ie_nu_inv hs with ⟨q, rfl, rfl⟩ | ⟨a, q, rfl, rfl⟩
    · exact lv_ifnonnullN hx hb hdg (kk H locs cells slots sl hRl)
    · exact lv_ifnonnull hx hb hdg ht (kk H locs cells slots sl hRl)
  | tableswitch d lo hi offs =>
    simp only [ie_ck, Bool.and_eq_true, decide_eq_true_eq] at hck
    obtain ⟨⟨⟨hd, hlh⟩, hsz⟩, hall⟩ := hck
    simp only [ie_step] at hs
    split at hs
    · rename_i x q
      obtain rfl := ie_nx_inj hs
      have k0 := kk H locs cells slots sl hRl
      by_cases hc : x.toInt < lo ∨ hi < x.toInt
      · exact lv_tableOut hx hb hdg hc (Int.toNat_of_nonneg hd).symm (ie_pcW (by simp only [ie_ts]; rw [if_pos hc]) k0)
      · have hi1 : (x.toInt - lo).toNat < offs.size := by omega
        have ho : offs[(x.toInt - lo).toNat]? = some offs[(x.toInt - lo).toNat] := Array.getElem?_eq_getElem hi1
        have hnn : 0 ≤ (pc : Int) + offs[(x.toInt - lo).toNat] := by
          rw [List.all_eq_true] at hall
          exact of_decide_eq_true (hall _ (Array.getElem_mem_toList hi1))
        exact lv_tableIn hx hb hdg (fun z => hc (Or.inl z)) (fun z => hc (Or.inr z)) ho (Int.toNat_of_nonneg hnn).symm (ie_pcW (by simp only [ie_ts]; rw [if_neg hc, ho]; rfl) k0)
    · cases hs
  | lookupswitch d qs =>
    simp only [ie_ck, Bool.and_eq_true, decide_eq_true_eq] at hck
    obtain ⟨⟨hd, hall⟩, hsrt⟩ := hck
    simp only [ie_step] at hs
    split at hs
    · rename_i x q
      obtain rfl := ie_nx_inj hs
      have k0 := kk H locs cells slots sl hRl
      have hnn : 0 ≤ (pc : Int) + Op.lookupswitch.offset qs.toList d x.toInt := ie_off hd (fun o ho => by
        rw [List.all_eq_true] at hall
        exact of_decide_eq_true (hall _ ho))
      exact lv_lookup hx hb hdg hsrt rfl (Int.toNat_of_nonneg hnn).symm k0
    · cases hs
  | dup =>
    have hl : len = 1 := of_decide_eq_true hck
    subst hl; obtain ⟨v, q, rfl, hc, rfl⟩ := ie_dup_inv hs
    exact lv_dup hx hb hdg (ie_c1_cat hc) (kk H locs cells slots sl hRl)
  | dup2 =>
    have hl : len = 1 := of_decide_eq_true hck
    subst hl; obtain ⟨v, w, q, rfl, hc, hd, rfl⟩ := ie_dup2_inv hs
    exact lv_dup2_11 hx hb hdg (ie_c1_cat hc) (ie_c1_cat hd) (kk H locs cells slots sl hRl)
  | pop =>
    have hl : len = 1 := of_decide_eq_true hck
    subst hl; obtain ⟨v, q, rfl, hc, rfl⟩ := ie_pop_inv hs
    exact lv_pop hx hb hdg (ie_c1_cat hc) (kk H locs cells slots sl hRl)
  | iaload | caload | baload | laload | aaload | iastore | castore | bastore | lastore | aastore | arraylength | newarray _ | anewarray _ | new _ | getfield _ | putfield _ | invokespecial _ | invokestatic _ | ldc_w _ | ldc2_w _ => exact rest rfl
  | invokevirtual _ => exact (ie_iv_no hs).elim
  | ireturn => exact (ie_rv_no hs).elim
  | lreturn => exact (ie_rv_no hs).elim
  | areturn => exact (ie_rv_no hs).elim
  | return_ => exact (ie_r0_no hs).elim
  | _ => exact nomatch hs
end IES
