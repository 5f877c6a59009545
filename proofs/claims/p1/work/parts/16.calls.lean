def ie_Pc (D : va_G) (kA : Nat → ClassId) (b0 scr : Nat) (X : ie_X) (h : ie_H) (vs : List Value) : Array Value → State → Prop := va_Pc (vs.map (ie_cv b0 scr)) (fun U => ie_G D kA b0 scr X U U.heap ∧ va_P D ie_cl (ie_ws b0 scr kA h) U.heap ∧ U.heap.size = b0 + h.length)
def ie_Qr (D : va_G) (kA : Nat → ClassId) (b0 scr : Nat) (v : Option Value) (h' : ie_H) : Array Value → State → Outcome → State → Prop := fun _ st o t => o = .returned (v.map (ie_cv b0 scr)) ∧ va_P D ie_cl (ie_ws b0 scr kA h') t.heap ∧ va_F (ie_A b0) st t
def ie_Qx (D : va_G) (kA : Nat → ClassId) (b0 scr ci : Nat) (h' : ie_H) : String → State → State → Prop := fun E st t => E = (ie_q ci).1 ∧ va_P D ie_cl (ie_ws b0 scr kA h') t.heap ∧ va_F (ie_A b0) st t
def ie_rm (d mc ms : Nat) : Room := { frames := d + 8, cells := mc, slots := ms, locals := 100 + 60 * d }
def ie_ri (k : Nat) : Instr := if k = 0 then .ireturn else if k = 1 then .lreturn else if k = 2 then .areturn else .return_
def ie_vok (k m : Nat) (v : Option Value) : Prop := (k < 3 ∧ ∃ w ty, v = some w ∧ ie_ret m = some ty ∧ ie_kv k w = true ∧ ie_fitb ty w = true) ∨ (k = 3 ∧ v = none ∧ ie_ret m = none)
def ie_wc (m : Nat) : List Jvm.Cond := [Jvm.Cond.code (ie_y m) (ie_by m) (ie_mx m) (ie_ret m)]
def ie_wh (m : Nat) : List Jvm.Cond := [Jvm.Cond.codeWith (ie_y m) (ie_by m) (ie_mx m) (ie_ret m) (ie_h4 m)]
theorem ie_Pc_blind {D : va_G} {kA : Nat → ClassId} {b0 scr : Nat} {X : ie_X} {h : ie_H} {vs : List Value} : FrameBlind (ie_Pc D kA b0 scr X h vs) := by
  intro a U g mk hq
  obtain ⟨q0, q1, q2, q3⟩ := hq
  exact ⟨q0, q1.go (U := U.calling g mk a) (State.WarmedH.refl U) (Nat.le_refl _) (fun _ _ _ => rfl), q2, q3⟩
theorem ie_mck_spec {m : Nat} (hm : m < 222) : plainName (ie_y m).cls = true ∧ ie_mh m ∧ (ie_y m).cls = ie_oname (ie_info m).1.1 ∧ ie_mx m ≤ 20 ∧
    lw_tbl[(ie_wd m).1]? = some (if (ie_hs m).isEmpty then Jvm.Cond.code (ie_y m) (ie_by m) (ie_mx m) (ie_ret m) else Jvm.Cond.codeWith (ie_y m) (ie_by m) (ie_mx m) (ie_ret m) (ie_h4 m)) ∧
    lw_tbl[(ie_wd m).2.1]? = some (if ie_st m then Jvm.Cond.static (ie_y m) else Jvm.Cond.instanceMethod (ie_y m)) ∧
    ((ie_st m = true ∨ (ie_y m).name = "<init>") ∨ (lw_tbl[(ie_wd m).2.2.1]? = some (Jvm.Cond.selects (ie_y m).cls (ie_y m) (ie_y m)) ∧ (ie_y m).cls = (ie_q (ie_info m).1.1).1 ∧ (ie_info m).1.1 < 11)) ∧
    lw_tbl[(ie_wd m).2.2.2]? = some (Jvm.Cond.initialized (ie_y m).cls) := by
  have h := ie_mall m hm
  unfold ie_mck at h
  simp only [Bool.and_eq_true, Bool.or_eq_true, decide_eq_true_eq] at h
  obtain ⟨⟨⟨⟨⟨⟨⟨h1, h2⟩, h3⟩, h4⟩, h5⟩, h6⟩, h7⟩, h8⟩ := h
  refine ⟨h1, h2, h3, h4, h5, h6, ?_, h8⟩
  rcases h7 with h7 | h7
  · exact Or.inl h7
  · exact Or.inr ⟨h7.1.1, h7.1.2, h7.2⟩
section IEC
variable {p : Program} {l : Launch} {e : Env} {R : Room} {s : State} {mid : MethodId} {args : Array Value} {below : List Frame} {meth : Method} {c : Code} {H : Heap} {locs : List Loc} {cells slots : Nat} {Q : State → Prop}
variable {D : va_G} {kA : Nat → ClassId} {b0 scr z0 m : Nat} {X : ie_X} {sl : Array Slot} {pc : Nat} {mc ms : Nat} {rest st0 : List Value} {a : Array Value} {h' : ie_H}
theorem ie_callR {v : Option Value} (hr : va_Run p l e R s mid args below meth c H locs cells slots mc ms (F0 mid pc sl st0) rest (ie_Qr D kA b0 scr v h' a) (ie_A b0)) (hS : va_S (ie_A b0) s.heap H locs)
    (kk : ∀ (H1 : Heap) (locs1 : List Loc), va_P D ie_cl (ie_ws b0 scr kA h') H1 → va_S (ie_A b0) s.heap H1 locs1 → W p l e R s mid args below meth c H1 locs1 (cells + mc) (slots + ms) Q (F0 mid (pc + 3) sl ((v.map (ie_cv b0 scr)).toList ++ rest))) : W p l e R s mid args below meth c H locs cells slots Q (F0 mid pc sl st0) := by
  intro T hT Y
  obtain ⟨v', st₀, t, T', L, h0, X', hL, e1, e2, ⟨hv, hp, hF⟩, st⟩ := hr T hT Y
  obtain ⟨k1, k2, k3⟩ := vx_keep h0 e1 hS (fun q _ hq => hq) (fun q hq => hq) hL hF
  have hv' : v' = v.map (ie_cv b0 scr) := Outcome.returned.inj hv
  subst hv'
  obtain ⟨t2, a1, b1⟩ := kk T'.heap (locs ++ L) (by rw [e1]; exact hp) k3 T' rfl X'
  exact ⟨t2, st t2 a1, b1⟩
theorem ie_callX {ci : Nat} (hr : vx_Run p l e R s mid args below meth c H locs cells slots mc ms (F0 mid pc sl st0) rest (fun _ _ _ => False) (ie_Qx D kA b0 scr ci h') (ie_A b0)) (hS : va_S (ie_A b0) s.heap H locs)
    (kk : ∀ (H1 : Heap) (locs1 : List Loc) (q : Addr) (ce : Cell), va_P D ie_cl (ie_ws b0 scr kA h') H1 → va_S (ie_A b0) s.heap H1 locs1 → H1[q]? = some ce → ce.vm = .none → s.vm.findClass (ie_q ci).1 = some ce.cls → vx_W p l e R s mid args below meth c H1 locs1 (cells + mc) (slots + ms) Q (F0 mid pc sl rest) q) : W p l e R s mid args below meth c H locs cells slots Q (F0 mid pc sl st0) := by
  intro T hT Y
  rcases hr T hT Y with ⟨v', st₀, t, T', L, h0, X', hL, e1, e2, hbad, st⟩ | ⟨q, st₀, t, T', L, E, ce, h0, X', hL, e1, e2, ⟨hE, hp, hF⟩, hce, hcv, hcl, st⟩
  · exact hbad.elim
  · subst hE
    obtain ⟨k1, k2, k3⟩ := vx_keep h0 e1 hS (fun q _ hq => hq) (fun q hq => hq) hL hF
    obtain ⟨t2, a1, b1⟩ := kk T'.heap (locs ++ L) q ce (by rw [e1]; exact hp) k3 (by rw [e1]; exact hce) hcv hcl T' rfl X'
    exact ⟨t2, st.trans a1, b1⟩
theorem ie_cb (G : ie_G D kA b0 scr X s s.heap) {m' n d index : Nat} {own : String} (hm : m' < 222) (hh : (ie_hs m').isEmpty = true) (hn : ie_n m' n) (hl : (Jvm.Cond.methodLink own index (ie_y m')).before args s = true) (hF : d + 9 ≤ R.frames) (hL : 160 + 60 * d ≤ R.locals) :
    CallB R s args own index (ie_y m') (ie_by m') (ie_mx m') (ie_ret m') (ie_wc m') (ie_rm d mc ms) mc ms n := by
  obtain ⟨h1, h2, h3, h4, h5, h6, h7, h8⟩ := ie_mck_spec hm
  rw [if_pos hh] at h5
  refine ⟨rfl, rfl, by show d + 8 + 1 ≤ _; omega, by show 8 + (ie_mx m' + 11) + (100 + 60 * d) ≤ _; omega, fun w hw a' U hW => ?_, List.mem_cons_self, G.1.at h5 rfl args, G.1.at h8 rfl args, h2, fun sig hs => ?_, hl⟩
  · have : w = Jvm.Cond.code (ie_y m') (ie_by m') (ie_mx m') (ie_ret m') := List.mem_singleton.mp hw
    rw [this]
    exact (G.1.warm hW).at h5 rfl a'
  · have h9 : (parseMethodDescriptor (ie_y m').desc).map (fun d => d.parameters.length) = some n := hn
    rw [hs] at h9
    exact (Option.some.inj h9).symm
theorem ie_cn (G : ie_G D kA b0 scr X s s.heap) {m' n d index : Nat} {own : String} (hm : m' < 222) (hh : (ie_hs m').isEmpty = true) (hn : ie_n m' n) (hl : (Jvm.Cond.methodLinkNest own index (ie_y m') "PlayCutter").before args s = true) (hF : d + 9 ≤ R.frames) (hL : 160 + 60 * d ≤ R.locals) :
    va_CN R s args own index (ie_y m') "PlayCutter" (ie_by m') (ie_mx m') (ie_ret m') (ie_wc m') (ie_rm d mc ms) mc ms n := by
  obtain ⟨h1, h2, h3, h4, h5, h6, h7, h8⟩ := ie_mck_spec hm
  rw [if_pos hh] at h5
  refine ⟨⟨rfl, rfl, by show d + 8 + 1 ≤ _; omega, by show 8 + (ie_mx m' + 11) + (100 + 60 * d) ≤ _; omega, fun w hw a' U hW => ?_, List.mem_cons_self⟩, G.1.at h5 rfl args, G.1.at h8 rfl args, h2, fun sig hs => ?_, hl⟩
  · have : w = Jvm.Cond.code (ie_y m') (ie_by m') (ie_mx m') (ie_ret m') := List.mem_singleton.mp hw
    rw [this]
    exact (G.1.warm hW).at h5 rfl a'
  · have h9 : (parseMethodDescriptor (ie_y m').desc).map (fun d => d.parameters.length) = some n := hn
    rw [hs] at h9
    exact (Option.some.inj h9).symm
theorem ie_cs (G : ie_G D kA b0 scr X s s.heap) {m' n d index : Nat} {own : String} (hm : m' < 222) (hst : ie_st m' = true) (hh : ¬ (ie_hs m').isEmpty = true) (hn : ie_n m' n) (hl : (Jvm.Cond.methodLink own index (ie_y m')).before args s = true) (hF : d + 9 ≤ R.frames) (hL : 160 + 60 * d ≤ R.locals) :
    vx_CSW R s args own index (ie_y m') (ie_by m') (ie_mx m') (ie_ret m') (ie_h4 m') (ie_wh m') (ie_rm d mc ms) mc ms n := by
  obtain ⟨h1, h2, h3, h4, h5, h6, h7, h8⟩ := ie_mck_spec hm
  rw [if_neg hh] at h5
  rw [if_pos hst] at h6
  refine ⟨⟨rfl, rfl, by show d + 8 + 1 ≤ _; omega, by show 8 + (ie_mx m' + 11) + (100 + 60 * d) ≤ _; omega, fun w hw a' U hW => ?_, List.mem_cons_self⟩, G.1.at h5 rfl args, G.1.at h8 rfl args, h2, fun sig hs => ?_, hl, G.1.at h6 rfl args⟩
  · have : w = Jvm.Cond.codeWith (ie_y m') (ie_by m') (ie_mx m') (ie_ret m') (ie_h4 m') := List.mem_singleton.mp hw
    rw [this]
    exact (G.1.warm hW).at h5 rfl a'
  · have h9 : (parseMethodDescriptor (ie_y m').desc).map (fun d => d.parameters.length) = some n := hn
    rw [hs] at h9
    exact (Option.some.inj h9).symm
theorem ie_pre {h : ie_H} {vs : List Value} (G : ie_G D kA b0 scr X s s.heap) (hP : va_P D ie_cl (ie_ws b0 scr kA h) H) (hS : va_S (ie_A b0) s.heap H locs) (hz : H.size = b0 + h.length) : ∀ U : State, U.heap = H → s.WarmedH U.vm → ie_Pc D kA b0 scr X h vs (vs.map (ie_cv b0 scr)).toArray U := by
  intro U hU hW
  exact ⟨rfl, G.go hW (by rw [hU]; exact hS.1) (fun q h1 h2 => by rw [hU]; exact hS.2.1 q h1 h2), by rw [hU]; exact hP, by rw [hU]; exact hz⟩
theorem ie_stkV {b0 scr n b : Nat} {st r : List Value} (hd : st.drop n = .ref b :: r) : st.map (ie_cv b0 scr) = (((st.take n).reverse).map (ie_cv b0 scr)).reverse ++ .ref (ie_ad b0 scr b) :: r.map (ie_cv b0 scr) := by
  conv => lhs; rw [← List.take_append_drop n st, hd]
  rw [List.map_append, ← List.map_reverse, List.reverse_reverse]; rfl
theorem ie_lenV {b0 scr n b : Nat} {st r : List Value} (hd : st.drop n = .ref b :: r) : (((st.take n).reverse).map (ie_cv b0 scr)).length = n := by
  have : n < st.length := by
    have h1 := congrArg List.length hd
    rw [List.length_drop, List.length_cons] at h1
    omega
  rw [List.length_map, List.length_reverse, List.length_take]; omega
end IEC
