theorem ie_ark : ∀ k : Nat, k < 4 → ∃ ty, ie_kd[k]? = some ty ∧ Jvm.Cond.arrayClass ty ∈ lw_tbl ∧ (∀ C, ty ≠ .object C)
  | 0, _ => ⟨.int, rfl, List.mem_of_getElem? (i := 160) (by decide +kernel), fun C h => by cases h⟩
  | 1, _ => ⟨.char, rfl, List.mem_of_getElem? (i := 159) (by decide +kernel), fun C h => by cases h⟩
  | 2, _ => ⟨.boolean, rfl, List.mem_of_getElem? (i := 206) (by decide +kernel), fun C h => by cases h⟩
  | 3, _ => ⟨.long, rfl, List.mem_of_getElem? (i := 1598) (by decide +kernel), fun C h => by cases h⟩
  | n + 4, h => absurd h (by omega)
theorem ie_aro : ∀ k, 4 ≤ k → k < 8 → Jvm.Cond.arrayOver (.object (ie_q (ie_kc k)).1) ∈ lw_tbl
  | 0, h, _ => absurd h (by omega)
  | 1, h, _ => absurd h (by omega)
  | 2, h, _ => absurd h (by omega)
  | 3, h, _ => absurd h (by omega)
  | 4, _, _ => List.mem_of_getElem? (i := 136) (by decide +kernel)
  | 5, _, _ => List.mem_of_getElem? (i := 138) (by decide +kernel)
  | 6, _, _ => List.mem_of_getElem? (i := 545) (by decide +kernel)
  | 7, _, _ => List.mem_of_getElem? (i := 583) (by decide +kernel)
  | n + 8, _, h => absurd h (by omega)
theorem ie_ls1 : Jvm.Cond.laysStatic Bundle.tN "UNASSIGNED_STACK" Bundle.steD ∈ lw_tbl := List.mem_of_getElem? (i := 480) (by decide +kernel)
theorem ie_ls2 : Jvm.Cond.laysStatic Bundle.tN "SUPPRESSED_SENTINEL" Bundle.listD ∈ lw_tbl := List.mem_of_getElem? (i := 482) (by decide +kernel)
theorem ie_lti : Jvm.Cond.initialized Bundle.tN ∈ lw_tbl := List.mem_of_getElem? (i := 108) (by decide +kernel)
set_option maxRecDepth 100000 in
theorem ie_nar1 : Jvm.Cond.isRef (.static Bundle.tN "UNASSIGNED_STACK" Bundle.steD) ∈ flatC (Jvm.Cond.and given_1 narrow_1) ∧ Jvm.Cond.isRef (.static Bundle.tN "SUPPRESSED_SENTINEL" Bundle.listD) ∈ flatC (Jvm.Cond.and given_1 narrow_1) := by decide +kernel
set_option maxRecDepth 100000 in
theorem ie_nar2 : ∀ q ∈ ie_np, Jvm.Cond.not (.castable q.1 q.2) ∈ flatC (Jvm.Cond.and given_1 narrow_1) := by decide +kernel
theorem ie_Ws_of {s : State} {a : Array Value} (h : ∀ w ∈ lw_tbl, w.before a s = true) : ie_Ws s := by
  intro w hw hk a'
  have h0 := h w hw
  by_cases hg : goodWord w = true
  · exact word_at (State.WarmedH.refl s) (good_of_word hg) h0
  · cases w with
    | fieldLinkNest x1 x2 x3 x4 x5 x6 => exact va_tabs rfl rfl h0
    | methodLinkNest x1 x2 x3 x4 => exact va_tabs rfl rfl h0
    | castable x1 x2 => exact va_tabs rfl rfl h0
    | declares x1 => exact va_tabs rfl rfl h0
    | _ => exact absurd hk hg
theorem ie_Kof {s : State} {a : Array Value} (h : ∀ w ∈ lw_tbl, w.before a s = true) : ∃ (D : va_G) (kA : Nat → ClassId), va_K D ie_cl (ie_ty kA) s := by
  have hW := ie_Ws_of h
  have h1 : ∀ ci : Nat, ∃ (cC : ClassId) (iS : Nat → Nat), ci < 16 → u_Kn s (ie_q ci).1 (ie_q ci).2.1 (ie_q ci).2.2 cC iS := by
    intro ci
    by_cases hc : ci < 16
    · have hi := (ie_insok ci hc).1
      have hts : ∀ w ∈ u_ws (ie_q ci).1 (ie_q ci).2.1 (ie_q ci).2.2, w.before a s = true := by
        by_cases h11 : ci < 11
        · exact ie_ul_ok h11 hW a
        · rw [ie_q0 ci (by omega) hc]
          intro w hw
          cases hw
      obtain ⟨cC, iS, hK⟩ := u_known (ws := u_ws (ie_q ci).1 (ie_q ci).2.1 (ie_q ci).2.2) hts (fun w hw => hw) (h _ hi)
      exact ⟨cC, iS, fun _ => hK⟩
    · exact ⟨0, fun _ => 0, fun z => absurd z hc⟩
  have h2 : ∀ k : Nat, ∃ cA : ClassId, ∀ ty : FieldType, ie_kd[k]? = some ty → ArrOfT s cA ty ∧ va_RA s cA ty := by
    intro k
    by_cases hk : k < 4
    · obtain ⟨ty, e1, e2, e3⟩ := ie_ark k hk
      obtain ⟨cA, kk, comp, f1, f2, f3⟩ := Cond.arrayClass_spec (h _ e2)
      refine ⟨cA, fun ty' e4 => ?_⟩
      cases e1.symm.trans e4
      refine ⟨fun n z => ⟨fun k h => (by cases h), kk, f2, comp, f3⟩, ?_⟩
      cases ty with
      | object C => exact absurd rfl (e3 C)
      | _ => exact f1
    · by_cases hk8 : k < 8
      · have e1 := ie_kd_obj k (by omega) hk8
        obtain ⟨comp, cA, kk, f0, -, f2, f3, f1⟩ := Cond.arrayOver_spec (h _ (ie_aro k (by omega) hk8))
        refine ⟨cA, fun ty' e4 => ?_⟩
        cases e1.symm.trans e4
        exact ⟨fun n z => ⟨fun k h => (by cases h), kk, f2, comp, f3⟩, kk, comp, f2, f3, f0, f1⟩
      · refine ⟨0, fun ty' e4 => ?_⟩
        have := (List.getElem?_eq_some_iff.mp e4).1
        exact absurd this (by show ¬ k < 8; exact hk8)
  refine ⟨(fun ci => (h1 ci).choose, fun ci => (h1 ci).choose_spec.choose), fun k => (h2 k).choose, fun ci q hq => ?_, fun k q hq => ?_⟩
  · have hlt : ci < 16 := (List.getElem?_eq_some_iff.mp hq).1
    have e1 := ie_cl_get ci hlt
    cases e1.symm.trans hq
    exact (h1 ci).choose_spec.choose_spec hlt
  · unfold ie_ty at hq
    rw [List.getElem?_mapIdx] at hq
    cases hk : ie_kd[k]? with
    | none => rw [hk] at hq; cases hq
    | some ty =>
      rw [hk] at hq
      cases hq
      exact (h2 k).choose_spec ty hk
def R_law : String := "PlayCutterLaw"
def lw_P (b : Addr) (xs : List Int32) (args : Array Value) (s : State) : Prop := args = #[.ref b] ∧ s.IntsAt b xs ∧ xs.length ≤ 4 ∧ (Jvm.Cond.and given_1 narrow_1).before args s = true
def lw_Q (_ : Array Value) (s : State) (o : Outcome) (t : State) : Prop := o = .returned (some (.int 1)) ∧ Framed s o t [] 600002 7302232
def lw_Z (below : List Frame) (a : Array Value) (s : State) : State → Prop := fun t => ∃ o, t.status = .running ∧ Ended t below o ∧ lw_Q a s o t
theorem lw_ret {p : Program} {l : Launch} {e : Env} {s : State} {m : MethodId} {below : List Frame} {meth : Method} {c : Code} {b : Nat} (hx : p.tables.exec = Jvm.exec) (hb : c.code = code) (hr : meth.sig.returnType = ret) (hlocks : meth.locks = false) {pc : Nat} {H : Heap} {ls : Array Slot} (hdg : decode code pc = .ok (.ireturn, 1)) : W p l e room_1 s m #[Value.ref b] below meth c H [] 600002 7302232 (lw_Z below #[Value.ref b] s) (F0 m pc ls [.int 1]) := by
  intro T hT X
  obtain ⟨fs, hret, hrun, hended, hW, hframe⟩ := X.leave (v := some (.int 1)) (hlocks := hlocks) (fun h => by rw [hr] at h; cases h)
  have hmeth' : T.vm.method? m = some meth := X.method'
  refine ⟨T.setFrames fs, ?_, .returned (some (.int 1)), hrun, hended, rfl, ⟨_, rfl⟩, hW, hframe⟩
  jvm_step X.here [X.here.top, hx, hb, hdg, hmeth', hr, ret, narrow_b1]
  (try refine ⟨rfl, ?_⟩); (try refine ⟨rfl, ?_⟩)
  first | (intro acts; rw [hret _ acts rfl rfl rfl]) | rw [hret _ _ rfl rfl rfl]
  exact Steps.refl _
def lw_At (p : Program) (s : State) (m : MethodId) (meth : Method) (c : Code) (b L : Nat) (xs : Nat → Int32) : Prop :=
  p.tables.exec = Jvm.exec ∧ c.code = code ∧ meth.sig.returnType = ret ∧ c.maxLocals = 7 ∧ s.vm.findClass R_law = some m.cls ∧ (∀ w ∈ lw_tbl, w.before #[Value.ref b] s = true) ∧ va_X b L xs s s.heap ∧ b < s.heap.size ∧ meth.locks = false ∧ (Jvm.Cond.and given_1 narrow_1).before #[Value.ref b] s = true
theorem ie_start {p : Program} {e : Env} {s : State} {m : MethodId} {below : List Frame} {meth : Method} {c : Code} (l : Launch) (hl : l.stackTraces = false) {b L : Nat} {xs : Nat → Int32} (C0 : lw_At p s m meth c b L xs) (htab : c.exceptionTable.toList = []) {n d : Nat} {h' : ie_H} (hev : ie_ev (L, xs) n d 222 (0, ie_en 222 [.ref ie_S], [], []) = some (.inl (some (.int 1)), h')) (hc : h'.length ≤ 600002) (hs : ie_sm h' ≤ 7302232) (hd : d ≤ 1000) : W p l e room_1 s m #[Value.ref b] below meth c s.heap [] 0 0 (lw_Z below #[Value.ref b] s) (entryFrame m ([Value.ref b] : List Value).toArray 7) := by
  obtain ⟨hx, hb, hr, hml, hown, hts, hX, hbl, hlocks, hgv⟩ := C0
  have hfl := flat_of_before _ hgv
  have hW := ie_Ws_of hts
  obtain ⟨D, kA, hK⟩ := ie_Kof hts
  have hA : ∀ a : Nat, a < s.heap.size → ¬ ie_A s.heap.size a := fun a ha z => Nat.lt_irrefl _ (Nat.lt_of_lt_of_le ha z)
  have G : ie_G D kA s.heap.size b (L, xs) s s.heap := ⟨hW, hK, fun k h4 h8 => va_AO.of (hts _ (ie_aro k h4 h8)), fun q hq => va_Nc.of (hfl _ (ie_nar2 q hq)), vx_Zqof (hts _ ie_ls1) (hts _ ie_lti) (hfl _ ie_nar1.1) hA, vx_Zqof (hts _ ie_ls2) (hts _ ie_lti) (hfl _ ie_nar1.2) hA, hX, hbl, Nat.le_refl _⟩
  have Cx : ie_Cx p s m meth c 222 := ⟨hx, hb, hml, hown, hlocks, hr, fun h => absurd h (by decide)⟩
  have hlo := ie_enter (b0 := s.heap.size) (scr := b) (m := 222) (vs := [.ref ie_S]) rfl (by decide)
  rw [lg_entry_eq]
  have hcv : ([Value.ref ie_S].map (ie_cv s.heap.size b)) = [Value.ref b] := by
    simp only [List.map_cons, List.map_nil, ie_cv, ie_ad, if_pos]
  rw [hcv] at hlo
  have hS9 : (600002 : Nat) < ie_S := by decide
  refine ie_sound hl n d 222 (0, ie_en 222 [.ref ie_S], [], []) _ h' hev (by decide) (by omega) p e room_1 s m _ below meth c s.heap [] 0 0 (lw_Z below #[Value.ref b] s) 0 _ Cx (htab.trans rfl) G ⟨fun k q hq => (by cases hq), va_S.rf, rfl, rfl, hlo⟩ (by show _ ≤ _ + 600002; omega) (by show _ ≤ 0 + 7302232; omega) (by show d + 8 ≤ 2048; omega) (by show 100 + 60 * d ≤ 84000; omega) ?_
  intro H1 locs1 cells1 slots1 sl1 pc1 k hdc hv hP1 hS1 hz1 hs1
  have hk : k = 0 := by
    rcases hv with ⟨-, w, ty, hw, -, hkv, -⟩ | ⟨-, hw, -⟩
    · cases hw
      simpa [ie_kv] using hkv
    · cases hw
  subst hk
  refine va_forget (fun q hq => hS1.2.2 q hq) ?_
  refine W.widen (k := 600002) (n := 7302232) (by omega) (by omega) ?_
  exact lw_ret hx hb hr hlocks hdc
