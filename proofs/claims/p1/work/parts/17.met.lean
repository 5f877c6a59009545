def ie_End (p : Program) (l : Launch) (e : Env) (R : Room) (s : State) (mid : MethodId) (args : Array Value) (below : List Frame) (meth : Method) (c : Code) (Q : State → Prop) (D : va_G) (kA : Nat → ClassId) (b0 scr z0 m : Nat) (o : ie_O) (h' : ie_H) : Prop := match o with
  | .inl v => ∀ (H1 : Heap) (locs1 : List Loc) (cells1 slots1 : Nat) (sl1 : Array Slot) (pc1 k : Nat), decode (ie_by m) pc1 = .ok (ie_ri k, 1) → ie_vok k m v → va_P D ie_cl (ie_ws b0 scr kA h') H1 → va_S (ie_A b0) s.heap H1 locs1 → s.heap.size + cells1 = b0 + h'.length → z0 + slots1 = ie_sm h' → W p l e R s mid args below meth c H1 locs1 cells1 slots1 Q (F0 mid pc1 sl1 (v.toList.map (ie_cv b0 scr)))
  | .inr ci => ∃ (Qc : Array Value → State → Outcome → State → Prop) (mc ms : Nat), Q = vx_MQ below Qc (ie_Qx D kA b0 scr ci h') args s mc ms (ie_A b0) ∧ s.heap.size + mc = b0 + h'.length ∧ z0 + ms = ie_sm h'
def ie_Snd (l : Launch) (D : va_G) (kA : Nat → ClassId) (b0 scr : Nat) (X : ie_X) (n : Nat) : Prop := ∀ (d m : Nat) (F : ie_F) (o : ie_O) (h' : ie_H), ie_ev X n d m F = some (o, h') → m < 223 → h'.length < ie_S →
  ∀ (p : Program) (e : Env) (R : Room) (s : State) (mid : MethodId) (args : Array Value) (below : List Frame) (meth : Method) (c : Code) (H : Heap) (locs : List Loc) (cells slots : Nat) (Q : State → Prop) (z0 : Nat) (sl : Array Slot),
    ie_Cx p s mid meth c m → c.exceptionTable.toList = tableOf (ie_h4 m) → ie_G D kA b0 scr X s s.heap → ie_Rl D kA b0 scr s z0 m F.2.1 F.2.2.2 H locs cells slots sl → b0 + h'.length ≤ s.heap.size + R.cells → ie_sm h' ≤ z0 + R.slots → d + 8 ≤ R.frames → 100 + 60 * d ≤ R.locals →
    ie_End p l e R s mid args below meth c Q D kA b0 scr z0 m o h' → W p l e R s mid args below meth c H locs cells slots Q (F0 mid F.1 sl (F.2.2.1.map (ie_cv b0 scr)))
theorem ie_h4_nil {m : Nat} (h : (ie_hs m).isEmpty = true) : tableOf (ie_h4 m) = [] := by
  unfold ie_h4
  rw [List.isEmpty_iff.mp h]
  rfl
section IEM
variable {l : Launch} {D : va_G} {kA : Nat → ClassId} {b0 scr : Nat} {X : ie_X}
theorem ie_retW {p : Program} {e : Env} {R : Room} {s : State} {mid : MethodId} {args : Array Value} {below : List Frame} {meth : Method} {c : Code} {H1 : Heap} {locs1 : List Loc} {mc ms m k pc1 : Nat} {sl1 : Array Slot} {v : Option Value} {h' : ie_H} (Cx : ie_Cx p s mid meth c m) (hd : decode (ie_by m) pc1 = .ok (ie_ri k, 1)) (hv : ie_vok k m v) (hP : va_P D ie_cl (ie_ws b0 scr kA h') H1) (hS : va_S (ie_A b0) s.heap H1 locs1) :
    W p l e R s mid args below meth c H1 locs1 mc ms (MQ below (ie_Qr D kA b0 scr v h') args s mc ms (ie_A b0)) (F0 mid pc1 sl1 (v.toList.map (ie_cv b0 scr))) := by
  obtain ⟨hx, hb, hml, hown, hlocks, hret, hini⟩ := Cx
  rcases hv with ⟨hk, w, ty, rfl, hr, hkv, hf⟩ | ⟨rfl, rfl, hr⟩
  · have hq : ∀ t : State, t.heap = H1 → s.WarmedH t.vm → ie_Qr D kA b0 scr (some w) h' args s (.returned (some (ie_cv b0 scr w))) t := fun t ht hW => ⟨rfl, by rw [ht]; exact hP, hS.F ht⟩
    obtain ⟨hn, -⟩ := ie_fit_spec (b0 := b0) (scr := scr) hf
    cases w with
    | int x =>
      have hk0 : k = 0 := by simpa [ie_kv] using hkv
      subst hk0
      exact W.zret hx hb (hret.trans hr) hn hq hS.2.2 hd hlocks
    | long x =>
      have hk0 : k = 1 := by simpa [ie_kv] using hkv
      subst hk0
      cases ty <;> first | (cases hf; done) | exact W.lret hx hb (hret.trans hr) hq hS.2.2 hd hlocks
    | ref a =>
      have hk0 : k = 2 := by simpa [ie_kv] using hkv
      subst hk0
      cases ty <;> first | (cases hf; done) | exact W.aret hx hb (hret.trans hr) (Or.inl ⟨_, rfl⟩) (Or.inr ⟨_, rfl⟩) hq hS.2.2 hd hlocks | exact W.aret hx hb (hret.trans hr) (Or.inr ⟨_, rfl⟩) (Or.inr ⟨_, rfl⟩) hq hS.2.2 hd hlocks
    | null =>
      have hk0 : k = 2 := by simpa [ie_kv] using hkv
      subst hk0
      cases ty <;> first | (cases hf; done) | exact W.aret hx hb (hret.trans hr) (Or.inl ⟨_, rfl⟩) (Or.inl rfl) hq hS.2.2 hd hlocks | exact W.aret hx hb (hret.trans hr) (Or.inr ⟨_, rfl⟩) (Or.inl rfl) hq hS.2.2 hd hlocks
    | _ => cases hkv
  · exact W.vret hx hb (hret.trans hr) (fun t ht hW => ⟨rfl, by rw [ht]; exact hP, hS.F ht⟩) hS.2.2 hd hlocks
theorem ie_cxB {p : Program} {e : Env} {S : Spec} {s s₁ : State} {mid : MethodId} {args : Array Value} {below : List Frame} {meth : Method} {c : Code} {m : Nat} (hm : m < 222) (B : BodyLoose p l (ie_y m) S (ie_by m) (ie_mx m) (ie_ret m) e s mid args below meth c s₁) (hml : c.maxLocals = ie_mx m) : ie_Cx p s mid meth c m := by
  obtain ⟨h1, h2, h3, -⟩ := ie_mck_spec hm
  exact ⟨B.exec, B.bytes, hml, by rw [← h3]; exact findClass_of_methodNamed B.named, B.notSynchronized, B.returns, fun hn => (name_of_methodNamed B.named B.method).1.trans hn⟩
theorem ie_bodyR {n d m : Nat} {vs : List Value} {h h' : ie_H} {v : Option Value} (hP : ie_Snd l D kA b0 scr X n) (hev : ie_ev X n d m (0, ie_en m vs, [], h) = some (.inl v, h')) (hm : m < 223) (hlen : h'.length < ie_S) (hlg : ie_lgs 0 vs = ie_lg m ∧ (ie_sp vs).length ≤ ie_mx m) (hmo : h.length ≤ h'.length ∧ ie_sm h ≤ ie_sm h')
    {p : Program} {e : Env} {R : Room} {s : State} {mid : MethodId} {args : Array Value} {below : List Frame} {meth : Method} {c : Code} (Cx : ie_Cx p s mid meth c m) (htab : c.exceptionTable.toList = tableOf (ie_h4 m)) (hpc : ie_Pc D kA b0 scr X h vs args s) (hRc : h'.length - h.length ≤ R.cells) (hRs : ie_sm h' - ie_sm h ≤ R.slots) (hRf : d + 8 ≤ R.frames) (hRl : 100 + 60 * d ≤ R.locals) :
    W p l e R s mid args below meth c s.heap [] 0 0 (MQ below (ie_Qr D kA b0 scr v h') args s (h'.length - h.length) (ie_sm h' - ie_sm h) (ie_A b0)) (entryFrame mid args (ie_mx m)) := by
  obtain ⟨rfl, hG, hPp, hsz⟩ := hpc
  rw [lg_entry_eq]
  refine hP d m _ _ _ hev hm hlen p e R s mid _ below meth c s.heap [] 0 0 _ (ie_sm h) _ Cx htab hG ⟨hPp, va_S.rf, by rw [Nat.add_zero]; exact hsz, Nat.add_zero _, ie_enter hlg.1 hlg.2⟩ (by omega) (by omega) hRf hRl ?_
  intro H1 locs1 cells1 slots1 sl1 pc1 k hd hv hP1 hS1 hz1 hs1
  have e1 : cells1 = h'.length - h.length := by omega
  have e2 : slots1 = ie_sm h' - ie_sm h := by omega
  subst e1; subst e2
  exact ie_retW Cx hd hv hP1 hS1
theorem ie_metR {n d m : Nat} {vs : List Value} {h h' : ie_H} {v : Option Value} (hP : ie_Snd l D kA b0 scr X n) (hev : ie_ev X n d m (0, ie_en m vs, [], h) = some (.inl v, h')) (hm : m < 222) (hh : (ie_hs m).isEmpty = true) (hlen : h'.length < ie_S) (hlg : ie_lgs 0 vs = ie_lg m ∧ (ie_sp vs).length ≤ ie_mx m) (hmo : h.length ≤ h'.length ∧ ie_sm h ≤ ie_sm h') :
    Met l (ie_y m) (ie_wc m) (ie_rm d (h'.length - h.length) (ie_sm h' - ie_sm h)) (ie_Pc D kA b0 scr X h vs) (ie_Qr D kA b0 scr v h') (h'.length - h.length) (ie_sm h' - ie_sm h) (ie_A b0) := by
  refine Met.ofW (cc := ie_by m) (maxL := ie_mx m) (ret := ie_ret m) (ie_mck_spec hm).1 rfl ?_
  intro p e s mid args below meth c s₁ B hml hv
  have hc := atoms_spec (ws := ie_wc m) B.pre _ List.mem_cons_self
  have htab : c.exceptionTable.toList = tableOf (ie_h4 m) := by
    rw [ie_h4_nil hh]
    have := B.noHandlers hc
    rw [Array.isEmpty_iff.mp this]
  exact ie_bodyR hP hev (by omega) hlen hlg hmo (ie_cxB hm B hml) htab hv (Nat.le_refl _) (Nat.le_refl _) (Nat.le_refl _) (Nat.le_refl _)
theorem ie_metH {n d m : Nat} {vs : List Value} {h h' : ie_H} {v : Option Value} (hP : ie_Snd l D kA b0 scr X n) (hev : ie_ev X n d m (0, ie_en m vs, [], h) = some (.inl v, h')) (hm : m < 222) (hlen : h'.length < ie_S) (hlg : ie_lgs 0 vs = ie_lg m ∧ (ie_sp vs).length ≤ ie_mx m) (hmo : h.length ≤ h'.length ∧ ie_sm h ≤ ie_sm h') :
    Met l (ie_y m) (ie_wh m) (ie_rm d (h'.length - h.length) (ie_sm h' - ie_sm h)) (ie_Pc D kA b0 scr X h vs) (ie_Qr D kA b0 scr v h') (h'.length - h.length) (ie_sm h' - ie_sm h) (ie_A b0) := by
  refine va_MetW (cc := ie_by m) (maxL := ie_mx m) (ret := ie_ret m) (hh := ie_h4 m) (ie_mck_spec hm).1 rfl ?_
  intro p e s mid args below meth c s₁ B hml hv
  have hc := atoms_spec (ws := ie_wh m) B.pre _ List.mem_cons_self
  exact ie_bodyR hP hev (by omega) hlen hlg hmo (ie_cxB hm B hml) (vx_table (x := ie_y m) B hc) hv (Nat.le_refl _) (Nat.le_refl _) (Nat.le_refl _) (Nat.le_refl _)
theorem ie_metX {n d m : Nat} {vs : List Value} {h h' : ie_H} {ci : Nat} (hP : ie_Snd l D kA b0 scr X n) (hev : ie_ev X n d m (0, ie_en m vs, [], h) = some (.inr ci, h')) (hm : m < 222) (hh : (ie_hs m).isEmpty = true) (hlen : h'.length < ie_S) (hlg : ie_lgs 0 vs = ie_lg m ∧ (ie_sp vs).length ≤ ie_mx m) (hmo : h.length ≤ h'.length ∧ ie_sm h ≤ ie_sm h') :
    vx_Met l (ie_y m) (ie_wc m) (ie_rm d (h'.length - h.length) (ie_sm h' - ie_sm h)) (ie_Pc D kA b0 scr X h vs) (fun _ _ _ _ => False) (ie_Qx D kA b0 scr ci h') (h'.length - h.length) (ie_sm h' - ie_sm h) (ie_A b0) := by
  refine vx_ofW (cc := ie_by m) (maxL := ie_mx m) (ret := ie_ret m) (ie_mck_spec hm).1 rfl ?_
  intro p e s mid args below meth c s₁ B hml hte hv
  have htab : c.exceptionTable.toList = tableOf (ie_h4 m) := by
    rw [ie_h4_nil hh]
    cases hq : c.exceptionTable.toList with
    | nil => rfl
    | cons x t => exact (hte x (by rw [hq]; exact List.mem_cons_self)).elim
  have Cx := ie_cxB hm B hml
  obtain ⟨rfl, hG, hPp, hsz⟩ := hv
  rw [lg_entry_eq]
  exact hP d m _ _ _ hev (by omega) hlen p e _ s mid _ below meth c s.heap [] 0 0 _ (ie_sm h) _ Cx htab hG ⟨hPp, va_S.rf, by rw [Nat.add_zero]; exact hsz, Nat.add_zero _, ie_enter hlg.1 hlg.2⟩ (by show _ ≤ _ + (h'.length - h.length); omega) (by show _ ≤ _ + (ie_sm h' - ie_sm h); omega) (Nat.le_refl _) (Nat.le_refl _) ⟨fun _ _ _ _ => False, h'.length - h.length, ie_sm h' - ie_sm h, rfl, by omega, by omega⟩
end IEM
