section IEY
variable {p : Program} {l : Launch} {e : Env} {R : Room} {s : State} {mid : MethodId} {args : Array Value} {below : List Frame} {meth : Method} {c : Code} {H : Heap} {locs : List Loc} {cells slots : Nat} {Q : State → Prop}
variable {D : va_G} {kA : Nat → ClassId} {b0 scr z0 m : Nat} {X : ie_X} {sl : Array Slot} {pc len : Nat} {ls : ie_L} {st : List Value} {h : ie_H}
theorem ie_nest_no {w idx m' : Nat} {own : String} (hw : lw_tbl[w]? = some (Jvm.Cond.methodLinkNest own idx (ie_y m') "PlayCutter")) (hm : m' < 222) : (ie_hs m').isEmpty = true := by
  rcases ie_hst m' (ie_in_rng2 m' hm) with h1 | ⟨-, h1⟩
  · exact h1
  · have h2 := ie_nest9
    rw [List.all_eq_true] at h2
    have h3 := h2 _ (List.mem_of_getElem? hw)
    simp only [ie_nn9, decide_eq_true_eq] at h3
    exact absurd h1 h3
set_option maxHeartbeats 2000000 in
theorem ie_runR {n d' m' : Nat} {i : Instr} {r : Nat × Nat × Nat} {ini : Bool} {as rest : List Value} {v : Option Value} {h1 : ie_H} (hP : ie_Snd l D kA b0 scr X n) (Cx : ie_Cx p s mid meth c m) (G : ie_G D kA b0 scr X s s.heap) (hdg : decode (ie_by m) pc = .ok (i, len)) (hck : ie_ck m (ie_oname (ie_info m).1.1) ini (pc, (i, len), r) = true)
    (hs : ie_step X m i r pc ls st h = some (.inr (.inl (m', as, rest)))) (hlg : ie_lgs 0 as = ie_lg m' ∧ (ie_sp as).length ≤ ie_mx m') (hev : ie_ev X n d' m' (0, ie_en m' as, [], h) = some (.inl v, h1)) (hlen : h1.length < ie_S)
    (hRl : ie_Rl D kA b0 scr s z0 m ls h H locs cells slots sl) (hsz : H.size = b0 + h.length) (hRc : b0 + h1.length ≤ s.heap.size + R.cells) (hRs : ie_sm h1 ≤ z0 + R.slots) (hRf : d' + 9 ≤ R.frames) (hRo : 160 + 60 * d' ≤ R.locals) :
    va_Run p l e R s mid args below meth c H locs cells slots (h1.length - h.length) (ie_sm h1 - ie_sm h) (F0 mid pc sl (st.map (ie_cv b0 scr))) (rest.map (ie_cv b0 scr)) (ie_Qr D kA b0 scr v h1 (as.map (ie_cv b0 scr)).toArray) (ie_A b0) ∧ m' < 222 := by
  obtain ⟨hx, hb, hml, hown, hlocks, hret, hini⟩ := Cx
  obtain ⟨hP1, hS, hz, hsl, hlo⟩ := hRl
  obtain ⟨r1, r2, w⟩ := r
  have hmo := ie_ev_mono _ _ _ _ _ _ hev
  simp only at hmo
  obtain ⟨hmr, hcat, hh⟩ := ie_step_call hs
  simp only at hmr hh
  subst hmr
  have gW := G.1
  have S : CallFix p mid c (ie_by m) (ie_mx m) s args [] (ie_oname (ie_info m).1.1) := ⟨hx, hb, hml, hown, fun _ hw => nomatch hw⟩
  have hW : ∀ g : List Value, 2 * (F0 mid pc sl g).monitorRoom + ((rest.map (ie_cv b0 scr)).map fun v => v.category).sum ≤ 8 := fun g => by rw [ie_mr, ie_cat_cv]; omega
  have hf : cells + (h1.length - h.length) ≤ R.cells ∧ slots + (ie_sm h1 - ie_sm h) ≤ R.slots := ⟨by omega, by omega⟩
  rcases hh with ⟨idx, b, fs, rfl, hd, hbc, rfl⟩ | ⟨idx, b, rfl, hne, hd, rfl⟩ | ⟨idx, rfl, hne, hle, rfl, rfl⟩
  · simp only [ie_ck, Bool.and_eq_true, Bool.or_eq_true, decide_eq_true_eq, Bool.not_eq_true'] at hck
    obtain ⟨⟨⟨⟨⟨⟨hl, -⟩, hlk⟩, hm⟩, hn⟩, hst⟩, hni⟩ := hck
    subst hl
    obtain ⟨k1, k2, k3, k4, k5, k6, k7, k8⟩ := ie_mck_spec hm
    have hem : (ie_hs m').isEmpty = true := by
      rcases ie_hst m' (ie_in_rng2 m' hm) with z | z
      · exact z
      · rw [hst] at z; cases z.1
    rw [if_neg (by rw [hst]; decide)] at k6
    rcases k7 with (k7 | k7) | ⟨k7, kc, k11⟩
    · rw [hst] at k7; cases k7
    · exact absurd k7 hni
    refine ⟨?_, hm⟩
    have hM := ie_metR hP hev hm hem hlen hlg hmo
    have hrecv := va_recv G.2.1 hP1 (ie_cl_get _ (by omega)) (ie_ws_get hbc)
    rw [← kc] at hrecv
    have had : ie_ad b0 scr b = b0 + b := by
      have := (List.getElem?_eq_some_iff.mp hbc).1
      unfold ie_ad; rw [if_neg (by omega)]
    have hpv : PreV s H (ie_y m').cls (b0 + b) (ie_Pc D kA b0 scr X h (.ref b :: (st.take r2).reverse)) (((st.take r2).reverse).map (ie_cv b0 scr)) := ⟨ie_Pc_blind, hrecv, fun U hU hWU => by
      have := ie_pre (vs := .ref b :: (st.take r2).reverse) G hP1 hS hsz U hU hWU
      rw [List.map_cons] at this
      show ie_Pc D kA b0 scr X h _ (Value.ref (b0 + b) :: _).toArray U
      rw [← had]
      exact this⟩
    have hstk : (F0 mid pc sl (st.map (ie_cv b0 scr))).stack = (((st.take r2).reverse).map (ie_cv b0 scr)).reverse ++ .ref (b0 + b) :: rest.map (ie_cv b0 scr) := by
      rw [← had]; exact ie_stkV hd
    have hargs : ((Value.ref b :: (st.take r2).reverse).map (ie_cv b0 scr)).toArray = (Value.ref (b0 + b) :: ((st.take r2).reverse).map (ie_cv b0 scr)).toArray := by
      rw [List.map_cons, ← had]; rfl
    rw [hargs]
    rcases hlk with hlk | hlk
    · exact va_runV S hM ⟨ie_cb G hm hem hn (gW.at hlk rfl args) hRf hRo, gW.at k6 rfl args, gW.at k7 rfl args⟩ hpv rfl (ie_lenV hd) hlo.1 hstk (hW _) hdg hf
    · exact va_runVN S hM ⟨ie_cn G hm hem hn (gW.at hlk rfl args) hRf hRo, gW.at k6 rfl args, gW.at k7 rfl args⟩ hpv rfl (ie_lenV hd) hlo.1 hstk (hW _) hdg hf
  · simp only [ie_ck, Bool.and_eq_true, Bool.or_eq_true, decide_eq_true_eq, Bool.not_eq_true'] at hck
    obtain ⟨hl, hck⟩ := hck
    subst hl
    rcases hck with (⟨hbad, -⟩ | ⟨hbad, -⟩) | ⟨⟨⟨⟨⟨hlk, hm⟩, hn⟩, hst⟩, htm⟩, hni⟩
    · exact absurd hbad hne
    · exfalso
      subst hbad
      have hh9 : ∀ n d F, ie_ev X n d 10002 F = none := fun n d F => by
        cases n with
        | zero => rfl
        | succ n =>
          obtain ⟨pc9, ls9, st9, h9⟩ := F
          unfold ie_ev
          have : ie_at 10002 pc9 = none := by
            unfold ie_at
            rw [show ie_K.getD 10002 [] = [] from rfl]
            rfl
          rw [this]
      rw [hh9] at hev
      cases hev
    obtain ⟨k1, k2, k3, k4, k5, k6, k7, k8⟩ := ie_mck_spec hm
    have hem : (ie_hs m').isEmpty = true := by
      rcases ie_hst m' (ie_in_rng2 m' hm) with z | z
      · exact z
      · rw [hst] at z; cases z.1
    rw [if_neg (by rw [hst]; decide)] at k6
    refine ⟨?_, hm⟩
    have hM := ie_metR hP hev hm hem hlen hlg hmo
    have hps : PreS s H (ie_Pc D kA b0 scr X h (.ref b :: (st.take r2).reverse)) (.ref (ie_ad b0 scr b) :: ((st.take r2).reverse).map (ie_cv b0 scr)) := ⟨ie_Pc_blind, ie_pre (vs := .ref b :: (st.take r2).reverse) G hP1 hS hsz⟩
    have hret0 : ie_ret m' = none := ie_ini0 m' (ie_in_rng2 m' hm) hni
    have hcb : CallB R s args (ie_oname (ie_info m).1.1) idx (ie_y m') (ie_by m') (ie_mx m') none (ie_wc m') (ie_rm d' (h1.length - h.length) (ie_sm h1 - ie_sm h)) (h1.length - h.length) (ie_sm h1 - ie_sm h) r2 ∨ va_CN R s args (ie_oname (ie_info m).1.1) idx (ie_y m') "PlayCutter" (ie_by m') (ie_mx m') none (ie_wc m') (ie_rm d' (h1.length - h.length) (ie_sm h1 - ie_sm h)) (h1.length - h.length) (ie_sm h1 - ie_sm h) r2 := by
      rcases hlk with hlk | hlk
      · have := ie_cb (mc := h1.length - h.length) (ms := ie_sm h1 - ie_sm h) G hm hem hn (gW.at hlk rfl args) hRf hRo
        rw [hret0] at this
        exact Or.inl this
      · have := ie_cn (mc := h1.length - h.length) (ms := ie_sm h1 - ie_sm h) G hm hem hn (gW.at hlk rfl args) hRf hRo
        rw [hret0] at this
        exact Or.inr this
    rcases hcb with hcb | hcb
    · exact va_runI S hM ⟨hcb, hni, gW.at k6 rfl args⟩ hps rfl (ie_lenV hd) hlo.1 (ie_stkV hd) (hW _) hdg hf
    · exact va_runIN S hM ⟨hcb, hni, gW.at k6 rfl args⟩ hps rfl (ie_lenV hd) hlo.1 (ie_stkV hd) (hW _) hdg hf
  · simp only [ie_ck, Bool.and_eq_true, Bool.or_eq_true, decide_eq_true_eq, Bool.not_eq_true'] at hck
    obtain ⟨hl, hck⟩ := hck
    subst hl
    rcases hck with ⟨hbad, -⟩ | ⟨⟨⟨⟨-, hlk⟩, hm⟩, hn⟩, hst⟩
    · exact absurd hbad hne
    obtain ⟨k1, k2, k3, k4, k5, k6, k7, k8⟩ := ie_mck_spec hm
    rw [if_pos hst] at k6
    refine ⟨?_, hm⟩
    have hps : PreS s H (ie_Pc D kA b0 scr X h (st.take r2).reverse) (((st.take r2).reverse).map (ie_cv b0 scr)) := ⟨ie_Pc_blind, ie_pre (vs := (st.take r2).reverse) G hP1 hS hsz⟩
    have hln : (((st.take r2).reverse).map (ie_cv b0 scr)).length = r2 := by
      rw [List.length_map, List.length_reverse, List.length_take]; omega
    have hstk : (F0 mid pc sl (st.map (ie_cv b0 scr))).stack = (((st.take r2).reverse).map (ie_cv b0 scr)).reverse ++ (st.drop r2).map (ie_cv b0 scr) := by
      show st.map (ie_cv b0 scr) = _
      rw [← List.map_reverse, List.reverse_reverse, ← List.map_append, List.take_append_drop]
    by_cases hem : (ie_hs m').isEmpty = true
    · have hM := ie_metR hP hev hm hem hlen hlg hmo
      rcases hlk with hlk | hlk
      · exact va_runS S hM ⟨ie_cb G hm hem hn (gW.at hlk rfl args) hRf hRo, gW.at k6 rfl args⟩ hps rfl hln hlo.1 hstk (hW _) hdg hf
      · exact va_runSN S hM ⟨ie_cn G hm hem hn (gW.at hlk rfl args) hRf hRo, gW.at k6 rfl args, trivial⟩ hps rfl hln hlo.1 hstk (hW _) hdg hf
    · rcases hlk with hlk | hlk
      · exact vx_runSW S (ie_metH hP hev hm hlen hlg hmo) (ie_cs G hm hst hem hn (gW.at hlk rfl args) hRf hRo) hps rfl hln hlo.1 hstk (hW _) hdg hf
      · exact absurd (ie_nest_no hlk hm) hem
end IEY
