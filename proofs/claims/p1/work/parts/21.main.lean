section IEW
variable {p : Program} {l : Launch} {e : Env} {R : Room} {s : State} {mid : MethodId} {args : Array Value} {below : List Frame} {meth : Method} {c : Code} {H : Heap} {locs : List Loc} {cells slots : Nat} {Q : State → Prop}
variable {D : va_G} {kA : Nat → ClassId} {b0 scr z0 m : Nat} {X : ie_X} {sl : Array Slot} {pc len : Nat} {ls : ie_L} {st : List Value} {h : ie_H}
set_option maxHeartbeats 2000000 in
theorem ie_runX {n d' m' ci : Nat} {i : Instr} {r : Nat × Nat × Nat} {ini : Bool} {as rest : List Value} {h1 : ie_H} (hP : ie_Snd l D kA b0 scr X n) (Cx : ie_Cx p s mid meth c m) (G : ie_G D kA b0 scr X s s.heap) (hdg : decode (ie_by m) pc = .ok (i, len)) (hck : ie_ck m (ie_oname (ie_info m).1.1) ini (pc, (i, len), r) = true)
    (hs : ie_step X m i r pc ls st h = some (.inr (.inl (m', as, rest)))) (hlg : ie_lgs 0 as = ie_lg m' ∧ (ie_sp as).length ≤ ie_mx m') (hev : ie_ev X n d' m' (0, ie_en m' as, [], h) = some (.inr ci, h1)) (htm : ie_tm.contains m' = true) (hlen : h1.length < ie_S)
    (hRl : ie_Rl D kA b0 scr s z0 m ls h H locs cells slots sl) (hsz : H.size = b0 + h.length) (hRc : b0 + h1.length ≤ s.heap.size + R.cells) (hRs : ie_sm h1 ≤ z0 + R.slots) (hRf : d' + 9 ≤ R.frames) (hRo : 160 + 60 * d' ≤ R.locals) :
    vx_Run p l e R s mid args below meth c H locs cells slots (h1.length - h.length) (ie_sm h1 - ie_sm h) (F0 mid pc sl (st.map (ie_cv b0 scr))) (rest.map (ie_cv b0 scr)) (fun _ _ _ => False) (ie_Qx D kA b0 scr ci h1) (ie_A b0) := by
  obtain ⟨hx, hb, hml, hown, hlocks, hret, hini⟩ := Cx
  obtain ⟨hP1, hS, hz, hsl, hlo⟩ := hRl
  obtain ⟨r1, r2, w⟩ := r
  have hmo := ie_ev_mono _ _ _ _ _ _ hev
  simp only at hmo
  obtain ⟨hmr, hcat, hh⟩ := ie_step_call hs
  simp only at hmr hh
  subst hmr
  have gW := G.1
  have hem := ie_tmm htm
  have S : CallFix p mid c (ie_by m) (ie_mx m) s args [] (ie_oname (ie_info m).1.1) := ⟨hx, hb, hml, hown, fun _ hw => nomatch hw⟩
  have hW : ∀ g : List Value, 2 * (F0 mid pc sl g).monitorRoom + ((rest.map (ie_cv b0 scr)).map fun v => v.category).sum ≤ 8 := fun g => by rw [ie_mr, ie_cat_cv]; omega
  have hf : cells + (h1.length - h.length) ≤ R.cells ∧ slots + (ie_sm h1 - ie_sm h) ≤ R.slots := ⟨by omega, by omega⟩
  rcases hh with ⟨idx, b, fs, rfl, hd, hbc, rfl⟩ | ⟨idx, b, rfl, hne, hd, rfl⟩ | ⟨idx, rfl, hne, hle, rfl, rfl⟩
  · simp only [ie_ck, Bool.and_eq_true, Bool.or_eq_true, decide_eq_true_eq, Bool.not_eq_true'] at hck
    obtain ⟨⟨⟨⟨⟨⟨hl, hml2⟩, hlk0⟩, hm⟩, hn⟩, hst⟩, hni⟩ := hck
    have hlk : lw_tbl[w]? = some (Jvm.Cond.methodLink (ie_oname (ie_info m).1.1) idx (ie_y m')) := by
      rcases hml2 with z | z
      · exact z
      · rw [htm] at z; cases z
    subst hl
    obtain ⟨k1, k2, k3, k4, k5, k6, k7, k8⟩ := ie_mck_spec hm
    rw [if_neg (by rw [hst]; decide)] at k6
    rcases k7 with (k7 | k7) | ⟨k7, kc, k11⟩
    · rw [hst] at k7; cases k7
    · exact absurd k7 hni
    have hM := ie_metX hP hev hm hem hlen hlg hmo
    have hrecv := va_recv G.2.1 hP1 (ie_cl_get _ (by omega)) (ie_ws_get hbc)
    rw [← kc] at hrecv
    have had : ie_ad b0 scr b = b0 + b := by
      have := (List.getElem?_eq_some_iff.mp hbc).1
      unfold ie_ad; rw [if_neg (by omega)]
    have hpv : PreV s H (ie_y m').cls (b0 + b) (ie_Pc D kA b0 scr X h (.ref b :: (st.take r2).reverse)) (((st.take r2).reverse).map (ie_cv b0 scr)) := ⟨ie_Pc_blind, hrecv, fun U hU hWU => by
      have := ie_pre (vs := .ref b :: (st.take r2).reverse) G hP1 hS hsz U hU hWU
      rw [List.map_cons] at this
      show ie_Pc D kA b0 scr X h _ (Value.ref (b0 + b) :: _).toArray U
      rw [← had]
      exact this⟩
    have hstk : (F0 mid pc sl (st.map (ie_cv b0 scr))).stack = (((st.take r2).reverse).map (ie_cv b0 scr)).reverse ++ .ref (b0 + b) :: rest.map (ie_cv b0 scr) := by
      rw [← had]; exact ie_stkV hd
    exact vx_runV S hM ⟨ie_cb G hm hem hn (gW.at hlk rfl args) hRf hRo, gW.at k6 rfl args, gW.at k7 rfl args⟩ hpv rfl (ie_lenV hd) hlo.1 hstk (hW _) hdg hf
  · exfalso
    simp only [ie_ck, Bool.and_eq_true, Bool.or_eq_true, decide_eq_true_eq, Bool.not_eq_true'] at hck
    obtain ⟨hl, hck⟩ := hck
    rcases hck with (⟨hbad, -⟩ | ⟨hbad, -⟩) | ⟨⟨⟨⟨⟨hlk, hm⟩, hn⟩, hst⟩, htm2⟩, hni⟩
    · exact absurd hbad hne
    · subst hbad; exact absurd htm (by decide)
    · rw [htm] at htm2; cases htm2
  · simp only [ie_ck, Bool.and_eq_true, Bool.or_eq_true, decide_eq_true_eq, Bool.not_eq_true'] at hck
    obtain ⟨hl, hck⟩ := hck
    subst hl
    rcases hck with ⟨hbad, -⟩ | ⟨⟨⟨⟨hml2, hlk0⟩, hm⟩, hn⟩, hst⟩
    · exact absurd hbad hne
    have hlk : lw_tbl[w]? = some (Jvm.Cond.methodLink (ie_oname (ie_info m).1.1) idx (ie_y m')) := by
      rcases hml2 with z | z
      · exact z
      · rw [htm] at z; cases z
    obtain ⟨k1, k2, k3, k4, k5, k6, k7, k8⟩ := ie_mck_spec hm
    rw [if_pos hst] at k6
    have hps : PreS s H (ie_Pc D kA b0 scr X h (st.take r2).reverse) (((st.take r2).reverse).map (ie_cv b0 scr)) := ⟨ie_Pc_blind, ie_pre (vs := (st.take r2).reverse) G hP1 hS hsz⟩
    have hln : (((st.take r2).reverse).map (ie_cv b0 scr)).length = r2 := by
      rw [List.length_map, List.length_reverse, List.length_take]; omega
    have hstk : (F0 mid pc sl (st.map (ie_cv b0 scr))).stack = (((st.take r2).reverse).map (ie_cv b0 scr)).reverse ++ (st.drop r2).map (ie_cv b0 scr) := by
      show st.map (ie_cv b0 scr) = _
      rw [← List.map_reverse, List.reverse_reverse, ← List.map_append, List.take_append_drop]
    exact vx_runS S (ie_metX hP hev hm hem hlen hlg hmo) ⟨ie_cb G hm hem hn (gW.at hlk rfl args) hRf hRo, gW.at k6 rfl args⟩ hps rfl hln hlo.1 hstk (hW _) hdg hf
end IEW
set_option maxHeartbeats 2000000 in
theorem ie_sound {l : Launch} (hl : l.stackTraces = false) {D : va_G} {kA : Nat → ClassId} {b0 scr : Nat} {X : ie_X} : ∀ n : Nat, ie_Snd l D kA b0 scr X n
  | 0 => fun d m F o h' he => by unfold ie_ev at he; cases he
  | n + 1 => by
    have ih := ie_sound hl (D := D) (kA := kA) (b0 := b0) (scr := scr) (X := X) n
    intro d m F o h' he hm hlen p e R s mid args below meth c H locs cells slots Q z0 sl Cx htab G hRl hRc hRs hRf hRo hend
    obtain ⟨pc, ls, st, h⟩ := F
    obtain ⟨i, len, r, hat, hh⟩ := ie_ev_inv he
    obtain ⟨ini, hini, hkk⟩ := ie_kall m hm
    obtain ⟨hdg, hck⟩ := hkk _ (ie_at_mem hat)
    simp only at hRl ⊢
    have hmt := ie_ev_mono _ _ _ _ _ _ he
    simp only at hmt hdg
    rcases hh with ⟨F, hs, hev⟩ | hs | ⟨m', as, rest, d', hs, rfl, hlg, hh⟩
    · have hm2 := ie_ev_mono _ _ _ _ _ _ hev
      exact ie_next2 Cx (fun hi => Cx.2.2.2.2.2.2 (hini hi)) G hdg hck hs hRl (by omega) (by omega) (by omega) (by omega) (by omega) (fun H1 locs1 cells1 slots1 sl1 hRl1 => ih d m F o h' hev hm hlen p e R s mid args below meth c H1 locs1 cells1 slots1 Q z0 sl1 Cx htab G hRl1 hRc hRs hRf hRo hend)
    · rcases ie_step_end hs with ⟨k, v, rfl, rfl, rfl, rfl, hvok⟩ | ⟨idx, rfl, hci, hcat, rfl, rfl⟩
      · obtain ⟨hP, hS, hz, hsl, hlo⟩ := hRl
        have hl1 : len = 1 := by
          obtain ⟨r1, r2, w⟩ := r
          unfold ie_ri at hck
          split at hck
          · exact of_decide_eq_true hck
          · split at hck
            · exact of_decide_eq_true hck
            · split at hck
              · exact of_decide_eq_true hck
              · exact of_decide_eq_true hck
        subst hl1
        exact hend H locs cells slots sl pc k hdg hvok hP hS hz hsl
      · obtain ⟨r1, r2, w⟩ := r
        simp only [ie_ck, Bool.and_eq_true, decide_eq_true_eq] at hck
        obtain ⟨⟨hl3, h16⟩, hw⟩ := hck
        obtain ⟨Qc, mc, ms, rfl, hmc, hms⟩ := hend
        simp only at hci hmc hms hRc hRs
        have hsz : ie_sz (.inr (r1, [])) = 6 := by simp only [ie_sz]; rw [if_neg hci]
        rw [ie_sm_push, hsz] at hms hRs
        rw [List.length_append, List.length_singleton] at hmc hRc
        have hz := hRl.2.2.1
        have hsl := hRl.2.2.2.1
        exact ie_thr hl Cx htab G hm hat hl3 h16 hw hci hcat hRl (by omega) (by omega) (by omega) (by omega) (by omega) (by omega)
    · refine ie_szW G.2.2.2.2.2.2.2.2 hRl (fun hsz => ?_)
      rcases hh with ⟨v, h1, hev1, hev2⟩ | ⟨ci, h1, hev1, htm, hh⟩
      · have hm1 := ie_ev_mono _ _ _ _ _ _ hev1
        have hm2 := ie_ev_mono _ _ _ _ _ _ hev2
        simp only at hm1 hm2
        obtain ⟨hrun, -⟩ := ie_runR (R := R) (e := e) (args := args) (below := below) ih Cx G hdg hck hs hlg hev1 (by omega) hRl hsz (by omega) (by omega) (by omega) (by omega)
        obtain ⟨hP, hS, hz, hsl, hlo⟩ := hRl
        refine ie_callR hrun hS (fun H1 locs1 hP1 hS1 => ?_)
        refine ie_skW (ie_map_o v rest) ?_
        exact ih (d' + 1) m (pc + 3, ls, v.toList ++ rest, h1) o h' hev2 hm hlen p e R s mid args below meth c H1 locs1 _ _ Q z0 sl Cx htab G ⟨hP1, hS1, by simp only; omega, by simp only; omega, hlo⟩ hRc hRs hRf hRo hend
      · have hm1 := ie_ev_mono _ _ _ _ _ _ hev1
        simp only at hm1
        rcases hh with ⟨t, t', ls', hhd, hca, hev2⟩ | ⟨hhd, hem, rfl, rfl⟩
        · have hm2 := ie_ev_mono _ _ _ _ _ _ hev2
          simp only at hm2
          have hrun := ie_runX (R := R) (e := e) (args := args) (below := below) ih Cx G hdg hck hs hlg hev1 htm (by omega) hRl hsz (by omega) (by omega) (by omega) (by omega)
          obtain ⟨hP, hS, hz, hsl, hlo⟩ := hRl
          refine ie_callX hrun hS (fun H1 locs1 q ce hP1 hS1 hce hcv hcl => ?_)
          refine ie_catchW Cx htab G hm hhd hca hce hcv hcl hlo (fun sl1 hlo1 => ?_)
          exact ih (d' + 1) m (t', ls', [], h1) o h' hev2 hm hlen p e R s mid args below meth c H1 locs1 _ _ Q z0 sl1 Cx htab G ⟨hP1, hS1, by simp only; omega, by simp only; omega, hlo1⟩ hRc hRs hRf hRo hend
        · have hrun := ie_runX (R := R) (e := e) (args := args) (below := below) ih Cx G hdg hck hs hlg hev1 htm hlen hRl hsz (by omega) (by omega) (by omega) (by omega)
          obtain ⟨hP, hS, hz, hsl, hlo⟩ := hRl
          obtain ⟨Qc, mc, ms, rfl, hmc, hms⟩ := hend
          refine ie_callX hrun hS (fun H1 locs1 q ce hP1 hS1 hce hcv hcl => ?_)
          have htb : c.exceptionTable.toList = [] := htab.trans (ie_h4_nil hem)
          exact vx_out (fun x hx => by rw [htb] at hx; cases hx) Cx.2.2.2.2.1 hce hcv hcl (fun t ht hal => ⟨rfl, by rw [ht]; exact hP1, hS1.F ht⟩) hS1.2.2 (by omega) (by omega)
