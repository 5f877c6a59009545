section CS2
variable {S S' : hS} {pa n a sc : Nat} {C : Nat → List Frm} {t s : Nat → Fo}
theorem nA_md {k : Nat} : Md2 S (nA S k) [] := by
  have l0 : ∀ x : Nat, x ∈ [S.1] → ¬ x < S.1 := fun x hx => by
    rw [List.mem_singleton] at hx
    omega
  have step : ∀ {T U : hS}, Md2 S T [] → Md2 T U [S.1] → Md2 S U [] := fun {T U} h1 h2 => Md2_t h1 h2 (fun x hx => by cases hx) (fun x hx hl => (l0 x hx hl).elim) (fun x hx hl => (l0 x hx (by omega)).elim)
  have hNA : ∀ {T : hS} {t m : Nat}, Md2 S T [] → Md2 S (szNA T t m) [] := fun {T t m} h1 => Md2_t (L2 := []) h1 (Md2_NA t m) (fun x hx => by cases hx) (fun x hx => by cases hx) (fun x hx => by cases hx)
  unfold nA
  exact step (hNA (step (Md2_N 1) (Md2_I _ _ _))) (Md2_R _ _ _)
theorem nN_set {v e : Nat} (hv : v < 4) : szL (szI (nA S 1) 1 S.1 (Int32.ofNat v)) S.1 (Int64.ofNat e) = nN S (cd 1 v 0 0 0 e) := by
  unfold nN
  rw [cd_K (by decide), cd_V (by decide) hv, cd_L (by decide) hv (by decide), cd_O (by decide) hv (by decide) (by decide), cd_D (by decide) hv (by decide) (by decide) (by decide), cd_E (by decide) hv (by decide) (by decide) (by decide)]
  have e2 : szI (szI (nA S 1) 1 S.1 (Int32.ofNat v)) 2 S.1 (Int32.ofNat 0) = szI (nA S 1) 1 S.1 (Int32.ofNat v) := sI0 (by rw [zI_k (by decide), nA_I]; rfl)
  have e3 : szI (szI (nA S 1) 1 S.1 (Int32.ofNat v)) 3 S.1 (Int32.ofNat 0) = szI (nA S 1) 1 S.1 (Int32.ofNat v) := sI0 (by rw [zI_k (by decide), nA_I]; rfl)
  have e4 : szI (szI (nA S 1) 1 S.1 (Int32.ofNat v)) 4 S.1 (Int32.ofNat 0) = szI (nA S 1) 1 S.1 (Int32.ofNat v) := sI0 (by rw [zI_k (by decide), nA_I]; rfl)
  rw [e2, e3, e4]
theorem nN_snd {o e : Nat} (ho : o < 8) : szI (szL (nA S 2) S.1 (Int64.ofNat e)) 3 S.1 (Int32.ofNat o) = nN S (cd 2 0 0 o 0 e) := by
  unfold nN
  rw [cd_K (by decide), cd_V (by decide) (by decide), cd_L (by decide) (by decide) (by decide), cd_O (by decide) (by decide) (by decide) ho, cd_D (by decide) (by decide) (by decide) ho (by decide), cd_E (by decide) (by decide) (by decide) ho (by decide)]
  have e1 : szI (nA S 2) 1 S.1 (Int32.ofNat 0) = nA S 2 := sI0 (by rw [nA_I]; rfl)
  have e2 : szI (nA S 2) 2 S.1 (Int32.ofNat 0) = nA S 2 := sI0 (by rw [nA_I]; rfl)
  have e4 : szI (szI (nA S 2) 3 S.1 (Int32.ofNat o)) 4 S.1 (Int32.ofNat 0) = szI (nA S 2) 3 S.1 (Int32.ofNat o) := sI0 (by rw [zI_k (by decide), nA_I]; rfl)
  rw [e1, e2, e4]
  rfl
theorem nN_tak {v o : Nat} (hv : v < 4) (ho : o < 8) : szI (szI (nA S 3) 1 S.1 (Int32.ofNat v)) 3 S.1 (Int32.ofNat o) = nN S (cd 3 v 0 o 0 0) := by
  unfold nN
  rw [cd_K (by decide), cd_V (by decide) hv, cd_L (by decide) hv (by decide), cd_O (by decide) hv (by decide) ho, cd_D (by decide) hv (by decide) ho (by decide), cd_E (by decide) hv (by decide) ho (by decide)]
  have e2 : szI (szI (nA S 3) 1 S.1 (Int32.ofNat v)) 2 S.1 (Int32.ofNat 0) = szI (nA S 3) 1 S.1 (Int32.ofNat v) := sI0 (by rw [zI_k (by decide), nA_I]; rfl)
  have e4 : szI (szI (szI (nA S 3) 1 S.1 (Int32.ofNat v)) 3 S.1 (Int32.ofNat o)) 4 S.1 (Int32.ofNat 0) = szI (szI (nA S 3) 1 S.1 (Int32.ofNat v)) 3 S.1 (Int32.ofNat o) := sI0 (by rw [zI_k (by decide), zI_k (by decide), nA_I]; rfl)
  have e5 : szL (szI (szI (nA S 3) 1 S.1 (Int32.ofNat v)) 3 S.1 (Int32.ofNat o)) S.1 (Int64.ofNat 0) = szI (szI (nA S 3) 1 S.1 (Int32.ofNat v)) 3 S.1 (Int32.ofNat o) := szL_id nA_L
  rw [e2, e4, e5]
theorem zar_26 {c : Nat} (h : ztg S c = 26) : zar S c := by
  unfold zar
  rw [h]
  decide
theorem cSet (h : StD S a sc) (hk : cK sc = 1) (hR : Rws S pa C t s) (hp : cD sc < 6) (hq : S.1 + 2 < ie_S) (hn : 2 ≤ n) : ∃ S', yC_cutSet n S (some a) (some pa) = some S' ∧ newR S pa (cD sc) C t s (cd 1 (cV sc) 0 0 0 (cE sc)) S' := by
  have hnew := new_A (S := S) (k := 1) (by decide) hq
  have htg := (nA_tg (S := S) (k := 1) hq).1
  have md : Md2 S (nA S 1) [] := nA_md
  have heq := nN_set (S := S) (v := cV sc) (e := cE sc) (cV_lt sc)
  generalize nA S 1 = N2 at hnew htg md heq
  obtain ⟨d1, d2, d3, d4, d5, d6, d7⟩ := StD_md h md (fun z => by cases z)
  obtain ⟨r1, r2, r3, r4, _⟩ := Rws_fr hR md
  obtain ⟨S', e1, e2⟩ := new_app (n := n) (m := cd 1 (cV sc) 0 0 0 (cE sc)) hR hp rfl hq hn
  refine ⟨S', ?_, e2⟩
  unfold yC_cutSet
  rw [znw_s (show S.1 < ie_S by omega)]
  refine (zcV_s hnew).trans ?_
  refine (zob_s rfl).trans ?_
  rw [if_pos d1, if_pos htg]
  refine (zob_s rfl).trans ?_
  rw [if_pos (zar_26 r1), d3, r2, if_pos (j_in (by omega) hp), (j_n (n := cD sc) (by omega)).2, r3 _ hp]
  refine zlb_s.trans ((zob_s rfl).trans ?_)
  rw [if_pos (r4 _ hp).1, d5, d7, heq]
  exact (zcV_s e1).trans rfl
theorem cSend (h : StD S a sc) (hk : cK sc = 2) (hR : Rws S pa C t s) (hp : cD sc < 6) (ho : cO sc < 6) (hne : cO sc ≠ cD sc) (ha : a ≠ pa + 1 + cD sc) (ha2 : a ∉ ad true (plS (C (cD sc)) (s (cD sc)))) (hq : S.1 + 4 < ie_S) (hn : 2 ≤ n) : ∃ S1 S', yC_cutSend n S (some a) (some pa) = some S' ∧ newR S pa (cD sc) C t s (cd 2 0 0 (cO sc) 0 (cE sc)) S1 ∧ newR S1 pa (cO sc) C (uf t (cD sc) (ap (t (cD sc)) (cn (cd 2 0 0 (cO sc) 0 (cE sc)) .nil .nil))) (uf s (cD sc) (ap (s (cD sc)) (cn S.1 .nil .nil))) (cd 3 (cV sc) 0 (cD sc) 0 0) S' := by
  have hnew := new_A (S := S) (k := 2) (by decide) (by omega)
  have htg := (nA_tg (S := S) (k := 2) (by omega)).1
  have md : Md2 S (nA S 2) [] := nA_md
  have heq := nN_snd (S := S) (o := cO sc) (e := cE sc) (by omega)
  generalize nA S 2 = N2 at hnew htg md heq
  obtain ⟨d1, d2, d3, d4, d5, d6, d7⟩ := StD_md h md (fun z => by cases z)
  obtain ⟨r1, r2, r3, r4, _⟩ := Rws_fr hR md
  obtain ⟨S1, e1, e2⟩ := new_app (n := n) (m := cd 2 0 0 (cO sc) 0 (cE sc)) hR hp rfl (by omega) hn
  have e20 := e2
  obtain ⟨f1, f2, f3⟩ := e2
  have hnew2 := new_A (S := S1) (k := 3) (by decide) (by omega)
  have htg2 := (nA_tg (S := S1) (k := 3) (by omega)).1
  have md2 : Md2 S1 (nA S1 3) [] := nA_md
  have heq2 := nN_tak (S := S1) (v := cV sc) (o := cD sc) (cV_lt sc) (by omega)
  generalize nA S1 3 = N3 at hnew2 htg2 md2 heq2
  have h1 : StD S1 a sc := StD_md h f2 (fun z => by
    rw [List.mem_cons] at z
    exact z.elim ha ha2)
  have h2 := StD_md h1 md2 (fun z => by cases z)
  obtain ⟨g1, g2, g3, g4, g5, g6, g7⟩ := h2
  obtain ⟨u1, u2, u3, u4, _⟩ := Rws_fr f1 md2
  obtain ⟨S', c1, c2⟩ := new_app (n := n) (m := cd 3 (cV sc) 0 (cD sc) 0 0) f1 ho rfl (by omega) hn
  refine ⟨S1, S', ?_, e20, c2⟩
  unfold yC_cutSend
  rw [znw_s (show S.1 < ie_S by omega)]
  refine (zcV_s hnew).trans ?_
  refine (zob_s rfl).trans ?_
  rw [if_pos d1, if_pos htg]
  refine (zob_s rfl).trans ?_
  rw [if_pos (zar_26 r1), d3, r2, if_pos (j_in (by omega) hp), (j_n (n := cD sc) (by omega)).2, r3 _ hp]
  refine zlb_s.trans ((zob_s rfl).trans ?_)
  rw [if_pos (r4 _ hp).1, d4 (Or.inl hk), d7, heq]
  refine (zcV_s e1).trans ?_
  rw [znw_s (show S1.1 < ie_S by omega)]
  refine (zcV_s hnew2).trans ?_
  have haS : a ≠ S1.1 := by
    have := (ztg_lt h1.1).1
    omega
  have eo : zI (szI (szI N3 1 S1.1 (zI N3 4 a)) 3 S1.1 (zI N3 2 a)) 3 a = Int32.ofNat (cO sc) := by
    rw [zI_ne haS, zI_ne haS]
    exact g4 (Or.inl hk)
  rw [if_pos g1, if_pos htg2, if_pos (zar_26 u1), eo, u2, if_pos (j_in (by omega) ho), (j_n (n := cO sc) (by omega)).2, u3 _ ho]
  refine zlb_s.trans ((zob_s rfl).trans ?_)
  rw [if_pos (u4 _ ho).1, g5, g3, heq2]
  exact (zcV_s c1).trans rfl
end CS2
