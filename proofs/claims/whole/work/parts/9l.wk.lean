theorem tl1_wk {l u p : Nat} {x : Fo} (hl : l < 10) (hp : p < 6) (h : WK true x) : WK true (tl1 l u p x) := by
  unfold tl1
  split
  · have a : cK (cd 4 0 l p 0 0) = 4 := cd_K (by decide)
    have b : cL (cd 4 0 l p 0 0) = l := cd_L (by decide) (by decide) (by omega)
    have c : cO (cd 4 0 l p 0 0) = p := cd_O (by decide) (by decide) (by omega) (by omega)
    exact ⟨Or.inr (Or.inr (Or.inr (Or.inl ⟨a, by rw [b, c], by rw [c]; exact hp, by rw [b]; exact hl⟩))), ⟨fun _ => rfl, fun z => by omega, fun z => by omega, fun z => by omega⟩, trivial, h⟩
  · exact h
theorem tel_wk {l u : Nat} {x : Fo} (hl : l < 10) (h : WK true x) : WK true (tel l u x) := tl1_wk hl (by decide) (tl1_wk hl (by decide) (tl1_wk hl (by decide) (tl1_wk hl (by decide) (tl1_wk hl (by decide) (tl1_wk hl (by decide) h)))))
theorem WK_ap {a b : Fo} (ha : So true a) (wa : WK true a) (wb : WK true b) : WK true (ap a b) := So_ind (P := fun m a => m = true → WK true a → WK true (ap a b)) (fun _ _ _ => wb) (fun m n k r _ _ _ _ ih hm hw => by
    subst hm
    exact ⟨hw.1, hw.2.1, hw.2.2.1, ih rfl hw.2.2.2⟩) a true ha rfl wa
theorem WK_of {c : Fo} (h : So false c) : (∀ i x, gid i c = some x → i < 10 ∧ WK true x) → WK false c := So_ind (P := fun m c => m = false → (∀ i x, gid i c = some x → i < 10 ∧ WK true x) → WK false c) (fun _ _ _ => trivial) (fun m n k r _ h2 h3 _ ih hm hg => by
    subst hm
    have a := hg n k (by rw [gid_cn, if_pos rfl])
    refine ⟨a.1, a.2, ih rfl (fun i x hi => hg i x ?_)⟩
    rw [gid_cn, if_neg, hi]
    intro e
    subst e
    rw [gid_lo h2 (Nat.lt_succ_self _) (h3 rfl)] at hi
    cases hi) c false h rfl
theorem WK_get {c x : Fo} {i : Nat} (h : So false c) : WK false c → gid i c = some x → i < 10 ∧ WK true x := So_ind (P := fun m c => m = false → WK false c → gid i c = some x → i < 10 ∧ WK true x) (fun _ _ _ h => by cases h) (fun m n k r _ _ _ _ ih hm hw hg => by
    subst hm
    rw [gid_cn] at hg
    split at hg
    · next e =>
      cases hg
      rw [e]
      exact ⟨hw.1, hw.2.1⟩
    · exact ih rfl hw.2.2 hg) c false h rfl
theorem J_wk : ∀ (a : Fo) (m : Bool), So m a → WK m a → ∀ (b c : Fo), So m b → WK m b → J m a b = some c → WK m c ∧ (m = false → (∀ i x, gid i a = some x → ∀ y z, So true y → WK true y → J true x y = some z → WK true z) ∧ ((∃ l x r, a = cn l x r) → ∃ l x r, c = cn l x r)) := So_ind (P := fun m a => WK m a → ∀ (b c : Fo), So m b → WK m b → J m a b = some c → WK m c ∧ (m = false → (∀ i x, gid i a = some x → ∀ y z, So true y → WK true y → J true x y = some z → WK true z) ∧ ((∃ l x r, a = cn l x r) → ∃ l x r, c = cn l x r))) (fun m _ b c hb wb hj => by
    cases m with
    | true =>
      refine ⟨?_, fun z => Bool.noConfusion z⟩
      revert hj
      refine So_ind (P := fun m b => m = true → J true .nil b = some c → WK true c) (fun _ _ h => ?_) (fun _ _ _ _ _ _ _ _ _ _ h => ?_) b true hb rfl
      · cases h
        exact trivial
      · cases h
    | false =>
      cases hj
      exact ⟨wb, fun _ => ⟨fun i x h => (by cases h), fun ⟨l, x, r, h⟩ => by cases h⟩⟩) (fun m n k r h1 h2 h3 ihk ihr wa b c hb wb hj => by
    cases m with
    | true =>
      refine ⟨?_, fun z => Bool.noConfusion z⟩
      revert hj
      refine So_ind (P := fun m b => m = true → WK true b → J true (cn n k r) b = some c → WK true c) (fun _ _ _ h => ?_) (fun m n2 l s g1 g2 _ _ _ hm wb h => ?_) b true hb rfl wb
      · cases h
      · subst hm
        rw [J_r] at h
        split at h
        · next e =>
          subst e
          obtain ⟨a1, a2, a3, a4⟩ := wa
          obtain ⟨b1, b2, b3, b4⟩ := wb
          rw [Option.bind_eq_some_iff] at h
          obtain ⟨k', e1, h⟩ := h
          rw [Option.bind_eq_some_iff] at h
          obtain ⟨r', e2, h⟩ := h
          cases h
          obtain ⟨p1, p2⟩ := ihk a3 l k' g1 b3 e1
          refine ⟨a1, ⟨fun z => ?_, fun z => (p2 rfl).2 (a2.2.1 z), fun z => ?_, fun z => ?_⟩, p1, (ihr a4 s r' g2 b4 e2).1⟩
          · rw [a2.1 z, b2.1 z] at e1
            cases e1
            rfl
          · obtain ⟨x, y, rfl⟩ := a2.2.2.1 z
            obtain ⟨x2, y2, rfl⟩ := b2.2.2.1 z
            rw [J_eqk g1.2.1 (g1.2.2 rfl), J_eqk (l := .nil) So_nil trivial, Option.bind_eq_some_iff] at e1
            obtain ⟨x', _, e1⟩ := e1
            rw [Option.bind_eq_some_iff] at e1
            obtain ⟨q, e3, e1⟩ := e1
            cases e1
            rw [Option.bind_eq_some_iff] at e3
            obtain ⟨y', _, e3⟩ := e3
            cases e3
            exact ⟨x', y', rfl⟩
          · obtain ⟨x, rfl⟩ := a2.2.2.2 z
            obtain ⟨x2, rfl⟩ := b2.2.2.2 z
            rw [J_eqk (l := .nil) So_nil trivial, Option.bind_eq_some_iff] at e1
            obtain ⟨x', _, e1⟩ := e1
            cases e1
            exact ⟨x', rfl⟩
        · cases h
    | false =>
      obtain ⟨w1, w2, w3⟩ := wa
      have hm := (Jm (cn n k r) false ⟨h1, h2, h3⟩ b c hb hj)
      obtain ⟨_, _, sc, hm⟩ := hm
      obtain ⟨_, hm⟩ := hm rfl
      have hJ : J false r (gek (n + 1) b) ≠ none := by
        intro e
        rw [J_k, e] at hj
        rw [Option.bind_eq_some_iff] at hj
        obtain ⟨_, _, h⟩ := hj
        cases h
      have gks := gek_so (n := n + 1) hb
      have hx : ∀ i x, gid i (cn n k r) = some x → ∀ y z, So true y → WK true y → J true x y = some z → WK true z := by
        intro i x hi y z sy wy hz
        rw [gid_cn] at hi
        split at hi
        · cases hi
          exact (ihk w2 y z sy wy hz).1
        · cases hr : J false r (gek (n + 1) b) with
          | none => exact (hJ hr).elim
          | some r' =>
            exact ((ihr w3 _ r' gks.1 (WK_of gks.1 (fun i x hx => by
              rw [gks.2.2.2 i] at hx
              split at hx
              · exact WK_get hb wb hx
              · cases hx)) hr).2 rfl).1 i x hi y z sy wy hz
      refine ⟨WK_of sc (fun i z hi => ?_), fun _ => ⟨hx, fun _ => ?_⟩⟩
      · cases ha : gid i (cn n k r) with
        | none =>
          rw [(hm i).1 ha] at hi
          exact WK_get hb wb hi
        | some x =>
          have wx := WK_get (c := cn n k r) ⟨h1, h2, h3⟩ ⟨w1, w2, w3⟩ ha
          cases hy : gid i b with
          | none =>
            rw [(hm i).2.1 x ha hy] at hi
            cases hi
            exact wx
          | some y =>
            obtain ⟨z', e1, e2, _⟩ := (hm i).2.2 x y ha hy
            rw [e1] at hi
            cases hi
            exact ⟨wx.1, hx i x ha y z (gid_so hb hy) (WK_get hb wb hy).2 e2⟩
      · have hg : gid n c ≠ none := by
          have a : gid n (cn n k r) = some k := by rw [gid_cn, if_pos rfl]
          cases hy : gid n b with
          | none =>
            rw [(hm n).2.1 k a hy]
            exact fun z => by cases z
          | some y =>
            obtain ⟨z', e1, _⟩ := (hm n).2.2 k y a hy
            rw [e1]
            exact fun z => by cases z
        revert hg
        refine So_ind (P := fun m c => gid n c ≠ none → ∃ l x r, c = cn l x r) (fun _ h => (h rfl).elim) (fun _ l x r _ _ _ _ _ _ => ⟨l, x, r, rfl⟩) c false sc)
section CW
variable {s p : Nat} {x y : Fo}
theorem cD8 {s : Nat} (h : cD s < 6) : cD s < 8 := by omega
theorem smA_wk (h : PWs s) (wx : WK true x) : WK true (smA s p x) := by
  obtain ⟨hd, hk, hx, hl⟩ := h
  have lf : ∀ n, cK n ≤ 4 → Hk n .nil := fun n h => ⟨fun _ => rfl, fun z => by omega, fun z => by omega, fun z => by omega⟩
  unfold smA
  split
  · next k =>
    split
    · have a : cK (cd 1 (cV s) 0 0 0 (cE s)) = 1 := cd_K (by decide)
      have b : cV (cd 1 (cV s) 0 0 0 (cE s)) = cV s := cd_V (by decide) (cV_lt s)
      have c : cE (cd 1 (cV s) 0 0 0 (cE s)) = cE s := cd_E (by decide) (cV_lt s) (by decide) (by decide) (by decide)
      exact ⟨Or.inl ⟨a, by rw [b, c], by rw [c]; exact hx (by omega)⟩, lf _ (by omega), trivial, wx⟩
    · exact wx
  · split
    · next k =>
      have ho : cO s < 6 := by rcases hk with q | ⟨_, q, _⟩ <;> omega
      split
      · have a : cK (cd 2 0 0 (cO s) 0 (cE s)) = 2 := cd_K (by decide)
        have b : cO (cd 2 0 0 (cO s) 0 (cE s)) = cO s := cd_O (by decide) (by decide) (by decide) (cO_lt s)
        have c : cE (cd 2 0 0 (cO s) 0 (cE s)) = cE s := cd_E (by decide) (by decide) (by decide) (cO_lt s) (by decide)
        exact ⟨Or.inr (Or.inl ⟨a, by rw [b, c], by rw [b]; exact ho, by rw [c]; exact hx (by omega)⟩), lf _ (by omega), trivial, wx⟩
      · split
        · have a : cK (cd 3 (cV s) 0 (cD s) 0 0) = 3 := cd_K (by decide)
          have b : cO (cd 3 (cV s) 0 (cD s) 0 0) = cD s := cd_O (by decide) (cV_lt s) (by decide) (cD8 hd)
          have c : cV (cd 3 (cV s) 0 (cD s) 0 0) = cV s := cd_V (by decide) (cV_lt s)
          exact ⟨Or.inr (Or.inr (Or.inl ⟨a, by rw [b, c], by rw [b]; exact hd⟩)), lf _ (by omega), trivial, wx⟩
        · exact wx
    · next k1 k2 =>
      have hk4 : cK s = 4 := by rcases hk with q | ⟨q, _⟩ <;> omega
      have ho : cO s < 6 := by rcases hk with q | ⟨_, q, _⟩ <;> omega
      split
      · have a : cK (cd 4 0 (cL s) (cO s) 0 0) = 4 := cd_K (by decide)
        have b : cO (cd 4 0 (cL s) (cO s) 0 0) = cO s := cd_O (by decide) (by decide) (cL_lt s) (cO_lt s)
        have c : cL (cd 4 0 (cL s) (cO s) 0 0) = cL s := cd_L (by decide) (by decide) (cL_lt s)
        exact ⟨Or.inr (Or.inr (Or.inr (Or.inl ⟨a, by rw [b, c], by rw [b]; exact ho, by rw [c]; exact hl hk4⟩))), lf _ (by omega), trivial, wx⟩
      · split
        · have a : cK (cd 5 0 0 (cD s) 0 0) = 5 := cd_K (by decide)
          have b : cO (cd 5 0 0 (cD s) 0 0) = cD s := cd_O (by decide) (by decide) (by decide) (cD8 hd)
          exact ⟨Or.inr (Or.inr (Or.inr (Or.inr (Or.inl ⟨a, by rw [b], by rw [b]; exact hd⟩)))), ⟨fun z => by omega, fun _ => ⟨_, _, _, rfl⟩, fun z => by omega, fun z => by omega⟩, ⟨hl hk4, wx, trivial⟩, trivial⟩
        · exact wx
theorem rdA_wk {l : Nat} (h : PWb s) (hl : l < 64) (wx : WK true x) (wy : WK true y) : WK true (rdA s l y p x) := by
  have kk : ∀ n, cK n = 7 ∨ cK n = 8 → Hk n (cn 0 y .nil) := fun n h => ⟨fun z => by omega, fun z => by omega, fun z => by omega, fun _ => ⟨y, rfl⟩⟩
  have wk : WK false (cn 0 y .nil) := ⟨by decide, wy, trivial⟩
  unfold rdA
  split
  · have a : cK (cd 7 0 0 0 l (cE s)) = 7 := cd_K (by decide)
    have b : cD (cd 7 0 0 0 l (cE s)) = l := cd_D (by decide) (by decide) (by decide) (by decide) hl
    have c : cE (cd 7 0 0 0 l (cE s)) = cE s := cd_E (by decide) (by decide) (by decide) (by decide) hl
    exact ⟨Or.inr (Or.inr (Or.inr (Or.inr (Or.inr (Or.inr (Or.inl ⟨a, by rw [b, c], by rw [c]; exact h.2⟩)))))), kk _ (Or.inl a), wk, wx⟩
  · split
    · have a : cK (cd 8 0 0 (cD s) 0 0) = 8 := cd_K (by decide)
      have b : cO (cd 8 0 0 (cD s) 0 0) = cD s := cd_O (by decide) (by decide) (by decide) (cD8 h.1)
      exact ⟨Or.inr (Or.inr (Or.inr (Or.inr (Or.inr (Or.inr (Or.inr ⟨a, by rw [b], by rw [b]; exact h.1⟩)))))), kk _ (Or.inr a), wk, wx⟩
    · exact wx
theorem J_wkg {a b : Fo} (ha : So true a) (hb : So true b) (wa : WK true a) (wb : WK true b) : WK true ((J true a b).getD .nil) := by
  cases h : J true a b with
  | none => exact trivial
  | some c => exact (J_wk a true ha wa b c hb wb h).1
theorem chA_wk {c1 c2 : Nat → Fo} (h : PWb s) (wx : WK true x) (s1 : So true (c1 p)) (s2 : So true (c2 p)) (w1 : WK true (c1 p)) (w2 : WK true (c2 p)) : WK true (chA s c1 c2 p x) := by
  unfold chA
  split
  · have a : cK (cd 6 0 0 0 0 (cE s)) = 6 := cd_K (by decide)
    have c : cE (cd 6 0 0 0 0 (cE s)) = cE s := cd_E (by decide) (by decide) (by decide) (by decide) (by decide)
    exact ⟨Or.inr (Or.inr (Or.inr (Or.inr (Or.inr (Or.inl ⟨a, by rw [c], by rw [c]; exact h.2⟩))))), ⟨fun z => by omega, fun z => by omega, fun _ => ⟨_, _, rfl⟩, fun z => by omega⟩, ⟨by decide, tel_wk (by decide) w1, by decide, tel_wk (by decide) w2, trivial⟩, wx⟩
  · split
    · have a : cK (cd 5 0 0 (cD s) 0 0) = 5 := cd_K (by decide)
      have b : cO (cd 5 0 0 (cD s) 0 0) = cD s := cd_O (by decide) (by decide) (by decide) (cD8 h.1)
      exact ⟨Or.inr (Or.inr (Or.inr (Or.inr (Or.inl ⟨a, by rw [b], by rw [b]; exact h.1⟩)))), ⟨fun z => by omega, fun _ => ⟨_, _, _, rfl⟩, fun z => by omega, fun z => by omega⟩, ⟨by decide, w2, by decide, w1, trivial⟩, wx⟩
    · exact WK_ap (J_so s1 s2) (J_wkg s1 s2 w1 w2) wx
end CW
theorem cut_wk {D : Nat → Nat} : ∀ (t : Fo), PW D t → ∀ p, WK true (cut D t p) := PW_ind (fun _ => trivial) (fun _ _ hs _ ih p => smA_wk hs (ih p)) (fun _ _ _ _ _ hb _ _ ih1 ih2 p => rdA_wk hb (bts_lt _) (ih2 p) (ih1 p)) (fun _ _ _ t1 t2 _ _ hb p1 p2 _ ih1 ih2 ih3 p => chA_wk hb (ih3 p) (cut_so t1 p1 p) (cut_so t2 p2 p) (ih1 p) (ih2 p))
