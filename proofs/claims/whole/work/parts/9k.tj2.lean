theorem J_r {n m : Nat} {k r l s : Fo} : J true (cn n k r) (cn m l s) = if n = m then (J false k l).bind fun k' => (J true r s).bind fun r' => some (cn n k' r') else none := rfl
theorem pt_gd {c : Nat} (h : 65 ≤ c ∧ c ≤ 70) : ptc c = true ∧ gdp c = false := by
  have : ptc c = true := by unfold ptc; exact decide_eq_true h
  refine ⟨this, ?_⟩
  unfold gdp
  rw [this]
  rfl
theorem isC_k {c : Nat} {k : Fo} {w : List Nat} (h : 65 ≤ c ∧ c ≤ 70) (hk : ∃ l x r, k = cn l x r) (hw : WK false k) : isC c (tx 1 k ++ w) = true := by
  obtain ⟨l, x, r, rfl⟩ := hk
  rw [case_ap]
  exact isC_y (pt_gd h).2 hw.1
theorem hdx_ap {n : Nat} {k r : Fo} {out : List Nat} (h : Hv n) (hk : Hk n k) : out ++ hdx n ++ tlx n k r = out ++ tx 0 (cn n k r) := by
  rw [tx_hd h hk, List.append_assoc]
theorem hdx_2nd {m p : Nat} {w : List Nat} (h : Hv m) (h5 : cK m ≠ 5) {c : Nat} {l : List Nat} (e : hdx m = c :: l) (hc : 65 ≤ c ∧ c ≤ 70) : isC c (l ++ w) = false := by
  obtain ⟨h1, h2, _⟩ := Hq_nc (hdx_q h h5) p
  rw [e] at h1 h2
  cases l with
  | nil =>
    have h2' : c = 59 ∨ c = 123 := h2
    omega
  | cons d l => exact h1.2.1 w
theorem RowP_ne {n m : Nat} {k r l s : Fo} (hn : Hv n) (hm : Hv m) (kn : Hk n k) (km : Hk m l) (wk : WK false k) (wl : WK false l) (hne : n ≠ m) (pa pb : Nat) (la lb out : List Nat) : En0 (pa, tx 0 (cn n k r) ++ la, pb, tx 0 (cn m l s) ++ lb, out) := by
  by_cases a : cK n = 5
  · have ho : cO n < 6 := by
      rcases hn with h | h | h | h | h | h | h | h <;> omega
    rw [tx_cn, hdt_5 a, if_pos a]
    by_cases b : cK m = 5
    · have ho2 : cO m < 6 := by
        rcases hm with h | h | h | h | h | h | h | h <;> omega
      rw [tx_cn, hdt_5 b, if_pos b]
      refine tj_ne (isC_n (fg_no (by omega))) (isC_n (fg_no (by omega))) ?_
      show 65 + cO n ≠ 65 + cO m
      intro e
      have e1 : n = cd 5 0 0 (cO n) 0 0 := by
        rcases hn with h | h | h | h | h | h | h | h <;> first | omega | exact h.2.1
      have e2 : m = cd 5 0 0 (cO m) 0 0 := by
        rcases hm with h | h | h | h | h | h | h | h <;> first | omega | exact h.2.1
      exact hne (by rw [e1, e2, show cO n = cO m by omega])
    · rw [tx_hd hm km]
      obtain ⟨g1, g2, c, v, e⟩ := Hq_nc (hdx_q hm b) pb
      rw [e] at g1
      rw [e]
      by_cases q : 65 + cO n = c
      · rw [← q] at e g1 ⊢
        show En0 (pa, (65 + cO n) :: ((tx 1 k ++ tx 0 r) ++ la), pb, (65 + cO n) :: ((v ++ tlx m l s) ++ lb), out)
        refine tj_nc (isC_n (fg_no (by omega))) ?_ (pt_gd (by omega)).1 ?_
        · rw [List.append_assoc]
          exact g1.1 _
        · rw [List.append_assoc, List.append_assoc, isC_k (by omega) (kn.2.1 a) wk, hdx_2nd (p := 0) hm b e (by omega)]
          exact Bool.noConfusion
      · refine tj_ne (isC_n (fg_no (by omega))) ?_ q
        show isC pb (c :: ((v ++ tlx m l s) ++ lb)) = false
        rw [List.append_assoc]
        exact g1.1 _
  · rw [tx_hd hn kn]
    obtain ⟨f1, f2, d, u, e'⟩ := Hq_nc (hdx_q hn a) pa
    by_cases b : cK m = 5
    · have ho2 : cO m < 6 := by
        rcases hm with h | h | h | h | h | h | h | h <;> omega
      rw [tx_cn, hdt_5 b, if_pos b]
      rw [e'] at f1
      rw [e']
      by_cases q : d = 65 + cO m
      · rw [q] at e' f1 ⊢
        show En0 (pa, (65 + cO m) :: ((u ++ tlx n k r) ++ la), pb, (65 + cO m) :: ((tx 1 l ++ tx 0 s) ++ lb), out)
        refine tj_nc ?_ (isC_n (fg_no (by omega))) (pt_gd (by omega)).1 ?_
        · rw [List.append_assoc]
          exact f1.1 _
        · rw [List.append_assoc, List.append_assoc, isC_k (by omega) (km.2.1 b) wl, hdx_2nd (p := 0) hn a e' (by omega)]
          exact Bool.noConfusion
      · refine tj_ne ?_ (isC_n (fg_no (by omega))) q
        show isC pa (d :: ((u ++ tlx n k r) ++ la)) = false
        rw [List.append_assoc]
        exact f1.1 _
    · rw [tx_hd hm km, List.append_assoc, List.append_assoc]
      exact (cmp (hdx n) (hdx m) pa pb _ _ out f2 (Hq_nc (hdx_q hm b) pb).2.1 f1 (Hq_nc (hdx_q hm b) pb).1).2 (fun e => hne (hdx_inj hn hm a b e))
theorem RowP_seq {x : tjS} {r s : Fo} {pa pb : Nat} {la lb out : List Nat} (hr : RowP r) (ss : So true s) (ws : WK true s) (ea : Edr la) (eb : Edr lb) (st : Sx x (pa, tx 0 r ++ la, pb, tx 0 s ++ lb, out)) : (∀ c, J true r s = some c → ∃ pa' pb', Sx x (pa', la, pb', lb, out ++ tx 0 c)) ∧ (J true r s = none → En0 x) := by
  obtain ⟨q1, q2⟩ := hr s ss ws pa pb la lb out ea eb
  refine ⟨fun c hc => ?_, fun h => Sx_e st (q2 h)⟩
  obtain ⟨a, b, h⟩ := q1 c hc
  exact ⟨a, b, Sx_t st h⟩
theorem RowP_fin {x : tjS} {n : Nat} {k r l s : Fo} {la lb out : List Nat} (jk : Option Fo) (hj : J false k l = jk) (h1 : ∀ k', jk = some k' → (∀ c, J true r s = some c → ∃ pa' pb', Sx x (pa', la, pb', lb, out ++ tx 0 (cn n k' c))) ∧ (J true r s = none → En0 x)) (h2 : jk = none → En0 x) : (∀ c, J true (cn n k r) (cn n l s) = some c → ∃ pa' pb', Sx x (pa', la, pb', lb, out ++ tx 0 c)) ∧ (J true (cn n k r) (cn n l s) = none → En0 x) := by
  rw [J_r, if_pos rfl, hj]
  cases jk with
  | none => exact ⟨fun c hc => (by cases hc), fun _ => h2 rfl⟩
  | some k' =>
    obtain ⟨q1, q2⟩ := h1 k' rfl
    refine ⟨fun c hc => ?_, fun h => ?_⟩
    · have hc' : ((J true r s).bind fun r' => some (cn n k' r')) = some c := hc
      rw [Option.bind_eq_some_iff] at hc'
      obtain ⟨r', e1, e2⟩ := hc'
      cases e2
      exact q1 r' e1
    · have h' : ((J true r s).bind fun r' => some (cn n k' r')) = none := h
      cases hj : J true r s with
      | none => exact q2 hj
      | some r' =>
        rw [hj] at h'
        cases h'
theorem RowP_nil : RowP .nil := by
  intro b hb hw pa pb la lb out ea eb
  refine So_ind (P := fun m b => m = true → WK true b → (∀ c, J true .nil b = some c → ∃ pa' pb', Sx (pa, tx 0 .nil ++ la, pb, tx 0 b ++ lb, out) (pa', la, pb', lb, out ++ tx 0 c)) ∧ (J true .nil b = none → En0 (pa, tx 0 .nil ++ la, pb, tx 0 b ++ lb, out))) (fun _ _ _ => ⟨fun c hc => ?_, fun h => ?_⟩) (fun m n k r h1 h2 h3 _ _ hm hw => ⟨fun c hc => ?_, fun _ => ?_⟩) b true hb rfl hw
  · cases hc
    refine ⟨pa, pb, ?_⟩
    rw [tx_n, List.append_nil]
    exact Sx_r
  · cases h
  · cases hc
  · subst hm
    obtain ⟨g1, g2⟩ := row_nc (r := cn n k r) ⟨h1, h2, h3⟩ hw eb
    refine tj_ne (Edr_nc ea pa) (g1 pb) (fun z => ?_)
    have := g2 (fun e => by cases e)
    have := Edr_h ea
    have z' : la.headD 0 = (tx 0 (cn n k r) ++ lb).headD 0 := z
    omega
theorem RowP_cn {n : Nat} {k r : Fo} (sk : So false k) (sr : So true r) (hn : Hv n) (kn : Hk n k) (wk : WK false k) (wr : WK true r) (hk : KidP k) (hx : ∀ i x, gid i k = some x → RowP x) (hr : RowP r) : RowP (cn n k r) := by
  intro b hb hw pa pb la lb out ea eb
  refine So_ind (P := fun m b => m = true → WK true b → (∀ c, J true (cn n k r) b = some c → ∃ pa' pb', Sx (pa, tx 0 (cn n k r) ++ la, pb, tx 0 b ++ lb, out) (pa', la, pb', lb, out ++ tx 0 c)) ∧ (J true (cn n k r) b = none → En0 (pa, tx 0 (cn n k r) ++ la, pb, tx 0 b ++ lb, out))) (fun _ _ _ => ⟨fun c hc => ?_, fun h => ?_⟩) (fun m2 m l s h1 h2 h3 _ _ hm hw => ?_) b true hb rfl hw
  · cases hc
  · obtain ⟨g1, g2⟩ := row_nc (r := cn n k r) ⟨sk, sr, fun z => Bool.noConfusion z⟩ ⟨hn, kn, wk, wr⟩ ea
    refine tj_ne (g1 pa) (Edr_nc eb pb) (fun z => ?_)
    have := g2 (fun e => by cases e)
    have := Edr_h eb
    have z' : (tx 0 (cn n k r) ++ la).headD 0 = lb.headD 0 := z
    omega
  · subst hm
    obtain ⟨w1, w2, w3, w4⟩ := hw
    by_cases e : n = m
    · subst e
      by_cases h5 : cK n = 5
      · have ho : cO n < 6 := by
          rcases hn with h | h | h | h | h | h | h | h <;> omega
        have st : Sx (pa, tx 0 (cn n k r) ++ la, pb, tx 0 (cn n l s) ++ lb, out) (65 + cO n, tx 1 k ++ (tx 0 r ++ la), 65 + cO n, tx 1 l ++ (tx 0 s ++ lb), out ++ [65 + cO n]) := by
          rw [tx_cn, hdt_5 h5, if_pos h5, tx_cn, hdt_5 h5, if_pos h5, List.append_assoc, List.append_assoc, List.append_assoc, List.append_assoc]
          exact tj_eq (isC_n (fg_no (by omega))) (isC_n (fg_no (by omega))) (fun _ => (isC_k (by omega) (kn.2.1 h5) wk).trans (isC_k (by omega) (w2.2.1 h5) w3).symm)
        obtain ⟨q1, q2⟩ := hk l h1 w3 (65 + cO n) (65 + cO n) (tx 0 r ++ la) (tx 0 s ++ lb) (out ++ [65 + cO n]) (pt_gd (by omega)).2 (pt_gd (by omega)).2 (row_nc sr wr ea).1 (row_nc h2 w4 eb).1
        refine RowP_fin _ rfl (fun k' e => ?_) (fun e => Sx_e st (q2 e))
        obtain ⟨pa', pb', s2⟩ := q1 k' e
        have := RowP_seq hr h2 w4 ea eb (Sx_t st s2)
        have e2 : ∀ c, out ++ [65 + cO n] ++ tx 1 k' ++ tx 0 c = out ++ tx 0 (cn n k' c) := fun c => by
          rw [tx_cn, hdt_5 h5, if_pos h5]
          simp
        refine ⟨fun c hc => ?_, this.2⟩
        rw [← e2]
        exact this.1 c hc
      · obtain ⟨f1, f2, _⟩ := Hq_nc (hdx_q hn h5) pa
        obtain ⟨t, ht, st⟩ := (cmp (hdx n) (hdx n) pa pb (tlx n k r ++ la) (tlx n l s ++ lb) out f2 f2 f1 (Hq_nc (hdx_q hn h5) pb).1).1 rfl
        rw [← List.append_assoc, ← tx_hd hn kn, ← List.append_assoc, ← tx_hd hn w2] at st
        by_cases h4 : cK n ≤ 4
        · have ek := kn.1 h4
          have el := w2.1 h4
          subst ek el
          refine RowP_fin (some .nil) rfl (fun k' e => ?_) (fun e => by cases e)
          cases e
          have et : ∀ c, tlx n .nil c = tx 0 c := fun c => by
            unfold tlx
            rw [if_pos (by omega), tx_n]
            rfl
          rw [et, et] at st
          have := RowP_seq hr h2 w4 ea eb st
          refine ⟨fun c hc => ?_, this.2⟩
          rw [← hdx_ap hn kn, et]
          exact this.1 c hc
        · by_cases h6 : cK n = 6
          · obtain ⟨x, y, rfl⟩ := kn.2.2.1 h6
            obtain ⟨x2, y2, rfl⟩ := w2.2.2.1 h6
            have et : ∀ x y c w, tlx n (cn 0 x (cn 1 y .nil)) c ++ w = tx 0 x ++ 125 :: 123 :: (tx 0 y ++ 125 :: (tx 0 c ++ w)) := fun x y c w => by
              unfold tlx
              rw [if_neg (by omega), tx_2, tx_2, tx_n]
              simp
            have et0 : ∀ x y c, tlx n (cn 0 x (cn 1 y .nil)) c = tx 0 x ++ 125 :: 123 :: (tx 0 y ++ 125 :: tx 0 c) := fun x y c => by
              unfold tlx
              rw [if_neg (by omega), tx_2, tx_2, tx_n]
              simp
            rw [et, et] at st
            have kk : ∀ x' y', Hk n (cn 0 x' (cn 1 y' .nil)) := fun x' y' => ⟨fun z => by omega, fun z => by omega, fun _ => ⟨x', y', rfl⟩, fun z => by omega⟩
            have p1 := RowP_seq (hx 0 x rfl) h1.1 w3.2.1 (Or.inr ⟨_, rfl⟩) (Or.inr ⟨_, rfl⟩) st
            have hje : J false (cn 0 x (cn 1 y .nil)) (cn 0 x2 (cn 1 y2 .nil)) = (J true x x2).bind fun x' => ((J true y y2).bind fun y' => some (cn 0 x' (cn 1 y' .nil))) := by
              rw [J_eqk h1.2.1 (h1.2.2 rfl), J_eqk (l := .nil) So_nil trivial]
              cases J true x x2 with
              | none => rfl
              | some _ => cases J true y y2 <;> rfl
            refine RowP_fin _ hje (fun k' e => ?_) (fun e => ?_)
            · rw [Option.bind_eq_some_iff] at e
              obtain ⟨x', e1, e⟩ := e
              rw [Option.bind_eq_some_iff] at e
              obtain ⟨y', e2, e⟩ := e
              cases e
              obtain ⟨a1, b1, s1⟩ := p1.1 x' e1
              have p2 := RowP_seq (hx 1 y rfl) h1.2.1.1 w3.2.2.2.1 (Or.inr ⟨_, rfl⟩) (Or.inr ⟨_, rfl⟩) (Sx_t s1 (Sx_t (st_b (Or.inr rfl)) (st_b (Or.inl rfl))))
              obtain ⟨a2, b2, s2⟩ := p2.1 y' e2
              have p3 := RowP_seq hr h2 w4 ea eb (Sx_t s2 (st_b (Or.inr rfl)))
              refine ⟨fun c hc => ?_, p3.2⟩
              have e3 : out ++ tx 0 (cn n (cn 0 x' (cn 1 y' .nil)) c) = out ++ hdx n ++ tx 0 x' ++ [125] ++ [123] ++ tx 0 y' ++ [125] ++ tx 0 c := by
                rw [← hdx_ap hn (kk x' y'), et0]
                simp
              rw [e3]
              exact p3.1 c hc
            · cases e1 : J true x x2 with
              | none => exact p1.2 e1
              | some x' =>
                obtain ⟨a1, b1, s1⟩ := p1.1 x' e1
                have p2 := RowP_seq (hx 1 y rfl) h1.2.1.1 w3.2.2.2.1 (Or.inr ⟨_, rfl⟩) (Or.inr ⟨_, rfl⟩) (Sx_t s1 (Sx_t (st_b (Or.inr rfl)) (st_b (Or.inl rfl))))
                cases e2 : J true y y2 with
                | none => exact p2.2 e2
                | some y' =>
                  rw [e1, e2] at e
                  cases e
          · have h78 : cK n = 7 ∨ cK n = 8 := by
              rcases hn with h | h | h | h | h | h | h | h <;> omega
            obtain ⟨x, rfl⟩ := kn.2.2.2 h78
            obtain ⟨x2, rfl⟩ := w2.2.2.2 h78
            have et : ∀ x c w, tlx n (cn 0 x .nil) c ++ w = tx 0 x ++ 125 :: (tx 0 c ++ w) := fun x c w => by
              unfold tlx
              rw [if_neg (by omega), tx_2, tx_n]
              simp
            have et0 : ∀ x c, tlx n (cn 0 x .nil) c = tx 0 x ++ 125 :: tx 0 c := fun x c => by
              unfold tlx
              rw [if_neg (by omega), tx_2, tx_n]
              simp
            rw [et, et] at st
            have kk : ∀ x', Hk n (cn 0 x' .nil) := fun x' => ⟨fun z => by omega, fun z => by omega, fun z => by omega, fun _ => ⟨x', rfl⟩⟩
            have p1 := RowP_seq (hx 0 x rfl) h1.1 w3.2.1 (Or.inr ⟨_, rfl⟩) (Or.inr ⟨_, rfl⟩) st
            have hje : J false (cn 0 x .nil) (cn 0 x2 .nil) = (J true x x2).bind fun x' => some (cn 0 x' .nil) := by
              rw [J_eqk (l := .nil) So_nil trivial]
              cases J true x x2 <;> rfl
            refine RowP_fin _ hje (fun k' e => ?_) (fun e => ?_)
            · rw [Option.bind_eq_some_iff] at e
              obtain ⟨x', e1, e⟩ := e
              cases e
              obtain ⟨a1, b1, s1⟩ := p1.1 x' e1
              have p3 := RowP_seq hr h2 w4 ea eb (Sx_t s1 (st_b (Or.inr rfl)))
              refine ⟨fun c hc => ?_, p3.2⟩
              have e3 : out ++ tx 0 (cn n (cn 0 x' .nil) c) = out ++ hdx n ++ tx 0 x' ++ [125] ++ tx 0 c := by
                rw [← hdx_ap hn (kk x'), et0]
                simp
              rw [e3]
              exact p3.1 c hc
            · cases e1 : J true x x2 with
              | none => exact p1.2 e1
              | some x' =>
                rw [e1] at e
                cases e
    · refine ⟨fun c hc => ?_, fun _ => RowP_ne hn w1 kn w2 wk w3 e pa pb la lb out⟩
      rw [J_r, if_neg e] at hc
      cases hc
theorem tj_all : ∀ (t : Fo) (m : Bool), So m t → WK m t → (m = true → RowP t) ∧ (m = false → KidP t ∧ ∀ i x, gid i t = some x → RowP x) := So_ind (P := fun m t => WK m t → (m = true → RowP t) ∧ (m = false → KidP t ∧ ∀ i x, gid i t = some x → RowP x)) (fun m _ => ⟨fun _ => RowP_nil, fun _ => ⟨KidP_nil, fun i x h => by cases h⟩⟩) (fun m n k r h1 h2 h3 ihk ihr hw => by
    cases m with
    | true =>
      obtain ⟨w1, w2, w3, w4⟩ := hw
      obtain ⟨a, b⟩ := (ihk w3).2 rfl
      exact ⟨fun _ => RowP_cn h1 h2 w1 w2 w3 w4 a b ((ihr w4).1 rfl), fun z => Bool.noConfusion z⟩
    | false =>
      obtain ⟨w1, w2, w3⟩ := hw
      obtain ⟨a, b⟩ := (ihr w3).2 rfl
      have hx := (ihk w2).1 rfl
      refine ⟨fun z => Bool.noConfusion z, fun _ => ⟨KidP_cn h1 h2 (h3 rfl) w1 w2 hx a, fun i x hi => ?_⟩⟩
      rw [gid_cn] at hi
      split at hi
      · cases hi
        exact hx
      · exact b i x hi)
theorem tj_J {a b : Fo} (ha : So true a) (hb : So true b) (wa : WK true a) (wb : WK true b) (n : Nat) (hn : (tx 0 a).length + (tx 0 b).length < n) : (∀ c, J true a b = some c → tj n (0, tx 0 a, 0, tx 0 b, []) = some (true, tx 0 c)) ∧ (J true a b = none → ∃ o, tj n (0, tx 0 a, 0, tx 0 b, []) = some (false, o)) := by
  obtain ⟨q1, q2⟩ := (tj_all a true ha wa).1 rfl b hb wb 0 0 [] [] [] (Or.inl rfl) (Or.inl rfl)
  rw [List.append_nil, List.append_nil] at q1 q2
  refine ⟨fun c hc => ?_, fun h => ?_⟩
  · obtain ⟨pa, pb, s⟩ := q1 c hc
    obtain ⟨n', h1, h2⟩ := s n hn
    obtain ⟨n', rfl⟩ : ∃ k, n' = k + 1 := ⟨n' - 1, by omega⟩
    rw [h2, tj, if_pos ⟨rfl, rfl⟩]
    rfl
  · obtain ⟨o, h⟩ := q2 h
    exact ⟨o, h n hn⟩
