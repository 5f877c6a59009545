theorem hdt_nb {n c : Nat} (h : Hv n) (hc : c ∈ hdt n) : c ≠ 123 ∧ c ≠ 125 := by
  unfold hdt at hc
  have hv := cV_lt n
  have hx : Xok (cE n) → ∀ d, d ∈ xt (cE n) → d ≠ 123 ∧ d ≠ 125 := fun h d hd => by
    have := xch_f (h.2.2 d hd)
    exact ⟨this.2.1, this.2.2.1⟩
  rcases h with ⟨k, _, x⟩ | ⟨k, _, ho, x⟩ | ⟨k, _, ho⟩ | ⟨k, _, ho, hl⟩ | ⟨k, _, ho⟩ | ⟨k, _, x⟩ | ⟨k, _, x⟩ | ⟨k, _, ho⟩
  · rw [if_pos k] at hc
    simp only [List.mem_cons, List.mem_append, List.not_mem_nil, or_false] at hc
    rcases hc with hc | hc | hc | hc
    · omega
    · omega
    · exact hx x c hc
    · omega
  · rw [if_neg (by omega), if_pos k] at hc
    simp only [List.mem_cons, List.mem_append, List.not_mem_nil, or_false] at hc
    rcases hc with hc | hc | hc | hc
    · exact hx x c hc
    · omega
    · omega
    · omega
  · rw [if_neg (by omega), if_neg (by omega), if_pos k] at hc
    simp only [List.mem_cons, List.not_mem_nil, or_false] at hc
    omega
  · rw [if_neg (by omega), if_neg (by omega), if_neg (by omega), if_pos k] at hc
    simp only [List.mem_cons, List.not_mem_nil, or_false] at hc
    omega
  · rw [if_neg (by omega), if_neg (by omega), if_neg (by omega), if_neg (by omega), if_pos k] at hc
    simp only [List.mem_cons, List.not_mem_nil, or_false] at hc
    omega
  · rw [if_neg (by omega), if_neg (by omega), if_neg (by omega), if_neg (by omega), if_neg (by omega), if_pos k] at hc
    simp only [List.mem_cons] at hc
    rcases hc with hc | hc
    · omega
    · exact hx x c hc
  · rw [if_neg (by omega), if_neg (by omega), if_neg (by omega), if_neg (by omega), if_neg (by omega), if_neg (by omega), if_pos k] at hc
    simp only [List.mem_cons, List.mem_append] at hc
    rcases hc with hc | hc | hc
    · omega
    · exact hx x c hc
    · have := ldl_m hc
      omega
  · rw [if_neg (by omega), if_neg (by omega), if_neg (by omega), if_neg (by omega), if_neg (by omega), if_neg (by omega), if_neg (by omega)] at hc
    simp only [List.mem_cons, List.not_mem_nil, or_false] at hc
    omega
def Bal (d : Nat) (u : List Nat) : Prop := ∀ w, cpy (d + 1) (u ++ w) = (cpy (d + 1) w).map fun x => (u ++ x.1, x.2)
theorem Bal_nil {d : Nat} : Bal d [] := fun w => by
  show cpy (d + 1) w = (cpy (d + 1) w).map fun x => (x.1, x.2)
  cases cpy (d + 1) w <;> rfl
theorem Bal_app {d : Nat} {u v : List Nat} (h1 : Bal d u) (h2 : Bal d v) : Bal d (u ++ v) := fun w => by
  rw [List.append_assoc, h1, h2]
  cases cpy (d + 1) w with
  | none => rfl
  | some x =>
    show some (u ++ (v ++ x.1), x.2) = some ((u ++ v) ++ x.1, x.2)
    rw [List.append_assoc]
theorem Bal_c {d : Nat} {u : List Nat} (h : ∀ c, c ∈ u → c ≠ 123 ∧ c ≠ 125) : Bal d u := by
  induction u with
  | nil => exact Bal_nil
  | cons c u ih =>
    intro w
    have a := h c List.mem_cons_self
    have b := ih (fun x hx => h x (List.mem_cons_of_mem _ hx)) w
    show cpy (d + 1) (c :: (u ++ w)) = _
    rw [cpy, if_neg a.1, if_neg a.2, b]
    cases cpy (d + 1) w <;> rfl
theorem Bal_b {d : Nat} {u : List Nat} (h : Bal (d + 1) u) : Bal d (123 :: (u ++ [125])) := fun w => by
  show cpy (d + 1) (123 :: ((u ++ [125]) ++ w)) = _
  rw [cpy, if_pos rfl, List.append_assoc, h]
  show pcy 123 ((cpy (d + 2) (125 :: w)).map fun x => (u ++ x.1, x.2)) = _
  rw [cpy, if_neg (by decide), if_pos rfl, if_neg (by omega)]
  show pcy 123 ((pcy 125 (cpy (d + 1) w)).map fun x => (u ++ x.1, x.2)) = _
  cases cpy (d + 1) w with
  | none => rfl
  | some x =>
    show some (123 :: (u ++ (125 :: x.1)), x.2) = some (123 :: ((u ++ [125]) ++ x.1), x.2)
    rw [List.append_assoc]
    rfl
section TX
variable {n l : Nat} {k r x : Fo}
theorem tx_cn : tx 0 (cn n k r) = hdt n ++ (tx (if cK n = 5 then 1 else 2) k ++ tx 0 r) := rfl
theorem tx_1 : tx 1 (cn l x r) = (48 + l) :: 123 :: (tx 0 x ++ 125 :: tx 1 r) := rfl
theorem tx_2 : tx 2 (cn l x r) = 123 :: (tx 0 x ++ 125 :: tx 2 r) := rfl
theorem tx_n {m : Nat} : tx m .nil = [] := by
  match m with
  | 0 => rfl
  | 1 => rfl
  | m + 2 => rfl
theorem WK_r : WK true (cn n k r) ↔ Hv n ∧ Hk n k ∧ WK false k ∧ WK true r := Iff.rfl
theorem WK_k : WK false (cn l x r) ↔ l < 10 ∧ WK true x ∧ WK false r := Iff.rfl
end TX
theorem tx_bal : ∀ (t : Fo) (m : Bool), So m t → WK m t → ∀ d, (m = true → Bal d (tx 0 t)) ∧ (m = false → Bal d (tx 1 t) ∧ Bal d (tx 2 t)) := So_ind (P := fun m t => WK m t → ∀ d, (m = true → Bal d (tx 0 t)) ∧ (m = false → Bal d (tx 1 t) ∧ Bal d (tx 2 t))) (fun m _ d => ⟨fun _ => by rw [tx_n]; exact Bal_nil, fun _ => by rw [tx_n, tx_n]; exact ⟨Bal_nil, Bal_nil⟩⟩) (fun m n k r _ _ _ ihk ihr hw d => by
    cases m with
    | true =>
      obtain ⟨h1, h2, h3, h4⟩ := hw
      refine ⟨fun _ => ?_, fun z => Bool.noConfusion z⟩
      rw [tx_cn]
      refine Bal_app (Bal_c (fun c hc => hdt_nb h1 hc)) (Bal_app ?_ ((ihr h4 d).1 rfl))
      have := (ihk h3 d).2 rfl
      split
      · exact this.1
      · exact this.2
    | false =>
      obtain ⟨h1, h2, h3⟩ := hw
      refine ⟨fun z => Bool.noConfusion z, fun _ => ?_⟩
      have a := Bal_b ((ihk h2 (d + 1)).1 rfl)
      have b := (ihr h3 d).2 rfl
      have c1 : tx 1 (cn n k r) = [48 + n] ++ ((123 :: (tx 0 k ++ [125])) ++ tx 1 r) := by
        rw [tx_1]
        simp
      have c2 : tx 2 (cn n k r) = (123 :: (tx 0 k ++ [125])) ++ tx 2 r := by
        rw [tx_2]
        simp
      rw [c1, c2]
      exact ⟨Bal_app (Bal_c (fun c hc => by simp at hc; omega)) (Bal_app a b.1), Bal_app a b.2⟩)
theorem cpy_case {l : Nat} {x : Fo} {w : List Nat} (h : So true x) (hw : WK true x) (hl : l < 10) : cpy 0 ((48 + l) :: 123 :: (tx 0 x ++ 125 :: w)) = some ((48 + l) :: 123 :: (tx 0 x ++ [125]), w) := by
  rw [cpy, if_neg (by omega), if_neg (by omega), cpy, if_pos rfl, ((tx_bal x true h hw 0).1 rfl)]
  rw [cpy, if_neg (by decide), if_pos rfl, if_pos (by decide)]
  rfl
def NCr : Nat → List Nat → Prop
  | _, [] => True
  | p, c :: l => (∀ w, isC p (c :: (l ++ w)) = false) ∧ NCr c l
theorem Qr_nc : ∀ (l : List Nat) (p : Nat), Qr p l → NCr p l
  | [], _, _ => trivial
  | c :: l, p, h => ⟨fun w => by
      rcases h.1 with q | q
      · exact isC_g q
      · exact isC_n q, Qr_nc l c h.2⟩
theorem Hq_nc {s : List Nat} (h : Hq s) (p : Nat) : NCr p s ∧ Tm s ∧ ∃ c l, s = c :: l := by
  obtain ⟨c, l, rfl, h1, h2, h3⟩ := h
  refine ⟨⟨fun w => ?_, Qr_nc l c h2⟩, h3, c, l, rfl⟩
  rcases h1 with q | ⟨d, v, rfl, q⟩
  · exact isC_n q
  · exact isC_m q
theorem cmp : ∀ (s1 s2 : List Nat) (pa pb : Nat) (la lb out : List Nat), Tm s1 → Tm s2 → NCr pa s1 → NCr pb s2 → (s1 = s2 → ∃ t, (t = 59 ∨ t = 123) ∧ Sx (pa, s1 ++ la, pb, s2 ++ lb, out) (t, la, t, lb, out ++ s1)) ∧ (s1 ≠ s2 → En0 (pa, s1 ++ la, pb, s2 ++ lb, out))
  | [], _, _, _, _, _, _, h, _, _, _ => h.elim
  | _ :: _, [], _, _, _, _, _, _, h, _, _ => h.elim
  | [c], [d], pa, pb, la, lb, out, h1, h2, h3, h4 => by
    refine ⟨fun e => ?_, fun e => ?_⟩
    · cases e
      refine ⟨c, h1, tj_eq (h3.1 la) (h4.1 lb) (fun z => ?_)⟩
      rcases h1 with rfl | rfl <;> cases z
    · exact tj_ne (h3.1 la) (h4.1 lb) (fun z => e (by
        have z' : c = d := z
        rw [z']))
  | [c], d :: x :: l2, pa, pb, la, lb, out, h1, h2, h3, h4 => by
    refine ⟨fun e => (by cases e), fun e => tj_ne (h3.1 la) (h4.1 lb) (fun z => ?_)⟩
    have z' : c = d := z
    subst z'
    rcases h1 with q | q
    · exact h2.1 q
    · exact h2.2.1 q
  | c :: x :: l1, [d], pa, pb, la, lb, out, h1, h2, h3, h4 => by
    refine ⟨fun e => (by cases e), fun e => tj_ne (h3.1 la) (h4.1 lb) (fun z => ?_)⟩
    have z' : c = d := z
    subst z'
    rcases h2 with q | q
    · exact h1.1 q
    · exact h1.2.1 q
  | c :: x :: l1, d :: y :: l2, pa, pb, la, lb, out, h1, h2, h3, h4 => by
    by_cases e : c = d
    · subst e
      have st : Sx (pa, (c :: x :: l1) ++ la, pb, (c :: y :: l2) ++ lb, out) (c, (x :: l1) ++ la, c, (y :: l2) ++ lb, out ++ [c]) := tj_eq (h3.1 la) (h4.1 lb) (fun _ => (h3.2.1 la).trans (h4.2.1 lb).symm)
      obtain ⟨g1, g2⟩ := cmp (x :: l1) (y :: l2) c c la lb (out ++ [c]) h1.2.2 h2.2.2 h3.2 h4.2
      refine ⟨fun e => ?_, fun e => Sx_e st (g2 (fun z => e (by rw [z])))⟩
      obtain ⟨t, t1, t2⟩ := g1 (List.cons.inj e).2
      refine ⟨t, t1, Sx_t st ?_⟩
      rw [List.append_assoc] at t2
      exact t2
    · exact ⟨fun z => (e (List.cons.inj z).1).elim, fun _ => tj_ne (h3.1 la) (h4.1 lb) e⟩
section JE
variable {n j : Nat} {x y r l : Fo}
theorem gek_id (h : So false l) (hl : Lo n l) : gek n l = l := So_ind (P := fun m l => m = false → Lo n l → gek n l = l) (fun _ _ _ => rfl) (fun m i k s _ _ _ _ _ _ hl => by
    show (if i < n then gek n s else cn i k s) = cn i k s
    rw [if_neg (by have := hl.1; omega)]) l false h rfl hl
theorem ltk_id (h : So false l) (hl : Lo n l) : ltk n l = .nil := So_ind (P := fun m l => m = false → Lo n l → ltk n l = .nil) (fun _ _ _ => rfl) (fun m i k s _ _ _ _ _ _ hl => by
    show (if i < n then cn i k (ltk n s) else .nil) = .nil
    rw [if_neg (by have := hl.1; omega)]) l false h rfl hl
theorem J_k : J false (cn n x r) l = (match gid n l with
      | some y => J true x y
      | none => some x).bind fun x' => (J false r (gek (n + 1) l)).bind fun r' => some (ap (ltk n l) (cn n x' r')) := rfl
theorem J_lt (h : j < n) : J false (cn n x r) (cn j y l) = (J false (cn n x r) l).map (cn j y) := by
  rw [J_k, J_k, gid_cn, if_neg (by omega), show gek (n + 1) (cn j y l) = gek (n + 1) l from if_pos (by omega), show ltk n (cn j y l) = cn j y (ltk n l) from if_pos h]
  generalize (match gid n l with
    | some y => J true x y
    | none => some x) = X
  generalize J false r (gek (n + 1) l) = Y
  cases X with
  | none => rfl
  | some x' => cases Y <;> rfl
theorem J_eqk (h : So false l) (hl : Lo (n + 1) l) : J false (cn n x r) (cn n y l) = (J true x y).bind fun x' => (J false r l).bind fun r' => some (cn n x' r') := by
  rw [J_k, gid_cn, if_pos rfl, show gek (n + 1) (cn n y l) = gek (n + 1) l from if_pos (by omega), show ltk n (cn n y l) = .nil from if_neg (by omega), gek_id h hl]
  rfl
theorem J_ge (h : So false l) (hl : Lo (n + 1) l) : J false (cn n x r) l = (J false r l).bind fun r' => some (cn n x r') := by
  rw [J_k, gid_lo h (Nat.lt_succ_self n) hl, gek_id h hl, ltk_id h (Lo_mono h (Nat.le_succ _) hl)]
  rfl
end JE
def Edr (l : List Nat) : Prop := l = [] ∨ ∃ w, l = 125 :: w
def NCs (l : List Nat) : Prop := ∀ p, isC p l = false
theorem Edr_nc {l : List Nat} (h : Edr l) : NCs l := by
  intro p
  rcases h with rfl | ⟨w, rfl⟩
  · exact isC_0
  · exact isC_n (by decide)
theorem Edr_h {l : List Nat} (h : Edr l) : l.headD 0 = 0 ∨ l.headD 0 = 125 := by
  rcases h with rfl | ⟨w, rfl⟩
  · exact Or.inl rfl
  · exact Or.inr rfl
def tlx (n : Nat) (k r : Fo) : List Nat := (if cK n ≤ 5 then tx (if cK n = 5 then 1 else 2) k else (tx 2 k).tail) ++ tx 0 r
theorem tx_hd {n : Nat} {k r : Fo} (h : Hv n) (hk : Hk n k) : tx 0 (cn n k r) = hdx n ++ tlx n k r := by
  rw [tx_cn]
  unfold hdx tlx
  by_cases q : cK n ≤ 5
  · rw [if_pos q, if_pos q]
  · rw [if_neg q, if_neg q, if_neg (show ¬ cK n = 5 by omega)]
    have : ∃ w, tx 2 k = 123 :: w := by
      rcases h with h | h | h | h | h | h | h | h
      · omega
      · omega
      · omega
      · omega
      · omega
      · obtain ⟨x, y, rfl⟩ := hk.2.2.1 h.1
        exact ⟨_, rfl⟩
      · obtain ⟨x, rfl⟩ := hk.2.2.2 (Or.inl h.1)
        exact ⟨_, rfl⟩
      · obtain ⟨x, rfl⟩ := hk.2.2.2 (Or.inr h.1)
        exact ⟨_, rfl⟩
    obtain ⟨w, hw⟩ := this
    rw [hw, List.append_assoc]
    rfl
theorem hdt_5 {n : Nat} (h : cK n = 5) : hdt n = [65 + cO n] := by
  unfold hdt
  rw [if_neg (by omega), if_neg (by omega), if_neg (by omega), if_neg (by omega), if_pos h]
theorem row_nc {r : Fo} {la : List Nat} (h : So true r) (hw : WK true r) (hl : Edr la) : NCs (tx 0 r ++ la) ∧ (r ≠ .nil → (tx 0 r ++ la).headD 0 ≠ 0 ∧ (tx 0 r ++ la).headD 0 ≠ 125) := by
  revert hw
  refine So_ind (P := fun m r => m = true → WK true r → NCs (tx 0 r ++ la) ∧ (r ≠ .nil → (tx 0 r ++ la).headD 0 ≠ 0 ∧ (tx 0 r ++ la).headD 0 ≠ 125)) (fun _ _ _ => ⟨Edr_nc hl, fun z => (z rfl).elim⟩) (fun m n k s _ _ _ _ _ hm hw => ?_) r true h rfl
  obtain ⟨h1, h2, _, _⟩ := hw
  by_cases h5 : cK n = 5
  · have ho : cO n < 8 := cO_lt n
    rw [tx_cn, hdt_5 h5]
    refine ⟨fun p => isC_n (fg_no (by omega)), fun _ => ?_⟩
    show 65 + cO n ≠ 0 ∧ 65 + cO n ≠ 125
    omega
  · rw [tx_hd h1 h2, List.append_assoc]
    have hs := hdx_sg h1 h5
    obtain ⟨_, _, c, l, e⟩ := Hq_nc (hdx_q h1 h5) 0
    refine ⟨fun p => ?_, fun _ => ?_⟩
    · have := (Hq_nc (hdx_q h1 h5) p).1
      rw [e] at this ⊢
      exact this.1 _
    · rw [e] at hs ⊢
      unfold Sg at hs
      have hs' : (cK n = 1 ∧ 119 ≤ c ∧ c ≤ 122 ∧ _) ∨ (cK n = 2 ∧ xch c = true ∧ _) ∨ (cK n = 3 ∧ 65 ≤ c ∧ c ≤ 70 ∧ _) ∨ (cK n = 4 ∧ c = 33) ∨ (cK n = 6 ∧ c = 63) ∨ (cK n = 7 ∧ c = 64) ∨ (cK n = 8 ∧ 65 ≤ c ∧ c ≤ 70 ∧ _) := hs
      show c ≠ 0 ∧ c ≠ 125
      rcases hs' with q | q | q | q | q | q | q
      · omega
      · have := xch_f q.2.1
        exact ⟨this.2.2.2.2.2.2.2.2.2.2, this.2.2.1⟩
      · omega
      · omega
      · omega
      · omega
      · omega
def RowP (a : Fo) : Prop := ∀ b, So true b → WK true b → ∀ (pa pb : Nat) (la lb out : List Nat), Edr la → Edr lb → (∀ c, J true a b = some c → ∃ pa' pb', Sx (pa, tx 0 a ++ la, pb, tx 0 b ++ lb, out) (pa', la, pb', lb, out ++ tx 0 c)) ∧ (J true a b = none → En0 (pa, tx 0 a ++ la, pb, tx 0 b ++ lb, out))
def KidP (a : Fo) : Prop := ∀ b, So false b → WK false b → ∀ (pa pb : Nat) (la lb out : List Nat), gdp pa = false → gdp pb = false → NCs la → NCs lb → (∀ c, J false a b = some c → ∃ pa' pb', Sx (pa, tx 1 a ++ la, pb, tx 1 b ++ lb, out) (pa', la, pb', lb, out ++ tx 1 c)) ∧ (J false a b = none → En0 (pa, tx 1 a ++ la, pb, tx 1 b ++ lb, out))
theorem isC_y {p l : Nat} {w : List Nat} (hp : gdp p = false) (hl : l < 10) : isC p ((48 + l) :: 123 :: w) = true := by
  unfold gdp at hp
  rw [Bool.not_eq_false'] at hp
  unfold isC
  rw [hp]
  show (true && (fgc (48 + l) && decide (123 = 123))) = true
  unfold fgc
  rw [decide_eq_true (by omega)]
  rfl
theorem case_ap {l : Nat} {x r : Fo} {la : List Nat} : tx 1 (cn l x r) ++ la = (48 + l) :: 123 :: (tx 0 x ++ 125 :: (tx 1 r ++ la)) := by
  rw [tx_1]
  simp
theorem case_out {l : Nat} {x r : Fo} {out : List Nat} : out ++ ((48 + l) :: 123 :: (tx 0 x ++ [125])) ++ tx 1 r = out ++ tx 1 (cn l x r) := by
  rw [tx_1]
  simp
theorem KidP_nil : KidP .nil := by
  intro b hb hw pa pb la lb out ga gb na nb
  refine ⟨fun c hc => ?_, fun h => by cases h⟩
  cases hc
  rw [show tx 1 (.nil : Fo) ++ la = la from rfl]
  refine So_ind (P := fun m b => m = false → ∀ (pb : Nat), gdp pb = false → WK false b → ∀ (out : List Nat), ∃ pa' pb', Sx (pa, la, pb, tx 1 b ++ lb, out) (pa', la, pb', lb, out ++ tx 1 b)) (fun _ _ pb _ _ out => ?_) (fun m l x r h1 _ _ _ ih hm pb gb hw out => ?_) b false hb rfl pb gb hw out
  · rw [tx_n, List.append_nil]
    exact ⟨pa, pb, Sx_r⟩
  · subst hm
    obtain ⟨w1, w2, w3⟩ := hw
    obtain ⟨pa', pb', h⟩ := ih rfl 125 (by decide) w3 (out ++ ((48 + l) :: 123 :: (tx 0 x ++ [125])))
    rw [case_out] at h
    refine ⟨pa', pb', Sx_t ?_ h⟩
    rw [case_ap]
    have := tj_B (pa := pa) (la := la) (out := out) (isC_y (l := l) (w := tx 0 x ++ 125 :: (tx 1 r ++ lb)) gb w1) (Or.inl (na pa)) (cpy_case h1 w2 w1)
    exact this
theorem st_b {c pa pb : Nat} {la lb out : List Nat} (hc : c = 123 ∨ c = 125) : Sx (pa, c :: la, pb, c :: lb, out) (c, la, c, lb, out ++ [c]) := by
  have hf : fgc c = false := by rcases hc with rfl | rfl <;> rfl
  have hp : ptc c = false := by rcases hc with rfl | rfl <;> rfl
  exact tj_eq (isC_n hf) (isC_n hf) (fun z => by rw [hp] at z; cases z)
theorem KidP_cn {n : Nat} {x r : Fo} (sx : So true x) (sr : So false r) (lr : Lo (n + 1) r) (wn : n < 10) (wx : WK true x) (hx : RowP x) (hr : KidP r) : KidP (cn n x r) := by
  intro b hb hw pa pb la lb out ga gb na nb
  refine So_ind (P := fun m b => m = false → ∀ (pb : Nat), gdp pb = false → WK false b → ∀ (out : List Nat), (∀ c, J false (cn n x r) b = some c → ∃ pa' pb', Sx (pa, tx 1 (cn n x r) ++ la, pb, tx 1 b ++ lb, out) (pa', la, pb', lb, out ++ tx 1 c)) ∧ (J false (cn n x r) b = none → En0 (pa, tx 1 (cn n x r) ++ la, pb, tx 1 b ++ lb, out))) (fun _ _ pb gb _ out => ?_) (fun m j y l h1 h2 h3 _ ih hm pb gb hw out => ?_) b false hb rfl pb gb hw out
  · obtain ⟨q1, q2⟩ := hr .nil So_nil trivial 125 pb la lb (out ++ ((48 + n) :: 123 :: (tx 0 x ++ [125]))) (by decide) gb na nb
    have st : Sx (pa, tx 1 (cn n x r) ++ la, pb, tx 1 .nil ++ lb, out) (125, tx 1 r ++ la, pb, tx 1 .nil ++ lb, out ++ ((48 + n) :: 123 :: (tx 0 x ++ [125]))) := by
      rw [case_ap]
      have := tj_A (pb := pb) (lb := tx 1 .nil ++ lb) (out := out) (isC_y (l := n) (w := tx 0 x ++ 125 :: (tx 1 r ++ la)) ga wn) (Or.inl (nb pb)) (cpy_case sx wx wn)
      exact this
    rw [J_ge (l := .nil) So_nil trivial]
    refine ⟨fun c hc => ?_, fun h => ?_⟩
    · rw [Option.bind_eq_some_iff] at hc
      obtain ⟨r', e1, e2⟩ := hc
      cases e2
      obtain ⟨pa', pb', h⟩ := q1 r' e1
      rw [case_out] at h
      exact ⟨pa', pb', Sx_t st h⟩
    · rw [Option.bind_eq_none_iff] at h
      cases hj : J false r .nil with
      | none => exact Sx_e st (q2 hj)
      | some r' => exact absurd (h r' hj) (by simp)
  · subst hm
    obtain ⟨w1, w2, w3⟩ := hw
    rcases Nat.lt_trichotomy j n with q | q | q
    · have st : Sx (pa, tx 1 (cn n x r) ++ la, pb, tx 1 (cn j y l) ++ lb, out) (pa, tx 1 (cn n x r) ++ la, 125, tx 1 l ++ lb, out ++ ((48 + j) :: 123 :: (tx 0 y ++ [125]))) := by
        rw [case_ap (l := j)]
        have := tj_B (pa := pa) (la := tx 1 (cn n x r) ++ la) (out := out) (isC_y (l := j) (w := tx 0 y ++ 125 :: (tx 1 l ++ lb)) gb w1) (Or.inr (by
          rw [case_ap]
          show 48 + j < 48 + n
          omega)) (cpy_case h1 w2 w1)
        exact this
      obtain ⟨q1, q2⟩ := ih rfl 125 (by decide) w3 (out ++ ((48 + j) :: 123 :: (tx 0 y ++ [125])))
      rw [J_lt q]
      refine ⟨fun c hc => ?_, fun h => ?_⟩
      · rw [Option.map_eq_some_iff] at hc
        obtain ⟨c', e1, rfl⟩ := hc
        obtain ⟨pa', pb', h⟩ := q1 c' e1
        rw [case_out] at h
        exact ⟨pa', pb', Sx_t st h⟩
      · exact Sx_e st (q2 (Option.map_eq_none_iff.mp h))
    · subst q
      have st : Sx (pa, tx 1 (cn j x r) ++ la, pb, tx 1 (cn j y l) ++ lb, out) (123, tx 0 x ++ 125 :: (tx 1 r ++ la), 123, tx 0 y ++ 125 :: (tx 1 l ++ lb), out ++ [48 + j] ++ [123]) := by
        rw [case_ap, case_ap]
        refine Sx_t (y := (48 + j, 123 :: (tx 0 x ++ 125 :: (tx 1 r ++ la)), 48 + j, 123 :: (tx 0 y ++ 125 :: (tx 1 l ++ lb)), out ++ [48 + j])) ?_ (st_b (Or.inl rfl))
        intro m hm
        obtain ⟨m, rfl⟩ : ∃ k, m = k + 1 := ⟨m - 1, by omega⟩
        refine ⟨m, ?_, ?_⟩
        · unfold sz at hm ⊢
          simp only [List.length_cons] at hm ⊢
          omega
        · rw [tj, if_neg (fun z => by cases z.1), isC_y ga w1, isC_y gb w1, if_neg (fun z => z.2.elim (fun e => Bool.noConfusion e) (fun e => Nat.lt_irrefl _ e)), if_neg (fun z => z.2.elim (fun e => Bool.noConfusion e) (fun e => Nat.lt_irrefl _ e))]
          rw [List.headD_cons, List.headD_cons, if_pos rfl, List.tail_cons, List.tail_cons, if_neg]
          intro z
          have := z.1
          unfold ptc at this
          rw [decide_eq_false (by omega)] at this
          cases this
      obtain ⟨q1, q2⟩ := hx y h1 w2 123 123 (125 :: (tx 1 r ++ la)) (125 :: (tx 1 l ++ lb)) (out ++ [48 + j] ++ [123]) (Or.inr ⟨_, rfl⟩) (Or.inr ⟨_, rfl⟩)
      rw [J_eqk h2 (h3 rfl)]
      refine ⟨fun c hc => ?_, fun h => ?_⟩
      · rw [Option.bind_eq_some_iff] at hc
        obtain ⟨x', e1, hc⟩ := hc
        rw [Option.bind_eq_some_iff] at hc
        obtain ⟨r', e2, e3⟩ := hc
        cases e3
        obtain ⟨pa1, pb1, s1⟩ := q1 x' e1
        obtain ⟨k1, _⟩ := hr l h2 w3 125 125 la lb (out ++ [48 + j] ++ [123] ++ tx 0 x' ++ [125]) (by decide) (by decide) na nb
        obtain ⟨pa2, pb2, s2⟩ := k1 r' e2
        refine ⟨pa2, pb2, Sx_t st (Sx_t s1 (Sx_t (st_b (Or.inr rfl)) ?_))⟩
        have : out ++ [48 + j] ++ [123] ++ tx 0 x' ++ [125] ++ tx 1 r' = out ++ tx 1 (cn j x' r') := by
          rw [tx_1]
          simp
        rw [this] at s2
        exact s2
      · cases hj : J true x y with
        | none => exact Sx_e st (q2 hj)
        | some x' =>
          rw [hj] at h
          obtain ⟨pa1, pb1, s1⟩ := q1 x' hj
          obtain ⟨_, k2⟩ := hr l h2 w3 125 125 la lb (out ++ [48 + j] ++ [123] ++ tx 0 x' ++ [125]) (by decide) (by decide) na nb
          cases hk : J false r l with
          | none => exact Sx_e st (Sx_e s1 (Sx_e (st_b (Or.inr rfl)) (k2 hk)))
          | some r' =>
            rw [hk] at h
            cases h
    · have hlo : Lo (n + 1) (cn j y l) := ⟨by omega, Lo_mono h2 (by omega) (h3 rfl)⟩
      obtain ⟨q1, q2⟩ := hr (cn j y l) ⟨h1, h2, h3⟩ ⟨w1, w2, w3⟩ 125 pb la lb (out ++ ((48 + n) :: 123 :: (tx 0 x ++ [125]))) (by decide) gb na nb
      have st : Sx (pa, tx 1 (cn n x r) ++ la, pb, tx 1 (cn j y l) ++ lb, out) (125, tx 1 r ++ la, pb, tx 1 (cn j y l) ++ lb, out ++ ((48 + n) :: 123 :: (tx 0 x ++ [125]))) := by
        rw [case_ap (l := n)]
        have := tj_A (pb := pb) (lb := tx 1 (cn j y l) ++ lb) (out := out) (isC_y (l := n) (w := tx 0 x ++ 125 :: (tx 1 r ++ la)) ga wn) (Or.inr (by
          rw [case_ap]
          show 48 + n < 48 + j
          omega)) (cpy_case sx wx wn)
        exact this
      rw [J_ge (l := cn j y l) ⟨h1, h2, h3⟩ hlo]
      refine ⟨fun c hc => ?_, fun h => ?_⟩
      · rw [Option.bind_eq_some_iff] at hc
        obtain ⟨r', e1, e2⟩ := hc
        cases e2
        obtain ⟨pa', pb', h⟩ := q1 r' e1
        rw [case_out] at h
        exact ⟨pa', pb', Sx_t st h⟩
      · cases hj : J false r (cn j y l) with
        | none => exact Sx_e st (q2 hj)
        | some r' =>
          rw [hj] at h
          cases h
