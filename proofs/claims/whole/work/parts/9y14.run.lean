def sA (A : Nat → Nat → Int32) (p k : Nat) : Nat → Nat → Int32 := upA (upA A 36 (upd (A 36) p (Int32.ofNat k))) 37 (upd (A 37) p (-1))
def StO (T : List Nat) (e k : Nat) : Prop := ∃ N, ∀ n, N ≤ n → ∀ (A : Nat → Nat → Int32) (I : Nat → Int32) (p : Nat), TX A p T → x_stand n I A (Int32.ofNat p) (Int32.ofNat e) = some (I, sA A p k, 0)
def EndK (T : List Nat) : Nat → List Fo → Prop
  | e, [] => e = T.length
  | e, t :: L => So true t ∧ WK true t ∧ Sgt T e [125] ∧ ∃ k la, Fol T e k ∧ Sfx T k (tx 0 t ++ la) ∧ Edr la ∧ EndK T (k + (tx 0 t).length) L
def TP (T : List Nat) : List Fo → Nat → Prop
  | [], k => k = T.length
  | t :: L, k => (t = .nil ∧ TP T L k) ∨ (t ≠ .nil ∧ So true t ∧ WK true t ∧ ∃ la, Sfx T k (tx 0 t ++ la) ∧ Edr la ∧ EndK T (k + (tx 0 t).length) L)
def kpo : Nat → Fo → Nat
  | i, .append (.tag l y) r => if i = l then 0 else (tx 0 y).length + 3 + kpo i r
  | _, _ => 0
section ST
variable {T la : List Nat} {j k n p : Nat} {t r ks x : Fo} {L : List Fo}
theorem std_end {e : Nat} (h : e = T.length) : StO T e e := ⟨1, fun n hn A I p ht => by
    obtain ⟨n, rfl⟩ : ∃ m, n = m + 1 := ⟨n - 1, by omega⟩
    have hl := ht.2.2.2.1
    have hp := ht.1
    unfold x_stand
    rw [x_stand_2, if_pos (j_in (by omega) hp), (j_n (n := p) (by omega)).2, ht.2.1, if_pos ((j_le (by omega) (by omega)).mpr (by omega))]
    rfl⟩
theorem std_at (hs : So true t) (hw : WK true t) (hx : Sfx T k (tx 0 t ++ la)) (hl : Edr la) (hn : t ≠ .nil) : StO T k k := ⟨1, fun n hn' A I p ht => by
    obtain ⟨n, rfl⟩ : ∃ m, n = m + 1 := ⟨n - 1, by omega⟩
    have hl' := ht.2.2.2.1
    have hp := ht.1
    have h1 := (row_nc hs hw hl).2 hn
    have g := Sfx_g (i := 0) hx
    rw [Nat.add_zero] at g
    have hk : k < T.length := by
      have := Sfx_le hx
      cases q : tx 0 t ++ la with
      | nil =>
        rw [q] at h1
        exact (h1.1 rfl).elim
      | cons c w =>
        rw [q, List.length_cons] at this
        omega
    have g2 : T.getD k 0 ≠ 125 := by
      rw [g]
      have h2 := h1.2
      cases q : tx 0 t ++ la with
      | nil => exact (by decide)
      | cons c w =>
        rw [q] at h2
        exact h2
    have c1 : T.getD k 0 < 256 := getD_s ht.2.2.2.2
    unfold x_stand
    rw [x_stand_2, if_pos (j_in (by omega) hp), (j_n (n := p) (by omega)).2, ht.2.1, if_neg (mt (j_le (by omega) (by omega)).mp (by omega))]
    refine (xb_some (chr ht (by omega))).trans ?_
    rw [if_neg (mt (cq125 c1).mp g2)]
    rfl⟩
theorem std_fol {e k k' : Nat} (h1 : Sgt T e [125]) (h2 : Fol T e k) (h3 : StO T k k') : StO T e k' := by
  obtain ⟨N1, h2⟩ := h2
  obtain ⟨N2, h3⟩ := h3
  refine ⟨N1 + N2 + 1, fun n hn A I p ht => ?_⟩
  obtain ⟨n, rfl⟩ : ∃ m, n = m + 1 := ⟨n - 1, by omega⟩
  have hl := ht.2.2.2.1
  have hp := ht.1
  have hk := (Sgt_m h1).1
  unfold x_stand
  rw [x_stand_2, if_pos (j_in (by omega) hp), (j_n (n := p) (by omega)).2, ht.2.1, if_neg (mt (j_le (by omega) (by omega)).mp (by omega))]
  refine (xb_some (chr ht (by omega))).trans ?_
  rw [Sgt_g h1, if_pos (by decide)]
  refine (xb_some (h2 n (by omega) A I p ht)).trans ?_
  exact h3 n (by omega) A I p ht
theorem stand_e : ∀ (L : List Fo) (e : Nat), EndK T e L → ∃ k, TP T L k ∧ StO T e k
  | [], e, h => ⟨e, h, std_end h⟩
  | t :: L, e, h => by
    obtain ⟨h1, h2, h3, k, la, h4, h5, h6, h7⟩ := h
    by_cases q : t = .nil
    · subst q
      have h7' : EndK T k L := h7
      obtain ⟨k', a, b⟩ := stand_e L k h7'
      exact ⟨k', Or.inl ⟨rfl, a⟩, std_fol h3 h4 b⟩
    · exact ⟨k, Or.inr ⟨q, h1, h2, la, h5, h6, h7⟩, std_fol h3 h4 (std_at h1 h2 h5 h6 q)⟩
theorem stand_t (h1 : So true t) (h2 : WK true t) (h3 : Sfx T j (tx 0 t ++ la)) (h4 : Edr la) (h5 : EndK T (j + (tx 0 t).length) L) : ∃ k, TP T (t :: L) k ∧ StO T j k := by
  by_cases q : t = .nil
  · subst q
    have h5' : EndK T j L := h5
    obtain ⟨k', a, b⟩ := stand_e L j h5'
    exact ⟨k', Or.inl ⟨rfl, a⟩, b⟩
  · exact ⟨j, Or.inr ⟨q, h1, h2, la, h3, h4, h5⟩, std_at h1 h2 h3 h4 q⟩
theorem Edr_c {w : List Nat} : Edr (125 :: w) := Or.inr ⟨w, rfl⟩
theorem kid_pos : ∀ (cs : Fo), So false cs → WK false cs → ∀ i x, gid i cs = some x → ∃ u post, tx 1 cs = u ++ ((48 + i) :: 123 :: (tx 0 x ++ 125 :: tx 1 post)) ∧ So false post ∧ WK false post ∧ (u = [] ∨ ∃ u', u = u' ++ [125]) ∧ u.length = kpo i cs := fun cs hs => So_ind (P := fun m cs => m = false → WK false cs → ∀ i x, gid i cs = some x → ∃ u post, tx 1 cs = u ++ ((48 + i) :: 123 :: (tx 0 x ++ 125 :: tx 1 post)) ∧ So false post ∧ WK false post ∧ (u = [] ∨ ∃ u', u = u' ++ [125]) ∧ u.length = kpo i cs) (fun m _ _ i x h => by cases h) (fun m l y r s1 s2 s3 _ ih hm hw i x hg => by
    subst hm
    obtain ⟨w1, w2, w3⟩ := hw
    rw [gid_cn] at hg
    have ek : kpo i (cn l y r) = if i = l then 0 else (tx 0 y).length + 3 + kpo i r := rfl
    by_cases q : i = l
    · rw [if_pos q] at hg ek
      cases hg
      subst q
      exact ⟨[], r, tx_1, s2, w3, Or.inl rfl, by rw [ek]; rfl⟩
    · rw [if_neg q] at hg ek
      obtain ⟨u, post, e, a, b, c, d⟩ := ih rfl w3 i x hg
      refine ⟨(48 + l) :: 123 :: (tx 0 y ++ [125]) ++ u, post, ?_, a, b, Or.inr ?_, ?_⟩
      · rw [tx_1, e]
        simp
      · rcases c with rfl | ⟨u', rfl⟩
        · exact ⟨(48 + l) :: 123 :: tx 0 y, by simp⟩
        · exact ⟨(48 + l) :: 123 :: (tx 0 y ++ [125]) ++ u', by simp⟩
      · rw [ek, ← d]
        simp
        omega) cs false hs rfl
theorem ent_5 {i : Nat} (hk : cK n = 5) (hs : So true (cn n ks r)) (hw : WK true (cn n ks r)) (hx : Sfx T j (tx 0 (cn n ks r) ++ la)) (hl : Edr la) (he : EndK T (j + (tx 0 (cn n ks r)).length) L) (hg : gid i ks = some x) : ∃ w, Sfx T (j + 1 + kpo i ks + 2) (tx 0 x ++ 125 :: w) ∧ EndK T (j + 1 + kpo i ks + 2 + (tx 0 x).length) (r :: L) := by
  obtain ⟨s1, s2, _⟩ := hs
  obtain ⟨w1, w2, w3, w4⟩ := hw
  obtain ⟨u, post, e1, e2, e3, e4, e5⟩ := kid_pos ks s1 w3 i x hg
  have hi := WK_get s1 w3 hg
  have sx := gid_so s1 hg
  have ho : cO n < 6 := by
    rcases w1 with ⟨k, _⟩ | ⟨k, _⟩ | ⟨k, _⟩ | ⟨k, _⟩ | ⟨_, _, o⟩ | ⟨k, _⟩ | ⟨k, _⟩ | ⟨k, _⟩
    · omega
    · omega
    · omega
    · omega
    · exact o
    · omega
    · omega
    · omega
  have et : tx 0 (cn n ks r) = (65 + cO n) :: (u ++ ((48 + i) :: 123 :: (tx 0 x ++ 125 :: (tx 1 post ++ tx 0 r)))) := by
    rw [tx_cn, hv_5 hk, if_pos hk, e1]
    simp
  have hx' : Sfx T j ((65 + cO n) :: (u ++ ((48 + i) :: 123 :: (tx 0 x ++ 125 :: (tx 1 post ++ (tx 0 r ++ la)))))) := by
    rw [et] at hx
    simpa using hx
  have b1 := (tx_blc x true sx hi.2).1 rfl
  have f1 := fol_hear ho hi.1 b1 e2 e3 e4 (row_nc s2 w4 hl).1 hx'
  have p0 := Sfx_c (Sfx_c (Sfx_r (Sfx_c hx')))
  have p1 := Sfx_r p0
  have p2 := Sfx_r (Sfx_c p1)
  rw [e5] at p0 p1 p2 f1
  have q0 : j + 1 + kpo i ks + 1 + 1 = j + 1 + kpo i ks + 2 := rfl
  rw [q0] at p0 p1 p2
  refine ⟨_, p0, s2, w4, Sfx_s (u := [125]) p1, _, la, f1, p2, hl, ?_⟩
  rw [et] at he
  have : j + ((65 + cO n) :: (u ++ (48 + i) :: 123 :: (tx 0 x ++ 125 :: (tx 1 post ++ tx 0 r)))).length = j + 1 + kpo i ks + 2 + (tx 0 x).length + 1 + (tx 1 post).length + (tx 0 r).length := by
    rw [← e5]
    simp
    omega
  rw [← this]
  exact he
theorem hv_x (h : Hv n) (hk : cK n = 6 ∨ cK n = 7 ∨ cK n = 1 ∨ cK n = 2) : Xok (cE n) := by
  rcases h with ⟨k, _, x⟩ | ⟨k, _, _, x⟩ | ⟨k, _⟩ | ⟨k, _⟩ | ⟨k, _⟩ | ⟨k, _, x⟩ | ⟨k, _, x⟩ | ⟨k, _⟩
  · exact x
  · exact x
  · omega
  · omega
  · omega
  · exact x
  · exact x
  · omega
theorem hv_o (h : Hv n) (hk : cK n = 2 ∨ cK n = 3 ∨ cK n = 4 ∨ cK n = 5 ∨ cK n = 8) : cO n < 6 := by
  rcases h with ⟨k, _, x⟩ | ⟨k, _, o, x⟩ | ⟨k, _, o⟩ | ⟨k, _, o, _⟩ | ⟨k, _, o⟩ | ⟨k, _, x⟩ | ⟨k, _, x⟩ | ⟨k, _, o⟩
  · omega
  · exact o
  · exact o
  · exact o
  · exact o
  · omega
  · omega
  · exact o
theorem ent_6 {y : Fo} (hk : cK n = 6) (hq : ks = cn 0 x (cn 1 y .nil)) (hs : So true (cn n ks r)) (hw : WK true (cn n ks r)) (hx : Sfx T j (tx 0 (cn n ks r) ++ la)) (hl : Edr la) (he : EndK T (j + (tx 0 (cn n ks r)).length) L) : Sfx T j (63 :: (xt (cE n) ++ 123 :: (tx 0 x ++ 125 :: 123 :: (tx 0 y ++ 125 :: (tx 0 r ++ la))))) ∧ EndK T (j + 1 + (xt (cE n)).length + 1 + (tx 0 x).length) (r :: L) ∧ EndK T (j + 1 + (xt (cE n)).length + 1 + (tx 0 x).length + 1 + 1 + (tx 0 y).length) (r :: L) := by
  subst hq
  obtain ⟨s1, s2, _⟩ := hs
  obtain ⟨w1, w2, w3, w4⟩ := hw
  have hX := hv_x w1 (Or.inl hk)
  have et : tx 0 (cn n (cn 0 x (cn 1 y .nil)) r) = 63 :: (xt (cE n) ++ 123 :: (tx 0 x ++ 125 :: 123 :: (tx 0 y ++ 125 :: tx 0 r))) := by
    rw [tx_cn, hv_6 hk, if_neg (by omega), tx2_6]
    simp
  have hx' : Sfx T j (63 :: (xt (cE n) ++ 123 :: (tx 0 x ++ 125 :: 123 :: (tx 0 y ++ 125 :: (tx 0 r ++ la))))) := by
    rw [et] at hx
    simpa using hx
  have bx := (tx_blc x true s1.1 w3.2.1).1 rfl
  have by' := (tx_blc y true s1.2.1.1 w3.2.2.2.1).1 rfl
  have f0 := fol_ch0 hX bx by' hx'
  have f1 := fol_ch1 hX bx by' hx'
  have p0 := Sfx_r (Sfx_c (Sfx_r (Sfx_c hx')))
  have p1 := Sfx_r (Sfx_c (Sfx_c p0))
  have p2 := Sfx_c p1
  have el : j + (tx 0 (cn n (cn 0 x (cn 1 y .nil)) r)).length = j + 1 + (xt (cE n)).length + 1 + (tx 0 x).length + 1 + 1 + (tx 0 y).length + 1 + (tx 0 r).length := by
    rw [et]
    simp
    omega
  rw [el] at he
  exact ⟨hx', ⟨s2, w4, Sfx_s (u := [125]) p0, _, la, f0, p2, hl, he⟩, ⟨s2, w4, Sfx_s (u := [125]) p1, _, la, f1, p2, hl, he⟩⟩
theorem ent_7 (hk : cK n = 7) (hq : ks = cn 0 x .nil) (hs : So true (cn n ks r)) (hw : WK true (cn n ks r)) (hx : Sfx T j (tx 0 (cn n ks r) ++ la)) (hl : Edr la) (he : EndK T (j + (tx 0 (cn n ks r)).length) L) : Sfx T j (64 :: ((xt (cE n) ++ ldl (cD n)) ++ 123 :: (tx 0 x ++ 125 :: (tx 0 r ++ la)))) ∧ EndK T (j + 1 + (xt (cE n) ++ ldl (cD n)).length + 1 + (tx 0 x).length) (cn n ks r :: L) ∧ EndK T (j + 1 + (xt (cE n) ++ ldl (cD n)).length + 1 + (tx 0 x).length + 1 + (tx 0 r).length) L := by
  have hs' := hs
  have hw' := hw
  obtain ⟨s1, s2, _⟩ := hs
  obtain ⟨w1, w2, w3, w4⟩ := hw
  have hX := hv_x w1 (Or.inr (Or.inl hk))
  have et : tx 0 (cn n ks r) = 64 :: ((xt (cE n) ++ ldl (cD n)) ++ 123 :: (tx 0 x ++ 125 :: tx 0 r)) := by
    rw [tx_cn, hv_7 hk, if_neg (by omega), hq, tx2_7]
    simp
  have hx' : Sfx T j (64 :: ((xt (cE n) ++ ldl (cD n)) ++ 123 :: (tx 0 x ++ 125 :: (tx 0 r ++ la)))) := by
    rw [et] at hx
    simpa using hx
  rw [hq] at s1 w3
  have bx := (tx_blc x true s1.1 w3.2.1).1 rfl
  have f0 := fol_rou hX bx hx'
  have p0 := Sfx_r (Sfx_c (Sfx_r (Sfx_c hx')))
  have el : j + (tx 0 (cn n ks r)).length = j + 1 + (xt (cE n) ++ ldl (cD n)).length + 1 + (tx 0 x).length + 1 + (tx 0 r).length := by
    rw [et]
    simp
    omega
  refine ⟨hx', ⟨hs', hw', Sfx_s (u := [125]) p0, j, la, f0, hx, hl, he⟩, ?_⟩
  rw [← el]
  exact he
theorem ent_8 (hk : cK n = 8) (hq : ks = cn 0 x .nil) (hs : So true (cn n ks r)) (hw : WK true (cn n ks r)) (hx : Sfx T j (tx 0 (cn n ks r) ++ la)) (hl : Edr la) (he : EndK T (j + (tx 0 (cn n ks r)).length) L) : Sfx T j ((65 + cO n) :: 64 :: 123 :: (tx 0 x ++ 125 :: (tx 0 r ++ la))) ∧ EndK T (j + 1 + 1 + 1 + (tx 0 x).length) (cn n ks r :: L) ∧ EndK T (j + 1 + 1 + 1 + (tx 0 x).length + 1 + (tx 0 r).length) L := by
  have hs' := hs
  have hw' := hw
  obtain ⟨s1, s2, _⟩ := hs
  obtain ⟨w1, w2, w3, w4⟩ := hw
  have et : tx 0 (cn n ks r) = (65 + cO n) :: 64 :: 123 :: (tx 0 x ++ 125 :: tx 0 r) := by
    rw [tx_cn, hv_8 hk, if_neg (by omega), hq, tx2_7]
    simp
  have hx' : Sfx T j ((65 + cO n) :: 64 :: 123 :: (tx 0 x ++ 125 :: (tx 0 r ++ la))) := by
    rw [et] at hx
    simpa using hx
  rw [hq] at s1 w3
  have bx := (tx_blc x true s1.1 w3.2.1).1 rfl
  have f0 := fol_fol bx hx'
  have p0 := Sfx_r (Sfx_c (Sfx_c (Sfx_c hx')))
  have el : j + (tx 0 (cn n ks r)).length = j + 1 + 1 + 1 + (tx 0 x).length + 1 + (tx 0 r).length := by
    rw [et]
    simp
    omega
  refine ⟨hx', ⟨hs', hw', Sfx_s (u := [125]) p0, j, la, f0, hx, hl, he⟩, ?_⟩
  rw [← el]
  exact he
theorem ent_s (hk : cK n ≤ 4) (hw : WK true (cn n ks r)) (hx : Sfx T j (tx 0 (cn n ks r) ++ la)) (he : EndK T (j + (tx 0 (cn n ks r)).length) L) : Sfx T j (hdt n ++ (tx 0 r ++ la)) ∧ EndK T (j + (hdt n).length + (tx 0 r).length) L := by
  obtain ⟨w1, w2, w3, w4⟩ := hw
  have et : tx 0 (cn n ks r) = hdt n ++ tx 0 r := by
    rw [tx_cn, w2.1 hk, tx_n]
    rfl
  rw [et] at hx he
  rw [List.append_assoc] at hx
  rw [List.length_append, ← Nat.add_assoc] at he
  exact ⟨hx, he⟩
end ST
