section RC2
variable {n : Nat} {D : Nat → Nat} {pi : Bool} {cnt B th : Nat}
theorem cut_f {S : hS} {P w r d : Nat} {v : Option Nat} (hf : CtF S th P w) (hP : P < 2 ^ 31) (hz : S.1 + 20 < ie_S) (hd : d ≤ 6) (hn : 20 ≤ n) : ∃ S' , yC_cutRow n (r + 1) S th v (Int32.ofNat d) = some (S', some S.1) ∧ Md2 S S' [] ∧ CtF S' th P w ∧ S'.1 = S.1 + 7 := by
  obtain ⟨S0, e1, e2, e3, e4⟩ := ini_ok (S0 := S) (th := th) (n := n) (r := r) (v := v) (d := d) hz hd (by omega)
  have hf0 : CtF S0 th P w := by
    obtain ⟨c1, c2, c3⟩ := hf
    have hl := (ztg_lt c1).1
    have e := fun k => (e3.2.2.1 k th hl (fun z => by cases z)).1
    exact ⟨Md2_tg e3 c1, by rw [e]; exact c2, by rw [e]; exact c3⟩
  refine ⟨S0, e1.trans ?_, e3, hf0, e2⟩
  obtain ⟨m, hm⟩ : ∃ m, n - 7 = m + 1 := ⟨n - 8, by omega⟩
  rw [hm, yC_cutRow_44]
  cases v with
  | none => rfl
  | some c =>
    show (if ztg S0 th = 3 then (if zI S0 2 th = -1 then _ else _) else none) = _
    rw [if_pos hf0.1, if_neg (ctf_no hf0 hP)]
theorem dq_ap : ∀ (t y : Fo), dq true (ap t y) = max (dq true t) (dq true y)
  | .append (.tag a k) r, y => by
    show max (dq false k) (dq true (ap r y)) = max (max (dq false k) (dq true r)) (dq true y)
    rw [dq_ap r y]
    omega
  | .append .nil _, _ => (Nat.zero_max _).symm
  | .append .line _, _ => (Nat.zero_max _).symm
  | .append (.align _) _, _ => (Nat.zero_max _).symm
  | .append (.text _) _, _ => (Nat.zero_max _).symm
  | .append (.nest _ _) _, _ => (Nat.zero_max _).symm
  | .append (.append _ _) _, _ => (Nat.zero_max _).symm
  | .append (.group _ _) _, _ => (Nat.zero_max _).symm
  | .nil, _ => (Nat.zero_max _).symm
  | .line, _ => (Nat.zero_max _).symm
  | .align _, _ => (Nat.zero_max _).symm
  | .text _, _ => (Nat.zero_max _).symm
  | .nest _ _, _ => (Nat.zero_max _).symm
  | .group _ _, _ => (Nat.zero_max _).symm
  | .tag _ _, _ => (Nat.zero_max _).symm
theorem dq_le : ∀ (k : Fo), So false k → ∀ M, (∀ i x, gid i k = some x → 1 + dq true x ≤ M) → dq false k ≤ M := fun k hk M => So_ind (P := fun m k => m = false → (∀ i x, gid i k = some x → 1 + dq true x ≤ M) → dq false k ≤ M) (fun _ _ _ => Nat.zero_le _) (fun m l x r _ h2 h3 _ ih hm hg => by
    subst hm
    have e : dq false (cn l x r) = max (1 + dq true x) (dq false r) := rfl
    have a := hg l x (by rw [gid_cn, if_pos rfl])
    have b := ih rfl (fun i y hi => hg i y (by
      rw [gid_cn, if_neg, hi]
      intro e
      subst e
      rw [gid_lo h2 (Nat.lt_succ_self _) (h3 rfl)] at hi
      cases hi))
    omega) k false hk rfl
theorem J_dq : ∀ (a : Fo) (m : Bool), So m a → ∀ (b c : Fo), So m b → J m a b = some c → dq m c ≤ max (dq m a) (dq m b) ∧ (m = false → ∀ i x y z, gid i a = some x → So true y → J true x y = some z → dq true z ≤ max (dq true x) (dq true y)) := So_ind (P := fun m a => ∀ (b c : Fo), So m b → J m a b = some c → dq m c ≤ max (dq m a) (dq m b) ∧ (m = false → ∀ i x y z, gid i a = some x → So true y → J true x y = some z → dq true z ≤ max (dq true x) (dq true y))) (fun m b c hb hj => by
    cases m with
    | true =>
      refine ⟨?_, fun z => Bool.noConfusion z⟩
      rcases So_cs hb with rfl | ⟨_, _, _, rfl, _⟩
      · cases hj
        exact Nat.zero_le _
      · cases hj
    | false =>
      cases hj
      exact ⟨Nat.le_max_right _ _, fun _ i x y z h => by cases h⟩) (fun m n k r h1 h2 h3 ihk ihr b c hb hj => by
    cases m with
    | true =>
      refine ⟨?_, fun z => Bool.noConfusion z⟩
      rcases So_cs hb with rfl | ⟨n2, l, s, rfl, q1, q2, _⟩
      · cases hj
      · rw [J_r] at hj
        split at hj
        · rw [Option.bind_eq_some_iff] at hj
          obtain ⟨k', e1, hj⟩ := hj
          rw [Option.bind_eq_some_iff] at hj
          obtain ⟨r', e2, hj⟩ := hj
          cases hj
          have a := (ihk l k' q1 e1).1
          have b := (ihr s r' q2 e2).1
          have d1 : dq true (cn n k r) = max (dq false k) (dq true r) := rfl
          have d2 : dq true (cn n2 l s) = max (dq false l) (dq true s) := rfl
          have d3 : dq true (cn n k' r') = max (dq false k') (dq true r') := rfl
          have a' : dq false k' ≤ max (dq false k) (dq false l) := a
          omega
        · cases hj
    | false =>
      obtain ⟨_, _, sc, hm⟩ := Jm (cn n k r) false ⟨h1, h2, h3⟩ b c hb hj
      obtain ⟨_, hm⟩ := hm rfl
      have gks := gek_so (n := n + 1) hb
      have hx : ∀ i x y z, gid i (cn n k r) = some x → So true y → J true x y = some z → dq true z ≤ max (dq true x) (dq true y) := fun i x y z hi sy hz => by
        rw [gid_cn] at hi
        split at hi
        · cases hi
          exact (ihk y z sy hz).1
        · have hj' := hj
          rw [J_k, Option.bind_eq_some_iff] at hj'
          obtain ⟨_, _, hj'⟩ := hj'
          rw [Option.bind_eq_some_iff] at hj'
          obtain ⟨r', e2, _⟩ := hj'
          exact (ihr _ r' gks.1 e2).2 rfl i x y z hi sy hz
      refine ⟨dq_le c sc _ (fun i z hz => ?_), fun _ => hx⟩
      cases ha : gid i (cn n k r) with
      | none =>
        rw [(hm i).1 ha] at hz
        have := (dq_gid hb hz).1
        omega
      | some x =>
        have dx := (dq_gid (k := cn n k r) ⟨h1, h2, h3⟩ ha).1
        cases hy : gid i b with
        | none =>
          rw [(hm i).2.1 x ha hy] at hz
          cases hz
          omega
        | some y =>
          obtain ⟨z', e1, e2, _⟩ := (hm i).2.2 x y ha hy
          rw [e1] at hz
          cases hz
          have dy := (dq_gid hb hy).1
          have := hx i x y z ha (gid_so hb hy) e2
          omega)
theorem dq_tl {l u p : Nat} {x : Fo} : dq true (tl1 l u p x) = dq true x := by
  unfold tl1
  split
  · show max 0 (dq true x) = dq true x
    exact Nat.zero_max _
  · rfl
theorem dq_tel {l u : Nat} {x : Fo} : dq true (tel l u x) = dq true x := by
  unfold tel
  rw [dq_tl, dq_tl, dq_tl, dq_tl, dq_tl, dq_tl]
theorem dq_cut {p : Nat} : ∀ (t : Fo), PW D t → dq true (cut D t p) ≤ nsm t := PW_ind (Nat.le_refl _) (fun q r _ _ ih => by
    have en : nsm (cn q .nil r) = 1 + nsm r := rfl
    show dq true (smA (D q) p (cut D r p)) ≤ _
    have e1 : ∀ c x, dq true (cn c .nil x) = max 0 (dq true x) := fun _ _ => rfl
    have e2 : ∀ c l x, dq true (cn c (cn l x .nil) .nil) = max (max (1 + dq true x) 0) 0 := fun _ _ _ => rfl
    unfold smA
    split
    · split
      · rw [e1]; omega
      · omega
    · split
      · split
        · rw [e1]; omega
        · split
          · rw [e1]; omega
          · omega
      · split
        · rw [e1]; omega
        · split
          · rw [e2]; omega
          · omega) (fun q i t1 r _ _ _ _ ih1 ih2 => by
    have en : nsm (cn q (cn i t1 .nil) r) = 1 + nsm t1 + nsm r := rfl
    show dq true (rdA (D q) (led (D q) (occ D t1)) (cut D t1 p) p (cut D r p)) ≤ _
    have e2 : ∀ c x y, dq true (cn c (cn 0 x .nil) y) = max (max (1 + dq true x) 0) (dq true y) := fun _ _ _ => rfl
    unfold rdA
    split
    · rw [e2]; omega
    · split
      · rw [e2]; omega
      · omega) (fun q i j t1 t2 r _ _ p1 p2 _ ih1 ih2 ih3 => by
    have en : nsm (cn q (cn i t1 (cn j t2 .nil)) r) = 1 + nsm t1 + nsm t2 + nsm r := rfl
    show dq true (chA (D q) (cut D t1) (cut D t2) p (cut D r p)) ≤ _
    have e2 : ∀ c x y z, dq true (cn c (cn 0 x (cn 1 y .nil)) z) = max (max (1 + dq true x) (max (1 + dq true y) 0)) (dq true z) := fun _ _ _ _ => rfl
    unfold chA
    split
    · rw [e2, dq_tel, dq_tel]; omega
    · split
      · rw [e2]; omega
      · rw [dq_ap]
        cases hj : J true (cut D t1 p) (cut D t2 p) with
        | none =>
          show max 0 _ ≤ _
          omega
        | some c =>
          have := (J_dq _ true (cut_so t1 p1 p) _ c (cut_so t2 p2 p) hj).1
          show max (dq true c) _ ≤ _
          omega)
end RC2
