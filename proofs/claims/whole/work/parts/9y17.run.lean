def Stk (S : hS) : List (Fo × Fo) → Option Nat → Prop
  | [], v => v = none
  | x :: L, v => ∃ u E, Rp S true x.1 x.2 (fun _ => u) ∧ BH S true x.1 x.2 E ∧ Stk S L E ∧ v = orE u E
def remL : List (Fo × Fo) → Fo
  | [] => .nil
  | x :: L => ap x.1 (remL L)
def LW (L : List (Fo × Fo)) : Prop := ∀ x, x ∈ L → So true x.1 ∧ WK true x.1
def NdS (S : hS) (a n : Nat) (ks r ks' r' : Fo) (L : List (Fo × Fo)) (E : Option Nat) : Prop := Ndd S a n ks ∧ Rp S false ks ks' (zAR S (a + 1)) ∧ Rp S true r r' (fun _ => zR S 8 a) ∧ zR S 9 a = orE (zR S 8 a) E ∧ BH S false ks ks' (if kLp n = true then some a else zR S 9 a) ∧ BH S true r r' E ∧ Stk S L E
section SK
variable {S S' : hS} {L : List (Fo × Fo)} {v E : Option Nat} {a n i : Nat} {ks r ks' r' x t sh : Fo} {T : List Nat} {k : Nat}
theorem orE_m {u E : Option Nat} : orE u E = (match u with | none => E | some b => some b) := by cases u <;> rfl
theorem Stk_nd (h : Stk S ((cn n ks r, sh) :: L) v) : ∃ ks' r' E a, sh = cn a ks' r' ∧ v = some a ∧ NdS S a n ks r ks' r' L E := by
  obtain ⟨u, E, h1, h2, h3, h4⟩ := h
  obtain ⟨a, ks', r', e, g1, nd, rk, rr⟩ := Rp_r h1
  have e' : sh = cn a ks' r' := e
  subst e'
  obtain ⟨b1, b2, b3⟩ := h2
  have g1' : u = some a := g1
  subst g1'
  refine ⟨ks', r', E, a, rfl, h4, nd, rk, rr, ?_, b2, b3, h3⟩
  rw [orE_m, b1]
  cases zR S 8 a <;> rfl
theorem Stk_of (h : NdS S a n ks r ks' r' L E) : Stk S ((cn n ks r, cn a ks' r') :: L) (some a) ∧ Stk S ((r, r') :: L) (zR S 9 a) := by
  obtain ⟨nd, rk, rr, h9, bk, br, st⟩ := h
  refine ⟨⟨some a, E, Rp_rm rfl nd rk rr, ⟨?_, bk, br⟩, st, rfl⟩, ⟨zR S 8 a, E, rr, br, st, h9⟩⟩
  rw [h9, orE_m]
  cases zR S 8 a <;> rfl
theorem Stk_norm : ∀ (L : List (Fo × Fo)) (v : Option Nat), LW L → Stk S L v → TP T (L.map Prod.fst) k → (v = none ∧ remL L = .nil ∧ k = T.length) ∨ ∃ a n ks r ks' r' L' E, v = some a ∧ NdS S a n ks r ks' r' L' E ∧ remL L = cn n ks (ap r (remL L')) ∧ LW ((cn n ks r, cn a ks' r') :: L') ∧ ∃ la, Sfx T k (tx 0 (cn n ks r) ++ la) ∧ Edr la ∧ EndK T (k + (tx 0 (cn n ks r)).length) (L'.map Prod.fst)
  | [], v, _, h, ht => Or.inl ⟨h, rfl, ht⟩
  | (t, sh) :: L, v, hw, h, ht => by
    have hL : LW L := fun x hx => hw x (List.mem_cons_of_mem _ hx)
    rcases So_cs (hw (t, sh) List.mem_cons_self).1 with e | ⟨n, ks, r, e, _⟩
    · have e' : t = .nil := e
      subst e'
      obtain ⟨u, E, h1, h2, h3, h4⟩ := h
      have hu : u = none := (Rp_n h1).2 rfl
      subst hu
      have h4' : v = E := h4
      subst h4'
      have ht' : TP T (L.map Prod.fst) k := by
        rcases ht with ⟨_, h⟩ | ⟨h, _⟩
        · exact h
        · exact (h rfl).elim
      exact Stk_norm L v hL h3 ht'
    · have e' : t = cn n ks r := e
      subst e'
      obtain ⟨ks', r', E, a, e1, e2, e3⟩ := Stk_nd h
      subst e1
      have ht' : ∃ la, Sfx T k (tx 0 (cn n ks r) ++ la) ∧ Edr la ∧ EndK T (k + (tx 0 (cn n ks r)).length) (L.map Prod.fst) := by
        rcases ht with ⟨h, _⟩ | ⟨_, _, _, la, h1, h2, h3⟩
        · cases h
        · exact ⟨la, h1, h2, h3⟩
      exact Or.inr ⟨a, n, ks, r, ks', r', L, E, e2, e3, rfl, hw, ht'⟩
theorem BH_gid {x x' : Fo} (hs : So false ks) : ∀ sh G, Rp S false ks sh G → BH S false ks sh E → gid i ks = some x → gid i sh = some x' → BH S true x x' E := So_ind (P := fun m ks => m = false → ∀ sh G, Rp S false ks sh G → BH S false ks sh E → gid i ks = some x → gid i sh = some x' → BH S true x x' E) (fun _ _ _ _ _ _ h => by cases h) (fun m l y r _ _ _ _ ih hm sh G h hb hg hg' => by
    subst hm
    obtain ⟨y', r', rfl, h2, h3⟩ := Rp_k h
    rw [gid_cn] at hg hg'
    by_cases e : i = l
    · rw [if_pos e] at hg hg'
      cases hg
      cases hg'
      exact hb.1
    · rw [if_neg e] at hg hg'
      exact ih rfl r' G h3 hb.2 hg hg') ks false hs rfl
theorem enter_ok (h : NdS S a n ks r ks' r' L E) (s1 : So false ks) (ta : ∀ i x, gid i ks = some x → i < pof (cK n)) (hg : gid i ks = some x) : ∃ x' v, yA_enter S a (Int32.ofNat i) = some (S, v) ∧ Stk S ((x, x') :: (if kLp n = true then (cn n ks r, cn a ks' r') else (r, r')) :: L) v := by
  have h' := h
  obtain ⟨nd, rk, rr, h9, bk, br, st⟩ := h
  obtain ⟨t1, t2⟩ := Stk_of h'
  obtain ⟨x', gx, rx, hx⟩ := Rp_gid s1 rk hg
  have hi := ta i x hg
  have hp := pof_le (cK n)
  have nd' := nd
  obtain ⟨a1, _, a3, a4, a5, _, a7⟩ := nd'
  have hbx := BH_gid s1 ks' _ rk bk hg gx
  have hst : Stk S ((if kLp n = true then (cn n ks r, cn a ks' r') else (r, r')) :: L) (if kLp n = true then some a else zR S 9 a) := by
    by_cases q : kLp n = true
    · rw [if_pos q, if_pos q]
      exact t1
    · rw [if_neg q, if_neg q]
      exact t2
  refine ⟨x', orE (zAR S (a + 1) i) (if kLp n = true then some a else zR S 9 a), ?_, ⟨zAR S (a + 1) i, _, rx, hbx, hst, rfl⟩⟩
  unfold yA_enter
  rw [if_pos a1]
  have hh := has_ok nd ta (i := i) (by omega)
  rw [hg] at hh
  refine (zcP_s hh).trans ?_
  show (if ty_b true = 0 then _ else _) = _
  rw [if_neg (by decide), if_pos a1]
  refine zlb_s.trans ((zob_s a3).trans ?_)
  rw [if_pos (zal_27 a4).2, a5, if_pos (j_in (by omega) hi), (j_n (n := i) (by omega)).2]
  refine zlb_s.trans ?_
  cases hz : zAR S (a + 1) i with
  | none =>
    rw [zoc_N]
    refine (zcP_s (again_ok nd)).trans ?_
    cases hk : kLp n with
    | false =>
      show (if ty_b false = 0 then _ else _) = _
      rw [if_pos (by decide), if_pos a1]
      rfl
    | true =>
      show (if ty_b true = 0 then _ else _) = _
      rw [if_neg (by decide)]
      rfl
  | some b =>
    rw [zoc_S]
    refine zlb_s.trans ((zob_s a3).trans ?_)
    rw [if_pos (zal_27 a4).2, a5, if_pos (j_in (by omega) hi), hz]
    rfl
def HF (S S' : hS) : Prop := (∀ x, ztg S x = 2 → ztg S (x + 1) = 27 → Lk S S' x ∧ zR S' 9 x = zR S 9 x)
theorem Stk_fr (hf : HF S S') : ∀ (L : List (Fo × Fo)) (v : Option Nat), LW L → Stk S L v → Stk S' L v
  | [], v, _, h => h
  | (t, sh) :: L, v, hw, h => by
    obtain ⟨u, E, h1, h2, h3, h4⟩ := h
    have ht : ∀ x, x ∈ ad true sh → ztg S x = 2 ∧ ztg S (x + 1) = 27 := fun x hx => Rp_nd t true (hw (t, sh) List.mem_cons_self).1 sh _ h1 x hx
    exact ⟨u, E, Rp_fr t true (hw (t, sh) List.mem_cons_self).1 sh _ h1 (fun x hx => (hf x (ht x hx).1 (ht x hx).2).1), BH_fr t true (hw (t, sh) List.mem_cons_self).1 sh E _ h1 h2 (fun x hx => ⟨(hf x (ht x hx).1 (ht x hx).2).1.2.2.1, (hf x (ht x hx).1 (ht x hx).2).2⟩), Stk_fr hf L E (fun x hx => hw x (List.mem_cons_of_mem _ hx)) h3, h4⟩
end SK
