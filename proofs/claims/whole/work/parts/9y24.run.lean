def OutS (S : hS) (p : Nat) (K : Nat → Fo) (Y : Nat → Option (hS × Int32)) (X : Nat → Option xR) : Prop := ∃ S1 I B ans k, (∃ N, ∀ m, N ≤ m → Y m = some (S1, ans) ∧ X m = some (I, B, ans)) ∧ k < 36 ∧ Chg p k S S1 ∧ ChR p k (zM0 S) I (zMA S) B ∧ (ans = 0 ∨ ans = 1) ∧ (∃ Q' Kr', RnS (szM S1 I B) K Q' Kr') ∧ (∀ i, i < 24 → zAI S1 6 i = B 34 i) ∧ zI S1 5 2 = zI S 5 2 ∧ I 18 = zM0 S 18 ∧ (ans = 0 → S1 = S ∧ B = zMA S)
def AtN (S : hS) (p : Nat) (T : List Nat) (a n : Nat) (ks r ks' r' : Fo) (L' : List (Fo × Fo)) (E : Option Nat) (j : Nat) (la : List Nat) : Prop := p < 6 ∧ TX (zMA S) p T ∧ NdS S a n ks r ks' r' L' E ∧ LW ((cn n ks r, cn a ks' r') :: L') ∧ Sfx T j (tx 0 (cn n ks r) ++ la) ∧ Edr la ∧ EndK T (j + (tx 0 (cn n ks r)).length) (L'.map Prod.fst) ∧ zMA S 36 p = Int32.ofNat j ∧ zR S 2 (7 + 3 * p) = some a
section C0
variable {S S1 : hS} {p q k h z j a n m pos b : Nat} {I I1 I2 : Nat → Int32} {A A1 A2 B : Nat → Nat → Int32} {K Kr : Nat → Fo} {Q : Nat → Nat → List Nat} {T la : List Nat} {R : Fo} {v w : Int32} {L : List (Fo × Fo)} {f : Nat → Int32}
theorem ChR_t (c1 : ChR p k I I1 A A1) (c2 : ChR p k I1 I2 A1 A2) : ChR p k I I2 A A2 := by
  obtain ⟨a1, a2, a3, a4, a5⟩ := c1
  obtain ⟨b1, b2, b3, b4, b5⟩ := c2
  exact ⟨fun j x y z => (b1 j x y z).trans (a1 j x y z), fun j x => (b2 j x).trans (a2 j x), fun j x y z => (b3 j x y z).trans (a3 j x y z), fun x y => (b4 x y).trans (a4 x y), fun j x y z => (b5 j x y z).trans (a5 j x y z)⟩
theorem ChR_I (e : ∀ i, i ≠ 19 → i ≠ 20 → I1 i = I i) : ChR p k I I1 A A := ⟨fun j _ y z => e j y z, fun _ _ => rfl, fun _ _ _ _ => rfl, fun _ _ => rfl, fun _ _ _ _ => rfl⟩
theorem ChR_r : ChR p k I I A A := ChR_I (fun _ _ _ => rfl)
theorem upA_n {j i : Nat} (h : i ≠ j) : upA A j f i = A i := if_neg h
theorem upA_j {j : Nat} : upA A j f j = f := if_pos rfl
theorem ChR_34 : ChR p k I I A (upA A 34 f) := ⟨fun _ _ _ _ => rfl, fun j h => upA_n (by omega), fun j h x _ => by rw [upA_n (by omega)], fun x _ => by rw [upA_n (by omega)], fun j h x _ => by rw [upA_n (by omega)]⟩
theorem ChR_p {i : Nat} (hi : i = 36 ∨ i = 37 ∨ i = 38) : ChR p k I I A (upA A i (upd (A i) p v)) := ⟨fun _ _ _ _ => rfl, fun j h => upA_n (by omega), fun j h x hx => by
    by_cases e : j = i
    · rw [e, upA_j, upd_n hx]
    · rw [upA_n e], fun x _ => by rw [upA_n (by omega)], fun j h x _ => by rw [upA_n (by omega)]⟩
theorem ChR_sA : ChR p k I I A (sA A p j) := ChR_t (ChR_p (i := 36) (by omega)) (ChR_p (A := upA A 36 (upd (A 36) p (Int32.ofNat j))) (i := 37) (by omega))
theorem ChR_g (hz : z < 8) : ChR p k I I A (gvA A k z v w) := ⟨fun _ _ _ _ => rfl, fun j h => by unfold gvA; rw [upA_n (by omega), upA_n (by omega), upA_n (by omega)], fun j h x _ => by unfold gvA; rw [upA_n (by omega), upA_n (by omega), upA_n (by omega)], fun x hx => by unfold gvA; rw [upA_j, upd_n hx], fun j h x hx => by
    unfold gvA
    rw [upA_n (by omega)]
    rcases h with rfl | rfl
    · rw [upA_n (by omega), upA_j, upd_n (by omega)]
    · rw [upA_j, upd_n (by omega)]⟩
theorem ChR_f (hf : FtA A B k z) : ChR p k I I A B := by
  obtain ⟨f1, f2, f3, f4⟩ := hf
  refine ⟨fun _ _ _ _ => rfl, fun j h => f1 j (by omega) (by omega) (by omega), fun j h x _ => by rw [f1 j (by omega) (by omega) (by omega)], fun x hx => by rw [f2, upd_n hx], fun j h x hx => ?_⟩
  rcases h with rfl | rfl
  · exact (f4 x hx).1
  · exact (f4 x hx).2
theorem sA_36 : sA A p j 36 p = Int32.ofNat j ∧ sA A p j 37 p = -1 := by
  unfold sA
  refine ⟨?_, ?_⟩
  · rw [upA_n (by decide), upA_j, upd_s]
  · rw [upA_j, upd_s]
theorem sA_o {i : Nat} (h1 : i ≠ 36) (h2 : i ≠ 37) : sA A p j i = A i := by
  unfold sA
  rw [upA_n h2, upA_n h1]
theorem Pty_new {L2 : List (Fo × Fo)} {o : Option Nat} {k' : Nat} (hf : HF S (szM S1 I B)) (hw : LW L2) (hs : Stk S L2 o) (hr : zR S1 2 (7 + 3 * p) = o) (h36 : B 36 p = Int32.ofNat k') (ht : TP T (L2.map Prod.fst) k') (h3 : zI S1 3 (7 + 3 * p) = 0) (h37 : B 37 p = -1) : Pty (szM S1 I B) p T (remL L2) := by
  subst hr
  exact ⟨L2, k', hw, Stk_fr hf L2 _ hw hs, h36, ht, Or.inl ⟨h3, h37, rfl⟩⟩
theorem QQ_same (h : QQ S Q) (e1 : zI S1 4 2 = zI S 4 2) (e2 : I 17 = zMI S 17) (e3 : ∀ k, k < 36 → ∀ m, zI S1 m (25 + 3 * k) = zI S m (25 + 3 * k)) (e4 : ∀ k, k < 36 → zAI S1 (26 + 3 * k) = zAI S (26 + 3 * k) ∧ zAI S1 (27 + 3 * k) = zAI S (27 + 3 * k)) (e5 : B 39 = zMA S 39 ∧ B 40 = zMA S 40 ∧ B 41 = zMA S 41) : QQ (szM S1 I B) Q := by
  obtain ⟨r, r1, r8, h1, h2, h3⟩ := h
  refine ⟨r, r1, r8, e1.trans h1, e2.trans h2, fun q p hq hp => ?_⟩
  have hk : 6 * q + p < 36 := by omega
  refine QK_eq (S := S) (e3 _ hk 2) (e3 _ hk 3) (e4 _ hk).1 (e4 _ hk).2 ?_ (fun i _ => ⟨?_, ?_⟩) r8 (h3 q p hq hp)
  · show B 39 _ = _
    rw [e5.1]
  · show B 40 _ = _
    rw [e5.2.1]
  · show B 41 _ = _
    rw [e5.2.2]
theorem case_1 {ks r ks' r' : Fo} {L' : List (Fo × Fo)} {E : Option Nat} (hx : Fix S) (hv6 : ∀ i, i < 24 → zAI S 6 i = zMA S 34 i) (hR : RnS S K Q Kr) (h : AtN S p (tx 0 (K p)) a n ks r ks' r' L' E j la) (h3 : zI S 3 (7 + 3 * p) = 0) (h37 : zMA S 37 p = -1) (hK : Kr p = cn n ks (ap r (remL L'))) (hk : cK n = 1) : OutS S p K (fun m => yT_goOn m S 2 (Int32.ofNat p) (some a)) (fun m => x_stepValue m (zM0 S) (zMA S) (Int32.ofNat p) (Int32.ofNat j)) := by
  obtain ⟨hp, ht, nd, hw, hs, hl, he, h36, h2⟩ := h
  obtain ⟨⟨s1, s2, _⟩, w0⟩ := hw _ List.mem_cons_self
  have w0' := w0
  obtain ⟨w1, w2, w3, w4⟩ := w0'
  have hv := cV_lt n
  have hX := hv_x w1 (Or.inr (Or.inr (Or.inl hk)))
  obtain ⟨f1, f2⟩ := ent_s (by omega) w0 hs he
  obtain ⟨k', tp, st⟩ := stand_t s2 w4 (Sfx_r f1) hl f2
  have hwL : LW ((r, r') :: L') := fun x hx' => by
    rcases List.mem_cons.mp hx' with rfl | hx'
    · exact ⟨s2, w4⟩
    · exact hw x (List.mem_cons_of_mem _ hx')
  have hV : ∀ v, v < 4 → (fun v => zMA S 34 (4 * p + v)) v = zMA S 34 (4 * p + v) := fun _ _ => rfl
  have hV' : ∀ v, v < 4 → (fun v => zMA S 34 (4 * p + v)) v = zAI S 6 (4 * p + v) := fun v hv' => (hv6 (4 * p + v) (by omega)).symm
  obtain ⟨N, I', x1, x2⟩ := sv_1 (I := zM0 S) ht hk hX hV f1 st
  have c : Chg p 0 S (szR (szAI S 6 (upd (zAI S 6) (4 * p + cV n) (evx (fun v => zMA S 34 (4 * p + v)) (xt (cE n))))) 2 (7 + 3 * p) (zR S 9 a)) := Chg_t Chg_V Chg_R
  have cr : ChR p 0 (zM0 S) I' (zMA S) (sA (upA (zMA S) 34 (upd (zMA S 34) (4 * p + cV n) (evx (fun v => zMA S 34 (4 * p + v)) (xt (cE n))))) p k') := ChR_t (ChR_I x2) (ChR_t ChR_34 ChR_sA)
  refine ⟨_, I', _, 1, 0, ⟨N + 20, fun m hm => ⟨go_1 hx hp nd.1 hk hX hV' (by omega), x1 m (by omega)⟩⟩, by decide, c, cr, Or.inr rfl, ⟨Q, _, RnS_fin (R' := remL ((r, r') :: L')) hx hp (by decide) c cr hR ?_ ?_ ?_⟩, fun i hi => ?_, rfl, x2 18 (by decide) (by decide), fun e' => absurd e' (by decide)⟩
  · exact Pty_new (Chg_hf c hx hp (by decide)) hwL (Stk_of nd).2 (zR_self _ 2 _ _) sA_36.1 tp h3 sA_36.2
  · exact QQ_same hR.1 rfl (x2 17 (by decide) (by decide)) (fun _ _ _ => rfl) (fun k _ => ⟨zAI_n (by omega), zAI_n (by omega)⟩) ⟨rfl, rfl, rfl⟩
  · exact Gd_set hR.2.1 hp hK hk
  · show zAI (szAI S 6 _) 6 i = sA (upA (zMA S) 34 _) p k' 34 i
    rw [zAI_s, sA_o (by decide) (by decide), upA_j]
    by_cases e : i = 4 * p + cV n
    · rw [e, upd_s, upd_s]
    · rw [upd_n e, upd_n e]
      exact hv6 i hi
end C0
