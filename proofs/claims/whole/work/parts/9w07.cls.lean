def Md2 (S S' : hS) (L : List Nat) : Prop := S.1 ≤ S'.1 ∧ (∀ x, x < S.1 → S'.2.1 x = S.2.1 x ∧ zLen S' x = zLen S x ∧ zAI S' x = zAI S x) ∧ (∀ k b, b < S.1 → b ∉ L → zI S' k b = zI S k b ∧ zR S' k b = zR S k b) ∧ (∀ b, b < S.1 → b ∉ L → zL S' b = zL S b) ∧ (∀ b, b < S.1 → (S.2.1 b ≠ 27 ∨ ∀ a, a ∈ L → b ≠ a + 1) → zAR S' b = zAR S b) ∧ zMI S' = zMI S ∧ zMA S' = zMA S
section M2
variable {S S' S2 : hS} {L L2 L3 : List Nat} {x : Nat}
theorem Md2_r : Md2 S S L := ⟨Nat.le_refl _, fun _ _ => ⟨rfl, rfl, rfl⟩, fun _ _ _ _ => ⟨rfl, rfl⟩, fun _ _ _ => rfl, fun _ _ _ => rfl, rfl, rfl⟩
theorem Md2_t (h1 : Md2 S S' L) (h2 : Md2 S' S2 L2) (e1 : ∀ x, x ∈ L → x ∈ L3) (e2 : ∀ x, x ∈ L2 → x < S.1 → x ∈ L3) (e3 : ∀ x, x ∈ L2 → x + 1 < S.1 → x ∈ L3) : Md2 S S2 L3 := by
  obtain ⟨a1, a2, a3, a4, a5, a6, a7⟩ := h1
  obtain ⟨b1, b2, b3, b4, b5, b6, b7⟩ := h2
  refine ⟨Nat.le_trans a1 b1, fun x hx => ?_, fun k b hb hL => ?_, fun b hb hL => ?_, fun b hb hL => ?_, b6.trans a6, b7.trans a7⟩
  · have p := a2 x hx
    have q := b2 x (by omega)
    exact ⟨q.1.trans p.1, q.2.1.trans p.2.1, q.2.2.trans p.2.2⟩
  · have p := a3 k b hb (fun h => hL (e1 b h))
    have q := b3 k b (by omega) (fun h => hL (e2 b h hb))
    exact ⟨q.1.trans p.1, q.2.trans p.2⟩
  · exact (b4 b (by omega) (fun h => hL (e2 b h hb))).trans (a4 b hb (fun h => hL (e1 b h)))
  · refine (b5 b (by omega) (hL.imp (fun z => by rw [(a2 b hb).1]; exact z) (fun z a ha e => z a (e3 a ha (by omega)) e))).trans (a5 b hb (hL.imp id (fun z a ha => z a (e1 a ha))))
theorem Md2_w (h : Md2 S S' L) (e : ∀ x, x ∈ L → x ∈ L2) : Md2 S S' L2 := Md2_t h Md2_r e (fun _ h => by cases h) (fun _ h => by cases h) (L2 := [])
theorem Md2_tg (h : Md2 S S' L) {t : Nat} (ht : ztg S x = t + 1) : ztg S' x = t + 1 := by
  obtain ⟨h1, h2, h3⟩ := ztg_lt ht
  have hs : x < ie_S := by
    unfold ztg at ht
    by_cases q : x < S.1 ∧ x < ie_S
    · exact q.2
    · rw [if_neg q] at ht
      cases ht
  unfold ztg
  rw [if_pos ⟨Nat.lt_of_lt_of_le h1 h.1, hs⟩, (h.2.1 x h1).1]
  exact h3
theorem Md2_lk (h : Md2 S S' L) (h2 : ztg S x = 2) (h3 : ztg S (x + 1) = 27) (hx : x ∉ L) : Lk S S' x := by
  have l1 := (ztg_lt h2).1
  have l2 := (ztg_lt h3).1
  refine ⟨fun k => (h.2.2.1 k x l1 hx).1, (h.2.2.1 6 x l1 hx).2, (h.2.2.1 8 x l1 hx).2, h.2.2.2.1 x l1 hx, ?_, ?_, (h.2.1 (x + 1) l2).2.1, h.2.2.2.2.1 (x + 1) l2 (Or.inr (fun a ha e => hx (by rw [show x = a by omega]; exact ha)))⟩
  · rw [h2]
    exact Md2_tg h h2
  · rw [h3]
    exact Md2_tg h h3
theorem Mdf_2 (h : Mdf S S' L) (ht : ∀ a, a ∈ L → ztg S (a + 1) = 27) : Md2 S S' L := by
  obtain ⟨a1, a2, a3, a4, a5, a6, a7, a8, a9, a10, a11⟩ := h
  exact ⟨Nat.le_of_eq a1.symm, fun x _ => ⟨by rw [a2], by unfold zLen; rw [a3], by rw [a7]⟩, fun k b _ hb => ⟨a4 k b (Or.inr hb), by rw [a6]⟩, fun b _ _ => by rw [a5], fun b _ hb => a8 b (hb.elim (fun z a ha e => z (by rw [e]; exact (ztg_lt (ht a ha)).2.2)) id), a10, a11⟩
theorem Md2_R (k a : Nat) (v : Option Nat) : Md2 S (szR S k a v) [a] := ⟨Nat.le_refl _, fun _ _ => ⟨rfl, rfl, rfl⟩, fun j b _ hb => ⟨rfl, zup2_ne (fun _ e => hb (by rw [e]; exact List.mem_cons_self))⟩, fun _ _ _ => rfl, fun _ _ _ => rfl, rfl, rfl⟩
theorem Md2_I (k a : Nat) (v : Int32) : Md2 S (szI S k a v) [a] := ⟨Nat.le_refl _, fun _ _ => ⟨rfl, rfl, rfl⟩, fun j b _ hb => ⟨zup2_ne (fun _ e => hb (by rw [e]; exact List.mem_cons_self)), rfl⟩, fun _ _ _ => rfl, fun _ _ _ => rfl, rfl, rfl⟩
theorem Md2_L (a : Nat) (v : Int64) : Md2 S (szL S a v) [a] := ⟨Nat.le_refl _, fun _ _ => ⟨rfl, rfl, rfl⟩, fun j b _ hb => ⟨rfl, rfl⟩, fun b _ hb => zup_ne (fun e => hb (by rw [e]; exact List.mem_cons_self)), fun _ _ _ => rfl, rfl, rfl⟩
theorem Md2_N (ci : Nat) : Md2 S (szN S ci) L := ⟨Nat.le_succ _, fun x hx => ⟨zup_ne (by omega), rfl, rfl⟩, fun k b hb _ => ⟨if_neg (by omega), if_neg (by omega)⟩, fun b hb _ => zup_ne (by omega), fun _ _ _ => rfl, rfl, rfl⟩
theorem Md2_NA (t n : Nat) : Md2 S (szNA S t n) L := ⟨Nat.le_succ _, fun x hx => ⟨zup_ne (by omega), zup_ne (by omega), zup_ne (by omega)⟩, fun k b hb _ => ⟨rfl, rfl⟩, fun b hb _ => rfl, fun b hb _ => zup_ne (by omega), rfl, rfl⟩
end M2
theorem Rp_nd {S : hS} : ∀ (t : Fo) (m : Bool), So m t → ∀ (sh : Fo) (G : Nat → Option Nat), Rp S m t sh G → ∀ x, x ∈ ad m sh → ztg S x = 2 ∧ ztg S (x + 1) = 27 := So_ind (P := fun m t => ∀ (sh : Fo) (G : Nat → Option Nat), Rp S m t sh G → ∀ x, x ∈ ad m sh → ztg S x = 2 ∧ ztg S (x + 1) = 27) (fun m sh G h x hx => by
    rw [(Rp_n h).1, ad_n] at hx
    cases hx) (fun m n k r _ _ _ ihk ihr sh G h x hx => by
    cases m with
    | true =>
      obtain ⟨a, k', r', rfl, h1, h2, h3, h4⟩ := Rp_r h
      rw [ad_r, List.mem_cons, List.mem_append] at hx
      rcases hx with hx | hx | hx
      · subst hx
        exact ⟨h2.1, h2.2.2.2.1⟩
      · exact ihk k' _ h3 x hx
      · exact ihr r' _ h4 x hx
    | false =>
      obtain ⟨x', r', rfl, h2, h3⟩ := Rp_k h
      rw [ad_k, List.mem_append] at hx
      rcases hx with hx | hx
      · exact ihk x' _ h2 x hx
      · exact ihr r' _ h3 x hx)
theorem Rp_md {S S' : hS} {L : List Nat} {t sh : Fo} {m : Bool} {G : Nat → Option Nat} (hs : So m t) (h : Rp S m t sh G) (md : Md2 S S' L) (hd : ∀ x, x ∈ ad m sh → x ∉ L) : Rp S' m t sh G := Rp_fr t m hs sh G h (fun x hx => Md2_lk md (Rp_nd t m hs sh G h x hx).1 (Rp_nd t m hs sh G h x hx).2 (hd x hx))
def RpG (S : hS) : Fo → Fo → Option Nat → Option Nat → Prop
  | .append (.tag n k) r, .append (.tag a k') r', v, K => v = some a ∧ Ndd S a n k ∧ Rp S false k k' (zAR S (a + 1)) ∧ RpG S r r' (zR S 8 a) K
  | .nil, .nil, v, K => v = K
  | _, _, _, _ => False
def lst : Fo → Option Nat → Option Nat
  | .append (.tag a _) r, _ => lst r (some a)
  | _, d => d
section RG
variable {S S' : hS} {n : Nat} {k r sh : Fo} {v K : Option Nat}
theorem RpG_r (h : RpG S (cn n k r) sh v K) : ∃ a k' r', sh = cn a k' r' ∧ v = some a ∧ Ndd S a n k ∧ Rp S false k k' (zAR S (a + 1)) ∧ RpG S r r' (zR S 8 a) K := by
  match sh with
  | .append (.tag a k') r' => exact ⟨a, k', r', rfl, h⟩
  | .append .nil _ => exact h.elim
  | .append .line _ => exact h.elim
  | .append (.align _) _ => exact h.elim
  | .append (.text _) _ => exact h.elim
  | .append (.nest _ _) _ => exact h.elim
  | .append (.append _ _) _ => exact h.elim
  | .append (.group _ _) _ => exact h.elim
  | .nil => exact h.elim
  | .line => exact h.elim
  | .align _ => exact h.elim
  | .text _ => exact h.elim
  | .nest _ _ => exact h.elim
  | .group _ _ => exact h.elim
  | .tag _ _ => exact h.elim
theorem RpG_n (h : RpG S .nil sh v K) : sh = .nil ∧ v = K := by
  match sh with
  | .append (.tag a k') r' => exact h.elim
  | .append .nil _ => exact h.elim
  | .append .line _ => exact h.elim
  | .append (.align _) _ => exact h.elim
  | .append (.text _) _ => exact h.elim
  | .append (.nest _ _) _ => exact h.elim
  | .append (.append _ _) _ => exact h.elim
  | .append (.group _ _) _ => exact h.elim
  | .nil => exact ⟨rfl, h⟩
  | .line => exact h.elim
  | .align _ => exact h.elim
  | .text _ => exact h.elim
  | .nest _ _ => exact h.elim
  | .group _ _ => exact h.elim
  | .tag _ _ => exact h.elim
theorem RpG_ap : ∀ (t : Fo), So true t → ∀ (sh : Fo) (v : Option Nat) (y sy : Fo) (K : Option Nat), RpG S t sh v K → Rp S true y sy (fun _ => K) → Rp S true (ap t y) (ap sh sy) (fun _ => v) := fun t ht => So_ind (P := fun m t => m = true → ∀ (sh : Fo) (v : Option Nat) (y sy : Fo) (K : Option Nat), RpG S t sh v K → Rp S true y sy (fun _ => K) → Rp S true (ap t y) (ap sh sy) (fun _ => v)) (fun _ _ sh v y sy K h hy => by
    obtain ⟨rfl, rfl⟩ := RpG_n h
    exact hy) (fun m n k r _ _ _ _ ih hm sh v y sy K h hy => by
    obtain ⟨a, k', r', rfl, h1, h2, h3, h4⟩ := RpG_r h
    exact Rp_rm h1 h2 h3 (ih hm r' _ y sy K h4 hy)) t true ht rfl
theorem Rp_G : ∀ (t : Fo), So true t → ∀ (sh : Fo) (G : Nat → Option Nat), Rp S true t sh G → RpG S t sh (G 0) none := fun t ht => So_ind (P := fun m t => m = true → ∀ (sh : Fo) (G : Nat → Option Nat), Rp S true t sh G → RpG S t sh (G 0) none) (fun m hm sh G h => by
    obtain ⟨rfl, h2⟩ := Rp_n h
    exact h2 rfl) (fun m n k r _ _ _ _ ih hm sh G h => by
    obtain ⟨a, k', r', rfl, h1, h2, h3, h4⟩ := Rp_r h
    exact ⟨h1, h2, h3, ih hm r' _ h4⟩) t true ht rfl
theorem RpG_nd : ∀ (t : Fo), So true t → ∀ (sh : Fo) (v K : Option Nat), RpG S t sh v K → ∀ x, x ∈ ad true sh → ztg S x = 2 ∧ ztg S (x + 1) = 27 := fun t ht => So_ind (P := fun m t => m = true → ∀ (sh : Fo) (v K : Option Nat), RpG S t sh v K → ∀ x, x ∈ ad true sh → ztg S x = 2 ∧ ztg S (x + 1) = 27) (fun _ _ sh v K h x hx => by
    rw [(RpG_n h).1, ad_n] at hx
    cases hx) (fun m n k r h1 _ _ _ ih hm sh v K h x hx => by
    subst hm
    obtain ⟨a, k', r', rfl, q1, q2, q3, q4⟩ := RpG_r h
    rw [ad_r, List.mem_cons, List.mem_append] at hx
    rcases hx with hx | hx | hx
    · subst hx
      exact ⟨q2.1, q2.2.2.2.1⟩
    · exact Rp_nd k false h1 k' _ q3 x hx
    · exact ih rfl r' _ _ q4 x hx) t true ht rfl
theorem RpG_md {L : List Nat} (md : Md2 S S' L) : ∀ (t : Fo), So true t → ∀ (sh : Fo) (v K : Option Nat), RpG S t sh v K → (∀ x, x ∈ ad true sh → x ∉ L) → RpG S' t sh v K := fun t ht => So_ind (P := fun m t => m = true → ∀ (sh : Fo) (v K : Option Nat), RpG S t sh v K → (∀ x, x ∈ ad true sh → x ∉ L) → RpG S' t sh v K) (fun _ _ sh v K h _ => by
    obtain ⟨rfl, rfl⟩ := RpG_n h
    exact rfl) (fun m n k r h1 _ _ _ ih hm sh v K h hd => by
    subst hm
    obtain ⟨a, k', r', rfl, q1, q2, q3, q4⟩ := RpG_r h
    have la := Md2_lk md q2.1 q2.2.2.2.1 (hd a List.mem_cons_self)
    refine ⟨q1, Nd_fr q2 la, ?_, ?_⟩
    · rw [la.2.2.2.2.2.2.2]
      exact Rp_md h1 q3 md (fun x hx => hd x (List.mem_cons_of_mem _ (List.mem_append_left _ hx)))
    · rw [la.2.2.1]
      exact ih rfl r' _ K q4 (fun x hx => hd x (List.mem_cons_of_mem _ (List.mem_append_right _ hx)))) t true ht rfl
theorem lst_mem : ∀ (t : Fo), So true t → ∀ (sh : Fo) (v K d : Option Nat) (z : Nat), RpG S t sh v K → lst sh d = some z → (sh = .nil ∧ d = some z) ∨ z ∈ ad true sh := fun t ht => So_ind (P := fun m t => m = true → ∀ (sh : Fo) (v K d : Option Nat) (z : Nat), RpG S t sh v K → lst sh d = some z → (sh = .nil ∧ d = some z) ∨ z ∈ ad true sh) (fun _ _ sh v K d z h hz => by
    obtain ⟨rfl, _⟩ := RpG_n h
    exact Or.inl ⟨rfl, hz⟩) (fun m n k r _ _ _ _ ih hm sh v K d z h hz => by
    subst hm
    obtain ⟨a, k', r', rfl, q1, q2, q3, q4⟩ := RpG_r h
    rcases ih rfl r' _ _ (some a) z q4 hz with ⟨_, e⟩ | e
    · cases e
      exact Or.inr List.mem_cons_self
    · exact Or.inr (List.mem_cons_of_mem _ (List.mem_append_right _ e))) t true ht rfl
theorem zR_q {S : hS} {k a j b : Nat} {v : Option Nat} (h : j = k → b ≠ a) : zR (szR S k a v) j b = zR S j b := zup2_ne h
theorem Nd_8 {a z : Nat} {m : Nat} {k : Fo} {w : Option Nat} (h : Ndd S a m k) : Ndd (szR S 8 z w) a m k := by
  obtain ⟨h1, h2, h3, h4, h5, h6, h7⟩ := h
  refine ⟨h1, h2, ?_, h4, h5, h6, h7⟩
  have : zR (szR S 8 z w) 6 a = zR S 6 a := zR_q (fun e => absurd e (by decide))
  rw [this]
  exact h3
theorem RpG_set {z : Nat} {w : Option Nat} : ∀ (t : Fo), So true t → ∀ (sh : Fo) (v K d : Option Nat), RpG S t sh v K → Spt true sh → sh ≠ .nil → lst sh d = some z → RpG (szR S 8 z w) t sh v w := fun t ht => So_ind (P := fun m t => m = true → ∀ (sh : Fo) (v K d : Option Nat), RpG S t sh v K → Spt true sh → sh ≠ .nil → lst sh d = some z → RpG (szR S 8 z w) t sh v w) (fun _ _ sh v K d h _ hne => by
    exact (hne (RpG_n h).1).elim) (fun m n k r h1 h2 _ _ ih hm sh v K d h sp _ hz => by
    subst hm
    obtain ⟨a, k', r', rfl, q1, q2, q3, q4⟩ := RpG_r h
    obtain ⟨s1, s2, s3, s4⟩ := sp
    have hz' : lst r' (some a) = some z := hz
    have zk : z ∉ ad false k' := fun hk => by
      rcases lst_mem r h2 r' _ _ (some a) z q4 hz' with ⟨_, e⟩ | e
      · have e' : a = z := Option.some.inj e
        exact (s3 z hk).1 e'.symm
      · exact (s3 z hk).2 e
    have rk : Rp (szR S 8 z w) false k k' (zAR (szR S 8 z w) (a + 1)) := Rp_md h1 q3 (Md2_R 8 z w) (fun x hx hL => by
      rw [List.mem_singleton] at hL
      exact zk (by rw [← hL]; exact hx))
    rcases So_cs h2 with rfl | ⟨n2, k2, r2, rfl, _⟩
    · obtain ⟨rfl, _⟩ := RpG_n q4
      have e' : a = z := Option.some.inj hz'
      refine ⟨q1, Nd_8 q2, rk, ?_⟩
      show zR (szR S 8 z w) 8 a = w
      rw [e']
      exact zR_self S 8 z w
    · obtain ⟨a2, k2', r2', rfl, _⟩ := RpG_r q4
      have hzr : z ∈ ad true (cn a2 k2' r2') := by
        rcases lst_mem _ h2 _ _ _ (some a) z q4 hz' with ⟨e, _⟩ | e
        · cases e
        · exact e
      have hza : a ≠ z := fun e => s4 (by rw [e]; exact hzr)
      have : zR (szR S 8 z w) 8 a = zR S 8 a := zR_q (fun _ => hza)
      refine ⟨q1, Nd_8 q2, rk, ?_⟩
      rw [this]
      exact ih rfl _ _ K (some a) q4 s2 (fun e => by cases e) hz') t true ht rfl
end RG
