def Cdn (S : hS) (a n : Nat) : Prop := zI S 0 a = Int32.ofNat (cK n) ∧ zI S 1 a = Int32.ofNat (cV n) ∧ zI S 2 a = Int32.ofNat (cL n) ∧ zI S 3 a = Int32.ofNat (cO n) ∧ zI S 4 a = Int32.ofNat (cD n) ∧ zL S a = Int64.ofNat (cE n)
def pof (k : Nat) : Nat := if k = 5 then 10 else if k = 6 then 2 else if k = 7 ∨ k = 8 then 1 else 0
def Prs (S : hS) (a : Nat) (k : Fo) : Prop := ∃ x, x < 1024 ∧ zI S 7 a = Int32.ofNat x ∧ ∀ i, i < 10 → x.testBit i = (gid i k).isSome
def Ndd (S : hS) (a n : Nat) (k : Fo) : Prop := ztg S a = 2 ∧ Cdn S a n ∧ zR S 6 a = some (a + 1) ∧ ztg S (a + 1) = 27 ∧ zLen S (a + 1) = pof (cK n) ∧ Prs S a k ∧ (∀ i, gid i k = none → zAR S (a + 1) i = none)
def Rp (S : hS) : Bool → Fo → Fo → (Nat → Option Nat) → Prop
  | true, .append (.tag n k) r, .append (.tag a k') r', G => G 0 = some a ∧ Ndd S a n k ∧ Rp S false k k' (zAR S (a + 1)) ∧ Rp S true r r' (fun _ => zR S 8 a)
  | false, .append (.tag l x) r, .append (.tag l' x') r', G => l' = l ∧ Rp S true x x' (fun _ => G l) ∧ Rp S false r r' G
  | true, .nil, .nil, G => G 0 = none
  | false, .nil, .nil, _ => True
  | _, _, _, _ => False
def ad : Bool → Fo → List Nat
  | true, .append (.tag a k) r => a :: (ad false k ++ ad true r)
  | false, .append (.tag _ x) r => ad true x ++ ad false r
  | _, _ => []
def Lk (S S' : hS) (a : Nat) : Prop := (∀ k, zI S' k a = zI S k a) ∧ zR S' 6 a = zR S 6 a ∧ zR S' 8 a = zR S 8 a ∧ zL S' a = zL S a ∧ ztg S' a = ztg S a ∧ ztg S' (a + 1) = ztg S (a + 1) ∧ zLen S' (a + 1) = zLen S (a + 1) ∧ zAR S' (a + 1) = zAR S (a + 1)
section RP
variable {S S' S2 : hS} {n l : Nat} {k r x sh : Fo} {G : Nat → Option Nat}
theorem Rp_r (h : Rp S true (cn n k r) sh G) : ∃ a k' r', sh = cn a k' r' ∧ G 0 = some a ∧ Ndd S a n k ∧ Rp S false k k' (zAR S (a + 1)) ∧ Rp S true r r' (fun _ => zR S 8 a) := by
  match sh with
  | .append (.tag a k') r' => exact ⟨a, k', r', rfl, h⟩
  | .append .nil _ => exact h.elim
  | .append .line _ => exact h.elim
  | .append (.align _) _ => exact h.elim
  | .append (.text _) _ => exact h.elim
  | .append (.nest _ _) _ => exact h.elim
  | .append (.append _ _) _ => exact h.elim
  | .append (.group _ _) _ => exact h.elim
  | .nil => exact h.elim
  | .line => exact h.elim
  | .align _ => exact h.elim
  | .text _ => exact h.elim
  | .nest _ _ => exact h.elim
  | .group _ _ => exact h.elim
  | .tag _ _ => exact h.elim
theorem Rp_k (h : Rp S false (cn l x r) sh G) : ∃ x' r', sh = cn l x' r' ∧ Rp S true x x' (fun _ => G l) ∧ Rp S false r r' G := by
  match sh with
  | .append (.tag a k') r' =>
    obtain ⟨h1, h2, h3⟩ := h
    subst h1
    exact ⟨k', r', rfl, h2, h3⟩
  | .append .nil _ => exact h.elim
  | .append .line _ => exact h.elim
  | .append (.align _) _ => exact h.elim
  | .append (.text _) _ => exact h.elim
  | .append (.nest _ _) _ => exact h.elim
  | .append (.append _ _) _ => exact h.elim
  | .append (.group _ _) _ => exact h.elim
  | .nil => exact h.elim
  | .line => exact h.elim
  | .align _ => exact h.elim
  | .text _ => exact h.elim
  | .nest _ _ => exact h.elim
  | .group _ _ => exact h.elim
  | .tag _ _ => exact h.elim
theorem Rp_n {m : Bool} (h : Rp S m .nil sh G) : sh = .nil ∧ (m = true → G 0 = none) := by
  cases m with
  | true =>
    match sh with
    | .append (.tag a k') r' => exact h.elim
    | .append .nil _ => exact h.elim
    | .append .line _ => exact h.elim
    | .append (.align _) _ => exact h.elim
    | .append (.text _) _ => exact h.elim
    | .append (.nest _ _) _ => exact h.elim
    | .append (.append _ _) _ => exact h.elim
    | .append (.group _ _) _ => exact h.elim
    | .nil => exact ⟨rfl, fun _ => h⟩
    | .line => exact h.elim
    | .align _ => exact h.elim
    | .text _ => exact h.elim
    | .nest _ _ => exact h.elim
    | .group _ _ => exact h.elim
    | .tag _ _ => exact h.elim
  | false =>
    match sh with
    | .append (.tag a k') r' => exact h.elim
    | .append .nil _ => exact h.elim
    | .append .line _ => exact h.elim
    | .append (.align _) _ => exact h.elim
    | .append (.text _) _ => exact h.elim
    | .append (.nest _ _) _ => exact h.elim
    | .append (.append _ _) _ => exact h.elim
    | .append (.group _ _) _ => exact h.elim
    | .nil => exact ⟨rfl, fun z => Bool.noConfusion z⟩
    | .line => exact h.elim
    | .align _ => exact h.elim
    | .text _ => exact h.elim
    | .nest _ _ => exact h.elim
    | .group _ _ => exact h.elim
    | .tag _ _ => exact h.elim
theorem Rp_rm {a : Nat} {k' r' : Fo} (h1 : G 0 = some a) (h2 : Ndd S a n k) (h3 : Rp S false k k' (zAR S (a + 1))) (h4 : Rp S true r r' (fun _ => zR S 8 a)) : Rp S true (cn n k r) (cn a k' r') G := ⟨h1, h2, h3, h4⟩
theorem Rp_km {x' r' : Fo} (h1 : Rp S true x x' (fun _ => G l)) (h2 : Rp S false r r' G) : Rp S false (cn l x r) (cn l x' r') G := ⟨rfl, h1, h2⟩
theorem ad_r {a : Nat} {k' r' : Fo} : ad true (cn a k' r') = a :: (ad false k' ++ ad true r') := rfl
theorem ad_k {x' r' : Fo} : ad false (cn l x' r') = ad true x' ++ ad false r' := rfl
theorem ad_n {m : Bool} : ad m .nil = [] := by cases m <;> rfl
theorem Lk_r {a : Nat} : Lk S S a := ⟨fun _ => rfl, rfl, rfl, rfl, rfl, rfl, rfl, rfl⟩
theorem Lk_t {a : Nat} (h1 : Lk S S' a) (h2 : Lk S' S2 a) : Lk S S2 a := ⟨fun k => (h2.1 k).trans (h1.1 k), h2.2.1.trans h1.2.1, h2.2.2.1.trans h1.2.2.1, h2.2.2.2.1.trans h1.2.2.2.1, h2.2.2.2.2.1.trans h1.2.2.2.2.1, h2.2.2.2.2.2.1.trans h1.2.2.2.2.2.1, h2.2.2.2.2.2.2.1.trans h1.2.2.2.2.2.2.1, h2.2.2.2.2.2.2.2.trans h1.2.2.2.2.2.2.2⟩
theorem Nd_fr {a : Nat} (h : Ndd S a n k) (e : Lk S S' a) : Ndd S' a n k := by
  obtain ⟨e1, e2, e3, e4, e5, e6, e7, e8⟩ := e
  obtain ⟨h1, h2, h3, h4, h5, ⟨y, h6, h7, h8⟩, h9⟩ := h
  unfold Cdn at h2
  refine ⟨by rw [e5]; exact h1, ?_, by rw [e2]; exact h3, by rw [e6]; exact h4, by rw [e7]; exact h5, ⟨y, h6, by rw [e1]; exact h7, h8⟩, fun i hi => by rw [e8]; exact h9 i hi⟩
  unfold Cdn
  rw [e1, e1, e1, e1, e1, e4]
  exact h2
theorem Rp_fr : ∀ (t : Fo) (m : Bool), So m t → ∀ (sh : Fo) (G : Nat → Option Nat), Rp S m t sh G → (∀ a, a ∈ ad m sh → Lk S S' a) → Rp S' m t sh G := So_ind (P := fun m t => ∀ (sh : Fo) (G : Nat → Option Nat), Rp S m t sh G → (∀ a, a ∈ ad m sh → Lk S S' a) → Rp S' m t sh G) (fun m sh G h _ => by
    obtain ⟨rfl, h2⟩ := Rp_n h
    cases m with
    | true => exact h2 rfl
    | false => exact trivial) (fun m n k r _ _ _ ihk ihr sh G h e => by
    cases m with
    | true =>
      obtain ⟨a, k', r', rfl, h1, h2, h3, h4⟩ := Rp_r h
      have ea := e a List.mem_cons_self
      refine Rp_rm h1 (Nd_fr h2 ea) ?_ ?_
      · rw [ea.2.2.2.2.2.2.2]
        exact ihk k' _ h3 (fun b hb => e b (List.mem_cons_of_mem _ (List.mem_append_left _ hb)))
      · rw [ea.2.2.1]
        exact ihr r' _ h4 (fun b hb => e b (List.mem_cons_of_mem _ (List.mem_append_right _ hb)))
    | false =>
      obtain ⟨x', r', rfl, h2, h3⟩ := Rp_k h
      exact Rp_km (ihk x' _ h2 (fun b hb => e b (List.mem_append_left _ hb))) (ihr r' _ h3 (fun b hb => e b (List.mem_append_right _ hb))))
theorem Rp_gid {i : Nat} {t : Fo} (hs : So false t) : Rp S false t sh G → gid i t = some x → ∃ x', gid i sh = some x' ∧ Rp S true x x' (fun _ => G i) ∧ ∀ b, b ∈ ad true x' → b ∈ ad false sh := by
  refine fun h1 h2 => So_ind (P := fun m t => m = false → ∀ sh, Rp S false t sh G → gid i t = some x → ∃ x', gid i sh = some x' ∧ Rp S true x x' (fun _ => G i) ∧ ∀ b, b ∈ ad true x' → b ∈ ad false sh) (fun _ _ _ _ h => by cases h) (fun m l y r _ _ _ _ ih hm sh h hg => ?_) t false hs rfl sh h1 h2
  subst hm
  obtain ⟨x', r', rfl, h2, h3⟩ := Rp_k h
  rw [gid_cn] at hg
  rw [gid_cn]
  by_cases e : i = l
  · rw [if_pos e] at hg ⊢
    cases hg
    subst e
    exact ⟨x', rfl, h2, fun b hb => List.mem_append_left _ hb⟩
  · rw [if_neg e] at hg ⊢
    obtain ⟨y', a, b, c⟩ := ih rfl r' h3 hg
    exact ⟨y', a, b, fun z hz => List.mem_append_right _ (c z hz)⟩
theorem Rp_gn {i : Nat} {t : Fo} (hs : So false t) : Rp S false t sh G → gid i t = none → gid i sh = none := by
  refine fun h1 h2 => So_ind (P := fun m t => m = false → ∀ sh, Rp S false t sh G → gid i t = none → gid i sh = none) (fun _ _ sh h _ => ?_) (fun m l y r _ _ _ _ ih hm sh h hg => ?_) t false hs rfl sh h1 h2
  · rw [(Rp_n h).1]
    rfl
  · subst hm
    obtain ⟨x', r', rfl, h2, h3⟩ := Rp_k h
    rw [gid_cn] at hg ⊢
    by_cases e : i = l
    · rw [if_pos e] at hg
      cases hg
    · rw [if_neg e] at hg ⊢
      exact ih rfl r' h3 hg
end RP
