def stR (S : hS) (f : Nat → Nat → Option Nat) : hS := (S.1, S.2.1, S.2.2.1, S.2.2.2.1, S.2.2.2.2.1, f, S.2.2.2.2.2.2.1, S.2.2.2.2.2.2.2.1, S.2.2.2.2.2.2.2.2.1, S.2.2.2.2.2.2.2.2.2.1, S.2.2.2.2.2.2.2.2.2.2)
def Md9 (q : Nat) (S S' : hS) (L : List Nat) : Prop := ∃ f, S' = stR S f ∧ ∀ k b, (k ≠ q ∨ b ∉ L) → f k b = zR S k b
def kLp (n : Nat) : Bool := decide (cK n = 7) || decide (cK n = 8)
def BH (S : hS) : Bool → Fo → Fo → Option Nat → Prop
  | true, .append (.tag n k) r, .append (.tag a k') r', E => zR S 9 a = (match zR S 8 a with | none => E | some b => some b) ∧ BH S false k k' (if kLp n = true then some a else zR S 9 a) ∧ BH S true r r' E
  | false, .append (.tag _ x) r, .append (.tag _ x') r', E => BH S true x x' E ∧ BH S false r r' E
  | _, _, _, _ => True
section ST
variable {S S' S2 : hS} {n a q : Nat} {L L2 L3 : List Nat}
theorem Md9_r : Md9 q S S L := ⟨zR S, rfl, fun _ _ _ => rfl⟩
theorem Md9_t (h1 : Md9 q S S' L) (h2 : Md9 q S' S2 L2) (e1 : ∀ x, x ∈ L → x ∈ L3) (e2 : ∀ x, x ∈ L2 → x ∈ L3) : Md9 q S S2 L3 := by
  obtain ⟨f, rfl, hf⟩ := h1
  obtain ⟨g, rfl, hg⟩ := h2
  exact ⟨g, rfl, fun k b h => (hg k b (h.imp id (fun z w => z (e2 b w)))).trans (hf k b (h.imp id (fun z w => z (e1 b w))))⟩
theorem Md9_m (h1 : Md9 q S S' L) (e1 : ∀ x, x ∈ L → x ∈ L3) : Md9 q S S' L3 := Md9_t h1 Md9_r e1 (L2 := []) (fun x h => by cases h)
theorem Md9_s {v : Option Nat} : Md9 q S (szR S q a v) [a] := ⟨zR (szR S q a v), rfl, fun k b h => zR_q (fun e => by
    rcases h with h | h
    · exact (h e).elim
    · exact fun z => h (by rw [z]; exact List.mem_cons_self))⟩
theorem Md9_R (h : Md9 q S S' L) {k b : Nat} (e : k ≠ q ∨ b ∉ L) : zR S' k b = zR S k b := by
  obtain ⟨f, rfl, hf⟩ := h
  exact hf k b e
theorem Md9_tg (h : Md9 q S S' L) (x : Nat) : ztg S' x = ztg S x := by
  obtain ⟨f, rfl, hf⟩ := h
  rfl
theorem Md9_I (h : Md9 q S S' L) : zI S' = zI S := by
  obtain ⟨f, rfl, hf⟩ := h
  rfl
theorem Md9_A (h : Md9 q S S' L) : zAR S' = zAR S := by
  obtain ⟨f, rfl, hf⟩ := h
  rfl
theorem Md9_lk {x : Nat} (h : Md9 9 S S' L) : Lk S S' x := by
  obtain ⟨f, rfl, hf⟩ := h
  exact ⟨fun _ => rfl, hf 6 x (Or.inl (by decide)), hf 8 x (Or.inl (by decide)), rfl, rfl, rfl, rfl, rfl⟩
theorem Rp_m9 {t sh : Fo} {m : Bool} {G : Nat → Option Nat} (hs : So m t) (h : Rp S m t sh G) (md : Md9 9 S S' L) : Rp S' m t sh G := Rp_fr t m hs sh G h (fun _ _ => Md9_lk md)
theorem Ndd_m9 {k : Fo} (h : Ndd S a n k) (md : Md9 9 S S' L) : Ndd S' a n k := by
  obtain ⟨f, rfl, hf⟩ := md
  obtain ⟨h1, h2, h3, h4⟩ := h
  exact ⟨h1, h2, (hf 6 a (Or.inl (by decide))).trans h3, h4⟩
theorem BH_fr : ∀ (t : Fo) (m : Bool), So m t → ∀ (sh : Fo) (E : Option Nat) (G : Nat → Option Nat), Rp S m t sh G → BH S m t sh E → (∀ a, a ∈ ad m sh → zR S' 8 a = zR S 8 a ∧ zR S' 9 a = zR S 9 a) → BH S' m t sh E := So_ind (P := fun m t => ∀ (sh : Fo) (E : Option Nat) (G : Nat → Option Nat), Rp S m t sh G → BH S m t sh E → (∀ a, a ∈ ad m sh → zR S' 8 a = zR S 8 a ∧ zR S' 9 a = zR S 9 a) → BH S' m t sh E) (fun m sh E G h _ _ => by
    cases (Rp_n h).1
    cases m <;> trivial) (fun m n k r h1 h2 h3 ihk ihr sh E G h hb hl => by
    cases m with
    | true =>
      obtain ⟨a, k', r', rfl, g1, nda, rk, rr⟩ := Rp_r h
      obtain ⟨b1, b2, b3⟩ := hb
      have ha := hl a List.mem_cons_self
      refine ⟨?_, ?_, ?_⟩
      · rw [ha.1, ha.2]
        exact b1
      · rw [ha.2]
        exact ihk k' _ _ rk b2 (fun x hx => hl x (List.mem_cons_of_mem _ (List.mem_append_left _ hx)))
      · exact ihr r' E _ rr b3 (fun x hx => hl x (List.mem_cons_of_mem _ (List.mem_append_right _ hx)))
    | false =>
      obtain ⟨x', r', rfl, rx, rr⟩ := Rp_k h
      exact ⟨ihk x' E _ rx hb.1 (fun x hx => hl x (List.mem_append_left _ hx)), ihr r' E _ rr hb.2 (fun x hx => hl x (List.mem_append_right _ hx))⟩)
theorem BH_of {E : Option Nat} : ∀ (k : Fo), So false k → ∀ (sh : Fo) (G : Nat → Option Nat), Rp S false k sh G → (∀ i x x', gid i k = some x → gid i sh = some x' → BH S true x x' E) → BH S false k sh E := fun k hk => So_ind (P := fun m k => m = false → ∀ (sh : Fo) (G : Nat → Option Nat), Rp S false k sh G → (∀ i x x', gid i k = some x → gid i sh = some x' → BH S true x x' E) → BH S false k sh E) (fun m hm sh G h _ => by
    cases (Rp_n h).1
    trivial) (fun m l x r h1 h2 h3 _ ih hm sh G h hg => by
    subst hm
    obtain ⟨x', r', rfl, rx, rr⟩ := Rp_k h
    refine ⟨hg l x x' (by rw [gid_cn, if_pos rfl]) (by rw [gid_cn, if_pos rfl]), ih rfl r' G rr (fun i y y' e1 e2 => ?_)⟩
    have hl : l < i := Nat.lt_of_not_le (fun z => by rw [gid_lo h2 (Nat.lt_succ_of_le z) (h3 rfl)] at e1; cases e1)
    exact hg i y y' (by rw [gid_cn, if_neg (by omega)]; exact e1) (by rw [gid_cn, if_neg (by omega)]; exact e2)) k false hk rfl
end ST
