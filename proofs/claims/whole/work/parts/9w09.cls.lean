theorem ad_ap : ∀ (s y : Fo), ad true (ap s y) = ad true s ++ ad true y
  | .append (.tag a k) r, y => by
    show a :: (ad false k ++ ad true (ap r y)) = a :: (ad false k ++ ad true r) ++ ad true y
    rw [ad_ap r y, List.cons_append, List.append_assoc]
  | .append .nil _, _ => rfl
  | .append .line _, _ => rfl
  | .append (.align _) _, _ => rfl
  | .append (.text _) _, _ => rfl
  | .append (.nest _ _) _, _ => rfl
  | .append (.append _ _) _, _ => rfl
  | .append (.group _ _) _, _ => rfl
  | .nil, _ => rfl
  | .line, _ => rfl
  | .align _, _ => rfl
  | .text _, _ => rfl
  | .nest _ _, _ => rfl
  | .group _ _, _ => rfl
  | .tag _ _, _ => rfl
theorem lst_ap : ∀ (s y : Fo) (d : Option Nat), lst (ap s y) d = lst y (lst s d)
  | .append (.tag a k) r, y, d => lst_ap r y (some a)
  | .append .nil _, _, _ => rfl
  | .append .line _, _, _ => rfl
  | .append (.align _) _, _, _ => rfl
  | .append (.text _) _, _, _ => rfl
  | .append (.nest _ _) _, _, _ => rfl
  | .append (.append _ _) _, _, _ => rfl
  | .append (.group _ _) _, _, _ => rfl
  | .nil, _, _ => rfl
  | .line, _, _ => rfl
  | .align _, _, _ => rfl
  | .text _, _, _ => rfl
  | .nest _ _, _, _ => rfl
  | .group _ _, _, _ => rfl
  | .tag _ _, _, _ => rfl
theorem Spt_ap : ∀ (s y : Fo), Spt true (ap s y) ↔ Spt true s ∧ Spt true y ∧ ∀ x, x ∈ ad true s → x ∉ ad true y
  | .append (.tag a k) r, y => by
    show (Spt false k ∧ Spt true (ap r y) ∧ (∀ x, x ∈ ad false k → x ≠ a ∧ x ∉ ad true (ap r y)) ∧ a ∉ ad true (ap r y)) ↔ (Spt false k ∧ Spt true r ∧ (∀ x, x ∈ ad false k → x ≠ a ∧ x ∉ ad true r) ∧ a ∉ ad true r) ∧ Spt true y ∧ ∀ x, x ∈ a :: (ad false k ++ ad true r) → x ∉ ad true y
    rw [Spt_ap r y, ad_ap]
    constructor
    · rintro ⟨h1, ⟨h2, h3, h4⟩, h5, h6⟩
      refine ⟨⟨h1, h2, fun x hx => ⟨(h5 x hx).1, fun z => (h5 x hx).2 (List.mem_append_left _ z)⟩, fun z => h6 (List.mem_append_left _ z)⟩, h3, fun x hx => ?_⟩
      rw [List.mem_cons, List.mem_append] at hx
      rcases hx with rfl | hx | hx
      · exact fun z => h6 (List.mem_append_right _ z)
      · exact fun z => (h5 x hx).2 (List.mem_append_right _ z)
      · exact h4 x hx
    · rintro ⟨⟨h1, h2, h3, h4⟩, h5, h6⟩
      refine ⟨h1, ⟨h2, h5, fun x hx => h6 x (List.mem_cons_of_mem _ (List.mem_append_right _ hx))⟩, fun x hx => ⟨(h3 x hx).1, fun z => ?_⟩, fun z => ?_⟩
      · rw [List.mem_append] at z
        exact z.elim (h3 x hx).2 (h6 x (List.mem_cons_of_mem _ (List.mem_append_left _ hx)))
      · rw [List.mem_append] at z
        exact z.elim h4 (h6 a List.mem_cons_self)
  | .append .nil _, _ => ⟨fun h => ⟨trivial, h, fun _ z => by cases z⟩, fun h => h.2.1⟩
  | .append .line _, _ => ⟨fun h => ⟨trivial, h, fun _ z => by cases z⟩, fun h => h.2.1⟩
  | .append (.align _) _, _ => ⟨fun h => ⟨trivial, h, fun _ z => by cases z⟩, fun h => h.2.1⟩
  | .append (.text _) _, _ => ⟨fun h => ⟨trivial, h, fun _ z => by cases z⟩, fun h => h.2.1⟩
  | .append (.nest _ _) _, _ => ⟨fun h => ⟨trivial, h, fun _ z => by cases z⟩, fun h => h.2.1⟩
  | .append (.append _ _) _, _ => ⟨fun h => ⟨trivial, h, fun _ z => by cases z⟩, fun h => h.2.1⟩
  | .append (.group _ _) _, _ => ⟨fun h => ⟨trivial, h, fun _ z => by cases z⟩, fun h => h.2.1⟩
  | .nil, _ => ⟨fun h => ⟨trivial, h, fun _ z => by cases z⟩, fun h => h.2.1⟩
  | .line, _ => ⟨fun h => ⟨trivial, h, fun _ z => by cases z⟩, fun h => h.2.1⟩
  | .align _, _ => ⟨fun h => ⟨trivial, h, fun _ z => by cases z⟩, fun h => h.2.1⟩
  | .text _, _ => ⟨fun h => ⟨trivial, h, fun _ z => by cases z⟩, fun h => h.2.1⟩
  | .nest _ _, _ => ⟨fun h => ⟨trivial, h, fun _ z => by cases z⟩, fun h => h.2.1⟩
  | .group _ _, _ => ⟨fun h => ⟨trivial, h, fun _ z => by cases z⟩, fun h => h.2.1⟩
  | .tag _ _, _ => ⟨fun h => ⟨trivial, h, fun _ z => by cases z⟩, fun h => h.2.1⟩
theorem ad_pl {x : Nat} : ∀ (C : List Frm) (s : Fo), x ∈ ad true (plS C s) ↔ x ∈ ad true (plS C .nil) ∨ x ∈ ad true s
  | [], s => ⟨fun h => Or.inr h, fun h => h.elim (fun z => by cases z) id⟩
  | (ts, ss, h, a, lab) :: C, s => by
    have e : ∀ y, ad true (plS ((ts, ss, h, a, lab) :: C) y) = ad true ss ++ (a :: ((ad true (plS C y) ++ []) ++ [])) := fun y => ad_ap ss _
    rw [e, e, List.append_nil, List.append_nil, List.append_nil, List.append_nil, List.mem_append, List.mem_append, List.mem_cons, List.mem_cons, ad_pl C s]
    constructor
    · rintro (h | h | h | h)
      · exact Or.inl (Or.inl h)
      · exact Or.inl (Or.inr (Or.inl h))
      · exact Or.inl (Or.inr (Or.inr h))
      · exact Or.inr h
    · rintro ((h | h | h) | h)
      · exact Or.inl h
      · exact Or.inr (Or.inl h)
      · exact Or.inr (Or.inr (Or.inl h))
      · exact Or.inr (Or.inr (Or.inr h))
theorem Spt_pl : ∀ (C : List Frm) (s : Fo), Spt true (plS C s) ↔ Spt true (plS C .nil) ∧ Spt true s ∧ ∀ x, x ∈ ad true (plS C .nil) → x ∉ ad true s
  | [], s => ⟨fun h => ⟨trivial, h, fun _ z => by cases z⟩, fun h => h.2.1⟩
  | (ts, ss, h, a, lab) :: C, s => by
    have e : ∀ y, ad true (plS ((ts, ss, h, a, lab) :: C) y) = ad true ss ++ (a :: ((ad true (plS C y) ++ []) ++ [])) := fun y => ad_ap ss _
    have e2 : ∀ y, Spt true (plS ((ts, ss, h, a, lab) :: C) y) ↔ Spt true ss ∧ Spt true (plS C y) ∧ (∀ x, x ∈ ad true (plS C y) → x ≠ a) ∧ (∀ x, x ∈ ad true ss → x ≠ a ∧ x ∉ ad true (plS C y)) := fun y => by
      show Spt true (ap ss (cn a (cn lab (plS C y) .nil) .nil)) ↔ _
      have e3 : ad true (cn a (cn lab (plS C y) .nil) .nil) = a :: ((ad true (plS C y) ++ []) ++ []) := rfl
      have e4 : Spt true (cn a (cn lab (plS C y) .nil) .nil) ↔ (Spt true (plS C y) ∧ True ∧ (∀ z, z ∈ ad true (plS C y) → z ∉ [])) ∧ True ∧ (∀ x, x ∈ ad true (plS C y) ++ [] → x ≠ a ∧ x ∉ []) ∧ a ∉ [] := Iff.rfl
      rw [Spt_ap, e3, e4, List.append_nil, List.append_nil]
      constructor
      · rintro ⟨h1, ⟨⟨h2, _, _⟩, _, h3, _⟩, h4⟩
        refine ⟨h1, h2, fun x hx => (h3 x hx).1, fun x hx => ?_⟩
        have := h4 x hx
        rw [List.mem_cons] at this
        exact ⟨fun z => this (Or.inl z), fun z => this (Or.inr z)⟩
      · rintro ⟨h1, h2, h3, h4⟩
        refine ⟨h1, ⟨⟨h2, trivial, fun _ _ z => by cases z⟩, trivial, fun x hx => ⟨h3 x hx, fun z => by cases z⟩, fun z => by cases z⟩, fun x hx => ?_⟩
        rw [List.mem_cons]
        exact fun z => z.elim (h4 x hx).1 (h4 x hx).2
    rw [e2 s, e2 .nil, e .nil, List.append_nil, List.append_nil, Spt_pl C s]
    have mp := fun x => ad_pl (x := x) C s
    constructor
    · rintro ⟨h1, ⟨h2, h3, h4⟩, h5, h6⟩
      refine ⟨⟨h1, h2, fun x hx => h5 x ((mp x).mpr (Or.inl hx)), fun x hx => ⟨(h6 x hx).1, fun z => (h6 x hx).2 ((mp x).mpr (Or.inl z))⟩⟩, h3, fun x hx z => ?_⟩
      rw [List.mem_append, List.mem_cons] at hx
      rcases hx with hx | hx | hx
      · exact (h6 x hx).2 ((mp x).mpr (Or.inr z))
      · exact h5 x ((mp x).mpr (Or.inr z)) hx
      · exact h4 x hx z
    · rintro ⟨⟨h1, h2, h3, h4⟩, h5, h6⟩
      have h6a : ∀ x, x ∈ ad true ss → x ∉ ad true s := fun x hx => h6 x (List.mem_append_left _ hx)
      have h6b : a ∉ ad true s := h6 a (List.mem_append_right _ List.mem_cons_self)
      have h6c : ∀ x, x ∈ ad true (plS C .nil) → x ∉ ad true s := fun x hx => h6 x (List.mem_append_right _ (List.mem_cons_of_mem _ hx))
      refine ⟨h1, ⟨h2, h5, h6c⟩, fun x hx e => ?_, fun x hx => ⟨(h4 x hx).1, fun z => ?_⟩⟩
      · rcases (mp x).mp hx with hx | hx
        · exact h3 x hx e
        · exact h6b (by rw [← e]; exact hx)
      · rcases (mp x).mp z with z | z
        · exact (h4 x hx).2 z
        · exact h6a x hx z
section RO
variable {S S' : hS} {L : List Nat}
theorem RpC_md (md : Md2 S S' L) : ∀ (C : List Frm) (v K : Option Nat), RpC S C v K → (∀ x, x ∈ ad true (plS C .nil) → x ∉ L) → RpC S' C v K
  | [], v, K, h, _ => h
  | (ts, ss, h, a, lab) :: C, v, K, hC, hd => by
    obtain ⟨h0, h1, h2, h3, h4, h5, h6⟩ := hC
    have e : ad true (plS ((ts, ss, h, a, lab) :: C) .nil) = ad true ss ++ (a :: ((ad true (plS C .nil) ++ []) ++ [])) := ad_ap ss _
    rw [e, List.append_nil, List.append_nil] at hd
    have la := Md2_lk md h2.1 h2.2.2.2.1 (hd a (List.mem_append_right _ List.mem_cons_self))
    refine ⟨h0, RpG_md md ts h0 ss v _ h1 (fun x hx => hd x (List.mem_append_left _ hx)), Nd_fr h2 la, by rw [la.2.2.1]; exact h3, h4, h5, ?_⟩
    rw [la.2.2.2.2.2.2.2]
    exact RpC_md md C _ K h6 (fun x hx => hd x (List.mem_append_right _ (List.mem_cons_of_mem _ hx)))
theorem RpG_0 : ∀ (t : Fo), So true t → ∀ (sh : Fo) (v : Option Nat), RpG S t sh v none → Rp S true t sh (fun _ => v) := fun t ht => So_ind (P := fun m t => m = true → ∀ (sh : Fo) (v : Option Nat), RpG S t sh v none → Rp S true t sh (fun _ => v)) (fun m hm sh v h => by
    subst hm
    obtain ⟨rfl, rfl⟩ := RpG_n h
    exact rfl) (fun m n k r _ _ _ _ ih hm sh v h => by
    subst hm
    obtain ⟨a, k', r', rfl, h1, h2, h3, h4⟩ := RpG_r h
    exact Rp_rm h1 h2 h3 (ih rfl r' _ h4)) t true ht rfl
theorem RpG_c : ∀ (t : Fo), So true t → ∀ (sh : Fo) (v : Option Nat) (y sy : Fo) (K K2 : Option Nat), RpG S t sh v K → RpG S y sy K K2 → RpG S (ap t y) (ap sh sy) v K2 := fun t ht => So_ind (P := fun m t => m = true → ∀ (sh : Fo) (v : Option Nat) (y sy : Fo) (K K2 : Option Nat), RpG S t sh v K → RpG S y sy K K2 → RpG S (ap t y) (ap sh sy) v K2) (fun _ _ sh v y sy K K2 h hy => by
    obtain ⟨rfl, rfl⟩ := RpG_n h
    exact hy) (fun m n k r _ _ _ _ ih hm sh v y sy K K2 h hy => by
    obtain ⟨a, k', r', rfl, h1, h2, h3, h4⟩ := RpG_r h
    exact ⟨h1, h2, h3, ih hm r' _ y sy K K2 h4 hy⟩) t true ht rfl
def RowO (S : hS) (w : Nat) (C : List Frm) (t s : Fo) : Prop := ztg S w = 8 ∧ (∃ K, RpC S C (zR S 0 w) K ∧ RpG S t s K none) ∧ So true t ∧ zR S 1 w = lst s none ∧ (C = [] → zR S 2 w = none) ∧ (∀ C0 f, C = C0 ++ [f] → zR S 2 w = some f.2.2.2.1 ∧ zI S 3 w = Int32.ofNat f.2.2.2.2) ∧ Spt true (plS C s)
theorem RowO_cl {w : Nat} {C : List Frm} {t s : Fo} (h : RowO S w C t s) : Rp S true (plT C t) (plS C s) (fun _ => zR S 0 w) := by
  obtain ⟨_, ⟨K, h1, h2⟩, h3, _⟩ := h
  exact RpC_pl C _ K t s h1 (RpG_0 t h3 s K h2)
theorem plT_so : ∀ (C : List Frm) (v K : Option Nat) (x : Fo), RpC S C v K → So true x → So true (plT C x)
  | [], _, _, x, _, h => h
  | (ts, ss, h, a, lab) :: C, v, K, x, hC, hx => by
    obtain ⟨h0, _, _, _, _, _, h6⟩ := hC
    exact So_ap h0 ⟨⟨plT_so C _ K x h6 hx, So_nil, fun _ => trivial⟩, So_nil, fun z => Bool.noConfusion z⟩
theorem RowO_nd {w : Nat} {C : List Frm} {t s : Fo} (h : RowO S w C t s) : ∀ x, x ∈ ad true (plS C s) → ztg S x = 2 ∧ ztg S (x + 1) = 27 := by
  have h0 := h
  obtain ⟨_, ⟨K, h1, _⟩, h3, _⟩ := h0
  exact Rp_nd _ true (plT_so C _ K t h1 h3) _ _ (RowO_cl h)
theorem RowO_md {w : Nat} {C : List Frm} {t s : Fo} (h : RowO S w C t s) (md : Md2 S S' L) (hw : w ∉ L) (hd : ∀ x, x ∈ ad true (plS C s) → x ∉ L) : RowO S' w C t s := by
  obtain ⟨h1, ⟨K, h2, h3⟩, h4, h5, h6, h7, h8⟩ := h
  have wl := (ztg_lt h1).1
  have eR : ∀ k, zR S' k w = zR S k w := fun k => (md.2.2.1 k w wl hw).2
  have eI : ∀ k, zI S' k w = zI S k w := fun k => (md.2.2.1 k w wl hw).1
  refine ⟨Md2_tg md h1, ⟨K, ?_, RpG_md md t h4 s K none h3 (fun x hx => hd x ((ad_pl C s).mpr (Or.inr hx)))⟩, h4, by rw [eR]; exact h5, fun e => by rw [eR]; exact h6 e, fun C0 f e => by rw [eR, eI]; exact h7 C0 f e, h8⟩
  rw [eR]
  exact RpC_md md C _ K h2 (fun x hx => hd x ((ad_pl C s).mpr (Or.inl hx)))
theorem app55 {w : Nat} : ∀ (r : Fo), So true r → ∀ (r' : Fo) (S : hS) (a m : Nat), ztg S w = 8 → ztg S a = 2 → RpG S r r' (zR S 8 a) none → (∀ x, x ∈ ad true r' → x ≠ w) → a ≠ w → nq true r + 1 ≤ m → yW_append_55 w m (szR S 1 w (some a)) = some (szR S 1 w (lst r' (some a))) := fun r hr => So_ind (P := fun q r => q = true → ∀ (r' : Fo) (S : hS) (a m : Nat), ztg S w = 8 → ztg S a = 2 → RpG S r r' (zR S 8 a) none → (∀ x, x ∈ ad true r' → x ≠ w) → a ≠ w → nq true r + 1 ≤ m → yW_append_55 w m (szR S 1 w (some a)) = some (szR S 1 w (lst r' (some a)))) (fun _ _ r' S a m hw ha h _ hne hm => by
    obtain ⟨m, rfl⟩ : ∃ k, m = k + 1 := ⟨m - 1, by omega⟩
    obtain ⟨rfl, e⟩ := RpG_n h
    have e8 : zR (szR S 1 w (some a)) 8 a = none := (zR_q (fun _ => hne)).trans e
    rw [yW_append_55, if_pos (show ztg (szR S 1 w (some a)) w = 8 from hw)]
    refine zlb_s.trans ((zob_s (zR_self S 1 w (some a))).trans ?_)
    rw [if_pos (show ztg (szR S 1 w (some a)) a = 2 from ha)]
    refine zlb_s.trans ?_
    rw [e8]
    rfl) (fun q n k r _ h2 _ _ ih hq r' S a m hw ha h hd hne hm => by
    subst hq
    have e2 : nq true (cn n k r) = 1 + nq false k + nq true r := rfl
    obtain ⟨m, rfl⟩ : ∃ k, m = k + 1 := ⟨m - 1, by omega⟩
    obtain ⟨b, k', r2, rfl, h1, g2, g3, g4⟩ := RpG_r h
    have e8 : zR (szR S 1 w (some a)) 8 a = some b := (zR_q (fun _ => hne)).trans h1
    rw [yW_append_55, if_pos (show ztg (szR S 1 w (some a)) w = 8 from hw)]
    refine zlb_s.trans ((zob_s (zR_self S 1 w (some a))).trans ?_)
    rw [if_pos (show ztg (szR S 1 w (some a)) a = 2 from ha)]
    refine zlb_s.trans ?_
    rw [e8]
    show (zlb (zR (szR S 1 w (some a)) 1 w) fun o5 => _) = _
    refine zlb_s.trans ((zob_s (zR_self S 1 w (some a))).trans ?_)
    rw [if_pos (show ztg (szR S 1 w (some a)) a = 2 from ha)]
    refine zlb_s.trans ?_
    rw [e8]
    have eq : szR (szR S 1 w (some a)) 1 w (some b) = szR S 1 w (some b) := by
      unfold szR
      congr 1
      congr 1
      congr 1
      congr 1
      congr 1
      congr 1
      funext j c
      show zup2 (zup2 S.2.2.2.2.2.1 1 w (some a)) 1 w (some b) j c = zup2 S.2.2.2.2.2.1 1 w (some b) j c
      unfold zup2
      split
      · split <;> rfl
      · rfl
    rw [eq]
    exact ih rfl r2 S b m hw g2.1 g4 (fun x hx => hd x (List.mem_cons_of_mem _ (List.mem_append_right _ hx))) (hd b List.mem_cons_self) (by omega)) r true hr rfl
end RO
