def cd (k v l o d e : Nat) : Nat := k + 16 * (v + 4 * (l + 16 * (o + 8 * (d + 64 * e))))
def cK (n : Nat) : Nat := n % 16
def cV (n : Nat) : Nat := n / 16 % 4
def cL (n : Nat) : Nat := n / 64 % 16
def cO (n : Nat) : Nat := n / 1024 % 8
def cD (n : Nat) : Nat := n / 8192 % 64
def cE (n : Nat) : Nat := n / 524288
section CD
variable {k v l o d e : Nat}
theorem cd_K (hk : k < 16) : cK (cd k v l o d e) = k := by unfold cK cd; omega
theorem cd_V (hk : k < 16) (hv : v < 4) : cV (cd k v l o d e) = v := by unfold cV cd; omega
theorem cd_L (hk : k < 16) (hv : v < 4) (hl : l < 16) : cL (cd k v l o d e) = l := by unfold cL cd; omega
theorem cd_O (hk : k < 16) (hv : v < 4) (hl : l < 16) (ho : o < 8) : cO (cd k v l o d e) = o := by unfold cO cd; omega
theorem cd_D (hk : k < 16) (hv : v < 4) (hl : l < 16) (ho : o < 8) (hd : d < 64) : cD (cd k v l o d e) = d := by unfold cD cd; omega
theorem cd_E (hk : k < 16) (hv : v < 4) (hl : l < 16) (ho : o < 8) (hd : d < 64) : cE (cd k v l o d e) = e := by unfold cE cd; omega
theorem cd_self (n : Nat) : cd (cK n) (cV n) (cL n) (cO n) (cD n) (cE n) = n := by unfold cd cK cV cL cO cD cE; omega
end CD
def ap : Fo → Fo → Fo
  | .append (.tag n k) r, b => cn n k (ap r b)
  | _, b => b
def gid : Nat → Fo → Option Fo
  | i, .append (.tag j x) r => if i = j then some x else gid i r
  | _, _ => none
def Lo : Nat → Fo → Prop
  | i, .append (.tag j _) r => i ≤ j ∧ Lo i r
  | _, _ => True
def So : Bool → Fo → Prop
  | m, .append (.tag n k) r => So (!m) k ∧ So m r ∧ (m = false → Lo (n + 1) r)
  | _, .nil => True
  | _, _ => False
def ltk : Nat → Fo → Fo
  | i, .append (.tag j y) l => if j < i then cn j y (ltk i l) else .nil
  | _, _ => .nil
def gek : Nat → Fo → Fo
  | i, .append (.tag j y) l => if j < i then gek i l else cn j y l
  | _, _ => .nil
def J : Bool → Fo → Fo → Option Fo
  | true, .append (.tag n k) r, b => match b with
    | .append (.tag m l) s => if n = m then (J false k l).bind fun k' => (J true r s).bind fun r' => some (cn n k' r') else none
    | _ => none
  | false, .append (.tag n x) r, b => (match gid n b with
      | some y => J true x y
      | none => some x).bind fun x' => (J false r (gek (n + 1) b)).bind fun r' => some (ap (ltk n b) (cn n x' r'))
  | true, _, b => match b with
    | .append _ _ => none
    | _ => some .nil
  | false, _, b => some b
def bts (g : Nat → Bool) : Nat := (if g 0 then 1 else 0) + (if g 1 then 2 else 0) + (if g 2 then 4 else 0) + (if g 3 then 8 else 0) + (if g 4 then 16 else 0) + (if g 5 then 32 else 0)
theorem bts_t (g : Nat → Bool) {q : Nat} (h : q < 6) : (bts g).testBit q = g q := by
  have hq : q = 0 ∨ q = 1 ∨ q = 2 ∨ q = 3 ∨ q = 4 ∨ q = 5 := by omega
  unfold bts
  rcases hq with rfl | rfl | rfl | rfl | rfl | rfl <;> cases g 0 <;> cases g 1 <;> cases g 2 <;> cases g 3 <;> cases g 4 <;> cases g 5 <;> rfl
theorem bts_lt (g : Nat → Bool) : bts g < 64 := by
  unfold bts
  split <;> split <;> split <;> split <;> split <;> split <;> omega
def tl1 (l u p : Nat) (x : Fo) : Fo := if u.testBit p then cn (cd 4 0 l p 0 0) .nil x else x
def tel (l u : Nat) (x : Fo) : Fo := tl1 l u 0 (tl1 l u 1 (tl1 l u 2 (tl1 l u 3 (tl1 l u 4 (tl1 l u 5 x)))))
def smA (s p : Nat) (x : Fo) : Fo :=
  if cK s = 1 then (if p = cD s then cn (cd 1 (cV s) 0 0 0 (cE s)) .nil x else x)
  else if cK s = 2 then (if p = cD s then cn (cd 2 0 0 (cO s) 0 (cE s)) .nil x else if p = cO s then cn (cd 3 (cV s) 0 (cD s) 0 0) .nil x else x)
  else (if p = cD s then cn (cd 4 0 (cL s) (cO s) 0 0) .nil x else if p = cO s then cn (cd 5 0 0 (cD s) 0 0) (cn (cL s) x .nil) .nil else x)
def rdA (s l : Nat) (y : Fo) (p : Nat) (x : Fo) : Fo := if p = cD s then cn (cd 7 0 0 0 l (cE s)) (cn 0 y .nil) x else if l.testBit p then cn (cd 8 0 0 (cD s) 0 0) (cn 0 y .nil) x else x
def unw (q0 : Nat) (c1 c2 : Nat → Fo) : Nat := bts fun q => !decide (q = q0) && (J true (c1 q) (c2 q)).isNone
def chA (s : Nat) (c1 c2 : Nat → Fo) (p : Nat) (x : Fo) : Fo := if p = cD s then cn (cd 6 0 0 0 0 (cE s)) (cn 0 (tel 1 (unw (cD s) c1 c2) (c1 p)) (cn 1 (tel 0 (unw (cD s) c1 c2) (c2 p)) .nil)) x else if (unw (cD s) c1 c2).testBit p then cn (cd 5 0 0 (cD s) 0 0) (cn 0 (c2 p) (cn 1 (c1 p) .nil)) x else ap ((J true (c1 p) (c2 p)).getD .nil) x
def soc (s p : Nat) : Bool := decide (p = cD s) || (decide (cK s = 2 ∨ cK s = 4) && decide (p = cO s))
def occ (D : Nat → Nat) : Fo → Nat → Bool
  | .append (.tag P (.append (.tag _ t1) (.append (.tag _ t2) _))) r => fun p => soc (D P) p || occ D t1 p || occ D t2 p || occ D r p
  | .append (.tag P (.append (.tag _ t1) _)) r => fun p => soc (D P) p || occ D t1 p || occ D r p
  | .append (.tag P _) r => fun p => soc (D P) p || occ D r p
  | _ => fun _ => false
def led (s : Nat) (o : Nat → Bool) : Nat := bts fun q => !decide (q = cD s) && o q
def cut (D : Nat → Nat) : Fo → Nat → Fo
  | .append (.tag P (.append (.tag _ t1) (.append (.tag _ t2) _))) r => fun p => chA (D P) (cut D t1) (cut D t2) p (cut D r p)
  | .append (.tag P (.append (.tag _ t1) _)) r => fun p => rdA (D P) (led (D P) (occ D t1)) (cut D t1 p) p (cut D r p)
  | .append (.tag P _) r => fun p => smA (D P) p (cut D r p)
  | _ => fun _ => .nil
def fgc (c : Nat) : Bool := decide (48 ≤ c ∧ c ≤ 57)
def ptc (c : Nat) : Bool := decide (65 ≤ c ∧ c ≤ 70)
def vrc (c : Nat) : Bool := decide (119 ≤ c ∧ c ≤ 122)
def opc (c : Nat) : Bool := decide (c = 43 ∨ c = 45 ∨ c = 42 ∨ c = 47 ∨ c = 37 ∨ c = 60 ∨ c = 61)
def xch (c : Nat) : Bool := fgc c || vrc c || opc c
def xtf : Nat → Nat → List Nat
  | 0, _ => []
  | f + 1, e => if e % 256 = 0 then [] else (e % 256) :: xtf f (e / 256)
def xt (e : Nat) : List Nat := xtf 8 e
def vlx : List Nat → Nat
  | [] => 0
  | c :: l => c + 256 * vlx l
def trL (l : List Nat) : Prop := (∃ v, l = [v] ∧ vrc v = true) ∨ (l ≠ [] ∧ l.length ≤ 3 ∧ ∀ c, c ∈ l → fgc c = true)
def Xw (l : List Nat) : Prop := trL l ∨ ∃ a o b, l = a ++ o :: b ∧ trL a ∧ opc o = true ∧ trL b
def Xok (e : Nat) : Prop := xt e ≠ [] ∧ (vlx (xt e) = e ∧ Xw (xt e)) ∧ ∀ c, c ∈ xt e → xch c = true
def PWs (s : Nat) : Prop := cD s < 6 ∧ (cK s = 1 ∨ (cK s = 2 ∨ cK s = 4) ∧ cO s < 6 ∧ cO s ≠ cD s) ∧ (cK s ≠ 4 → Xok (cE s)) ∧ (cK s = 4 → cL s < 10)
def PWb (s : Nat) : Prop := cD s < 6 ∧ Xok (cE s)
def PW (D : Nat → Nat) : Fo → Prop
  | .append (.tag P (.append (.tag _ t1) (.append (.tag _ t2) .nil))) r => cK (D P) = 6 ∧ PWb (D P) ∧ PW D t1 ∧ PW D t2 ∧ PW D r
  | .append (.tag P (.append (.tag _ t1) .nil)) r => cK (D P) = 7 ∧ PWb (D P) ∧ PW D t1 ∧ PW D r
  | .append (.tag P .nil) r => PWs (D P) ∧ PW D r
  | .nil => True
  | _ => False
section AP
variable {n i j : Nat} {k r x y a b c : Fo}
theorem cn_ap : ap (cn n k r) b = cn n k (ap r b) := rfl
theorem nil_ap : ap .nil b = b := rfl
theorem ap_as : ∀ (a b c : Fo), ap (ap a b) c = ap a (ap b c)
  | .append (.tag n k) r, b, c => congrArg (cn n k) (ap_as r b c)
  | .append .nil _, _, _ => rfl
  | .append .line _, _, _ => rfl
  | .append (.align _) _, _, _ => rfl
  | .append (.text _) _, _, _ => rfl
  | .append (.nest _ _) _, _, _ => rfl
  | .append (.append _ _) _, _, _ => rfl
  | .append (.group _ _) _, _, _ => rfl
  | .nil, _, _ => rfl
  | .line, _, _ => rfl
  | .align _, _, _ => rfl
  | .text _, _, _ => rfl
  | .nest _ _, _, _ => rfl
  | .group _ _, _, _ => rfl
  | .tag _ _, _, _ => rfl
theorem gid_cn : gid i (cn j x r) = if i = j then some x else gid i r := rfl
theorem gid_nil : gid i .nil = none := rfl
theorem Lo_cn : Lo i (cn j x r) ↔ i ≤ j ∧ Lo i r := Iff.rfl
theorem Lo_nil : Lo i .nil := trivial
theorem So_cn {m : Bool} : So m (cn n k r) ↔ So (!m) k ∧ So m r ∧ (m = false → Lo (n + 1) r) := Iff.rfl
theorem So_nil {m : Bool} : So m .nil := by cases m <;> trivial
end AP
theorem So_ind {P : Bool → Fo → Prop} (h0 : ∀ m, P m .nil) (h1 : ∀ m n k r, So (!m) k → So m r → (m = false → Lo (n + 1) r) → P (!m) k → P m r → P m (cn n k r)) : ∀ (t : Fo) (m : Bool), So m t → P m t
  | .append (.tag n k) r, m, h => h1 m n k r h.1 h.2.1 h.2.2 (So_ind h0 h1 k (!m) h.1) (So_ind h0 h1 r m h.2.1)
  | .append .nil _, m, h => by cases m <;> exact h.elim
  | .append .line _, m, h => by cases m <;> exact h.elim
  | .append (.align _) _, m, h => by cases m <;> exact h.elim
  | .append (.text _) _, m, h => by cases m <;> exact h.elim
  | .append (.nest _ _) _, m, h => by cases m <;> exact h.elim
  | .append (.append _ _) _, m, h => by cases m <;> exact h.elim
  | .append (.group _ _) _, m, h => by cases m <;> exact h.elim
  | .nil, m, _ => h0 m
  | .line, m, h => by cases m <;> exact h.elim
  | .align _, m, h => by cases m <;> exact h.elim
  | .text _, m, h => by cases m <;> exact h.elim
  | .nest _ _, m, h => by cases m <;> exact h.elim
  | .group _ _, m, h => by cases m <;> exact h.elim
  | .tag _ _, m, h => by cases m <;> exact h.elim
theorem ap_nil {m : Bool} {t : Fo} (h : So m t) : ap t .nil = t := So_ind (P := fun _ t => ap t .nil = t) (fun _ => rfl) (fun _ n k _ _ _ _ _ h => congrArg (cn n k) h) t m h
theorem Lo_mono {i j : Nat} {m : Bool} {t : Fo} (h : So m t) (hi : i ≤ j) : Lo j t → Lo i t := So_ind (P := fun _ t => Lo j t → Lo i t) (fun _ _ => trivial) (fun _ _ _ _ _ _ _ _ ih hl => ⟨Nat.le_trans hi hl.1, ih hl.2⟩) t m h
theorem gid_lo {i j : Nat} {m : Bool} {t : Fo} (h : So m t) (hi : i < j) : Lo j t → gid i t = none := So_ind (P := fun _ t => Lo j t → gid i t = none) (fun _ _ => rfl) (fun _ n k r _ _ _ _ ih hl => by
    rw [gid_cn, if_neg (by have := hl.1; omega)]
    exact ih hl.2) t m h
theorem So_ap {a b : Fo} (ha : So true a) (hb : So true b) : So true (ap a b) := So_ind (P := fun m a => m = true → So true (ap a b)) (fun _ _ => hb) (fun m n k r h1 _ _ _ ih hm => by
    subst hm
    exact ⟨h1, ih rfl, fun z => Bool.noConfusion z⟩) a true ha rfl
theorem gid_so {i : Nat} {t x : Fo} (h : So false t) : gid i t = some x → So true x := So_ind (P := fun m t => m = false → gid i t = some x → So true x) (fun _ _ h => by cases h) (fun m n k r h1 _ _ _ ih hm hg => by
    subst hm
    rw [gid_cn] at hg
    split at hg
    · cases hg
      exact h1
    · exact ih rfl hg) t false h rfl
theorem gid_ltk {i n : Nat} {t : Fo} (h : So false t) : gid i (ltk n t) = if i < n then gid i t else none := So_ind (P := fun m t => m = false → gid i (ltk n t) = if i < n then gid i t else none) (fun _ _ => by split <;> rfl) (fun m j k r h1 h2 h3 _ ih hm => by
    subst hm
    show gid i (if j < n then cn j k (ltk n r) else .nil) = _
    by_cases q : j < n
    · rw [if_pos q, gid_cn, gid_cn, ih rfl]
      by_cases q2 : i = j
      · rw [if_pos q2, if_pos (by omega), if_pos q2]
      · rw [if_neg q2, if_neg q2]
    · rw [if_neg q]
      by_cases q2 : i < n
      · rw [if_pos q2, gid_cn, if_neg (by omega), gid_lo h2 (by omega : i < j + 1) (h3 rfl)]
        rfl
      · rw [if_neg q2]
        rfl) t false h rfl
theorem gek_so {n : Nat} {t : Fo} (h : So false t) : So false (gek n t) ∧ Lo n (gek n t) ∧ (∀ j, Lo j t → Lo j (gek n t)) ∧ (∀ i, gid i (gek n t) = if n ≤ i then gid i t else none) := So_ind (P := fun m t => m = false → So false (gek n t) ∧ Lo n (gek n t) ∧ (∀ j, Lo j t → Lo j (gek n t)) ∧ (∀ i, gid i (gek n t) = if n ≤ i then gid i t else none)) (fun _ _ => ⟨trivial, trivial, fun _ _ => trivial, fun i => by split <;> rfl⟩) (fun m j k r h1 h2 h3 _ ih hm => by
    subst hm
    show So false (if j < n then gek n r else cn j k r) ∧ Lo n (if j < n then gek n r else cn j k r) ∧ (∀ i, Lo i (cn j k r) → Lo i (if j < n then gek n r else cn j k r)) ∧ (∀ i, gid i (if j < n then gek n r else cn j k r) = if n ≤ i then gid i (cn j k r) else none)
    obtain ⟨a1, a2, a3, a4⟩ := ih rfl
    by_cases q : j < n
    · rw [if_pos q]
      refine ⟨a1, a2, fun i hi => a3 i hi.2, fun i => ?_⟩
      rw [a4 i, gid_cn]
      by_cases q2 : n ≤ i
      · rw [if_pos q2, if_pos q2, if_neg (by omega)]
      · rw [if_neg q2, if_neg q2]
    · rw [if_neg q]
      refine ⟨⟨h1, h2, h3⟩, ⟨by omega, Lo_mono h2 (by omega) (h3 rfl)⟩, fun i hi => hi, fun i => ?_⟩
      by_cases q2 : n ≤ i
      · rw [if_pos q2]
      · rw [if_neg q2, gid_cn, if_neg (by omega), gid_lo h2 (by omega : i < j + 1) (h3 rfl)]) t false h rfl
theorem ltk_so {n : Nat} {t x : Fo} (h : So false t) (hx : So false x) (hl : Lo n x) : So false (ap (ltk n t) x) ∧ (∀ j, Lo j t → Lo j x → Lo j (ap (ltk n t) x)) ∧ (∀ i, gid i (ap (ltk n t) x) = if i < n then gid i t else gid i x) := So_ind (P := fun m t => m = false → So false (ap (ltk n t) x) ∧ (∀ j, Lo j t → Lo j x → Lo j (ap (ltk n t) x)) ∧ (∀ i, gid i (ap (ltk n t) x) = if i < n then gid i t else gid i x)) (fun _ _ => ⟨hx, fun _ _ h => h, fun i => by
      split
      · next q => exact gid_lo hx q hl
      · rfl⟩) (fun m j k r h1 h2 h3 _ ih hm => by
    subst hm
    obtain ⟨a1, a2, a3⟩ := ih rfl
    show So false (ap (if j < n then cn j k (ltk n r) else .nil) x) ∧ (∀ i, Lo i (cn j k r) → Lo i x → Lo i (ap (if j < n then cn j k (ltk n r) else .nil) x)) ∧ (∀ i, gid i (ap (if j < n then cn j k (ltk n r) else .nil) x) = if i < n then gid i (cn j k r) else gid i x)
    by_cases q : j < n
    · rw [if_pos q]
      refine ⟨⟨h1, a1, fun _ => a2 (j + 1) (h3 rfl) (Lo_mono hx q hl)⟩, fun i hi hx2 => ⟨hi.1, a2 i hi.2 hx2⟩, fun i => ?_⟩
      rw [cn_ap, gid_cn, gid_cn, a3 i]
      by_cases q2 : i = j
      · rw [if_pos q2, if_pos (by omega), if_pos q2]
      · rw [if_neg q2, if_neg q2]
    · rw [if_neg q]
      refine ⟨hx, fun i _ hi => hi, fun i => ?_⟩
      rw [nil_ap]
      by_cases q2 : i < n
      · rw [if_pos q2, gid_cn, if_neg (by omega), gid_lo h2 (by omega : i < j + 1) (h3 rfl), gid_lo hx q2 hl]
      · rw [if_neg q2]) t false h rfl
def le : Bool → Fo → Fo → Prop
  | true, .append (.tag n k) r, b => ∃ l s, b = cn n l s ∧ le false k l ∧ le true r s
  | false, .append (.tag i x) r, b => (∃ y, gid i b = some y ∧ le true x y) ∧ le false r b
  | true, .nil, b => b = .nil
  | false, .nil, _ => True
  | _, _, _ => False
theorem leK_of {a c : Fo} (h : So false a) : (∀ i x, gid i a = some x → ∃ y, gid i c = some y ∧ le true x y) → le false a c := So_ind (P := fun m a => m = false → (∀ i x, gid i a = some x → ∃ y, gid i c = some y ∧ le true x y) → le false a c) (fun _ _ _ => trivial) (fun m n k r h1 h2 h3 _ ih hm hg => by
    subst hm
    refine ⟨hg n k (by rw [gid_cn, if_pos rfl]), ih rfl (fun i x hi => hg i x ?_)⟩
    rw [gid_cn, if_neg, hi]
    intro e
    subst e
    rw [gid_lo h2 (Nat.lt_succ_self _) (h3 rfl)] at hi
    cases hi) a false h rfl
theorem le_refl : ∀ (t : Fo) (m : Bool), So m t → le m t t := So_ind (P := fun m t => le m t t) (fun m => by cases m <;> trivial) (fun m n k r h1 h2 h3 a1 a2 => by
    cases m with
    | true => exact ⟨k, r, rfl, a1, a2⟩
    | false =>
      refine ⟨⟨k, by rw [gid_cn, if_pos rfl], a1⟩, ?_⟩
      refine leK_of h2 (fun i x hi => ?_)
      refine ⟨x, ?_, ?_⟩
      · rw [gid_cn, if_neg, hi]
        intro e
        subst e
        rw [gid_lo h2 (Nat.lt_succ_self _) (h3 rfl)] at hi
        cases hi
      · have : ∀ (a : Fo), So false a → le false a r → ∀ i x, gid i a = some x → gid i r = some x → le true x x := by
          intro a ha
          refine So_ind (P := fun m a => m = false → le false a r → ∀ i x, gid i a = some x → gid i r = some x → le true x x) (fun _ _ _ _ _ h => by cases h) (fun m n k b g1 g2 g3 _ ih hm hl i x q1 q2 => ?_) a false ha rfl
          subst hm
          rw [gid_cn] at q1
          split at q1
          · next e =>
            subst e
            obtain ⟨⟨y, e1, e2⟩, _⟩ := hl
            rw [q2] at e1
            cases e1
            cases q1
            exact e2
          · exact ih rfl hl.2 i x q1 q2
        exact this r h2 a2 i x hi hi)
theorem le_ap {a b c d : Fo} (ha : So true a) : le true a b → le true c d → le true (ap a c) (ap b d) := So_ind (P := fun m a => m = true → ∀ b, le true a b → le true c d → le true (ap a c) (ap b d)) (fun _ _ b h h2 => by
    rw [show b = .nil from h]
    exact h2) (fun m n k r _ _ _ _ ih hm b h h2 => by
    subst hm
    obtain ⟨l, s, e, h3, h4⟩ := h
    subst e
    exact ⟨l, ap s d, rfl, h3, ih rfl s h4 h2⟩) a true ha rfl b
theorem Jm : ∀ (a : Fo) (m : Bool), So m a → ∀ (b c : Fo), So m b → J m a b = some c → le m a c ∧ le m b c ∧ So m c ∧ (m = false → (∀ j, Lo j a → Lo j b → Lo j c) ∧ ∀ i, (gid i a = none → gid i c = gid i b) ∧ (∀ x, gid i a = some x → gid i b = none → gid i c = some x) ∧ (∀ x y, gid i a = some x → gid i b = some y → ∃ z, gid i c = some z ∧ J true x y = some z ∧ le true x z ∧ le true y z)) := So_ind (P := fun m a => ∀ (b c : Fo), So m b → J m a b = some c → le m a c ∧ le m b c ∧ So m c ∧ (m = false → (∀ j, Lo j a → Lo j b → Lo j c) ∧ ∀ i, (gid i a = none → gid i c = gid i b) ∧ (∀ x, gid i a = some x → gid i b = none → gid i c = some x) ∧ (∀ x y, gid i a = some x → gid i b = some y → ∃ z, gid i c = some z ∧ J true x y = some z ∧ le true x z ∧ le true y z))) (fun m b c hb hj => by
    cases m with
    | true =>
      have : b = .nil ∧ c = .nil := by
        revert hb hj
        refine fun hb => So_ind (P := fun m b => m = true → J true .nil b = some c → b = .nil ∧ c = .nil) (fun _ _ h => ?_) (fun _ _ _ _ _ _ _ _ _ _ h => ?_) b true hb rfl
        · cases h
          exact ⟨rfl, rfl⟩
        · cases h
      obtain ⟨rfl, rfl⟩ := this
      exact ⟨rfl, rfl, trivial, fun z => Bool.noConfusion z⟩
    | false =>
      cases hj
      refine ⟨trivial, le_refl _ _ hb, hb, fun _ => ⟨fun j _ h => h, fun i => ⟨fun _ => rfl, fun x h => (by cases h), fun x y h => (by cases h)⟩⟩⟩) (fun m n k r h1 h2 h3 ihk ihr b c hb hj => by
    cases m with
    | true =>
      revert hb hj
      refine fun hb => So_ind (P := fun m b => m = true → J true (cn n k r) b = some c → le true (cn n k r) c ∧ le true b c ∧ So true c ∧ (true = false → _)) (fun _ _ h => ?_) (fun m n2 l s g1 g2 _ _ _ hm h => ?_) b true hb rfl
      · cases h
      · subst hm
        have h' : (if n = n2 then (J false k l).bind fun k' => (J true r s).bind fun r' => some (cn n k' r') else none) = some c := h
        split at h'
        · next e =>
          subst e
          rw [Option.bind_eq_some_iff] at h'
          obtain ⟨k', e1, h'⟩ := h'
          rw [Option.bind_eq_some_iff] at h'
          obtain ⟨r', e2, h'⟩ := h'
          cases h'
          obtain ⟨p1, p2, p3, _⟩ := ihk l k' g1 e1
          obtain ⟨q1, q2, q3, _⟩ := ihr s r' g2 e2
          exact ⟨⟨k', r', rfl, p1, q1⟩, ⟨k', r', rfl, p2, q2⟩, ⟨p3, q3, fun z => Bool.noConfusion z⟩, fun z => Bool.noConfusion z⟩
        · cases h'
    | false =>
      have h' : ((match gid n b with
        | some y => J true k y
        | none => some k).bind fun x' => (J false r (gek (n + 1) b)).bind fun r' => some (ap (ltk n b) (cn n x' r'))) = some c := hj
      rw [Option.bind_eq_some_iff] at h'
      obtain ⟨x', e1, h'⟩ := h'
      rw [Option.bind_eq_some_iff] at h'
      obtain ⟨r', e2, h'⟩ := h'
      cases h'
      obtain ⟨gk1, gk2, gk3, gk4⟩ := gek_so (n := n + 1) hb
      obtain ⟨_, _, c3, c4⟩ := ihr (gek (n + 1) b) r' gk1 e2
      obtain ⟨c5, c6⟩ := c4 rfl
      have hlr' : Lo (n + 1) r' := c5 _ (h3 rfl) gk2
      have hx : So true x' ∧ le true k x' := by
        revert e1
        cases hg : gid n b with
        | none =>
          intro e1
          cases e1
          exact ⟨h1, le_refl _ _ h1⟩
        | some y =>
          intro e1
          obtain ⟨d1, d2, d3, _⟩ := ihk y x' (gid_so hb hg) e1
          exact ⟨d3, d1⟩
      have hso : So false (cn n x' r') := ⟨hx.1, c3, fun _ => hlr'⟩
      obtain ⟨l1, l2, l3⟩ := ltk_so (n := n) hb hso ⟨Nat.le_refl _, Lo_mono c3 (Nat.le_succ _) hlr'⟩
      have hsp : ∀ i, (gid i (cn n k r) = none → gid i (ap (ltk n b) (cn n x' r')) = gid i b) ∧ (∀ x, gid i (cn n k r) = some x → gid i b = none → gid i (ap (ltk n b) (cn n x' r')) = some x) ∧ (∀ x y, gid i (cn n k r) = some x → gid i b = some y → ∃ z, gid i (ap (ltk n b) (cn n x' r')) = some z ∧ J true x y = some z ∧ le true x z ∧ le true y z) := by
        intro i
        rw [l3 i, gid_cn, gid_cn]
        rcases Nat.lt_trichotomy i n with q | q | q
        · have : gid i r = none := gid_lo h2 (by omega : i < n + 1) (h3 rfl)
          rw [if_pos q, if_neg (by omega), this]
          exact ⟨fun _ => rfl, fun x h => (by cases h), fun x y h => (by cases h)⟩
        · subst q
          rw [if_neg (Nat.lt_irrefl _), if_pos rfl, if_pos rfl]
          refine ⟨fun h => (by cases h), fun x hx1 hn => ?_, fun x y hx1 hy => ?_⟩
          · rw [hn] at e1
            cases e1
            cases hx1
            rfl
          · rw [hy] at e1
            cases hx1
            obtain ⟨d1, d2, d3, _⟩ := ihk y x' (gid_so hb hy) e1
            exact ⟨x', rfl, e1, d1, d2⟩
        · rw [if_neg (by omega), if_neg (by omega), if_neg (by omega)]
          have := c6 i
          rw [gk4 i, if_pos (by omega)] at this
          exact this
      refine ⟨leK_of ⟨h1, h2, h3⟩ (fun i x hi => ?_), leK_of hb (fun i y hi => ?_), l1, fun _ => ⟨fun j hj1 hj2 => l2 j hj2 ⟨hj1.1, Lo_mono c3 (by have := hj1.1; omega) hlr'⟩, hsp⟩⟩
      · cases hg : gid i b with
        | none => exact ⟨x, (hsp i).2.1 x hi hg, le_refl _ _ (gid_so (t := cn n k r) ⟨h1, h2, h3⟩ hi)⟩
        | some y =>
          obtain ⟨z, z1, _, z2, _⟩ := (hsp i).2.2 x y hi hg
          exact ⟨z, z1, z2⟩
      · cases hg : gid i (cn n k r) with
        | none => exact ⟨y, ((hsp i).1 hg).trans hi, le_refl _ _ (gid_so hb hi)⟩
        | some x =>
          obtain ⟨z, z1, _, _, z2⟩ := (hsp i).2.2 x y hg hi
          exact ⟨z, z1, z2⟩)
