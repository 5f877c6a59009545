def At (F : Nat → Int32) : Nat → List Nat → Prop
  | _, [] => True
  | i, c :: l => F i = Int32.ofNat c ∧ At F (i + 1) l
def Sml (l : List Nat) : Prop := ∀ c, c ∈ l → 0 < c ∧ c < 256
section XJ
variable {I : Nat → Int32} {A : Nat → Nat → Int32} {F G : Nat → Int32} {i j n m d c pa pb : Nat} {la lb out u w l : List Nat}
theorem At_app : ∀ (u : List Nat) (i : Nat) (w : List Nat), At F i (u ++ w) ↔ At F i u ∧ At F (i + u.length) w
  | [], i, w => ⟨fun h => ⟨trivial, h⟩, fun h => h.2⟩
  | c :: u, i, w => by
    show F i = Int32.ofNat c ∧ At F (i + 1) (u ++ w) ↔ (F i = Int32.ofNat c ∧ At F (i + 1) u) ∧ At F (i + (u.length + 1)) w
    rw [At_app u (i + 1) w, show i + 1 + u.length = i + (u.length + 1) by omega, and_assoc]
theorem At_fr : ∀ (l : List Nat) (i : Nat), (∀ k, i ≤ k → k < i + l.length → G k = F k) → At F i l → At G i l
  | [], _, _, _ => trivial
  | c :: l, i, h, a => ⟨(h i (Nat.le_refl _) (by simp)).trans a.1, At_fr l (i + 1) (fun k h1 h2 => h k (by omega) (by rw [List.length_cons]; omega)) a.2⟩
theorem At_get : ∀ (l : List Nat) (i k : Nat), At F i l → k < l.length → F (i + k) = Int32.ofNat (l.getD k 0)
  | [], _, _, _, h => by cases h
  | c :: l, i, 0, a, _ => a.1
  | c :: l, i, k + 1, a, h => by
    have := At_get l (i + 1) k a.2 (by simpa using h)
    rw [show i + 1 + k = i + (k + 1) by omega] at this
    exact this
theorem o1 : Int32.ofNat i + 1 = Int32.ofNat (i + 1) := ty_add i 1
theorem o_sub (h : j ≤ i) : Int32.ofNat i - Int32.ofNat j = Int32.ofNat (i - j) := by
  rw [show Int32.ofNat i = Int32.ofNat (i - j) + Int32.ofNat j by rw [ty_add]; congr 1; omega]
  exact Int32.add_sub_cancel _ _
theorem o_s1 (h : 1 ≤ i) : Int32.ofNat i - 1 = Int32.ofNat (i - 1) := o_sub (j := 1) h
theorem fig_o (h : c < 256) : rd_fig (Int32.ofNat c) = fgc c := by
  unfold rd_fig fgc
  have a : (Int32.ofNat c < 48) ↔ c < 48 := j_lt (n := 48) (by omega) (by decide)
  have b : (57 < Int32.ofNat c) ↔ 57 < c := j_lt (m := 57) (by decide) (by omega)
  by_cases q : 48 ≤ c ∧ c ≤ 57
  · rw [decide_eq_true q, decide_eq_true (show ¬ Int32.ofNat c < 48 from fun z => by have := a.mp z; omega), decide_eq_true (show ¬ 57 < Int32.ofNat c from fun z => by have := b.mp z; omega)]
    rfl
  · rw [decide_eq_false q]
    by_cases q2 : c < 48
    · rw [decide_eq_false (fun z => z (a.mpr q2))]
      rfl
    · rw [decide_eq_false (p := ¬ 57 < Int32.ofNat c) (fun z => z (b.mpr (by omega))), Bool.and_false]
theorem pty_o (h : c < 256) : rd_pty (Int32.ofNat c) = ptc c := by
  unfold rd_pty ptc
  have a : (Int32.ofNat c < 65) ↔ c < 65 := j_lt (n := 65) (by omega) (by decide)
  have b : (70 < Int32.ofNat c) ↔ 70 < c := j_lt (m := 70) (by decide) (by omega)
  by_cases q : 65 ≤ c ∧ c ≤ 70
  · rw [decide_eq_true q, decide_eq_true (show ¬ Int32.ofNat c < 65 from fun z => by have := a.mp z; omega), decide_eq_true (show ¬ 70 < Int32.ofNat c from fun z => by have := b.mp z; omega)]
    rfl
  · rw [decide_eq_false q]
    by_cases q2 : c < 65
    · rw [decide_eq_false (fun z => z (a.mpr q2))]
      rfl
    · rw [decide_eq_false (p := ¬ 70 < Int32.ofNat c) (fun z => z (b.mpr (by omega))), Bool.and_false]
theorem hd_s (h : Sml l) : l.headD 0 < 256 := by
  cases l with
  | nil => decide
  | cons c l => exact (h c List.mem_cons_self).2
theorem tl_s (h : Sml l) : Sml l.tail := fun c hc => h c (List.mem_of_mem_tail hc)
theorem a_at (hI : I 14 = Int32.ofNat (i + l.length)) (hA : At (A 30) i l) (hn : i + l.length ≤ 1000) : x_aAt I A (Int32.ofNat i) = some (I, A, Int32.ofNat (l.headD 0)) := by
  unfold x_aAt
  rw [hI]
  cases l with
  | nil =>
    rw [if_pos ((j_le (by simp at hn; simp; omega) (by simp at hn; omega)).mpr (by simp))]
    rfl
  | cons c l =>
    rw [List.length_cons] at hn ⊢
    rw [if_neg (mt (j_le (by omega) (by omega)).mp (by omega)), if_pos (j_in (by omega) (by omega)), (j_n (n := i) (by omega)).2, hA.1]
    rfl
theorem b_at (hI : I 15 = Int32.ofNat (i + l.length)) (hA : At (A 31) i l) (hn : i + l.length ≤ 1000) : x_bAt I A (Int32.ofNat i) = some (I, A, Int32.ofNat (l.headD 0)) := by
  unfold x_bAt
  rw [hI]
  cases l with
  | nil =>
    rw [if_pos ((j_le (by simp at hn; simp; omega) (by simp at hn; omega)).mpr (by simp))]
    rfl
  | cons c l =>
    rw [List.length_cons] at hn ⊢
    rw [if_neg (mt (j_le (by omega) (by omega)).mp (by omega)), if_pos (j_in (by omega) (by omega)), (j_n (n := i) (by omega)).2, hA.1]
    rfl
def Pv (F : Nat → Int32) (i p : Nat) : Prop := p < 256 ∧ (i = 0 → gdp p = true) ∧ (0 < i → F (i - 1) = Int32.ofNat p)
theorem tl_at (hI : I 14 = Int32.ofNat (i + l.length)) (hA : At (A 30) i l) (hn : i + l.length ≤ 1000) : l ≠ [] → x_aAt I A (Int32.ofNat i + 1) = some (I, A, Int32.ofNat (l.tail.headD 0)) := by
  intro hne
  cases l with
  | nil => exact (hne rfl).elim
  | cons c l =>
    rw [List.length_cons] at hn hI
    rw [o1]
    exact a_at (l := l) (by rw [hI]; congr 1; omega) hA.2 (by omega)
theorem tl_bt (hI : I 15 = Int32.ofNat (i + l.length)) (hA : At (A 31) i l) (hn : i + l.length ≤ 1000) : l ≠ [] → x_bAt I A (Int32.ofNat i + 1) = some (I, A, Int32.ofNat (l.tail.headD 0)) := by
  intro hne
  cases l with
  | nil => exact (hne rfl).elim
  | cons c l =>
    rw [List.length_cons] at hn hI
    rw [o1]
    exact b_at (l := l) (by rw [hI]; congr 1; omega) hA.2 (by omega)
theorem case_a (hI : I 14 = Int32.ofNat (i + l.length)) (hA : At (A 30) i l) (hn : i + l.length ≤ 1000) (hs : Sml l) (hp : Pv (A 30) i pa) : x_isCaseA I A (Int32.ofNat i) = some (I, A, ty_b (isC pa l)) := by
  obtain ⟨p1, p2, p3⟩ := hp
  have h31 : x_isCaseA_31 I A (Int32.ofNat i) = some (I, A, ty_b (fgc (l.headD 0) && decide (l.tail.headD 0 = 123))) := by
    unfold x_isCaseA_31
    refine (xb_some (a_at hI hA hn)).trans ?_
    rw [fig_o (hd_s hs)]
    cases hf : fgc (l.headD 0) with
    | false => rfl
    | true =>
      have hne : l ≠ [] := by
        intro e
        rw [e] at hf
        cases hf
      rw [tb1]
      refine (xb_some (tl_at hI hA hn hne)).trans ?_
      by_cases q : l.tail.headD 0 = 123
      · rw [decide_eq_true q, if_pos (show Int32.ofNat (l.tail.headD 0) = 123 by rw [q]; rfl)]
        rfl
      · rw [decide_eq_false q, if_neg (show ¬ Int32.ofNat (l.tail.headD 0) = 123 from mt (j_eq (n := 123) (by have := hd_s (tl_s hs); omega) (by decide)).mp q)]
        rfl
  unfold x_isCaseA
  by_cases q : i = 0
  · subst q
    rw [if_pos (show Int32.ofNat 0 ≤ 0 by decide), isC_g (p2 rfl)]
    rfl
  · rw [if_neg (show ¬ Int32.ofNat i ≤ 0 from mt (j_le (n := 0) (by omega) (by decide)).mp (by omega)), o_s1 (by omega), if_pos (j_in (by omega) (by omega)), (j_n (n := i - 1) (by omega)).2, p3 (by omega), pty_o p1, h31]
    unfold isC
    cases hpt : ptc pa with
    | true => rfl
    | false =>
      by_cases q2 : pa = 125
      · rw [decide_eq_true q2, tb0, if_pos (show Int32.ofNat pa = 125 by rw [q2]; rfl)]
        rfl
      · rw [decide_eq_false q2, tb0, if_neg (show ¬ Int32.ofNat pa = 125 from mt (j_eq (n := 125) (by omega) (by decide)).mp q2)]
        rfl
theorem case_b (hI : I 15 = Int32.ofNat (i + l.length)) (hA : At (A 31) i l) (hn : i + l.length ≤ 1000) (hs : Sml l) (hp : Pv (A 31) i pa) : x_isCaseB I A (Int32.ofNat i) = some (I, A, ty_b (isC pa l)) := by
  obtain ⟨p1, p2, p3⟩ := hp
  have h31 : x_isCaseB_31 I A (Int32.ofNat i) = some (I, A, ty_b (fgc (l.headD 0) && decide (l.tail.headD 0 = 123))) := by
    unfold x_isCaseB_31
    refine (xb_some (b_at hI hA hn)).trans ?_
    rw [fig_o (hd_s hs)]
    cases hf : fgc (l.headD 0) with
    | false => rfl
    | true =>
      have hne : l ≠ [] := by
        intro e
        rw [e] at hf
        cases hf
      rw [tb1]
      refine (xb_some (tl_bt hI hA hn hne)).trans ?_
      by_cases q : l.tail.headD 0 = 123
      · rw [decide_eq_true q, if_pos (show Int32.ofNat (l.tail.headD 0) = 123 by rw [q]; rfl)]
        rfl
      · rw [decide_eq_false q, if_neg (show ¬ Int32.ofNat (l.tail.headD 0) = 123 from mt (j_eq (n := 123) (by have := hd_s (tl_s hs); omega) (by decide)).mp q)]
        rfl
  unfold x_isCaseB
  by_cases q : i = 0
  · subst q
    rw [if_pos (show Int32.ofNat 0 ≤ 0 by decide), isC_g (p2 rfl)]
    rfl
  · rw [if_neg (show ¬ Int32.ofNat i ≤ 0 from mt (j_le (n := 0) (by omega) (by decide)).mp (by omega)), o_s1 (by omega), if_pos (j_in (by omega) (by omega)), (j_n (n := i - 1) (by omega)).2, p3 (by omega), pty_o p1, h31]
    unfold isC
    cases hpt : ptc pa with
    | true => rfl
    | false =>
      by_cases q2 : pa = 125
      · rw [decide_eq_true q2, tb0, if_pos (show Int32.ofNat pa = 125 by rw [q2]; rfl)]
        rfl
      · rw [decide_eq_false q2, tb0, if_neg (show ¬ Int32.ofNat pa = 125 from mt (j_eq (n := 125) (by omega) (by decide)).mp q2)]
        rfl
end XJ
theorem upA_u (A : Nat → Nat → Int32) (j : Nat) (g h : Nat → Int32) : upA (upA A j g) j h = upA A j h := by
  funext i
  unfold upA
  by_cases q : i = j
  · rw [if_pos q, if_pos q]
  · rw [if_neg q, if_neg q, if_neg q]
section XC
variable {I : Nat → Int32} {A : Nat → Nat → Int32} {F G g : Nat → Int32} {i j n m d c pa pb : Nat} {la lb out u w l : List Nat}
theorem At_put (h : At g 0 out) : At (upd g out.length (Int32.ofNat c)) 0 (out ++ [c]) := by
  rw [At_app, Nat.zero_add]
  exact ⟨At_fr out 0 (fun k _ hk => upd_n (by omega)) h, upd_s, trivial⟩
theorem p_put (hk : out.length < 1000) : x_put (upd I 16 (Int32.ofNat out.length)) (upA A 32 g) (Int32.ofNat c) = some (upd I 16 (Int32.ofNat (out ++ [c]).length), upA A 32 (upd g out.length (Int32.ofNat c)), 0) := by
  unfold x_put
  rw [upd_s, if_pos (j_in (by omega) hk), (j_n (n := out.length) (by omega)).2, upA_eq, upA_u, upd_eq, o1, List.length_append]
  rfl
theorem o_m1 (h : 1 ≤ d) : Int32.ofNat d + (-1) = Int32.ofNat (d - 1) := by
  rw [show Int32.ofNat d = Int32.ofNat (d - 1) + 1 by rw [o1]; congr 1; omega, Int32.add_assoc, show (1 : Int32) + -1 = 0 by decide, Int32.add_zero]
theorem copy_a : ∀ (l : List Nat) (m i d : Nat) (out u w : List Nat) (g : Nat → Int32), cpy d l = some (u, w) → At (A 30) i l → Sml l → i + l.length ≤ 1000 → out.length + u.length ≤ 1000 → u.length < m → d ≤ 1000 → At g 0 out → ∃ g', x_copyA_7 m (upd I 16 (Int32.ofNat out.length)) (upA A 32 g) (Int32.ofNat i) (Int32.ofNat d) 1 = some (upd I 16 (Int32.ofNat (out ++ u).length), upA A 32 g', Int32.ofNat (i + u.length)) ∧ At g' 0 (out ++ u)
  | [], _, _, _, _, _, _, _, h, _, _, _, _, _, _, _ => by cases h
  | c :: l, m, i, d, out, u, w, g, h, ha, hs, hi, ho, hm, hd, hg => by
    have hne : u ≠ [] := (cpy_le _ _ _ _ h).2
    have hu1 : 1 ≤ u.length := by
      cases u with
      | nil => exact (hne rfl).elim
      | cons _ _ => rw [List.length_cons]; omega
    have hl := List.length_cons (a := c) (as := l)
    obtain ⟨m, rfl⟩ : ∃ k, m = k + 1 := ⟨m - 1, by omega⟩
    have hc := (hs c List.mem_cons_self).2
    have hs' : Sml l := fun x hx => hs x (List.mem_cons_of_mem _ hx)
    have hr : upA A 32 g 30 i = Int32.ofNat c := by rw [upA_ne (by decide)]; exact ha.1
    have go : ∀ e, pcy c (cpy e l) = some (u, w) → d + e ≤ 3000 → e ≤ d + 1 → l ≠ [] → ∃ g', x_copyA_7 m (upd I 16 (Int32.ofNat (out ++ [c]).length)) (upA A 32 (upd g out.length (Int32.ofNat c))) (Int32.ofNat (i + 1)) (Int32.ofNat e) 1 = some (upd I 16 (Int32.ofNat (out ++ u).length), upA A 32 g', Int32.ofNat (i + u.length)) ∧ At g' 0 (out ++ u) := by
      intro e he hed he2 hlne
      unfold pcy at he
      rw [Option.map_eq_some_iff] at he
      obtain ⟨⟨u', w'⟩, h1, h2⟩ := he
      cases h2
      have hul : u'.length ≤ l.length := by
        have := (cpy_le _ _ _ _ h1).1
        rw [this, List.length_append]
        omega
      have ho : out.length + (u'.length + 1) ≤ 1000 := ho
      have hm : u'.length + 1 < m + 1 := hm
      by_cases q : e ≤ 1000
      · obtain ⟨g', e1, e2⟩ := copy_a l m (i + 1) e (out ++ [c]) u' w' (upd g out.length (Int32.ofNat c)) h1 ha.2 hs' (by omega) (by rw [List.length_append, List.length_singleton]; omega) (by omega) q (At_put hg)
        refine ⟨g', ?_, ?_⟩
        · rw [e1, List.append_assoc, List.length_cons]
          show some (upd I 16 (Int32.ofNat (out ++ c :: u').length), upA A 32 g', Int32.ofNat (i + 1 + u'.length)) = _
          rw [show i + 1 + u'.length = i + (u'.length + 1) by omega]
        · rw [List.append_assoc] at e2
          exact e2
      · exfalso
        have key : ∀ (l : List Nat) (d : Nat) (u w : List Nat), cpy d l = some (u, w) → d ≤ l.length + 1 := by
          intro l
          induction l with
          | nil => exact fun d u w h => by cases h
          | cons x l ih =>
            intro d u w h
            have go2 : ∀ f, pcy x (cpy f l) = some (u, w) → f ≤ l.length + 1 := fun f hf => by
              unfold pcy at hf
              rw [Option.map_eq_some_iff] at hf
              obtain ⟨⟨u', w'⟩, h1, _⟩ := hf
              exact ih f u' w' h1
            rw [List.length_cons]
            unfold cpy at h
            split at h
            · have := go2 _ h
              omega
            · split at h
              · split at h
                · omega
                · have := go2 _ h
                  omega
              · have := go2 _ h
                omega
        have := key l e u' w' h1
        omega
    have hlne : ∀ e, pcy c (cpy e l) = some (u, w) → l ≠ [] := fun e he z => by
      rw [z] at he
      cases he
    rw [x_copyA_7, if_neg (show ¬ (1 : Int32) = 0 by decide), if_pos (j_in (by omega) (by omega)), (j_n (n := i) (by omega)).2, hr]
    have hput := p_put (I := I) (A := A) (g := g) (out := out) (c := c) (by omega)
    refine Exists.imp (fun g' (h : _ ∧ _) => ⟨(xb_some hput).trans h.1, h.2⟩) ?_
    unfold cpy at h
    by_cases q1 : c = 123
    · rw [if_pos q1] at h
      rw [if_pos (show Int32.ofNat c = 123 by rw [q1]; rfl), if_neg (show ¬ Int32.ofNat c = 125 by rw [q1]; decide), o1, o1]
      exact go _ h (by omega) (Nat.le_refl _) (hlne _ h)
    · rw [if_neg q1] at h
      rw [if_neg (show ¬ Int32.ofNat c = 123 from mt (j_eq (n := 123) (by omega) (by decide)).mp q1)]
      by_cases q2 : c = 125
      · rw [if_pos q2] at h
        rw [if_pos (show Int32.ofNat c = 125 by rw [q2]; rfl), o1]
        by_cases q3 : d ≤ 1
        · rw [if_pos q3] at h
          cases h
          have hle : Int32.ofNat d + (-1) ≤ 0 := by
            have : d = 0 ∨ d = 1 := by omega
            rcases this with rfl | rfl <;> decide
          rw [if_pos hle]
          refine ⟨upd g out.length (Int32.ofNat c), ?_, At_put hg⟩
          obtain ⟨m, rfl⟩ : ∃ k, m = k + 1 := ⟨m - 1, by simp at hm; omega⟩
          rw [x_copyA_7, if_pos rfl]
          rfl
        · rw [if_neg q3] at h
          rw [o_m1 (by omega), if_neg (show ¬ Int32.ofNat (d - 1) ≤ 0 from mt (j_le (n := 0) (by omega) (by decide)).mp (by omega))]
          exact go _ h (by omega) (by omega) (hlne _ h)
      · rw [if_neg q2] at h
        rw [if_neg (show ¬ Int32.ofNat c = 125 from mt (j_eq (n := 125) (by omega) (by decide)).mp q2), o1, Int32.add_zero]
        exact go _ h (by omega) (by omega) (hlne _ h)
theorem copy_b : ∀ (l : List Nat) (m i d : Nat) (out u w : List Nat) (g : Nat → Int32), cpy d l = some (u, w) → At (A 31) i l → Sml l → i + l.length ≤ 1000 → out.length + u.length ≤ 1000 → u.length < m → d ≤ 1000 → At g 0 out → ∃ g', x_copyB_7 m (upd I 16 (Int32.ofNat out.length)) (upA A 32 g) (Int32.ofNat i) (Int32.ofNat d) 1 = some (upd I 16 (Int32.ofNat (out ++ u).length), upA A 32 g', Int32.ofNat (i + u.length)) ∧ At g' 0 (out ++ u)
  | [], _, _, _, _, _, _, _, h, _, _, _, _, _, _, _ => by cases h
  | c :: l, m, i, d, out, u, w, g, h, ha, hs, hi, ho, hm, hd, hg => by
    have hne : u ≠ [] := (cpy_le _ _ _ _ h).2
    have hu1 : 1 ≤ u.length := by
      cases u with
      | nil => exact (hne rfl).elim
      | cons _ _ => rw [List.length_cons]; omega
    have hl := List.length_cons (a := c) (as := l)
    obtain ⟨m, rfl⟩ : ∃ k, m = k + 1 := ⟨m - 1, by omega⟩
    have hc := (hs c List.mem_cons_self).2
    have hs' : Sml l := fun x hx => hs x (List.mem_cons_of_mem _ hx)
    have hr : upA A 32 g 31 i = Int32.ofNat c := by rw [upA_ne (by decide)]; exact ha.1
    have go : ∀ e, pcy c (cpy e l) = some (u, w) → d + e ≤ 3000 → e ≤ d + 1 → l ≠ [] → ∃ g', x_copyB_7 m (upd I 16 (Int32.ofNat (out ++ [c]).length)) (upA A 32 (upd g out.length (Int32.ofNat c))) (Int32.ofNat (i + 1)) (Int32.ofNat e) 1 = some (upd I 16 (Int32.ofNat (out ++ u).length), upA A 32 g', Int32.ofNat (i + u.length)) ∧ At g' 0 (out ++ u) := by
      intro e he hed he2 hlne
      unfold pcy at he
      rw [Option.map_eq_some_iff] at he
      obtain ⟨⟨u', w'⟩, h1, h2⟩ := he
      cases h2
      have hul : u'.length ≤ l.length := by
        have := (cpy_le _ _ _ _ h1).1
        rw [this, List.length_append]
        omega
      have ho : out.length + (u'.length + 1) ≤ 1000 := ho
      have hm : u'.length + 1 < m + 1 := hm
      by_cases q : e ≤ 1000
      · obtain ⟨g', e1, e2⟩ := copy_b l m (i + 1) e (out ++ [c]) u' w' (upd g out.length (Int32.ofNat c)) h1 ha.2 hs' (by omega) (by rw [List.length_append, List.length_singleton]; omega) (by omega) q (At_put hg)
        refine ⟨g', ?_, ?_⟩
        · rw [e1, List.append_assoc, List.length_cons]
          show some (upd I 16 (Int32.ofNat (out ++ c :: u').length), upA A 32 g', Int32.ofNat (i + 1 + u'.length)) = _
          rw [show i + 1 + u'.length = i + (u'.length + 1) by omega]
        · rw [List.append_assoc] at e2
          exact e2
      · exfalso
        have key : ∀ (l : List Nat) (d : Nat) (u w : List Nat), cpy d l = some (u, w) → d ≤ l.length + 1 := by
          intro l
          induction l with
          | nil => exact fun d u w h => by cases h
          | cons x l ih =>
            intro d u w h
            have go2 : ∀ f, pcy x (cpy f l) = some (u, w) → f ≤ l.length + 1 := fun f hf => by
              unfold pcy at hf
              rw [Option.map_eq_some_iff] at hf
              obtain ⟨⟨u', w'⟩, h1, _⟩ := hf
              exact ih f u' w' h1
            rw [List.length_cons]
            unfold cpy at h
            split at h
            · have := go2 _ h
              omega
            · split at h
              · split at h
                · omega
                · have := go2 _ h
                  omega
              · have := go2 _ h
                omega
        have := key l e u' w' h1
        omega
    have hlne : ∀ e, pcy c (cpy e l) = some (u, w) → l ≠ [] := fun e he z => by
      rw [z] at he
      cases he
    rw [x_copyB_7, if_neg (show ¬ (1 : Int32) = 0 by decide), if_pos (j_in (by omega) (by omega)), (j_n (n := i) (by omega)).2, hr]
    have hput := p_put (I := I) (A := A) (g := g) (out := out) (c := c) (by omega)
    refine Exists.imp (fun g' (h : _ ∧ _) => ⟨(xb_some hput).trans h.1, h.2⟩) ?_
    unfold cpy at h
    by_cases q1 : c = 123
    · rw [if_pos q1] at h
      rw [if_pos (show Int32.ofNat c = 123 by rw [q1]; rfl), if_neg (show ¬ Int32.ofNat c = 125 by rw [q1]; decide), o1, o1]
      exact go _ h (by omega) (Nat.le_refl _) (hlne _ h)
    · rw [if_neg q1] at h
      rw [if_neg (show ¬ Int32.ofNat c = 123 from mt (j_eq (n := 123) (by omega) (by decide)).mp q1)]
      by_cases q2 : c = 125
      · rw [if_pos q2] at h
        rw [if_pos (show Int32.ofNat c = 125 by rw [q2]; rfl), o1]
        by_cases q3 : d ≤ 1
        · rw [if_pos q3] at h
          cases h
          have hle : Int32.ofNat d + (-1) ≤ 0 := by
            have : d = 0 ∨ d = 1 := by omega
            rcases this with rfl | rfl <;> decide
          rw [if_pos hle]
          refine ⟨upd g out.length (Int32.ofNat c), ?_, At_put hg⟩
          obtain ⟨m, rfl⟩ : ∃ k, m = k + 1 := ⟨m - 1, by simp at hm; omega⟩
          rw [x_copyB_7, if_pos rfl]
          rfl
        · rw [if_neg q3] at h
          rw [o_m1 (by omega), if_neg (show ¬ Int32.ofNat (d - 1) ≤ 0 from mt (j_le (n := 0) (by omega) (by decide)).mp (by omega))]
          exact go _ h (by omega) (by omega) (hlne _ h)
      · rw [if_neg q2] at h
        rw [if_neg (show ¬ Int32.ofNat c = 125 from mt (j_eq (n := 125) (by omega) (by decide)).mp q2), o1, Int32.add_zero]
        exact go _ h (by omega) (by omega) (hlne _ h)
end XC
