section XK
variable {I : Nat → Int32} {A : Nat → Nat → Int32}
theorem sml_app {u w : List Nat} (h : Sml (u ++ w)) : Sml u ∧ Sml w := ⟨fun c hc => h c (List.mem_append_left _ hc), fun c hc => h c (List.mem_append_right _ hc)⟩
theorem tbq {a b : Bool} : (ty_b a = ty_b b) ↔ a = b := by cases a <;> cases b <;> decide
theorem Pv_1 {F : Nat → Int32} {i c : Nat} {l : List Nat} (h : At F i (c :: l)) (hc : c < 256) : Pv F (i + 1) c := ⟨hc, fun z => by omega, fun _ => h.1⟩
theorem Pv_c {F : Nat → Int32} {i : Nat} {u w : List Nat} {d : Nat} {l : List Nat} (hc : cpy d l = some (u, w)) (h : At F i l) : Pv F (i + u.length) 125 := by
  have key : ∀ (l : List Nat) (d : Nat) (u w : List Nat) (i : Nat), cpy d l = some (u, w) → At F i l → 0 < u.length ∧ F (i + u.length - 1) = Int32.ofNat 125 := by
    intro l
    induction l with
    | nil => exact fun d u w i h => by cases h
    | cons x l ih =>
      intro d u w i h ha
      have go2 : ∀ f, pcy x (cpy f l) = some (u, w) → 0 < u.length ∧ F (i + u.length - 1) = Int32.ofNat 125 := fun f hf => by
        unfold pcy at hf
        rw [Option.map_eq_some_iff] at hf
        obtain ⟨⟨u', w'⟩, h1, h2⟩ := hf
        cases h2
        have := ih f u' w' (i + 1) h1 ha.2
        show 0 < u'.length + 1 ∧ F (i + (u'.length + 1) - 1) = _
        refine ⟨by omega, ?_⟩
        rw [show i + (u'.length + 1) - 1 = i + 1 + u'.length - 1 by omega]
        exact this.2
      unfold cpy at h
      split at h
      · exact go2 _ h
      · split at h
        · next q =>
          split at h
          · cases h
            refine ⟨Nat.zero_lt_succ _, ?_⟩
            show F (i + 1 - 1) = _
            rw [Nat.add_sub_cancel, ha.1, q]
          · exact go2 _ h
        · exact go2 _ h
  have := key l d u w i hc h
  exact ⟨by decide, fun z => by omega, fun _ => this.2⟩
theorem j_sim : ∀ (n : Nat) (pa : Nat) (la : List Nat) (pb : Nat) (lb out : List Nat) (i j : Nat) (g : Nat → Int32) (b : Bool) (o : List Nat), tj n (pa, la, pb, lb, out) = some (b, o) → I 14 = Int32.ofNat (i + la.length) → I 15 = Int32.ofNat (j + lb.length) → At (A 30) i la → At (A 31) j lb → i + la.length ≤ 1000 → j + lb.length ≤ 1000 → out.length + la.length + lb.length ≤ 1000 → Sml la → Sml lb → Pv (A 30) i pa → Pv (A 31) j pb → la.length + lb.length + 1 < n → At g 0 out → ∃ g', x_join_9 n (upd I 16 (Int32.ofNat out.length)) (upA A 32 g) (Int32.ofNat i) (Int32.ofNat j) = some (upd I 16 (Int32.ofNat o.length), upA A 32 g', ty_b b) ∧ At g' 0 o ∧ o.length ≤ 1000
  | 0, pa, la, pb, lb, out, i, j, g, b, o, h, _, _, _, _, _, _, _, _, _, _, _, _, _ => by cases h
  | n + 1, pa, la, pb, lb, out, i, j, g, b, o, h, hI, hJ, ha, hb, hi, hj, hr, sa, sb, va, vb, hn, hg => by
    have k14 : ∀ x, upd I 16 x 14 = I 14 := fun x => upd_n (by decide)
    have k15 : ∀ x, upd I 16 x 15 = I 15 := fun x => upd_n (by decide)
    have k30 : ∀ g, upA A 32 g 30 = A 30 := fun g => upA_ne (by decide)
    have k31 : ∀ g, upA A 32 g 31 = A 31 := fun g => upA_ne (by decide)
    have ca := case_a (I := upd I 16 (Int32.ofNat out.length)) (A := upA A 32 g) (l := la) (pa := pa) ((k14 _).trans hI) (by rw [k30]; exact ha) hi sa (by rw [k30]; exact va)
    have cb := case_b (I := upd I 16 (Int32.ofNat out.length)) (A := upA A 32 g) (l := lb) (pa := pb) ((k15 _).trans hJ) (by rw [k31]; exact hb) hj sb (by rw [k31]; exact vb)
    have aa := a_at (I := upd I 16 (Int32.ofNat out.length)) (A := upA A 32 g) (l := la) ((k14 _).trans hI) (by rw [k30]; exact ha) hi
    have bb := b_at (I := upd I 16 (Int32.ofNat out.length)) (A := upA A 32 g) (l := lb) ((k15 _).trans hJ) (by rw [k31]; exact hb) hj
    rw [tj] at h
    by_cases q0 : la = [] ∧ lb = []
    · rw [if_pos q0] at h
      cases h
      refine ⟨g, ?_, hg, by omega⟩
      rw [x_join_9, k14, k15, hI, hJ, q0.1, q0.2, if_neg (show ¬ Int32.ofNat i < Int32.ofNat (i + ([] : List Nat).length) from mt (j_lt (by omega) (by simp; omega)).mp (by simp)), if_pos ((j_le (by simp; omega) (by omega)).mpr (by simp))]
      rfl
    · rw [if_neg q0] at h
      have hgo : x_join_9 (n + 1) (upd I 16 (Int32.ofNat out.length)) (upA A 32 g) (Int32.ofNat i) (Int32.ofNat j) = x_join_25 (x_join_9 n) n (upd I 16 (Int32.ofNat out.length)) (upA A 32 g) (Int32.ofNat i) (Int32.ofNat j) := by
        rw [x_join_9, k14, k15, hI, hJ]
        by_cases e1 : la = []
        · have e2 : lb ≠ [] := fun z => q0 ⟨e1, z⟩
          have : 0 < lb.length := List.length_pos_iff.mpr e2
          rw [if_neg (show ¬ Int32.ofNat i < Int32.ofNat (i + la.length) from mt (j_lt (by omega) (by omega)).mp (by rw [e1]; simp)), if_neg (mt (j_le (by omega) (by omega)).mp (by omega))]
        · have : 0 < la.length := List.length_pos_iff.mpr e1
          rw [if_pos ((j_lt (by omega) (by omega)).mpr (by omega))]
      rw [hgo]
      unfold x_join_25
      have goA : ∀ u w, cpy 0 la = some (u, w) → tj n (125, w, pb, lb, out ++ u) = some (b, o) → ∃ g', (xb (x_copyA n (upd I 16 (Int32.ofNat out.length)) (upA A 32 g) (Int32.ofNat i)) fun I3 A3 v3 => x_join_9 n I3 A3 v3 (Int32.ofNat j)) = some (upd I 16 (Int32.ofNat o.length), upA A 32 g', ty_b b) ∧ At g' 0 o ∧ o.length ≤ 1000 := by
        intro u w hc ht
        obtain ⟨e, _⟩ := cpy_le _ _ _ _ hc
        have el : la.length = u.length + w.length := by rw [e, List.length_append]
        have hw := cpy_lt hc
        obtain ⟨g1, e1, e2⟩ := copy_a (I := I) la n i 0 out u w g hc ha sa hi (by omega) (by omega) (by decide) hg
        have hao : At (A 30) (i + u.length) w := by
          rw [e] at ha
          exact ((At_app u i w).mp ha).2
        obtain ⟨g2, e3, e4⟩ := j_sim n 125 w pb lb (out ++ u) (i + u.length) j g1 b o ht (by rw [hI]; congr 1; omega) hJ hao hb (by omega) hj (by rw [List.length_append]; omega) (by rw [e] at sa; exact (sml_app sa).2) sb (Pv_c hc ha) vb (by omega) e2
        exact ⟨g2, (xb_some e1).trans e3, e4⟩
      have goB : ∀ u w, cpy 0 lb = some (u, w) → tj n (pa, la, 125, w, out ++ u) = some (b, o) → ∃ g', (xb (x_copyB n (upd I 16 (Int32.ofNat out.length)) (upA A 32 g) (Int32.ofNat j)) fun I3 A3 v3 => x_join_9 n I3 A3 (Int32.ofNat i) v3) = some (upd I 16 (Int32.ofNat o.length), upA A 32 g', ty_b b) ∧ At g' 0 o ∧ o.length ≤ 1000 := by
        intro u w hc ht
        obtain ⟨e, _⟩ := cpy_le _ _ _ _ hc
        have el : lb.length = u.length + w.length := by rw [e, List.length_append]
        have hw := cpy_lt hc
        obtain ⟨g1, e1, e2⟩ := copy_b (I := I) lb n j 0 out u w g hc hb sb hj (by omega) (by omega) (by decide) hg
        have hbo : At (A 31) (j + u.length) w := by
          rw [e] at hb
          exact ((At_app u j w).mp hb).2
        obtain ⟨g2, e3, e4⟩ := j_sim n pa la 125 w (out ++ u) i (j + u.length) g1 b o ht hI (by rw [hJ]; congr 1; omega) ha hbo hi (by omega) (by rw [List.length_append]; omega) sa (by rw [e] at sb; exact (sml_app sb).2) va (Pv_c hc hb) (by omega) e2
        exact ⟨g2, (xb_some e1).trans e3, e4⟩
      have go104 : (if la.headD 0 = lb.headD 0 then (if ptc (la.headD 0) = true ∧ isC (la.headD 0) la.tail ≠ isC (lb.headD 0) lb.tail then some (false, out ++ [la.headD 0]) else tj n (la.headD 0, la.tail, lb.headD 0, lb.tail, out ++ [la.headD 0])) else some (false, out)) = some (b, o) → ∃ g', x_join_104 (x_join_9 n) n (upd I 16 (Int32.ofNat out.length)) (upA A 32 g) (Int32.ofNat i) (Int32.ofNat j) = some (upd I 16 (Int32.ofNat o.length), upA A 32 g', ty_b b) ∧ At g' 0 o ∧ o.length ≤ 1000 := by
        intro h
        have hda := hd_s sa
        have hdb := hd_s sb
        unfold x_join_104
        by_cases q : la.headD 0 = lb.headD 0
        · rw [if_pos q] at h
          cases la with
          | nil =>
            cases lb with
            | nil => exact (q0 ⟨rfl, rfl⟩).elim
            | cons x lb =>
              have := (sb x List.mem_cons_self).1
              have q' : 0 = x := q
              omega
          | cons c la =>
            cases lb with
            | nil =>
              have := (sa c List.mem_cons_self).1
              have q' : c = 0 := q
              omega
            | cons x lb =>
              have q' : c = x := q
              subst q'
              have lal := List.length_cons (a := c) (as := la)
              have lbl := List.length_cons (a := c) (as := lb)
              have sc := (sa c List.mem_cons_self).2
              have sa' : Sml la := fun y hy => sa y (List.mem_cons_of_mem _ hy)
              have sb' : Sml lb := fun y hy => sb y (List.mem_cons_of_mem _ hy)
              have hput := p_put (I := I) (A := A) (g := g) (out := out) (c := c) (by omega)
              have ol : (out ++ [c]).length = out.length + 1 := by rw [List.length_append]; rfl
              refine Exists.imp (fun g' (h : _ ∧ _) => ⟨(xb_some aa).trans ((xb_some bb).trans ((if_pos rfl).trans ((xb_some aa).trans ((xb_some aa).trans ((xb_some hput).trans h.1))))), h.2⟩) ?_
              show ∃ g', (if ty_b (rd_pty (Int32.ofNat c)) = 0 then x_join_9 n (upd I 16 (Int32.ofNat (out ++ [c]).length)) (upA A 32 (upd g out.length (Int32.ofNat c))) (Int32.ofNat i + 1) (Int32.ofNat j + 1) else xb (x_isCaseA (upd I 16 (Int32.ofNat (out ++ [c]).length)) (upA A 32 (upd g out.length (Int32.ofNat c))) (Int32.ofNat i + 1)) fun I6 A6 v6 => xb (x_isCaseB I6 A6 (Int32.ofNat j + 1)) fun I7 A7 v7 => if v6 = v7 then x_join_9 n I7 A7 (Int32.ofNat i + 1) (Int32.ofNat j + 1) else some (I7, A7, 0)) = _ ∧ _
              have h' : (if ptc c = true ∧ isC c la ≠ isC c lb then some (false, out ++ [c]) else tj n (c, la, c, lb, out ++ [c])) = some (b, o) := h
              rw [pty_o sc, o1, o1]
              have hrec : tj n (c, la, c, lb, out ++ [c]) = some (b, o) → ∃ g', x_join_9 n (upd I 16 (Int32.ofNat (out ++ [c]).length)) (upA A 32 (upd g out.length (Int32.ofNat c))) (Int32.ofNat (i + 1)) (Int32.ofNat (j + 1)) = some (upd I 16 (Int32.ofNat o.length), upA A 32 g', ty_b b) ∧ At g' 0 o ∧ o.length ≤ 1000 := fun ht => j_sim n c la c lb (out ++ [c]) (i + 1) (j + 1) (upd g out.length (Int32.ofNat c)) b o ht (by rw [hI]; congr 1; omega) (by rw [hJ]; congr 1; omega) ha.2 hb.2 (by omega) (by omega) (by omega) sa' sb' (Pv_1 ha sc) (Pv_1 hb sc) (by omega) (At_put hg)
              cases hp : ptc c with
              | false =>
                rw [hp, if_neg (fun z => by cases z.1)] at h'
                rw [tb0]
                exact hrec h'
              | true =>
                rw [tb1]
                have ca2 := case_a (I := upd I 16 (Int32.ofNat (out ++ [c]).length)) (A := upA A 32 (upd g out.length (Int32.ofNat c))) (i := i + 1) (l := la) (pa := c) ((k14 _).trans (by rw [hI]; congr 1; omega)) (by rw [k30]; exact ha.2) (by omega) sa' (by rw [k30]; exact Pv_1 ha sc)
                have cb2 := case_b (I := upd I 16 (Int32.ofNat (out ++ [c]).length)) (A := upA A 32 (upd g out.length (Int32.ofNat c))) (i := j + 1) (l := lb) (pa := c) ((k15 _).trans (by rw [hJ]; congr 1; omega)) (by rw [k31]; exact hb.2) (by omega) sb' (by rw [k31]; exact Pv_1 hb sc)
                refine Exists.imp (fun g' (h : _ ∧ _) => ⟨(xb_some ca2).trans ((xb_some cb2).trans h.1), h.2⟩) ?_
                by_cases e : isC c la = isC c lb
                · rw [if_neg (fun z => z.2 e)] at h'
                  rw [if_pos (tbq.mpr e)]
                  exact hrec h'
                · rw [if_pos ⟨hp, e⟩] at h'
                  cases h'
                  rw [if_neg (mt tbq.mp e)]
                  exact ⟨upd g out.length (Int32.ofNat c), rfl, At_put hg, by omega⟩
        · rw [if_neg q] at h
          cases h
          refine ⟨g, ?_, hg, by omega⟩
          exact (xb_some aa).trans ((xb_some bb).trans (if_neg (mt (j_eq (by omega) (by omega)).mp q)))
      refine Exists.imp (fun g' (h : _ ∧ _) => ⟨(xb_some ca).trans ((xb_some cb).trans h.1), h.2⟩) ?_
      have aH : upA A 32 g 30 i = Int32.ofNat (la.headD 0) ∨ la = [] := by
        cases la with
        | nil => exact Or.inr rfl
        | cons c la => exact Or.inl (by rw [k30]; exact ha.1)
      have bH : upA A 32 g 31 j = Int32.ofNat (lb.headD 0) ∨ lb = [] := by
        cases lb with
        | nil => exact Or.inr rfl
        | cons c lb => exact Or.inl (by rw [k31]; exact hb.1)
      cases hA : isC pa la with
      | false =>
        rw [hA, if_neg (fun z => by cases z.1)] at h
        show ∃ g', (if ty_b false = 0 then x_join_71 (x_join_9 n) n (upd I 16 (Int32.ofNat out.length)) (upA A 32 g) (Int32.ofNat i) (Int32.ofNat j) (ty_b false) (ty_b (isC pb lb)) else _) = _ ∧ _
        rw [tb0]
        unfold x_join_71
        cases hB : isC pb lb with
        | false =>
          rw [hB, if_neg (fun z => by cases z.1)] at h
          rw [tb0]
          exact go104 h
        | true =>
          rw [hB, if_pos ⟨rfl, Or.inl rfl⟩, Option.bind_eq_some_iff] at h
          obtain ⟨⟨u, w⟩, h1, h2⟩ := h
          rw [tb1, tb0]
          exact goB u w h1 h2
      | true =>
        have la0 : la ≠ [] := isC_ne hA
        have lap : 0 < la.length := List.length_pos_iff.mpr la0
        show ∃ g', (if ty_b true = 0 then _ else _) = _ ∧ _
        rw [tb1]
        cases hB : isC pb lb with
        | false =>
          rw [hA, hB, if_pos ⟨rfl, Or.inl rfl⟩, Option.bind_eq_some_iff] at h
          obtain ⟨⟨u, w⟩, h1, h2⟩ := h
          rw [tb0]
          exact goA u w h1 h2
        | true =>
          have lb0 : lb ≠ [] := isC_ne hB
          have lbp : 0 < lb.length := List.length_pos_iff.mpr lb0
          rw [tb1, if_pos (j_in (by omega) (by omega)), if_pos (j_in (by omega) (by omega)), (j_n (n := i) (by omega)).2, (j_n (n := j) (by omega)).2, aH.resolve_right la0, bH.resolve_right lb0]
          have hda := hd_s sa
          have hdb := hd_s sb
          by_cases e1 : la.headD 0 < lb.headD 0
          · rw [hA, if_pos ⟨rfl, Or.inr e1⟩, Option.bind_eq_some_iff] at h
            obtain ⟨⟨u, w⟩, h1, h2⟩ := h
            rw [if_neg (mt (j_le (by omega) (by omega)).mp (by omega))]
            exact goA u w h1 h2
          · rw [hA, hB, if_neg (fun z => z.2.elim (fun y => Bool.noConfusion y) e1)] at h
            rw [if_pos ((j_le (by omega) (by omega)).mpr (by omega))]
            unfold x_join_71
            rw [tb1, tb1, if_pos (j_in (by omega) (by omega)), if_pos (j_in (by omega) (by omega)), (j_n (n := i) (by omega)).2, (j_n (n := j) (by omega)).2, aH.resolve_right la0, bH.resolve_right lb0]
            by_cases e2 : lb.headD 0 < la.headD 0
            · rw [if_pos ⟨rfl, Or.inr e2⟩, Option.bind_eq_some_iff] at h
              obtain ⟨⟨u, w⟩, h1, h2⟩ := h
              rw [if_neg (mt (j_le (by omega) (by omega)).mp (by omega))]
              exact goB u w h1 h2
            · rw [if_neg (fun z => z.2.elim (fun y => Bool.noConfusion y) e2)] at h
              rw [if_pos ((j_le (by omega) (by omega)).mpr (by omega))]
              exact go104 h
end XK
