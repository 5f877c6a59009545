def ExP (A : Nat → Nat → Int32) (e k : Nat) : Prop := ∃ fr ch, A 21 k = Int32.ofNat fr ∧ At (A 16) fr (xt e) ∧ A 16 (fr + (xt e).length) = Int32.ofNat ch ∧ ch < 256 ∧ fgc ch = false ∧ opc ch = false ∧ fr + (xt e).length < 200
section WW
variable {A : Nat → Nat → Int32} {I : Nat → Int32} {a : List Nat} {p fr ch k : Nat} {V : Nat → Int32}
theorem wt_43 : ∀ (a : List Nat) (fr n : Nat) (I : Nat → Int32) (acc : Int32), At (A 16) fr a → (∀ c, c ∈ a → fgc c = true) → A 16 (fr + a.length) = Int32.ofNat ch → ch < 256 → fgc ch = false → fr + a.length < 200 → a.length + 1 ≤ n → x_wantedTerm_43 n I A (Int32.ofNat fr) acc = some (upd I 19 (Int32.ofNat (fr + a.length)), A, a.foldl (fun a c => 10 * a + Int32.ofNat c - 48) acc)
  | [], fr, n, I, acc, _, _, hc, c1, c2, hf, hn => by
    obtain ⟨n, rfl⟩ : ∃ m, n = m + 1 := ⟨n - 1, by omega⟩
    have hf' : fr < 200 := hf
    have hc' : A 16 fr = Int32.ofNat ch := hc
    rw [x_wantedTerm_43, if_pos (j_in (by omega) hf'), (j_n (n := fr) (by omega)).2, hc', fig_o c1, c2, if_pos (by decide)]
    rfl
  | c :: a, fr, n, I, acc, ha, hg, hc, c1, c2, hf, hn => by
    rw [List.length_cons] at hc hf hn
    obtain ⟨n, rfl⟩ : ∃ m, n = m + 1 := ⟨n - 1, by omega⟩
    have g := hg c List.mem_cons_self
    have g' := of_decide_eq_true (show decide (48 ≤ c ∧ c ≤ 57) = true from g)
    rw [x_wantedTerm_43, if_pos (j_in (by omega) (by omega)), (j_n (n := fr) (by omega)).2, ha.1, fig_o (by omega), g, if_neg (by decide), o1, wt_43 a (fr + 1) n I _ ha.2 (fun d hd => hg d (List.mem_cons_of_mem _ hd)) (by rw [show fr + 1 + a.length = fr + (a.length + 1) by omega]; exact hc) c1 c2 (by omega) (by omega), List.length_cons, show fr + 1 + a.length = fr + (a.length + 1) by omega]
    rfl
theorem wt_tm {n : Nat} (hp : p < 6) (hV : ∀ v, v < 4 → V v = A 35 (4 * p + v)) (ha : At (A 16) fr a) (ht : trL a) (hc : A 16 (fr + a.length) = Int32.ofNat ch) (c1 : ch < 256) (c2 : fgc ch = false) (hf : fr + a.length < 200) (hn : 10 ≤ n) : x_wantedTerm n I A (Int32.ofNat p) (Int32.ofNat fr) = some (upd I 19 (Int32.ofNat (fr + a.length)), A, tvl V a) := by
  unfold x_wantedTerm
  rw [if_pos (j_in (by omega) (by omega)), (j_n (n := fr) (by omega)).2]
  rcases ht with ⟨v, rfl, hv⟩ | ⟨h1, h2, h3⟩
  · have hv' := of_decide_eq_true (show decide (119 ≤ v ∧ v ≤ 122) = true from hv)
    rw [ha.1, (var_o (by omega)).1, hv, if_neg (by decide)]
    have e : (4 : Int32) * Int32.ofNat p + Int32.ofNat v - 119 = Int32.ofNat (4 * p + v - 119) := by
      rw [show (4 : Int32) = Int32.ofNat 4 from rfl, ← Int32.ofNat_mul, ty_add]
      exact o_sub (j := 119) (by omega)
    rw [e, if_pos (j_in (by omega) (by omega)), (j_n (n := 4 * p + v - 119) (by omega)).2, o1]
    unfold tvl
    rw [show [v].headD 0 = v from rfl, if_pos hv, hV (v - 119) (by omega), show 4 * p + (v - 119) = 4 * p + v - 119 by omega]
    rfl
  · cases a with
    | nil => exact (h1 rfl).elim
    | cons c a =>
      have hc' := h3 c List.mem_cons_self
      have g' := of_decide_eq_true (show decide (48 ≤ c ∧ c ≤ 57) = true from hc')
      have hv : vrc c = false := by
        unfold vrc
        rw [decide_eq_false]
        omega
      rw [ha.1, (var_o (by omega)).1, hv, if_pos (by decide), wt_43 (c :: a) fr n I 0 ha h3 hc c1 c2 hf (by omega)]
      unfold tvl
      rw [show (c :: a).headD 0 = c from rfl, if_neg (by rw [hv]; decide)]
theorem ww_ok {e : Nat} (hx : Xok e) (hp : p < 6) (hk : k < 200) (h18 : A 18 k = Int32.ofNat p) (he : ExP A e k) (hV : ∀ v, v < 4 → V v = A 35 (4 * p + v)) : ∃ I', (∀ n, 10 ≤ n → x_wantedWorth n I A (Int32.ofNat k) = some (I', A, evx V (xt e))) ∧ ∀ j, j ≠ 19 → I' j = I j := by
  obtain ⟨fr, ch, h21, ha, hc, c1, c2, c3, hf⟩ := he
  rcases hx.2.1.2 with ht | ⟨a, o, b, el, ht, ho, hb⟩
  · refine ⟨upd I 19 (Int32.ofNat (fr + (xt e).length)), fun n hn => ?_, fun j hj => upd_n hj⟩
    unfold x_wantedWorth
    rw [if_pos (j_in (by omega) hk), (j_n (n := k) (by omega)).2, h18, h21]
    refine (xb_some (wt_tm hp hV ha ht hc c1 c2 hf hn)).trans ?_
    rw [upd_s, if_pos (j_in (by omega) hf), (j_n (n := fr + (xt e).length) (by omega)).2, hc, (var_o c1).2, c3, if_pos (by decide), evx_1 ht]
  · rw [el] at ha hc hf
    rw [List.length_append, List.length_cons] at hc hf
    rw [At_app] at ha
    obtain ⟨a1, a2, a3⟩ := ha
    have o1' : o < 256 := xt_s e o (by rw [el]; simp)
    have hb' : A 16 (fr + a.length + 1 + b.length) = Int32.ofNat ch := by
      rw [show fr + a.length + 1 + b.length = fr + (a.length + (b.length + 1)) by omega]
      exact hc
    refine ⟨upd (upd I 19 (Int32.ofNat (fr + a.length))) 19 (Int32.ofNat (fr + a.length + 1 + b.length)), fun n hn => ?_, fun j hj => by rw [upd_n hj, upd_n hj]⟩
    unfold x_wantedWorth
    rw [if_pos (j_in (by omega) hk), (j_n (n := k) (by omega)).2, h18, h21]
    refine (xb_some (wt_tm hp hV a1 ht a2 o1' (op_vf ho).2 (by omega) hn)).trans ?_
    rw [upd_s, if_pos (j_in (by omega) (by omega)), (j_n (n := fr + a.length) (by omega)).2, a2, (var_o o1').2, ho, if_neg (by decide), o1]
    refine (xb_some (wt_tm hp hV a3 hb hb' c1 c2 (by omega) hn)).trans ?_
    rw [el, evx_2 ht ho]
end WW
def ItP (A : Nat → Nat → Int32) (s k : Nat) : Prop := k < 200 ∧ A 18 k = Int32.ofNat (cD s) ∧ ((cK s = 1 ∧ A 17 k = 1 ∧ A 20 k = Int32.ofNat (cV s) ∧ ExP A (cE s) k) ∨ (cK s = 2 ∧ A 17 k = 2 ∧ A 19 k = Int32.ofNat (cO s) ∧ A 20 k = Int32.ofNat (cV s) ∧ ExP A (cE s) k) ∨ (cK s = 4 ∧ A 17 k = 3) ∨ (cK s = 6 ∧ A 17 k = 4 ∧ ExP A (cE s) k) ∨ (cK s = 7 ∧ A 17 k = 5 ∧ ExP A (cE s) k))
def PC (A : Nat → Nat → Int32) (D : Nat → Nat) : Fo → Nat → Nat → Prop
  | .append (.tag q .nil) r, lo, hi => ItP A (D q) lo ∧ PC A D r (lo + 1) hi
  | .append (.tag q (.append (.tag _ t1) .nil)) r, lo, hi => ItP A (D q) lo ∧ A 17 (lo + 1) = 6 ∧ ∃ e1, PC A D t1 (lo + 2) e1 ∧ lo + 2 ≤ e1 ∧ e1 + 1 ≤ hi ∧ A 17 e1 = 7 ∧ A 24 e1 = Int32.ofNat lo ∧ A 22 lo = Int32.ofNat e1 ∧ PC A D r (e1 + 1) hi
  | .append (.tag q (.append (.tag _ t1) (.append (.tag _ t2) .nil))) r, lo, hi => ItP A (D q) lo ∧ A 17 (lo + 1) = 6 ∧ ∃ e1 e2, PC A D t1 (lo + 2) e1 ∧ lo + 2 ≤ e1 ∧ A 17 e1 = 7 ∧ A 24 e1 = Int32.ofNat lo ∧ A 22 lo = Int32.ofNat e1 ∧ A 17 (e1 + 1) = 6 ∧ PC A D t2 (e1 + 2) e2 ∧ e1 + 2 ≤ e2 ∧ e2 + 1 ≤ hi ∧ A 17 e2 = 7 ∧ A 24 e2 = Int32.ofNat lo ∧ A 23 lo = Int32.ofNat e2 ∧ PC A D r (e2 + 1) hi
  | .nil, lo, hi => lo = hi
  | _, _, _ => False
def EndP (A : Nat → Nat → Int32) (D : Nat → Nat) (st : Nat) : Nat → List Fo → Prop
  | e, [] => e = st
  | e, t :: L => e < st ∧ A 17 e = 7 ∧ ∃ hd k' e', A 24 e = Int32.ofNat hd ∧ hd < 200 ∧ ((A 17 hd = 5 ∧ k' = hd) ∨ (A 17 hd = 4 ∧ A 23 hd + 1 = Int32.ofNat k')) ∧ PC A D t k' e' ∧ EndP A D st e' L
def WP (A : Nat → Nat → Int32) (D : Nat → Nat) (st : Nat) : List Fo → Nat → Prop
  | [], k => k = st
  | t :: L, k => ∃ e, PC A D t k e ∧ EndP A D st e L
def SStk (S : hS) (D : Nat → Nat) (lw : Nat) : List Fo → Option Nat → Prop
  | [], v => v = none
  | t :: L, v => PW D t ∧ ∃ u E, SN S D lw t u ∧ SB S t u E ∧ SStk S D lw L E ∧ v = orE u E
section PCS
variable {A0 A B : Nat → Nat → Int32} {D : Nat → Nat} {I : Nat → Int32} {st : Nat}
theorem PC_le : ∀ (t : Fo), PW D t → ∀ lo hi, PC A D t lo hi → lo ≤ hi := PW_ind (fun lo hi h => Nat.le_of_eq h) (fun q r _ _ ih lo hi h => by have := ih _ _ h.2; omega) (fun q j t1 r _ _ _ _ ih1 ih2 lo hi h => by
    obtain ⟨_, _, e1, h1, h2, h3, _⟩ := h
    omega) (fun q j1 j2 t1 t2 r _ _ _ _ _ ih1 ih2 ih3 lo hi h => by
    obtain ⟨_, _, e1, e2, h1, h2, _, _, _, _, _, h3, h4, _⟩ := h
    omega)
end PCS
