section INI
variable {S0 : hS} {th : Nat} {rc : hS → Nat → Option Nat → Int32 → Option (hS × Option Nat)}
theorem Md2_AR {S T : hS} {b : Nat} {f : Nat → Option Nat} (h : Md2 S T []) (hb : S.1 ≤ b) : Md2 S (szAR T b f) [] := by
  obtain ⟨a1, a2, a3, a4, a5, a6, a7⟩ := h
  refine ⟨a1, a2, a3, a4, fun x hx hd => ?_, a6, a7⟩
  have : zAR (szAR T b f) x = zAR T x := zup_ne (by omega)
  rw [this]
  exact a5 x hx hd
def EmR (S : hS) (w : Nat) : Prop := ztg S w = 8 ∧ (∀ k, zR S k w = none)
theorem EmR_o {S : hS} {w : Nat} (h : EmR S w) : RowO S w [] .nil .nil := ⟨h.1, ⟨none, h.2 0, rfl⟩, So_nil, h.2 1, fun _ => h.2 2, fun C0 f e => by
    have := congrArg List.length e
    simp at this, trivial⟩
theorem ini_9 {v : Option Nat} {l2 : Int32} (hz : S0.1 + 20 < ie_S) : ∀ (e i m : Nat) (S1 : hS), i + e = 6 → S1.1 = S0.1 + 1 + i → Md2 S0 S1 [] → ztg S1 S0.1 = 26 → zLen S1 S0.1 = 6 → (∀ p, p < i → zAR S1 S0.1 p = some (S0.1 + 1 + p) ∧ EmR S1 (S0.1 + 1 + p)) → ∃ S', yC_cutRow_9 th rc (m + 1 + e) S1 v l2 (some S0.1) (Int32.ofNat i) = yC_cutRow_9 th rc (m + 1) S' v l2 (some S0.1) 6 ∧ S'.1 = S0.1 + 7 ∧ Md2 S0 S' [] ∧ ztg S' S0.1 = 26 ∧ zLen S' S0.1 = 6 ∧ (∀ p, p < 6 → zAR S' S0.1 p = some (S0.1 + 1 + p) ∧ EmR S' (S0.1 + 1 + p))
  | 0, i, m, S1, hi, h1, h2, h3, h4, h5 => by
    have : i = 6 := by omega
    subst this
    exact ⟨S1, rfl, h1, h2, h3, h4, h5⟩
  | e + 1, i, m, S1, hi, h1, h2, h3, h4, h5 => by
    have hw : ztg (szN S1 7) S1.1 = 8 := by
      unfold ztg
      rw [if_pos ⟨Nat.lt_succ_self _, by omega⟩]
      exact if_pos rfl
    have mN : Md2 S1 (szN S1 7) [] := Md2_N 7
    have t26 : ztg (szN S1 7) S0.1 = 26 := Md2_tg mN h3
    have l6 : zLen (szN S1 7) S0.1 = 6 := ((mN.2.1 S0.1 (ztg_lt h3).1).2.1).trans h4
    have hk : zok (szN S1 7) S0.1 (some S1.1) = true := by
      unfold zok
      rw [t26]
      show (decide (24 ≤ 26) && decide (26 < 28) && (ztg (szN S1 7) S1.1 == ie_kc (26 - 20) + 1)) = true
      rw [hw]
      rfl
    generalize hT : szAR (szN S1 7) S0.1 (va_up (zAR (szN S1 7) S0.1) i (some S1.1)) = T
    have zT : ∀ x, ztg T x = ztg (szN S1 7) x := fun x => by rw [← hT]; rfl
    have rT : ∀ k x, zR T k x = zR (szN S1 7) k x := fun k x => by rw [← hT]; rfl
    have aT : zAR T S0.1 = va_up (zAR (szN S1 7) S0.1) i (some S1.1) := by rw [← hT]; exact if_pos rfl
    have eT : T.1 = S1.1 + 1 := by rw [← hT]; rfl
    have mT : Md2 S0 T [] := by
      rw [← hT]
      exact Md2_AR (Md2_t h2 mN (fun _ z => by cases z) (fun _ z => by cases z) (fun _ z => by cases z)) (Nat.le_refl _)
    have aN : zAR (szN S1 7) S0.1 = zAR S1 S0.1 := rfl
    have step : yC_cutRow_9 th rc (m + 1 + (e + 1)) S1 v l2 (some S0.1) (Int32.ofNat i) = yC_cutRow_9 th rc (m + 1 + e) T v l2 (some S0.1) (Int32.ofNat (i + 1)) := by
      rw [← Nat.add_assoc, yC_cutRow_9, if_neg (show ¬ (6 : Int32) ≤ Int32.ofNat i from mt (j_le (m := 6) (by decide) (by omega)).mp (by omega)), znw_s (show S1.1 < ie_S by omega)]
      refine (zcV_s (show yW_new (szN S1 7) S1.1 = some (szN S1 7) from rfl)).trans ((zob_s rfl).trans ?_)
      rw [if_pos t26, if_pos hk, l6, if_pos (j_in (by omega) (by omega)), (j_n (n := i) (by omega)).2, hT, o1]
    rw [step]
    refine ini_9 hz e (i + 1) m T (by omega) (by omega) mT (by rw [zT]; exact t26) ?_ (fun p hp => ?_)
    · rw [← hT]
      exact l6
    · rw [aT]
      by_cases q : p = i
      · subst q
        refine ⟨?_, ?_, fun k => ?_⟩
        · rw [show S0.1 + 1 + p = S1.1 by omega]
          exact if_pos rfl
        · rw [zT, show S0.1 + 1 + p = S1.1 by omega]
          exact hw
        · rw [rT, show S0.1 + 1 + p = S1.1 by omega]
          exact if_pos rfl
      · obtain ⟨g1, g2, g3⟩ := h5 p (by omega)
        have gl := (ztg_lt g2).1
        refine ⟨?_, ?_, fun k => ?_⟩
        · show (if p = i then some S1.1 else zAR (szN S1 7) S0.1 p) = _
          rw [if_neg q, aN]
          exact g1
        · rw [zT]
          exact Md2_tg mN g2
        · rw [rT, (mN.2.2.1 k _ gl (fun z => by cases z)).2]
          exact g3 k
theorem ini_ok {n r : Nat} {v : Option Nat} {d : Nat} (hz : S0.1 + 20 < ie_S) (hd : d ≤ 6) (hn : 10 ≤ n) : ∃ S', yC_cutRow n (r + 1) S0 th v (Int32.ofNat d) = yC_cutRow_44 th (yC_cutRow n r) (n - 7) S' (Int32.ofNat d) (some S0.1) v ∧ S'.1 = S0.1 + 7 ∧ Md2 S0 S' [] ∧ Rws S' S0.1 (fun _ => []) (fun _ => .nil) (fun _ => .nil) := by
  have mN : Md2 S0 (szNA S0 6 6) [] := Md2_NA 6 6
  have t26 : ztg (szNA S0 6 6) S0.1 = 26 := by
    unfold ztg
    rw [if_pos ⟨Nat.lt_succ_self _, by omega⟩]
    exact if_pos rfl
  obtain ⟨S', k1, k2, k3, k4, k5, k6⟩ := ini_9 (th := th) (rc := yC_cutRow n r) (v := v) (l2 := Int32.ofNat d) hz 6 0 (n - 7) (szNA S0 6 6) rfl rfl mN t26 (if_pos rfl) (fun p hp => by omega)
  refine ⟨S', ?_, k2, k3, k4, k5, fun p hp => (k6 p hp).1, fun p hp => EmR_o (k6 p hp).2, fun p q _ _ _ x hx => by cases hx⟩
  rw [yC_cutRow]
  unfold zna
  rw [if_pos (show S0.1 < ie_S by omega)]
  rw [show n - 7 + 1 + 6 = n by omega] at k1
  refine k1.trans ?_
  rw [yC_cutRow_9, if_pos (by decide), if_pos (show Int32.ofNat d ≤ 6 from (j_le (n := 6) (by omega) (by decide)).mpr hd)]
end INI
