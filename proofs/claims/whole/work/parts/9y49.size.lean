section SZ
variable {S T S' : hS} {a0 a1 a2 a3 : Int32}
theorem cz_eq {b : Nat} (h1 : T.2.1 b = S.2.1 b) (h2 : T.2.2.1 b = S.2.2.1 b) : ie_sz (zcl T b) = ie_sz (zcl S b) := by
  unfold zcl zLen
  rw [h1, h2]
  split
  · rfl
  split
  · rfl
  split
  · rfl
  split
  · rfl
  split
  · rfl
  split <;> rfl
theorem q_le : ∀ k, k < 11 → (ie_q k).2.2 ≤ 70 := by decide
theorem cz_le {b : Nat} (h : zsz T b ≤ 16) : ie_sz (zcl T b) ≤ 70 := by
  unfold zsz at h
  unfold zcl
  by_cases e1 : T.2.1 b < 11
  · rw [if_pos e1]
    show (if T.2.1 b - 1 < 11 then (ie_q (T.2.1 b - 1)).2.2 else 6) ≤ 70
    rw [if_pos (by omega)]
    have := q_le (T.2.1 b - 1) (by omega)
    omega
  rw [if_neg e1] at h ⊢
  by_cases e2 : T.2.1 b < 20
  · rw [if_pos e2] at h
    omega
  rw [if_neg e2] at h
  rw [if_neg (by omega), if_neg e2]
  by_cases e3 : T.2.1 b < 28
  · rw [if_pos e3] at h
    split
    · exact Nat.le_trans h (by decide)
    split
    · exact Nat.le_trans h (by decide)
    · exact Nat.le_trans h (by decide)
  · rw [if_neg (by omega), if_neg (by omega), if_neg e3]
    show (if _ then _ else _) ≤ 70
    split
    · rename_i h9
      exact q_le _ h9
    · decide
def SU (f : Nat → Nat) : Nat → Nat
  | 0 => 0
  | n + 1 => SU f n + f n
theorem sm_su : ie_sm (zhp S) = SU (fun b => ie_sz (zcl S b)) S.1 := by
  unfold ie_sm zhp
  rw [List.map_map]
  generalize S.1 = n
  induction n with
  | zero => rfl
  | succ n ih =>
    rw [List.range_succ, List.map_append, List.sum_append, ih]
    show SU _ n + (ie_sz (zcl S n) + 0) = _
    rfl
theorem su_eq {f g : Nat → Nat} : ∀ n, (∀ b, b < n → f b = g b) → SU f n = SU g n
  | 0, _ => rfl
  | n + 1, h => by
    show SU f n + f n = SU g n + g n
    rw [su_eq n (fun b hb => h b (by omega)), h n (Nat.lt_succ_self _)]
theorem su_le {f : Nat → Nat} {n : Nat} : ∀ k, (∀ b, n ≤ b → b < n + k → f b ≤ 70) → SU f (n + k) ≤ SU f n + 70 * k
  | 0, _ => Nat.le_refl _
  | k + 1, h => by
    have h1 := su_le k (fun b h1 h2 => h b h1 (by omega))
    have h2 := h (n + k) (by omega) (by omega)
    show SU f (n + k) + f (n + k) ≤ _
    omega
theorem sm_ex (e : Ex S T) : ie_sm (zhp T) + 70 * S.1 ≤ ie_sm (zhp S) + 70 * T.1 := by
  obtain ⟨e1, e2, e3, -, -⟩ := e
  rw [sm_su, sm_su]
  obtain ⟨k, hk⟩ : ∃ k, T.1 = S.1 + k := ⟨T.1 - S.1, by omega⟩
  have h1 := su_le (f := fun b => ie_sz (zcl T b)) (n := S.1) k (fun b h1 h2 => cz_le (e3 b h1 (by omega)))
  have h2 : SU (fun b => ie_sz (zcl T b)) S.1 = SU (fun b => ie_sz (zcl S b)) S.1 := su_eq S.1 (fun b hb => cz_eq (e2 b hb).1 (e2 b hb).2)
  rw [hk]
  omega
theorem sm_M {I : Nat → Int32} {B : Nat → Nat → Int32} : ie_sm (zhp (szM S I B)) = ie_sm (zhp S) := by
  rw [sm_su, sm_su]
  exact su_eq S.1 (fun b _ => cz_eq rfl rfl)
theorem sm_XM {I : Nat → Int32} {B : Nat → Nat → Int32} (e : Ex S T) : ie_sm (zhp (szM T I B)) + 70 * S.1 ≤ ie_sm (zhp S) + 70 * (szM T I B).1 := by
  rw [sm_M]
  exact sm_ex e
theorem sm_all (hA : Alk S a0 a1 a2 a3 S') : ie_sm (zhp S') + 70 * S.1 ≤ ie_sm (zhp S) + 70 * S'.1 := by
  unfold Alk at hA
  rcases hA with ⟨hop, rfl⟩ | ⟨hop, hA⟩ | ⟨hop, hA⟩ | ⟨hop, hA⟩ | ⟨hop, hA⟩ | ⟨hop, hA⟩ | ⟨hop, hA⟩ | ⟨hop, hA⟩ | ⟨hop, hA⟩ | ⟨hop, hA⟩ | ⟨hop, hA⟩ | ⟨hop, hA⟩ | ⟨hop, hA⟩ | ⟨hop, hA⟩ | ⟨hop, hA⟩ | ⟨hop, hA⟩ | ⟨hop, hA⟩ | ⟨hop, hA⟩ | ⟨hop, hA⟩
  · exact Nat.le_refl _
  · obtain ⟨n, b, S1, I, B, h1, h2, rfl⟩ := hA
    exact sm_XM (ehy_type h1)
  · obtain ⟨n, k, b, S1, I, B, h1, h2, h3, h4, rfl⟩ := hA
    exact sm_XM (ehyL_load h1)
  · obtain ⟨b, S1, I, B, h1, h2, rfl⟩ := hA
    exact sm_XM (ehy_fault h1)
  · obtain ⟨b, S1, I, B, h1, h2, rfl⟩ := hA
    exact sm_XM (ehy_who h1)
  · obtain ⟨k, b, S1, I, B, h1, h2, h3, h4, rfl⟩ := hA
    exact sm_XM (ehyL_length h1)
  · obtain ⟨k, b, S1, I, B, h1, h2, h3, h4, rfl⟩ := hA
    exact sm_XM (ehyL_letter h1)
  · obtain ⟨k, b, S1, I, B, h1, h2, h3, h4, rfl⟩ := hA
    exact sm_XM (ehyL_input h1)
  · obtain ⟨k, b, S1, I, B, h1, h2, h3, rfl⟩ := hA
    exact sm_XM (ehyL_room h1)
  · obtain ⟨n, k, b, S1, I, B, h1, h2, h3, rfl⟩ := hA
    exact sm_XM (ehyL_reset h1)
  · obtain ⟨n, k, b, S1, I, B, h1, h2, h3, h4, rfl⟩ := hA
    exact sm_XM (ehyL_step h1)
  · obtain ⟨n, k, b, S1, I, B, h1, h2, h3, h4, rfl⟩ := hA
    exact sm_XM (ehyL_run h1)
  · obtain ⟨k, b, S1, I, B, h1, h2, h3, h4, rfl⟩ := hA
    exact sm_XM (ehyL_at h1)
  · obtain ⟨k, b, S1, I, B, h1, h2, h3, h4, rfl⟩ := hA
    exact sm_XM (ehyL_variable h1)
  · obtain ⟨k, b, S1, I, B, h1, h2, h3, h4, rfl⟩ := hA
    exact sm_XM (ehyL_queue h1)
  · obtain ⟨k, b, S1, I, B, h1, h2, h3, h4, rfl⟩ := hA
    exact sm_XM (ehyL_message h1)
  · obtain ⟨k, b, S1, I, B, h1, h2, h3, h4, rfl⟩ := hA
    exact sm_XM (ehyL_label h1)
  · obtain ⟨n, k, b, S1, I, B, h1, h2, h3, h4, rfl⟩ := hA
    exact sm_XM (ehyL_whole h1)
  · obtain ⟨k, b, S1, I, B, h1, h2, h3, h4, rfl⟩ := hA
    exact sm_XM (ehyL_wanted h1)
set_option maxRecDepth 1000000 in
theorem sm_st : ie_sm (zhp S0) ≤ 100000 := by
  rw [S0_hp]
  exact Nat.le_of_ble_eq_true rfl
end SZ
