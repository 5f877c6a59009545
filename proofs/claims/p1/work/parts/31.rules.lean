section GR
variable {X : ie_X} {d m pc len idx : Nat} {r : Nat × Nat × Nat} {ls : ie_L} {st : List Value} {h h2 : ie_H} {o : ie_O} {h' : ie_H} {ci k w : Nat}
theorem go_gf {a : Nat} {fs : List Value} {v : Value} (hat : ie_at m pc = some ((.getfield idx, len), (ci, k, w))) (ha : h[a]? = some (.inr (ci, fs))) (hv : fs[k]? = some v) (kk : Go X d m (pc + 3, ls, v :: st, h) o h') : Go X d m (pc, ls, .ref a :: st, h) o h' := by
  refine go_step hat ?_ kk
  simp only [ie_nx, ie_step, ie_gf, ha, hv, if_true]
theorem go_pf {a : Nat} {fs : List Value} {v : Value} (hat : ie_at m pc = some ((.putfield idx, len), (ci, k, w))) (ha : h[a]? = some (.inr (ci, fs))) (hk : k < fs.length) (hf : ie_fitb ((ie_fl.getD ci (fun _ => .int)) k) v = true) (he : h.set a (.inr (ci, fs.set k v)) = h2) (kk : Go X d m (pc + 3, ls, st, h2) o h') : Go X d m (pc, ls, v :: .ref a :: st, h) o h' := by
  subst he
  refine go_step hat ?_ kk
  simp only [ie_nx, ie_step, ie_pf, ha, if_true, List.getElem?_eq_getElem hk, hf]
theorem go_iald {a n : Nat} {f : Nat → Int32} {i v : Int32} (hat : ie_at m pc = some ((.iaload, len), r)) (hne : a ≠ ie_S) (ha : h[a]? = some (.inl (0, n, .inl f))) (hi : 0 ≤ i.toInt ∧ i.toInt < (n : Int)) (hv : f i.toNatClampNeg = v) (kk : Go X d m (pc + 1, ls, .int v :: st, h) o h') : Go X d m (pc, ls, .int i :: .ref a :: st, h) o h' := by
  subst hv
  refine go_step hat ?_ kk
  simp only [ie_nx, ie_step, ie_ia, if_neg hne, ha, if_true, if_pos hi]
theorem go_cald {a n : Nat} {f : Nat → Int32} {i v : Int32} (hat : ie_at m pc = some ((.caload, len), r)) (hne : a ≠ ie_S) (ha : h[a]? = some (.inl (1, n, .inl f))) (hi : 0 ≤ i.toInt ∧ i.toInt < (n : Int)) (hv : f i.toNatClampNeg = v) (kk : Go X d m (pc + 1, ls, .int v :: st, h) o h') : Go X d m (pc, ls, .int i :: .ref a :: st, h) o h' := by
  subst hv
  refine go_step hat ?_ kk
  simp only [ie_nx, ie_step, ie_ia, if_neg hne, ha, if_true, if_pos hi]
theorem go_bald {a n : Nat} {f : Nat → Int32} {i v : Int32} (hat : ie_at m pc = some ((.baload, len), r)) (hne : a ≠ ie_S) (ha : h[a]? = some (.inl (2, n, .inl f))) (hi : 0 ≤ i.toInt ∧ i.toInt < (n : Int)) (hv : f i.toNatClampNeg = v) (kk : Go X d m (pc + 1, ls, .int v :: st, h) o h') : Go X d m (pc, ls, .int i :: .ref a :: st, h) o h' := by
  subst hv
  refine go_step hat ?_ kk
  simp only [ie_nx, ie_step, ie_ia, if_neg hne, ha, if_true, if_pos hi]
theorem go_sald {i v : Int32} (hat : ie_at m pc = some ((.iaload, len), r)) (hi : 0 ≤ i.toInt ∧ i.toInt < (X.1 : Int)) (hv : X.2 i.toNatClampNeg = v) (kk : Go X d m (pc + 1, ls, .int v :: st, h) o h') : Go X d m (pc, ls, .int i :: .ref ie_S :: st, h) o h' := by
  subst hv
  refine go_step hat ?_ kk
  simp only [ie_nx, ie_step, ie_ia, if_true, if_pos hi]
theorem go_slen {v : Int32} (hat : ie_at m pc = some ((.arraylength, len), r)) (hv : Int32.ofNat X.1 = v) (kk : Go X d m (pc + 1, ls, .int v :: st, h) o h') : Go X d m (pc, ls, .ref ie_S :: st, h) o h' := by
  subst hv
  refine go_step hat ?_ kk
  simp only [ie_nx, ie_step, ie_len, if_true]
theorem go_lald {a n : Nat} {f : Nat → Int64} {i : Int32} {v : Int64} (hat : ie_at m pc = some ((.laload, len), r)) (ha : h[a]? = some (.inl (3, n, .inr (.inl f)))) (hi : 0 ≤ i.toInt ∧ i.toInt < (n : Int)) (hv : f i.toNatClampNeg = v) (kk : Go X d m (pc + 1, ls, .long v :: st, h) o h') : Go X d m (pc, ls, .int i :: .ref a :: st, h) o h' := by
  subst hv
  refine go_step hat ?_ kk
  simp only [ie_nx, ie_step, ie_lal, ha, if_true, if_pos hi]
theorem go_aald {a u n : Nat} {f : Nat → Option Nat} {i : Int32} {v : Option Nat} (hat : ie_at m pc = some ((.aaload, len), r)) (ha : h[a]? = some (.inl (u, n, .inr (.inr (.inr (.inr f)))))) (hu : 4 ≤ u ∧ u < 8) (hi : 0 ≤ i.toInt ∧ i.toInt < (n : Int)) (hv : f i.toNatClampNeg = v) (kk : Go X d m (pc + 1, ls, va_rf v :: st, h) o h') : Go X d m (pc, ls, .int i :: .ref a :: st, h) o h' := by
  subst hv
  refine go_step hat ?_ kk
  simp only [ie_nx, ie_step, ie_aal, ha, if_pos hu, if_pos hi]
theorem go_iast {a n : Nat} {f : Nat → Int32} {i x : Int32} (hat : ie_at m pc = some ((.iastore, len), r)) (ha : h[a]? = some (.inl (0, n, .inl f))) (hi : 0 ≤ i.toInt ∧ i.toInt < (n : Int)) (he : h.set a (.inl (0, n, .inl (upd f i.toNatClampNeg x))) = h2) (kk : Go X d m (pc + 1, ls, st, h2) o h') : Go X d m (pc, ls, .int x :: .int i :: .ref a :: st, h) o h' := by
  subst he
  refine go_step hat ?_ kk
  simp only [ie_nx, ie_step, ie_ist, ha, if_true, if_pos hi]
theorem go_cast {a n : Nat} {f : Nat → Int32} {i x : Int32} (hat : ie_at m pc = some ((.castore, len), r)) (ha : h[a]? = some (.inl (1, n, .inl f))) (hi : 0 ≤ i.toInt ∧ i.toInt < (n : Int)) (he : h.set a (.inl (1, n, .inl (upd f i.toNatClampNeg (vp_nar .char x)))) = h2) (kk : Go X d m (pc + 1, ls, st, h2) o h') : Go X d m (pc, ls, .int x :: .int i :: .ref a :: st, h) o h' := by
  subst he
  refine go_step hat ?_ kk
  simp only [ie_nx, ie_step, ie_ist, ha, if_true, if_pos hi]
theorem go_bast {a n : Nat} {f : Nat → Int32} {i x : Int32} (hat : ie_at m pc = some ((.bastore, len), r)) (ha : h[a]? = some (.inl (2, n, .inl f))) (hi : 0 ≤ i.toInt ∧ i.toInt < (n : Int)) (he : h.set a (.inl (2, n, .inl (upd f i.toNatClampNeg (vp_nar .boolean x)))) = h2) (kk : Go X d m (pc + 1, ls, st, h2) o h') : Go X d m (pc, ls, .int x :: .int i :: .ref a :: st, h) o h' := by
  subst he
  refine go_step hat ?_ kk
  simp only [ie_nx, ie_step, ie_ist, ha, if_true, if_pos hi]
theorem go_last {a n : Nat} {f : Nat → Int64} {i : Int32} {x : Int64} (hat : ie_at m pc = some ((.lastore, len), r)) (ha : h[a]? = some (.inl (3, n, .inr (.inl f)))) (hi : 0 ≤ i.toInt ∧ i.toInt < (n : Int)) (he : h.set a (.inl (3, n, .inr (.inl (vp_updL f i.toNatClampNeg x)))) = h2) (kk : Go X d m (pc + 1, ls, st, h2) o h') : Go X d m (pc, ls, .long x :: .int i :: .ref a :: st, h) o h' := by
  subst he
  refine go_step hat ?_ kk
  simp only [ie_nx, ie_step, ie_lst, ha, if_true, if_pos hi]
theorem go_aast {a u n b : Nat} {f : Nat → Option Nat} {fs : List Value} {i : Int32} (hat : ie_at m pc = some ((.aastore, len), r)) (ha : h[a]? = some (.inl (u, n, .inr (.inr (.inr (.inr f)))))) (hb : h[b]? = some (.inr (ie_kc u, fs))) (hu : 4 ≤ u ∧ u < 8) (hi : 0 ≤ i.toInt ∧ i.toInt < (n : Int)) (he : h.set a (.inl (u, n, .inr (.inr (.inr (.inr (va_up f i.toNatClampNeg (some b))))))) = h2) (kk : Go X d m (pc + 1, ls, st, h2) o h') : Go X d m (pc, ls, .ref b :: .int i :: .ref a :: st, h) o h' := by
  subst he
  refine go_step hat ?_ kk
  simp only [ie_nx, ie_step, ie_ast, ha, hb]
  rw [if_pos ⟨hu.1, hu.2, trivial⟩, if_pos hi]
theorem go_len {a t n : Nat} {z : (Nat → Int32) ⊕ (Nat → Int64) ⊕ (Nat → UInt32) ⊕ (Nat → UInt64) ⊕ (Nat → Option Nat)} {v : Int32} (hat : ie_at m pc = some ((.arraylength, len), r)) (hne : a ≠ ie_S) (ha : h[a]? = some (.inl (t, n, z))) (ht : t < 8) (hv : Int32.ofNat n = v) (kk : Go X d m (pc + 1, ls, .int v :: st, h) o h') : Go X d m (pc, ls, .ref a :: st, h) o h' := by
  subst hv
  refine go_step hat ?_ kk
  simp only [ie_nx, ie_step, ie_len, if_neg hne, ha, if_pos ht]
theorem go_iv {m' n b : Nat} {fs : List Value} {rest : List Value} {v : Option Value} {h1 : ie_H} {as : List Value} (hat : ie_at m pc = some ((.invokevirtual idx, len), (m', n, w))) (hd : st.drop n = .ref b :: rest) (hb : h[b]? = some (.inr ((ie_info m').1.1, fs))) (hc : ie_cat rest ≤ 8) (has : .ref b :: (st.take n).reverse = as) (hlg : ie_lgs 0 as = ie_lg m' ∧ (ie_sp as).length ≤ ie_mx m') (k1 : Go X d m' (0, ie_en m' as, [], h) (.inl v) h1) (k : Go X (d + 1) m (pc + 3, ls, v.toList ++ rest, h1) o h') : Go X (d + 1) m (pc, ls, st, h) o h' := by
  subst has
  refine go_call hat ?_ hlg k1 k
  simp only [ie_nx, ie_step, ie_iv, hd, hb, if_true, if_pos hc, ie_go]
theorem go_ivx {m' n b : Nat} {fs : List Value} {rest : List Value} {c9 : Nat} {h1 : ie_H} {as : List Value} (hat : ie_at m pc = some ((.invokevirtual idx, len), (m', n, w))) (hd : st.drop n = .ref b :: rest) (hb : h[b]? = some (.inr ((ie_info m').1.1, fs))) (hc : ie_cat rest ≤ 8) (has : .ref b :: (st.take n).reverse = as) (hlg : ie_lgs 0 as = ie_lg m' ∧ (ie_sp as).length ≤ ie_mx m') (htm : ie_tm.contains m' = true) (hem : (ie_hs m).isEmpty = true) (k1 : Go X d m' (0, ie_en m' as, [], h) (.inr c9) h1) : Go X (d + 1) m (pc, ls, st, h) (.inr c9) h1 := by
  subst has
  refine go_out hat (rest := rest) ?_ hlg htm hem k1
  simp only [ie_nx, ie_step, ie_iv, hd, hb, if_true, if_pos hc, ie_go]
theorem go_ivc {m' n b c9 t t' : Nat} {fs : List Value} {rest : List Value} {ls' : ie_L} {h1 : ie_H} {as : List Value} (hat : ie_at m pc = some ((.invokevirtual idx, len), (m', n, w))) (hd : st.drop n = .ref b :: rest) (hb : h[b]? = some (.inr ((ie_info m').1.1, fs))) (hc : ie_cat rest ≤ 8) (has : .ref b :: (st.take n).reverse = as) (hlg : ie_lgs 0 as = ie_lg m' ∧ (ie_sp as).length ≤ ie_mx m') (htm : ie_tm.contains m' = true) (hhd : ie_hd m pc c9 = some t) (hca : ie_ca m t ls = some (t', ls')) (k1 : Go X d m' (0, ie_en m' as, [], h) (.inr c9) h1) (k : Go X (d + 1) m (t', ls', [], h1) o h') : Go X (d + 1) m (pc, ls, st, h) o h' := by
  subst has
  refine go_catch hat (rest := rest) ?_ hlg htm hhd hca k1 k
  simp only [ie_nx, ie_step, ie_iv, hd, hb, if_true, if_pos hc, ie_go]
theorem go_pc {a b : Nat} (e : a = b) (k : Go X d m (b, ls, st, h) o h') : Go X d m (a, ls, st, h) o h' := e ▸ k
end GR
