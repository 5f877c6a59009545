section SRO
variable {S : hS} {f : Nat → Int32} {g : Nat → Nat} {c : Nat}
theorem std_of {b q : Nat} (ht : ztg S b = 10) (h : SD S f c b (q, false)) (hd : DQ f g c q (Dd f c q)) : StD S b (Dd f c q) := by
  obtain ⟨s0, s1, s2, s3, s4, s5, s6⟩ := h
  obtain ⟨h1, h2, h3, h4, h5, h6, h7⟩ := hd
  refine ⟨ht, by rw [s1, h3], by rw [s2, h1], fun k => ?_, by rw [s4, h4], by rw [s5, h5], by rw [s6, h6]⟩
  rw [s3]
  rcases h7 with ⟨_, _, o, _⟩ | ⟨_, k4, _⟩ | ⟨_, k4, _⟩ | ⟨_, _, _, _, k4, _⟩ | ⟨_, _, _, _, _, o, _⟩
  · exact o
  · omega
  · omega
  · omega
  · exact o
theorem sr_of : ∀ (t : Fo), PW (Dd f c) t → DA (fun P => DQ f g c P (Dd f c P)) t → ∀ (v : Option Nat) (lo l h : Nat), RS S f c false t lo v → PI t l h → h ≤ 1000 → SR S (Dd f c) S.1 t v ∧ SN S (Dd f c) lo t v := PW_ind (fun _ v lo l h hr _ _ => by
    unfold RS at hr
    exact ⟨hr, hr⟩) (fun q r _ pr ih hd v lo l h hr hp hh => by
    unfold RS at hr
    obtain ⟨b, rfl, h2, h3, h4, h5, h6, h7⟩ := hr
    obtain ⟨a1, a2⟩ := ih hd.2 _ _ _ _ h7 hp.2 hh
    have hq := PI_hi r pr _ _ hp.2
    have hs := std_of h3 (h4 rfl).1 hd.1
    exact ⟨⟨b, rfl, ⟨(ztg_lt h3).1, by omega⟩, hs, (h4 rfl).1.1, a1⟩, ⟨b, rfl, ⟨h2, (ztg_lt h3).1, by omega⟩, hs, (h4 rfl).1.1, h5, h6, a2⟩⟩) (fun q i t1 r _ _ p1 pr ih1 ih2 hd v lo l h hr hp hh => by
    unfold RS at hr
    obtain ⟨b, rfl, h2, h3, h4, h5, h6, h7⟩ := hr
    obtain ⟨hl, m, hp1, hp2⟩ := hp
    have hq1 := PI_hi t1 p1 _ _ hp1
    have hq2 := PI_hi r pr _ _ hp2
    obtain ⟨a1, a2⟩ := ih2 hd.2.2 _ _ _ _ h7 hp2 hh
    obtain ⟨b1, b2⟩ := ih1 hd.2.1 _ _ _ _ (RS_lo t1 _ _ h5 (by omega : lo ≤ b + 1)) hp1 (by omega)
    have hs := std_of h3 (h4 rfl).1 hd.1
    have ho : zI S 11 b = Int32.ofNat (bts fun p => soc (Dd f c q) p || occ (Dd f c) t1 p) := by
      rw [(h4 rfl).2, Int32.or_zero, soc_b hd.1, ocf_b t1 p1 hd.2.1, o32, bts_or]
    exact ⟨⟨b, rfl, ⟨(ztg_lt h3).1, by omega⟩, hs, (h4 rfl).1.1, ho, b1, a1⟩, ⟨b, rfl, ⟨h2, (ztg_lt h3).1, by omega⟩, hs, (h4 rfl).1.1, b2, h6, a2⟩⟩) (fun q i j t1 t2 r _ _ p1 p2 pr ih1 ih2 ih3 hd v lo l h hr hp hh => by
    unfold RS at hr
    obtain ⟨b, rfl, h2, h3, h4, h5, h6, h7⟩ := hr
    obtain ⟨hl, m, m2, hp1, hp2, hp3⟩ := hp
    have hq1 := PI_hi t1 p1 _ _ hp1
    have hq2 := PI_hi t2 p2 _ _ hp2
    have hq3 := PI_hi r pr _ _ hp3
    obtain ⟨a1, a2⟩ := ih3 hd.2.2.2 _ _ _ _ h7 hp3 hh
    obtain ⟨b1, b2⟩ := ih1 hd.2.1 _ _ _ _ (RS_lo t1 _ _ h5 (by omega : lo ≤ b + 1)) hp1 (by omega)
    obtain ⟨c1, c2⟩ := ih2 hd.2.2.1 _ _ _ _ (RS_lo t2 _ _ h6 (by omega : lo ≤ b + 1)) hp2 (by omega)
    have hs := std_of h3 (h4 rfl).1 hd.1
    exact ⟨⟨b, rfl, ⟨(ztg_lt h3).1, by omega⟩, hs, (h4 rfl).1.1, b1, c1, a1⟩, ⟨b, rfl, ⟨h2, (ztg_lt h3).1, by omega⟩, hs, (h4 rfl).1.1, b2, c2, a2⟩⟩)
end SRO
