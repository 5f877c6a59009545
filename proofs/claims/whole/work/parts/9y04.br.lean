def DA (Q : Nat → Prop) : Fo → Prop
  | .append (.tag P (.append (.tag _ t1) (.append (.tag _ t2) .nil))) r => Q P ∧ DA Q t1 ∧ DA Q t2 ∧ DA Q r
  | .append (.tag P (.append (.tag _ t1) .nil)) r => Q P ∧ DA Q t1 ∧ DA Q r
  | .append (.tag P .nil) r => Q P ∧ DA Q r
  | _ => True
section RO
variable {f : Nat → Int32} {g : Nat → Nat} {c d : Nat} {D : Nat → Nat}
theorem PI_lo : ∀ (t : Fo), PW D t → ∀ lo hi l2, PI t lo hi → l2 ≤ lo → PI t l2 hi := PW_ind (fun lo hi l2 h hl => Nat.le_trans hl h) (fun q r _ _ _ lo hi l2 h hl => ⟨Nat.le_trans hl h.1, h.2⟩) (fun q j t1 r _ _ _ _ _ _ lo hi l2 h hl => ⟨Nat.le_trans hl h.1, h.2⟩) (fun q j1 j2 t1 t2 r _ _ _ _ _ _ _ _ lo hi l2 h hl => ⟨Nat.le_trans hl h.1, h.2⟩)
theorem PI_hi : ∀ (t : Fo), PW D t → ∀ lo hi, PI t lo hi → lo ≤ hi := PW_ind (fun lo hi h => h) (fun q r _ _ ih lo hi h => by have := ih _ _ h.2; have := h.1; omega) (fun q j t1 r _ _ _ _ ih1 ih2 lo hi h => by
    obtain ⟨h1, m, h2, h3⟩ := h
    have := ih1 _ _ h2
    have := ih2 _ _ h3
    omega) (fun q j1 j2 t1 t2 r _ _ _ _ _ ih1 ih2 ih3 lo hi h => by
    obtain ⟨h1, m1, m2, h2, h3, h4⟩ := h
    have := ih1 _ _ h2
    have := ih2 _ _ h3
    have := ih3 _ _ h4
    omega)
end RO
