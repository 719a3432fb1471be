theorem cmP_un {o : Nat → Nat} {f : Nat → Int32} {a m p k k2 : Nat} (h : cmP o f a m p k) (h2 : cmP o f a m p k2) : k = k2 := by
  have key : ∀ {k k2 : Nat}, cmP o f a m p k → cmP o f a m p k2 → ¬ k < k2 := by
    rintro k k2 ⟨h1, h2, h3, h4⟩ ⟨g1, g2, g3, g4⟩ hlt
    rcases h4 with z | z | z
    · omega
    · omega
    · exact z (g3 k hlt)
  have a1 := key h h2
  have a2 := key h2 h
  omega
def mxP (C : Nat → Nat → Prop) (p mo : Nat) : Prop := (mo = 0 ∨ ∃ q, q < p ∧ C q mo) ∧ ∀ q, q < p → ∀ k, C q k → k ≤ mo
theorem mx_0 {C : Nat → Nat → Prop} : mxP C 0 0 := ⟨Or.inl rfl, fun q h => absurd h (by omega)⟩
theorem mx_le {C : Nat → Nat → Prop} {p mo k9 : Nat} (h : mxP C p mo) (hu : ∀ k, C p k → k = k9) (hle : k9 ≤ mo) : mxP C (p + 1) mo := by
  refine ⟨h.1.imp id (fun ⟨q, a, b⟩ => ⟨q, by omega, b⟩), lt_S h.2 (fun k hk => ?_)⟩
  rw [hu k hk]
  exact hle
theorem mx_gt {C : Nat → Nat → Prop} {p mo k9 : Nat} (h : mxP C p mo) (hk : C p k9) (hu : ∀ k, C p k → k = k9) (hlt : mo < k9) : mxP C (p + 1) k9 := by
  refine ⟨Or.inr ⟨p, by omega, hk⟩, lt_S (fun q hq k hk => ?_) (fun k hk => ?_)⟩
  · have := h.2 q hq k hk
    omega
  · rw [hu k hk]
    exact Nat.le_refl _
theorem ex_S {P : Nat → Prop} {p : Nat} : (∃ q, q < p + 1 ∧ P q) ↔ (∃ q, q < p ∧ P q) ∨ P p := by
  constructor
  · rintro ⟨q, h1, h2⟩
    rcases Nat.lt_or_ge q p with z | z
    · exact Or.inl ⟨q, z, h2⟩
    · obtain rfl : q = p := by omega
      exact Or.inr h2
  · rintro (⟨q, h1, h2⟩ | h)
    · exact ⟨q, by omega, h2⟩
    · exact ⟨p, by omega, h⟩
