/-! one call's effect on the state, seen from both sides -/
def unX (X : List rwT) : Prop := ∀ (e e2 : Nat) (r r2 : rwT), X[e]? = some r → X[e2]? = some r2 → sm r2 r.1 r.2.1 → e = e2
theorem unX.app {X : List rwT} {m : Nat} {f g : Nat → Int32} (h : unX X) (hn : ∀ r ∈ X, ¬ sm r m f) : unX (X ++ [(m, f, g)]) := by
  have key : ∀ e r, (X ++ [(m, f, g)])[e]? = some r → (e < X.length ∧ X[e]? = some r) ∨ (e = X.length ∧ r = (m, f, g)) := by
    intro e r hr
    rcases Nat.lt_or_ge e X.length with q | q
    · rw [List.getElem?_append_left q] at hr
      exact Or.inl ⟨q, hr⟩
    · rw [List.getElem?_append_right q] at hr
      have hp : e = X.length := by
        have := (List.getElem?_eq_some_iff.mp hr).1
        simp at this
        omega
      subst hp
      rw [Nat.sub_self] at hr
      cases hr
      exact Or.inr ⟨rfl, rfl⟩
  intro e e2 r r2 h1 h2 hs
  rcases key e r h1 with ⟨a1, a2⟩ | ⟨a1, a2⟩ <;> rcases key e2 r2 h2 with ⟨b1, b2⟩ | ⟨b1, b2⟩
  · exact h e e2 r r2 a2 b2 hs
  · subst b2
    refine absurd ⟨hs.1.symm, ?_⟩ (hn r (List.mem_of_getElem? a2))
    have := hs.2.sm
    rw [← hs.1] at this
    exact this
  · subst a2
    exact absurd hs (hn r2 (List.mem_of_getElem? b2))
  · omega
theorem unX.set {X : List rwT} {m e0 : Nat} {f g : Nat → Int32} {r0 : rwT} (h : unX X) (he : X[e0]? = some r0) (h0 : sm r0 m f) : unX (X.set e0 (m, f, g)) := by
  have hl := (List.getElem?_eq_some_iff.mp he).1
  have key : ∀ (e : Nat) (r : rwT), (X.set e0 (m, f, g))[e]? = some r → ∃ r' : rwT, X[e]? = some r' ∧ r'.1 = r.1 ∧ ag r'.2.1 r.2.1 r.1 := by
    intro e r hr
    by_cases hee : e0 = e
    · subst hee
      rw [List.getElem?_set_self hl] at hr
      cases hr
      exact ⟨r0, he, h0.1, h0.2⟩
    · rw [List.getElem?_set_ne hee] at hr
      exact ⟨r, hr, rfl, ag.rf⟩
  intro e e2 r r2 h1 h2 hs
  obtain ⟨a, a1, a2, a3⟩ := key e r h1
  obtain ⟨b, b1, b2, b3⟩ := key e2 r2 h2
  refine h e e2 a b a1 b1 ⟨by rw [b2, hs.1, a2], ?_⟩
  rw [a2]
  have b3' : ag b.2.1 r2.2.1 r.1 := by rw [← hs.1]; exact b3
  exact (b3'.tr hs.2).tr a3.sm
theorem unE.app {E : List rwT} {m : Nat} {f g : Nat → Int32} (h : unE E) (hn : ∀ r ∈ E, ¬ sm r m f) : unE (E ++ [(m, f, g)]) := by
  intro r hr r2 hr2 h1 h2
  rcases List.mem_append.mp hr with a | a <;> rcases List.mem_append.mp hr2 with b | b
  · exact h r a r2 b h1 h2
  · rw [List.mem_singleton] at b
    subst b
    exact absurd ⟨h1, by rw [h1] at h2; exact h2⟩ (hn r a)
  · rw [List.mem_singleton] at a
    subst a
    exact absurd ⟨h1.symm, h2.sm⟩ (hn r2 b)
  · rw [List.mem_singleton] at a b
    subst a
    subst b
    exact fun _ _ => rfl
theorem xnm_01 (d : Nat → Int32) (n j : Nat) : xnm d n j = 0 ∨ xnm d n j = 1 := by
  cases j with
  | succ j =>
    rw [xnm_hy]
    cases xhy d n j
    · exact Or.inl rfl
    · exact Or.inr rfl
  | zero =>
    induction n with
    | zero => exact Or.inl rfl
    | succ n ih =>
      simp only [xnm]
      split
      · exact ih
      · rw [upd_ne (by omega)]
        exact ih
theorem xnm_cut (d : Nat → Int32) (n : Nat) : cutN (xhy d n) 64 = cutN (fun j => decide ((xnm d n (j + 1)).toInt = 1)) 64 := cutN_ext (fun j _ => by
  rw [xnm_hy]
  cases xhy d n j <;> decide)
theorem odd_and {x : Int32} (h0 : 0 ≤ x) (h9 : x.toInt ≤ 9) : (x - x / 2 * 2).toInt = 1 ↔ (x &&& 1).toInt = 1 := by
  have e0 : (0 : Int32).toInt = 0 := by decide
  rw [i32_le, e0] at h0
  obtain ⟨j, hj, rfl⟩ := nI_ex h0
  rw [nI_toInt hj] at h9
  have key : ∀ j : Nat, j < 10 → ((nI j - nI j / 2 * 2).toInt = 1 ↔ (nI j &&& 1).toInt = 1) := by decide
  exact key j (by omega)
theorem bit_01 {x : Int32} (h : x = 0 ∨ x = 1) : x.toInt = 1 ↔ (x &&& 1).toInt = 1 := by
  rcases h with rfl | rfl <;> decide
/-- the values: what the class raises and what the model raises -/
theorem wd_set {P : List rwT} {fb fs fn fr w : Nat → Int32} {o : Nat → Nat} {N pl : Nat} {x : Int32} (h : mdp P fb fs fn o) (h1 : ∀ r ∈ P, 1 ≤ r.1) (hr : ∀ j, j < N → fr j = w j) : (∃ i, i < N ∧ ctr P w N i N pl x) ↔ wT o fs fn fr N P.length 0 pl x := by
  constructor
  · rintro ⟨i, hi, r, a1, a2, a3, a4, a5, a6, a7, a8⟩
    obtain ⟨q, hq⟩ := List.getElem?_of_mem a1
    obtain ⟨k1, k2, k3⟩ := h.2.2 q r hq
    refine ⟨q, i, Or.inl (h.up hq).1, by omega, fun j hj => ?_, pl - i, by omega, by omega, ?_⟩
    · rw [k2 j (by omega), hr (i + j) (by omega)]
      exact a5 j (by omega)
    · rw [k3 (pl - i) (by omega)]
      exact a8
  · rintro ⟨q, i, hq, b1, b2, j, b3, b4, b5⟩
    have hq : q < P.length := by omega
    have hg := List.getElem?_eq_getElem hq
    obtain ⟨k1, k2, k3⟩ := h.2.2 q _ hg
    have h1' := h1 _ (List.mem_of_getElem? hg)
    refine ⟨i, by omega, P[q], List.mem_of_getElem? hg, h1', by omega, by omega, fun k hk => ?_, by omega, by omega, ?_⟩
    · rw [← k2 k hk, b2 k (by omega), hr (i + k) (by omega)]
    · rw [b5, b4, show i + j - i = j by omega, k3 j (by omega)]
theorem wd_9 {P : List rwT} {S : Nat → Int32 → Prop} {N : Nat} {v : Nat → Int32} (h : vMax S N v) (hS : ∀ pl x, S pl x → x.toInt ≤ 9) : ∀ j, j ≤ N → 0 ≤ v j ∧ (v j).toInt ≤ 9 := by
  intro j hj
  obtain ⟨-, h2, h3⟩ := h j hj
  refine ⟨h3, ?_⟩
  rcases h2 with z | z
  · rw [z]; decide
  · exact hS _ _ z
/-- the cuts -/
theorem wd_cut {lf rt n nx e9 : Nat} {w v : Nat → Int32} {fp : Nat → Int64} (hl : 1 ≤ lf) (hr : 1 ≤ rt) (hn : n ≤ 63) (h : ∀ j, 1 ≤ j → j < n → ((w (j + 1) &&& 1).toInt = 1 ↔ mbF nx e9 fp v j = true)) : cutN (cutQ lf rt n w) 64 = cutN (cuW lf rt n (mbF nx e9 fp v)) 64 := by
  refine cutN_ext (fun j hj => ?_)
  by_cases h1 : lf ≤ j
  · by_cases h2 : j + rt ≤ n
    · have := h j (by omega) (by omega)
      cases hm : mbF nx e9 fp v j with
      | true => simp [cutQ, cuW, h1, h2, hm, this.mpr hm]
      | false =>
        have hno : ¬ (w (j + 1) &&& 1).toInt = 1 := fun z => by rw [this.mp z] at hm; cases hm
        simp [cutQ, cuW, h1, h2, hm, hno]
    · simp [cutQ, cuW, h2]
  · simp [cutQ, cuW, h1]
