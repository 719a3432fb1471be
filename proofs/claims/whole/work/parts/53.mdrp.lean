/-! THE MODEL'S READING OF PATTERNS -/
def gdP (d : Nat → Int32) : Nat → Bool
  | 0 => true
  | k + 1 => gdP d k && ((isL (d k) || isDg (d k) || decide ((d k).toInt = 46)) && !(decide (0 < k) && isDg (d k) && isDg (d (k - 1))))
def gqP (d : Nat → Int32) (N : Nat) : Nat → Bool
  | 0 => true
  | k + 1 => if isDg (d k) then gqP d N k else gqP d N k && (decide (¬ (d k).toInt = 46) || decide (pz d k = 0) || decide (pz d k + 1 = pz d N))
theorem gdP_iff {d : Nat → Int32} {n : Nat} : gdP d n = true ↔ (∀ k, k < n → isL (d k) = true ∨ isDg (d k) = true ∨ d k = 46) ∧ (∀ k, k + 1 < n → ¬ (isDg (d k) = true ∧ isDg (d (k + 1)) = true)) := by
  induction n with
  | zero => exact ⟨fun _ => ⟨fun k h => absurd h (by omega), fun k h => absurd h (by omega)⟩, fun _ => rfl⟩
  | succ n ih =>
    simp only [gdP, Bool.and_eq_true, Bool.or_eq_true, decide_eq_true_eq, ih, Bool.not_eq_true']
    constructor
    · rintro ⟨⟨h1, h2⟩, h3, h4⟩
      refine ⟨lt_S h1 ?_, fun k hk => ?_⟩
      · rcases h3 with (h3 | h3) | h3
        · exact Or.inl h3
        · exact Or.inr (Or.inl h3)
        · exact Or.inr (Or.inr (eq46_iff.mpr h3))
      · rcases Nat.lt_or_ge (k + 1) n with q | q
        · exact h2 k q
        · obtain rfl : n = k + 1 := by omega
          rintro ⟨z1, z2⟩
          rw [Nat.add_sub_cancel, z1, z2] at h4
          simp at h4
    · rintro ⟨h1, h2⟩
      refine ⟨⟨fun k hk => h1 k (by omega), fun k hk => h2 k (by omega)⟩, ?_, ?_⟩
      · rcases h1 n (by omega) with z | z | z
        · exact Or.inl (Or.inl z)
        · exact Or.inl (Or.inr z)
        · exact Or.inr (eq46_iff.mp z)
      · by_cases h0 : 0 < n
        · have := h2 (n - 1) (by omega)
          rw [show n - 1 + 1 = n by omega] at this
          cases h5 : isDg (d n) with
          | false => simp
          | true =>
            cases h6 : isDg (d (n - 1)) with
            | false => simp
            | true => exact absurd ⟨h6, h5⟩ this
        · simp [h0]
theorem gqP_iff {d : Nat → Int32} {N n : Nat} : gqP d N n = true ↔ ∀ k, k < n → d k = 46 → pz d k = 0 ∨ pz d k + 1 = pz d N := by
  induction n with
  | zero => exact ⟨fun _ k h => absurd h (by omega), fun _ => rfl⟩
  | succ n ih =>
    simp only [gqP]
    by_cases hd : isDg (d n) = true
    · rw [if_pos hd, ih]
      refine ⟨fun h => lt_S h (fun z => ?_), fun h k hk => h k (by omega)⟩
      rw [z, dg_46] at hd
      cases hd
    · rw [if_neg hd]
      simp only [Bool.and_eq_true, Bool.or_eq_true, decide_eq_true_eq, ih]
      constructor
      · rintro ⟨h1, h2⟩
        refine lt_S h1 (fun z => ?_)
        rcases h2 with (h2 | h2) | h2
        · exact absurd (eq46_iff.mp z) h2
        · exact Or.inl h2
        · exact Or.inr h2
      · intro h
        refine ⟨fun k hk => h k (by omega), ?_⟩
        by_cases h46 : (d n).toInt = 46
        · rcases h n (by omega) (eq46_iff.mpr h46) with z | z
          · exact Or.inl (Or.inr z)
          · exact Or.inr z
        · exact Or.inl (Or.inl h46)
theorem bl_upd {f f0 : Nat → Int32} {b i : Nat} {v : Int32} (h : ∀ j, j < b → f j = f0 j) (hi : b ≤ i) : ∀ j, j < b → upd f i v j = f0 j := fun j hj => by
  rw [upd_ne (by omega)]
  exact h j hj
theorem sg_S {f h0 : Nat → Int32} {a n n' : Nat} {v : Int32} (e : n' = n + 1) (h : ∀ j, j < n → f (a + j) = h0 j) (hv : v = h0 n) : ∀ j, j < n' → upd f (a + n) v (a + j) = h0 j := by
  subst e
  refine lt_S (fun j hj => ?_) ?_
  · rw [upd_ne (by omega)]
    exact h j hj
  · rw [upd_self]
    exact hv
theorem pz_plt {d : Nat → Int32} {n : Nat} (h : gdP d n = true) (h1 : 1 ≤ plt d n) : 1 ≤ pz d n ∧ 1 ≤ n := by
  have e := pz_sum (gdP_iff.mp h).1
  have := pz_le d n
  omega
theorem num_y {d : Nat → Int32} {i n : Nat} (hi : i < n) (hd : isDg (d i) = false) (h0 : 0 < i) (h1 : isDg (d (i - 1)) = true) : d (i - 1) - 48 = pnm d n (pz d i) := by
  rw [pnm_at hi hd, pnm_top, if_pos ⟨h0, h1⟩]
theorem num_n {d : Nat → Int32} {i n : Nat} (hi : i < n) (hd : isDg (d i) = false) (h1 : ¬ (0 < i ∧ isDg (d (i - 1)) = true)) : 0 = pnm d n (pz d i) := by
  rw [pnm_at hi hd, pnm_top, if_neg h1]
theorem rN {f g g1 g2 d : Nat → Int32} {a b n : Nat} (h1 : 1 ≤ pz d n) (hf : ∀ j, j < pz d n → f (a + j) = psg d n j) (hg : ∀ j, j < pz d n + 1 → g (b + j) = pnm d n j)
    (c1 : ((f a).toInt ≠ 46 ∧ g1 = g) ∨ ((f a).toInt = 46 ∧ g1 = upd g b 0)) (c2 : ((f (a + pz d n - 1)).toInt ≠ 46 ∧ g2 = g1) ∨ ((f (a + pz d n - 1)).toInt = 46 ∧ g2 = upd g1 (b + pz d n) 0)) : ∀ j, j < pz d n + 1 → g2 (b + j) = pN d n j := by
  have e0 : f a = psg d n 0 := hf 0 (by omega)
  have e1 : f (a + pz d n - 1) = psg d n (pz d n - 1) := by
    have := hf (pz d n - 1) (by omega)
    rwa [show a + (pz d n - 1) = a + pz d n - 1 by omega] at this
  have k1 : ∀ j, j < pz d n + 1 → g1 (b + j) = pN1 d n j := by
    intro j hj
    rcases c1 with ⟨z, rfl⟩ | ⟨z, rfl⟩
    · rw [e0] at z
      rw [pN1, if_neg (fun y => z (eq46_iff.mp y))]
      exact hg j hj
    · rw [e0] at z
      rw [pN1, if_pos (eq46_iff.mpr z)]
      by_cases hj0 : j = 0
      · subst hj0
        rw [Nat.add_zero, upd_self, upd_self]
      · rw [upd_ne (by omega), upd_ne hj0]
        exact hg j hj
  intro j hj
  rcases c2 with ⟨z, rfl⟩ | ⟨z, rfl⟩
  · rw [e1] at z
    rw [pN, if_neg (fun y => z (eq46_iff.mp y))]
    exact k1 j hj
  · rw [e1] at z
    rw [pN, if_pos (eq46_iff.mpr z)]
    by_cases hj0 : j = pz d n
    · subst hj0
      rw [upd_self, upd_self]
    · rw [upd_ne (by omega), upd_ne hj0]
      exact k1 j hj
