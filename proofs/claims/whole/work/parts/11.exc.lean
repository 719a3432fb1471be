/-! EXCEPTIONS: what makes a draft one -/
theorem isL_45 : isL 45 = false := by decide
theorem xz_mono {d : Nat → Int32} {k n : Nat} (h : k ≤ n) : xz d k ≤ xz d n := by
  induction n with
  | zero => obtain rfl : k = 0 := by omega
            exact Nat.le_refl _
  | succ n ih =>
    rcases Nat.lt_or_ge n k with q | q
    · obtain rfl : k = n + 1 := by omega
      exact Nat.le_refl _
    · have := ih q
      simp only [xz]
      split <;> omega
theorem xz_le (d : Nat → Int32) (n : Nat) : xz d n ≤ n := by
  induction n with
  | zero => exact Nat.le_refl _
  | succ n ih => simp only [xz]; split <;> omega
theorem xOk_iff {d : Nat → Int32} {n : Nat} : xOk d n ↔ (0 < n ∧ (∀ k, k < n → isL (d k) = true ∨ (d k = 45 ∧ 0 < k ∧ isL (d (k - 1)) = true)) ∧ isL (d (n - 1)) = true ∧ xz d n ≤ 63) := by
  constructor
  · rintro ⟨h0, h1, h2, h3⟩
    refine ⟨h0, fun k hk => ?_, ?_, h3⟩
    · rcases h1 k hk with z | ⟨z1, z2, z3, z4⟩
      · exact Or.inl z
      · refine Or.inr ⟨z1, z2, ?_⟩
        rcases h1 (k - 1) (by omega) with y | y
        · exact y
        · exact absurd y.1 z4
    · rcases h1 (n - 1) (by omega) with z | ⟨z1, z2, z3, z4⟩
      · exact z
      · omega
  · rintro ⟨h0, h1, h2, h3⟩
    refine ⟨h0, fun k hk => ?_, ?_, h3⟩
    · rcases h1 k hk with z | ⟨z1, z2, z3⟩
      · exact Or.inl z
      · refine Or.inr ⟨z1, z2, ?_, fun y => ?_⟩
        · rcases Nat.lt_or_ge (k + 1) n with q | q
          · exact q
          · obtain rfl : k = n - 1 := by omega
            rw [z1, isL_45] at h2
            cases h2
        · rw [y, isL_45] at z3
          cases z3
    · have e : xz d (n - 1 + 1) ≤ xz d n := xz_mono (by omega)
      simp only [xz, h2, if_true] at e
      omega
theorem xsg_at {d : Nat → Int32} {k n : Nat} (h : k < n) (hl : isL (d k) = true) : xsg d n (xz d k) = d k := by
  induction n with
  | zero => omega
  | succ n ih =>
    rcases Nat.lt_or_ge k n with q | q
    · simp only [xsg]
      split
      · have h1 : xz d (k + 1) ≤ xz d n := xz_mono q
        have h2 : xz d (k + 1) = xz d k + 1 := by simp [xz, hl]
        rw [upd_ne (by omega)]
        exact ih q
      · exact ih q
    · obtain rfl : k = n := by omega
      simp only [xsg, hl, if_true]
      exact upd_self
theorem xsg_L {d : Nat → Int32} {n j : Nat} (h : j < xz d n) : isL (xsg d n j) = true := by
  induction n with
  | zero => simp [xz] at h
  | succ n ih =>
    by_cases hl : isL (d n) = true
    · simp only [xz, hl, if_true] at h
      simp only [xsg, hl, if_true]
      by_cases hj : j = xz d n
      · subst hj; rw [upd_self]; exact hl
      · rw [upd_ne hj]; exact ih (by omega)
    · have hl : isL (d n) = false := by simpa using hl
      simp only [xz, hl] at h
      simp only [xsg, hl]
      exact ih (by simpa using h)
