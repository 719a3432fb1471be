/-! THE MODEL'S EXCEPTIONS -/
def gxP (d : Nat → Int32) (N : Nat) : Nat → Bool
  | 0 => decide (0 < N)
  | k + 1 => if isL (d k) then gxP d N k else gxP d N k && (decide ((d k).toInt = 45) && decide (0 < k) && decide (k + 1 < N) && !decide ((d (k - 1)).toInt = 45))
theorem gxP_iff {d : Nat → Int32} {N n : Nat} : gxP d N n = true ↔ 0 < N ∧ ∀ k, k < n → isL (d k) = true ∨ (d k = 45 ∧ 0 < k ∧ k + 1 < N ∧ d (k - 1) ≠ 45) := by
  induction n with
  | zero => simp [gxP]
  | succ n ih =>
    simp only [gxP]
    by_cases hl : isL (d n) = true
    · rw [if_pos hl, ih]
      exact ⟨fun ⟨h1, h2⟩ => ⟨h1, lt_S h2 (Or.inl hl)⟩, fun ⟨h1, h2⟩ => ⟨h1, fun k hk => h2 k (by omega)⟩⟩
    · rw [if_neg hl]
      simp only [Bool.and_eq_true, decide_eq_true_eq, ih, Bool.not_eq_true', decide_eq_false_iff_not]
      constructor
      · rintro ⟨⟨h1, h2⟩, ⟨⟨h3, h4⟩, h5⟩, h6⟩
        exact ⟨h1, lt_S h2 (Or.inr ⟨eq45_iff.mpr h3, h4, h5, fun z => h6 (eq45_iff.mp z)⟩)⟩
      · rintro ⟨h1, h2⟩
        rcases h2 n (by omega) with z | ⟨z1, z2, z3, z4⟩
        · exact absurd z hl
        · exact ⟨⟨h1, fun k hk => h2 k (by omega)⟩, ⟨⟨eq45_iff.mp z1, z2⟩, z3⟩, fun y => z4 (eq45_iff.mpr y)⟩
theorem gx_ok {d : Nat → Int32} {n : Nat} : xOk d n ↔ gxP d n n = true ∧ 1 ≤ xz d n ∧ xz d n ≤ 63 := by
  rw [gxP_iff]
  exact ⟨fun ⟨a, b, c, e⟩ => ⟨⟨a, b⟩, c, e⟩, fun ⟨⟨a, b⟩, c, e⟩ => ⟨a, b, c, e⟩⟩
def cuX (d : Nat → Int32) : Nat → Int64
  | 0 => 0
  | k + 1 => if isL (d k) then cuX d k else if xz d k < 64 then cuX d k ||| (1 <<< ((nI (xz d k)).toInt64 &&& 63)) else cuX d k
theorem cu_l {d : Nat → Int32} {k : Nat} (h : isL (d k) = true) : cuX d (k + 1) = cuX d k := by simp [cuX, h]
theorem cu_h {d : Nat → Int32} {k : Nat} (h : isL (d k) = false) (h2 : xz d k < 64) : cuX d (k + 1) = cuX d k ||| (1 <<< ((nI (xz d k)).toInt64 &&& 63)) := by simp [cuX, h, h2]
theorem cu_m {d : Nat → Int32} {k : Nat} (h : isL (d k) = false) (h2 : ¬ xz d k < 64) : cuX d (k + 1) = cuX d k := by simp [cuX, h, h2]
theorem xhy_hi {d : Nat → Int32} {k j : Nat} (h : xz d k < j) : xhy d k j = false := by
  induction k with
  | zero => rfl
  | succ k ih =>
    simp only [xhy]
    by_cases hl : isL (d k) = true
    · simp only [xz, hl, if_true] at h ⊢
      exact ih (by omega)
    · simp only [xz, hl] at h ⊢
      simp only [Bool.false_eq_true, if_false] at h ⊢
      rw [if_neg (by omega)]
      exact ih h
theorem xhy_top {d : Nat → Int32} {k : Nat} (h : k = 0 ∨ isL (d (k - 1)) = true) : xhy d k (xz d k) = false := by
  cases k with
  | zero => rfl
  | succ k =>
    have hl : isL (d k) = true := by
      rcases h with z | z
      · omega
      · exact z
    simp only [xhy, xz, hl, if_true]
    exact xhy_hi (by omega)
theorem cu_cut {d : Nat → Int32} {n : Nat} (h : ∀ k, k < n → isL (d k) = true ∨ (d k = 45 ∧ 0 < k ∧ isL (d (k - 1)) = true)) (hz : xz d n ≤ 63) : ∀ k, k ≤ n → cuX d k = cutN (xhy d k) (xz d k + 1) := by
  intro k
  induction k with
  | zero => intro _; rfl
  | succ k ih =>
    intro hk
    have ih := ih (by omega)
    have hzk : xz d k ≤ xz d n := xz_mono (by omega)
    by_cases hl : isL (d k) = true
    · have e : xz d (k + 1) = xz d k + 1 := by simp [xz, hl]
      rw [cu_l hl, ih, e]
      have e2 : xhy d (k + 1) = xhy d k := by simp [xhy, hl]
      rw [e2]
      exact (cutN_more (by omega) (fun j h1 h2 => xhy_hi (by omega))).symm
    · have hl2 : isL (d k) = false := by simpa using hl
      have e : xz d (k + 1) = xz d k := by simp [xz, hl2]
      have hp : isL (d (k - 1)) = true := by
        rcases h k (by omega) with z | ⟨z1, z2, z3⟩
        · exact absurd z hl
        · exact z3
      have e3 : cutN (xhy d k) (xz d k + 1) = cutN (xhy d k) (xz d k) := by
        have := xhy_top (d := d) (k := k) (Or.inr hp)
        simp [cutN, this]
      have e4 : cutN (xhy d (k + 1)) (xz d k) = cutN (xhy d k) (xz d k) := cutN_ext (fun j hj => by
        simp only [xhy, hl2]
        simp only [Bool.false_eq_true, if_false]
        rw [if_neg (by omega)])
      have e5 : xhy d (k + 1) (xz d k) = true := by simp [xhy, hl2]
      rw [cu_h hl2 (by omega), ih, e, e3]
      show _ = (if xhy d (k + 1) (xz d k) then _ else _)
      rw [if_pos e5, e4]
theorem cu_end {d : Nat → Int32} {n : Nat} (h : xOk d n) : cuX d n = cutN (xhy d n) 64 := by
  have h2 := xOk_iff.mp h
  have hz := h.2.2.2
  rw [cu_cut h2.2.1 hz n (Nat.le_refl _)]
  exact (cutN_more (by omega) (fun j h1 h2 => xhy_hi (by omega))).symm
/-- what lies behind the last exception's letters -/
def xlF (d : Nat → Int32) (i a : Nat) (f : Nat → Int32) : Prop := ∀ j, j < xz d i → j < 64 → f (a + j) = xsg d i j
theorem xl_w {d f : Nat → Int32} {i a : Nat} (h : xlF d i a f) (hl : isL (d i) = true) : xlF d (i + 1) a (upd f (a + xz d i) (d i)) := by
  intro j h1 h2
  have e : xz d (i + 1) = xz d i + 1 := by simp [xz, hl]
  have e2 : xsg d (i + 1) = upd (xsg d i) (xz d i) (d i) := by simp [xsg, hl]
  rw [e2]
  by_cases hj : j = xz d i
  · subst hj
    rw [upd_self, upd_self]
  · rw [upd_ne (by omega), upd_ne hj]
    exact h j (by omega) h2
theorem xl_n {d f : Nat → Int32} {i a : Nat} (h : xlF d i a f) (hl : isL (d i) = true) (hz : 64 ≤ xz d i) : xlF d (i + 1) a f := by
  intro j h1 h2
  have e2 : xsg d (i + 1) = upd (xsg d i) (xz d i) (d i) := by simp [xsg, hl]
  rw [e2, upd_ne (by omega)]
  exact h j (by omega) h2
theorem xl_h {d f : Nat → Int32} {i a : Nat} (h : xlF d i a f) (hl : isL (d i) = false) : xlF d (i + 1) a f := by
  intro j h1 h2
  have e : xz d (i + 1) = xz d i := by simp [xz, hl]
  have e2 : xsg d (i + 1) = xsg d i := by simp [xsg, hl]
  rw [e2]
  exact h j (by omega) h2
