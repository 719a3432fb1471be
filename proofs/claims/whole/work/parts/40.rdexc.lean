/-! reading an exception, a word -/
def blt (d : Nat → Int32) (i : Nat) : Bool := decide (0 < i) && isL (d (i - 1))
theorem blt_s (d : Nat → Int32) (i : Nat) : blt d (i + 1) = isL (d i) := by simp [blt]
theorem blt_0 (d : Nat → Int32) : blt d 0 = false := by simp [blt]
/-- 1 at each place that a hyphen stands at -/
def xnm (d : Nat → Int32) : Nat → Nat → Int32
  | 0 => fun _ => 0
  | k + 1 => if isL (d k) then xnm d k else upd (xnm d k) (1 + xz d k) 1
theorem xnm_hy (d : Nat → Int32) (n j : Nat) : xnm d n (j + 1) = if xhy d n j then 1 else 0 := by
  induction n with
  | zero => simp [xnm, xhy]
  | succ n ih =>
    simp only [xnm, xhy]
    by_cases hl : isL (d n) = true
    · simp only [hl, if_true]; exact ih
    · have hl : isL (d n) = false := by simpa using hl
      simp only [hl, Bool.false_eq_true, if_false]
      by_cases hj : j = xz d n
      · subst hj
        rw [show xz d n + 1 = 1 + xz d n by omega, upd_self]
        simp
      · rw [upd_ne (by omega), ih]
        simp [hj]
def xPc (d : Nat → Int32) (k : Nat) : Prop := isL (d k) = true ∨ (d k = 45 ∧ 0 < k ∧ isL (d (k - 1)) = true)
theorem rx_S {d : Nat → Int32} {i : Nat} (h : ∀ k, k < i → xPc d k) (hi : xPc d i) : ∀ k, k < i + 1 → xPc d k := by
  intro k hk
  by_cases hki : k = i
  · subst hki; exact hi
  · exact h k (by omega)
theorem blt_iff {d : Nat → Int32} {i : Nat} : blt d i = true ↔ 0 < i ∧ isL (d (i - 1)) = true := by simp [blt]
theorem rx_bad {d : Nat → Int32} {n i : Nat} (hi : i < n) (h1 : isL (d i) = false) (h2 : (d i).toInt ≠ 45 ∨ blt d i = false) : ¬ xOk d n := by
  intro h
  obtain ⟨-, h3, -⟩ := xOk_iff.mp h
  rcases h3 i hi with z | ⟨z1, z2⟩
  · rw [h1] at z; cases z
  · rcases h2 with q | q
    · exact q (eq45_iff.mp z1)
    · rw [blt_iff.mpr z2] at q; cases q
theorem rx_long {d : Nat → Int32} {n i : Nat} (hi : i < n) (h1 : isL (d i) = true) (h2 : 65 ≤ xz d i + 1) : ¬ xOk d n := by
  intro h
  have h3 := h.2.2.2
  have h4 : xz d (i + 1) ≤ xz d n := xz_mono hi
  have h5 : xz d (i + 1) = xz d i + 1 := by simp [xz, h1]
  omega
theorem rx_end {d : Nat → Int32} {n : Nat} (h : blt d n = false) : ¬ xOk d n := by
  intro h1
  obtain ⟨h2, -, h3, -⟩ := xOk_iff.mp h1
  rw [blt_iff.mpr ⟨h2, h3⟩] at h
  cases h
theorem rx_ok {d : Nat → Int32} {n : Nat} (h : ∀ k, k < n → xPc d k) (h1 : blt d n = true) (h2 : xz d n ≤ 63) : xOk d n := xOk_iff.mpr ⟨(blt_iff.mp h1).1, h, (blt_iff.mp h1).2, h2⟩
/-- what was read: an edge, and the letters so far -/
def rxf (d : Nat → Int32) (i : Nat) (f : Nat → Int32) : Prop := f 0 = 46 ∧ ∀ j, j < xz d i → f (j + 1) = xsg d i j
theorem rx_app {d f : Nat → Int32} {i : Nat} (hf : rxf d i f) (h1 : isL (d i) = true) : rxf d (i + 1) (upd f (xz d i + 1) (d i)) := by
  refine ⟨by rw [upd_ne (by omega)]; exact hf.1, fun j hj => ?_⟩
  have h5 : xz d (i + 1) = xz d i + 1 := by simp [xz, h1]
  simp only [xsg, h1, if_true]
  by_cases hji : j = xz d i
  · subst hji; rw [upd_self, upd_self]
  · rw [upd_ne (by omega), upd_ne hji]; exact hf.2 j (by omega)
theorem rx_hy {d f : Nat → Int32} {i : Nat} (hf : rxf d i f) (h1 : isL (d i) = false) : rxf d (i + 1) f := by
  refine ⟨hf.1, fun j hj => ?_⟩
  have h5 : xz d (i + 1) = xz d i := by simp [xz, h1]
  simp only [xsg, h1, Bool.false_eq_true, if_false]
  exact hf.2 j (by omega)
theorem rx_row {d f : Nat → Int32} {n : Nat} (hf : rxf d n f) : ag (upd f (xz d n + 1) 46) (wrow (xsg d n) (xz d n)) (xz d n + 2) := by
  intro j hj
  unfold wrow
  by_cases h0 : j = 0
  · subst h0; rw [upd_ne (by omega), if_pos rfl]; exact hf.1
  · rw [if_neg h0]
    by_cases h1 : j ≤ xz d n
    · rw [if_pos h1, upd_ne (by omega)]
      have := hf.2 (j - 1) (by omega)
      rw [Nat.sub_add_cancel (by omega)] at this
      exact this
    · have e : j = xz d n + 1 := by omega
      rw [if_neg h1, if_pos e, e, upd_self]
theorem ap_t {b : Bool} {sz : Nat} {P : Prop} {Q : Prop} (hbt : b = true → P) (hbf : b = false → 65 ≤ sz ∧ Q) (h : sz < 65) : P := hbt (by
  cases b with
  | true => rfl
  | false => have := (hbf rfl).1; omega)
/-- a word's row as it is copied -/
def wcf (d : Nat → Int32) (i : Nat) (f : Nat → Int32) : Prop := f 0 = 46 ∧ ∀ j, j < i → f (j + 1) = d j
theorem wc_app {d f : Nat → Int32} {i : Nat} (hf : wcf d i f) : wcf d (i + 1) (upd f (i + 1) (d i)) := by
  refine ⟨by rw [upd_ne (by omega)]; exact hf.1, fun j hj => ?_⟩
  by_cases hji : j = i
  · subst hji; rw [upd_self]
  · rw [upd_ne (by omega)]; exact hf.2 j (by omega)
theorem wc_row {d f : Nat → Int32} {n : Nat} (hf : wcf d n f) : ag (upd f (n + 1) 46) (wrow d n) (n + 2) := by
  intro j hj
  unfold wrow
  by_cases h0 : j = 0
  · subst h0; rw [upd_ne (by omega), if_pos rfl]; exact hf.1
  · rw [if_neg h0]
    by_cases h1 : j ≤ n
    · rw [if_pos h1, upd_ne (by omega)]
      have := hf.2 (j - 1) (by omega)
      rw [Nat.sub_add_cancel (by omega)] at this
      exact this
    · have e : j = n + 1 := by omega
      rw [if_neg h1, if_pos e, e, upd_self]
