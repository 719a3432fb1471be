/-! PATTERNS: what makes a draft one -/
def ped (d : Nat → Int32) : Nat → Nat
  | 0 => 0
  | k + 1 => if d k = 46 then ped d k + 1 else ped d k
theorem not_both {b : Int32} (h : isL b = true) : isDg b = false ∧ b ≠ 46 := by
  rw [isL_iff] at h
  refine ⟨?_, ?_⟩
  · cases hd : isDg b with
    | false => rfl
    | true => rw [isDg_iff] at hd; omega
  · rw [Ne, eq46_iff]; omega
theorem dg_46 : isDg 46 = false := by decide
theorem isL_46 : isL 46 = false := by decide
theorem pz_sum {d : Nat → Int32} {n : Nat} (h : ∀ k, k < n → isL (d k) = true ∨ isDg (d k) = true ∨ d k = 46) : pz d n = plt d n + ped d n := by
  induction n with
  | zero => rfl
  | succ n ih =>
    have ih := ih (fun k hk => h k (by omega))
    simp only [pz, plt, ped]
    by_cases h1 : isL (d n) = true
    · obtain ⟨h2, h3⟩ := not_both h1
      simp [h1, h2, h3]; omega
    · have h1 : isL (d n) = false := by simpa using h1
      by_cases h4 : d n = 46
      · have h5 : isDg (d n) = false := by rw [h4]; exact dg_46
        simp [h1, h5, h4]
        rw [h4] at h1
        simp [isL_46, dg_46]; omega
      · have h5 : isDg (d n) = true := by
          rcases h n (by omega) with z | z | z
          · rw [h1] at z; cases z
          · exact z
          · exact absurd z h4
        simp [h1, h5, h4]; omega
theorem ped_le {d : Nat → Int32} {n M : Nat} (hM : 1 ≤ M) (h : ∀ k, k < n → d k = 46 → pz d k = 0 ∨ pz d k + 1 = M) : ped d n ≤ (if 1 ≤ pz d n then 1 else 0) + (if M ≤ pz d n then 1 else 0) := by
  induction n with
  | zero => simp [ped]
  | succ n ih =>
    have ih := ih (fun k hk => h k (by omega))
    simp only [ped, pz]
    by_cases h4 : d n = 46
    · have h5 : isDg (d n) = false := by rw [h4]; exact dg_46
      simp only [h4, if_true]
      rw [h4] at h5
      simp only [h5]
      have := h n (by omega) h4
      simp at ih ⊢
      split at ih <;> split at ih <;> split <;> omega
    · simp only [h4, if_false]
      by_cases h5 : isDg (d n) = true
      · simp only [h5, if_true]; exact ih
      · have h5 : isDg (d n) = false := by simpa using h5
        simp only [h5]
        simp at ih ⊢
        split at ih <;> split at ih <;> split <;> omega
theorem pOk_len {d : Nat → Int32} {n : Nat} (h : pOk d n) : 1 ≤ pz d n ∧ pz d n ≤ 65 := by
  obtain ⟨h1, h2, h3, h4, h5⟩ := h
  have hs := pz_sum h1
  have hM : 1 ≤ pz d n := by omega
  have := ped_le hM h5
  refine ⟨hM, ?_⟩
  split at this <;> split at this <;> omega
/-- the letters among the first i signs -/
def sgl (f : Nat → Int32) : Nat → Nat
  | 0 => 0
  | i + 1 => if f i = 46 then sgl f i else sgl f i + 1
theorem sgl_psg {d : Nat → Int32} {n : Nat} (h : ∀ k, k < n → isL (d k) = true ∨ isDg (d k) = true ∨ d k = 46) : sgl (psg d n) (pz d n) = plt d n := by
  have key : ∀ (f g : Nat → Int32) (i : Nat), (∀ j, j < i → f j = g j) → sgl f i = sgl g i := by
    intro f g i hfg
    induction i with
    | zero => rfl
    | succ i ih => simp only [sgl, hfg i (by omega), ih (fun j hj => hfg j (by omega))]
  induction n with
  | zero => rfl
  | succ n ih =>
    have ih := ih (fun k hk => h k (by omega))
    by_cases hd : isDg (d n) = true
    · have hl : isL (d n) = false := by
        cases hl : isL (d n) with
        | false => rfl
        | true => rw [(not_both hl).1] at hd; cases hd
      simp only [pz, psg, plt, hd, hl, if_true]
      simpa using ih
    · have hd : isDg (d n) = false := by simpa using hd
      simp only [pz, psg, plt, hd]
      simp only [Bool.false_eq_true, if_false, sgl, upd_self]
      rw [key (upd (psg d n) (pz d n) (d n)) (psg d n) (pz d n) (fun j hj => upd_ne (by omega)), ih]
      by_cases h4 : d n = 46
      · simp [h4, isL_46]
      · have hl : isL (d n) = true := by
          rcases h n (by omega) with z | z | z
          · exact z
          · rw [hd] at z; cases z
          · exact absurd z h4
        simp [h4, hl]
theorem psg_edge {d : Nat → Int32} {n : Nat} : (∀ k, k < n → d k = 46 → pz d k = 0 ∨ pz d k + 1 = pz d n) ↔ ∀ i, i < pz d n → psg d n i = 46 → i = 0 ∨ i + 1 = pz d n := by
  constructor
  · intro h i hi h46
    obtain ⟨k, h1, h2, rfl⟩ := psg_of hi
    rw [psg_at h1 h2] at h46
    exact h k h1 h46
  · intro h k hk h46
    have hd : isDg (d k) = false := by rw [h46]; exact dg_46
    have h1 : pz d (k + 1) = pz d k + 1 := by simp [pz, hd]
    have h2 : pz d (k + 1) ≤ pz d n := pz_mono hk
    exact h (pz d k) (by omega) (by rw [psg_at hk hd]; exact h46)
theorem dig_val {b : Int32} (h : isDg b = true) : 0 ≤ b - 48 ∧ (b - 48).toInt ≤ 9 := by
  rw [isDg_iff] at h
  have e : (b - 48).toInt = b.toInt - 48 := by
    have e1 : (48 : Int32).toInt = 48 := by decide
    rw [Int32.toInt_sub, e1]
    apply Int.bmod_eq_of_le <;> omega
  rw [i32_le, e]
  have e0 : (0 : Int32).toInt = 0 := by decide
  rw [e0]
  omega
theorem pnm_nn (d : Nat → Int32) (n j : Nat) : 0 ≤ pnm d n j ∧ (pnm d n j).toInt ≤ 9 := by
  induction n with
  | zero => exact ⟨Int32.le_refl _, (by decide : (0 : Int32).toInt ≤ 9)⟩
  | succ n ih =>
    simp only [pnm]
    split
    · rename_i h
      by_cases hj : j = pz d n
      · subst hj
        rw [upd_self]
        exact dig_val h
      · rw [upd_ne hj]
        exact ih
    · exact ih
theorem pN_nn (d : Nat → Int32) (n j : Nat) : 0 ≤ pN d n j ∧ (pN d n j).toInt ≤ 9 := by
  have h0 : (0 : Int32) ≤ 0 ∧ (0 : Int32).toInt ≤ 9 := ⟨Int32.le_refl _, by decide⟩
  have h1 : 0 ≤ pN1 d n j ∧ (pN1 d n j).toInt ≤ 9 := by
    unfold pN1
    split
    · by_cases hj : j = 0
      · subst hj; rw [upd_self]; exact h0
      · rw [upd_ne hj]; exact pnm_nn d n j
    · exact pnm_nn d n j
  unfold pN
  split
  · by_cases hj : j = pz d n
    · subst hj; rw [upd_self]; exact h0
    · rw [upd_ne hj]; exact h1
  · exact h1
