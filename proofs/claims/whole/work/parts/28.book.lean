/-! THE BOOK'S OWN CELL, and small facts for its methods -/
abbrev cBk (d dn lf rt pt xt rr ar : Nat) : va_E := .inr (3, [.ref d, .int (nI dn), .int (nI lf), .int (nI rt), .ref pt, .ref xt, .ref rr, .ref ar])
theorem nI_toI {z : Int32} {k : Nat} (h : z.toInt = (k : Int)) (hk : k < 2 ^ 31) : z = nI k := i32_eq.mpr (by rw [nI_toInt hk]; exact h)
theorem nI_ex {z : Int32} (h : 0 ≤ z.toInt) : ∃ j : Nat, j < 2 ^ 31 ∧ z = nI j := by
  have h2 := Int32.toInt_lt z
  exact ⟨z.toInt.toNat, by omega, nI_toI (by omega) (by omega)⟩
theorem m1_toInt {x : Int32} (h : 0 ≤ x.toInt) : (x + (-1)).toInt = x.toInt - 1 := by
  have e1 : (-1 : Int32).toInt = -1 := by decide
  have h2 := Int32.toInt_lt x
  rw [Int32.toInt_add, e1]
  apply Int.bmod_eq_of_le <;> omega
theorem sub2_toInt {n : Nat} (h : n < 2 ^ 20) : (nI n - 2).toInt = (n : Int) - 2 := pk_sub_toInt (b := 2) (by omega) (by decide)
/-- byte i of a long, the lowest is byte 0 -/
def byt (v : Int64) (i : Nat) : Int32 := ((v.toUInt64 >>> ((nI (8 * i)).toInt64.toUInt64 &&& Int64.toUInt64 63)).toInt64).toInt32 &&& 255
/-- c of n bytes of v appended at dn -/
def drF (dr : Nat → Int32) (dn : Nat) (v : Int64) (n : Nat) : Nat → Nat → Int32
  | 0 => dr
  | c + 1 => upd (drF dr dn v n c) (dn + c) (byt v (n - 1 - c))
/-- numbers outside edges are 0 -/
def drp (f : Nat → Int32) (sz : Nat) (g : Nat → Int32) : Nat → Int32 :=
  if sz = 0 then g else if f (sz - 1) = 46 then upd (if f 0 = 46 then upd g 0 0 else g) sz 0 else (if f 0 = 46 then upd g 0 0 else g)
def bdg (d : Nat → Int32) (i : Nat) : Bool := decide (0 < i) && isDg (d (i - 1))
theorem bdg_s (d : Nat → Int32) (i : Nat) : bdg d (i + 1) = isDg (d i) := by simp [bdg]
theorem bdg_0 (d : Nat → Int32) : bdg d 0 = false := by simp [bdg]
theorem c46 : (46 : Int32).toInt = 46 := by decide
theorem sgl_le (f : Nat → Int32) (i : Nat) : sgl f i ≤ i := by
  induction i with
  | zero => exact Nat.le_refl _
  | succ i ih => simp only [sgl]; split <;> omega
theorem sgl_n {f : Nat → Int32} {i : Nat} (h : ¬ f i = 46) : sgl f (i + 1) = sgl f i + 1 := by simp [sgl, h]
theorem sgl_y {f : Nat → Int32} {i : Nat} (h : f i = 46) : sgl f (i + 1) = sgl f i := by simp [sgl, h]
theorem sgl_hl {ls : Array Slot} {n a b : Nat} {v1 v2 : Nat × Value} (hl : lv_has ls n [v1, (1, .int (nI a)), v2]) (h : b = a) : lv_has ls n [v1, (1, .int (nI b)), v2] := by rw [h]; exact hl
theorem lt_46n {f : Nat → Int32} {i sz : Nat} (h : ∀ j, j < i → f j = 46 → j = 0 ∨ j + 1 = sz) (hi : ¬ f i = 46) : ∀ j, j < i + 1 → f j = 46 → j = 0 ∨ j + 1 = sz := by
  intro j hj hf
  by_cases hji : j = i
  · subst hji; exact absurd hf hi
  · exact h j (by omega) hf
theorem lt_46y {f : Nat → Int32} {i sz : Nat} (h : ∀ j, j < i → f j = 46 → j = 0 ∨ j + 1 = sz) (hi : i = 0 ∨ i + 1 = sz) : ∀ j, j < i + 1 → f j = 46 → j = 0 ∨ j + 1 = sz := by
  intro j hj hf
  by_cases hji : j = i
  · subst hji; exact hi
  · exact h j (by omega) hf
