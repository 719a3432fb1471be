/-! THE CELLS -/
abbrev cNd (s : Int32) (fc ns nu : Option Nat) : va_E := .inr (0, [.int s, va_rf fc, va_rf ns, va_rf nu])
abbrev cRw (sg nm sz : Nat) : va_E := .inr (1, [.ref sg, .ref nm, .int (nI sz)])
abbrev cTr (root en bg : Nat) : va_E := .inr (2, [.ref root, .int (nI en), .int (nI bg)])
theorem find_none {ch : List Nat} {sg : Nat → Int32} {c : Int32} (h : ∀ (j b : Nat), ch[j]? = some b → sg b ≠ c) : ch.find? (fun b => decide (sg b = c)) = none := by
  rw [List.find?_eq_none]
  intro b hb
  obtain ⟨j, hj⟩ := List.getElem?_of_mem hb
  simp [h j b hj]
theorem find_some {ch : List Nat} {sg : Nat → Int32} {c : Int32} {i b : Nat} (hi : ch[i]? = some b) (hb : sg b = c) (h : ∀ (j : Nat), j < i → ∀ b, ch[j]? = some b → sg b ≠ c) : ch.find? (fun b => decide (sg b = c)) = some b := by
  induction ch generalizing i with
  | nil => simp at hi
  | cons x t ih =>
    cases i with
    | zero =>
      simp at hi
      subst hi
      simp [List.find?, hb]
    | succ i =>
      have hx : sg x ≠ c := h 0 (by omega) x rfl
      simp only [List.find?, hx, decide_false]
      exact ih (i := i) (by simpa using hi) (fun j hj b hb2 => h (j + 1) (by omega) b (by simpa using hb2))
