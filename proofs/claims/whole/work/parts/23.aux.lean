theorem upd_all {g : Nat → Int32} {i : Nat} {v : Int32} (h : ∀ j, j < i → g j = v) : ∀ j, j < i + 1 → upd g i v j = v := by
  intro j hj
  by_cases hji : j = i
  · subst hji; exact upd_self
  · rw [upd_ne hji]; exact h j (by omega)
