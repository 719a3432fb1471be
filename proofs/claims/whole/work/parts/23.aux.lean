theorem upd_all {g : Nat → Int32} {i : Nat} {v : Int32} (h : ∀ j, j < i → g j = v) : ∀ j, j < i + 1 → upd g i v j = v := by
  intro j hj
  by_cases hji : j = i
  · subst hji; exact upd_self
  · rw [upd_ne hji]; exact h j (by omega)
theorem hm_kp.tr9 {S : Nat → Prop} {M0 M M1 : hM} {q : Nat} (h : hm_kp S M0 M) (h2 : hm_kp (fun a => a ∈ [q]) M M1) (hq : M0 q = none) : hm_kp S M0 M1 := fun a e ha hs => h2 a e (h a e ha hs) (fun z => by
  simp only [List.mem_singleton] at z
  rw [z, hq] at ha
  cases ha)
theorem hm_kp.wr {S : Nat → Prop} {M0 M : hM} {a : Nat} {v : Option va_E} (h : hm_kp S M0 M) (hs : S a ∨ M0 a = none) : hm_kp S M0 (va_up M a v) := fun b e hb hn => by
  rw [hm_up_ne (fun z => by
    subst z
    rcases hs with q | q
    · exact hn q
    · rw [q] at hb; cases hb)]
  exact h b e hb hn
