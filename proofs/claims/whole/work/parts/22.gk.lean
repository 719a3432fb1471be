/-! WHAT THE TABLES SAY, carried by every contract -/
def gk (G : hG) (U : State) : Prop := va_K G.1 vwC (tyG G) U ∧ va_Nw (.fieldLinkNest R_tr 39 R_nd "numbers" "[I" R_bk) U ∧ va_Nw (.methodLinkNest R_bk 25 y_tr_init R_bk) U ∧ va_Nw (.methodLinkNest R_bk 35 y_rw_init R_bk) U ∧ va_Nw (.methodLinkNest R_rw 28 y_bk_elementAt R_bk) U ∧ va_Nw (.methodLinkNest R_tr 58 y_bk_elementAt R_bk) U ∧ va_Nw (.castable "[I" "java/lang/Cloneable") U
theorem gk_w {G : hG} : ∀ {s U : State}, s.WarmedH U.vm → gk G s → gk G U := fun hW h => ⟨va_K.moved hW.alike h.1, va_Nw.warmF hW h.2.1, va_Nw.warmM hW h.2.2.1, va_Nw.warmM hW h.2.2.2.1, va_Nw.warmM hW h.2.2.2.2.1, va_Nw.warmM hW h.2.2.2.2.2.1, va_Nw.warmC hW h.2.2.2.2.2.2⟩
theorem gk_s {G : hG} : ∀ {u U : State}, u.vm = U.vm → gk G u → gk G U := fun hv h => ⟨va_K.moved (by rw [hv]; exact Vm.Alike.refl _) h.1, va_Nw.same rfl hv h.2.1, va_Nw.same rfl hv h.2.2.1, va_Nw.same rfl hv h.2.2.2.1, va_Nw.same rfl hv h.2.2.2.2.1, va_Nw.same rfl hv h.2.2.2.2.2.1, va_Nw.same rfl hv h.2.2.2.2.2.2⟩
theorem tC {c0 w : Cond} (h : w ∈ lwB) : w ∈ c0 :: lwB := List.mem_cons_of_mem _ h
theorem tB {c0 : Cond} {L : List Cond} (h : ∀ w ∈ L, w ∈ lwB) : ∀ w ∈ L, w ∈ c0 :: lwB := fun w hw => List.mem_cons_of_mem _ (h w hw)
theorem hm_rfcat (x : Option Nat) : (va_rf x).category = 1 := by cases x <;> rfl
theorem hm_rffit {C : String} (x : Option Nat) : fits (.object C) (va_rf x) = true := by cases x <;> rfl
theorem hm_rffitA {t : FieldType} (x : Option Nat) : fits (.array t) (va_rf x) = true := by cases x <;> rfl
theorem hm_rfnar {C : String} (x : Option Nat) : narrow (.object C) (va_rf x) = va_rf x := by cases x <;> rfl
theorem hm_rfnarA {t : FieldType} (x : Option Nat) : narrow (.array t) (va_rf x) = va_rf x := by cases x <;> rfl
theorem bI_fit (b : Bool) : fits .boolean (.int (bI b)) = true := by cases b <;> decide
/-- a new content of an array that agrees with the old one below its length -/
theorem hm_ext {D : va_G} {cl : List vw_C} {A : Nat → Prop} {H0 : Heap} {M : hM} {H : Heap} {locs : List Loc} {a n : Nat} {cA : ClassId} {f g : Nat → Int32} (hH : hm_I D cl A H0 M H locs) (ha : M a = some (.inl (cA, n, .inl f))) (hfg : ∀ j, j < n → f j = g j) : hm_I D cl A H0 (va_up M a (some (.inl (cA, n, .inl g)))) H locs := by
  obtain ⟨hP, hA, hS, hN⟩ := hH
  refine ⟨fun b x hb => ?_, hm_setA hA ha, hS, hN⟩
  by_cases h : b = a
  · subst h
    rw [hm_up_self] at hb
    cases hb
    have h1 : H[b]? = some (vp_cell cA (n, .inl f)) := hP b _ ha
    show H[b]? = some (vp_cell cA (n, .inl g))
    rw [h1]
    show some (arrV cA n (fun j => .int (f j))) = some (arrV cA n (fun j => .int (g j)))
    congr 1
    simp only [arrV]
    congr 1
    apply Array.ext
    · simp
    · intro i h1 h2
      simp only [Array.size_ofFn] at h1
      simp [hfg i h1]
  · rw [hm_up_ne h] at hb
    exact hP b x hb
