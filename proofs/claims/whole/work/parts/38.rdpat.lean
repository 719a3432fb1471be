/-! reading a pattern -/
theorem lv_cv {ls : Array Slot} {n : Nat} {L L' : List (Nat × Value)} (hl : lv_has ls n L) (h : L = L') : lv_has ls n L' := h ▸ hl
theorem ap_ex {G : hG} {r sg nm sz : Nat} {f : Nat → Int32} {v : Int32} {M M' : hM} {rv : Option Value} (h : q_rw_append G r sg nm sz f v M rv M') : ∃ b : Bool, rv = some (.int (bI b)) ∧ (b = true → sz < 65 ∧ hm_has M' [(r, cRw sg nm (sz + 1)), (sg, aI G 65 (upd f sz v))] ∧ hm_kp (fun a => a ∈ [r, sg]) M M') ∧ (b = false → 65 ≤ sz ∧ M' = M) := by
  rcases h with ⟨h1, h2, h3, h4⟩ | ⟨h1, h2, h3⟩
  · exact ⟨true, h2, fun _ => ⟨h1, h3, h4⟩, fun z => (by cases z)⟩
  · exact ⟨false, h2, fun z => (by cases z), fun _ => ⟨h1, h3⟩⟩
theorem sgl_ag {f g : Nat → Int32} {i : Nat} (h : ∀ j, j < i → f j = g j) : sgl f i = sgl g i := by
  induction i with
  | zero => rfl
  | succ i ih => simp only [sgl, h i (by omega), ih (fun j hj => h j (by omega))]
theorem rp_iff {d f : Nat → Int32} {n : Nat} (hf : ∀ j, j < pz d n → f j = psg d n j) (hok : ∀ k, k < n → isL (d k) = true ∨ isDg (d k) = true ∨ d k = 46) (hadj : ∀ k, k + 1 < n → ¬ (isDg (d k) = true ∧ isDg (d (k + 1)) = true)) :
    ((∀ j, j < pz d n → f j = 46 → j = 0 ∨ j + 1 = pz d n) ∧ 1 ≤ sgl f (pz d n) ∧ sgl f (pz d n) ≤ 63) ↔ pOk d n := by
  rw [sgl_ag hf, sgl_psg hok]
  constructor
  · rintro ⟨h1, h2, h3⟩
    exact ⟨hok, hadj, h2, h3, psg_edge.mpr (fun i hi h46 => h1 i hi (by rw [hf i hi]; exact h46))⟩
  · rintro ⟨-, -, h2, h3, h4⟩
    exact ⟨fun j hj h46 => psg_edge.mp h4 j hj (by rw [← hf j hj]; exact h46), h2, h3⟩
theorem rp_drp {d f : Nat → Int32} {n : Nat} (hf : ∀ j, j < pz d n → f j = psg d n j) (h : 1 ≤ pz d n) : drp f (pz d n) (pnm d n) = pN d n := by
  unfold drp pN pN1
  rw [if_neg (by omega), hf 0 (by omega), hf (pz d n - 1) (by omega)]
theorem rp_adj {d : Nat → Int32} {n i : Nat} (hi : i < n) (h1 : isDg (d i) = true) (h2 : bdg d i = true) : ¬ pOk d n := by
  rintro ⟨-, h, -⟩
  simp only [bdg, Bool.and_eq_true, decide_eq_true_eq] at h2
  exact h (i - 1) (by omega) ⟨h2.2, by rw [Nat.sub_add_cancel h2.1]; exact h1⟩
theorem rp_bad {d : Nat → Int32} {n i : Nat} (hi : i < n) (h1 : isDg (d i) = false) (h2 : isL (d i) = false) (h3 : (d i).toInt ≠ 46) : ¬ pOk d n := by
  rintro ⟨h, -⟩
  rcases h i hi with z | z | z
  · rw [h2] at z; cases z
  · rw [h1] at z; cases z
  · exact h3 (eq46_iff.mp z)
theorem rp_long {d : Nat → Int32} {n i : Nat} (hi : i < n) (h1 : isDg (d i) = false) (h2 : 65 ≤ pz d i) : ¬ pOk d n := by
  intro h
  have h3 := (pOk_len h).2
  have h4 : pz d (i + 1) ≤ pz d n := pz_mono hi
  have h5 : pz d (i + 1) = pz d i + 1 := by simp [pz, h1]
  omega
theorem rp_ok {d : Nat → Int32} {i : Nat} {p : Int32 → Prop} (h : ∀ k, k < i → p (d k)) (hi : p (d i)) : ∀ k, k < i + 1 → p (d k) := by
  intro k hk
  by_cases hki : k = i
  · subst hki; exact hi
  · exact h k (by omega)
theorem rp_adjS {d : Nat → Int32} {i : Nat} (h : ∀ k, k + 1 < i → ¬ (isDg (d k) = true ∧ isDg (d (k + 1)) = true)) (hi : bdg d i = false ∨ isDg (d i) = false) : ∀ k, k + 1 < i + 1 → ¬ (isDg (d k) = true ∧ isDg (d (k + 1)) = true) := by
  intro k hk
  by_cases hki : k + 1 = i
  · subst hki
    rintro ⟨z1, z2⟩
    rcases hi with q | q
    · rw [bdg_s, z1] at q; cases q
    · rw [z2] at q; cases q
  · exact h k (by omega)
theorem rp_app {d f : Nat → Int32} {i : Nat} (hf : ∀ j, j < pz d i → f j = psg d i j) (h1 : isDg (d i) = false) : ∀ j, j < pz d (i + 1) → upd f (pz d i) (d i) j = psg d (i + 1) j := by
  intro j hj
  have h5 : pz d (i + 1) = pz d i + 1 := by simp [pz, h1]
  simp only [psg, h1, Bool.false_eq_true, if_false]
  by_cases hji : j = pz d i
  · subst hji; rw [upd_self, upd_self]
  · rw [upd_ne hji, upd_ne hji]; exact hf j (by omega)
