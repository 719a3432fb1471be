/-! raising numbers -/
def rzB (v g : Nat → Int32) (st : Nat) : Nat → Nat → Int32
  | 0 => v
  | j + 1 => if rzB v g st j (st + j) < g j then upd (rzB v g st j) (st + j) (g j) else rzB v g st j
theorem vMax_ext {S T : Nat → Int32 → Prop} {N : Nat} {v : Nat → Int32} (h : vMax S N v) (hST : ∀ pl x, pl ≤ N → (T pl x ↔ S pl x)) : vMax T N v := by
  intro pl hpl
  obtain ⟨a1, a2, a3⟩ := h pl hpl
  exact ⟨fun x hx => a1 x ((hST pl x hpl).mp hx), a2.imp id (fun z => (hST pl _ hpl).mpr z), a3⟩
theorem rz_max {S : Nat → Int32 → Prop} {N st : Nat} {v g : Nat → Int32} (h : vMax S N v) : ∀ cnt, (∀ j, j < cnt → 0 ≤ g j) → vMax (fun pl x => S pl x ∨ ∃ j, j < cnt ∧ pl = st + j ∧ x = g j) N (rzB v g st cnt) := by
  intro cnt
  induction cnt with
  | zero => intro _; exact vMax_ext h (fun pl x _ => ⟨fun z => z.elim id (fun ⟨j, hj, _⟩ => absurd hj (by omega)), Or.inl⟩)
  | succ cnt ih =>
    intro hg
    have ih := ih (fun j hj => hg j (by omega))
    refine vMax_raise ih (fun pl y _ => ⟨fun z => ?_, fun z => ?_⟩) (hg cnt (by omega))
    · rcases z with z | ⟨j, h1, h2, h3⟩
      · exact Or.inl (Or.inl z)
      · by_cases hj : j = cnt
        · subst hj; exact Or.inr ⟨h2, h3⟩
        · exact Or.inl (Or.inr ⟨j, by omega, h2, h3⟩)
    · rcases z with (z | ⟨j, h1, h2, h3⟩) | ⟨h1, h2⟩
      · exact Or.inl z
      · exact Or.inr ⟨j, by omega, h2, h3⟩
      · exact Or.inr ⟨cnt, by omega, h1, h2⟩
/-- what the rows of E that fit at st, of at most k signs, tell of place pl -/
def ctr (E : List rwT) (f : Nat → Int32) (sz st k pl : Nat) (x : Int32) : Prop := ∃ r ∈ E, 1 ≤ r.1 ∧ r.1 ≤ k ∧ st + r.1 ≤ sz ∧ ag r.2.1 (fun j => f (st + j)) r.1 ∧ st ≤ pl ∧ pl ≤ st + r.1 ∧ x = r.2.2 (pl - st)
def unE (E : List rwT) : Prop := ∀ r ∈ E, ∀ r' ∈ E, r.1 = r'.1 → ag r.2.1 r'.2.1 r.1 → g66 r.2.2 r'.2.2
def nnE (E : List rwT) : Prop := ∀ r ∈ E, ∀ j, j < 66 → 0 ≤ r.2.2 j
theorem ctr_0 {E : List rwT} {f : Nat → Int32} {sz st pl : Nat} {x : Int32} : ¬ ctr E f sz st 0 pl x := by
  rintro ⟨r, -, h1, h2, -⟩
  omega
theorem ctr_no {E : List rwT} {f : Nat → Int32} {sz st k pl : Nat} {x : Int32} (h : ∀ r ∈ E, ¬ sm r (k + 1) (fun j => f (st + j))) : ctr E f sz st (k + 1) pl x ↔ ctr E f sz st k pl x := by
  constructor
  · rintro ⟨r, h0, h1, h2, h3, h4, h5⟩
    refine ⟨r, h0, h1, ?_, h3, h4, h5⟩
    rcases Nat.lt_or_ge k r.1 with q | q
    · have e : r.1 = k + 1 := by omega
      exact absurd ⟨e, by rw [← e]; exact h4⟩ (h r h0)
    · exact q
  · rintro ⟨r, h0, h1, h2, h3⟩
    exact ⟨r, h0, h1, by omega, h3⟩
theorem ctr_yes {E : List rwT} {f g : Nat → Int32} {sz st k pl : Nat} {x : Int32} {r0 : rwT} (hU : unE E) (h0 : r0 ∈ E) (hs : sm r0 (k + 1) (fun j => f (st + j))) (hg : g66 g r0.2.2) (hk : st + (k + 1) ≤ sz) (hz : sz ≤ 65) : ctr E f sz st (k + 1) pl x ↔ (ctr E f sz st k pl x ∨ ∃ j, j < k + 2 ∧ pl = st + j ∧ x = g j) := by
  constructor
  · rintro ⟨r, h1, h2, h3, h4, h5, h6, h7, h8⟩
    rcases Nat.lt_or_ge k r.1 with q | q
    · have e : r.1 = k + 1 := by omega
      have h9 := hU r h1 r0 h0 (by rw [e, hs.1]) (by rw [e] at h5 ⊢; exact h5.tr hs.2.sm)
      refine Or.inr ⟨pl - st, by omega, by omega, ?_⟩
      rw [h8, h9 (pl - st) (by omega), hg (pl - st) (by omega)]
    · exact Or.inl ⟨r, h1, h2, q, h4, h5, h6, h7, h8⟩
  · rintro (⟨r, h1, h2, h3, h4⟩ | ⟨j, h1, h2, h3⟩)
    · exact ⟨r, h1, h2, by omega, h4⟩
    · refine ⟨r0, h0, by rw [hs.1]; omega, by rw [hs.1]; exact Nat.le_refl _, by rw [hs.1]; exact hk, by rw [hs.1]; exact hs.2, by omega, by rw [hs.1]; omega, ?_⟩
      have e : pl - st = j := by omega
      rw [h3, e, hg j (by omega)]
theorem ctr_end {st' : Nat → Int32 → Option Nat} {root : Nat} {E : List rwT} {f : Nat → Int32} {sz st k k2 pl : Nat} {x : Int32} {S0 : (Nat → Int32) → Nat → Prop} (hI : trI st' root S0) (hSE : ∀ g k, sE E g k → S0 g k) (hn : twk st' root (fun j => f (st + j)) (k + 1) = none) (hk : k ≤ k2) : ctr E f sz st k2 pl x ↔ ctr E f sz st k pl x := by
  constructor
  · rintro ⟨r, h0, h1, h2, h3, h4, h5⟩
    refine ⟨r, h0, h1, ?_, h3, h4, h5⟩
    rcases Nat.lt_or_ge k r.1 with q | q
    · obtain ⟨a, ha⟩ := (hI.1 (fun j => f (st + j)) (k + 1)).mpr (hSE _ _ (Or.inr ⟨r, h0, q, h4.le q⟩))
      rw [hn] at ha
      cases ha
    · exact q
  · rintro ⟨r, h0, h1, h2, h3⟩
    exact ⟨r, h0, h1, by omega, h3⟩
theorem hm_has3 {M : hM} {t r sg nm q : Nat} {e1 e2 e3 e4 e5 : va_E} (hw : hm_has M [(t, e1), (r, e2), (sg, e3), (nm, e4)]) (hq : M q = some e5) (hqn : q ≠ nm) (hqr : e5 ≠ e2) : hm_has M [(r, e2), (nm, e4), (q, e5)] := by
  have h2 : M r = some e2 := hw.at 1 rfl
  have h4 : M nm = some e4 := hw.at 3 rfl
  have hrn : r ≠ nm := hw.ne 1 3 rfl rfl (by decide)
  have hrq : r ≠ q := fun z => by rw [← z, h2] at hq; exact hqr (Option.some.inj hq).symm
  refine ⟨?_, ?_⟩
  · simp [hrn, hrq, Ne.symm hqn]
  · simp [h2, h4, hq]
theorem hm_join3 {M M1 : hM} {t r sg nm q : Nat} {e1 e2 e3 e4 e5 e6 : va_E} (hw : hm_has M [(t, e1), (r, e2), (sg, e3), (nm, e4)]) (hw1 : hm_has M1 [(r, e2), (nm, e6), (q, e5)]) (hk : hm_kp (fun a => a ∈ [nm]) M M1) : hm_has M1 [(t, e1), (r, e2), (sg, e3), (nm, e6)] := by
  have h1 : M1 t = some e1 := hk t _ (hw.at 0 rfl) (by simpa using hw.ne 0 3 rfl rfl (by decide))
  have h2 : M1 r = some e2 := hw1.at 0 rfl
  have h3 : M1 sg = some e3 := hk sg _ (hw.at 2 rfl) (by simpa using hw.ne 2 3 rfl rfl (by decide))
  have h4 : M1 nm = some e6 := hw1.at 1 rfl
  exact ⟨hw.1, by simp [h1, h2, h3, h4]⟩
theorem rz_or {P : Prop} {Q : Nat → Prop} {st : Nat} : (P ∨ ∃ i, i < st + 1 ∧ Q i) ↔ ((P ∨ ∃ i, i < st ∧ Q i) ∨ Q st) := by
  constructor
  · rintro (z | ⟨i, h1, h2⟩)
    · exact Or.inl (Or.inl z)
    · by_cases h : i = st
      · subst h; exact Or.inr h2
      · exact Or.inl (Or.inr ⟨i, by omega, h2⟩)
  · rintro ((z | ⟨i, h1, h2⟩) | z)
    · exact Or.inl z
    · exact Or.inr ⟨i, by omega, h2⟩
    · exact Or.inr ⟨st, by omega, z⟩
