/-! TREES OF BEGINNINGS, the pure side: st a c is a's child with sign c -/
def ag (f g : Nat → Int32) (i : Nat) : Prop := ∀ j, j < i → f j = g j
theorem ag.rf {f : Nat → Int32} {i : Nat} : ag f f i := fun _ _ => rfl
theorem ag.sm {f g : Nat → Int32} {i : Nat} (h : ag f g i) : ag g f i := fun j hj => (h j hj).symm
theorem ag.tr {f g k : Nat → Int32} {i : Nat} (h : ag f g i) (h2 : ag g k i) : ag f k i := fun j hj => (h j hj).trans (h2 j hj)
theorem ag.le {f g : Nat → Int32} {i k : Nat} (h : ag f g i) (hk : k ≤ i) : ag f g k := fun j hj => h j (by omega)
theorem ag.succ {f g : Nat → Int32} {i : Nat} (h : ag f g i) (hi : f i = g i) : ag f g (i + 1) := fun j hj => by
  rcases Nat.lt_or_ge j i with q | q
  · exact h j q
  · obtain rfl : j = i := by omega
    exact hi
def tstep (cs : Nat → List Nat) (sg : Nat → Int32) (a : Nat) (c : Int32) : Option Nat := (cs a).find? (fun b => decide (sg b = c))
def twk (st : Nat → Int32 → Option Nat) (root : Nat) (f : Nat → Int32) : Nat → Option Nat
  | 0 => some root
  | i + 1 => (twk st root f i).bind (fun a => st a (f i))
theorem twk_ag {st : Nat → Int32 → Option Nat} {root : Nat} {f g : Nat → Int32} {i : Nat} (h : ag f g i) : twk st root f i = twk st root g i := by
  induction i with
  | zero => rfl
  | succ i ih =>
    simp only [twk]
    rw [ih (h.le (Nat.le_succ i)), h i (Nat.lt_succ_self i)]
theorem twk_down {st : Nat → Int32 → Option Nat} {root : Nat} {f : Nat → Int32} {i k : Nat} (hk : k ≤ i) {a : Nat} (h : twk st root f i = some a) : ∃ b, twk st root f k = some b := by
  induction i generalizing a with
  | zero => obtain rfl : k = 0 := by omega
            exact ⟨a, h⟩
  | succ i ih =>
    rcases Nat.lt_or_ge i k with q | q
    · obtain rfl : k = i + 1 := by omega
      exact ⟨a, h⟩
    · simp only [twk] at h
      cases hb : twk st root f i with
      | none => rw [hb] at h; simp at h
      | some b => exact ih q hb
/-- S: which beginnings there are; each at an address of its own -/
def trI (st : Nat → Int32 → Option Nat) (root : Nat) (S : (Nat → Int32) → Nat → Prop) : Prop :=
  (∀ f i, (∃ a, twk st root f i = some a) ↔ S f i) ∧ ∀ (f g : Nat → Int32) (i j a : Nat), twk st root f i = some a → twk st root g j = some a → i = j ∧ ag f g i
theorem twk_new {st st' : Nat → Int32 → Option Nat} {root a q i : Nat} {f : Nat → Int32} {S : (Nat → Int32) → Nat → Prop} (h : trI st root S) (ha : twk st root f i = some a) (hn : st a (f i) = none) (hq : ∀ g k, twk st root g k ≠ some q)
    (hst : ∀ b c, (b = q ∨ ∃ g k, twk st root g k = some b) → st' b c = if b = a ∧ c = f i then some q else if b = q then none else st b c) : ∀ g k, ((k = i + 1 ∧ ag g f (i + 1)) → twk st' root g k = some q) ∧ (¬ (k = i + 1 ∧ ag g f (i + 1)) → twk st' root g k = twk st root g k) := by
  have hqa : q ≠ a := fun z => hq f i (by rw [z]; exact ha)
  intro g k
  induction k with
  | zero => exact ⟨fun z => absurd z.1 (by omega), fun _ => rfl⟩
  | succ k ih =>
    by_cases h1 : k = i + 1 ∧ ag g f (i + 1)
    · refine ⟨fun z => absurd z.1 (by omega), fun _ => ?_⟩
      simp only [twk]
      rw [ih.1 h1]
      have e1 : twk st root g k = none := by
        rw [h1.1, twk_ag h1.2]
        simp only [twk, ha, Option.bind_some]
        exact hn
      rw [e1]
      simp only [Option.bind_some, Option.bind_none]
      rw [hst q (g k) (Or.inl rfl), if_neg (fun z => hqa z.1), if_pos rfl]
    · cases hb : twk st root g k with
      | none =>
        refine ⟨?_, fun _ => ?_⟩
        · rintro ⟨h2, h3⟩
          obtain rfl : k = i := by omega
          rw [twk_ag (h3.le (Nat.le_succ k)), ha] at hb
          cases hb
        · simp only [twk]
          rw [ih.2 h1, hb]
          rfl
      | some b =>
        have hbq : b ≠ q := fun z => hq g k (by rw [hb, z])
        by_cases h2 : b = a ∧ g k = f i
        · obtain ⟨rfl, h3⟩ := h2
          obtain ⟨h4, h5⟩ := h.2 g f k i b hb ha
          subst h4
          refine ⟨fun _ => ?_, fun z => absurd ⟨rfl, h5.succ h3⟩ z⟩
          simp only [twk]
          rw [ih.2 h1, hb]
          simp only [Option.bind_some]
          rw [hst b (g k) (Or.inr ⟨g, k, hb⟩), if_pos ⟨rfl, h3⟩]
        · refine ⟨?_, fun _ => ?_⟩
          · rintro ⟨h3, h4⟩
            obtain rfl : k = i := by omega
            rw [twk_ag (h4.le (Nat.le_succ k)), ha] at hb
            cases hb
            exact absurd ⟨rfl, h4 k (Nat.lt_succ_self k)⟩ h2
          · simp only [twk]
            rw [ih.2 h1, hb]
            simp only [Option.bind_some]
            rw [hst b (g k) (Or.inr ⟨g, k, hb⟩), if_neg h2, if_neg hbq]
theorem trI_new {st st' : Nat → Int32 → Option Nat} {root a q i : Nat} {f : Nat → Int32} {S S' : (Nat → Int32) → Nat → Prop} (h : trI st root S) (ha : twk st root f i = some a) (hn : st a (f i) = none) (hq : ∀ g k, twk st root g k ≠ some q)
    (hst : ∀ b c, (b = q ∨ ∃ g k, twk st root g k = some b) → st' b c = if b = a ∧ c = f i then some q else if b = q then none else st b c) (hS : ∀ g k, S' g k ↔ S g k ∨ (k = i + 1 ∧ ag g f (i + 1))) : trI st' root S' := by
  have hw := twk_new h ha hn hq hst
  refine ⟨fun g k => ?_, fun g g2 k k2 b hb hb2 => ?_⟩
  · rw [hS, ← h.1 g k]
    by_cases h1 : k = i + 1 ∧ ag g f (i + 1)
    · rw [(hw g k).1 h1]
      exact ⟨fun _ => Or.inr h1, fun _ => ⟨q, rfl⟩⟩
    · rw [(hw g k).2 h1]
      exact ⟨fun z => Or.inl z, fun z => z.elim id (fun y => absurd y h1)⟩
  · by_cases h1 : k = i + 1 ∧ ag g f (i + 1) <;> by_cases h2 : k2 = i + 1 ∧ ag g2 f (i + 1)
    · exact ⟨h1.1.trans h2.1.symm, by rw [h1.1]; exact h1.2.tr h2.2.sm⟩
    · rw [(hw g k).1 h1] at hb
      rw [(hw g2 k2).2 h2] at hb2
      cases hb
      exact absurd hb2 (hq g2 k2)
    · rw [(hw g k).2 h1] at hb
      rw [(hw g2 k2).1 h2] at hb2
      cases hb2
      exact absurd hb (hq g k)
    · rw [(hw g k).2 h1] at hb
      rw [(hw g2 k2).2 h2] at hb2
      exact h.2 g g2 k k2 b hb hb2
theorem trI_ext {st : Nat → Int32 → Option Nat} {root : Nat} {S S' : (Nat → Int32) → Nat → Prop} (h : trI st root S) (hS : ∀ g k, S' g k ↔ S g k) : trI st root S' := ⟨fun f i => (h.1 f i).trans (hS f i).symm, h.2⟩
/-- rows: how many signs, the signs, the numbers -/
abbrev rwT : Type := Nat × (Nat → Int32) × (Nat → Int32)
def sE (E : List rwT) (f : Nat → Int32) (i : Nat) : Prop := i = 0 ∨ ∃ r ∈ E, i ≤ r.1 ∧ ag r.2.1 f i
/-- the same row -/
def sm (r : rwT) (m : Nat) (f : Nat → Int32) : Prop := r.1 = m ∧ ag r.2.1 f m
def g66 (g k : Nat → Int32) : Prop := ∀ j, j < 66 → g j = k j
/-- what stands at a node: the numbers of the row that ends there -/
def trC (st : Nat → Int32 → Option Nat) (root : Nat) (nu : Nat → Option Nat) (nv : Nat → Nat → Int32) (E : List rwT) : Prop :=
  ∀ (f : Nat → Int32) (i a : Nat), twk st root f i = some a → (nu a = none ∧ ∀ r ∈ E, ¬ sm r i f) ∨ ∃ q r, nu a = some q ∧ r ∈ E ∧ sm r i f ∧ g66 (nv q) r.2.2
theorem trC_app {st : Nat → Int32 → Option Nat} {root a q m : Nat} {nu nu' : Nat → Option Nat} {nv : Nat → Nat → Int32} {E : List rwT} {f g : Nat → Int32} {S : (Nat → Int32) → Nat → Prop} (hI : trI st root S) (h : trC st root nu nv E) (ha : twk st root f m = some a) (hno : ∀ r ∈ E, ¬ sm r m f) (hnu : ∀ b, nu' b = if b = a then some q else nu b) (hq : g66 (nv q) g) : trC st root nu' nv (E ++ [(m, f, g)]) := by
  intro f2 i b hb
  rw [hnu]
  by_cases hba : b = a
  · subst hba
    rw [if_pos rfl]
    obtain ⟨h1, h2⟩ := hI.2 f2 f i m b hb ha
    subst h1
    exact Or.inr ⟨q, (i, f, g), rfl, List.mem_append_right _ (List.mem_singleton.mpr rfl), ⟨rfl, h2.sm⟩, hq⟩
  · rw [if_neg hba]
    rcases h f2 i b hb with ⟨h1, h2⟩ | ⟨q2, r, h1, h2, h3, h4⟩
    · refine Or.inl ⟨h1, fun r hr => ?_⟩
      rcases List.mem_append.mp hr with hr | hr
      · exact h2 r hr
      · rw [List.mem_singleton] at hr
        subst hr
        rintro ⟨z1, z2⟩
        dsimp at z1 z2
        subst z1
        rw [twk_ag z2.sm, ha] at hb
        cases hb
        exact hba rfl
    · exact Or.inr ⟨q2, r, h1, List.mem_append_left _ h2, h3, h4⟩
theorem trC_set {st : Nat → Int32 → Option Nat} {root a q m e : Nat} {nu nu' : Nat → Option Nat} {nv : Nat → Nat → Int32} {E : List rwT} {f g : Nat → Int32} {S : (Nat → Int32) → Nat → Prop} {r0 : rwT} (hI : trI st root S) (h : trC st root nu nv E) (ha : twk st root f m = some a) (he : E[e]? = some r0) (h0 : sm r0 m f) (hnu : ∀ b, nu' b = if b = a then some q else nu b) (hq : g66 (nv q) g) : trC st root nu' nv (E.set e (m, f, g)) := by
  have hl := (List.getElem?_eq_some_iff.mp he).1
  have hmem : ∀ r, r ∈ E.set e (m, f, g) → r ∈ E ∨ r = (m, f, g) := fun r hr => List.mem_or_eq_of_mem_set hr
  intro f2 i b hb
  rw [hnu]
  by_cases hba : b = a
  · subst hba
    rw [if_pos rfl]
    obtain ⟨h1, h2⟩ := hI.2 f2 f i m b hb ha
    subst h1
    exact Or.inr ⟨q, (i, f, g), rfl, List.mem_of_getElem? (List.getElem?_set_self hl), ⟨rfl, h2.sm⟩, hq⟩
  · rw [if_neg hba]
    have hns : ∀ r, sm r m f → ¬ sm r i f2 := by
      rintro r ⟨z1, z2⟩ ⟨z3, z4⟩
      have : m = i := z1.symm.trans z3
      subst this
      rw [twk_ag (z4.sm.tr z2), ha] at hb
      cases hb
      exact hba rfl
    rcases h f2 i b hb with ⟨h1, h2⟩ | ⟨q2, r, h1, h2, h3, h4⟩
    · refine Or.inl ⟨h1, fun r hr => ?_⟩
      rcases hmem r hr with hr | hr
      · exact h2 r hr
      · subst hr
        exact hns _ ⟨rfl, ag.rf⟩
    · refine Or.inr ⟨q2, r, h1, ?_, h3, h4⟩
      obtain ⟨j, hj⟩ := List.getElem?_of_mem h2
      have hje : e ≠ j := fun z => by
        subst z
        rw [he] at hj
        cases hj
        exact hns r0 h0 h3
      exact List.mem_of_getElem? (i := j) (by rw [List.getElem?_set_ne hje]; exact hj)
/-- nodes that were made and hold nothing yet -/
theorem trC_new {st st' : Nat → Int32 → Option Nat} {root a q i : Nat} {f : Nat → Int32} {S : (Nat → Int32) → Nat → Prop} {nu nu' : Nat → Option Nat} {nv : Nat → Nat → Int32} {E : List rwT} (hI : trI st root S) (h : trC st root nu nv E) (ha : twk st root f i = some a) (hn : st a (f i) = none) (hq : ∀ g k, twk st root g k ≠ some q)
    (hst : ∀ b c, (b = q ∨ ∃ g k, twk st root g k = some b) → st' b c = if b = a ∧ c = f i then some q else if b = q then none else st b c) (hSE : ∀ g k, sE E g k → S g k) (hnu : ∀ b, b ≠ q → nu' b = nu b) (hnq : nu' q = none) : trC st' root nu' nv E := by
  have hw := twk_new hI ha hn hq hst
  intro g k b hb
  by_cases h1 : k = i + 1 ∧ ag g f (i + 1)
  · rw [(hw g k).1 h1] at hb
    cases hb
    refine Or.inl ⟨hnq, fun r hr hs => ?_⟩
    have hex : S f (i + 1) := hSE f (i + 1) (Or.inr ⟨r, hr, by rw [hs.1, h1.1]; exact Nat.le_refl _, by rw [← h1.1]; exact hs.2.tr (by rw [h1.1]; exact h1.2)⟩)
    obtain ⟨b, hb⟩ := (hI.1 f (i + 1)).mpr hex
    simp only [twk, ha, Option.bind_some] at hb
    rw [hn] at hb
    cases hb
  · rw [(hw g k).2 h1] at hb
    have hbq : b ≠ q := fun z => hq g k (by rw [hb, z])
    rw [hnu b hbq]
    exact h g k b hb
