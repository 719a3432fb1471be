/-! TREES OF BEGINNINGS IN THE HEAP: nodes, children (in the chain's order), next in the chain, signs, where the numbers lie, the numbers -/
abbrev tau : Type := List Nat × (Nat → List Nat) × (Nat → Option Nat) × (Nat → Int32) × (Nat → Option Nat) × (Nat → Nat → Int32)
abbrev tL (τ : tau) : List Nat := τ.1
abbrev tcs (τ : tau) : Nat → List Nat := τ.2.1
abbrev tnx (τ : tau) : Nat → Option Nat := τ.2.2.1
abbrev tsg (τ : tau) : Nat → Int32 := τ.2.2.2.1
abbrev tnu (τ : tau) : Nat → Option Nat := τ.2.2.2.2.1
abbrev tnv (τ : tau) : Nat → Nat → Int32 := τ.2.2.2.2.2
abbrev tst (τ : tau) : Nat → Int32 → Option Nat := tstep (tcs τ) (tsg τ)
def trH (G : hG) (M : hM) (root : Nat) (τ : tau) : Prop :=
  root ∈ tL τ ∧ (∀ a ∈ tL τ, M a = some (cNd (tsg τ a) (tcs τ a).head? (tnx τ a) (tnu τ a))) ∧ (∀ a ∈ tL τ, ∀ b ∈ tcs τ a, b ∈ tL τ) ∧ (∀ a ∈ tL τ, ∀ (i b : Nat), (tcs τ a)[i]? = some b → tnx τ b = (tcs τ a)[i + 1]?) ∧ ∀ a ∈ tL τ, ∀ q, tnu τ a = some q → M q = some (aI G 66 (tnv τ q))
theorem trH.ch {G : hG} {M : hM} {root : Nat} {τ : tau} (h : trH G M root τ) {a : Nat} (ha : a ∈ tL τ) : ∀ (i b : Nat), (tcs τ a)[i]? = some b → ∃ fc nu9, M b = some (cNd (tsg τ b) fc (tcs τ a)[i + 1]? nu9) := by
  intro i b hb
  have hbL := h.2.2.1 a ha b (List.mem_of_getElem? hb)
  refine ⟨(tcs τ b).head?, tnu τ b, ?_⟩
  rw [← h.2.2.2.1 a ha i b hb]
  exact h.2.1 b hbL
theorem tst_in {G : hG} {M : hM} {root : Nat} {τ : tau} (h : trH G M root τ) {a b : Nat} {c : Int32} (ha : a ∈ tL τ) (hb : tst τ a c = some b) : b ∈ tL τ := h.2.2.1 a ha b (List.mem_of_find?_eq_some hb)
theorem twk_in {G : hG} {M : hM} {root : Nat} {τ : tau} (h : trH G M root τ) {f : Nat → Int32} {i a : Nat} (ha : twk (tst τ) root f i = some a) : a ∈ tL τ := by
  induction i generalizing a with
  | zero => simp only [twk] at ha; cases ha; exact h.1
  | succ i ih =>
    simp only [twk] at ha
    cases hb : twk (tst τ) root f i with
    | none => rw [hb] at ha; cases ha
    | some b => rw [hb] at ha; exact tst_in h (ih hb) ha
theorem twk_succ {st : Nat → Int32 → Option Nat} {root : Nat} {f : Nat → Int32} {i a : Nat} (h : twk st root f i = some a) : twk st root f (i + 1) = st a (f i) := by
  simp only [twk, h, Option.bind_some]
theorem twk_none {st : Nat → Int32 → Option Nat} {root : Nat} {f : Nat → Int32} {i k : Nat} (h : twk st root f i = none) (hk : i ≤ k) : twk st root f k = none := by
  cases hb : twk st root f k with
  | none => rfl
  | some b => obtain ⟨c, hc⟩ := twk_down hk hb; rw [h] at hc; cases hc
/-- the cells of a tree stay, if what changed isn't theirs -/
theorem trH.kept {G : hG} {M M' : hM} {root : Nat} {τ : tau} (h : trH G M root τ) {S : Nat → Prop} (hk : hm_kp S M M') (h1 : ∀ a ∈ tL τ, ¬ S a) (h2 : ∀ a ∈ tL τ, ∀ q, tnu τ a = some q → ¬ S q) : trH G M' root τ :=
  ⟨h.1, fun a ha => hk a _ (h.2.1 a ha) (h1 a ha), h.2.2.1, h.2.2.2.1, fun a ha q hq => hk q _ (h.2.2.2.2 a ha q hq) (h2 a ha q hq)⟩
/-- a new child -/
def tnew (τ : tau) (a q : Nat) (c : Int32) : tau :=
  (tL τ ++ [q], (fun b => if b = a then q :: tcs τ a else if b = q then [] else tcs τ b), (fun b => if b = q then (tcs τ a).head? else tnx τ b), (fun b => if b = q then c else tsg τ b), (fun b => if b = q then none else tnu τ b), tnv τ)
theorem tn_L {τ : tau} {a q : Nat} {c : Int32} : tL (tnew τ a q c) = tL τ ++ [q] := rfl
theorem tn_cs {τ : tau} {a q : Nat} {c : Int32} (b : Nat) : tcs (tnew τ a q c) b = if b = a then q :: tcs τ a else if b = q then [] else tcs τ b := rfl
theorem tn_nx {τ : tau} {a q : Nat} {c : Int32} (b : Nat) : tnx (tnew τ a q c) b = if b = q then (tcs τ a).head? else tnx τ b := rfl
theorem tn_sg {τ : tau} {a q : Nat} {c : Int32} (b : Nat) : tsg (tnew τ a q c) b = if b = q then c else tsg τ b := rfl
theorem tn_nu {τ : tau} {a q : Nat} {c : Int32} (b : Nat) : tnu (tnew τ a q c) b = if b = q then none else tnu τ b := rfl
theorem tst_eq (τ : tau) (a : Nat) (c : Int32) : tst τ a c = (tcs τ a).find? (fun b => decide (tsg τ b = c)) := rfl
theorem trH.new {G : hG} {M M' : hM} {root : Nat} {τ : tau} (h : trH G M root τ) {a q : Nat} {c : Int32} (ha : a ∈ tL τ) (hq : M q = none) (hw : hm_has M' [(a, cNd (tsg τ a) (some q) (tnx τ a) (tnu τ a)), (q, cNd c none (tcs τ a).head? none)]) (hk : hm_kp (fun b => b ∈ [a]) M M') : trH G M' root (tnew τ a q c) := by
  have hqL : ∀ b ∈ tL τ, b ≠ q := fun b hb z => by
    have := h.2.1 b hb
    rw [z, hq] at this
    cases this
  have hqa : q ≠ a := fun z => hqL a ha z.symm
  refine ⟨List.mem_append_left _ h.1, fun b hb => ?_, fun b hb d hd => ?_, fun b hb i d hd => ?_, fun b hb x hx => ?_⟩
  · by_cases hbq : b = q
    · subst hbq
      have := hw.at 1 rfl
      simpa [tn_cs, tn_nx, tn_sg, tn_nu, hqa] using this
    · have hbL : b ∈ tL τ := by
        rcases List.mem_append.mp hb with z | z
        · exact z
        · exact absurd (List.mem_singleton.mp z) hbq
      by_cases hba : b = a
      · subst hba
        have := hw.at 0 rfl
        simpa [tn_cs, tn_nx, tn_sg, tn_nu, hbq] using this
      · have := hk b _ (h.2.1 b hbL) (by simpa using hba)
        simpa [tn_cs, tn_nx, tn_sg, tn_nu, hbq, hba] using this
  · show d ∈ tL τ ++ [q]
    by_cases hbq : b = q
    · subst hbq
      simp [tn_cs, tn_nx, tn_sg, tn_nu, hqa] at hd
    · have hbL : b ∈ tL τ := by
        rcases List.mem_append.mp hb with z | z
        · exact z
        · exact absurd (List.mem_singleton.mp z) hbq
      by_cases hba : b = a
      · subst hba
        rw [tn_cs, if_pos rfl] at hd
        rcases List.mem_cons.mp hd with z | z
        · rw [z]; exact List.mem_append_right _ (List.mem_singleton.mpr rfl)
        · exact List.mem_append_left _ (h.2.2.1 b hbL d z)
      · have hd : d ∈ tcs τ b := by simpa [tn_cs, tn_nx, tn_sg, tn_nu, hbq, hba] using hd
        exact List.mem_append_left _ (h.2.2.1 b hbL d hd)
  · by_cases hbq : b = q
    · subst hbq
      simp [tn_cs, tn_nx, tn_sg, tn_nu, hqa] at hd
    · have hbL : b ∈ tL τ := by
        rcases List.mem_append.mp hb with z | z
        · exact z
        · exact absurd (List.mem_singleton.mp z) hbq
      by_cases hba : b = a
      · subst hba
        have e : tcs (tnew τ b q c) b = q :: tcs τ b := by simp [tn_cs, tn_nx, tn_sg, tn_nu]
        rw [e] at hd ⊢
        cases i with
        | zero =>
          simp at hd
          subst hd
          simp [tn_cs, tn_nx, tn_sg, tn_nu, List.head?_eq_getElem?]
        | succ i =>
          simp only [List.getElem?_cons_succ] at hd ⊢
          have hdL := h.2.2.1 b hbL d (List.mem_of_getElem? hd)
          have := h.2.2.2.1 b hbL i d hd
          simpa [tn_cs, tn_nx, tn_sg, tn_nu, hqL d hdL] using this
      · have e : tcs (tnew τ a q c) b = tcs τ b := by simp [tn_cs, tn_nx, tn_sg, tn_nu, hbq, hba]
        rw [e] at hd ⊢
        have hdL := h.2.2.1 b hbL d (List.mem_of_getElem? hd)
        have := h.2.2.2.1 b hbL i d hd
        simpa [tn_cs, tn_nx, tn_sg, tn_nu, hqL d hdL] using this
  · by_cases hbq : b = q
    · subst hbq
      simp [tn_cs, tn_nx, tn_sg, tn_nu] at hx
    · have hbL : b ∈ tL τ := by
        rcases List.mem_append.mp hb with z | z
        · exact z
        · exact absurd (List.mem_singleton.mp z) hbq
      have hx : tnu τ b = some x := by simpa [tn_cs, tn_nx, tn_sg, tn_nu, hbq] using hx
      have h5 := h.2.2.2.2 b hbL x hx
      show M' x = some (aI G 66 (tnv τ x))
      refine hk x _ h5 (fun z => ?_)
      have z : x = a := by simpa using z
      have := h.2.1 a ha
      rw [← z, h5] at this
      cases this
theorem tst_new {G : hG} {M : hM} {root : Nat} {τ : tau} (h : trH G M root τ) {a q : Nat} {c : Int32} (hq : M q = none) (hn : tst τ a c = none) (ha : a ∈ tL τ) : ∀ (b : Nat) (d : Int32), (b = q ∨ b ∈ tL τ) → tst (tnew τ a q c) b d = if b = a ∧ d = c then some q else if b = q then none else tst τ b d := by
  have hqL : ∀ b ∈ tL τ, b ≠ q := fun b hb z => by
    have := h.2.1 b hb
    rw [z, hq] at this
    cases this
  have hqa : q ≠ a := fun z => hqL a ha z.symm
  have hfind : ∀ (l : List Nat), (∀ x ∈ l, x ≠ q) → ∀ d : Int32, l.find? (fun x => decide ((if x = q then c else tsg τ x) = d)) = l.find? (fun x => decide (tsg τ x = d)) := by
    intro l hl d
    induction l with
    | nil => rfl
    | cons x t ih =>
      simp only [List.find?, hl x List.mem_cons_self, if_false]
      rw [ih (fun y hy => hl y (List.mem_cons_of_mem _ hy))]
  intro b d hb
  rcases hb with rfl | hb
  · rw [if_neg (fun z => hqa z.1), if_pos rfl]
    simp [tst_eq, tn_cs, tn_sg, hqa]
  · have hbq := hqL b hb
    have hlist : ∀ x ∈ tcs τ b, x ≠ q := fun x hx => hqL x (h.2.2.1 b hb x hx)
    by_cases hba : b = a
    · subst hba
      have e : tst (tnew τ b q c) b d = (q :: tcs τ b).find? (fun x => decide ((if x = q then c else tsg τ x) = d)) := by rw [tst_eq, tn_cs, if_pos rfl]; rfl
      rw [e]
      by_cases hd : d = c
      · subst hd
        simp [List.find?]
      · have hcd : ¬ c = d := fun z => hd z.symm
        rw [if_neg (fun z => hd z.2), if_neg hbq]
        simp only [List.find?, if_true, hcd, decide_false]
        rw [hfind _ hlist]
        rfl
    · have e : tst (tnew τ a q c) b d = (tcs τ b).find? (fun x => decide ((if x = q then c else tsg τ x) = d)) := by rw [tst_eq, tn_cs, if_neg hba, if_neg hbq]; rfl
      rw [e, if_neg (fun z => hba z.1), if_neg hbq, hfind _ hlist]
      rfl
/-- the numbers of a row that is entered: at a new place -/
def tput (τ : tau) (a q : Nat) (g : Nat → Int32) : tau := (tL τ, tcs τ, tnx τ, tsg τ, (fun b => if b = a then some q else tnu τ b), (fun x => if x = q then g else tnv τ x))
theorem tp_nu {τ : tau} {a q : Nat} {g : Nat → Int32} (b : Nat) : tnu (tput τ a q g) b = if b = a then some q else tnu τ b := rfl
theorem tp_nv {τ : tau} {a q : Nat} {g : Nat → Int32} (x : Nat) : tnv (tput τ a q g) x = if x = q then g else tnv τ x := rfl
theorem trH.put {G : hG} {M M' : hM} {root : Nat} {τ : tau} (h : trH G M root τ) {a q : Nat} {g : Nat → Int32} (ha : a ∈ tL τ) (hq : M q = none) (hw : hm_has M' [(a, cNd (tsg τ a) (tcs τ a).head? (tnx τ a) (some q)), (q, aI G 66 g)]) (hk : hm_kp (fun b => b ∈ [a]) M M') : trH G M' root (tput τ a q g) := by
  refine ⟨h.1, fun b hb => ?_, h.2.2.1, h.2.2.2.1, fun b hb x hx => ?_⟩
  · rw [tp_nu]
    by_cases hba : b = a
    · subst hba
      rw [if_pos rfl]
      exact hw.at 0 rfl
    · rw [if_neg hba]
      exact hk b _ (h.2.1 b hb) (by simpa using hba)
  · rw [tp_nu] at hx
    rw [tp_nv]
    by_cases hba : b = a
    · rw [if_pos hba] at hx
      cases hx
      rw [if_pos rfl]
      exact hw.at 1 rfl
    · rw [if_neg hba] at hx
      have h5 := h.2.2.2.2 b hb x hx
      have hxq : x ≠ q := fun z => by rw [z, hq] at h5; cases h5
      rw [if_neg hxq]
      refine hk x _ h5 (fun z => ?_)
      have z : x = a := by simpa using z
      have h6 := h.2.1 a ha
      rw [← z, h5] at h6
      cases h6
theorem trC_nv {st : Nat → Int32 → Option Nat} {root : Nat} {nu : Nat → Option Nat} {nv nv' : Nat → Nat → Int32} {E : List rwT} (h : trC st root nu nv E) (hv : ∀ f i a q, twk st root f i = some a → nu a = some q → nv' q = nv q) : trC st root nu nv' E := by
  intro f i a ha
  rcases h f i a ha with z | ⟨q, r, h1, h2, h3, h4⟩
  · exact Or.inl z
  · exact Or.inr ⟨q, r, h1, h2, h3, by rw [hv f i a q ha h1]; exact h4⟩
/-- how deep a row goes is one number -/
theorem twk_dp {st : Nat → Int32 → Option Nat} {root : Nat} {f : Nat → Int32} {dp sz i a : Nat} (h0 : dp ≤ sz) (h1 : ∃ a, twk st root f dp = some a) (h2 : dp = sz ∨ twk st root f (dp + 1) = none) (hi : i < sz) (ha : twk st root f i = some a) (hn : twk st root f (i + 1) = none) : i = dp := by
  obtain ⟨b, hb⟩ := h1
  rcases Nat.lt_trichotomy i dp with q | q | q
  · rw [twk_none hn q] at hb; cases hb
  · exact q
  · rcases h2 with z | z
    · omega
    · rw [twk_none z q] at ha; cases ha
