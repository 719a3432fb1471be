/-! HOW THE MODEL HOLDS THE BOOK'S STATE -/
def mdp (P : List rwT) (fb fs fn : Nat → Int32) (o : Nat → Nat) : Prop :=
  o 0 = 0 ∧ (∀ p, p ≤ P.length → fb p = nI (o p)) ∧ ∀ p r, P[p]? = some r → o (p + 1) = o p + r.1 ∧ (∀ j, j < r.1 → fs (o p + j) = r.2.1 j) ∧ ∀ j, j < r.1 + 1 → fn (o p + p + j) = r.2.2 j
theorem mdp.mo {P : List rwT} {fb fs fn : Nat → Int32} {o : Nat → Nat} (h : mdp P fb fs fn o) {p : Nat} (hp : p < P.length) : o p ≤ o (p + 1) := by
  have := (h.2.2 p _ (List.getElem?_eq_getElem hp)).1
  omega
theorem mono_le {o : Nat → Nat} {n : Nat} (h : ∀ p, p < n → o p ≤ o (p + 1)) : ∀ p, p ≤ n → o p ≤ o n := by
  induction n with
  | zero => intro p hp; obtain rfl : p = 0 := by omega
            exact Nat.le_refl _
  | succ n ih =>
    intro p hp
    rcases Nat.lt_or_ge n p with q | q
    · obtain rfl : p = n + 1 := by omega
      exact Nat.le_refl _
    · exact Nat.le_trans (ih (fun k hk => h k (by omega)) p q) (h n (by omega))
theorem mdp.le {P : List rwT} {fb fs fn : Nat → Int32} {o : Nat → Nat} (h : mdp P fb fs fn o) : ∀ p, p ≤ P.length → o p ≤ o P.length := mono_le (fun _ hp => h.mo hp)
theorem mdp.up {P : List rwT} {fb fs fn : Nat → Int32} {o : Nat → Nat} (h : mdp P fb fs fn o) {p : Nat} {r : rwT} (hr : P[p]? = some r) : p < P.length ∧ o p + r.1 ≤ o P.length := by
  have hl := (List.getElem?_eq_some_iff.mp hr).1
  have h1 := (h.2.2 p r hr).1
  have h2 := h.le (p + 1) (by omega)
  omega
/-- what is written behind the last pattern changes nothing -/
theorem mdp.above {P : List rwT} {fb fs fn f9 g9 : Nat → Int32} {o : Nat → Nat} (h : mdp P fb fs fn o) (hf : ∀ j, j < o P.length → f9 j = fs j) (hg : ∀ j, j < o P.length + P.length → g9 j = fn j) : mdp P fb f9 g9 o := by
  refine ⟨h.1, h.2.1, fun p r hr => ?_⟩
  obtain ⟨h1, h2, h3⟩ := h.2.2 p r hr
  obtain ⟨h4, h5⟩ := h.up hr
  exact ⟨h1, fun j hj => by rw [hf _ (by omega)]; exact h2 j hj, fun j hj => by rw [hg _ (by omega)]; exact h3 j hj⟩
theorem mdp.app {P : List rwT} {fb f9 g9 fc gc : Nat → Int32} {o : Nat → Nat} {m : Nat} (h : mdp P fb f9 g9 o) (hf : ∀ j, j < m → f9 (o P.length + j) = fc j) (hg : ∀ j, j < m + 1 → g9 (o P.length + P.length + j) = gc j) :
    mdp (P ++ [(m, fc, gc)]) (upd fb (P.length + 1) (nI (o P.length + m))) f9 g9 (fun k => if k ≤ P.length then o k else o P.length + m) := by
  refine ⟨by simp [h.1], fun p hp => ?_, fun p r hr => ?_⟩
  · rw [List.length_append, List.length_singleton] at hp
    by_cases hpn : p = P.length + 1
    · subst hpn
      rw [upd_self]
      show nI _ = nI (if P.length + 1 ≤ P.length then _ else _)
      rw [if_neg (by omega)]
    · rw [upd_ne hpn]
      have hle : p ≤ P.length := by omega
      simp only [hle, if_true]
      exact h.2.1 p hle
  · rcases Nat.lt_or_ge p P.length with q | q
    · rw [List.getElem?_append_left q] at hr
      obtain ⟨h1, h2, h3⟩ := h.2.2 p r hr
      simp only [show p + 1 ≤ P.length by omega, show p ≤ P.length by omega, if_true]
      exact ⟨h1, h2, h3⟩
    · rw [List.getElem?_append_right q] at hr
      have hp : p = P.length := by
        have := (List.getElem?_eq_some_iff.mp hr).1
        simp at this
        omega
      subst hp
      rw [Nat.sub_self] at hr
      cases hr
      simp only [show ¬ P.length + 1 ≤ P.length by omega, Nat.le_refl, if_true, if_false]
      exact ⟨trivial, hf, hg⟩
theorem pt_same {P : List rwT} {fb fs fn d : Nat → Int32} {o : Nat → Nat} {m : Nat} {h0 : Nat → Int32} (h : mdp P fb fs fn o) (hf : ∀ j, j < m → fs (o P.length + j) = h0 j) : (∃ q, q < P.length ∧ (cmP o fs (o P.length) m q m ∧ o (q + 1) = o q + m)) ↔ ∃ r ∈ P, sm r m h0 := by
  constructor
  · rintro ⟨q, h1, h2, h3⟩
    have hr := List.getElem?_eq_getElem h1
    obtain ⟨k1, k2, k3⟩ := h.2.2 q _ hr
    refine ⟨P[q], List.mem_of_getElem? hr, by omega, fun j hj => ?_⟩
    rw [← k2 j (by omega), h2.2.2.1 j hj]
    exact hf j hj
  · rintro ⟨r, hr, h1, h2⟩
    obtain ⟨q, hq⟩ := List.getElem?_of_mem hr
    obtain ⟨k1, k2, k3⟩ := h.2.2 q r hq
    exact ⟨q, (h.up hq).1, ⟨Nat.le_refl _, by omega, fun j hj => by rw [k2 j (by omega), hf j hj]; exact h2 j hj, Or.inl rfl⟩, by omega⟩
theorem cm_ex {o : Nat → Nat} {f : Nat → Int32} {a m p : Nat} (hmo : o p ≤ o (p + 1)) : ∀ k, k ≤ m → o p + k ≤ o (p + 1) → (∀ j, j < k → f (o p + j) = f (a + j)) → ∃ k2, k ≤ k2 ∧ cmP o f a m p k2 := by
  intro k hk
  induction hd : m - k generalizing k with
  | zero =>
    intro h1 h2
    exact ⟨k, Nat.le_refl _, hk, h1, h2, Or.inl (by omega)⟩
  | succ n ih =>
    intro h1 h2
    by_cases h3 : o p + k = o (p + 1)
    · exact ⟨k, Nat.le_refl _, hk, h1, h2, Or.inr (Or.inl h3)⟩
    · by_cases h4 : f (o p + k) = f (a + k)
      · obtain ⟨k2, h5, h6⟩ := ih (k + 1) (by omega) (by omega) (by omega) (lt_S h2 h4)
        exact ⟨k2, by omega, h6⟩
      · exact ⟨k, Nat.le_refl _, hk, h1, h2, Or.inr (Or.inr h4)⟩
theorem pt_dp {P : List rwT} {fb fs fn : Nat → Int32} {o : Nat → Nat} {m mo : Nat} {h0 : Nat → Int32} (h : mdp P fb fs fn o) (hf : ∀ j, j < m → fs (o P.length + j) = h0 j) (hm : mxP (cmP o fs (o P.length) m) P.length mo) (hmo : mo ≤ m) : dpS P m h0 mo := by
  refine ⟨hmo, ?_, ?_⟩
  · rcases hm.1 with z | ⟨q, h1, h2⟩
    · exact Or.inl z
    · have hr := List.getElem?_eq_getElem h1
      obtain ⟨k1, k2, k3⟩ := h.2.2 q _ hr
      have h3 := h2.2.1
      exact Or.inr ⟨P[q], List.mem_of_getElem? hr, by omega, fun j hj => by rw [← k2 j (by omega), h2.2.2.1 j hj]; exact hf j (by omega)⟩
  · rcases Nat.lt_or_ge mo m with z | z
    · refine Or.inr ?_
      rintro (y | ⟨r, hr, h1, h2⟩)
      · omega
      · obtain ⟨q, hq⟩ := List.getElem?_of_mem hr
        obtain ⟨k1, k2, k3⟩ := h.2.2 q r hq
        obtain ⟨k9, h5, h6⟩ := cm_ex (o := o) (f := fs) (a := o P.length) (m := m) (p := q) (by omega) (mo + 1) (by omega) (by omega) (fun j hj => by rw [k2 j (by omega), hf j (by omega)]; exact h2 j hj)
        have := hm.2 q (h.up hq).1 k9 h6
        omega
    · exact Or.inl (by omega)
theorem dpS_ag {E : List rwT} {sz dp : Nat} {f g : Nat → Int32} (h : dpS E sz f dp) (hf : ag f g sz) : dpS E sz g dp := by
  have key : ∀ {f g : Nat → Int32} {i : Nat}, ag f g sz → i ≤ sz → sE E f i → sE E g i := by
    rintro f g i hf hi (z | ⟨r, h1, h2, h3⟩)
    · exact Or.inl z
    · exact Or.inr ⟨r, h1, h2, h3.tr (hf.le hi)⟩
  obtain ⟨h1, h2, h3⟩ := h
  refine ⟨h1, key hf h1 h2, ?_⟩
  rcases h3 with z | z
  · exact Or.inl z
  · rcases Nat.lt_or_ge dp sz with y | y
    · exact Or.inr (fun w => z (key hf.sm (by omega) w))
    · exact Or.inl (by omega)
/-! exceptions -/
def mdx (X : List rwT) (ff fl : Nat → Int32) (fp : Nat → Int64) (ox : Nat → Nat) : Prop :=
  ox 0 = 0 ∧ (∀ e, e ≤ X.length → ff e = nI (ox e)) ∧ ∀ e r, X[e]? = some r → ox (e + 1) + 2 = ox e + r.1 ∧ ox e ≤ ox (e + 1) ∧ (∀ j, ox e + j < ox (e + 1) → fl (ox e + j) = r.2.1 (j + 1)) ∧ fp e = cutN (fun j => decide ((r.2.2 (j + 1)).toInt = 1)) 64
theorem mdx.mo {X : List rwT} {ff fl : Nat → Int32} {fp : Nat → Int64} {ox : Nat → Nat} (h : mdx X ff fl fp ox) {e : Nat} (he : e < X.length) : ox e ≤ ox (e + 1) := (h.2.2 e _ (List.getElem?_eq_getElem he)).2.1
theorem mdx.le {X : List rwT} {ff fl : Nat → Int32} {fp : Nat → Int64} {ox : Nat → Nat} (h : mdx X ff fl fp ox) : ∀ e, e ≤ X.length → ox e ≤ ox X.length := mono_le (fun _ he => h.mo he)
theorem mdx.up {X : List rwT} {ff fl : Nat → Int32} {fp : Nat → Int64} {ox : Nat → Nat} (h : mdx X ff fl fp ox) {e : Nat} {r : rwT} (hr : X[e]? = some r) : e < X.length ∧ ox (e + 1) ≤ ox X.length := ⟨(List.getElem?_eq_some_iff.mp hr).1, h.le (e + 1) (List.getElem?_eq_some_iff.mp hr).1⟩
theorem mdx.above {X : List rwT} {ff fl f9 : Nat → Int32} {fp : Nat → Int64} {ox : Nat → Nat} (h : mdx X ff fl fp ox) (hf : ∀ j, j < ox X.length → f9 j = fl j) : mdx X ff f9 fp ox := by
  refine ⟨h.1, h.2.1, fun e r hr => ?_⟩
  obtain ⟨h1, h2, h3, h4⟩ := h.2.2 e r hr
  have h5 := (h.up hr).2
  exact ⟨h1, h2, fun j hj => by rw [hf _ (by omega)]; exact h3 j hj, h4⟩
def xrow (r : rwT) : Prop := 3 ≤ r.1 ∧ r.1 ≤ 65 ∧ r.2.1 0 = 46 ∧ r.2.1 (r.1 - 1) = 46 ∧ ∀ j, r.2.2 j = 0 ∨ r.2.2 j = 1
/-- the model finds an exception where the class does -/
theorem fd_sm {X : List rwT} {ff fl : Nat → Int32} {fp : Nat → Int64} {ox : Nat → Nat} {n e : Nat} {w : Nat → Int32} {r : rwT} (h : mdx X ff fl fp ox) (hr : X[e]? = some r) (hx : xrow r) (hw : ∀ j, j < n → fl (ox X.length + j) = w j) : fdP ox fl X.length n e ↔ sm r (n + 2) (wrow w n) := by
  obtain ⟨h1, h2, h3, h4⟩ := h.2.2 e r hr
  obtain ⟨x1, x2, x3, x4, x5⟩ := hx
  constructor
  · rintro ⟨f1, f2⟩
    have e1 : r.1 = n + 2 := by omega
    refine ⟨e1, fun j hj => ?_⟩
    by_cases j0 : j = 0
    · subst j0
      rw [x3]
      rfl
    · by_cases jn : j = n + 1
      · subst jn
        rw [e1] at x4
        rw [show n + 2 - 1 = n + 1 by omega] at x4
        rw [x4]
        simp [wrow, show ¬ n + 1 ≤ n by omega]
      · have := f2 (j - 1) (by omega)
        rw [h3 (j - 1) (by omega), hw (j - 1) (by omega), show j - 1 + 1 = j by omega] at this
        rw [this]
        simp [wrow, j0, show j ≤ n by omega]
  · rintro ⟨g1, g2⟩
    refine ⟨by omega, fun j hj => ?_⟩
    rw [h3 j (by omega), hw j hj, g2 (j + 1) (by omega)]
    simp [wrow, show j + 1 ≤ n by omega]
theorem mdx.app {X : List rwT} {ff f9 fc gc : Nat → Int32} {fp : Nat → Int64} {ox : Nat → Nat} {n : Nat} {cu : Int64} (h : mdx X ff f9 fp ox) (hf : ∀ j, j < n → f9 (ox X.length + j) = fc (j + 1)) (hc : cu = cutN (fun j => decide ((gc (j + 1)).toInt = 1)) 64) :
    mdx (X ++ [(n + 2, fc, gc)]) (upd ff (X.length + 1) (nI (ox X.length + n))) f9 (vp_updL fp X.length cu) (fun k => if k ≤ X.length then ox k else ox X.length + n) := by
  refine ⟨by simp [h.1], fun p hp => ?_, fun p r hr => ?_⟩
  · rw [List.length_append, List.length_singleton] at hp
    by_cases hpn : p = X.length + 1
    · subst hpn
      rw [upd_self]
      show nI _ = nI (if X.length + 1 ≤ X.length then _ else _)
      rw [if_neg (by omega)]
    · rw [upd_ne hpn]
      have hle : p ≤ X.length := by omega
      simp only [hle, if_true]
      exact h.2.1 p hle
  · rcases Nat.lt_or_ge p X.length with q | q
    · rw [List.getElem?_append_left q] at hr
      obtain ⟨h1, h2, h3, h4⟩ := h.2.2 p r hr
      simp only [show p + 1 ≤ X.length by omega, show p ≤ X.length by omega, if_true]
      refine ⟨h1, h2, h3, ?_⟩
      rw [← h4]
      simp [vp_updL, show p ≠ X.length by omega]
    · rw [List.getElem?_append_right q] at hr
      have hp : p = X.length := by
        have := (List.getElem?_eq_some_iff.mp hr).1
        simp at this
        omega
      subst hp
      rw [Nat.sub_self] at hr
      cases hr
      simp only [show ¬ X.length + 1 ≤ X.length by omega, Nat.le_refl, if_true, if_false]
      exact ⟨by omega, by omega, fun j hj => hf j (by omega), by rw [← hc]; simp [vp_updL]⟩
theorem mdx.set {X : List rwT} {ff f9 fc gc : Nat → Int32} {fp : Nat → Int64} {ox : Nat → Nat} {n e : Nat} {cu : Int64} {r0 : rwT} (h : mdx X ff f9 fp ox) (he : X[e]? = some r0) (h0 : sm r0 (n + 2) fc) (hc : cu = cutN (fun j => decide ((gc (j + 1)).toInt = 1)) 64) :
    mdx (X.set e (n + 2, fc, gc)) ff f9 (vp_updL fp e cu) ox := by
  have hl := (List.getElem?_eq_some_iff.mp he).1
  refine ⟨h.1, fun p hp => h.2.1 p (by rw [List.length_set] at hp; exact hp), fun p r hr => ?_⟩
  by_cases hpe : e = p
  · subst hpe
    rw [List.getElem?_set_self hl] at hr
    cases hr
    obtain ⟨h1, h2, h3, h4⟩ := h.2.2 e r0 he
    have e1 := h0.1
    exact ⟨by dsimp only; omega, h2, fun j hj => by rw [h3 j hj]; exact h0.2 (j + 1) (by omega), by rw [← hc]; simp [vp_updL]⟩
  · rw [List.getElem?_set_ne hpe] at hr
    obtain ⟨h1, h2, h3, h4⟩ := h.2.2 p r hr
    refine ⟨h1, h2, h3, ?_⟩
    rw [← h4]
    simp [vp_updL, show p ≠ e from fun z => hpe z.symm]
