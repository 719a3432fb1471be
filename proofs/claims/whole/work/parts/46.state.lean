/-! THE BOOK'S STATE, and how the class holds it -/
def dpS (E : List rwT) (sz : Nat) (f : Nat → Int32) (dp : Nat) : Prop := dp ≤ sz ∧ sE E f dp ∧ (dp = sz ∨ ¬ sE E f (dp + 1))
theorem dp_ex (E : List rwT) (f : Nat → Int32) (sz : Nat) : ∃ dp, dpS E sz f dp := by
  induction sz with
  | zero => exact ⟨0, Nat.le_refl _, Or.inl rfl, Or.inl rfl⟩
  | succ n ih =>
    obtain ⟨dp, h1, h2, h3⟩ := ih
    rcases h3 with rfl | h3
    · by_cases h : sE E f (dp + 1)
      · exact ⟨dp + 1, Nat.le_refl _, h, Or.inl rfl⟩
      · exact ⟨dp, Nat.le_succ _, h2, Or.inr h⟩
    · exact ⟨dp, by omega, h2, Or.inr h3⟩
theorem sE_down {E : List rwT} {f : Nat → Int32} {i k : Nat} (h : sE E f i) (hk : k ≤ i) : sE E f k := by
  rcases h with rfl | ⟨r, h1, h2, h3⟩
  · exact Or.inl (by omega)
  · exact Or.inr ⟨r, h1, by omega, h3.le hk⟩
theorem dpS_un {E : List rwT} {f : Nat → Int32} {sz a b : Nat} (h1 : dpS E sz f a) (h2 : dpS E sz f b) : a = b := by
  obtain ⟨a1, a2, a3⟩ := h1
  obtain ⟨b1, b2, b3⟩ := h2
  rcases Nat.lt_trichotomy a b with h | h | h
  · rcases a3 with z | z
    · omega
    · exact absurd (sE_down b2 h) z
  · exact h
  · rcases b3 with z | z
    · omega
    · exact absurd (sE_down a2 h) z
theorem sE_app {E : List rwT} {m : Nat} {f g x : Nat → Int32} {k : Nat} : sE (E ++ [(m, f, g)]) x k ↔ sE E x k ∨ (k ≤ m ∧ ag x f k) := by
  constructor
  · rintro (h | ⟨r, h1, h2, h3⟩)
    · exact Or.inl (Or.inl h)
    · rcases List.mem_append.mp h1 with h | h
      · exact Or.inl (Or.inr ⟨r, h, h2, h3⟩)
      · rw [List.mem_singleton] at h
        subst h
        exact Or.inr ⟨h2, h3.sm⟩
  · rintro ((h | ⟨r, h1, h2, h3⟩) | ⟨h1, h2⟩)
    · exact Or.inl h
    · exact Or.inr ⟨r, List.mem_append_left _ h1, h2, h3⟩
    · exact Or.inr ⟨(m, f, g), List.mem_append_right _ (List.mem_singleton.mpr rfl), h1, h2.sm⟩
theorem sE_set {E : List rwT} {m e : Nat} {f g x : Nat → Int32} {k : Nat} {r0 : rwT} (he : E[e]? = some r0) (h0 : sm r0 m f) : sE (E.set e (m, f, g)) x k ↔ sE E x k ∨ (k ≤ m ∧ ag x f k) := by
  have hl := (List.getElem?_eq_some_iff.mp he).1
  constructor
  · rintro (h | ⟨r, h1, h2, h3⟩)
    · exact Or.inl (Or.inl h)
    · rcases List.mem_or_eq_of_mem_set h1 with h | h
      · exact Or.inl (Or.inr ⟨r, h, h2, h3⟩)
      · subst h
        exact Or.inr ⟨h2, h3.sm⟩
  · have hnew : (m, f, g) ∈ E.set e (m, f, g) := List.mem_of_getElem? (List.getElem?_set_self hl)
    rintro ((h | ⟨r, h1, h2, h3⟩) | ⟨h1, h2⟩)
    · exact Or.inl h
    · obtain ⟨j, hj⟩ := List.getElem?_of_mem h1
      by_cases hje : e = j
      · subst hje
        rw [he] at hj
        cases hj
        have h5 : k ≤ m := by rw [← h0.1]; exact h2
        exact Or.inr ⟨_, hnew, h5, ((h0.2.le h5).sm).tr h3⟩
      · exact Or.inr ⟨r, List.mem_of_getElem? (i := j) (by rw [List.getElem?_set_ne hje]; exact hj), h2, h3⟩
    · exact Or.inr ⟨(m, f, g), hnew, h1, h2.sm⟩
/-- a tree in the heap with its entries -/
def bt (G : hG) (M : hM) (root : Nat) (τ : tau) (E : List rwT) : Prop := trH G M root τ ∧ trI (tst τ) root (sE E) ∧ trC (tst τ) root (tnu τ) (tnv τ) E
theorem bt.kept {G : hG} {M M' : hM} {root : Nat} {τ : tau} {E : List rwT} (h : bt G M root τ E) {S : Nat → Prop} (hk : hm_kp S M M') (h1 : ∀ a ∈ tL τ, ¬ S a) (h2 : ∀ a ∈ tL τ, ∀ q, tnu τ a = some q → ¬ S q) : bt G M' root τ E := ⟨h.1.kept hk h1 h2, h.2⟩
theorem nd_ne {G : hG} {M : hM} {root b : Nat} {τ : tau} {e : va_E} (h : trH G M root τ) (hb : M b = some e) (he : ∀ s fc ns nu, e ≠ cNd s fc ns nu) : ∀ a ∈ tL τ, a ≠ b := fun a ha z => by
  have h1 := h.2.1 a ha
  rw [z, hb] at h1
  exact he _ _ _ _ (Option.some.inj h1)
theorem nu_ne {G : hG} {M : hM} {root b : Nat} {τ : tau} {e : va_E} (h : trH G M root τ) (hb : M b = some e) (he : ∀ f, e ≠ aI G 66 f) : ∀ a ∈ tL τ, ∀ q, tnu τ a = some q → q ≠ b := fun a ha q hq z => by
  have h1 := h.2.2.2.2 a ha q hq
  rw [z, hb] at h1
  exact he _ (Option.some.inj h1)
def bsep (K : Nat → Prop) (τ : tau) (rnm anm : Nat) : Prop := (∀ a ∈ tL τ, ¬ K a) ∧ ∀ a ∈ tL τ, ∀ q, tnu τ a = some q → ¬ K q ∧ q ≠ rnm ∧ q ≠ anm
theorem bt_dp {G : hG} {M : hM} {root : Nat} {τ : tau} {E : List rwT} (h : bt G M root τ E) {f : Nat → Int32} {sz dp : Nat} (hd : dpS E sz f dp) : (∃ a, twk (tst τ) root f dp = some a) ∧ (dp = sz ∨ twk (tst τ) root f (dp + 1) = none) := by
  refine ⟨(h.2.1.1 f dp).mpr hd.2.1, hd.2.2.imp id (fun z => ?_)⟩
  cases hb : twk (tst τ) root f (dp + 1) with
  | none => rfl
  | some b => exact absurd ((h.2.1.1 f (dp + 1)).mp ⟨b, hb⟩) z
theorem bt_none {G : hG} {M : hM} {root : Nat} {τ : tau} {E : List rwT} (h : bt G M root τ E) {f : Nat → Int32} {sz : Nat} (hn : (twk (tst τ) root f sz).bind (tnu τ) = none) : ∀ r ∈ E, ¬ sm r sz f := by
  intro r hr hs
  obtain ⟨a, ha⟩ := (h.2.1.1 f sz).mpr (Or.inr ⟨r, hr, by rw [hs.1]; exact Nat.le_refl _, hs.2⟩)
  rcases h.2.2 f sz a ha with ⟨h1, h2⟩ | ⟨q, r', h1, -⟩
  · exact h2 r hr hs
  · rw [ha, Option.bind_some, h1] at hn
    cases hn
theorem bt_some {G : hG} {M : hM} {root : Nat} {τ : tau} {E : List rwT} (h : bt G M root τ E) {f : Nat → Int32} {sz y : Nat} (hn : (twk (tst τ) root f sz).bind (tnu τ) = some y) : ∃ r ∈ E, sm r sz f ∧ g66 (tnv τ y) r.2.2 := by
  obtain ⟨a, ha, hy⟩ := nb_some hn
  rcases h.2.2 f sz a ha with ⟨h1, -⟩ | ⟨q, r', h1, h2, h3, h4⟩
  · rw [hy] at h1; cases h1
  · rw [hy] at h1
    cases h1
    exact ⟨r', h2, h3, h4⟩
def bkB (G : hG) (K : Nat → Prop) (dr : Nat → Int32) (dn lf rt : Nat) (P : List rwT) (bg : Nat) (X : List rwT) (ak : Bool) (an : Nat) (av : Nat → Int32) (x d pt xt rr ar pro xro xbg rsg rnm rsz asg anm : Nat) (rf rg af : Nat → Int32) (τp τx : tau) (M : hM) : Prop :=
  hm_has M [(x, cBk d dn lf rt pt xt rr ar), (d, aI G 200 dr), (pt, cTr pro P.length bg), (xt, cTr xro X.length xbg), (rr, cRw rsg rnm rsz), (rsg, aI G 65 rf), (rnm, aI G 66 rg), (ar, cRw asg anm (if ak then an + 2 else 0)), (asg, aI G 65 af), (anm, aI G 66 av)] ∧
  bt G M pro τp P ∧ bt G M xro τx X ∧ bsep K τp rnm anm ∧ bsep K τx rnm anm ∧ (∀ a ∈ tL τp, a ∉ tL τx) ∧ (∀ a ∈ [x, d, pt, xt, rr, rsg, rnm, ar, asg, anm], ¬ K a) ∧ xbg ≤ 65 * X.length
def bkR (G : hG) (K : Nat → Prop) (x : Nat) (dr : Nat → Int32) (dn lf rt : Nat) (P : List rwT) (bg : Nat) (X : List rwT) (ak : Bool) (an : Nat) (av : Nat → Int32) (M : hM) : Prop := ∃ (d pt xt rr ar pro xro xbg rsg rnm rsz asg anm : Nat) (rf rg af : Nat → Int32) (τp τx : tau), bkB G K dr dn lf rt P bg X ak an av x d pt xt rr ar pro xro xbg rsg rnm rsz asg anm rf rg af τp τx M
/-- what others do beside the book leaves it -/
theorem bkR.kept {G : hG} {K : Nat → Prop} {x : Nat} {dr : Nat → Int32} {dn lf rt : Nat} {P : List rwT} {bg : Nat} {X : List rwT} {ak : Bool} {an : Nat} {av : Nat → Int32} {M M' : hM} (h : bkR G K x dr dn lf rt P bg X ak an av M) (hk : hm_kp K M M') : bkR G K x dr dn lf rt P bg X ak an av M' := by
  obtain ⟨d, pt, xt, rr, ar, pro, xro, xbg, rsg, rnm, rsz, asg, anm, rf, rg, af, τp, τx, hw, h1, h2, h3, h4, h5, h6, h7⟩ := h
  refine ⟨d, pt, xt, rr, ar, pro, xro, xbg, rsg, rnm, rsz, asg, anm, rf, rg, af, τp, τx, hw.keptS hk (fun q hq => h6 q.1 ?_), h1.kept hk h3.1 (fun a ha q hq => (h3.2 a ha q hq).1), h2.kept hk h4.1 (fun a ha q hq => (h4.2 a ha q hq).1), h3, h4, h5, h6, h7⟩
  simp only [List.mem_cons, List.not_mem_nil, or_false] at hq ⊢
  rcases hq with rfl | rfl | rfl | rfl | rfl | rfl | rfl | rfl | rfl | rfl <;> simp
/-- a tree stays, whatever is written to cells that are no nodes and none of its numbers -/
theorem bt.keptL {G : hG} {M M' : hM} {root : Nat} {τ : tau} {E : List rwT} (h : bt G M root τ E) {L : List Nat} (hk : hm_kp (fun a => a ∈ L) M M') (hL : ∀ b ∈ L, (∀ a ∈ tL τ, a ≠ b) ∧ ∀ a ∈ tL τ, ∀ q, tnu τ a = some q → q ≠ b) : bt G M' root τ E :=
  h.kept hk (fun a ha z => (hL a z).1 a ha rfl) (fun a ha q hq z => (hL q z).2 a ha q hq rfl)
theorem bt.ok {G : hG} {M : hM} {root b : Nat} {τ : tau} {E : List rwT} {e : va_E} (h : bt G M root τ E) (hb : M b = some e) (he : (∀ s fc ns nu, e ≠ cNd s fc ns nu) ∧ ∀ f, e ≠ aI G 66 f) : (∀ a ∈ tL τ, a ≠ b) ∧ ∀ a ∈ tL τ, ∀ q, tnu τ a = some q → q ≠ b := ⟨nd_ne h.1 hb he.1, nu_ne h.1 hb he.2⟩
theorem bt.ok6 {G : hG} {M : hM} {root b : Nat} {τ : tau} {E : List rwT} {f : Nat → Int32} (h : bt G M root τ E) (hb : M b = some (aI G 66 f)) (hq : ∀ a ∈ tL τ, ∀ q, tnu τ a = some q → q ≠ b) : (∀ a ∈ tL τ, a ≠ b) ∧ ∀ a ∈ tL τ, ∀ q, tnu τ a = some q → q ≠ b := ⟨nd_ne h.1 hb (fun _ _ _ _ z => by cases z), hq⟩
theorem ne_bk {G : hG} {d dn lf rt pt xt rr ar : Nat} : (∀ s fc ns nu, cBk d dn lf rt pt xt rr ar ≠ cNd s fc ns nu) ∧ ∀ f, cBk d dn lf rt pt xt rr ar ≠ aI G 66 f := ⟨fun _ _ _ _ z => by simp at z, fun _ z => by cases z⟩
theorem ne_rw {G : hG} {a b c : Nat} : (∀ s fc ns nu, cRw a b c ≠ cNd s fc ns nu) ∧ ∀ f, cRw a b c ≠ aI G 66 f := ⟨fun _ _ _ _ z => by simp at z, fun _ z => by cases z⟩
theorem ne_tr {G : hG} {a b c : Nat} : (∀ s fc ns nu, cTr a b c ≠ cNd s fc ns nu) ∧ ∀ f, cTr a b c ≠ aI G 66 f := ⟨fun _ _ _ _ z => by simp at z, fun _ z => by cases z⟩
theorem ne_65 {G : hG} {f : Nat → Int32} : (∀ s fc ns nu, aI G 65 f ≠ cNd s fc ns nu) ∧ ∀ g, aI G 65 f ≠ aI G 66 g := ⟨fun _ _ _ _ z => (by cases z), fun _ z => (by simp at z)⟩
theorem ne_200 {G : hG} {f : Nat → Int32} : (∀ s fc ns nu, aI G 200 f ≠ cNd s fc ns nu) ∧ ∀ g, aI G 200 f ≠ aI G 66 g := ⟨fun _ _ _ _ z => (by cases z), fun _ z => (by simp at z)⟩
