/-! entering a row: the pure steps -/
theorem hm_kp.trN {S T : Nat → Prop} {M0 M M1 : hM} (h : hm_kp S M0 M) (h2 : hm_kp T M M1) (hT : ∀ b, T b → S b ∨ M0 b = none) : hm_kp S M0 M1 := fun a e ha hs => h2 a e (h a e ha hs) (fun z => by
  rcases hT a z with q | q
  · exact hs q
  · rw [q] at ha; cases ha)
theorem hm_has.keptA {M M1 : hM} {ws : va_W} {a : Nat} {e0 : va_E} (hw : hm_has M ws) (hk : hm_kp (fun b => b ∈ [a]) M M1) (ha : M a = some e0) (hne : ∀ q ∈ ws, q.2 ≠ e0) : hm_has M1 ws := ⟨hw.1, fun q hq => hk q.1 q.2 (hw.2 q hq) (fun z => by
  have z : q.1 = a := by simpa using z
  have h1 := hw.2 q hq
  rw [z, ha] at h1
  exact hne q hq (Option.some.inj h1).symm)⟩
theorem hm_has.keptS {M M1 : hM} {ws : va_W} {S : Nat → Prop} (hw : hm_has M ws) (hk : hm_kp S M M1) (hS : ∀ q ∈ ws, ¬ S q.1) : hm_has M1 ws := ⟨hw.1, fun q hq => hk q.1 q.2 (hw.2 q hq) (hS q hq)⟩
theorem en_f {st st1 : Nat → Int32 → Option Nat} {root i sz dp y : Nat} {S0 : (Nat → Int32) → Nat → Prop} {f : Nat → Int32} (hI : trI st root S0) (hI1 : trI st1 root (fun x k => S0 x k ∨ (k ≤ i ∧ ag x f k))) (hy : twk st1 root f (i + 1) = some y) (hi : i < sz) (hd2 : dp = sz ∨ twk st root f (dp + 1) = none) : i < dp := by
  rcases (hI1.1 f (i + 1)).mp ⟨y, hy⟩ with z | z
  · obtain ⟨b, hb⟩ := (hI.1 f (i + 1)).mpr z
    rcases Nat.lt_or_ge i dp with q | q
    · exact q
    · rcases hd2 with w | w
      · omega
      · rw [twk_none w (by omega)] at hb; cases hb
  · omega
theorem en_n {st st1 : Nat → Int32 → Option Nat} {root i dp : Nat} {S0 : (Nat → Int32) → Nat → Prop} {f : Nat → Int32} (hI : trI st root S0) (hI1 : trI st1 root (fun x k => S0 x k ∨ (k ≤ i ∧ ag x f k))) (hn : twk st1 root f (i + 1) = none) (hd1 : ∃ a, twk st root f dp = some a) : dp ≤ i := by
  rcases Nat.lt_or_ge i dp with q | q
  · obtain ⟨b, hb⟩ := hd1
    obtain ⟨c, hc⟩ := twk_down (k := i + 1) (by omega) hb
    obtain ⟨d, hd⟩ := (hI1.1 f (i + 1)).mpr (Or.inl ((hI.1 f (i + 1)).mp ⟨c, hc⟩))
    rw [hn] at hd
    cases hd
  · exact q
theorem en_ext {st1 : Nat → Int32 → Option Nat} {root i y : Nat} {S0 : (Nat → Int32) → Nat → Prop} {f : Nat → Int32} (hI1 : trI st1 root (fun x k => S0 x k ∨ (k ≤ i ∧ ag x f k))) (hy : twk st1 root f (i + 1) = some y) : trI st1 root (fun x k => S0 x k ∨ (k ≤ i + 1 ∧ ag x f k)) := by
  refine trI_ext hI1 (fun g k => ⟨fun z => ?_, fun z => ?_⟩)
  · rcases z with z | ⟨z1, z2⟩
    · exact Or.inl z
    · rcases Nat.lt_or_ge i k with q | q
      · obtain rfl : k = i + 1 := by omega
        exact (hI1.1 g (i + 1)).mp ⟨y, by rw [twk_ag z2]; exact hy⟩
      · exact Or.inr ⟨q, z2⟩
  · rcases z with z | ⟨z1, z2⟩
    · exact Or.inl z
    · exact Or.inr ⟨by omega, z2⟩
theorem en_new {G : hG} {M : hM} {root a q i : Nat} {τ : tau} {f : Nat → Int32} {S0 : (Nat → Int32) → Nat → Prop} {E : List rwT} (htr : trH G M root τ) (hq : M q = none) (hI1 : trI (tst τ) root (fun x k => S0 x k ∨ (k ≤ i ∧ ag x f k))) (hC : trC (tst τ) root (tnu τ) (tnv τ) E) (hSE : ∀ g k, sE E g k → S0 g k) (ha : twk (tst τ) root f i = some a) (hn : tst τ a (f i) = none) :
    trI (tst (tnew τ a q (f i))) root (fun x k => S0 x k ∨ (k ≤ i + 1 ∧ ag x f k)) ∧ trC (tst (tnew τ a q (f i))) root (tnu (tnew τ a q (f i))) (tnv (tnew τ a q (f i))) E ∧ twk (tst (tnew τ a q (f i))) root f (i + 1) = some q := by
  have hqL : ∀ b ∈ tL τ, b ≠ q := fun b hb z => by
    have := htr.2.1 b hb
    rw [z, hq] at this
    cases this
  have hqn : ∀ g k, twk (tst τ) root g k ≠ some q := fun g k z => hqL q (twk_in htr z) rfl
  have hst : ∀ b c, (b = q ∨ ∃ g k, twk (tst τ) root g k = some b) → tst (tnew τ a q (f i)) b c = if b = a ∧ c = f i then some q else if b = q then none else tst τ b c := fun b c hb => tst_new htr hq hn (twk_in htr ha) b c (hb.elim Or.inl (fun ⟨g, k, z⟩ => Or.inr (twk_in htr z)))
  refine ⟨trI_new hI1 ha hn hqn hst (fun g k => ⟨fun z => ?_, fun z => ?_⟩), trC_new hI1 hC ha hn hqn hst (fun g k z => Or.inl (hSE g k z)) (fun b hb => by rw [tn_nu, if_neg hb]) (by rw [tn_nu, if_pos rfl]), (twk_new hI1 ha hn hqn hst f (i + 1)).1 ⟨rfl, ag.rf⟩⟩
  · rcases z with z | ⟨z1, z2⟩
    · exact Or.inl (Or.inl z)
    · rcases Nat.lt_or_ge i k with w | w
      · obtain rfl : k = i + 1 := by omega
        exact Or.inr ⟨rfl, z2⟩
      · exact Or.inl (Or.inr ⟨w, z2⟩)
  · rcases z with (z | ⟨z1, z2⟩) | ⟨z1, z2⟩
    · exact Or.inl z
    · exact Or.inr ⟨by omega, z2⟩
    · subst z1
      exact Or.inr ⟨Nat.le_refl _, z2⟩
theorem en_nv {G : hG} {M : hM} {root q : Nat} {τ : tau} {E : List rwT} {a : Nat} {g : Nat → Int32} (htr : trH G M root τ) (hq : M q = none) (hC : trC (tst τ) root (tnu τ) (tnv τ) E) : trC (tst τ) root (tnu τ) (tnv (tput τ a q g)) E := by
  refine trC_nv hC (fun f i b x hb hx => ?_)
  have h5 := htr.2.2.2.2 b (twk_in htr hb) x hx
  rw [tp_nv, if_neg (fun z => by rw [z, hq] at h5; cases h5)]
theorem en_app {G : hG} {M : hM} {root q m a : Nat} {τ : tau} {E : List rwT} {f g : Nat → Int32} {S : (Nat → Int32) → Nat → Prop} (hI : trI (tst τ) root S) (htr : trH G M root τ) (hq : M q = none) (hC : trC (tst τ) root (tnu τ) (tnv τ) E) (ha : twk (tst τ) root f m = some a) (hnu : tnu τ a = none) :
    (∀ r ∈ E, ¬ sm r m f) ∧ trC (tst (tput τ a q g)) root (tnu (tput τ a q g)) (tnv (tput τ a q g)) (E ++ [(m, f, g)]) := by
  have hno : ∀ r ∈ E, ¬ sm r m f := by
    rcases hC f m a ha with ⟨-, z⟩ | ⟨q2, r, z, -⟩
    · exact z
    · rw [hnu] at z; cases z
  refine ⟨hno, trC_app hI (en_nv (a := a) (g := g) htr hq hC) ha hno (fun b => tp_nu b) (fun j _ => by rw [tp_nv, if_pos rfl])⟩
theorem en_set {G : hG} {M : hM} {root q m a y : Nat} {τ : tau} {E : List rwT} {f g : Nat → Int32} {S : (Nat → Int32) → Nat → Prop} (hI : trI (tst τ) root S) (htr : trH G M root τ) (hq : M q = none) (hC : trC (tst τ) root (tnu τ) (tnv τ) E) (ha : twk (tst τ) root f m = some a) (hnu : tnu τ a = some y) :
    ∃ e r0, E[e]? = some r0 ∧ sm r0 m f ∧ trC (tst (tput τ a q g)) root (tnu (tput τ a q g)) (tnv (tput τ a q g)) (E.set e (m, f, g)) := by
  rcases hC f m a ha with ⟨z, -⟩ | ⟨q2, r, z1, z2, z3, z4⟩
  · rw [hnu] at z; cases z
  · obtain ⟨e, he⟩ := List.getElem?_of_mem z2
    exact ⟨e, r, he, z3, trC_set hI (en_nv (a := a) (g := g) htr hq hC) ha he z3 (fun b => tp_nu b) (fun j _ => by rw [tp_nv, if_pos rfl])⟩
theorem en_0 {st : Nat → Int32 → Option Nat} {root : Nat} {S0 : (Nat → Int32) → Nat → Prop} {f : Nat → Int32} (hI : trI st root S0) : trI st root (fun x k => S0 x k ∨ (k ≤ 0 ∧ ag x f k)) := by
  refine trI_ext hI (fun x k => ⟨fun z => ?_, Or.inl⟩)
  rcases z with z | ⟨z1, z2⟩
  · exact z
  · obtain rfl : k = 0 := by omega
    exact (hI.1 x 0).mp ⟨root, rfl⟩
theorem trH.upT {G : hG} {M : hM} {root t : Nat} {τ : tau} {fs : List Value} {v : Option va_E} (h : trH G M root τ) (ht : M t = some (.inr (2, fs))) : trH G (va_up M t v) root τ := by
  refine h.kept (S := fun b => b ∈ [t]) (hm_kp.up (by simp)) (fun a ha z => ?_) (fun a ha q hq z => ?_)
  · have z : a = t := by simpa using z
    have h1 := h.2.1 a ha
    rw [z, ht] at h1
    simp at h1
  · have z : q = t := by simpa using z
    have h1 := h.2.2.2.2 a ha q hq
    rw [z, ht] at h1
    simp at h1
