/-! THE HEAP AS A MAP. M a = some e: the cell at a holds e. One map for all cells of the system; a method's world is that map. -/
abbrev hM : Type := Nat → Option va_E
def hm_P (D : va_G) (cl : List vw_C) (M : hM) (H : Heap) : Prop := ∀ (a : Nat) (e : va_E), M a = some e → va_at D cl (a, e) H
def hm_A (M : hM) (sz : Nat) : Nat → Prop := fun q => (∃ e, M q = some e) ∨ sz ≤ q
/-- the world of a walk: the map, what may be written, what was there before -/
def hm_I (D : va_G) (cl : List vw_C) (A : Nat → Prop) (H0 : Heap) (M : hM) (H : Heap) (locs : List Loc) : Prop :=
  hm_P D cl M H ∧ (∀ (a : Nat) (e : va_E), M a = some e → A a) ∧ va_S A H0 H locs ∧ ∀ q, H0.size ≤ q → A q
theorem hm_P.lt {D : va_G} {cl : List vw_C} {M : hM} {H : Heap} (h : hm_P D cl M H) {a : Nat} {e : va_E} (ha : M a = some e) : a < H.size := (h a e ha).lt
theorem hm_fresh {D : va_G} {cl : List vw_C} {M : hM} {H : Heap} (h : hm_P D cl M H) {a : Nat} (ha : H.size ≤ a) : M a = none := by
  cases hm : M a with
  | none => rfl
  | some e => exact absurd (h.lt hm) (by omega)
theorem hm_pw : ∀ (n : Nat) (M : hM), ((List.range n).filterMap (fun a => (M a).map (fun e => (a, e)))).Pairwise (fun p q => p.1 < q.1) := by
  intro n M
  rw [List.pairwise_filterMap]
  refine List.Pairwise.imp ?_ List.pairwise_lt_range
  intro a b hab p hp q hq
  simp only [Option.mem_def, Option.map_eq_some_iff] at hp hq
  obtain ⟨_, _, rfl⟩ := hp
  obtain ⟨_, _, rfl⟩ := hq
  exact hab
/-- the map as a list of cells: the kit's rows speak of lists -/
theorem hm_list {D : va_G} {cl : List vw_C} {A : Nat → Prop} {M : hM} {H : Heap} (hP : hm_P D cl M H) (hA : ∀ (a : Nat) (e : va_E), M a = some e → A a) :
    ∃ ws : va_W, va_P D cl ws H ∧ va_D A ws ∧ ∀ (a : Nat) (e : va_E), M a = some e ↔ ∃ k : Nat, ws[k]? = some (a, e) := by
  have hmem : ∀ (a : Nat) (e : va_E), M a = some e ↔ (a, e) ∈ (List.range H.size).filterMap (fun a => (M a).map (fun e => (a, e))) := by
    intro a e
    rw [List.mem_filterMap]
    constructor
    · intro h
      exact ⟨a, List.mem_range.mpr (hP.lt h), by rw [h]; rfl⟩
    · rintro ⟨b, _, h⟩
      simp only [Option.map_eq_some_iff] at h
      obtain ⟨e', h1, h2⟩ := h
      cases h2
      exact h1
  have hpw := hm_pw H.size M
  refine ⟨(List.range H.size).filterMap (fun a => (M a).map (fun e => (a, e))), ?_, ⟨?_, ?_⟩, ?_⟩
  · intro k q hk
    exact hP q.1 q.2 ((hmem q.1 q.2).mpr (List.mem_of_getElem? hk))
  · intro i j p q hi hj hpq
    rw [List.pairwise_iff_getElem] at hpw
    obtain ⟨li, ei⟩ := List.getElem?_eq_some_iff.mp hi
    obtain ⟨lj, ej⟩ := List.getElem?_eq_some_iff.mp hj
    rcases Nat.lt_trichotomy i j with h | h | h
    · have := hpw i j li lj h
      rw [ei, ej] at this
      omega
    · exact h
    · have := hpw j i lj li h
      rw [ei, ej] at this
      omega
  · intro k q hk
    exact hA q.1 q.2 ((hmem q.1 q.2).mpr (List.mem_of_getElem? hk))
  · intro a e
    rw [hmem]
    constructor
    · intro h
      exact List.getElem?_of_mem h
    · rintro ⟨k, hk⟩
      exact List.mem_of_getElem? hk
theorem hm_up_self {M : hM} {a : Nat} {v : Option va_E} : va_up M a v a = v := by simp [va_up]
theorem hm_up_ne {M : hM} {a b : Nat} {v : Option va_E} (h : b ≠ a) : va_up M a v b = M b := by simp [va_up, h]
/-- a list with one cell changed is the map with it changed -/
theorem hm_set {D : va_G} {cl : List vw_C} {A : Nat → Prop} {M : hM} {ws : va_W} {H1 : Heap} {a k : Nat} {e0 e : va_E} (hD : va_D A ws) (hM : ∀ (a : Nat) (e : va_E), M a = some e ↔ ∃ k : Nat, ws[k]? = some (a, e)) (hk : ws[k]? = some (a, e0)) (hP : va_P D cl (ws.set k (a, e)) H1) :
    hm_P D cl (va_up M a (some e)) H1 := by
  have hl := (List.getElem?_eq_some_iff.mp hk).1
  intro b x hb
  by_cases h : b = a
  · subst h
    rw [hm_up_self] at hb
    cases hb
    exact hP k _ (List.getElem?_set_self hl)
  · rw [hm_up_ne h] at hb
    obtain ⟨j, hj⟩ := (hM b x).mp hb
    have hjk : k ≠ j := fun z => by
      subst z
      rw [hk] at hj
      cases hj
      exact h rfl
    exact hP j _ (by rw [List.getElem?_set_ne hjk]; exact hj)
theorem hm_setA {A : Nat → Prop} {M : hM} {a : Nat} {e0 e : va_E} (hA : ∀ (a : Nat) (e : va_E), M a = some e → A a) (ha : M a = some e0) : ∀ (b : Nat) (x : va_E), va_up M a (some e) b = some x → A b := by
  intro b x hb
  by_cases h : b = a
  · subst h
    exact hA b e0 ha
  · rw [hm_up_ne h] at hb
    exact hA b x hb
theorem hm_app {D : va_G} {cl : List vw_C} {M : hM} {ws : va_W} {H1 : Heap} {q : Nat} {e : va_E} (hM : ∀ (a : Nat) (e : va_E), M a = some e ↔ ∃ k : Nat, ws[k]? = some (a, e)) (hP : va_P D cl (ws ++ [(q, e)]) H1) :
    hm_P D cl (va_up M q (some e)) H1 := by
  intro b x hb
  by_cases h : b = q
  · subst h
    rw [hm_up_self] at hb
    cases hb
    exact hP ws.length _ (by rw [List.getElem?_append_right (Nat.le_refl _), Nat.sub_self]; rfl)
  · rw [hm_up_ne h] at hb
    obtain ⟨j, hj⟩ := (hM b x).mp hb
    exact hP j _ (by rw [List.getElem?_append_left (List.getElem?_eq_some_iff.mp hj).1]; exact hj)
theorem hm_appN {A : Nat → Prop} {M : hM} {ws : va_W} {q : Nat} {e : va_E} (hM : ∀ (a : Nat) (e : va_E), M a = some e ↔ ∃ k : Nat, ws[k]? = some (a, e)) (hD : va_D A (ws ++ [(q, e)])) : M q = none := by
  cases hq : M q with
  | none => rfl
  | some x =>
    obtain ⟨j, hj⟩ := (hM q x).mp hq
    have hl := (List.getElem?_eq_some_iff.mp hj).1
    have h1 : (ws ++ [(q, e)])[j]? = some (q, x) := by rw [List.getElem?_append_left hl]; exact hj
    have h2 : (ws ++ [(q, e)])[ws.length]? = some (q, e) := by rw [List.getElem?_append_right (Nat.le_refl _), Nat.sub_self]; rfl
    have := hD.1 _ _ _ _ h1 h2 rfl
    omega
theorem hm_appA {A : Nat → Prop} {M : hM} {ws : va_W} {q : Nat} {e : va_E} (hA : ∀ (a : Nat) (e : va_E), M a = some e → A a) (hD : va_D A (ws ++ [(q, e)])) : ∀ (b : Nat) (x : va_E), va_up M q (some e) b = some x → A b := by
  intro b x hb
  by_cases h : b = q
  · subst h
    exact hD.2 ws.length (b, e) (by rw [List.getElem?_append_right (Nat.le_refl _), Nat.sub_self]; rfl)
  · rw [hm_up_ne h] at hb
    exact hA b x hb
/-! cells of interest, by a list: each at an address of its own -/
def hm_has (M : hM) (ws : va_W) : Prop := (ws.map (fun q => q.1)).Nodup ∧ ∀ q ∈ ws, M q.1 = some q.2
theorem hm_has.at {M : hM} {ws : va_W} (h : hm_has M ws) (k : Nat) {a : Nat} {e : va_E} (hk : ws[k]? = some (a, e)) : M a = some e := h.2 (a, e) (List.mem_of_getElem? hk)
theorem hm_has.ne {M : hM} {ws : va_W} (h : hm_has M ws) (i j : Nat) {p q : Nat × va_E} (hi : ws[i]? = some p) (hj : ws[j]? = some q) (hij : i ≠ j) : p.1 ≠ q.1 := by
  intro hpq
  have h1 : (ws.map (fun q => q.1))[i]? = some p.1 := by rw [List.getElem?_map, hi]; rfl
  have h2 : (ws.map (fun q => q.1))[j]? = some p.1 := by rw [List.getElem?_map, hj, hpq]; rfl
  have li := (List.getElem?_eq_some_iff.mp h1).1
  exact hij ((List.getElem?_inj li h.1).mp (h1.trans h2.symm))
theorem hm_has.set {M : hM} {ws ws' : va_W} {a k : Nat} {e0 e : va_E} (h : hm_has M ws) (hk : ws[k]? = some (a, e0)) (hs : ws.set k (a, e) = ws') : hm_has (va_up M a (some e)) ws' := by
  subst hs
  have hl := (List.getElem?_eq_some_iff.mp hk).1
  have hmap : (ws.set k (a, e)).map (fun q => q.1) = ws.map (fun q => q.1) := by
    rw [List.map_set]
    have h9 : (ws.map (fun q => q.1))[k]? = some a := by rw [List.getElem?_map, hk]; rfl
    apply List.ext_getElem?
    intro j
    by_cases hjk : k = j
    · subst hjk
      rw [List.getElem?_set_self (by simpa using hl), h9]
    · rw [List.getElem?_set_ne hjk]
  refine ⟨by rw [hmap]; exact h.1, fun q hq => ?_⟩
  obtain ⟨j, hj⟩ := List.getElem?_of_mem hq
  by_cases hjk : k = j
  · subst hjk
    rw [List.getElem?_set_self hl] at hj
    cases hj
    exact hm_up_self
  · rw [List.getElem?_set_ne hjk] at hj
    have := h.ne j k hj hk (fun z => hjk z.symm)
    rw [hm_up_ne this]
    exact h.2 q (List.mem_of_getElem? hj)
theorem hm_has.push {M : hM} {ws ws' : va_W} {q : Nat} {e : va_E} (h : hm_has M ws) (hq : M q = none) (hs : ws ++ [(q, e)] = ws') : hm_has (va_up M q (some e)) ws' := by
  subst hs
  have hne : ∀ x ∈ ws, x.1 ≠ q := fun x hx z => by
    have := h.2 x hx
    rw [z, hq] at this
    cases this
  refine ⟨?_, fun x hx => ?_⟩
  · rw [List.map_append, List.nodup_append]
    refine ⟨h.1, by simp, fun a ha b hb => ?_⟩
    obtain ⟨x, hx, rfl⟩ := List.mem_map.mp ha
    simp at hb
    subst hb
    exact hne x hx
  · rcases List.mem_append.mp hx with hx | hx
    · rw [hm_up_ne (hne x hx)]
      exact h.2 x hx
    · rw [List.mem_singleton] at hx
      subst hx
      exact hm_up_self
theorem hm_has.sub {M : hM} {ws ws' : va_W} (h : hm_has M ws) (is : List Nat) (hn : va_nd is = true) (hs : is.map (fun i => ws[i]?) = ws'.map some) : hm_has M ws' := by
  have key : ∀ (k : Nat) (q : Nat × va_E), ws'[k]? = some q → ∃ i, is[k]? = some i ∧ ws[i]? = some q := by
    intro k q hk
    have h1 : (is.map (fun i => ws[i]?))[k]? = some (some q) := by rw [hs, List.getElem?_map, hk]; rfl
    rw [List.getElem?_map] at h1
    cases hi : is[k]? with
    | none => rw [hi] at h1; cases h1
    | some i => rw [hi] at h1; exact ⟨i, rfl, Option.some.inj h1⟩
  refine ⟨?_, fun q hq => ?_⟩
  · show List.Pairwise (fun a b => a ≠ b) _
    rw [List.pairwise_iff_getElem]
    intro i j hi hj hij
    rw [List.length_map] at hi hj
    have hp : ws'[i]? = some ws'[i] := List.getElem?_eq_getElem hi
    have hq : ws'[j]? = some ws'[j] := List.getElem?_eq_getElem hj
    obtain ⟨a, h1, h2⟩ := key i _ hp
    obtain ⟨b, h3, h4⟩ := key j _ hq
    have hab : a ≠ b := fun z => by
      subst z
      have := va_nd_inj is hn i j a h1 h3
      omega
    rw [List.getElem_map, List.getElem_map]
    exact h.ne a b h2 h4 hab
  · obtain ⟨k, hk⟩ := List.getElem?_of_mem hq
    obtain ⟨i, -, h2⟩ := key k q hk
    exact h.2 q (List.mem_of_getElem? h2)
/-- what stays: every cell that S does not name -/
def hm_kp (S : Nat → Prop) (M M' : hM) : Prop := ∀ (a : Nat) (e : va_E), M a = some e → ¬ S a → M' a = some e
theorem hm_kp.rf {S : Nat → Prop} {M : hM} : hm_kp S M M := fun _ _ h _ => h
theorem hm_kp.tr {S T : Nat → Prop} {M M' M2 : hM} (h : hm_kp S M M') (h2 : hm_kp T M' M2) (hST : ∀ a, T a → S a) : hm_kp S M M2 := fun a e ha hs => h2 a e (h a e ha hs) (fun z => hs (hST a z))
theorem hm_kp.mono {S T : Nat → Prop} {M M' : hM} (h : hm_kp S M M') (hST : ∀ a, S a → T a) : hm_kp T M M' := fun a e ha hs => h a e ha (fun z => hs (hST a z))
theorem hm_kp.up {S : Nat → Prop} {M : hM} {a : Nat} {v : Option va_E} (hs : S a) : hm_kp S M (va_up M a v) := fun b e hb hn => by
  rw [hm_up_ne (fun z => hn (by rw [z]; exact hs))]
  exact hb
theorem hm_kp.new {S : Nat → Prop} {M : hM} {a : Nat} {v : Option va_E} (ha : M a = none) : hm_kp S M (va_up M a v) := fun b e hb _ => by
  rw [hm_up_ne (fun z => by rw [z, ha] at hb; cases hb)]
  exact hb
/-- behind a call: the callee's cells as it left them, the others as they were -/
theorem hm_join {M M' : hM} {ws wc wc' ws' : va_W} {S : Nat → Prop} (h : hm_has M ws) (h' : hm_has M' wc') (hk : hm_kp S M M') (is : List Nat) (hc : is.map (fun i => ws[i]?) = wc.map some) (ha : wc'.map (fun q => q.1) = wc.map (fun q => q.1)) (hS : ∀ a, S a → a ∈ wc.map (fun q => q.1))
    (hw : ws'.map (fun q => q.1) = ws.map (fun q => q.1)) (hr : ∀ (k : Nat), k < ws.length → (k ∉ is ∧ ws'[k]? = ws[k]?) ∨ ∃ j : Nat, is[j]? = some k ∧ ws'[k]? = wc'[j]?) : hm_has M' ws' := by
  refine ⟨by rw [hw]; exact h.1, fun q hq => ?_⟩
  obtain ⟨k, hkq⟩ := List.getElem?_of_mem hq
  have hl : k < ws.length := by
    have := (List.getElem?_eq_some_iff.mp hkq).1
    have e : ws'.length = ws.length := by
      have := congrArg List.length hw
      simpa using this
    omega
  rcases hr k hl with ⟨h1, h2⟩ | ⟨j, h1, h2⟩
  · rw [h2] at hkq
    refine hk q.1 q.2 (h.2 q (List.mem_of_getElem? hkq)) (fun z => ?_)
    obtain ⟨x, hx, hxe⟩ := List.mem_map.mp (hS _ z)
    obtain ⟨j, hj⟩ := List.getElem?_of_mem hx
    have h3 : (is.map (fun i => ws[i]?))[j]? = some (some x) := by rw [hc, List.getElem?_map, hj]; rfl
    rw [List.getElem?_map] at h3
    cases hi : is[j]? with
    | none => rw [hi] at h3; cases h3
    | some i =>
      rw [hi] at h3
      have h4 : ws[i]? = some x := Option.some.inj h3
      have hik : i ≠ k := fun z => h1 (by rw [← z]; exact List.mem_of_getElem? hi)
      exact h.ne i k h4 hkq hik hxe
  · rw [h2] at hkq
    exact h'.2 q (List.mem_of_getElem? hkq)
