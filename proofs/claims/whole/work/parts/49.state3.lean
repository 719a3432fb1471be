theorem ctr_ag {E : List rwT} {f g : Nat → Int32} {sz st k pl : Nat} {x : Int32} (h : ag f g sz) : ctr E f sz st k pl x ↔ ctr E g sz st k pl x := by
  have key : ∀ {f g : Nat → Int32}, ag f g sz → ctr E f sz st k pl x → ctr E g sz st k pl x := by
    rintro f g h ⟨r, h1, h2, h3, h4, h5, h6⟩
    exact ⟨r, h1, h2, h3, h4, fun j hj => (h5 j hj).trans (h (st + j) (by omega)), h6⟩
  exact ⟨key h, key h.sm⟩
def tau0 (root : Nat) : tau := ([root], (fun _ => []), (fun _ => none), (fun _ => 0), (fun _ => none), (fun _ _ => 0))
theorem bt_0 {G : hG} {M : hM} {root : Nat} (h : M root = some (cNd 0 none none none)) : bt G M root (tau0 root) [] := by
  have hz : ∀ f i a, twk (tst (tau0 root)) root f i = some a → i = 0 ∧ a = root := by
    intro f i a ha
    cases i with
    | zero => simp only [twk] at ha; cases ha; exact ⟨rfl, rfl⟩
    | succ i =>
      simp only [twk] at ha
      cases hb : twk (tst (tau0 root)) root f i with
      | none => rw [hb] at ha; cases ha
      | some b => rw [hb] at ha; exact absurd (show (none : Option Nat) = some a from ha) (by simp)
  refine ⟨⟨List.mem_singleton.mpr rfl, fun a ha => ?_, fun a ha b hb => absurd (show b ∈ ([] : List Nat) from hb) List.not_mem_nil, fun a ha i b hb => absurd (show ([] : List Nat)[i]? = some b from hb) (by simp), fun a ha q hq => absurd (show (none : Option Nat) = some q from hq) (by simp)⟩, ⟨fun f i => ⟨?_, ?_⟩, fun f g i j a h1 h2 => ?_⟩, fun f i a ha => ?_⟩
  · have : a = root := List.mem_singleton.mp ha
    subst this
    exact h
  · rintro ⟨a, ha⟩
    exact Or.inl (hz f i a ha).1
  · rintro (rfl | ⟨r, hr, -⟩)
    · exact ⟨root, rfl⟩
    · cases hr
  · obtain ⟨e1, -⟩ := hz f i a h1
    obtain ⟨e2, -⟩ := hz g j a h2
    subst e1
    exact ⟨e2.symm, fun j hj => absurd hj (by omega)⟩
  · exact Or.inl ⟨rfl, fun r hr => by cases hr⟩
theorem hm_has.add {M M1 : hM} {ws0 ws1 ws2 : va_W} {q : Nat} {e : va_E} (hold : hm_has M ws0) (hq : M q = none) (h1 : hm_has M1 ws1) (hadr : ws1.map (fun q => q.1) = ws0.map (fun q => q.1)) (he : M1 q = some e) (hs : ws1 ++ [(q, e)] = ws2) : hm_has M1 ws2 := by
  subst hs
  refine ⟨?_, fun x hx => ?_⟩
  · rw [List.map_append, List.nodup_append]
    refine ⟨h1.1, by simp, fun a ha b hb => ?_⟩
    rw [hadr] at ha
    obtain ⟨x, hx, rfl⟩ := List.mem_map.mp ha
    simp at hb
    subst hb
    intro z
    have := hold.2 x hx
    rw [z, hq] at this
    cases this
  · rcases List.mem_append.mp hx with hx | hx
    · exact h1.2 x hx
    · rw [List.mem_singleton] at hx
      subst hx
      exact he
