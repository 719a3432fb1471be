theorem bt_row {G : hG} {M M' : hM} {root r sg nm a9 b9 c9 : Nat} {τ : tau} {E : List rwT} {f g : Nat → Int32} (ht : bt G M root τ E) (hn : ∀ a ∈ tL τ, ∀ q, tnu τ a = some q → q ≠ nm) (h4 : M r = some (cRw a9 b9 c9)) (h5 : M sg = some (aI G 65 f)) (h6 : M nm = some (aI G 66 g)) (hk : hm_kp (fun a => a ∈ [r, sg, nm]) M M') : bt G M' root τ E := by
  refine ht.keptL hk (fun b hb => ?_)
  simp only [List.mem_cons, List.not_mem_nil, or_false] at hb
  rcases hb with rfl | rfl | rfl
  · exact ht.ok h4 ne_rw
  · exact ht.ok h5 ne_65
  · exact ht.ok6 h6 hn
theorem bt_nm {G : hG} {M M' : hM} {root nm : Nat} {τ : tau} {E : List rwT} {g : Nat → Int32} (ht : bt G M root τ E) (hn : ∀ a ∈ tL τ, ∀ q, tnu τ a = some q → q ≠ nm) (h6 : M nm = some (aI G 66 g)) (hk : hm_kp (fun a => a ∈ [nm]) M M') : bt G M' root τ E := by
  refine ht.keptL hk (fun b hb => ?_)
  simp only [List.mem_cons, List.not_mem_nil, or_false] at hb
  subst hb
  exact ht.ok6 h6 hn
theorem bt_x {G : hG} {M : hM} {root x d dn lf rt pt xt rr ar : Nat} {τ : tau} {E : List rwT} {v : Option va_E} (ht : bt G M root τ E) (hx : M x = some (cBk d dn lf rt pt xt rr ar)) : bt G (va_up M x v) root τ E := by
  refine ht.keptL (L := [x]) (hm_kp.up (by simp)) (fun b hb => ?_)
  simp only [List.mem_cons, List.not_mem_nil, or_false] at hb
  subst hb
  exact ht.ok hx ne_bk
theorem kK {K : Nat → Prop} {M0 M : hM} (hk : hm_kp (fun a => ¬ K a) M0 M) (h : ∀ a, K a → ∃ e, M0 a = some e) : ∀ a, M a = none → ¬ K a := fun a ha hK => by
  obtain ⟨e, he⟩ := h a hK
  rw [hk a e he (fun z => z hK)] at ha
  cases ha
theorem bsep_enter {K : Nat → Prop} {τ τ' : tau} {rnm anm : Nat} {M : hM} {e1 e2 : va_E} (hs : bsep K τ rnm anm) (hN : ∀ a, M a = none → ¬ K a) (hr : M rnm = some e1) (ha : M anm = some e2) (h1 : ∀ b ∈ tL τ', b ∈ tL τ ∨ M b = none) (h2 : ∀ b ∈ tL τ', ∀ q, tnu τ' b = some q → (∃ b0 ∈ tL τ, tnu τ b0 = some q) ∨ M q = none) : bsep K τ' rnm anm := by
  refine ⟨fun a h => (h1 a h).elim (hs.1 a) (hN a), fun a h q hq => ?_⟩
  rcases h2 a h q hq with ⟨b0, h3, h4⟩ | h3
  · exact hs.2 b0 h3 q h4
  · exact ⟨hN q h3, fun z => (by rw [z, hr] at h3; cases h3), fun z => (by rw [z, ha] at h3; cases h3)⟩
theorem dis_enter {G : hG} {M : hM} {root : Nat} {τ τ' τx : tau} (hd : ∀ a ∈ tL τ, a ∉ tL τx) (htx : trH G M root τx) (h1 : ∀ b ∈ tL τ', b ∈ tL τ ∨ M b = none) : ∀ a ∈ tL τ', a ∉ tL τx := fun a h z => by
  rcases h1 a h with h2 | h2
  · exact hd a h2 z
  · have := htx.2.1 a z
    rw [h2] at this
    cases this
theorem bt_other {G : hG} {M M' : hM} {ro ro2 t a9 b9 c9 : Nat} {τ τx : tau} {E E2 : List rwT} (ht : bt G M ro τ E) (htx : bt G M ro2 τx E2) (hd : ∀ a ∈ tL τ, a ∉ tL τx) (h2 : M t = some (cTr a9 b9 c9)) (hk : hm_kp (fun b => b = t ∨ b ∈ tL τ) M M') : bt G M' ro2 τx E2 := by
  refine htx.kept hk (fun a ha z => ?_) (fun a ha q hq z => ?_)
  · rcases z with z | z
    · exact nd_ne htx.1 h2 (ne_tr (G := G)).1 a ha z
    · exact hd a z ha
  · rcases z with z | z
    · exact nu_ne htx.1 h2 (ne_tr (G := G)).2 a ha q hq z
    · have h5 := ht.1.2.1 q z
      have h6 := htx.1.2.2.2.2 a ha q hq
      rw [h5] at h6
      cases h6
theorem kp_cell {G : hG} {M M' : hM} {ro t b : Nat} {τ : tau} {E : List rwT} {e : va_E} (ht : bt G M ro τ E) (hk : hm_kp (fun b => b = t ∨ b ∈ tL τ) M M') (hb : M b = some e) (hbt : b ≠ t) (he : ∀ s fc ns nu, e ≠ cNd s fc ns nu) : M' b = some e := hk b e hb (fun z => z.elim hbt (fun y => nd_ne ht.1 hb he b y rfl))
theorem sm_ag {r : rwT} {m : Nat} {f g : Nat → Int32} (h : sm r m f) (hf : ag f g m) : sm r m g := ⟨h.1, h.2.tr hf⟩
