/-! CONTRACTS OF METHODS THAT MAY THROW -/
def gx (G : hG) (U : State) : Prop := gk G U ∧ (∀ w ∈ wXB, va_Nw w U) ∧ (∃ a, vk_R R_bk 49 "the draft is no pattern" a U) ∧ (∃ a, vk_R R_bk 60 "there is a pattern with the same signs" a U) ∧ (∃ a, vk_R R_bk 83 "the draft is no exception" a U) ∧ ∃ a, vk_R R_bk 93 "the draft is no word" a U
theorem wXB_w {s U : State} (hW : s.WarmedH U.vm) (h : ∀ w ∈ wXB, va_Nw w s) : ∀ w ∈ wXB, va_Nw w U := by
  simp only [wXB, List.forall_mem_cons] at h ⊢
  obtain ⟨h1, h2, h3, h4, h5, -⟩ := h
  exact ⟨va_Nw.warmD hW h1, va_Nw.warmD hW h2, va_Nw.warmD hW h3, va_Nw.warmC hW h4, va_Nw.warmC hW h5, fun _ h => absurd h List.not_mem_nil⟩
theorem wXB_s {u U : State} (hv : u.vm = U.vm) (h : ∀ w ∈ wXB, va_Nw w u) : ∀ w ∈ wXB, va_Nw w U := by
  simp only [wXB, List.forall_mem_cons] at h ⊢
  obtain ⟨h1, h2, h3, h4, h5, -⟩ := h
  exact ⟨va_Nw.same rfl hv h1, va_Nw.same rfl hv h2, va_Nw.same rfl hv h3, va_Nw.same rfl hv h4, va_Nw.same rfl hv h5, fun _ h => absurd h List.not_mem_nil⟩
theorem wXB_u {a : Array Value} {s : State} (h : ∀ w ∈ wXB, va_Nw w s) : ∀ w ∈ wXB, w.before a s = true := by
  simp only [wXB, List.forall_mem_cons] at h ⊢
  obtain ⟨h1, h2, h3, h4, h5, -⟩ := h
  exact ⟨va_Nw.use rfl h1, va_Nw.use rfl h2, va_Nw.use rfl h3, va_Nw.use rfl h4, va_Nw.use rfl h5, fun _ h => absurd h List.not_mem_nil⟩
theorem gx_w {G : hG} : ∀ {s U : State}, s.WarmedH U.vm → gx G s → gx G U := fun hW ⟨h1, h2, ⟨a1, k1⟩, ⟨a2, k2⟩, ⟨a3, k3⟩, ⟨a4, k4⟩⟩ => ⟨gk_w hW h1, wXB_w hW h2, ⟨a1, vk_R.warm hW k1⟩, ⟨a2, vk_R.warm hW k2⟩, ⟨a3, vk_R.warm hW k3⟩, ⟨a4, vk_R.warm hW k4⟩⟩
theorem gx_s {G : hG} : ∀ {u U : State}, u.vm = U.vm → gx G u → gx G U := fun hv ⟨h1, h2, ⟨a1, k1⟩, ⟨a2, k2⟩, ⟨a3, k3⟩, ⟨a4, k4⟩⟩ => ⟨gk_s hv h1, wXB_s hv h2, ⟨a1, vk_R.same hv.symm k1⟩, ⟨a2, vk_R.same hv.symm k2⟩, ⟨a3, vk_R.same hv.symm k3⟩, ⟨a4, vk_R.same hv.symm k4⟩⟩
def zqs (A : Nat → Prop) (U : State) (H : Heap) : Prop := vx_Zq Bundle.tN "UNASSIGNED_STACK" Bundle.steD A U H ∧ vx_Zq Bundle.tN "SUPPRESSED_SENTINEL" Bundle.listD A U H
theorem zqs.moved {A : Nat → Prop} {u U : State} {H : Heap} (hv : u.vm.Alike U.vm) (h : zqs A u H) : zqs A U H := ⟨vx_Zq.moved hv h.1, vx_Zq.moved hv h.2⟩
theorem zqs.kept {A : Nat → Prop} {U : State} {H H1 : Heap} (h : zqs A U H) (hq : ∀ a : Nat, a < H.size → ¬ A a → H1[a]? = H[a]?) : zqs A U H1 := ⟨h.1.kept hq, h.2.kept hq⟩
theorem zqs.narrow {A B : Nat → Prop} {U : State} {H : Heap} (h : zqs A U H) (hAB : ∀ q, B q → A q) : zqs B U H := ⟨h.1.narrow hAB, h.2.narrow hAB⟩
def hm_X (D : va_G) (cl : List vw_C) (px : String → hM → Prop) (A : Nat → Prop) : String → State → State → Prop := fun E st t =>
  (∃ M' : hM, px E M' ∧ hm_P D cl M' t.heap ∧ ∀ (a : Nat) (e : va_E), M' a = some e → A a) ∧ va_F A st t
def ctPX (G : hG) (M : hM) (sz : Nat) (U : State) : Prop := ctP (gx G) G.1 vwC M sz U ∧ zqs (hm_A M sz) U U.heap
def CtX (l : Launch) (G : hG) (y : MethodName) (ws : List Cond) (rm : Room) (av : List Value) (M : hM) (post : Option Value → hM → Prop) (px : String → hM → Prop) (mc ms : Nat) : Prop :=
  ∀ sz : Nat, vx_Met l y ws rm (va_Pc av (ctPX G M sz)) (hm_Q G.1 vwC post (hm_A M sz)) (hm_X G.1 vwC px (hm_A M sz)) mc ms (hm_A M sz)
theorem CtX.ofW {l : Launch} {G : hG} {y : MethodName} {ws ws' : List Cond} {rm : Room} {av : List Value} {M : hM} {post : Option Value → hM → Prop} {px : String → hM → Prop} {mc ms : Nat} {cc : ByteArray} {maxL : Nat} {ret : Option FieldType}
    (hy : plainName y.cls = true) (hw : ws = Cond.code y cc maxL ret :: ws') (hfit : (lg_sl av).length ≤ maxL)
    (body : ∀ (p : Program) (e : Env) (s : State) (m : MethodId) (below : List Frame) (meth : Method) (c : Code) (A : Nat → Prop) (ls : Array Slot), CallFix p m c cc maxL s av.toArray ws y.cls → meth.sig.returnType = ret → meth.locks = false → meth.name = y.name → gx G s → (∀ x ∈ c.exceptionTable.toList, False) → zqs A s s.heap → hm_I G.1 vwC A s.heap M s.heap [] → lv_has ls maxL (lv_args 0 av) →
      W p l e rm s m av.toArray below meth c s.heap [] 0 0 (vx_MQ below (hm_Q G.1 vwC post A) (hm_X G.1 vwC px A) av.toArray s mc ms A) (F0 m 0 ls [])) : CtX l G y ws rm av M post px mc ms := by
  intro sz
  refine vx_ofW (cc := cc) (maxL := maxL) (ret := ret) hy hw ?_
  intro p e s m args below meth c s₁ B hml hno hv
  obtain ⟨rfl, ⟨hsz, hP, hK⟩, hZ⟩ := hv
  have hts := atoms_spec (ws := ws) B.pre
  have hown : s.vm.findClass y.cls = some m.cls := findClass_of_methodNamed B.named
  subst hsz
  rw [lg_entry_eq]
  exact body p e s m below meth c (hm_A M s.heap.size) _ ⟨B.exec, B.bytes, hml, hown, hts⟩ B.returns B.notSynchronized (name_of_methodNamed B.named B.method).1 hK hno hZ ⟨hP, fun a x h => Or.inl ⟨x, h⟩, va_S.rf, fun q h => Or.inr h⟩ (lv_entry av hfit)
theorem hm_PX {D : va_G} {cl : List vw_C} {M : hM} {H H1 : Heap} (h : hm_P D cl M H) (hq : ∀ q : Nat, q < H.size → H1[q]? = H[q]?) : hm_P D cl M H1 := fun a e ha => (h a e ha).kept (hq a (h.lt ha))
section HMT
variable {p : Program} {l : Launch} {e : Env} {R : Room} {s : State} {m : MethodId} {args : Array Value} {below : List Frame} {meth : Method} {c : Code} {H : Heap} {locs : List Loc} {cells slots : Nat}
variable {cc : ByteArray} {pc nL : Nat} {ls : Array Slot} {G : hG} {A : Nat → Prop} {M : hM} {c0 : Cond} {post : Option Value → hM → Prop} {px : String → hM → Prop} {mc ms : Nat}
theorem hm_throw {cls text : String} {ik is ic sa : Nat} (E : CallFix p m c cc nL s args (c0 :: lwB) R_bk) (hl : l.stackTraces = false) (hcls : Bundle.fit cls = true) (hk : Cond.classLink R_bk ik cls ∈ lwB) (hini : Cond.initialized cls ∈ lwB)
    (hwg : ∀ w ∈ (vx_atS R_bk ic cls exN).filter goodWord, w ∈ lw_tbl) (hwb : ∀ w ∈ (vx_atS R_bk ic cls exN).filter (fun w => !goodWord w), w ∈ wXB) (hwo : ∀ w ∈ Cond.classLink R_bk ik cls :: Cond.initialized cls :: vx_atS R_bk ic cls exN, vx_ot w = true)
    (hB : ∀ w ∈ wXB, va_Nw w s) (hstr : vk_R R_bk is text sa s) (hno : ∀ x ∈ c.exceptionTable.toList, False) (hZ : zqs A s s.heap) (hlk : meth.locks = false) (hH : hm_I G.1 vwC A s.heap M H locs) (hsz : ls.size = nL)
    (d0 : decode cc pc = .ok (.new ik, 3)) (d3 : decode cc (pc + 3) = .ok (.dup, 1)) (d4 : decode cc (pc + 4) = .ok (.ldc is, 2)) (d6 : decode cc (pc + 6) = .ok (.invokespecial ic, 3)) (d9 : decode cc (pc + 9) = .ok (.athrow, 1))
    (hRf : 5 < R.frames) (hRl : 82 ≤ R.locals) (hRc : cells + 1 ≤ R.cells) (hRs : slots + 6 ≤ R.slots) (hpx : px cls M) (hc : cells + 1 ≤ mc) (hs : slots + 6 ≤ ms) :
    W p l e R s m args below meth c H locs cells slots (vx_MQ below (hm_Q G.1 vwC post A) (hm_X G.1 vwC px A) args s mc ms A) (F0 m pc ls []) := by
  obtain ⟨hx, hb, hml, hown, hts⟩ := E
  have hat : ∀ w ∈ vx_atS R_bk ic cls exN, w.before args s = true := vx_hat (B := wXB) (fun w hw => hts w (List.mem_cons_of_mem _ (List.mem_filter.mpr ⟨hwg w hw, (List.mem_filter.mp hw).2⟩))) hwb (wXB_u hB)
  refine vx_throwS (own := R_bk) (cls := cls) (text := text) (names := exN) (ik := ik) (is := is) (ic := ic) (sa := sa) (A := A) (rest := []) hx hb hl hown hcls (by decide) (hts _ (List.mem_cons_of_mem _ hk)) (hts _ (List.mem_cons_of_mem _ hini)) hstr hat hwo hZ.1 hZ.2 hH.2.2.1 (hsz.trans hml.symm) d0 d3 d4 d6 d9 (fun x hx => (hno x hx).elim) hRf (by simpa using hRl) hRc hRs hlk ?_ hH.2.2.1.2.2 hc hs
  intro t _ h1 h2
  refine ⟨⟨M, hpx, hm_PX hH.1 h2, hH.2.1⟩, Nat.le_trans hH.2.2.1.1 h1, fun q hq hA => ?_⟩
  rw [h2 q (Nat.lt_of_lt_of_le hq hH.2.2.1.1)]
  exact hH.2.2.1.2.1 q hq hA
theorem hm_throwA {text : String} {is sa : Nat} (E : CallFix p m c cc nL s args (c0 :: lwB) R_bk) (hl : l.stackTraces = false) (hg : gx G s) (hstr : vk_R R_bk is text sa s) (hno : ∀ x ∈ c.exceptionTable.toList, False) (hZ : zqs A s s.heap) (hlk : meth.locks = false) (hH : hm_I G.1 vwC A s.heap M H locs) (hsz : ls.size = nL)
    (d0 : decode cc pc = .ok (.new 47, 3)) (d3 : decode cc (pc + 3) = .ok (.dup, 1)) (d4 : decode cc (pc + 4) = .ok (.ldc is, 2)) (d6 : decode cc (pc + 6) = .ok (.invokespecial 51, 3)) (d9 : decode cc (pc + 9) = .ok (.athrow, 1))
    (hRf : 5 < R.frames) (hRl : 82 ≤ R.locals) (hRc : cells + 1 ≤ R.cells) (hRs : slots + 6 ≤ R.slots) (hpx : px IAE M) (hc : cells + 1 ≤ mc) (hs : slots + 6 ≤ ms) :
    W p l e R s m args below meth c H locs cells slots (vx_MQ below (hm_Q G.1 vwC post A) (hm_X G.1 vwC px A) args s mc ms A) (F0 m pc ls []) :=
  hm_throw (cls := IAE) (ik := 47) (ic := 51) E hl (by decide) wm_187 wm_10 wXA_g wXA_b wXA_o hg.2.1 hstr hno hZ hlk hH hsz d0 d3 d4 d6 d9 hRf hRl hRc hRs hpx hc hs
theorem hm_throwI {text : String} {is sa : Nat} (E : CallFix p m c cc nL s args (c0 :: lwB) R_bk) (hl : l.stackTraces = false) (hg : gx G s) (hstr : vk_R R_bk is text sa s) (hno : ∀ x ∈ c.exceptionTable.toList, False) (hZ : zqs A s s.heap) (hlk : meth.locks = false) (hH : hm_I G.1 vwC A s.heap M H locs) (hsz : ls.size = nL)
    (d0 : decode cc pc = .ok (.new 58, 3)) (d3 : decode cc (pc + 3) = .ok (.dup, 1)) (d4 : decode cc (pc + 4) = .ok (.ldc is, 2)) (d6 : decode cc (pc + 6) = .ok (.invokespecial 62, 3)) (d9 : decode cc (pc + 9) = .ok (.athrow, 1))
    (hRf : 5 < R.frames) (hRl : 82 ≤ R.locals) (hRc : cells + 1 ≤ R.cells) (hRs : slots + 6 ≤ R.slots) (hpx : px ISE M) (hc : cells + 1 ≤ mc) (hs : slots + 6 ≤ ms) :
    W p l e R s m args below meth c H locs cells slots (vx_MQ below (hm_Q G.1 vwC post A) (hm_X G.1 vwC px A) args s mc ms A) (F0 m pc ls []) :=
  hm_throw (cls := ISE) (ik := 58) (ic := 62) E hl (by decide) wm_264 wm_11 wXS_g wXS_b wXS_o hg.2.1 hstr hno hZ hlk hH hsz d0 d3 d4 d6 d9 hRf hRl hRc hRs hpx hc hs
end HMT
