/-! CONTRACTS: a method's start is a map, its end an answer and a map. gk (the tables' knowledge) is carried by every contract. -/
abbrev hG : Type := va_G × ClassId × ClassId
abbrev aI (G : hG) (n : Nat) (f : Nat → Int32) : va_E := .inl (G.2.1, n, .inl f)
abbrev aJ (G : hG) (n : Nat) (f : Nat → Int64) : va_E := .inl (G.2.2, n, .inr (.inl f))
abbrev tyG (G : hG) : List (ClassId × FieldType) := [(G.2.1, .int), (G.2.2, .long)]
def hm_Q (D : va_G) (cl : List vw_C) (post : Option Value → hM → Prop) (A : Nat → Prop) : Array Value → State → Outcome → State → Prop := fun _ st oc t =>
  (∃ (r : Option Value) (M' : hM), oc = .returned r ∧ post r M' ∧ hm_P D cl M' t.heap ∧ ∀ (a : Nat) (e : va_E), M' a = some e → A a) ∧ va_F A st t
def ctP (gk : State → Prop) (D : va_G) (cl : List vw_C) (M : hM) (sz : Nat) (U : State) : Prop := U.heap.size = sz ∧ hm_P D cl M U.heap ∧ gk U
section HMC
variable {p : Program} {l : Launch} {e : Env} {R : Room} {s : State} {m : MethodId} {args : Array Value} {below : List Frame} {meth : Method} {c : Code} {H : Heap} {locs : List Loc} {cells slots : Nat} {Q : State → Prop}
variable {cc : ByteArray} {pc nL : Nat} {ls : Array Slot} {rest : List Value} {D : va_G} {cl : List vw_C} {A : Nat → Prop} {a : Nat} {M : hM} {H0 : Heap} {Ts : List Cond} {own : String} {post : Option Value → hM → Prop} {mc ms : Nat} {gk : State → Prop}
theorem hm_iret (E : CallFix p m c cc nL s args Ts own) (hr : meth.sig.returnType = some .int) (hlk : meth.locks = false) (hH : hm_I D cl A s.heap M H locs) {v : Int32} (hp : post (some (.int v)) M) (h1 : cells ≤ mc) (h2 : slots ≤ ms) (hdg : decode cc pc = .ok (.ireturn, 1)) :
    W p l e R s m args below meth c H locs cells slots (MQ below (hm_Q D cl post A) args s mc ms A) (F0 m pc ls [.int v]) :=
  W.widen h1 h2 (W.iret E.1 E.2.1 hr (fun t ht _ => ⟨⟨_, M, rfl, hp, by rw [ht]; exact hH.1, hH.2.1⟩, hH.2.2.1.F ht⟩) hH.2.2.1.2.2 hdg hlk)
theorem hm_zret (E : CallFix p m c cc nL s args Ts own) {ty : FieldType} (hr : meth.sig.returnType = some ty) (hlk : meth.locks = false) (hH : hm_I D cl A s.heap M H locs) {v : Int32} (hn : narrow ty (.int v) = .int v) (hp : post (some (.int v)) M) (h1 : cells ≤ mc) (h2 : slots ≤ ms) (hdg : decode cc pc = .ok (.ireturn, 1)) :
    W p l e R s m args below meth c H locs cells slots (MQ below (hm_Q D cl post A) args s mc ms A) (F0 m pc ls [.int v]) :=
  W.widen h1 h2 (W.zret E.1 E.2.1 hr hn (fun t ht _ => ⟨⟨_, M, rfl, hp, by rw [ht]; exact hH.1, hH.2.1⟩, hH.2.2.1.F ht⟩) hH.2.2.1.2.2 hdg hlk)
theorem hm_lret (E : CallFix p m c cc nL s args Ts own) (hr : meth.sig.returnType = some .long) (hlk : meth.locks = false) (hH : hm_I D cl A s.heap M H locs) {v : Int64} (hp : post (some (.long v)) M) (h1 : cells ≤ mc) (h2 : slots ≤ ms) (hdg : decode cc pc = .ok (.lreturn, 1)) :
    W p l e R s m args below meth c H locs cells slots (MQ below (hm_Q D cl post A) args s mc ms A) (F0 m pc ls [.long v]) :=
  W.widen h1 h2 (W.lret E.1 E.2.1 hr (fun t ht _ => ⟨⟨_, M, rfl, hp, by rw [ht]; exact hH.1, hH.2.1⟩, hH.2.2.1.F ht⟩) hH.2.2.1.2.2 hdg hlk)
theorem hm_vret (E : CallFix p m c cc nL s args Ts own) (hr : meth.sig.returnType = none) (hlk : meth.locks = false) (hH : hm_I D cl A s.heap M H locs) (hp : post none M) (h1 : cells ≤ mc) (h2 : slots ≤ ms) (hdg : decode cc pc = .ok (.return_, 1)) :
    W p l e R s m args below meth c H locs cells slots (MQ below (hm_Q D cl post A) args s mc ms A) (F0 m pc ls []) :=
  W.widen h1 h2 (W.vret E.1 E.2.1 hr (fun t ht _ => ⟨⟨_, M, rfl, hp, by rw [ht]; exact hH.1, hH.2.1⟩, hH.2.2.1.F ht⟩) hH.2.2.1.2.2 hdg hlk)
theorem hm_aret (E : CallFix p m c cc nL s args Ts own) {rt : FieldType} (hr : meth.sig.returnType = some rt) (hrt : (∃ n, rt = .object n) ∨ ∃ t, rt = .array t) (hlk : meth.locks = false) (hH : hm_I D cl A s.heap M H locs) {x : Option Nat} (hp : post (some (va_rf x)) M) (h1 : cells ≤ mc) (h2 : slots ≤ ms) (hdg : decode cc pc = .ok (.areturn, 1)) :
    W p l e R s m args below meth c H locs cells slots (MQ below (hm_Q D cl post A) args s mc ms A) (F0 m pc ls [va_rf x]) :=
  W.widen h1 h2 (W.aret E.1 E.2.1 hr hrt (by cases x with | none => exact Or.inl rfl | some y => exact Or.inr ⟨y, rfl⟩) (fun t ht _ => ⟨⟨_, M, rfl, hp, by rw [ht]; exact hH.1, hH.2.1⟩, hH.2.2.1.F ht⟩) hH.2.2.1.2.2 hdg hlk)
theorem hm_preS (hgw : ∀ {s U : State}, s.WarmedH U.vm → gk s → gk U) (hgs : ∀ {u U : State}, u.vm = U.vm → gk u → gk U) (hH : hm_I D cl A H0 M H locs) (hK : gk s) (As : List Value) : PreS s H (va_Pc As (ctP gk D cl M H.size)) As :=
  ⟨fun a U g mk q => ⟨q.1, q.2.1, q.2.2.1, hgs (u := U) (U := U.calling g mk a) rfl q.2.2.2⟩, fun U hU hW => ⟨rfl, by rw [hU], by rw [hU]; exact hH.1, hgw hW hK⟩⟩
theorem hm_preV (hgw : ∀ {s U : State}, s.WarmedH U.vm → gk s → gk U) (hgs : ∀ {u U : State}, u.vm = U.vm → gk u → gk U) (hH : hm_I D cl A H0 M H locs) (hK : gk s) {tys : List (ClassId × FieldType)} (hKc : va_K D cl tys s) {b ci : Nat} {fs : List Value} {q : vw_C} (he : M b = some (.inr (ci, fs))) (hc : cl[ci]? = some q) (As : List Value) : PreV s H q.1 b (va_Pc (.ref b :: As) (ctP gk D cl M H.size)) As :=
  ⟨fun a U g mk q => ⟨q.1, q.2.1, q.2.2.1, hgs (u := U) (U := U.calling g mk a) rfl q.2.2.2⟩, va_recv hKc (hm_one hH.1 he) (ci := ci) (q0 := 0) hc rfl, fun U hU hW => ⟨rfl, by rw [hU], by rw [hU]; exact hH.1, hgw hW hK⟩⟩
theorem hm_call {st0 : List Value} {av : Array Value} (hr : va_Run p l e R s m args below meth c H locs cells slots mc ms (F0 m pc ls st0) rest (hm_Q D cl post (hm_A M H.size) av) (hm_A M H.size)) (hH : hm_I D cl A H0 M H locs)
    (kk : ∀ (r : Option Value) (M' : hM) (H1 : Heap) (locs1 : List Loc), post r M' → hm_I D cl A H0 M' H1 locs1 → W p l e R s m args below meth c H1 locs1 (cells + mc) (slots + ms) Q (F0 m (pc + 3) ls (r.toList ++ rest))) : W p l e R s m args below meth c H locs cells slots Q (F0 m pc ls st0) := by
  intro T hT X
  obtain ⟨v, st₀, t, T', L, h0, X', hL, e1, e2, ⟨⟨r, M', hv, hp, hb, ha⟩, hz, hk⟩, st⟩ := hr T hT X
  cases hv
  rw [h0] at hz hk
  obtain ⟨hP, hA, hS, hN⟩ := hH
  have hsub : ∀ q, hm_A M H.size q → A q := by
    rintro q (⟨x, hx⟩ | hq)
    · exact hA q x hx
    · exact hN q (Nat.le_trans hS.1 hq)
  obtain ⟨t2, a1, b1⟩ := kk v M' T'.heap (locs ++ L) hp ⟨by rw [e1]; exact hb, fun q x hx => hsub q (ha q x hx), ⟨Nat.le_trans hS.1 (by rw [e1]; exact hz), fun q h1 h2 => by rw [e1, hk q (Nat.lt_of_lt_of_le h1 hS.1) (fun z => h2 (hsub q z))]; exact hS.2.1 q h1 h2, fun q hq => by
      rcases List.mem_append.mp hq with h | h
      · exact hS.2.2 q h
      · exact hsub _ (hL q h)⟩, hN⟩ T' rfl X'
  exact ⟨t2, st t2 a1, b1⟩
end HMC
/-- a contract over maps -/
def Ct (gk : State → Prop) (l : Launch) (D : va_G) (cl : List vw_C) (y : MethodName) (ws : List Cond) (rm : Room) (av : List Value) (M : hM) (post : Option Value → hM → Prop) (mc ms : Nat) : Prop :=
  ∀ sz : Nat, Met l y ws rm (va_Pc av (ctP gk D cl M sz)) (hm_Q D cl post (hm_A M sz)) mc ms (hm_A M sz)
theorem Ct.ofW {gk : State → Prop} {l : Launch} {D : va_G} {cl : List vw_C} {y : MethodName} {ws ws' : List Cond} {rm : Room} {av : List Value} {M : hM} {post : Option Value → hM → Prop} {mc ms : Nat} {cc : ByteArray} {maxL : Nat} {ret : Option FieldType}
    (hy : plainName y.cls = true) (hw : ws = Cond.code y cc maxL ret :: ws') (hfit : (lg_sl av).length ≤ maxL)
    (body : ∀ (p : Program) (e : Env) (s : State) (m : MethodId) (below : List Frame) (meth : Method) (c : Code) (A : Nat → Prop) (ls : Array Slot), CallFix p m c cc maxL s av.toArray ws y.cls → meth.sig.returnType = ret → meth.locks = false → meth.name = y.name → gk s → hm_I D cl A s.heap M s.heap [] → lv_has ls maxL (lv_args 0 av) →
      W p l e rm s m av.toArray below meth c s.heap [] 0 0 (MQ below (hm_Q D cl post A) av.toArray s mc ms A) (F0 m 0 ls [])) : Ct gk l D cl y ws rm av M post mc ms := by
  intro sz
  refine Met.ofW (cc := cc) (maxL := maxL) (ret := ret) hy hw ?_
  intro p e s m args below meth c s₁ B hml hv
  obtain ⟨rfl, hsz, hP, hK⟩ := hv
  have hts := atoms_spec (ws := ws) B.pre
  have hown : s.vm.findClass y.cls = some m.cls := findClass_of_methodNamed B.named
  subst hsz
  rw [lg_entry_eq]
  exact body p e s m below meth c (hm_A M s.heap.size) _ ⟨B.exec, B.bytes, hml, hown, hts⟩ B.returns B.notSynchronized (name_of_methodNamed B.named B.method).1 hK ⟨hP, fun a x h => Or.inl ⟨x, h⟩, va_S.rf, fun q h => Or.inr h⟩ (lv_entry av hfit)
