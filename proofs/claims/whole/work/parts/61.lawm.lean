/-! THE LAW'S OWN METHODS, THAT CATCH -/
def gy (G : hG) (U : State) : Prop := gx G U ∧ va_Nc ISE IAE U
theorem gy_w {G : hG} : ∀ {s U : State}, s.WarmedH U.vm → gy G s → gy G U := fun hW h => ⟨gx_w hW h.1, va_Nc.moved hW.alike h.2⟩
theorem gy_s {G : hG} : ∀ {u U : State}, u.vm = U.vm → gy G u → gy G U := fun hv h => ⟨gx_s hv h.1, va_Nc.moved (by rw [hv]; exact Vm.Alike.refl _) h.2⟩
def ctPY (G : hG) (M : hM) (sz : Nat) (U : State) : Prop := ctP (gy G) G.1 vwC M sz U ∧ zqs (hm_A M sz) U U.heap
def CtY (l : Launch) (G : hG) (y : MethodName) (ws : List Cond) (rm : Room) (av : List Value) (M : hM) (post : Option Value → hM → Prop) (mc ms : Nat) : Prop :=
  ∀ sz : Nat, Met l y ws rm (va_Pc av (ctPY G M sz)) (hm_Q G.1 vwC post (hm_A M sz)) mc ms (hm_A M sz)
theorem CtY.ofW {l : Launch} {G : hG} {y : MethodName} {ws ws' : List Cond} {rm : Room} {av : List Value} {M : hM} {post : Option Value → hM → Prop} {mc ms : Nat} {cc : ByteArray} {maxL : Nat} {ret : Option FieldType} {hh : List (Nat × Nat × Nat × Nat)}
    (hy : plainName y.cls = true) (hw : ws = Cond.codeWith y cc maxL ret hh :: ws') (hfit : (lg_sl av).length ≤ maxL)
    (body : ∀ (p : Program) (e : Env) (s : State) (m : MethodId) (below : List Frame) (meth : Method) (c : Code) (A : Nat → Prop) (ls : Array Slot), CallFix p m c cc maxL s av.toArray ws y.cls → meth.sig.returnType = ret → meth.locks = false → meth.name = y.name → gy G s → c.exceptionTable.toList = tableOf hh → zqs A s s.heap → hm_I G.1 vwC A s.heap M s.heap [] → lv_has ls maxL (lv_args 0 av) →
      W p l e rm s m av.toArray below meth c s.heap [] 0 0 (MQ below (hm_Q G.1 vwC post A) av.toArray s mc ms A) (F0 m 0 ls [])) : CtY l G y ws rm av M post mc ms := by
  intro sz
  refine va_MetW (cc := cc) (maxL := maxL) (ret := ret) (hh := hh) hy hw ?_
  intro p e s m args below meth c s₁ B hml hv
  obtain ⟨rfl, ⟨hsz, hP, hK⟩, hZ⟩ := hv
  have hts := atoms_spec (ws := ws) B.pre
  have hown : s.vm.findClass y.cls = some m.cls := findClass_of_methodNamed B.named
  have htab : c.exceptionTable.toList = tableOf hh := vx_table (x := y) B (hts _ (by rw [hw]; exact List.mem_cons_self))
  subst hsz
  rw [lg_entry_eq]
  exact body p e s m below meth c (hm_A M s.heap.size) _ ⟨B.exec, B.bytes, hml, hown, hts⟩ B.returns B.notSynchronized (name_of_methodNamed B.named B.method).1 hK htab hZ ⟨hP, fun a x h => Or.inl ⟨x, h⟩, va_S.rf, fun q h => Or.inr h⟩ (lv_entry av hfit)
section HMY
variable {p : Program} {l : Launch} {e : Env} {R : Room} {s : State} {m : MethodId} {args : Array Value} {below : List Frame} {meth : Method} {c : Code} {H : Heap} {locs : List Loc} {cells slots : Nat} {Q : State → Prop}
variable {cc : ByteArray} {pc nL : Nat} {ls : Array Slot} {rest : List Value} {G : hG} {A : Nat → Prop} {a : Nat} {M : hM} {H0 : Heap} {mc ms : Nat} {D : va_G} {cl : List vw_C} {post : Option Value → hM → Prop} {px : String → hM → Prop}
theorem zqs_at (hH : hm_I G.1 vwC A s.heap M H locs) (hZ : zqs A s s.heap) {U : State} (hU : U.heap = H) (hW : s.WarmedH U.vm) : zqs (hm_A M H.size) U U.heap := by
  rw [hU]
  refine ((zqs.moved hW.alike hZ).kept hH.2.2.1.2.1).narrow ?_
  rintro q (⟨x, hx⟩ | hq)
  · exact hH.2.1 q x hx
  · exact hH.2.2.2 q (Nat.le_trans hH.2.2.1.1 hq)
theorem zqs_call {B : Nat → Prop} {U : State} {g : JFrame} {mk : MethodId} {a : Array Value} (h : zqs B U U.heap) : zqs B (U.calling g mk a) (U.calling g mk a).heap := zqs.moved (U := U.calling g mk a) (Vm.Alike.refl _) h
theorem hm_preY (hH : hm_I G.1 vwC A s.heap M H locs) (hg : gy G s) (hZ : zqs A s s.heap) (As : List Value) : PreS s H (va_Pc As (ctPY G M H.size)) As :=
  ⟨fun a U g mk q => ⟨q.1, ⟨q.2.1.1, q.2.1.2.1, gy_s (u := U) (U := U.calling g mk a) rfl q.2.1.2.2⟩, zqs_call q.2.2⟩, fun U hU hW => ⟨rfl, ⟨by rw [hU], by rw [hU]; exact hH.1, gy_w hW hg⟩, zqs_at hH hZ hU hW⟩⟩
theorem hm_preXV (hH : hm_I G.1 vwC A s.heap M H locs) (hg : gx G s) (hZ : zqs A s s.heap) {tys : List (ClassId × FieldType)} (hKc : va_K G.1 vwC tys s) {b ci : Nat} {fs : List Value} {q : vw_C} (he : M b = some (.inr (ci, fs))) (hc : vwC[ci]? = some q) (As : List Value) : PreV s H q.1 b (va_Pc (.ref b :: As) (ctPX G M H.size)) As :=
  ⟨fun a U g mk q => ⟨q.1, ⟨q.2.1.1, q.2.1.2.1, gx_s (u := U) (U := U.calling g mk a) rfl q.2.1.2.2⟩, zqs_call q.2.2⟩, va_recv hKc (hm_one hH.1 he) (ci := ci) (q0 := 0) hc rfl, fun U hU hW => ⟨rfl, ⟨by rw [hU], by rw [hU]; exact hH.1, gx_w hW hg⟩, zqs_at hH hZ hU hW⟩⟩
theorem hm_callX {st0 : List Value} {av : Array Value} (hr : vx_Run p l e R s m args below meth c H locs cells slots mc ms (F0 m pc ls st0) rest (hm_Q D cl post (hm_A M H.size) av) (hm_X D cl px (hm_A M H.size)) (hm_A M H.size)) (hH : hm_I D cl A H0 M H locs)
    (kx : ∀ (E : String) (ce : Cell) (q9 : Addr) (M' : hM) (H1 : Heap) (locs1 : List Loc), px E M' → hm_I D cl A H0 M' H1 locs1 → H1[q9]? = some ce → ce.vm = .none → s.vm.findClass E = some ce.cls → vx_W p l e R s m args below meth c H1 locs1 (cells + mc) (slots + ms) Q (F0 m pc ls rest) q9)
    (kk : ∀ (r : Option Value) (M' : hM) (H1 : Heap) (locs1 : List Loc), post r M' → hm_I D cl A H0 M' H1 locs1 → W p l e R s m args below meth c H1 locs1 (cells + mc) (slots + ms) Q (F0 m (pc + 3) ls (r.toList ++ rest))) : W p l e R s m args below meth c H locs cells slots Q (F0 m pc ls st0) := by
  intro T hT X
  obtain ⟨hP, hA, hS, hN⟩ := hH
  have hsub : ∀ q, hm_A M H.size q → A q := by
    rintro q (⟨x, hx⟩ | hq)
    · exact hA q x hx
    · exact hN q (Nat.le_trans hS.1 hq)
  have hI : ∀ {M' : hM} {st₀ t T' : State} {L : List Loc}, st₀.heap = H → T'.heap = t.heap → hm_P D cl M' t.heap → (∀ (a : Nat) (e : va_E), M' a = some e → hm_A M H.size a) → va_F (hm_A M H.size) st₀ t → (∀ q ∈ L, hm_A M H.size q.base) → hm_I D cl A H0 M' T'.heap (locs ++ L) := by
    intro M' st₀ t T' L h0 e1 hb ha hF hL
    obtain ⟨hz, hk⟩ := hF
    rw [h0] at hz hk
    exact ⟨by rw [e1]; exact hb, fun q x hx => hsub q (ha q x hx), ⟨Nat.le_trans hS.1 (by rw [e1]; exact hz), fun q h1 h2 => by rw [e1, hk q (Nat.lt_of_lt_of_le h1 hS.1) (fun z => h2 (hsub q z))]; exact hS.2.1 q h1 h2, fun q hq => by
      rcases List.mem_append.mp hq with h | h
      · exact hS.2.2 q h
      · exact hsub _ (hL q h)⟩, hN⟩
  rcases hr T hT X with ⟨v, st₀, t, T', L, h0, X', hL, e1, e2, ⟨⟨r, M', hv, hp, hb, ha⟩, hF⟩, st⟩ | ⟨q, st₀, t, T', L, E, ce, h0, X', hL, e1, e2, ⟨⟨M', hp, hb, ha⟩, hF⟩, hce, hcv, hcl, st⟩
  · cases hv
    obtain ⟨t2, a1, b1⟩ := kk v M' T'.heap (locs ++ L) hp (hI h0 e1 hb ha hF hL) T' rfl X'
    exact ⟨t2, st t2 a1, b1⟩
  · obtain ⟨t2, a1, b1⟩ := kx E ce q M' T'.heap (locs ++ L) hp (hI h0 e1 hb ha hF hL) (by rw [e1]; exact hce) hcv hcl T' rfl X'
    exact ⟨t2, st.trans a1, b1⟩
end HMY
theorem bkR.at {G : hG} {K : Nat → Prop} {x : Nat} {dr : Nat → Int32} {dn lf rt : Nat} {P : List rwT} {bg : Nat} {X : List rwT} {ak : Bool} {an : Nat} {av : Nat → Int32} {M : hM} (h : bkR G K x dr dn lf rt P bg X ak an av M) : ∃ fs, M x = some (.inr (3, fs)) := by
  obtain ⟨d, pt, xt, rr, ar, pro, xro, xbg, rsg, rnm, rsz, asg, anm, rf, rg, af, τp, τx, hw, -⟩ := h
  exact ⟨_, hw.at 0 rfl⟩
theorem bkR.reK {G : hG} {K K2 : Nat → Prop} {x : Nat} {dr : Nat → Int32} {dn lf rt : Nat} {P : List rwT} {bg : Nat} {X : List rwT} {ak : Bool} {an : Nat} {av : Nat → Int32} {M : hM} (h : bkR G K x dr dn lf rt P bg X ak an av M) (hK : ∀ a, K2 a → M a = none) : bkR G K2 x dr dn lf rt P bg X ak an av M := by
  obtain ⟨d, pt, xt, rr, ar, pro, xro, xbg, rsg, rnm, rsz, asg, anm, rf, rg, af, τp, τx, hw, h1, h2, h3, h4, h5, h6, h7⟩ := h
  have key : ∀ {a : Nat} {e : va_E}, M a = some e → ¬ K2 a := fun he hk => by
    rw [hK _ hk] at he
    cases he
  refine ⟨d, pt, xt, rr, ar, pro, xro, xbg, rsg, rnm, rsz, asg, anm, rf, rg, af, τp, τx, hw, h1, h2, ⟨fun a ha => key (h1.1.2.1 a ha), fun a ha q hq => ⟨key (h1.1.2.2.2.2 a ha q hq), (h3.2 a ha q hq).2⟩⟩, ⟨fun a ha => key (h2.1.2.1 a ha), fun a ha q hq => ⟨key (h2.1.2.2.2.2 a ha q hq), (h4.2 a ha q hq).2⟩⟩, h5, ?_, h7⟩
  simp only [List.forall_mem_cons]
  exact ⟨key (hw.at 0 rfl), key (hw.at 1 rfl), key (hw.at 2 rfl), key (hw.at 3 rfl), key (hw.at 4 rfl), key (hw.at 5 rfl), key (hw.at 6 rfl), key (hw.at 7 rfl), key (hw.at 8 rfl), key (hw.at 9 rfl), fun _ h => absurd h List.not_mem_nil⟩
