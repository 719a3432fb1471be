section
-- ===== PART A: goes FIRST, ahead of the names: the tables' words, and 'selects' of the private methods out of them =====
/-- a private method of a class that the tables say can be made, by its rows of tables_1 -/
def lw_okq (q : MethodName × Nat) : Prop := (q.1.cls ≠ "java/lang/invoke/MethodHandle" ∧ q.1.cls ≠ "java/lang/invoke/VarHandle") ∧ Cond.instantiable q.1.cls q.2 ∈ tables_1 ∧ Cond.privateMethod q.1 ∈ tables_1 ∧ Cond.instanceMethod q.1 ∈ tables_1
theorem lw_p0 : lw_okq (⟨"HyphenBook", "lettersOfAsked", "()I"⟩, 8) := ⟨⟨by decide +kernel, by decide +kernel⟩, List.mem_of_getElem? (i := 13) (by decide +kernel), List.mem_of_getElem? (i := 111) (by decide +kernel), List.mem_of_getElem? (i := 112) (by decide +kernel)⟩
theorem lw_p1 : lw_okq (⟨"HyphenBook", "readPattern", "()Z"⟩, 8) := ⟨⟨by decide +kernel, by decide +kernel⟩, List.mem_of_getElem? (i := 13) (by decide +kernel), List.mem_of_getElem? (i := 150) (by decide +kernel), List.mem_of_getElem? (i := 151) (by decide +kernel)⟩
theorem lw_p2 : lw_okq (⟨"HyphenBook", "dropNumbersOutsideEdges", "()V"⟩, 8) := ⟨⟨by decide +kernel, by decide +kernel⟩, List.mem_of_getElem? (i := 13) (by decide +kernel), List.mem_of_getElem? (i := 176) (by decide +kernel), List.mem_of_getElem? (i := 177) (by decide +kernel)⟩
theorem lw_p3 : lw_okq (⟨"HyphenBook", "signsReadMakeAPattern", "()Z"⟩, 8) := ⟨⟨by decide +kernel, by decide +kernel⟩, List.mem_of_getElem? (i := 13) (by decide +kernel), List.mem_of_getElem? (i := 184) (by decide +kernel), List.mem_of_getElem? (i := 185) (by decide +kernel)⟩
theorem lw_p4 : lw_okq (⟨"java/lang/Throwable", "fillInStackTrace", "(I)Ljava/lang/Throwable;"⟩, 6) := ⟨⟨by decide +kernel, by decide +kernel⟩, List.mem_of_getElem? (i := 225) (by decide +kernel), List.mem_of_getElem? (i := 223) (by decide +kernel), List.mem_of_getElem? (i := 224) (by decide +kernel)⟩
theorem lw_p5 : lw_okq (⟨"HyphenBook", "readException", "()Z"⟩, 8) := ⟨⟨by decide +kernel, by decide +kernel⟩, List.mem_of_getElem? (i := 13) (by decide +kernel), List.mem_of_getElem? (i := 316) (by decide +kernel), List.mem_of_getElem? (i := 317) (by decide +kernel)⟩
theorem lw_p6 : lw_okq (⟨"HyphenBook", "draftIsWord", "()Z"⟩, 8) := ⟨⟨by decide +kernel, by decide +kernel⟩, List.mem_of_getElem? (i := 13) (by decide +kernel), List.mem_of_getElem? (i := 329) (by decide +kernel), List.mem_of_getElem? (i := 330) (by decide +kernel)⟩
theorem lw_p7 : lw_okq (⟨"HyphenBook", "copyDraftToAsked", "()V"⟩, 8) := ⟨⟨by decide +kernel, by decide +kernel⟩, List.mem_of_getElem? (i := 13) (by decide +kernel), List.mem_of_getElem? (i := 333) (by decide +kernel), List.mem_of_getElem? (i := 334) (by decide +kernel)⟩
theorem lw_p8 : lw_okq (⟨"HyphenBook$SignTree", "raiseNumbersFrom", "(ILHyphenBook$SignRow;)V"⟩, 3) := ⟨⟨by decide +kernel, by decide +kernel⟩, List.mem_of_getElem? (i := 21) (by decide +kernel), List.mem_of_getElem? (i := 342) (by decide +kernel), List.mem_of_getElem? (i := 343) (by decide +kernel)⟩
theorem lw_p9 : lw_okq (⟨"HyphenBook", "cutsOfAsked", "()J"⟩, 8) := ⟨⟨by decide +kernel, by decide +kernel⟩, List.mem_of_getElem? (i := 13) (by decide +kernel), List.mem_of_getElem? (i := 356) (by decide +kernel), List.mem_of_getElem? (i := 357) (by decide +kernel)⟩
theorem lw_p10 : lw_okq (⟨"HyphenBookModel", "readPattern", "()I"⟩, 18) := ⟨⟨by decide +kernel, by decide +kernel⟩, List.mem_of_getElem? (i := 360) (by decide +kernel), List.mem_of_getElem? (i := 437) (by decide +kernel), List.mem_of_getElem? (i := 438) (by decide +kernel)⟩
theorem lw_p11 : lw_okq (⟨"HyphenBookModel", "fails", "(I)I"⟩, 18) := ⟨⟨by decide +kernel, by decide +kernel⟩, List.mem_of_getElem? (i := 360) (by decide +kernel), List.mem_of_getElem? (i := 447) (by decide +kernel), List.mem_of_getElem? (i := 448) (by decide +kernel)⟩
theorem lw_p12 : lw_okq (⟨"HyphenBookModel", "common", "(III)I"⟩, 18) := ⟨⟨by decide +kernel, by decide +kernel⟩, List.mem_of_getElem? (i := 360) (by decide +kernel), List.mem_of_getElem? (i := 451) (by decide +kernel), List.mem_of_getElem? (i := 452) (by decide +kernel)⟩
theorem lw_p13 : lw_okq (⟨"HyphenBookModel", "find", "(I)I"⟩, 18) := ⟨⟨by decide +kernel, by decide +kernel⟩, List.mem_of_getElem? (i := 360) (by decide +kernel), List.mem_of_getElem? (i := 460) (by decide +kernel), List.mem_of_getElem? (i := 461) (by decide +kernel)⟩
theorem lw_p14 : lw_okq (⟨"HyphenBookModel", "attempt", "(II)V"⟩, 18) := ⟨⟨by decide +kernel, by decide +kernel⟩, List.mem_of_getElem? (i := 360) (by decide +kernel), List.mem_of_getElem? (i := 468) (by decide +kernel), List.mem_of_getElem? (i := 469) (by decide +kernel)⟩
def lw_privs_1 : List (MethodName × Nat) := [(⟨"HyphenBook", "lettersOfAsked", "()I"⟩, 8), (⟨"HyphenBook", "readPattern", "()Z"⟩, 8), (⟨"HyphenBook", "dropNumbersOutsideEdges", "()V"⟩, 8), (⟨"HyphenBook", "signsReadMakeAPattern", "()Z"⟩, 8), (⟨"java/lang/Throwable", "fillInStackTrace", "(I)Ljava/lang/Throwable;"⟩, 6), (⟨"HyphenBook", "readException", "()Z"⟩, 8), (⟨"HyphenBook", "draftIsWord", "()Z"⟩, 8), (⟨"HyphenBook", "copyDraftToAsked", "()V"⟩, 8), (⟨"HyphenBook$SignTree", "raiseNumbersFrom", "(ILHyphenBook$SignRow;)V"⟩, 3), (⟨"HyphenBook", "cutsOfAsked", "()J"⟩, 8), (⟨"HyphenBookModel", "readPattern", "()I"⟩, 18), (⟨"HyphenBookModel", "fails", "(I)I"⟩, 18), (⟨"HyphenBookModel", "common", "(III)I"⟩, 18), (⟨"HyphenBookModel", "find", "(I)I"⟩, 18), (⟨"HyphenBookModel", "attempt", "(II)V"⟩, 18)]
theorem lw_r1 : ∀ q ∈ lw_privs_1, lw_okq q := List.forall_mem_cons.mpr ⟨lw_p0, List.forall_mem_cons.mpr ⟨lw_p1, List.forall_mem_cons.mpr ⟨lw_p2, List.forall_mem_cons.mpr ⟨lw_p3, List.forall_mem_cons.mpr ⟨lw_p4, List.forall_mem_cons.mpr ⟨lw_p5, List.forall_mem_cons.mpr ⟨lw_p6, List.forall_mem_cons.mpr ⟨lw_p7, List.forall_mem_cons.mpr ⟨lw_p8, List.forall_mem_cons.mpr ⟨lw_p9, List.forall_mem_cons.mpr ⟨lw_p10, List.forall_mem_cons.mpr ⟨lw_p11, List.forall_mem_cons.mpr ⟨lw_p12, List.forall_mem_cons.mpr ⟨lw_p13, List.forall_mem_cons.mpr ⟨lw_p14, fun _ h => absurd h List.not_mem_nil⟩⟩⟩⟩⟩⟩⟩⟩⟩⟩⟩⟩⟩⟩⟩
def lw_privs : List (MethodName × Nat) := lw_privs_1
def lw_tbl : List Cond := k2_sels lw_privs ++ tables_1
theorem lw_privs_ok : ∀ q ∈ lw_privs, lw_okq q := lw_r1

/-- the words that last: of each method's own list the tail -/
def lwB : List Cond := lw_tbl.filter goodWord
theorem lwB_in : ∀ w ∈ lwB, w ∈ lw_tbl := fun w h => (List.mem_filter.mp h).1
theorem lwB_t {w : Cond} {k : Nat} (h : tables_1[k]? = some w) (hg : goodWord w = true) : w ∈ lwB := List.mem_filter.mpr ⟨List.mem_append_right _ (List.mem_of_getElem? h), hg⟩
theorem lwB_s {w : Cond} {k : Nat} (h : (k2_sels lw_privs)[k]? = some w) (hg : goodWord w = true) : w ∈ lwB := List.mem_filter.mpr ⟨List.mem_append_left _ (List.mem_of_getElem? h), hg⟩
theorem gB_in {c0 : Cond} {L : List Cond} (h : ∀ w ∈ L, w ∈ lwB) : GoodIn (c0 :: lwB) L := fun w hw => ⟨List.mem_cons_of_mem _ (h w hw), good_of_word (List.mem_filter.mp (h w hw)).2⟩
theorem gB_0 {c0 cy : Cond} (h : cy ∈ lwB) : GoodIn (c0 :: lwB) (cy :: lwB) := gB_in (fun w hw => (List.mem_cons.mp hw).elim (fun e => by rw [e]; exact h) id)
theorem gB_app {c0 : Cond} {a b : List Cond} (ha : GoodIn (c0 :: lwB) a) (hb : GoodIn (c0 :: lwB) b) : GoodIn (c0 :: lwB) (a ++ b) := fun w h => (List.mem_append.mp h).elim (ha w) (hb w)
theorem gB_V {c0 cy : Cond} {own C : String} {idx : Nat} {y : MethodName} (h1 : Cond.methodLink own idx y ∈ lwB) (h2 : Cond.instanceMethod y ∈ lwB) (h3 : Cond.selects C y y ∈ lwB) (h4 : Cond.initialized C ∈ lwB) (h5 : cy ∈ lwB) : GoodIn (c0 :: lwB) (wsV own idx C y (cy :: lwB)) := gB_app (gB_in (by intro w hw; simp only [List.mem_cons, List.not_mem_nil, or_false] at hw; rcases hw with rfl | rfl | rfl | rfl <;> assumption)) (gB_0 h5)
theorem gB_S {c0 cy : Cond} {own : String} {idx : Nat} {y : MethodName} (h1 : Cond.methodLink own idx y ∈ lwB) (h2 : Cond.static y ∈ lwB) (h3 : Cond.initialized own ∈ lwB) (h5 : cy ∈ lwB) : GoodIn (c0 :: lwB) (wsS own idx y (cy :: lwB)) := gB_app (gB_in (by intro w hw; simp only [List.mem_cons, List.not_mem_nil, or_false] at hw; rcases hw with rfl | rfl | rfl <;> assumption)) (gB_0 h5)
theorem gB_VS {c0 cy : Cond} {own : String} {idx : Nat} {y : MethodName} (h1 : Cond.methodLink own idx y ∈ lwB) (h2 : Cond.static y ∈ lwB) (h3 : Cond.initialized y.cls ∈ lwB) (h5 : cy ∈ lwB) : GoodIn (c0 :: lwB) (va_wsS own idx y (cy :: lwB)) := gB_app (gB_in (by intro w hw; simp only [List.mem_cons, List.not_mem_nil, or_false] at hw; rcases hw with rfl | rfl | rfl <;> assumption)) (gB_0 h5)
end
section
/-! ===== BEGIN words of one list among another's, by their places ===== -/
theorem goodIn_r {big : List Cond} (ws : List Cond) (ps : List Nat) (hp : ws = ps.filterMap (fun i => big[i]?)) (h : ws.all goodWord = true) : GoodIn big ws := by
  intro w hw
  have h1 := List.all_eq_true.mp h w hw
  rw [hp] at hw
  obtain ⟨i, -, hi⟩ := List.mem_filterMap.mp hw
  have hm : w ∈ big := by first | exact List.mem_of_getElem? hi | exact List.getElem?_mem hi
  exact ⟨hm, good_of_word h1⟩
theorem goodIn_app {big a b : List Cond} (ha : GoodIn big a) (hb : GoodIn big b) : GoodIn big (a ++ b) := fun w h => (List.mem_append.mp h).elim (ha w) (hb w)
theorem goodIn_ca {big a b : List Cond} {c : Cond} (ha : GoodIn big (c :: a)) (hb : GoodIn big b) : GoodIn big (c :: (a ++ b)) := fun w h => (List.mem_cons.mp h).elim (fun e => ha w (List.mem_cons.mpr (Or.inl e))) (fun h => (List.mem_append.mp h).elim (fun h => ha w (List.mem_cons.mpr (Or.inr h))) (hb w))
theorem goodIn_sub {big ws : List Cond} (hm : ∀ w ∈ ws, w ∈ big) (h : ws.all goodWord = true) : GoodIn big ws := fun w hw => ⟨hm w hw, good_of_word (List.all_eq_true.mp h w hw)⟩
/-! ===== END ===== -/

/-! ===== BEGIN exceptions that leave a method, and their catching by the caller (launches without stack traces) ===== -/
section VXA
/-! The laws vx_back, vx_callV, vx_callS, vx_callSW, vx_throw0, vx_throwS follow proofs of the library, with one case more: JvmDerived/Free/Laws.lean (Back.of_free), Shelf42/LK1.lean (callV, callS), Shelf/KitTraced.lean (throwNew0V, throwNewS). -/
/-- where a method has thrown q: the class by its name, the cell, what was written, the world -/
def vx_T (XC : String → State → State → Prop) (st : State) (q : Addr) (t : State) (mc ms : Nat) (free : Addr → Prop) : Prop :=
  ∃ (E : String) (ce : Cell) (L : List Loc), XC E st t ∧ t.heap[q]? = some ce ∧ ce.vm = .none ∧ st.vm.findClass E = some ce.cls ∧ st.WarmedH t.vm ∧ st.sameButNew ({ t with vm := st.vm } : State) L mc ms ∧ ∀ z ∈ L, free z.base
def vx_Q (Qc : Array Value → State → Outcome → State → Prop) (XC : String → State → State → Prop) (mc ms : Nat) (free : Addr → Prop) : Array Value → State → Outcome → State → Prop := fun a st o t =>
  (Qc a st o t ∧ ∃ L, FrameEnd st o t L mc ms ∧ ∀ q ∈ L, free q.base) ∨ ∃ q, o = .threw q ∧ vx_T XC st q t mc ms free
/-- a callee that returns or throws -/
def vx_Met (l : Launch) (y : MethodName) (ws : List Cond) (rm : Room) (Pc : Array Value → State → Prop) (Qc : Array Value → State → Outcome → State → Prop) (XC : String → State → State → Prop) (mc ms : Nat) (free : Addr → Prop) : Prop :=
  MetFree l y (headSpec ws rm) Pc (fun _ _ _ _ _ => True) (vx_Q Qc XC mc ms free)
def vx_Post (XC : String → State → State → Prop) (mc ms : Nat) (free : Addr → Prop) : Pt → Array Value → Addr → Pt → Prop := fun A a q B =>
  ∃ (g : JFrame) (mk : MethodId) (t : State) (L : List Loc) (E : String) (ce : Cell), B.U.heap = t.heap ∧ B.U.vm = t.vm ∧ XC E (A.U.calling g mk a) t ∧ t.heap[q]? = some ce ∧ ce.vm = .none ∧ A.U.vm.findClass E = some ce.cls ∧ B.locs = A.locs ++ L ∧ (∀ z ∈ L, free z.base) ∧ B.cells = A.cells + mc ∧ B.slots = A.slots + ms
def vx_Back (l : Launch) (R : Room) (p : Program) (e : Env) (below : List Frame) (s : State) (sargs : Array Value) (y : MethodName) (len W9 : Nat)
    (Pre : Pt → Array Value → Prop) (Post : Pt → Array Value → Option Value → Pt → Prop) (PostX : Pt → Array Value → Addr → Pt → Prop) : Prop :=
  ∀ (m : MethodId) (meth : Method) (c : Code) (A : Pt) (g : JFrame) (ig : Instr) (mk : MethodId) (a : Array Value),
    Stand p l e R s m sargs below meth c A.U A.locs A.cells A.slots → g.method = m → g.locals.size = c.maxLocals → decode c.code g.pc = .ok (ig, len) →
    2 * g.monitorRoom + (g.stack.map fun v => v.category).sum ≤ W9 → A.U.methodNamed? y = some mk → Pre A a →
    (∃ (v : Option Value) (B : Pt), Stand p l e R s m sargs below meth c B.U B.locs B.cells B.slots ∧ Post A a v B ∧
      Steps p.tables e below (doInvoke e (A.U.setTop g) [] mk a).1 (B.U.setTop { g with pc := g.pc + len, stack := v.toList ++ g.stack })) ∨
    (∃ (q : Addr) (B : Pt), Stand p l e R s m sargs below meth c B.U B.locs B.cells B.slots ∧ PostX A a q B ∧
      Steps p.tables e below (doInvoke e (A.U.setTop g) [] mk a).1 ((B.U.setTop g).pushFrame (.throwing q)))
section Payer
variable {l : Launch} {R : Room} {p : Program} {e : Env} {below : List Frame} {s : State} {sargs : Array Value} {y : MethodName} {len W9 : Nat}
theorem vx_back {ws : List Cond} {rm : Room} {Pc : Array Value → State → Prop} {Qc : Array Value → State → Outcome → State → Prop} {XC : String → State → State → Prop} {mc ms : Nat} {free : Addr → Prop} {bytes : ByteArray} {maxL : Nat} {ret : Option FieldType}
    (hM : vx_Met l y ws rm Pc Qc XC mc ms free) (hblind : FrameBlind Pc) (hrc : rm.cells = mc) (hrs : rm.slots = ms)
    (hframes : rm.frames + 1 ≤ R.frames) (hlocals : W9 + (maxL + 11) + rm.locals ≤ R.locals)
    (hws : ∀ w ∈ ws, ∀ a' U, s.WarmedH U.vm → w.before a' U = true) (hcode : Cond.code y bytes maxL ret ∈ ws) (hinit : ∀ a' U, s.WarmedH U.vm → (Cond.initialized y.cls).before a' U = true) :
    vx_Back l R p e below s sargs y len W9 (PreOf R mc ms Pc) (PostOf Qc mc ms free) (vx_Post XC mc ms free) := by
  intro m meth c A g ig mk a X hg hsize hdg hW hn hp
  have h1 : (headSpec ws rm).pre.before a A.U = true := atoms_intro fun w hw => hws w hw _ _ X.warmed
  have h2 : (Cond.code y bytes maxL ret).before a A.U = true := hws _ hcode _ _ X.warmed
  have h3 : (Cond.initialized y.cls).before a A.U = true := hinit _ _ X.warmed
  have h4 : A.cells + (headSpec ws rm).room.cells ≤ R.cells := by rw [show (headSpec ws rm).room.cells = mc from hrc]; exact hp.1
  have h5 : A.slots + (headSpec ws rm).room.slots ≤ R.slots := by rw [show (headSpec ws rm).room.slots = ms from hrs]; exact hp.2.1
  have hPc : Pc a (A.U.calling g mk a) := hblind _ _ _ _ hp.2.2
  obtain ⟨U, Ls, c0, s0⟩ := A
  dsimp only [Pt.U, Pt.locs, Pt.cells, Pt.slots] at h1 h2 h3 h4 h5 X hn hPc ⊢
  obtain ⟨methY, cY, hmY, hcY, -, hlY, -, -, -, -⟩ := Cond.code_spec hn h2
  obtain ⟨kY, hkY, -⟩ := className_of_methodNamed hn
  have hinitY : kY.init = .initialized := Cond.initialized_spec (findClass_of_methodNamed hn) hkY h3
  have h : At U g.method c below := by rw [hg]; exact X.here
  have hlocals9 : W9 + (maxL + 11) + (headSpec ws rm).room.locals ≤ R.locals := hlocals
  have happ : (headSpec ws rm).appliesLoose y e.platform (U.calling g mk a) = true :=
    Spec.appliesLoose_calling (g := g) h hdg hn hkY hinitY
      (X.room_calling (g := g) (R' := (headSpec ws rm).room) hsize hmY hcY hframes (by rw [hlY]; omega) h4 h5) h1
  obtain ⟨mid, hmid⟩ := h.above
  have hfr : (U.setTop g).frames = (.java g :: mid) ++ below := by rw [State.frames_setTop' g h.top, hmid]; rfl
  obtain ⟨o, s₂, hsteps, -, hend, hq⟩ := Steps.callFree hM p X.admits X.cas X.clock (acts := []) hfr happ hPc trivial
  have hq' : vx_Q Qc XC mc ms free a (U.calling g mk a) o s₂ := hq
  rw [State.frames_setTop' g h.top] at hend
  obtain ⟨g₀, hg0⟩ := Option.isSome_iff_exists.mp h.top
  obtain ⟨r, hr⟩ := State.topJava?_eq_some.mp hg0
  have hr' : (({ U with heap := s₂.heap, slotsUsed := s₂.slotsUsed } : State).setVm s₂.vm).frames = .java g₀ :: r := hr
  rcases hq' with ⟨hqc, L, hfe, hL⟩ | ⟨q, rfl, E, ce, L, hx, hce, hcv, hcl, hW₂, hsm, hL⟩
  · obtain ⟨⟨v, rfl⟩, hW₂, e2, q2, q3, q4, q5, q6⟩ := id hfe
    have e3 : s₂ = ({ (U.calling g mk a).setFrames s₂.frames with heap := s₂.heap, slotsUsed := s₂.slotsUsed } : State).setVm s₂.vm := by
      have : s₂ = ({ s₂ with vm := (U.calling g mk a).vm } : State).setVm s₂.vm := rfl
      rw [e2] at this
      exact this
    obtain ⟨c₂, i₂, len₂, hc₂, hd₂, hf₂⟩ := hend
    have hW' : U.WarmedH s₂.vm := hW₂
    have hcc : c₂ = c := by
      have h1 : s₂.code? g.method = U.code? g.method := by
        rw [State.code?_eq, State.code?_eq, hW'.alike.method?]
      exact Option.some.inj (hc₂.symm.trans (h1.trans h.code))
    subst hcc
    have hlen : len₂ = len := by rw [hdg] at hd₂; cases hd₂; rfl
    subst hlen
    have hs₂ : s₂ = (({ U with heap := s₂.heap, slotsUsed := s₂.slotsUsed } : State).setVm s₂.vm).setTop { g with pc := g.pc + len₂, stack := v.toList ++ g.stack } := by
      refine e3.trans ?_
      rw [hf₂, State.calling_eq h.top, State.setFrames_setFrames, State.setTop_of_frames _ hr', hr]
      rfl
    have hsame : U.sameButNew ({ U with heap := s₂.heap, slotsUsed := s₂.slotsUsed } : State) L mc ms := by
      refine ⟨?_, q2, q3, q4, q5, q6⟩
      obtain ⟨t, ht, -⟩ := State.frames_cons hr
      show ({ U with heap := s₂.heap, slotsUsed := s₂.slotsUsed } : State) = { U.setFrames U.frames with heap := s₂.heap, slotsUsed := s₂.slotsUsed }
      rw [State.setFrames_self ht]
    subst hg
    refine Or.inl ⟨v, ⟨(({ U with heap := s₂.heap, slotsUsed := s₂.slotsUsed } : State).setVm s₂.vm), Ls ++ L, c0 + mc, s0 + ms⟩,
      ⟨X.admits, X.cas, X.clock, X.frames, X.room, X.hears, X.method, X.code, (X.here.setHeapUsed s₂.heap s₂.slotsUsed).setVm hW'.alike, X.tail, State.WarmedH.trans X.warmed hW', X.limits, X.bytes, X.same.trans (hsame.setVm s.vm)⟩,
      ⟨g, mk, s₂, L, rfl, rfl, hqc, rfl, hL, rfl, rfl⟩, ?_⟩
    show Steps p.tables e below _ ((({ U with heap := s₂.heap, slotsUsed := s₂.slotsUsed } : State).setVm s₂.vm).setTop { g with pc := g.pc + len₂, stack := v.toList ++ g.stack })
    rw [← hs₂]
    exact hsteps
  · obtain ⟨e2, q2, q3, q4, q5, q6⟩ := id hsm
    have e3 : s₂ = ({ (U.calling g mk a).setFrames s₂.frames with heap := s₂.heap, slotsUsed := s₂.slotsUsed } : State).setVm s₂.vm := by
      have : s₂ = ({ s₂ with vm := (U.calling g mk a).vm } : State).setVm s₂.vm := rfl
      rw [e2] at this
      exact this
    have hf₂ : s₂.frames = .throwing q :: .java g :: U.frames.tail := hend
    have hW' : U.WarmedH s₂.vm := hW₂
    have hs₂ : s₂ = ((({ U with heap := s₂.heap, slotsUsed := s₂.slotsUsed } : State).setVm s₂.vm).setTop g).pushFrame (.throwing q) := by
      refine e3.trans ?_
      rw [hf₂, State.calling_eq h.top, State.setFrames_setFrames, State.pushFrame, State.frames_setTop _ hr', State.setTop_of_frames _ hr', State.setFrames_setFrames, hr]
      rfl
    have hsame : U.sameButNew ({ U with heap := s₂.heap, slotsUsed := s₂.slotsUsed } : State) L mc ms := by
      refine ⟨?_, q2, q3, q4, q5, q6⟩
      obtain ⟨t, ht, -⟩ := State.frames_cons hr
      show ({ U with heap := s₂.heap, slotsUsed := s₂.slotsUsed } : State) = { U.setFrames U.frames with heap := s₂.heap, slotsUsed := s₂.slotsUsed }
      rw [State.setFrames_self ht]
    subst hg
    refine Or.inr ⟨q, ⟨(({ U with heap := s₂.heap, slotsUsed := s₂.slotsUsed } : State).setVm s₂.vm), Ls ++ L, c0 + mc, s0 + ms⟩,
      ⟨X.admits, X.cas, X.clock, X.frames, X.room, X.hears, X.method, X.code, (X.here.setHeapUsed s₂.heap s₂.slotsUsed).setVm hW'.alike, X.tail, State.WarmedH.trans X.warmed hW', X.limits, X.bytes, X.same.trans (hsame.setVm s.vm)⟩,
      ⟨g, mk, s₂, L, E, ce, rfl, rfl, hx, hce, hcv, hcl, rfl, hL, rfl, rfl⟩, ?_⟩
    show Steps p.tables e below _ (((({ U with heap := s₂.heap, slotsUsed := s₂.slotsUsed } : State).setVm s₂.vm).setTop g).pushFrame (.throwing q))
    rw [← hs₂]
    exact hsteps
end Payer
section Calls
variable {p : Program} {l : Launch} {e : Env} {R : Room} {s : State} {m : MethodId} {args : Array Value} {below : List Frame} {meth : Method} {c : Code} {T : State} {locs : List Loc} {cells slots : Nat}
theorem vx_callV (X : Stand p l e R s m args below meth c T locs cells slots) (hexec : p.tables.exec = Jvm.exec) {own C : String} {index : Nat} {y : MethodName} {bytes : ByteArray} {maxL : Nat} {ret : Option FieldType}
    (hown : s.vm.findClass own = some m.cls) (hlink : (Cond.methodLink own index y).before args s = true) (hinst : (Cond.instanceMethod y).before args s = true) (hsel : (Cond.selects C y y).before args s = true)
    (hcode : (Cond.code y bytes maxL ret).before args s = true) (hy : y.cls ≠ "java/lang/invoke/MethodHandle" ∧ y.cls ≠ "java/lang/invoke/VarHandle")
    {W9 : Nat} {Pre : Pt → Array Value → Prop} {Post : Pt → Array Value → Option Value → Pt → Prop} {PostX : Pt → Array Value → Addr → Pt → Prop} (hK : vx_Back l R p e below s args y 3 W9 Pre Post PostX)
    {b : Addr} {cellB : Cell} (hcell : T.heap[b]? = some cellB) (hobj : cellB.vm.isStatics = false) (hcls : s.vm.findClass C = some cellB.cls)
    {g : JFrame} (hg : g.method = m) (hsize : g.locals.size = c.maxLocals) {argsL rest : List Value} (hlen : ∀ sig, parseMethodDescriptor y.desc = some sig → argsL.length = sig.parameters.length)
    (hstack : g.stack = argsL.reverse ++ .ref b :: rest) (hW : 2 * g.monitorRoom + (rest.map fun v => v.category).sum ≤ W9) (hdg : decode c.code g.pc = .ok (.invokevirtual index, 3))
    (hpre : ∀ vm₁, s.WarmedH vm₁ → Pre ⟨T.setVm vm₁, locs, cells, slots⟩ (Value.ref b :: argsL).toArray) :
    (∃ (v : Option Value) (vm₁ : Vm) (B : Pt), s.WarmedH vm₁ ∧ Stand p l e R s m args below meth c B.U B.locs B.cells B.slots ∧ Post ⟨T.setVm vm₁, locs, cells, slots⟩ (Value.ref b :: argsL).toArray v B ∧
      ∀ target, Steps p.tables e below (B.U.setTop { g with pc := g.pc + 3, stack := v.toList ++ rest }) target → Steps p.tables e below (T.setTop g) target) ∨
    (∃ (q : Addr) (vm₁ : Vm) (B : Pt), s.WarmedH vm₁ ∧ Stand p l e R s m args below meth c B.U B.locs B.cells B.slots ∧ PostX ⟨T.setVm vm₁, locs, cells, slots⟩ (Value.ref b :: argsL).toArray q B ∧
      Steps p.tables e below (T.setTop g) ((B.U.setTop { g with stack := rest }).pushFrame (.throwing q))) := by
  obtain ⟨mk, methM, hnamed, hmethM, hstM, habM⟩ := Cond.instanceMethod_spec hinst
  obtain ⟨methM', cM, hmethM', -, -, -, -, -, -, hsigM⟩ := Cond.code_spec hnamed hcode
  cases hmethM.symm.trans hmethM'
  obtain ⟨c2, r2, m2, q1, q2, q3, q4, kP, hkP, hkPi⟩ := Cond.selects_spec hsel
  cases hcls.symm.trans q1
  cases (State.methodFound?_of_named hnamed hy).symm.trans q2
  cases hnamed.symm.trans q3
  have hselP : selectMethod e.platform s.vm cellB.cls mk = .method mk := by rw [Launch.admits_selectMethod X.admits]; exact q4
  obtain ⟨vm₁, X₁, hstep₁⟩ := X.invokevirtual hexec hown hlink hnamed hmethM hstM hkP hkPi hy (a := b) (cell := cellB) hcell
    (fun z h => by rw [h] at hobj; cases hobj) hselP hmethM habM hkP hkPi (g := g) hg (argsL := argsL) (rest := rest) (hlen _ hsigM) hstack hdg
  rcases hK m meth c ⟨T.setVm vm₁, locs, cells, slots⟩ { g with stack := rest } (.invokevirtual index) mk (Value.ref b :: argsL).toArray X₁ hg hsize hdg hW (X₁.named hnamed) (hpre vm₁ X₁.warmed) with ⟨v, B, X', hpost, hsteps⟩ | ⟨q, B, X', hpost, hsteps⟩
  · exact Or.inl ⟨v, vm₁, B, X₁.warmed, X', hpost, fun target h => hstep₁ _ fun acts => by rw [doInvoke_state]; exact hsteps.trans h⟩
  · exact Or.inr ⟨q, vm₁, B, X₁.warmed, X', hpost, hstep₁ _ fun acts => by rw [doInvoke_state]; exact hsteps⟩
theorem vx_callS (X : Stand p l e R s m args below meth c T locs cells slots) (hexec : p.tables.exec = Jvm.exec) {own : String} {index : Nat} {y : MethodName} {bytes : ByteArray} {maxL : Nat} {ret : Option FieldType}
    (hown : s.vm.findClass own = some m.cls) (hlink : (Cond.methodLink own index y).before args s = true) (hstat : (Cond.static y).before args s = true) (hinit : (Cond.initialized y.cls).before args s = true)
    (hcode : (Cond.code y bytes maxL ret).before args s = true) (hy : y.cls ≠ "java/lang/invoke/MethodHandle" ∧ y.cls ≠ "java/lang/invoke/VarHandle")
    {W9 : Nat} {Pre : Pt → Array Value → Prop} {Post : Pt → Array Value → Option Value → Pt → Prop} {PostX : Pt → Array Value → Addr → Pt → Prop} (hK : vx_Back l R p e below s args y 3 W9 Pre Post PostX)
    {g : JFrame} (hg : g.method = m) (hsize : g.locals.size = c.maxLocals) {argsL rest : List Value} (hlen : ∀ sig, parseMethodDescriptor y.desc = some sig → argsL.length = sig.parameters.length)
    (hstack : g.stack = argsL.reverse ++ rest) (hW : 2 * g.monitorRoom + (rest.map fun v => v.category).sum ≤ W9) (hdg : decode c.code g.pc = .ok (.invokestatic index, 3))
    (hpre : ∀ vm₁, s.WarmedH vm₁ → Pre ⟨T.setVm vm₁, locs, cells, slots⟩ argsL.toArray) :
    (∃ (v : Option Value) (vm₁ : Vm) (B : Pt), s.WarmedH vm₁ ∧ Stand p l e R s m args below meth c B.U B.locs B.cells B.slots ∧ Post ⟨T.setVm vm₁, locs, cells, slots⟩ argsL.toArray v B ∧
      ∀ target, Steps p.tables e below (B.U.setTop { g with pc := g.pc + 3, stack := v.toList ++ rest }) target → Steps p.tables e below (T.setTop g) target) ∨
    (∃ (q : Addr) (vm₁ : Vm) (B : Pt), s.WarmedH vm₁ ∧ Stand p l e R s m args below meth c B.U B.locs B.cells B.slots ∧ PostX ⟨T.setVm vm₁, locs, cells, slots⟩ argsL.toArray q B ∧
      Steps p.tables e below (T.setTop g) ((B.U.setTop { g with stack := rest }).pushFrame (.throwing q))) := by
  obtain ⟨mk, hnamed⟩ := Cond.code_named hcode
  obtain ⟨methM, cM, hmethM, -, -, -, -, -, -, hsigM⟩ := Cond.code_spec hnamed hcode
  have hstatic : methM.isStatic = true := Cond.static_spec hnamed hmethM hstat
  obtain ⟨kP, hkP, -⟩ := className_of_methodNamed hnamed
  have hinitP : kP.init = .initialized := Cond.initialized_spec (findClass_of_methodNamed hnamed) hkP hinit
  obtain ⟨vm₁, X₁, hstep₁⟩ := X.invokestatic hexec hown hlink hnamed hmethM hstatic hkP hinitP hy (g := g) hg (argsL := argsL) (rest := rest) (hlen _ hsigM) hstack hdg
  rcases hK m meth c ⟨T.setVm vm₁, locs, cells, slots⟩ { g with stack := rest } (.invokestatic index) mk argsL.toArray X₁ hg hsize hdg hW (X₁.named hnamed) (hpre vm₁ X₁.warmed) with ⟨v, B, X', hpost, hsteps⟩ | ⟨q, B, X', hpost, hsteps⟩
  · exact Or.inl ⟨v, vm₁, B, X₁.warmed, X', hpost, fun target h => hstep₁ _ fun acts => by rw [doInvoke_state]; exact hsteps.trans h⟩
  · exact Or.inr ⟨q, vm₁, B, X₁.warmed, X', hpost, hstep₁ _ fun acts => by rw [doInvoke_state]; exact hsteps⟩
end Calls
theorem vx_cls {s : State} {T : State} {vm₁ : Vm} {E : String} {k : ClassId} (hW : s.WarmedH vm₁) (h : (T.setVm vm₁).vm.findClass E = some k) : s.vm.findClass E = some k := by
  have h1 : vm₁.findClass E = some k := h
  rw [hW.alike.findClass] at h1
  exact h1
/-- the method's frame g, with q thrown over it -/
def vx_W (p : Program) (l : Launch) (e : Env) (R : Room) (s : State) (m : MethodId) (args : Array Value) (below : List Frame) (meth : Method) (c : Code) (H : Heap) (locs : List Loc) (cells slots : Nat) (Q : State → Prop) (g : JFrame) (q : Addr) : Prop :=
  ∀ T : State, T.heap = H → Stand p l e R s m args below meth c T locs cells slots → ∃ t, Steps p.tables e below ((T.setTop g).pushFrame (.throwing q)) t ∧ Q t
def vx_Run (p : Program) (l : Launch) (e : Env) (R : Room) (s : State) (m : MethodId) (args : Array Value) (below : List Frame) (meth : Method) (c : Code) (H : Heap) (locs : List Loc) (cells slots mc ms : Nat) (g : JFrame) (rest : List Value) (Qa : State → Outcome → State → Prop) (XC : String → State → State → Prop) (free : Addr → Prop) : Prop :=
  ∀ T : State, T.heap = H → Stand p l e R s m args below meth c T locs cells slots →
    (∃ (v : Option Value) (st₀ t T' : State) (L : List Loc), st₀.heap = H ∧ Stand p l e R s m args below meth c T' (locs ++ L) (cells + mc) (slots + ms) ∧ (∀ q ∈ L, free q.base) ∧ T'.heap = t.heap ∧ T'.vm = t.vm ∧ Qa st₀ (.returned v) t ∧
      Goes p e below T g T' { g with pc := g.pc + 3, stack := v.toList ++ rest }) ∨
    (∃ (q : Addr) (st₀ t T' : State) (L : List Loc) (E : String) (ce : Cell), st₀.heap = H ∧ Stand p l e R s m args below meth c T' (locs ++ L) (cells + mc) (slots + ms) ∧ (∀ z ∈ L, free z.base) ∧ T'.heap = t.heap ∧ T'.vm = t.vm ∧ XC E st₀ t ∧ t.heap[q]? = some ce ∧ ce.vm = .none ∧ s.vm.findClass E = some ce.cls ∧
      Steps p.tables e below (T.setTop g) ((T'.setTop { g with stack := rest }).pushFrame (.throwing q)))
def vx_X {S : Type} (px : S → Prop) (B : String → S → State → Prop) (A : Nat → Prop) : String → State → State → Prop := fun E st t => ∃ u : S, px u ∧ B E u t ∧ va_F A st t
section Runs
variable {p : Program} {l : Launch} {e : Env} {R : Room} {s : State} {m : MethodId} {args : Array Value} {below : List Frame} {meth : Method} {c : Code} {H : Heap} {locs : List Loc} {cells slots : Nat}
variable {y : MethodName} {bytes cc : ByteArray} {maxL nL mc ms n index : Nat} {ret : Option FieldType} {ws : List Cond} {rm : Room} {Pc : Array Value → State → Prop} {Qc : Array Value → State → Outcome → State → Prop} {XC : String → State → State → Prop} {free : Addr → Prop} {Ts : List Cond} {own C : String} {b : Addr} {As rest : List Value} {g : JFrame}
theorem vx_callBack (cb : CallB R s args own index y bytes maxL ret ws rm mc ms n) (hM : vx_Met l y ws rm Pc Qc XC mc ms free) (hbl : FrameBlind Pc) : vx_Back l R p e below s args y 3 8 (PreOf R mc ms Pc) (PostOf Qc mc ms free) (vx_Post XC mc ms free) := by
  obtain ⟨hrc, hrs, hfr, hlo, hws, hcw, -, hini, -⟩ := cb
  exact vx_back (bytes := bytes) (maxL := maxL) (ret := ret) hM hbl hrc hrs hfr hlo hws hcw (fun a' U hW => word_at hW (Or.inl (by first | rfl | simp [Cond.onTables, Cond.keeps, Cond.steady])) hini)
theorem vx_runV (S : CallFix p m c cc nL s args Ts own) (hM : vx_Met l y ws rm Pc Qc XC mc ms free) (cw : CallW R s args own C index y bytes maxL ret ws rm mc ms n) (hp : PreV s H C b Pc As)
    (hg : g.method = m) (hn : As.length = n) (hsize : g.locals.size = nL) (hstack : g.stack = As.reverse ++ .ref b :: rest) (hW : 2 * g.monitorRoom + (rest.map fun v => v.category).sum ≤ 8) (hdg : decode cc g.pc = .ok (.invokevirtual index, 3)) (hf : cells + mc ≤ R.cells ∧ slots + ms ≤ R.slots) :
    vx_Run p l e R s m args below meth c H locs cells slots mc ms g rest (Qc (Value.ref b :: As).toArray) XC free := by
  have hK : vx_Back l R p e below s args y 3 8 (PreOf R mc ms Pc) (PostOf Qc mc ms free) (vx_Post XC mc ms free) := vx_callBack cw.1 hM hp.1
  obtain ⟨⟨-, -, -, -, -, -, hcode, -, hy, hlen, hl⟩, hin, hse⟩ := cw
  obtain ⟨hx, hb, hml, ho, -⟩ := S
  obtain ⟨-, ⟨cellB, hcB, hoB, hclB⟩, hPc⟩ := hp
  intro T hT X
  rcases vx_callV X hx (C := C) (bytes := bytes) (maxL := maxL) (ret := ret) ho hl hin hse hcode hy hK (by rw [hT]; exact hcB) hoB hclB hg (hsize.trans hml.symm) (argsL := As) (rest := rest) (fun sig h => hn.trans (hlen sig h)) hstack hW (by rw [hb]; exact hdg)
    (fun vm₁ hW₁ => ⟨hf.1, hf.2, hPc (T.setVm vm₁) hT hW₁⟩) with ⟨v, vm₁, ⟨U', l2, c2, s2⟩, hW₁, X', ⟨g', mk, t, L, e1, e2, hq, h1, hL, h2, h3⟩, st⟩ | ⟨q, vm₁, ⟨U', l2, c2, s2⟩, hW₁, X', ⟨g', mk, t, L, E, ce, e1, e2, hq, hce, hcv, hcl, h1, hL, h2, h3⟩, st⟩
  · dsimp only [Pt.U, Pt.locs, Pt.cells, Pt.slots] at X' e1 e2 h1 h2 h3 st
    subst h1; subst h2; subst h3
    exact Or.inl ⟨v, (T.setVm vm₁).calling g' mk (Value.ref b :: As).toArray, t, U', L, hT, X', hL, e1, e2, hq, st⟩
  · dsimp only [Pt.U, Pt.locs, Pt.cells, Pt.slots] at X' e1 e2 h1 h2 h3 st hcl
    subst h1; subst h2; subst h3
    exact Or.inr ⟨q, (T.setVm vm₁).calling g' mk (Value.ref b :: As).toArray, t, U', L, E, ce, hT, X', hL, e1, e2, hq, hce, hcv, vx_cls hW₁ hcl, st⟩
theorem vx_runS (S : CallFix p m c cc nL s args Ts own) (hM : vx_Met l y ws rm Pc Qc XC mc ms free) (cw : CallB R s args own index y bytes maxL ret ws rm mc ms n ∧ (Cond.static y).before args s = true) (hp : PreS s H Pc As)
    (hg : g.method = m) (hn : As.length = n) (hsize : g.locals.size = nL) (hstack : g.stack = As.reverse ++ rest) (hW : 2 * g.monitorRoom + (rest.map fun v => v.category).sum ≤ 8) (hdg : decode cc g.pc = .ok (.invokestatic index, 3)) (hf : cells + mc ≤ R.cells ∧ slots + ms ≤ R.slots) :
    vx_Run p l e R s m args below meth c H locs cells slots mc ms g rest (Qc As.toArray) XC free := by
  have hK : vx_Back l R p e below s args y 3 8 (PreOf R mc ms Pc) (PostOf Qc mc ms free) (vx_Post XC mc ms free) := vx_callBack cw.1 hM hp.1
  obtain ⟨⟨-, -, -, -, -, -, hcode, hini, hy, hlen, hl⟩, hstt⟩ := cw
  obtain ⟨hx, hb, hml, ho, -⟩ := S
  intro T hT X
  rcases vx_callS X hx (bytes := bytes) (maxL := maxL) (ret := ret) ho hl hstt hini hcode hy hK hg (hsize.trans hml.symm) (argsL := As) (rest := rest) (fun sig h => hn.trans (hlen sig h)) hstack hW (by rw [hb]; exact hdg)
    (fun vm₁ hW₁ => ⟨hf.1, hf.2, hp.2 (T.setVm vm₁) hT hW₁⟩) with ⟨v, vm₁, ⟨U', l2, c2, s2⟩, hW₁, X', ⟨g', mk, t, L, e1, e2, hq, h1, hL, h2, h3⟩, st⟩ | ⟨q, vm₁, ⟨U', l2, c2, s2⟩, hW₁, X', ⟨g', mk, t, L, E, ce, e1, e2, hq, hce, hcv, hcl, h1, hL, h2, h3⟩, st⟩
  · dsimp only [Pt.U, Pt.locs, Pt.cells, Pt.slots] at X' e1 e2 h1 h2 h3 st
    subst h1; subst h2; subst h3
    exact Or.inl ⟨v, (T.setVm vm₁).calling g' mk As.toArray, t, U', L, hT, X', hL, e1, e2, hq, st⟩
  · dsimp only [Pt.U, Pt.locs, Pt.cells, Pt.slots] at X' e1 e2 h1 h2 h3 st hcl
    subst h1; subst h2; subst h3
    exact Or.inr ⟨q, (T.setVm vm₁).calling g' mk As.toArray, t, U', L, E, ce, hT, X', hL, e1, e2, hq, hce, hcv, vx_cls hW₁ hcl, st⟩
end Runs
section Rows
variable {p : Program} {l : Launch} {e : Env} {R : Room} {s : State} {m : MethodId} {args : Array Value} {below : List Frame} {meth : Method} {c : Code} {H : Heap} {locs : List Loc} {cells slots : Nat} {Q : State → Prop}
variable {mc ms : Nat} {free : Addr → Prop} {A0 A1 : Nat → Prop} {H0 : Heap} {a : Array Value} {pc : Nat} {ls : Array Slot} {st0 rest : List Value}
theorem vx_keep {st₀ t T' : State} {L : List Loc} (h0 : st₀.heap = H) (e1 : T'.heap = t.heap) (hS : va_S A0 H0 H locs) (hA : ∀ q, q < H.size → A1 q → A0 q) (hf : ∀ q, free q → A0 q) (hL : ∀ q ∈ L, free q.base) (hF : va_F A1 st₀ t) :
    H.size ≤ T'.heap.size ∧ (∀ q : Nat, q < H.size → ¬ A1 q → T'.heap[q]? = H[q]?) ∧ va_S A0 H0 T'.heap (locs ++ L) := by
  obtain ⟨hz, hk⟩ := hF
  rw [h0] at hz hk
  exact ⟨by rw [e1]; exact hz, fun q h1 h2 => by rw [e1]; exact hk q h1 h2,
    ⟨Nat.le_trans hS.1 (by rw [e1]; exact hz), fun q h1 h2 => by rw [e1, hk q (Nat.lt_of_lt_of_le h1 hS.1) (fun z => h2 (hA q (Nat.lt_of_lt_of_le h1 hS.1) z))]; exact hS.2.1 q h1 h2, fun q hq => by
      rcases List.mem_append.mp hq with h | h
      · exact hS.2.2 q h
      · exact hf _ (hL q h)⟩⟩
theorem vx_calli {S SX : Type} {post : Int32 → S → Prop} {px : SX → Prop} {B : S → State → Prop} {BX : String → SX → State → Prop} {AX : Nat → Prop} (hr : vx_Run p l e R s m args below meth c H locs cells slots mc ms (F0 m pc ls st0) rest (va_Qi post B A1 a) (vx_X px BX AX) free) (hS : va_S A0 H0 H locs) (hA : ∀ q, q < H.size → A1 q → A0 q) (hf : ∀ q, free q → A0 q) (hAX : ∀ q, q < H.size → AX q → A0 q)
    (kx : ∀ (E : String) (ce : Cell) (q9 : Addr) (u : SX) (t : State) (H1 : Heap) (locs1 : List Loc), t.heap = H1 → s.vm.Alike t.vm → px u → BX E u t → H.size ≤ H1.size → (∀ q : Nat, q < H.size → ¬ AX q → H1[q]? = H[q]?) → va_S A0 H0 H1 locs1 → H1[q9]? = some ce → ce.vm = .none → s.vm.findClass E = some ce.cls → vx_W p l e R s m args below meth c H1 locs1 (cells + mc) (slots + ms) Q (F0 m pc ls rest) q9)
    (kk : ∀ (r : Int32) (u : S) (t : State) (H1 : Heap) (locs1 : List Loc), t.heap = H1 → s.vm.Alike t.vm → post r u → B u t → H.size ≤ H1.size → (∀ q : Nat, q < H.size → ¬ A1 q → H1[q]? = H[q]?) → va_S A0 H0 H1 locs1 → W p l e R s m args below meth c H1 locs1 (cells + mc) (slots + ms) Q (F0 m (pc + 3) ls (.int r :: rest))) : W p l e R s m args below meth c H locs cells slots Q (F0 m pc ls st0) := by
  intro T hT X
  rcases hr T hT X with ⟨v, st₀, t, T', L, h0, X', hL, e1, e2, ⟨⟨r, u, hv, hp, hb⟩, hF⟩, st⟩ | ⟨q, st₀, t, T', L, E, ce, h0, X', hL, e1, e2, ⟨u, hp, hb, hF⟩, hce, hcv, hcl, st⟩
  · cases hv
    obtain ⟨k1, k2, k3⟩ := vx_keep h0 e1 hS hA hf hL hF
    obtain ⟨t2, a1, b1⟩ := kk r u t T'.heap (locs ++ L) e1.symm (by rw [← e2]; exact X'.warmed.alike) hp hb k1 k2 k3 T' rfl X'
    exact ⟨t2, st t2 a1, b1⟩
  · obtain ⟨k1, k2, k3⟩ := vx_keep h0 e1 hS hAX hf hL hF
    obtain ⟨t2, a1, b1⟩ := kx E ce q u t T'.heap (locs ++ L) e1.symm (by rw [← e2]; exact X'.warmed.alike) hp hb k1 k2 k3 (by rw [e1]; exact hce) hcv hcl T' rfl X'
    exact ⟨t2, st.trans a1, b1⟩
theorem vx_calll {S SX : Type} {post : Int64 → S → Prop} {px : SX → Prop} {B : S → State → Prop} {BX : String → SX → State → Prop} {AX : Nat → Prop} (hr : vx_Run p l e R s m args below meth c H locs cells slots mc ms (F0 m pc ls st0) rest (va_Ql post B A1 a) (vx_X px BX AX) free) (hS : va_S A0 H0 H locs) (hA : ∀ q, q < H.size → A1 q → A0 q) (hf : ∀ q, free q → A0 q) (hAX : ∀ q, q < H.size → AX q → A0 q)
    (kx : ∀ (E : String) (ce : Cell) (q9 : Addr) (u : SX) (t : State) (H1 : Heap) (locs1 : List Loc), t.heap = H1 → s.vm.Alike t.vm → px u → BX E u t → H.size ≤ H1.size → (∀ q : Nat, q < H.size → ¬ AX q → H1[q]? = H[q]?) → va_S A0 H0 H1 locs1 → H1[q9]? = some ce → ce.vm = .none → s.vm.findClass E = some ce.cls → vx_W p l e R s m args below meth c H1 locs1 (cells + mc) (slots + ms) Q (F0 m pc ls rest) q9)
    (kk : ∀ (r : Int64) (u : S) (t : State) (H1 : Heap) (locs1 : List Loc), t.heap = H1 → s.vm.Alike t.vm → post r u → B u t → H.size ≤ H1.size → (∀ q : Nat, q < H.size → ¬ A1 q → H1[q]? = H[q]?) → va_S A0 H0 H1 locs1 → W p l e R s m args below meth c H1 locs1 (cells + mc) (slots + ms) Q (F0 m (pc + 3) ls (.long r :: rest))) : W p l e R s m args below meth c H locs cells slots Q (F0 m pc ls st0) := by
  intro T hT X
  rcases hr T hT X with ⟨v, st₀, t, T', L, h0, X', hL, e1, e2, ⟨⟨r, u, hv, hp, hb⟩, hF⟩, st⟩ | ⟨q, st₀, t, T', L, E, ce, h0, X', hL, e1, e2, ⟨u, hp, hb, hF⟩, hce, hcv, hcl, st⟩
  · cases hv
    obtain ⟨k1, k2, k3⟩ := vx_keep h0 e1 hS hA hf hL hF
    obtain ⟨t2, a1, b1⟩ := kk r u t T'.heap (locs ++ L) e1.symm (by rw [← e2]; exact X'.warmed.alike) hp hb k1 k2 k3 T' rfl X'
    exact ⟨t2, st t2 a1, b1⟩
  · obtain ⟨k1, k2, k3⟩ := vx_keep h0 e1 hS hAX hf hL hF
    obtain ⟨t2, a1, b1⟩ := kx E ce q u t T'.heap (locs ++ L) e1.symm (by rw [← e2]; exact X'.warmed.alike) hp hb k1 k2 k3 (by rw [e1]; exact hce) hcv hcl T' rfl X'
    exact ⟨t2, st.trans a1, b1⟩
theorem vx_callf {S SX : Type} {post : UInt32 → S → Prop} {px : SX → Prop} {B : S → State → Prop} {BX : String → SX → State → Prop} {AX : Nat → Prop} (hr : vx_Run p l e R s m args below meth c H locs cells slots mc ms (F0 m pc ls st0) rest (va_Qf post B A1 a) (vx_X px BX AX) free) (hS : va_S A0 H0 H locs) (hA : ∀ q, q < H.size → A1 q → A0 q) (hf : ∀ q, free q → A0 q) (hAX : ∀ q, q < H.size → AX q → A0 q)
    (kx : ∀ (E : String) (ce : Cell) (q9 : Addr) (u : SX) (t : State) (H1 : Heap) (locs1 : List Loc), t.heap = H1 → s.vm.Alike t.vm → px u → BX E u t → H.size ≤ H1.size → (∀ q : Nat, q < H.size → ¬ AX q → H1[q]? = H[q]?) → va_S A0 H0 H1 locs1 → H1[q9]? = some ce → ce.vm = .none → s.vm.findClass E = some ce.cls → vx_W p l e R s m args below meth c H1 locs1 (cells + mc) (slots + ms) Q (F0 m pc ls rest) q9)
    (kk : ∀ (r : UInt32) (u : S) (t : State) (H1 : Heap) (locs1 : List Loc), t.heap = H1 → s.vm.Alike t.vm → post r u → B u t → H.size ≤ H1.size → (∀ q : Nat, q < H.size → ¬ A1 q → H1[q]? = H[q]?) → va_S A0 H0 H1 locs1 → W p l e R s m args below meth c H1 locs1 (cells + mc) (slots + ms) Q (F0 m (pc + 3) ls (.float r :: rest))) : W p l e R s m args below meth c H locs cells slots Q (F0 m pc ls st0) := by
  intro T hT X
  rcases hr T hT X with ⟨v, st₀, t, T', L, h0, X', hL, e1, e2, ⟨⟨r, u, hv, hp, hb⟩, hF⟩, st⟩ | ⟨q, st₀, t, T', L, E, ce, h0, X', hL, e1, e2, ⟨u, hp, hb, hF⟩, hce, hcv, hcl, st⟩
  · cases hv
    obtain ⟨k1, k2, k3⟩ := vx_keep h0 e1 hS hA hf hL hF
    obtain ⟨t2, a1, b1⟩ := kk r u t T'.heap (locs ++ L) e1.symm (by rw [← e2]; exact X'.warmed.alike) hp hb k1 k2 k3 T' rfl X'
    exact ⟨t2, st t2 a1, b1⟩
  · obtain ⟨k1, k2, k3⟩ := vx_keep h0 e1 hS hAX hf hL hF
    obtain ⟨t2, a1, b1⟩ := kx E ce q u t T'.heap (locs ++ L) e1.symm (by rw [← e2]; exact X'.warmed.alike) hp hb k1 k2 k3 (by rw [e1]; exact hce) hcv hcl T' rfl X'
    exact ⟨t2, st.trans a1, b1⟩
theorem vx_calld {S SX : Type} {post : UInt64 → S → Prop} {px : SX → Prop} {B : S → State → Prop} {BX : String → SX → State → Prop} {AX : Nat → Prop} (hr : vx_Run p l e R s m args below meth c H locs cells slots mc ms (F0 m pc ls st0) rest (va_Qd post B A1 a) (vx_X px BX AX) free) (hS : va_S A0 H0 H locs) (hA : ∀ q, q < H.size → A1 q → A0 q) (hf : ∀ q, free q → A0 q) (hAX : ∀ q, q < H.size → AX q → A0 q)
    (kx : ∀ (E : String) (ce : Cell) (q9 : Addr) (u : SX) (t : State) (H1 : Heap) (locs1 : List Loc), t.heap = H1 → s.vm.Alike t.vm → px u → BX E u t → H.size ≤ H1.size → (∀ q : Nat, q < H.size → ¬ AX q → H1[q]? = H[q]?) → va_S A0 H0 H1 locs1 → H1[q9]? = some ce → ce.vm = .none → s.vm.findClass E = some ce.cls → vx_W p l e R s m args below meth c H1 locs1 (cells + mc) (slots + ms) Q (F0 m pc ls rest) q9)
    (kk : ∀ (r : UInt64) (u : S) (t : State) (H1 : Heap) (locs1 : List Loc), t.heap = H1 → s.vm.Alike t.vm → post r u → B u t → H.size ≤ H1.size → (∀ q : Nat, q < H.size → ¬ A1 q → H1[q]? = H[q]?) → va_S A0 H0 H1 locs1 → W p l e R s m args below meth c H1 locs1 (cells + mc) (slots + ms) Q (F0 m (pc + 3) ls (.double r :: rest))) : W p l e R s m args below meth c H locs cells slots Q (F0 m pc ls st0) := by
  intro T hT X
  rcases hr T hT X with ⟨v, st₀, t, T', L, h0, X', hL, e1, e2, ⟨⟨r, u, hv, hp, hb⟩, hF⟩, st⟩ | ⟨q, st₀, t, T', L, E, ce, h0, X', hL, e1, e2, ⟨u, hp, hb, hF⟩, hce, hcv, hcl, st⟩
  · cases hv
    obtain ⟨k1, k2, k3⟩ := vx_keep h0 e1 hS hA hf hL hF
    obtain ⟨t2, a1, b1⟩ := kk r u t T'.heap (locs ++ L) e1.symm (by rw [← e2]; exact X'.warmed.alike) hp hb k1 k2 k3 T' rfl X'
    exact ⟨t2, st t2 a1, b1⟩
  · obtain ⟨k1, k2, k3⟩ := vx_keep h0 e1 hS hAX hf hL hF
    obtain ⟨t2, a1, b1⟩ := kx E ce q u t T'.heap (locs ++ L) e1.symm (by rw [← e2]; exact X'.warmed.alike) hp hb k1 k2 k3 (by rw [e1]; exact hce) hcv hcl T' rfl X'
    exact ⟨t2, st.trans a1, b1⟩
theorem vx_callv {S SX : Type} {post : S → Prop} {px : SX → Prop} {B : S → State → Prop} {BX : String → SX → State → Prop} {AX : Nat → Prop} (hr : vx_Run p l e R s m args below meth c H locs cells slots mc ms (F0 m pc ls st0) rest (va_Qv post B A1 a) (vx_X px BX AX) free) (hS : va_S A0 H0 H locs) (hA : ∀ q, q < H.size → A1 q → A0 q) (hf : ∀ q, free q → A0 q) (hAX : ∀ q, q < H.size → AX q → A0 q)
    (kx : ∀ (E : String) (ce : Cell) (q9 : Addr) (u : SX) (t : State) (H1 : Heap) (locs1 : List Loc), t.heap = H1 → s.vm.Alike t.vm → px u → BX E u t → H.size ≤ H1.size → (∀ q : Nat, q < H.size → ¬ AX q → H1[q]? = H[q]?) → va_S A0 H0 H1 locs1 → H1[q9]? = some ce → ce.vm = .none → s.vm.findClass E = some ce.cls → vx_W p l e R s m args below meth c H1 locs1 (cells + mc) (slots + ms) Q (F0 m pc ls rest) q9)
    (kk : ∀ (u : S) (t : State) (H1 : Heap) (locs1 : List Loc), t.heap = H1 → s.vm.Alike t.vm → post u → B u t → H.size ≤ H1.size → (∀ q : Nat, q < H.size → ¬ A1 q → H1[q]? = H[q]?) → va_S A0 H0 H1 locs1 → W p l e R s m args below meth c H1 locs1 (cells + mc) (slots + ms) Q (F0 m (pc + 3) ls (rest))) : W p l e R s m args below meth c H locs cells slots Q (F0 m pc ls st0) := by
  intro T hT X
  rcases hr T hT X with ⟨v, st₀, t, T', L, h0, X', hL, e1, e2, ⟨⟨u, hv, hp, hb⟩, hF⟩, st⟩ | ⟨q, st₀, t, T', L, E, ce, h0, X', hL, e1, e2, ⟨u, hp, hb, hF⟩, hce, hcv, hcl, st⟩
  · cases hv
    obtain ⟨k1, k2, k3⟩ := vx_keep h0 e1 hS hA hf hL hF
    obtain ⟨t2, a1, b1⟩ := kk u t T'.heap (locs ++ L) e1.symm (by rw [← e2]; exact X'.warmed.alike) hp hb k1 k2 k3 T' rfl X'
    exact ⟨t2, st t2 a1, b1⟩
  · obtain ⟨k1, k2, k3⟩ := vx_keep h0 e1 hS hAX hf hL hF
    obtain ⟨t2, a1, b1⟩ := kx E ce q u t T'.heap (locs ++ L) e1.symm (by rw [← e2]; exact X'.warmed.alike) hp hb k1 k2 k3 (by rw [e1]; exact hce) hcv hcl T' rfl X'
    exact ⟨t2, st.trans a1, b1⟩
/-- caught by the row x of this method's table; the rows ahead don't take it -/
theorem vx_catch {own name : String} {E : String} {ce : Cell} {q : Addr} (hown : s.vm.findClass own = some m.cls) (pre : List ExceptionTableEntry) (x : ExceptionTableEntry) (suf : List ExceptionTableEntry) (hsplit : c.exceptionTable.toList = pre ++ x :: suf)
    (hpass : ∀ z ∈ pre, covers z pc = false ∨ (z.catchType ≠ 0 ∧ ∃ nm : String, (Cond.classLink own z.catchType nm).before args s = true ∧ va_Nc E nm s)) (hx : covers x pc = true) (h0 : x.catchType ≠ 0)
    (hlink : (Cond.classLink own x.catchType name).before args s = true) (hcast : (Cond.castable E name).before args s = true) (hcell : H[q]? = some ce) (hv : ce.vm = .none) (hcl : s.vm.findClass E = some ce.cls)
    (kk : W p l e R s m args below meth c H locs cells slots Q (F0 m x.handlerPc ls [.ref q])) : vx_W p l e R s m args below meth c H locs cells slots Q (F0 m pc ls rest) q := by
  intro T hT X
  have hpl : e.platform.magicAccessors = ({} : Platform).magicAccessors := by rw [X.admits.platform]
  obtain ⟨c3, c4, hc3, hc4, hasg⟩ := Cond.castable_spec hcast
  cases Option.some.inj (hc3.symm.trans hcl)
  obtain ⟨c5, hc5, hcl5⟩ := Cond.classLink_spec hown hlink e.platform hpl
  cases Option.some.inj (hc4.symm.trans hc5)
  obtain ⟨vm', X', st⟩ := X.thenCaughtThrough q (g := F0 m pc ls rest) rfl (Steps.refl _) (by rw [hT]; exact hcell) (by rw [hv]; rfl) (by obtain ⟨k9, h9, -⟩ := Vm.findClass_spec hcl; exact ⟨k9, h9⟩) pre x suf hsplit
    (fun z hz => by
      rcases hpass z hz with h | ⟨hz0, nm, hl1, hn1⟩
      · exact Or.inl h
      · obtain ⟨c6, hc6, hcl6⟩ := Cond.classLink_spec hown hl1 e.platform hpl
        obtain ⟨a8, b8, h1, h2, h3⟩ := hn1
        cases Option.some.inj (h1.symm.trans hcl)
        cases Option.some.inj (h2.symm.trans hc6)
        exact Or.inr ⟨hz0, _, hcl6, h3⟩) hx (Or.inr ⟨h0, c4, hcl5, hasg⟩)
  obtain ⟨t, a1, b1⟩ := kk (T.setVm vm') hT X'
  exact ⟨t, st.trans a1, b1⟩
end Rows
section Ends
variable {p : Program} {l : Launch} {e : Env} {R : Room} {s : State} {m : MethodId} {args : Array Value} {below : List Frame} {meth : Method} {c : Code} {H : Heap} {locs : List Loc} {cells slots : Nat} {Q : State → Prop}
variable {mc ms : Nat} {free : Addr → Prop} {A0 A1 : Nat → Prop} {H0 : Heap} {a : Array Value} {ls : Array Slot} {st0 rest : List Value}
variable {Qc : Array Value → State → Outcome → State → Prop} {XC : String → State → State → Prop}
/-- what a body that may throw owes at its end -/
def vx_MQ (below : List Frame) (Qc : Array Value → State → Outcome → State → Prop) (XC : String → State → State → Prop) (a : Array Value) (s : State) (mc ms : Nat) (free : Addr → Prop) : State → Prop := fun t =>
  ∃ o, t.status = .running ∧ Ended t below o ∧ vx_Q Qc XC mc ms free a s o t
theorem vx_ret {g : JFrame} {mc ms : Nat} (k : W p l e R s m args below meth c H locs cells slots (MQ below Qc args s mc ms free) g) : W p l e R s m args below meth c H locs cells slots (vx_MQ below Qc XC args s mc ms free) g := by
  intro T hT X
  obtain ⟨t, a1, o, b1, b2, b3, b4⟩ := k T hT X
  exact ⟨t, a1, o, b1, b2, Or.inl ⟨b3, b4⟩⟩
/-- not caught here: it goes on to the caller -/
theorem vx_widen {g : JFrame} {q : Addr} {k n : Nat} (h1 : cells ≤ k) (h2 : slots ≤ n) (kk : vx_W p l e R s m args below meth c H locs k n Q g q) : vx_W p l e R s m args below meth c H locs cells slots Q g q := fun T hT X => kk T hT (stand_widen X h1 h2)
theorem vx_out {pc : Nat} {E : String} {ce : Cell} {q : Addr} {mc ms : Nat} (hout : ∀ x ∈ c.exceptionTable.toList, covers x pc = false) (hlocks : meth.locks = false) (hcell : H[q]? = some ce) (hv : ce.vm = .none) (hcl : s.vm.findClass E = some ce.cls)
    (hx : ∀ t : State, t.heap = H → s.vm.Alike t.vm → XC E s t) (hf : ∀ z ∈ locs, free z.base) (hc : cells ≤ mc) (hs : slots ≤ ms) :
    vx_W p l e R s m args below meth c H locs cells slots (vx_MQ below Qc XC args s mc ms free) (F0 m pc ls rest) q := by
  intro T hT X
  obtain ⟨st1, hrun, hend, hW, hsm⟩ := X.leaveThrown q (g := F0 m pc ls rest) rfl rfl rfl hout hlocks
  have hcell9 : (T.setFrames (.throwing q :: below)).heap[q]? = some ce := by
    show T.heap[q]? = some ce
    rw [hT]; exact hcell
  exact ⟨_, st1, .threw q, hrun, hend, Or.inr ⟨q, rfl, E, ce, locs, hx _ hT hW.alike, hcell9, hv, hcl, hW, hsm.mono hc hs, hf⟩⟩
theorem vx_frame {U : State} {k n : Nat} (h : s.sameButNew ({ U with vm := s.vm } : State) locs k n) : s.heap.size ≤ U.heap.size ∧ ∀ q : Nat, q < s.heap.size → (∀ z ∈ locs, z.base ≠ q) → U.heap[q]? = s.heap[q]? := by
  obtain ⟨-, h2, -, -, -, h6⟩ := h
  refine ⟨h2, fun q hq hz => ?_⟩
  obtain ⟨c9, e1, e2, e3, e4⟩ := h6 q _ (Array.getElem?_eq_getElem hq)
  have hs : c9.slots = (s.heap[q]).slots := Array.ext_getElem? fun i => e4 i fun hm => hz _ hm rfl
  have h9 : c9 = s.heap[q] := by
    rw [hs] at e2
    exact e2
  have e5 : U.heap[q]? = some c9 := e1
  rw [e5, h9, Array.getElem?_eq_getElem hq]
/-- the words of a throw but the four that speak of the heap -/
def vx_no (w : Cond) : Bool := decide (w ≠ .isRef (.static Bundle.tN "UNASSIGNED_STACK" Bundle.steD)) && decide (w ≠ .isRef (.static Bundle.tN "SUPPRESSED_SENTINEL" Bundle.listD)) && decide (w ≠ .laysStatic Bundle.tN "UNASSIGNED_STACK" Bundle.steD) && decide (w ≠ .laysStatic Bundle.tN "SUPPRESSED_SENTINEL" Bundle.listD)
def vx_at0 (own : String) (ic : Nat) (X : String) (names : List String) : List Cond := (Bundle.ownAtoms0 own ic X names).filter vx_no
def vx_atS (own : String) (ic : Nat) (X : String) (names : List String) : List Cond := (Bundle.ownAtoms own ic X names).filter vx_no
/-- a word that the tables alone decide, or a good one -/
def vx_ot (w : Cond) : Bool := w.onTables || goodWord w
theorem vx_ot_at {args a' : Array Value} {s U : State} {w : Cond} (hW : s.WarmedH U.vm) (hvm : s.vm = U.vm) (hg : vx_ot w = true) (h : w.before args s = true) : w.before a' U = true := by
  simp only [vx_ot, Bool.or_eq_true] at hg
  rcases hg with hg | hg
  · exact va_tabs hg hvm h
  · exact word_at hW (good_of_word hg) h
/-- a list's words: the good ones out of the method's own list, the others by premises of their own -/
theorem vx_hat {args : Array Value} {s : State} {L B : List Cond} (h1 : ∀ w ∈ L.filter goodWord, w.before args s = true) (h2 : ∀ w ∈ L.filter (fun w => !goodWord w), w ∈ B) (h3 : ∀ w ∈ B, w.before args s = true) : ∀ w ∈ L, w.before args s = true := by
  intro w hw
  by_cases g : goodWord w = true
  · exact h1 w (List.mem_filter.mpr ⟨hw, g⟩)
  · refine h3 w (h2 w (List.mem_filter.mpr ⟨hw, ?_⟩))
    show (!goodWord w) = true
    cases hgw : goodWord w
    · rfl
    · exact absurd hgw g
theorem vx_c {args : Array Value} {s : State} {w : Cond} {B : List Cond} (h : w.before args s = true) (t : ∀ w ∈ B, w.before args s = true) : ∀ w' ∈ w :: B, w'.before args s = true := fun w' h' => (List.mem_cons.mp h').elim (fun e => by rw [e]; exact h) (t w')
theorem vx_n {args : Array Value} {s : State} : ∀ w ∈ ([] : List Cond), w.before args s = true := fun _ h => nomatch h
theorem vx_own {args : Array Value} {s : State} {L : List Cond} (h1 : ∀ w ∈ L.filter vx_no, w.before args s = true)
    (hU : (Cond.isRef (.static Bundle.tN "UNASSIGNED_STACK" Bundle.steD)).before args s = true) (hN : (Cond.isRef (.static Bundle.tN "SUPPRESSED_SENTINEL" Bundle.listD)).before args s = true)
    (lU : (Cond.laysStatic Bundle.tN "UNASSIGNED_STACK" Bundle.steD).before args s = true) (lN : (Cond.laysStatic Bundle.tN "SUPPRESSED_SENTINEL" Bundle.listD).before args s = true) : ∀ w ∈ L, w.before args s = true := by
  intro w hw
  by_cases e1 : w = .isRef (.static Bundle.tN "UNASSIGNED_STACK" Bundle.steD)
  · rw [e1]; exact hU
  · by_cases e2 : w = .isRef (.static Bundle.tN "SUPPRESSED_SENTINEL" Bundle.listD)
    · rw [e2]; exact hN
    · by_cases e3 : w = .laysStatic Bundle.tN "UNASSIGNED_STACK" Bundle.steD
      · rw [e3]; exact lU
      · by_cases e4 : w = .laysStatic Bundle.tN "SUPPRESSED_SENTINEL" Bundle.listD
        · rw [e4]; exact lN
        · exact h1 w (List.mem_filter.mpr ⟨hw, by unfold vx_no; rw [decide_eq_true e1, decide_eq_true e2, decide_eq_true e3, decide_eq_true e4]; rfl⟩)
/-- where a static field lies, its class's statics cell in H -/
def vx_L (C n d : String) (A : Nat → Prop) (U : State) (H : Heap) : Prop := ∃ (c : ClassId) (k : Class) (i : Nat) (f : Field) (a : Nat) (cell : Cell), U.vm.findClass C = some c ∧ U.fieldFound? C n d = some (c, k, i, f) ∧ f.isStatic = true ∧ k.statics = some a ∧ H[a]? = some cell ∧ cell.vm.isStatics = true ∧ cell.cls = c ∧ f.slot < cell.slots.size ∧ k.staticTypes[f.slot]? = some f.type ∧ ¬ A a
theorem vx_L.moved {C n d : String} {A : Nat → Prop} {u U : State} {H : Heap} (hvm : u.vm.Alike U.vm) (h : vx_L C n d A u H) : vx_L C n d A U H := by
  obtain ⟨c, k, i, f, a, cell, h1, h2, h3, h4, h5, h6, h7, h8, h9, h10⟩ := h
  obtain ⟨k', hi', he⟩ := State.fieldFound?_setVm hvm h2
  exact ⟨c, k', i, f, a, cell, by rw [hvm.findClass]; exact h1, hi', h3, by rw [he]; exact h4, h5, h6, h7, h8, by rw [he]; exact h9, h10⟩
theorem vx_L.kept {C n d : String} {A : Nat → Prop} {U : State} {H H1 : Heap} (h : vx_L C n d A U H) (hq : ∀ a : Nat, a < H.size → ¬ A a → H1[a]? = H[a]?) : vx_L C n d A U H1 := by
  obtain ⟨c, k, i, f, a, cell, h1, h2, h3, h4, h5, h6, h7, h8, h9, h10⟩ := h
  exact ⟨c, k, i, f, a, cell, h1, h2, h3, h4, by rw [hq a (Array.getElem?_eq_some_iff.mp h5).1 h10]; exact h5, h6, h7, h8, h9, h10⟩
theorem vx_L.narrow {C n d : String} {A B : Nat → Prop} {U : State} {H : Heap} (h : vx_L C n d A U H) (hAB : ∀ q, B q → A q) : vx_L C n d B U H := by
  obtain ⟨c, k, i, f, a, cell, h1, h2, h3, h4, h5, h6, h7, h8, h9, h10⟩ := h
  exact ⟨c, k, i, f, a, cell, h1, h2, h3, h4, h5, h6, h7, h8, h9, fun z => h10 (hAB _ z)⟩
theorem vx_L.word {C n d : String} {A : Nat → Prop} {s : State} {args : Array Value} (h : vx_L C n d A s s.heap) : (Cond.laysStatic C n d).before args s = true := by
  obtain ⟨c, k, i, f, a, cell, h1, h2, h3, h4, h5, h6, h7, h8, h9, -⟩ := h
  show (Cond.laysStatic C n d).holds args s none s [] = true
  exact Cond.laysStatic_of h1 h2 h3 h4 h5 h6 h7 h8 h9
/-- .. and what it holds: null or some reference -/
def vx_Zq (C n d : String) (A : Nat → Prop) (U : State) (H : Heap) : Prop := va_Zq C n d A U H ∧ vx_L C n d A U H
theorem vx_Zq.moved {C n d : String} {A : Nat → Prop} {u U : State} {H : Heap} (hvm : u.vm.Alike U.vm) (h : vx_Zq C n d A u H) : vx_Zq C n d A U H := ⟨va_Zq.moved hvm h.1, vx_L.moved hvm h.2⟩
theorem vx_Zq.kept {C n d : String} {A : Nat → Prop} {U : State} {H H1 : Heap} (h : vx_Zq C n d A U H) (hq : ∀ a : Nat, a < H.size → ¬ A a → H1[a]? = H[a]?) : vx_Zq C n d A U H1 := ⟨va_Zq.kept h.1 hq, vx_L.kept h.2 hq⟩
theorem vx_Zq.narrow {C n d : String} {A B : Nat → Prop} {U : State} {H : Heap} (h : vx_Zq C n d A U H) (hAB : ∀ q, B q → A q) : vx_Zq C n d B U H := ⟨va_Zq.narrow h.1 hAB, vx_L.narrow h.2 hAB⟩
theorem vx_Zqof {args : Array Value} {s : State} {C n d : String} {A : Nat → Prop} (hl : (Cond.laysStatic C n d).before args s = true) (hini : (Cond.initialized C).before args s = true) (h : (Cond.isRef (.static C n d)).before args s = true) (hA : ∀ a : Nat, a < s.heap.size → ¬ A a) : vx_Zq C n d A s s.heap := by
  refine ⟨va_Zqof hl hini h hA, ?_⟩
  obtain ⟨c, k, i, f, a, cell, h1, h2, h3, h4, h5, h6, h7, h8, h9⟩ := Cond.laysStatic_spec hl
  exact ⟨c, k, i, f, a, cell, h1, h2, h3, h4, h5, h6, h7, h8, h9, hA a (Array.getElem?_eq_some_iff.mp h5).1⟩
theorem vx_isRef {C n d : String} {v : Value} {A : Nat → Prop} {s : State} {args : Array Value} (h : va_Z C n d v A s s.heap) (hv : v.isRef = true) : (Cond.isRef (.static C n d)).before args s = true := by
  obtain ⟨cf, kf, fi, f, a, cell, h1, h2, h3, h4, h5, h6, h7, -⟩ := h
  have he : (Term.static C n d).eval args s none [] s = some v := by
    simp [Term.eval, State.fieldNamed?, h1, h2, h4, h5, h6, h7]
  simp only [Cond.before, Cond.holds, Cond.value, he]
  cases v <;> simp_all [Value.isRef]
theorem vx_isRefq {C n d : String} {A : Nat → Prop} {s : State} {args : Array Value} (h : va_Zq C n d A s s.heap) : (Cond.isRef (.static C n d)).before args s = true := by
  rcases h with h | ⟨t, h⟩
  · exact vx_isRef h rfl
  · exact vx_isRef h rfl
/-- the same frame, seen from here: as if the method were called anew in this heap -/
theorem vx_rebase {T : State} (X : Stand p l e R s m args below meth c T locs cells slots) {R' : Room} (hf : R'.frames ≤ R.frames) (hl : R'.locals ≤ R.locals) (hc : cells + R'.cells ≤ R.cells) (hs : slots + R'.slots ≤ R.slots) :
    Stand p l e R' ((T.setVm s.vm).setFrames (.invoking m args :: below)) m args below meth c T [] 0 0 := by
  have htop : (T.setVm s.vm).topJava?.isSome := X.here.top
  have hF : ((T.setVm s.vm).setFrames (.invoking m args :: below)).frames = .invoking m args :: below := State.frames_setFrames _ (State.cur_lt_of_top htop)
  obtain ⟨g₀, hg0⟩ := Option.isSome_iff_exists.mp htop
  obtain ⟨r, hr⟩ := State.topJava?_eq_some.mp hg0
  have hl9 : e.platform.stackLimits (T.setVm s.vm).me = e.platform.stackLimits s.me := X.limits
  have hb9 : (T.setVm s.vm).me.stackBytes = s.me.stackBytes := X.bytes
  refine ⟨X.admits, X.cas, X.clock, hF, ?_, X.hears, X.method, X.code, X.here, X.tail, X.warmed, ?_, ?_, ?_⟩
  · have h := X.room
    have hU : ((T.setVm s.vm).setFrames (.invoking m args :: below)).localsInUse = s.localsInUse := by
      rw [State.localsInUse_invoking hF (meth := meth) (c := c) X.method X.code, State.localsInUse_invoking X.frames X.method X.code]
    simp only [State.hasRoom, Bool.and_eq_true, decide_eq_true_eq] at h ⊢
    obtain ⟨⟨⟨⟨h1, h2, h3, h4, h5, h6⟩, h7⟩, h8⟩, h9⟩ := h
    rw [X.frames, List.length_cons] at h2 h3
    have q1 := X.heapSize
    have q2 := X.used
    simp only [hF, hU, List.length_cons, State.stackLimits_setFrames, State.stackBytes_setFrames, hl9, hb9]
    refine ⟨⟨⟨⟨by omega, by omega, by omega, by omega, by omega, h6⟩, ?_⟩, ?_⟩, X.book⟩
    · show T.heap.size + R'.cells ≤ e.platform.maxCells
      omega
    · show T.slotsUsed + R'.slots ≤ e.platform.maxSlots
      omega
  · rw [State.stackLimits_setFrames]; rfl
  · rw [State.stackBytes_setFrames]; rfl
  · refine ⟨?_, Nat.le_refl _, Nat.le_refl _, ?_, ?_, fun a c9 h9 => ⟨c9, h9, rfl, rfl, fun _ _ => rfl⟩⟩
    · obtain ⟨t, ht, -⟩ := State.frames_cons hr
      show T.setVm s.vm = { ((T.setVm s.vm).setFrames (.invoking m args :: below)).setFrames (T.setVm s.vm).frames with heap := T.heap, slotsUsed := T.slotsUsed }
      rw [State.setFrames_setFrames, State.setFrames_self ht]
      rfl
    · show T.slotsUsed = T.slotsUsed + ((T.heap.toList.drop T.heap.size).map (·.slots.size)).sum
      rw [List.drop_eq_nil_of_le (Nat.le_of_eq Array.length_toList)]
      rfl
    · show ((T.heap.toList.drop T.heap.size).map (·.slots.size)).sum ≤ 0
      rw [List.drop_eq_nil_of_le (Nat.le_of_eq Array.length_toList)]
      exact Nat.le_refl _
/-- 'throw new E()': new; dup; invokespecial; athrow -/
theorem vx_throw0 {cc : ByteArray} {pc : Nat} (hexec : p.tables.exec = Jvm.exec) (hb : c.code = cc) (hl : l.stackTraces = false) {own cls : String} {names : List String} {ik ic mc ms : Nat} {A : Nat → Prop}
    (hown : s.vm.findClass own = some m.cls) (hcls : Bundle.fit cls = true) (hnames : ∀ n ∈ names, Bundle.fit n = true)
    (hk : (Cond.classLink own ik cls).before args s = true) (hini : (Cond.initialized cls).before args s = true) (hat : ∀ w ∈ vx_at0 own ic cls names, w.before args s = true)
    (hgood : ∀ w ∈ Cond.classLink own ik cls :: Cond.initialized cls :: vx_at0 own ic cls names, vx_ot w = true)
    (hU : vx_Zq Bundle.tN "UNASSIGNED_STACK" Bundle.steD A s s.heap) (hN : vx_Zq Bundle.tN "SUPPRESSED_SENTINEL" Bundle.listD A s s.heap) (hS : va_S A s.heap H locs) (hsize : ls.size = c.maxLocals)
    (d0 : decode cc pc = .ok (.new ik, 3)) (d3 : decode cc (pc + 3) = .ok (.dup, 1)) (d4 : decode cc (pc + 4) = .ok (.invokespecial ic, 3)) (d7 : decode cc (pc + 7) = .ok (.athrow, 1))
    (hout : ∀ x ∈ c.exceptionTable.toList, covers x (pc + 7) = false)
    (hRframes : names.length + 3 < R.frames) (hRlocals : (rest.map fun v => v.category).sum + (13 * (names.length + 1) + 42) ≤ R.locals) (hRcells : cells + 1 ≤ R.cells) (hRslots : slots + 6 ≤ R.slots) (hlocks : meth.locks = false)
    (hx : ∀ t : State, s.vm.Alike t.vm → H.size ≤ t.heap.size → (∀ q : Nat, q < H.size → t.heap[q]? = H[q]?) → XC cls s t)
    (hf : ∀ z ∈ locs, free z.base) (hc : cells + 1 ≤ mc) (hs : slots + 6 ≤ ms) :
    W p l e R s m args below meth c H locs cells slots (vx_MQ below Qc XC args s mc ms free) (F0 m pc ls rest) := by
  intro T hT X
  have htr : e.platform.stackTraces = false := (show e.platform.stackTraces = l.stackTraces by rw [X.admits.platform]).trans hl
  have Y := vx_rebase X (R' := { frames := R.frames, locals := R.locals, cells := 1, slots := 6 }) (Nat.le_refl _) (Nat.le_refl _) hRcells hRslots
  obtain ⟨s', hA⟩ : ∃ z, z = (T.setVm s.vm).setFrames (.invoking m args :: below) := ⟨_, rfl⟩
  rw [← hA] at Y
  have hvm : s'.vm = s.vm := by rw [hA]; rfl
  have hhp : s'.heap = H := by rw [hA]; exact hT
  have hW0 : s.WarmedH s'.vm := by rw [hvm]; exact State.WarmedH.refl s
  have hat' : ∀ w ∈ vx_at0 own ic cls names, w.before args s' = true := fun w hw => vx_ot_at hW0 hvm.symm (hgood w (List.mem_cons_of_mem _ (List.mem_cons_of_mem _ hw))) (hat w hw)
  have hk' : (Cond.classLink own ik cls).before args s' = true := vx_ot_at hW0 hvm.symm (hgood _ List.mem_cons_self) hk
  have hini' : (Cond.initialized cls).before args s' = true := vx_ot_at hW0 hvm.symm (hgood _ (List.mem_cons_of_mem _ List.mem_cons_self)) hini
  have hU' : vx_Zq Bundle.tN "UNASSIGNED_STACK" Bundle.steD A s' s'.heap := by rw [hhp]; exact vx_Zq.moved hW0.alike (hU.kept hS.2.1)
  have hN' : vx_Zq Bundle.tN "SUPPRESSED_SENTINEL" Bundle.listD A s' s'.heap := by rw [hhp]; exact vx_Zq.moved hW0.alike (hN.kept hS.2.1)
  have h : ∀ w ∈ Bundle.ownAtoms0 own ic cls names, w.before args s' = true := vx_own hat' (vx_isRefq hU'.1) (vx_isRefq hN'.1) hU'.2.word hN'.2.word
  have hown' : s'.vm.findClass own = some m.cls := by rw [hvm]; exact hown
  have hins : (Cond.instantiable cls 6).before args s' = true := h _ (by simp [Bundle.ownAtoms0])
  obtain ⟨vm₁, cX, kX, hfX, hkX, -, -, X₁, st1⟩ := Y.newCold hexec (own := own) (C := cls) (index := ik) (n := 6) hown' hk' hins hini'
    (g := F0 m pc ls rest) rfl (by rw [hb]; exact d0) (Nat.le_refl _) (Nat.le_refl _)
  generalize hT1 : (T.setVm vm₁).pushCell { cls := cX, slots := kX.instanceTypes.map defaultValue, vm := .none } = T1 at X₁ st1
  have hcat : (Value.ref T.heap.size).category = 1 := rfl
  have hcellA : T1.heap[T.heap.size]? = some (freshCell cX kX) := by rw [← hT1]; exact State.heap_pushCell_size _ _
  have d3' : decode c.code (pc + 3) = .ok (.dup, 1) := by rw [hb]; exact d3
  obtain ⟨U, hsteps, hrun, hend, hW, hsame, ce, hce, hO⟩ := X₁.ctorThrow0 hexec htr (own := own) (cls := cls) (names := names) (ic := ic) hown' hcls hnames h (fun x hx => nomatch hx) hfX hkX hcellA (by rw [hhp, hT]; exact Nat.le_refl _)
    (g := { method := m, pc := pc + 4, locals := ls, stack := .ref T.heap.size :: .ref T.heap.size :: rest, locked := none }) rfl hsize rfl rfl (rest := rest) rfl
    (by rw [hb]; exact d4) (by rw [hb]; exact d7) hout hRframes (by simp only [List.map_cons, List.sum_cons, hcat]; omega) hlocks
  obtain ⟨f1, f2⟩ := vx_frame hsame
  rw [hhp] at f1 f2
  have hWs : s.WarmedH U.vm := State.WarmedH.trans hW0 hW
  have hcl : s.vm.findClass cls = some ce.cls := by
    have h9 := hO.cls
    rw [hvm] at h9
    exact h9
  have hall : s.sameButNew ({ U with vm := s.vm } : State) locs mc ms := by
    subst hA
    obtain ⟨e1, e2⟩ := hsame
    rw [State.setFrames_setFrames] at e1
    have h2 : (T.setVm s.vm).sameButNew ({ U with vm := s.vm } : State) [] (0 + 1) (0 + 6) := ⟨e1, e2⟩
    have h3 := X.same.trans h2
    rw [List.append_nil] at h3
    exact h3.mono hc hs
  refine ⟨U, ?_, .threw T.heap.size, hrun, hend, Or.inr ⟨T.heap.size, rfl, cls, ce, locs, hx U hWs.alike f1 (fun q hq => f2 q hq (fun z hz => nomatch hz)), hce, hO.vm, hcl, hWs, hall, hf⟩⟩
  refine st1 _ ?_
  show Steps p.tables e below (T1.setTop { method := m, pc := pc + 3, locals := ls, stack := .ref T.heap.size :: rest, locked := none }) _
  jvm_step X₁.here [X₁.here.top, hexec, d3', Value.category]
  exact hsteps
/-- 'throw new E("text")': new; dup; ldc; invokespecial; athrow -/
theorem vx_throwS {cc : ByteArray} {pc : Nat} (hexec : p.tables.exec = Jvm.exec) (hb : c.code = cc) (hl : l.stackTraces = false) {own cls text : String} {names : List String} {ik is ic mc ms sa : Nat} {A : Nat → Prop}
    (hown : s.vm.findClass own = some m.cls) (hcls : Bundle.fit cls = true) (hnames : ∀ n ∈ names, Bundle.fit n = true)
    (hk : (Cond.classLink own ik cls).before args s = true) (hini : (Cond.initialized cls).before args s = true) (hstr : vk_R own is text sa s) (hat : ∀ w ∈ vx_atS own ic cls names, w.before args s = true)
    (hgood : ∀ w ∈ Cond.classLink own ik cls :: Cond.initialized cls :: vx_atS own ic cls names, vx_ot w = true)
    (hU : vx_Zq Bundle.tN "UNASSIGNED_STACK" Bundle.steD A s s.heap) (hN : vx_Zq Bundle.tN "SUPPRESSED_SENTINEL" Bundle.listD A s s.heap) (hS : va_S A s.heap H locs) (hsize : ls.size = c.maxLocals)
    (d0 : decode cc pc = .ok (.new ik, 3)) (d3 : decode cc (pc + 3) = .ok (.dup, 1)) (d4 : decode cc (pc + 4) = .ok (.ldc is, 2)) (d6 : decode cc (pc + 6) = .ok (.invokespecial ic, 3)) (d9 : decode cc (pc + 9) = .ok (.athrow, 1))
    (hout : ∀ x ∈ c.exceptionTable.toList, covers x (pc + 9) = false)
    (hRframes : names.length + 3 < R.frames) (hRlocals : (rest.map fun v => v.category).sum + (13 * (names.length + 1) + 43) ≤ R.locals) (hRcells : cells + 1 ≤ R.cells) (hRslots : slots + 6 ≤ R.slots) (hlocks : meth.locks = false)
    (hx : ∀ t : State, s.vm.Alike t.vm → H.size ≤ t.heap.size → (∀ q : Nat, q < H.size → t.heap[q]? = H[q]?) → XC cls s t)
    (hf : ∀ z ∈ locs, free z.base) (hc : cells + 1 ≤ mc) (hs : slots + 6 ≤ ms) :
    W p l e R s m args below meth c H locs cells slots (vx_MQ below Qc XC args s mc ms free) (F0 m pc ls rest) := by
  intro T hT X
  have htr : e.platform.stackTraces = false := (show e.platform.stackTraces = l.stackTraces by rw [X.admits.platform]).trans hl
  have Y := vx_rebase X (R' := { frames := R.frames, locals := R.locals, cells := 1, slots := 6 }) (Nat.le_refl _) (Nat.le_refl _) hRcells hRslots
  obtain ⟨s', hA⟩ : ∃ z, z = (T.setVm s.vm).setFrames (.invoking m args :: below) := ⟨_, rfl⟩
  rw [← hA] at Y
  have hvm : s'.vm = s.vm := by rw [hA]; rfl
  have hhp : s'.heap = H := by rw [hA]; exact hT
  have hW0 : s.WarmedH s'.vm := by rw [hvm]; exact State.WarmedH.refl s
  have hat' : ∀ w ∈ vx_atS own ic cls names, w.before args s' = true := fun w hw => vx_ot_at hW0 hvm.symm (hgood w (List.mem_cons_of_mem _ (List.mem_cons_of_mem _ hw))) (hat w hw)
  have hk' : (Cond.classLink own ik cls).before args s' = true := vx_ot_at hW0 hvm.symm (hgood _ List.mem_cons_self) hk
  have hini' : (Cond.initialized cls).before args s' = true := vx_ot_at hW0 hvm.symm (hgood _ (List.mem_cons_of_mem _ List.mem_cons_self)) hini
  have hU' : vx_Zq Bundle.tN "UNASSIGNED_STACK" Bundle.steD A s' s'.heap := by rw [hhp]; exact vx_Zq.moved hW0.alike (hU.kept hS.2.1)
  have hN' : vx_Zq Bundle.tN "SUPPRESSED_SENTINEL" Bundle.listD A s' s'.heap := by rw [hhp]; exact vx_Zq.moved hW0.alike (hN.kept hS.2.1)
  have h : ∀ w ∈ Bundle.ownAtoms own ic cls names, w.before args s' = true := vx_own hat' (vx_isRefq hU'.1) (vx_isRefq hN'.1) hU'.2.word hN'.2.word
  have hown' : s'.vm.findClass own = some m.cls := by rw [hvm]; exact hown
  have hins : (Cond.instantiable cls 6).before args s' = true := h _ (by simp [Bundle.ownAtoms])
  obtain ⟨vm₁, cX, kX, hfX, hkX, -, -, X₁, st1⟩ := Y.newCold hexec (own := own) (C := cls) (index := ik) (n := 6) hown' hk' hins hini'
    (g := F0 m pc ls rest) rfl (by rw [hb]; exact d0) (Nat.le_refl _) (Nat.le_refl _)
  generalize hT1 : (T.setVm vm₁).pushCell { cls := cX, slots := kX.instanceTypes.map defaultValue, vm := .none } = T1 at X₁ st1
  have hcat : (Value.ref T.heap.size).category = 1 := rfl
  have hcellA : T1.heap[T.heap.size]? = some (freshCell cX kX) := by rw [← hT1]; exact State.heap_pushCell_size _ _
  have d3' : decode c.code (pc + 3) = .ok (.dup, 1) := by rw [hb]; exact d3
  have d4' : decode c.code (pc + 4) = .ok (.ldc is, 2) := by rw [hb]; exact d4
  have hstr' : vk_R own is text sa s' := vk_R.warm hW0 hstr
  obtain ⟨U, hsteps, hrun, hend, hW, hsame, ce, hce, hO⟩ := X₁.ctorThrowS hexec htr (own := own) (cls := cls) (names := names) (ic := ic) hown' hcls hnames h (fun x hx => nomatch hx) hfX hkX hcellA (by rw [hhp, hT]; exact Nat.le_refl _) (msg := .ref sa) rfl
    (g := { method := m, pc := pc + 6, locals := ls, stack := .ref sa :: .ref T.heap.size :: .ref T.heap.size :: rest, locked := none }) rfl hsize rfl rfl (rest := rest) rfl
    (by rw [hb]; exact d6) (by rw [hb]; exact d9) hout hRframes (by simp only [List.map_cons, List.sum_cons, hcat]; omega) hlocks
  obtain ⟨f1, f2⟩ := vx_frame hsame
  rw [hhp] at f1 f2
  have hWs : s.WarmedH U.vm := State.WarmedH.trans hW0 hW
  have hcl : s.vm.findClass cls = some ce.cls := by
    have h9 := hO.cls
    rw [hvm] at h9
    exact h9
  have hall : s.sameButNew ({ U with vm := s.vm } : State) locs mc ms := by
    subst hA
    obtain ⟨e1, e2⟩ := hsame
    rw [State.setFrames_setFrames] at e1
    have h2 : (T.setVm s.vm).sameButNew ({ U with vm := s.vm } : State) [] (0 + 1) (0 + 6) := ⟨e1, e2⟩
    have h3 := X.same.trans h2
    rw [List.append_nil] at h3
    exact h3.mono hc hs
  refine ⟨U, ?_, .threw T.heap.size, hrun, hend, Or.inr ⟨T.heap.size, rfl, cls, ce, locs, hx U hWs.alike f1 (fun q hq => f2 q hq (fun z hz => nomatch hz)), hce, hO.vm, hcl, hWs, hall, hf⟩⟩
  refine st1 _ ?_
  show Steps p.tables e below (T1.setTop { method := m, pc := pc + 3, locals := ls, stack := .ref T.heap.size :: rest, locked := none }) _
  jvm_step X₁.here [X₁.here.top, hexec, d3', Value.category]
  exact X₁.ldcString hexec (own := own) (text := text) (index := is) (a := sa) hown' hstr'.1 hstr'.2
    (g := { method := m, pc := pc + 4, locals := ls, stack := .ref T.heap.size :: .ref T.heap.size :: rest, locked := none }) rfl d4' _ hsteps
/-- 'throw new E("text")', the text by a wide index -/
theorem vx_throwSW {cc : ByteArray} {pc : Nat} (hexec : p.tables.exec = Jvm.exec) (hb : c.code = cc) (hl : l.stackTraces = false) {own cls text : String} {names : List String} {ik is ic mc ms sa : Nat} {A : Nat → Prop}
    (hown : s.vm.findClass own = some m.cls) (hcls : Bundle.fit cls = true) (hnames : ∀ n ∈ names, Bundle.fit n = true)
    (hk : (Cond.classLink own ik cls).before args s = true) (hini : (Cond.initialized cls).before args s = true) (hstr : vk_R own is text sa s) (hat : ∀ w ∈ vx_atS own ic cls names, w.before args s = true)
    (hgood : ∀ w ∈ Cond.classLink own ik cls :: Cond.initialized cls :: vx_atS own ic cls names, vx_ot w = true)
    (hU : vx_Zq Bundle.tN "UNASSIGNED_STACK" Bundle.steD A s s.heap) (hN : vx_Zq Bundle.tN "SUPPRESSED_SENTINEL" Bundle.listD A s s.heap) (hS : va_S A s.heap H locs) (hsize : ls.size = c.maxLocals)
    (d0 : decode cc pc = .ok (.new ik, 3)) (d3 : decode cc (pc + 3) = .ok (.dup, 1)) (d4 : decode cc (pc + 4) = .ok (.ldc_w is, 3)) (d7 : decode cc (pc + 7) = .ok (.invokespecial ic, 3)) (d10 : decode cc (pc + 10) = .ok (.athrow, 1))
    (hout : ∀ x ∈ c.exceptionTable.toList, covers x (pc + 10) = false)
    (hRframes : names.length + 3 < R.frames) (hRlocals : (rest.map fun v => v.category).sum + (13 * (names.length + 1) + 43) ≤ R.locals) (hRcells : cells + 1 ≤ R.cells) (hRslots : slots + 6 ≤ R.slots) (hlocks : meth.locks = false)
    (hx : ∀ t : State, s.vm.Alike t.vm → H.size ≤ t.heap.size → (∀ q : Nat, q < H.size → t.heap[q]? = H[q]?) → XC cls s t)
    (hf : ∀ z ∈ locs, free z.base) (hc : cells + 1 ≤ mc) (hs : slots + 6 ≤ ms) :
    W p l e R s m args below meth c H locs cells slots (vx_MQ below Qc XC args s mc ms free) (F0 m pc ls rest) := by
  intro T hT X
  have htr : e.platform.stackTraces = false := (show e.platform.stackTraces = l.stackTraces by rw [X.admits.platform]).trans hl
  have Y := vx_rebase X (R' := { frames := R.frames, locals := R.locals, cells := 1, slots := 6 }) (Nat.le_refl _) (Nat.le_refl _) hRcells hRslots
  obtain ⟨s', hA⟩ : ∃ z, z = (T.setVm s.vm).setFrames (.invoking m args :: below) := ⟨_, rfl⟩
  rw [← hA] at Y
  have hvm : s'.vm = s.vm := by rw [hA]; rfl
  have hhp : s'.heap = H := by rw [hA]; exact hT
  have hW0 : s.WarmedH s'.vm := by rw [hvm]; exact State.WarmedH.refl s
  have hat' : ∀ w ∈ vx_atS own ic cls names, w.before args s' = true := fun w hw => vx_ot_at hW0 hvm.symm (hgood w (List.mem_cons_of_mem _ (List.mem_cons_of_mem _ hw))) (hat w hw)
  have hk' : (Cond.classLink own ik cls).before args s' = true := vx_ot_at hW0 hvm.symm (hgood _ List.mem_cons_self) hk
  have hini' : (Cond.initialized cls).before args s' = true := vx_ot_at hW0 hvm.symm (hgood _ (List.mem_cons_of_mem _ List.mem_cons_self)) hini
  have hU' : vx_Zq Bundle.tN "UNASSIGNED_STACK" Bundle.steD A s' s'.heap := by rw [hhp]; exact vx_Zq.moved hW0.alike (hU.kept hS.2.1)
  have hN' : vx_Zq Bundle.tN "SUPPRESSED_SENTINEL" Bundle.listD A s' s'.heap := by rw [hhp]; exact vx_Zq.moved hW0.alike (hN.kept hS.2.1)
  have h : ∀ w ∈ Bundle.ownAtoms own ic cls names, w.before args s' = true := vx_own hat' (vx_isRefq hU'.1) (vx_isRefq hN'.1) hU'.2.word hN'.2.word
  have hown' : s'.vm.findClass own = some m.cls := by rw [hvm]; exact hown
  have hins : (Cond.instantiable cls 6).before args s' = true := h _ (by simp [Bundle.ownAtoms])
  obtain ⟨vm₁, cX, kX, hfX, hkX, -, -, X₁, st1⟩ := Y.newCold hexec (own := own) (C := cls) (index := ik) (n := 6) hown' hk' hins hini'
    (g := F0 m pc ls rest) rfl (by rw [hb]; exact d0) (Nat.le_refl _) (Nat.le_refl _)
  generalize hT1 : (T.setVm vm₁).pushCell { cls := cX, slots := kX.instanceTypes.map defaultValue, vm := .none } = T1 at X₁ st1
  have hcat : (Value.ref T.heap.size).category = 1 := rfl
  have hcellA : T1.heap[T.heap.size]? = some (freshCell cX kX) := by rw [← hT1]; exact State.heap_pushCell_size _ _
  have d3' : decode c.code (pc + 3) = .ok (.dup, 1) := by rw [hb]; exact d3
  have d4' : decode c.code (pc + 4) = .ok (.ldc_w is, 3) := by rw [hb]; exact d4
  have hstr' : vk_R own is text sa s' := vk_R.warm hW0 hstr
  obtain ⟨U, hsteps, hrun, hend, hW, hsame, ce, hce, hO⟩ := X₁.ctorThrowS hexec htr (own := own) (cls := cls) (names := names) (ic := ic) hown' hcls hnames h (fun x hx => nomatch hx) hfX hkX hcellA (by rw [hhp, hT]; exact Nat.le_refl _) (msg := .ref sa) rfl
    (g := { method := m, pc := pc + 7, locals := ls, stack := .ref sa :: .ref T.heap.size :: .ref T.heap.size :: rest, locked := none }) rfl hsize rfl rfl (rest := rest) rfl
    (by rw [hb]; exact d7) (by rw [hb]; exact d10) hout hRframes (by simp only [List.map_cons, List.sum_cons, hcat]; omega) hlocks
  obtain ⟨f1, f2⟩ := vx_frame hsame
  rw [hhp] at f1 f2
  have hWs : s.WarmedH U.vm := State.WarmedH.trans hW0 hW
  have hcl : s.vm.findClass cls = some ce.cls := by
    have h9 := hO.cls
    rw [hvm] at h9
    exact h9
  have hall : s.sameButNew ({ U with vm := s.vm } : State) locs mc ms := by
    subst hA
    obtain ⟨e1, e2⟩ := hsame
    rw [State.setFrames_setFrames] at e1
    have h2 : (T.setVm s.vm).sameButNew ({ U with vm := s.vm } : State) [] (0 + 1) (0 + 6) := ⟨e1, e2⟩
    have h3 := X.same.trans h2
    rw [List.append_nil] at h3
    exact h3.mono hc hs
  refine ⟨U, ?_, .threw T.heap.size, hrun, hend, Or.inr ⟨T.heap.size, rfl, cls, ce, locs, hx U hWs.alike f1 (fun q hq => f2 q hq (fun z hz => nomatch hz)), hce, hO.vm, hcl, hWs, hall, hf⟩⟩
  refine st1 _ ?_
  show Steps p.tables e below (T1.setTop { method := m, pc := pc + 3, locals := ls, stack := .ref T.heap.size :: rest, locked := none }) _
  jvm_step X₁.here [X₁.here.top, hexec, d3', Value.category]
  exact X₁.ldcStringW hexec (own := own) (text := text) (index := is) (a := sa) hown' hstr'.1 hstr'.2
    (g := { method := m, pc := pc + 4, locals := ls, stack := .ref T.heap.size :: .ref T.heap.size :: rest, locked := none }) rfl d4' _ hsteps
end Ends
section Bodies
variable {l : Launch}
theorem vx_ofW {y : MethodName} {ws ws' : List Cond} {rm : Room} {Pc : Array Value → State → Prop} {Qc : Array Value → State → Outcome → State → Prop} {XC : String → State → State → Prop} {mc ms : Nat} {free : Addr → Prop} {cc : ByteArray} {maxL : Nat} {ret : Option FieldType}
    (hy : plainName y.cls = true) (hw : ws = Cond.code y cc maxL ret :: ws')
    (body : ∀ p e s m args below meth c s₁, BodyLoose p l y (headSpec ws rm) cc maxL ret e s m args below meth c s₁ → c.maxLocals = maxL → (∀ x ∈ c.exceptionTable.toList, False) → Pc args s →
      W p l e (headSpec ws rm).room s m args below meth c s.heap [] 0 0 (vx_MQ below Qc XC args s mc ms free) (entryFrame m args maxL)) : vx_Met l y ws rm Pc Qc XC mc ms free := by
  refine MetFree.of_bodyS (code := cc) (maxLocals := maxL) (ret := ret) hy ?_ ?_
  · intro args s m h hn
    obtain ⟨meth, c, h1, h2, h3, h4, h5, h6, -, -⟩ := Cond.code_spec hn (atoms_spec (ws := ws) h _ (by rw [hw]; exact List.mem_cons_self))
    exact ⟨meth, c, h1, h2, h3, h4, h5, h6⟩
  · intro p e s m args below meth c s₁ B hml hP _
    have hh0 : s₁.heap = s.heap := by rw [B.state]; rfl
    have ht : ∀ x ∈ c.exceptionTable.toList, False := by
      obtain ⟨meth9, c9, h1, h2, -, -, -, -, h7, -⟩ := Cond.code_spec B.named (atoms_spec (ws := ws) B.pre _ (by rw [hw]; exact List.mem_cons_self))
      cases Option.some.inj (h1.symm.trans B.method)
      cases Option.some.inj (h2.symm.trans (Stand.of_body B).code)
      intro x hx
      rw [Array.isEmpty_iff.mp h7] at hx
      cases hx
    obtain ⟨t, a1, o, b1, b2, b3⟩ := body p e s m args below meth c s₁ B hml ht hP s₁ hh0 (Stand.of_body B)
    exact ⟨t, o, a1, b1, b2, b3⟩
/-- the table of a body with handlers -/
theorem vx_table {p : Program} {x y : MethodName} {S : Spec} {cc bytes : ByteArray} {maxL maxL' : Nat} {ret ret' : Option FieldType} {e : Env} {s s₁ : State} {m : MethodId} {args : Array Value} {below : List Frame} {meth : Method} {c : Code} {hh : List (Nat × Nat × Nat × Nat)}
    (B : BodyLoose p l y S cc maxL ret e s m args below meth c s₁) (h : (Cond.codeWith y bytes maxL' ret' hh).before args s = true) : c.exceptionTable.toList = tableOf hh := by
  obtain ⟨m9, meth9, c9, hn9, h1, h2, -, -, h6, -⟩ := Cond.codeWith_spec h
  cases Option.some.inj (hn9.symm.trans B.named)
  cases Option.some.inj (h1.symm.trans B.method)
  cases Option.some.inj (h2.symm.trans (Stand.of_body B).code)
  rw [← h6, table_eq]
end Bodies
end VXA
/-! ===== END ===== -/
/-! ===== BEGIN a static call of a method with an exception table ===== -/
section VXS
variable {p : Program} {l : Launch} {e : Env} {R : Room} {s : State} {m : MethodId} {args : Array Value} {below : List Frame} {meth : Method} {c : Code} {T : State} {H : Heap} {locs : List Loc} {cells slots : Nat}
abbrev vx_CSW (R : Room) (s : State) (args : Array Value) (own : String) (index : Nat) (y : MethodName) (bytes : ByteArray) (maxL : Nat) (ret : Option FieldType) (hh : List (Nat × Nat × Nat × Nat)) (ws : List Cond) (rm : Room) (mc ms n : Nat) : Prop :=
  (rm.cells = mc ∧ rm.slots = ms ∧ rm.frames + 1 ≤ R.frames ∧ 8 + (maxL + 11) + rm.locals ≤ R.locals ∧ (∀ w ∈ ws, ∀ (a' : Array Value) (U : State), s.WarmedH U.vm → w.before a' U = true) ∧ Cond.codeWith y bytes maxL ret hh ∈ ws) ∧
  (Cond.codeWith y bytes maxL ret hh).before args s = true ∧ (Cond.initialized y.cls).before args s = true ∧ (y.cls ≠ "java/lang/invoke/MethodHandle" ∧ y.cls ≠ "java/lang/invoke/VarHandle") ∧
  (∀ sig, parseMethodDescriptor y.desc = some sig → n = sig.parameters.length) ∧ (Cond.methodLink own index y).before args s = true ∧ (Cond.static y).before args s = true
theorem vx_cwSW {own : String} {index maxL mc ms : Nat} {y : MethodName} {bytes : ByteArray} {ret : Option FieldType} {hh : List (Nat × Nat × Nat × Nat)} {Ts ws ws' : List Cond} {rm : Room} (n : Nat) (ht : ∀ w ∈ Ts, w.before args s = true) (hT : GoodIn Ts (va_wsS own index y ws)) (hw : ws = Cond.codeWith y bytes maxL ret hh :: ws') (hrc : rm.cells = mc) (hrs : rm.slots = ms)
    (hd : y.cls ≠ "java/lang/invoke/MethodHandle" ∧ y.cls ≠ "java/lang/invoke/VarHandle" ∧ (parseMethodDescriptor y.desc).map (fun d => d.parameters.length) = some n) (hR : rm.frames + 1 ≤ R.frames ∧ 8 + (maxL + 11) + rm.locals ≤ R.locals) :
    vx_CSW R s args own index y bytes maxL ret hh ws rm mc ms n := by
  have ok : ∀ w ∈ va_wsS own index y ws, w.before args s = true := fun w h => ht w (hT w h).1
  have hG : GoodIn Ts ws := fun w h => hT w (by unfold va_wsS; exact List.mem_append_right _ h)
  have hc : Cond.codeWith y bytes maxL ret hh ∈ ws := by rw [hw]; exact List.mem_cons_self
  refine ⟨⟨hrc, hrs, hR.1, hR.2, pay_in ht hG, hc⟩, ht _ (hG _ hc).1, ok _ (by simp [va_wsS]), ⟨hd.1, hd.2.1⟩, fun sig h => ?_, ok _ (by simp [va_wsS]), ok _ (by simp [va_wsS])⟩
  have h2 := hd.2.2
  rw [h] at h2
  exact (Option.some.inj h2).symm
theorem vx_callSW (X : Stand p l e R s m args below meth c T locs cells slots) (hexec : p.tables.exec = Jvm.exec) {own : String} {index : Nat} {y : MethodName} {bytes : ByteArray} {maxL : Nat} {ret : Option FieldType} {hh : List (Nat × Nat × Nat × Nat)}
    (hown : s.vm.findClass own = some m.cls) (hlink : (Cond.methodLink own index y).before args s = true) (hstat : (Cond.static y).before args s = true) (hinit : (Cond.initialized y.cls).before args s = true)
    (hcode : (Cond.codeWith y bytes maxL ret hh).before args s = true) (hy : y.cls ≠ "java/lang/invoke/MethodHandle" ∧ y.cls ≠ "java/lang/invoke/VarHandle")
    {W9 : Nat} {Pre : Pt → Array Value → Prop} {Post : Pt → Array Value → Option Value → Pt → Prop} (hK : Back l R p e below s args y 3 W9 Pre Post)
    {g : JFrame} (hg : g.method = m) (hsize : g.locals.size = c.maxLocals) {argsL rest : List Value} (hlen : ∀ sig, parseMethodDescriptor y.desc = some sig → argsL.length = sig.parameters.length)
    (hstack : g.stack = argsL.reverse ++ rest) (hW : 2 * g.monitorRoom + (rest.map fun v => v.category).sum ≤ W9) (hdg : decode c.code g.pc = .ok (.invokestatic index, 3))
    (hpre : ∀ vm₁, s.WarmedH vm₁ → Pre ⟨T.setVm vm₁, locs, cells, slots⟩ argsL.toArray) :
    ∃ (v : Option Value) (vm₁ : Vm) (B : Pt), s.WarmedH vm₁ ∧ Stand p l e R s m args below meth c B.U B.locs B.cells B.slots ∧ Post ⟨T.setVm vm₁, locs, cells, slots⟩ argsL.toArray v B ∧
      ∀ target, Steps p.tables e below (B.U.setTop { g with pc := g.pc + 3, stack := v.toList ++ rest }) target → Steps p.tables e below (T.setTop g) target := by
  obtain ⟨mk, methM, cM, hnamed, hmethM, -, -, -, -, -, -, hsigM⟩ := Cond.codeWith_spec hcode
  have hstatic : methM.isStatic = true := Cond.static_spec hnamed hmethM hstat
  obtain ⟨kP, hkP, -⟩ := className_of_methodNamed hnamed
  have hinitP : kP.init = .initialized := Cond.initialized_spec (findClass_of_methodNamed hnamed) hkP hinit
  obtain ⟨vm₁, X₁, hstep₁⟩ := X.invokestatic hexec hown hlink hnamed hmethM hstatic hkP hinitP hy (g := g) hg (argsL := argsL) (rest := rest) (hlen _ hsigM) hstack hdg
  obtain ⟨v, B, X', hpost, hsteps⟩ := hK m meth c ⟨T.setVm vm₁, locs, cells, slots⟩ { g with stack := rest } (.invokestatic index) mk argsL.toArray X₁ hg hsize hdg hW (X₁.named hnamed) (hpre vm₁ X₁.warmed)
  exact ⟨v, vm₁, B, X₁.warmed, X', hpost, fun target h => hstep₁ _ fun acts => by rw [doInvoke_state]; exact hsteps.trans h⟩
theorem vx_runSW {y : MethodName} {bytes cc : ByteArray} {maxL nL mc ms n index : Nat} {ret : Option FieldType} {hh : List (Nat × Nat × Nat × Nat)} {ws : List Cond} {rm : Room} {Pc : Array Value → State → Prop} {Qc : Array Value → State → Outcome → State → Prop} {free : Addr → Prop} {Ts : List Cond} {own : String} {As rest : List Value} {g : JFrame}
    (S : CallFix p m c cc nL s args Ts own) (hM : Met l y ws rm Pc Qc mc ms free) (cw : vx_CSW R s args own index y bytes maxL ret hh ws rm mc ms n) (hp : PreS s H Pc As)
    (hg : g.method = m) (hn : As.length = n) (hsize : g.locals.size = nL) (hstack : g.stack = As.reverse ++ rest) (hW : 2 * g.monitorRoom + (rest.map fun v => v.category).sum ≤ 8) (hdg : decode cc g.pc = .ok (.invokestatic index, 3)) (hf : cells + mc ≤ R.cells ∧ slots + ms ≤ R.slots) :
    va_Run p l e R s m args below meth c H locs cells slots mc ms g rest (Qc As.toArray) (free) := by
  obtain ⟨⟨hrc, hrs, hfr, hlo, hws, hcw⟩, hcode, hini, hy, hlen, hl, hstt⟩ := cw
  have hK : Back l R p e below s args y 3 8 (PreOf R mc ms Pc) (PostOf Qc mc ms free) := va_backW (hh := hh) (bytes := bytes) (maxL := maxL) (ret := ret) hM hp.1 hrc hrs hfr hlo hws hcw (fun a' U hW => word_at hW (Or.inl (by first | rfl | simp [Cond.onTables, Cond.keeps, Cond.steady])) hini)
  obtain ⟨hx, hb, hml, ho, -⟩ := S
  intro T hT X
  obtain ⟨v, vm₁, ⟨U', l2, c2, s2⟩, hW₁, X', ⟨g', mk, t, L, e1, e2, hq, h1, hL, h2, h3⟩, st⟩ := vx_callSW X hx (hh := hh) (bytes := bytes) (maxL := maxL) (ret := ret) ho hl hstt hini hcode hy hK hg (hsize.trans hml.symm) (argsL := As) (rest := rest) (fun sig h => hn.trans (hlen sig h)) hstack hW (by rw [hb]; exact hdg)
    (fun vm₁ hW₁ => ⟨hf.1, hf.2, hp.2 (T.setVm vm₁) hT hW₁⟩)
  dsimp only [Pt.U, Pt.locs, Pt.cells, Pt.slots] at X' e1 e2 h1 h2 h3 st
  subst h1; subst h2; subst h3
  exact ⟨v, (T.setVm vm₁).calling g' mk As.toArray, t, U', L, hT, X', hL, e1, e2, hq, st⟩
/-- not caught here, past rows that name other classes: it goes on to the caller -/
theorem vx_outP {p : Program} {l : Launch} {e : Env} {R : Room} {s : State} {m : MethodId} {args : Array Value} {below : List Frame} {meth : Method} {c : Code} {H : Heap} {locs : List Loc} {cells slots : Nat} {free : Addr → Prop} {ls : Array Slot} {rest : List Value} {Qc : Array Value → State → Outcome → State → Prop} {XC : String → State → State → Prop}
    {pc : Nat} {own E : String} {ce : Cell} {q : Addr} {mc ms : Nat} (hown : s.vm.findClass own = some m.cls) (hlocks : meth.locks = false)
    (hpass : ∀ z ∈ c.exceptionTable.toList, covers z pc = false ∨ (z.catchType ≠ 0 ∧ ∃ nm : String, (Cond.classLink own z.catchType nm).before args s = true ∧ va_Nc E nm s)) (hcell : H[q]? = some ce) (hv : ce.vm = .none) (hcl : s.vm.findClass E = some ce.cls)
    (hx : ∀ t : State, t.heap = H → s.vm.Alike t.vm → XC E s t) (hf : ∀ z ∈ locs, free z.base) (hc : cells ≤ mc) (hs : slots ≤ ms) :
    vx_W p l e R s m args below meth c H locs cells slots (vx_MQ below Qc XC args s mc ms free) (F0 m pc ls rest) q := by
  intro T hT X
  have hpl : e.platform.magicAccessors = ({} : Platform).magicAccessors := by rw [X.admits.platform]
  obtain ⟨vm', hW', X', st⟩ := X.outThrough hlocks q (g := F0 m pc ls rest) rfl rfl rfl (cell := ce) (by rw [hT]; exact hcell) (by rw [hv]; rfl)
    (by obtain ⟨k9, h9, -⟩ := Vm.findClass_spec hcl; exact ⟨k9, h9⟩) (fun z hz => by
      rcases hpass z hz with h | ⟨hz0, nm, hl1, hn1⟩
      · exact Or.inl h
      · obtain ⟨c6, hc6, hcl6⟩ := Cond.classLink_spec hown hl1 e.platform hpl
        obtain ⟨a8, b8, h1, h2, h3⟩ := hn1
        cases Option.some.inj (h1.symm.trans hcl)
        cases Option.some.inj (h2.symm.trans hc6)
        exact Or.inr ⟨hz0, _, hcl6, h3⟩)
  obtain ⟨g₀, hfr⟩ := X'.frames_eq
  have hcell9 : ((T.setVm vm').setFrames (.throwing q :: below)).heap[q]? = some ce := by
    show T.heap[q]? = some ce
    rw [hT]; exact hcell
  have hend : Ended ((T.setVm vm').setFrames (.throwing q :: below)) below (.threw q) := State.frames_setFrames _ (State.cur_lt_of_frames hfr)
  refine ⟨(T.setVm vm').setFrames (.throwing q :: below), ?_, .threw q, X'.here.running, hend, Or.inr ⟨q, rfl, E, ce, locs, hx _ hT (X'.ends _).1.alike, hcell9, hv, hcl, (X'.ends _).1, (X'.ends _).2.mono hc hs, hf⟩⟩
  rw [X.pushThrowing_eq]
  exact st
/-- a thing of a world lies in the heap -/
theorem vx_lt {D : va_G} {cl : List vw_C} {ws : va_W} {H1 : Heap} (h : va_P D cl ws H1) {k : Nat} {q : Nat × va_E} (hk : ws[k]? = some q) : q.1 < H1.size := (h k q hk).lt
end VXS
/-! ===== END ===== -/
/-! ===== BEGIN methods with a table of their own: called by a name, returning or throwing ===== -/
section VXH
/-! vx_backW, vx_callVX, vx_callSX, vx_callVW, vx_runVW, vx_runVX, vx_runSX, vx_ofWH follow the same proofs as their sisters above (Free/Laws.lean, Shelf42/LK1.lean); vx_outP calls Shelf42/NT130.lean (outThrough). -/
section
variable {l : Launch} {R : Room} {p : Program} {e : Env} {below : List Frame} {s : State} {sargs : Array Value} {y : MethodName} {len W9 : Nat}
theorem vx_backW {ws : List Cond} {rm : Room} {Pc : Array Value → State → Prop} {Qc : Array Value → State → Outcome → State → Prop} {XC : String → State → State → Prop} {mc ms : Nat} {free : Addr → Prop} {bytes : ByteArray} {maxL : Nat} {ret : Option FieldType} {hh : List (Nat × Nat × Nat × Nat)}
    (hM : vx_Met l y ws rm Pc Qc XC mc ms free) (hblind : FrameBlind Pc) (hrc : rm.cells = mc) (hrs : rm.slots = ms)
    (hframes : rm.frames + 1 ≤ R.frames) (hlocals : W9 + (maxL + 11) + rm.locals ≤ R.locals)
    (hws : ∀ w ∈ ws, ∀ a' U, s.WarmedH U.vm → w.before a' U = true) (hcode : Cond.codeWith y bytes maxL ret hh ∈ ws) (hinit : ∀ a' U, s.WarmedH U.vm → (Cond.initialized y.cls).before a' U = true) :
    vx_Back l R p e below s sargs y len W9 (PreOf R mc ms Pc) (PostOf Qc mc ms free) (vx_Post XC mc ms free) := by
  intro m meth c A g ig mk a X hg hsize hdg hW hn hp
  have h1 : (headSpec ws rm).pre.before a A.U = true := atoms_intro fun w hw => hws w hw _ _ X.warmed
  have h2 : (Cond.codeWith y bytes maxL ret hh).before a A.U = true := hws _ hcode _ _ X.warmed
  have h3 : (Cond.initialized y.cls).before a A.U = true := hinit _ _ X.warmed
  have h4 : A.cells + (headSpec ws rm).room.cells ≤ R.cells := by rw [show (headSpec ws rm).room.cells = mc from hrc]; exact hp.1
  have h5 : A.slots + (headSpec ws rm).room.slots ≤ R.slots := by rw [show (headSpec ws rm).room.slots = ms from hrs]; exact hp.2.1
  have hPc : Pc a (A.U.calling g mk a) := hblind _ _ _ _ hp.2.2
  obtain ⟨U, Ls, c0, s0⟩ := A
  dsimp only [Pt.U, Pt.locs, Pt.cells, Pt.slots] at h1 h2 h3 h4 h5 X hn hPc ⊢
  obtain ⟨m9, methY, cY, hn9, hmY, hcY, -, hlY, -⟩ := Cond.codeWith_spec h2
  cases Option.some.inj (hn9.symm.trans hn)
  obtain ⟨kY, hkY, -⟩ := className_of_methodNamed hn
  have hinitY : kY.init = .initialized := Cond.initialized_spec (findClass_of_methodNamed hn) hkY h3
  have h : At U g.method c below := by rw [hg]; exact X.here
  have hlocals9 : W9 + (maxL + 11) + (headSpec ws rm).room.locals ≤ R.locals := hlocals
  have happ : (headSpec ws rm).appliesLoose y e.platform (U.calling g mk a) = true :=
    Spec.appliesLoose_calling (g := g) h hdg hn hkY hinitY
      (X.room_calling (g := g) (R' := (headSpec ws rm).room) hsize hmY hcY hframes (by rw [hlY]; omega) h4 h5) h1
  obtain ⟨mid, hmid⟩ := h.above
  have hfr : (U.setTop g).frames = (.java g :: mid) ++ below := by rw [State.frames_setTop' g h.top, hmid]; rfl
  obtain ⟨o, s₂, hsteps, -, hend, hq⟩ := Steps.callFree hM p X.admits X.cas X.clock (acts := []) hfr happ hPc trivial
  have hq' : vx_Q Qc XC mc ms free a (U.calling g mk a) o s₂ := hq
  rw [State.frames_setTop' g h.top] at hend
  obtain ⟨g₀, hg0⟩ := Option.isSome_iff_exists.mp h.top
  obtain ⟨r, hr⟩ := State.topJava?_eq_some.mp hg0
  have hr' : (({ U with heap := s₂.heap, slotsUsed := s₂.slotsUsed } : State).setVm s₂.vm).frames = .java g₀ :: r := hr
  rcases hq' with ⟨hqc, L, hfe, hL⟩ | ⟨q, rfl, E, ce, L, hx, hce, hcv, hcl, hW₂, hsm, hL⟩
  · obtain ⟨⟨v, rfl⟩, hW₂, e2, q2, q3, q4, q5, q6⟩ := id hfe
    have e3 : s₂ = ({ (U.calling g mk a).setFrames s₂.frames with heap := s₂.heap, slotsUsed := s₂.slotsUsed } : State).setVm s₂.vm := by
      have : s₂ = ({ s₂ with vm := (U.calling g mk a).vm } : State).setVm s₂.vm := rfl
      rw [e2] at this
      exact this
    obtain ⟨c₂, i₂, len₂, hc₂, hd₂, hf₂⟩ := hend
    have hW' : U.WarmedH s₂.vm := hW₂
    have hcc : c₂ = c := by
      have h1 : s₂.code? g.method = U.code? g.method := by
        rw [State.code?_eq, State.code?_eq, hW'.alike.method?]
      exact Option.some.inj (hc₂.symm.trans (h1.trans h.code))
    subst hcc
    have hlen : len₂ = len := by rw [hdg] at hd₂; cases hd₂; rfl
    subst hlen
    have hs₂ : s₂ = (({ U with heap := s₂.heap, slotsUsed := s₂.slotsUsed } : State).setVm s₂.vm).setTop { g with pc := g.pc + len₂, stack := v.toList ++ g.stack } := by
      refine e3.trans ?_
      rw [hf₂, State.calling_eq h.top, State.setFrames_setFrames, State.setTop_of_frames _ hr', hr]
      rfl
    have hsame : U.sameButNew ({ U with heap := s₂.heap, slotsUsed := s₂.slotsUsed } : State) L mc ms := by
      refine ⟨?_, q2, q3, q4, q5, q6⟩
      obtain ⟨t, ht, -⟩ := State.frames_cons hr
      show ({ U with heap := s₂.heap, slotsUsed := s₂.slotsUsed } : State) = { U.setFrames U.frames with heap := s₂.heap, slotsUsed := s₂.slotsUsed }
      rw [State.setFrames_self ht]
    subst hg
    refine Or.inl ⟨v, ⟨(({ U with heap := s₂.heap, slotsUsed := s₂.slotsUsed } : State).setVm s₂.vm), Ls ++ L, c0 + mc, s0 + ms⟩,
      ⟨X.admits, X.cas, X.clock, X.frames, X.room, X.hears, X.method, X.code, (X.here.setHeapUsed s₂.heap s₂.slotsUsed).setVm hW'.alike, X.tail, State.WarmedH.trans X.warmed hW', X.limits, X.bytes, X.same.trans (hsame.setVm s.vm)⟩,
      ⟨g, mk, s₂, L, rfl, rfl, hqc, rfl, hL, rfl, rfl⟩, ?_⟩
    show Steps p.tables e below _ ((({ U with heap := s₂.heap, slotsUsed := s₂.slotsUsed } : State).setVm s₂.vm).setTop { g with pc := g.pc + len₂, stack := v.toList ++ g.stack })
    rw [← hs₂]
    exact hsteps
  · obtain ⟨e2, q2, q3, q4, q5, q6⟩ := id hsm
    have e3 : s₂ = ({ (U.calling g mk a).setFrames s₂.frames with heap := s₂.heap, slotsUsed := s₂.slotsUsed } : State).setVm s₂.vm := by
      have : s₂ = ({ s₂ with vm := (U.calling g mk a).vm } : State).setVm s₂.vm := rfl
      rw [e2] at this
      exact this
    have hf₂ : s₂.frames = .throwing q :: .java g :: U.frames.tail := hend
    have hW' : U.WarmedH s₂.vm := hW₂
    have hs₂ : s₂ = ((({ U with heap := s₂.heap, slotsUsed := s₂.slotsUsed } : State).setVm s₂.vm).setTop g).pushFrame (.throwing q) := by
      refine e3.trans ?_
      rw [hf₂, State.calling_eq h.top, State.setFrames_setFrames, State.pushFrame, State.frames_setTop _ hr', State.setTop_of_frames _ hr', State.setFrames_setFrames, hr]
      rfl
    have hsame : U.sameButNew ({ U with heap := s₂.heap, slotsUsed := s₂.slotsUsed } : State) L mc ms := by
      refine ⟨?_, q2, q3, q4, q5, q6⟩
      obtain ⟨t, ht, -⟩ := State.frames_cons hr
      show ({ U with heap := s₂.heap, slotsUsed := s₂.slotsUsed } : State) = { U.setFrames U.frames with heap := s₂.heap, slotsUsed := s₂.slotsUsed }
      rw [State.setFrames_self ht]
    subst hg
    refine Or.inr ⟨q, ⟨(({ U with heap := s₂.heap, slotsUsed := s₂.slotsUsed } : State).setVm s₂.vm), Ls ++ L, c0 + mc, s0 + ms⟩,
      ⟨X.admits, X.cas, X.clock, X.frames, X.room, X.hears, X.method, X.code, (X.here.setHeapUsed s₂.heap s₂.slotsUsed).setVm hW'.alike, X.tail, State.WarmedH.trans X.warmed hW', X.limits, X.bytes, X.same.trans (hsame.setVm s.vm)⟩,
      ⟨g, mk, s₂, L, E, ce, rfl, rfl, hx, hce, hcv, hcl, rfl, hL, rfl, rfl⟩, ?_⟩
    show Steps p.tables e below _ (((({ U with heap := s₂.heap, slotsUsed := s₂.slotsUsed } : State).setVm s₂.vm).setTop g).pushFrame (.throwing q))
    rw [← hs₂]
    exact hsteps
end
variable {p : Program} {l : Launch} {e : Env} {R : Room} {s : State} {m : MethodId} {args : Array Value} {below : List Frame} {meth : Method} {c : Code} {T : State} {H : Heap} {locs : List Loc} {cells slots : Nat}
theorem vx_callVX (X : Stand p l e R s m args below meth c T locs cells slots) (hexec : p.tables.exec = Jvm.exec) {own C : String} {index : Nat} {y : MethodName} {bytes : ByteArray} {maxL : Nat} {ret : Option FieldType} {hh : List (Nat × Nat × Nat × Nat)}
    (hown : s.vm.findClass own = some m.cls) (hlink : (Cond.methodLink own index y).before args s = true) (hinst : (Cond.instanceMethod y).before args s = true) (hsel : (Cond.selects C y y).before args s = true)
    (hcode : (Cond.codeWith y bytes maxL ret hh).before args s = true) (hy : y.cls ≠ "java/lang/invoke/MethodHandle" ∧ y.cls ≠ "java/lang/invoke/VarHandle")
    {W9 : Nat} {Pre : Pt → Array Value → Prop} {Post : Pt → Array Value → Option Value → Pt → Prop} {PostX : Pt → Array Value → Addr → Pt → Prop} (hK : vx_Back l R p e below s args y 3 W9 Pre Post PostX)
    {b : Addr} {cellB : Cell} (hcell : T.heap[b]? = some cellB) (hobj : cellB.vm.isStatics = false) (hcls : s.vm.findClass C = some cellB.cls)
    {g : JFrame} (hg : g.method = m) (hsize : g.locals.size = c.maxLocals) {argsL rest : List Value} (hlen : ∀ sig, parseMethodDescriptor y.desc = some sig → argsL.length = sig.parameters.length)
    (hstack : g.stack = argsL.reverse ++ .ref b :: rest) (hW : 2 * g.monitorRoom + (rest.map fun v => v.category).sum ≤ W9) (hdg : decode c.code g.pc = .ok (.invokevirtual index, 3))
    (hpre : ∀ vm₁, s.WarmedH vm₁ → Pre ⟨T.setVm vm₁, locs, cells, slots⟩ (Value.ref b :: argsL).toArray) :
    (∃ (v : Option Value) (vm₁ : Vm) (B : Pt), s.WarmedH vm₁ ∧ Stand p l e R s m args below meth c B.U B.locs B.cells B.slots ∧ Post ⟨T.setVm vm₁, locs, cells, slots⟩ (Value.ref b :: argsL).toArray v B ∧
      ∀ target, Steps p.tables e below (B.U.setTop { g with pc := g.pc + 3, stack := v.toList ++ rest }) target → Steps p.tables e below (T.setTop g) target) ∨
    (∃ (q : Addr) (vm₁ : Vm) (B : Pt), s.WarmedH vm₁ ∧ Stand p l e R s m args below meth c B.U B.locs B.cells B.slots ∧ PostX ⟨T.setVm vm₁, locs, cells, slots⟩ (Value.ref b :: argsL).toArray q B ∧
      Steps p.tables e below (T.setTop g) ((B.U.setTop { g with stack := rest }).pushFrame (.throwing q))) := by
  obtain ⟨mk, methM, hnamed, hmethM, hstM, habM⟩ := Cond.instanceMethod_spec hinst
  obtain ⟨m8, methM', cM, hn8, hmethM', -, -, -, -, -, -, hsigM⟩ := Cond.codeWith_spec hcode
  cases Option.some.inj (hn8.symm.trans hnamed)
  cases hmethM.symm.trans hmethM'
  obtain ⟨c2, r2, m2, q1, q2, q3, q4, kP, hkP, hkPi⟩ := Cond.selects_spec hsel
  cases hcls.symm.trans q1
  cases (State.methodFound?_of_named hnamed hy).symm.trans q2
  cases hnamed.symm.trans q3
  have hselP : selectMethod e.platform s.vm cellB.cls mk = .method mk := by rw [Launch.admits_selectMethod X.admits]; exact q4
  obtain ⟨vm₁, X₁, hstep₁⟩ := X.invokevirtual hexec hown hlink hnamed hmethM hstM hkP hkPi hy (a := b) (cell := cellB) hcell
    (fun z h => by rw [h] at hobj; cases hobj) hselP hmethM habM hkP hkPi (g := g) hg (argsL := argsL) (rest := rest) (hlen _ hsigM) hstack hdg
  rcases hK m meth c ⟨T.setVm vm₁, locs, cells, slots⟩ { g with stack := rest } (.invokevirtual index) mk (Value.ref b :: argsL).toArray X₁ hg hsize hdg hW (X₁.named hnamed) (hpre vm₁ X₁.warmed) with ⟨v, B, X', hpost, hsteps⟩ | ⟨q, B, X', hpost, hsteps⟩
  · exact Or.inl ⟨v, vm₁, B, X₁.warmed, X', hpost, fun target h => hstep₁ _ fun acts => by rw [doInvoke_state]; exact hsteps.trans h⟩
  · exact Or.inr ⟨q, vm₁, B, X₁.warmed, X', hpost, hstep₁ _ fun acts => by rw [doInvoke_state]; exact hsteps⟩
theorem vx_callSX (X : Stand p l e R s m args below meth c T locs cells slots) (hexec : p.tables.exec = Jvm.exec) {own : String} {index : Nat} {y : MethodName} {bytes : ByteArray} {maxL : Nat} {ret : Option FieldType} {hh : List (Nat × Nat × Nat × Nat)}
    (hown : s.vm.findClass own = some m.cls) (hlink : (Cond.methodLink own index y).before args s = true) (hstat : (Cond.static y).before args s = true) (hinit : (Cond.initialized y.cls).before args s = true)
    (hcode : (Cond.codeWith y bytes maxL ret hh).before args s = true) (hy : y.cls ≠ "java/lang/invoke/MethodHandle" ∧ y.cls ≠ "java/lang/invoke/VarHandle")
    {W9 : Nat} {Pre : Pt → Array Value → Prop} {Post : Pt → Array Value → Option Value → Pt → Prop} {PostX : Pt → Array Value → Addr → Pt → Prop} (hK : vx_Back l R p e below s args y 3 W9 Pre Post PostX)
    {g : JFrame} (hg : g.method = m) (hsize : g.locals.size = c.maxLocals) {argsL rest : List Value} (hlen : ∀ sig, parseMethodDescriptor y.desc = some sig → argsL.length = sig.parameters.length)
    (hstack : g.stack = argsL.reverse ++ rest) (hW : 2 * g.monitorRoom + (rest.map fun v => v.category).sum ≤ W9) (hdg : decode c.code g.pc = .ok (.invokestatic index, 3))
    (hpre : ∀ vm₁, s.WarmedH vm₁ → Pre ⟨T.setVm vm₁, locs, cells, slots⟩ argsL.toArray) :
    (∃ (v : Option Value) (vm₁ : Vm) (B : Pt), s.WarmedH vm₁ ∧ Stand p l e R s m args below meth c B.U B.locs B.cells B.slots ∧ Post ⟨T.setVm vm₁, locs, cells, slots⟩ argsL.toArray v B ∧
      ∀ target, Steps p.tables e below (B.U.setTop { g with pc := g.pc + 3, stack := v.toList ++ rest }) target → Steps p.tables e below (T.setTop g) target) ∨
    (∃ (q : Addr) (vm₁ : Vm) (B : Pt), s.WarmedH vm₁ ∧ Stand p l e R s m args below meth c B.U B.locs B.cells B.slots ∧ PostX ⟨T.setVm vm₁, locs, cells, slots⟩ argsL.toArray q B ∧
      Steps p.tables e below (T.setTop g) ((B.U.setTop { g with stack := rest }).pushFrame (.throwing q))) := by
  obtain ⟨mk, methM, cM, hnamed, hmethM, -, -, -, -, -, -, hsigM⟩ := Cond.codeWith_spec hcode
  have hstatic : methM.isStatic = true := Cond.static_spec hnamed hmethM hstat
  obtain ⟨kP, hkP, -⟩ := className_of_methodNamed hnamed
  have hinitP : kP.init = .initialized := Cond.initialized_spec (findClass_of_methodNamed hnamed) hkP hinit
  obtain ⟨vm₁, X₁, hstep₁⟩ := X.invokestatic hexec hown hlink hnamed hmethM hstatic hkP hinitP hy (g := g) hg (argsL := argsL) (rest := rest) (hlen _ hsigM) hstack hdg
  rcases hK m meth c ⟨T.setVm vm₁, locs, cells, slots⟩ { g with stack := rest } (.invokestatic index) mk argsL.toArray X₁ hg hsize hdg hW (X₁.named hnamed) (hpre vm₁ X₁.warmed) with ⟨v, B, X', hpost, hsteps⟩ | ⟨q, B, X', hpost, hsteps⟩
  · exact Or.inl ⟨v, vm₁, B, X₁.warmed, X', hpost, fun target h => hstep₁ _ fun acts => by rw [doInvoke_state]; exact hsteps.trans h⟩
  · exact Or.inr ⟨q, vm₁, B, X₁.warmed, X', hpost, hstep₁ _ fun acts => by rw [doInvoke_state]; exact hsteps⟩
theorem vx_callVW (X : Stand p l e R s m args below meth c T locs cells slots) (hexec : p.tables.exec = Jvm.exec) {own C : String} {index : Nat} {y : MethodName} {bytes : ByteArray} {maxL : Nat} {ret : Option FieldType} {hh : List (Nat × Nat × Nat × Nat)}
    (hown : s.vm.findClass own = some m.cls) (hlink : (Cond.methodLink own index y).before args s = true) (hinst : (Cond.instanceMethod y).before args s = true) (hsel : (Cond.selects C y y).before args s = true)
    (hcode : (Cond.codeWith y bytes maxL ret hh).before args s = true) (hy : y.cls ≠ "java/lang/invoke/MethodHandle" ∧ y.cls ≠ "java/lang/invoke/VarHandle")
    {W9 : Nat} {Pre : Pt → Array Value → Prop} {Post : Pt → Array Value → Option Value → Pt → Prop} (hK : Back l R p e below s args y 3 W9 Pre Post)
    {b : Addr} {cellB : Cell} (hcell : T.heap[b]? = some cellB) (hobj : cellB.vm.isStatics = false) (hcls : s.vm.findClass C = some cellB.cls)
    {g : JFrame} (hg : g.method = m) (hsize : g.locals.size = c.maxLocals) {argsL rest : List Value} (hlen : ∀ sig, parseMethodDescriptor y.desc = some sig → argsL.length = sig.parameters.length)
    (hstack : g.stack = argsL.reverse ++ .ref b :: rest) (hW : 2 * g.monitorRoom + (rest.map fun v => v.category).sum ≤ W9) (hdg : decode c.code g.pc = .ok (.invokevirtual index, 3))
    (hpre : ∀ vm₁, s.WarmedH vm₁ → Pre ⟨T.setVm vm₁, locs, cells, slots⟩ (Value.ref b :: argsL).toArray) :
    ∃ (v : Option Value) (vm₁ : Vm) (B : Pt), s.WarmedH vm₁ ∧ Stand p l e R s m args below meth c B.U B.locs B.cells B.slots ∧ Post ⟨T.setVm vm₁, locs, cells, slots⟩ (Value.ref b :: argsL).toArray v B ∧
      ∀ target, Steps p.tables e below (B.U.setTop { g with pc := g.pc + 3, stack := v.toList ++ rest }) target → Steps p.tables e below (T.setTop g) target := by
  obtain ⟨mk, methM, hnamed, hmethM, hstM, habM⟩ := Cond.instanceMethod_spec hinst
  obtain ⟨m8, methM', cM, hn8, hmethM', -, -, -, -, -, -, hsigM⟩ := Cond.codeWith_spec hcode
  cases Option.some.inj (hn8.symm.trans hnamed)
  cases hmethM.symm.trans hmethM'
  obtain ⟨c2, r2, m2, q1, q2, q3, q4, kP, hkP, hkPi⟩ := Cond.selects_spec hsel
  cases hcls.symm.trans q1
  cases (State.methodFound?_of_named hnamed hy).symm.trans q2
  cases hnamed.symm.trans q3
  have hselP : selectMethod e.platform s.vm cellB.cls mk = .method mk := by rw [Launch.admits_selectMethod X.admits]; exact q4
  obtain ⟨vm₁, X₁, hstep₁⟩ := X.invokevirtual hexec hown hlink hnamed hmethM hstM hkP hkPi hy (a := b) (cell := cellB) hcell
    (fun z h => by rw [h] at hobj; cases hobj) hselP hmethM habM hkP hkPi (g := g) hg (argsL := argsL) (rest := rest) (hlen _ hsigM) hstack hdg
  obtain ⟨v, B, X', hpost, hsteps⟩ := hK m meth c ⟨T.setVm vm₁, locs, cells, slots⟩ { g with stack := rest } (.invokevirtual index) mk (Value.ref b :: argsL).toArray X₁ hg hsize hdg hW (X₁.named hnamed) (hpre vm₁ X₁.warmed)
  exact ⟨v, vm₁, B, X₁.warmed, X', hpost, fun target h => hstep₁ _ fun acts => by rw [doInvoke_state]; exact hsteps.trans h⟩
abbrev vx_CVW (R : Room) (s : State) (args : Array Value) (own C : String) (index : Nat) (y : MethodName) (bytes : ByteArray) (maxL : Nat) (ret : Option FieldType) (hh : List (Nat × Nat × Nat × Nat)) (ws : List Cond) (rm : Room) (mc ms n : Nat) : Prop :=
  (rm.cells = mc ∧ rm.slots = ms ∧ rm.frames + 1 ≤ R.frames ∧ 8 + (maxL + 11) + rm.locals ≤ R.locals ∧ (∀ w ∈ ws, ∀ (a' : Array Value) (U : State), s.WarmedH U.vm → w.before a' U = true) ∧ Cond.codeWith y bytes maxL ret hh ∈ ws) ∧
  (Cond.codeWith y bytes maxL ret hh).before args s = true ∧ (Cond.initialized y.cls).before args s = true ∧ (y.cls ≠ "java/lang/invoke/MethodHandle" ∧ y.cls ≠ "java/lang/invoke/VarHandle") ∧
  (∀ sig, parseMethodDescriptor y.desc = some sig → n = sig.parameters.length) ∧ (Cond.methodLink own index y).before args s = true ∧ (Cond.instanceMethod y).before args s = true ∧ (Cond.selects C y y).before args s = true
theorem vx_cwVW {own C : String} {index maxL mc ms : Nat} {y : MethodName} {bytes : ByteArray} {ret : Option FieldType} {hh : List (Nat × Nat × Nat × Nat)} {Ts ws ws' : List Cond} {rm : Room} (n : Nat) (ht : ∀ w ∈ Ts, w.before args s = true) (hT : GoodIn Ts (wsV own index C y ws)) (hw : ws = Cond.codeWith y bytes maxL ret hh :: ws') (hrc : rm.cells = mc) (hrs : rm.slots = ms)
    (hd : y.cls = C ∧ y.cls ≠ "java/lang/invoke/MethodHandle" ∧ y.cls ≠ "java/lang/invoke/VarHandle" ∧ (parseMethodDescriptor y.desc).map (fun d => d.parameters.length) = some n) (hR : rm.frames + 1 ≤ R.frames ∧ 8 + (maxL + 11) + rm.locals ≤ R.locals) :
    vx_CVW R s args own C index y bytes maxL ret hh ws rm mc ms n := by
  obtain ⟨hC, hd⟩ := hd
  subst hC
  have ok : ∀ w ∈ wsV own index y.cls y ws, w.before args s = true := fun w h => ht w (hT w h).1
  have hG : GoodIn Ts ws := fun w h => hT w (by unfold wsV; exact List.mem_append_right _ h)
  have hc : Cond.codeWith y bytes maxL ret hh ∈ ws := by rw [hw]; exact List.mem_cons_self
  refine ⟨⟨hrc, hrs, hR.1, hR.2, pay_in ht hG, hc⟩, ht _ (hG _ hc).1, ok _ (by simp [wsV]), ⟨hd.1, hd.2.1⟩, fun sig h => ?_, ok _ (by simp [wsV]), ok _ (by simp [wsV]), ok _ (by simp [wsV])⟩
  have h2 := hd.2.2
  rw [h] at h2
  exact (Option.some.inj h2).symm
theorem vx_runVW {y : MethodName} {bytes cc : ByteArray} {maxL nL mc ms n index : Nat} {ret : Option FieldType} {hh : List (Nat × Nat × Nat × Nat)} {ws : List Cond} {rm : Room} {Pc : Array Value → State → Prop} {Qc : Array Value → State → Outcome → State → Prop} {free : Addr → Prop} {Ts : List Cond} {own C : String} {b : Addr} {As rest : List Value} {g : JFrame}
    (S : CallFix p m c cc nL s args Ts own) (hM : Met l y ws rm Pc Qc mc ms free) (cw : vx_CVW R s args own C index y bytes maxL ret hh ws rm mc ms n) (hp : PreV s H C b Pc As)
    (hg : g.method = m) (hn : As.length = n) (hsize : g.locals.size = nL) (hstack : g.stack = As.reverse ++ .ref b :: rest) (hW : 2 * g.monitorRoom + (rest.map fun v => v.category).sum ≤ 8) (hdg : decode cc g.pc = .ok (.invokevirtual index, 3)) (hf : cells + mc ≤ R.cells ∧ slots + ms ≤ R.slots) :
    va_Run p l e R s m args below meth c H locs cells slots mc ms g rest (Qc (Value.ref b :: As).toArray) free := by
  obtain ⟨⟨hrc, hrs, hfr, hlo, hws, hcw⟩, hcode, hini, hy, hlen, hl, hin, hse⟩ := cw
  have hK : Back l R p e below s args y 3 8 (PreOf R mc ms Pc) (PostOf Qc mc ms free) := va_backW (hh := hh) (bytes := bytes) (maxL := maxL) (ret := ret) hM hp.1 hrc hrs hfr hlo hws hcw (fun a' U hW => word_at hW (Or.inl (by first | rfl | simp [Cond.onTables, Cond.keeps, Cond.steady])) hini)
  obtain ⟨hx, hb, hml, ho, -⟩ := S
  obtain ⟨-, ⟨cellB, hcB, hoB, hclB⟩, hPc⟩ := hp
  intro T hT X
  obtain ⟨v, vm₁, ⟨U', l2, c2, s2⟩, hW₁, X', ⟨g', mk, t, L, e1, e2, hq, h1, hL, h2, h3⟩, st⟩ := vx_callVW X hx (C := C) (hh := hh) (bytes := bytes) (maxL := maxL) (ret := ret) ho hl hin hse hcode hy hK (by rw [hT]; exact hcB) hoB hclB hg (hsize.trans hml.symm) (argsL := As) (rest := rest) (fun sig h => hn.trans (hlen sig h)) hstack hW (by rw [hb]; exact hdg)
    (fun vm₁ hW₁ => ⟨hf.1, hf.2, hPc (T.setVm vm₁) hT hW₁⟩)
  dsimp only [Pt.U, Pt.locs, Pt.cells, Pt.slots] at X' e1 e2 h1 h2 h3 st
  subst h1; subst h2; subst h3
  exact ⟨v, (T.setVm vm₁).calling g' mk (Value.ref b :: As).toArray, t, U', L, hT, X', hL, e1, e2, hq, st⟩
section
variable {y : MethodName} {bytes cc : ByteArray} {maxL nL mc ms n index : Nat} {ret : Option FieldType} {ws : List Cond} {rm : Room} {Pc : Array Value → State → Prop} {Qc : Array Value → State → Outcome → State → Prop} {XC : String → State → State → Prop} {free : Addr → Prop} {Ts : List Cond} {own C : String} {b : Addr} {As rest : List Value} {g : JFrame}
theorem vx_runVX {hh : List (Nat × Nat × Nat × Nat)} (S : CallFix p m c cc nL s args Ts own) (hM : vx_Met l y ws rm Pc Qc XC mc ms free) (cw : vx_CVW R s args own C index y bytes maxL ret hh ws rm mc ms n) (hp : PreV s H C b Pc As)
    (hg : g.method = m) (hn : As.length = n) (hsize : g.locals.size = nL) (hstack : g.stack = As.reverse ++ .ref b :: rest) (hW : 2 * g.monitorRoom + (rest.map fun v => v.category).sum ≤ 8) (hdg : decode cc g.pc = .ok (.invokevirtual index, 3)) (hf : cells + mc ≤ R.cells ∧ slots + ms ≤ R.slots) :
    vx_Run p l e R s m args below meth c H locs cells slots mc ms g rest (Qc (Value.ref b :: As).toArray) XC free := by
  obtain ⟨⟨hrc, hrs, hfr, hlo, hws, hcw⟩, hcode, hini, hy, hlen, hl, hin, hse⟩ := cw
  have hK : vx_Back l R p e below s args y 3 8 (PreOf R mc ms Pc) (PostOf Qc mc ms free) (vx_Post XC mc ms free) := vx_backW (hh := hh) (bytes := bytes) (maxL := maxL) (ret := ret) hM hp.1 hrc hrs hfr hlo hws hcw (fun a' U hW => word_at hW (Or.inl (by first | rfl | simp [Cond.onTables, Cond.keeps, Cond.steady])) hini)
  obtain ⟨hx, hb, hml, ho, -⟩ := S
  obtain ⟨-, ⟨cellB, hcB, hoB, hclB⟩, hPc⟩ := hp
  intro T hT X
  rcases vx_callVX X hx (C := C) (hh := hh) (bytes := bytes) (maxL := maxL) (ret := ret) ho hl hin hse hcode hy hK (by rw [hT]; exact hcB) hoB hclB hg (hsize.trans hml.symm) (argsL := As) (rest := rest) (fun sig h => hn.trans (hlen sig h)) hstack hW (by rw [hb]; exact hdg)
    (fun vm₁ hW₁ => ⟨hf.1, hf.2, hPc (T.setVm vm₁) hT hW₁⟩) with ⟨v, vm₁, ⟨U', l2, c2, s2⟩, hW₁, X', ⟨g', mk, t, L, e1, e2, hq, h1, hL, h2, h3⟩, st⟩ | ⟨q, vm₁, ⟨U', l2, c2, s2⟩, hW₁, X', ⟨g', mk, t, L, E, ce, e1, e2, hq, hce, hcv, hcl, h1, hL, h2, h3⟩, st⟩
  · dsimp only [Pt.U, Pt.locs, Pt.cells, Pt.slots] at X' e1 e2 h1 h2 h3 st
    subst h1; subst h2; subst h3
    exact Or.inl ⟨v, (T.setVm vm₁).calling g' mk (Value.ref b :: As).toArray, t, U', L, hT, X', hL, e1, e2, hq, st⟩
  · dsimp only [Pt.U, Pt.locs, Pt.cells, Pt.slots] at X' e1 e2 h1 h2 h3 st hcl
    subst h1; subst h2; subst h3
    exact Or.inr ⟨q, (T.setVm vm₁).calling g' mk (Value.ref b :: As).toArray, t, U', L, E, ce, hT, X', hL, e1, e2, hq, hce, hcv, vx_cls hW₁ hcl, st⟩
theorem vx_runSX {hh : List (Nat × Nat × Nat × Nat)} (S : CallFix p m c cc nL s args Ts own) (hM : vx_Met l y ws rm Pc Qc XC mc ms free) (cw : vx_CSW R s args own index y bytes maxL ret hh ws rm mc ms n) (hp : PreS s H Pc As)
    (hg : g.method = m) (hn : As.length = n) (hsize : g.locals.size = nL) (hstack : g.stack = As.reverse ++ rest) (hW : 2 * g.monitorRoom + (rest.map fun v => v.category).sum ≤ 8) (hdg : decode cc g.pc = .ok (.invokestatic index, 3)) (hf : cells + mc ≤ R.cells ∧ slots + ms ≤ R.slots) :
    vx_Run p l e R s m args below meth c H locs cells slots mc ms g rest (Qc As.toArray) XC free := by
  obtain ⟨⟨hrc, hrs, hfr, hlo, hws, hcw⟩, hcode, hini, hy, hlen, hl, hstt⟩ := cw
  have hK : vx_Back l R p e below s args y 3 8 (PreOf R mc ms Pc) (PostOf Qc mc ms free) (vx_Post XC mc ms free) := vx_backW (hh := hh) (bytes := bytes) (maxL := maxL) (ret := ret) hM hp.1 hrc hrs hfr hlo hws hcw (fun a' U hW => word_at hW (Or.inl (by first | rfl | simp [Cond.onTables, Cond.keeps, Cond.steady])) hini)
  obtain ⟨hx, hb, hml, ho, -⟩ := S
  intro T hT X
  rcases vx_callSX X hx (hh := hh) (bytes := bytes) (maxL := maxL) (ret := ret) ho hl hstt hini hcode hy hK hg (hsize.trans hml.symm) (argsL := As) (rest := rest) (fun sig h => hn.trans (hlen sig h)) hstack hW (by rw [hb]; exact hdg)
    (fun vm₁ hW₁ => ⟨hf.1, hf.2, hp.2 (T.setVm vm₁) hT hW₁⟩) with ⟨v, vm₁, ⟨U', l2, c2, s2⟩, hW₁, X', ⟨g', mk, t, L, e1, e2, hq, h1, hL, h2, h3⟩, st⟩ | ⟨q, vm₁, ⟨U', l2, c2, s2⟩, hW₁, X', ⟨g', mk, t, L, E, ce, e1, e2, hq, hce, hcv, hcl, h1, hL, h2, h3⟩, st⟩
  · dsimp only [Pt.U, Pt.locs, Pt.cells, Pt.slots] at X' e1 e2 h1 h2 h3 st
    subst h1; subst h2; subst h3
    exact Or.inl ⟨v, (T.setVm vm₁).calling g' mk As.toArray, t, U', L, hT, X', hL, e1, e2, hq, st⟩
  · dsimp only [Pt.U, Pt.locs, Pt.cells, Pt.slots] at X' e1 e2 h1 h2 h3 st hcl
    subst h1; subst h2; subst h3
    exact Or.inr ⟨q, (T.setVm vm₁).calling g' mk As.toArray, t, U', L, E, ce, hT, X', hL, e1, e2, hq, hce, hcv, vx_cls hW₁ hcl, st⟩
end
end VXH
theorem vx_ofWH {l : Launch} {y : MethodName} {ws ws' : List Cond} {rm : Room} {Pc : Array Value → State → Prop} {Qc : Array Value → State → Outcome → State → Prop} {XC : String → State → State → Prop} {mc ms : Nat} {free : Addr → Prop} {cc : ByteArray} {maxL : Nat} {ret : Option FieldType} {hh : List (Nat × Nat × Nat × Nat)}
    (hy : plainName y.cls = true) (hw : ws = Cond.codeWith y cc maxL ret hh :: ws')
    (body : ∀ p e s m args below meth c s₁, BodyLoose p l y (headSpec ws rm) cc maxL ret e s m args below meth c s₁ → c.maxLocals = maxL → Pc args s →
      W p l e (headSpec ws rm).room s m args below meth c s.heap [] 0 0 (vx_MQ below Qc XC args s mc ms free) (entryFrame m args maxL)) : vx_Met l y ws rm Pc Qc XC mc ms free := by
  refine MetFree.of_bodyS (code := cc) (maxLocals := maxL) (ret := ret) hy ?_ ?_
  · intro args s m h hn
    obtain ⟨m9, meth, c, hn9, h1, h2, h3, h4, -, h5, h6, -⟩ := Cond.codeWith_spec (atoms_spec (ws := ws) h _ (by rw [hw]; exact List.mem_cons_self))
    cases hn.symm.trans hn9
    exact ⟨meth, c, h1, h2, h3, h4, h5, h6⟩
  · intro p e s m args below meth c s₁ B hml hP _
    have hh0 : s₁.heap = s.heap := by rw [B.state]; rfl
    obtain ⟨t, a1, o, b1, b2, b3⟩ := body p e s m args below meth c s₁ B hml hP s₁ hh0 (Stand.of_body B)
    exact ⟨t, o, a1, b1, b2, b3⟩
/-! ===== END ===== -/
end
section
/-! NAMES (printed by wip/whole/g/mknames.py out of the claim's listing and word tables) -/
def R_nd : String := "HyphenBook$Node"
def F_nd : u_T := fun k => match k with
  | 0 => ("HyphenBook$Node", "sign", "I", true)
  | 1 => ("HyphenBook$Node", "firstChild", "LHyphenBook$Node;", false)
  | 2 => ("HyphenBook$Node", "nextSibling", "LHyphenBook$Node;", false)
  | _ => ("HyphenBook$Node", "numbers", "[I", false)
def t_nd : Nat → FieldType := fun k => match k with
  | 0 => .int
  | 1 => .object "HyphenBook$Node"
  | 2 => .object "HyphenBook$Node"
  | _ => .array .int
theorem nm_nd : ∀ a, a < 4 → ∀ b, b < 4 → a ≠ b → (F_nd a).2.1 ≠ (F_nd b).2.1 := by decide +kernel
theorem tk_nd : ∀ k, k < 4 → parseFieldDescriptor (F_nd k).2.2.1 = some (t_nd k) := by decide +kernel
def R_rw : String := "HyphenBook$SignRow"
def F_rw : u_T := fun k => match k with
  | 0 => ("HyphenBook$SignRow", "signs", "[I", true)
  | 1 => ("HyphenBook$SignRow", "numbers", "[I", true)
  | _ => ("HyphenBook$SignRow", "size", "I", false)
def t_rw : Nat → FieldType := fun k => match k with
  | 0 => .array .int
  | 1 => .array .int
  | _ => .int
theorem nm_rw : ∀ a, a < 3 → ∀ b, b < 3 → a ≠ b → (F_rw a).2.1 ≠ (F_rw b).2.1 := by decide +kernel
theorem tk_rw : ∀ k, k < 3 → parseFieldDescriptor (F_rw k).2.2.1 = some (t_rw k) := by decide +kernel
def R_tr : String := "HyphenBook$SignTree"
def F_tr : u_T := fun k => match k with
  | 0 => ("HyphenBook$SignTree", "root", "LHyphenBook$Node;", true)
  | 1 => ("HyphenBook$SignTree", "entries", "I", false)
  | _ => ("HyphenBook$SignTree", "beginnings", "I", false)
def t_tr : Nat → FieldType := fun k => match k with
  | 0 => .object "HyphenBook$Node"
  | 1 => .int
  | _ => .int
theorem nm_tr : ∀ a, a < 3 → ∀ b, b < 3 → a ≠ b → (F_tr a).2.1 ≠ (F_tr b).2.1 := by decide +kernel
theorem tk_tr : ∀ k, k < 3 → parseFieldDescriptor (F_tr k).2.2.1 = some (t_tr k) := by decide +kernel
def R_bk : String := "HyphenBook"
def F_bk : u_T := fun k => match k with
  | 0 => ("HyphenBook", "draft", "[I", true)
  | 1 => ("HyphenBook", "drafted", "I", false)
  | 2 => ("HyphenBook", "left", "I", false)
  | 3 => ("HyphenBook", "right", "I", false)
  | 4 => ("HyphenBook", "patterns", "LHyphenBook$SignTree;", true)
  | 5 => ("HyphenBook", "exceptions", "LHyphenBook$SignTree;", true)
  | 6 => ("HyphenBook", "read", "LHyphenBook$SignRow;", true)
  | _ => ("HyphenBook", "asked", "LHyphenBook$SignRow;", true)
def t_bk : Nat → FieldType := fun k => match k with
  | 0 => .array .int
  | 1 => .int
  | 2 => .int
  | 3 => .int
  | 4 => .object "HyphenBook$SignTree"
  | 5 => .object "HyphenBook$SignTree"
  | 6 => .object "HyphenBook$SignRow"
  | _ => .object "HyphenBook$SignRow"
theorem nm_bk : ∀ a, a < 8 → ∀ b, b < 8 → a ≠ b → (F_bk a).2.1 ≠ (F_bk b).2.1 := by decide +kernel
theorem tk_bk : ∀ k, k < 8 → parseFieldDescriptor (F_bk k).2.2.1 = some (t_bk k) := by decide +kernel
def R_md : String := "HyphenBookModel"
def F_md : u_T := fun k => match k with
  | 0 => ("HyphenBookModel", "thrown", "I", false)
  | 1 => ("HyphenBookModel", "drafted", "I", false)
  | 2 => ("HyphenBookModel", "draft", "[I", true)
  | 3 => ("HyphenBookModel", "patterns", "I", false)
  | 4 => ("HyphenBookModel", "begin", "[I", true)
  | 5 => ("HyphenBookModel", "signs", "[I", true)
  | 6 => ("HyphenBookModel", "numbers", "[I", true)
  | 7 => ("HyphenBookModel", "beginnings", "I", false)
  | 8 => ("HyphenBookModel", "exceptions", "I", false)
  | 9 => ("HyphenBookModel", "first", "[I", true)
  | 10 => ("HyphenBookModel", "letters", "[I", true)
  | 11 => ("HyphenBookModel", "places", "[J", true)
  | 12 => ("HyphenBookModel", "left", "I", false)
  | 13 => ("HyphenBookModel", "right", "I", false)
  | 14 => ("HyphenBookModel", "length", "I", false)
  | 15 => ("HyphenBookModel", "row", "[I", true)
  | 16 => ("HyphenBookModel", "value", "[I", true)
  | _ => ("HyphenBookModel", "asked", "Z", false)
def t_md : Nat → FieldType := fun k => match k with
  | 0 => .int
  | 1 => .int
  | 2 => .array .int
  | 3 => .int
  | 4 => .array .int
  | 5 => .array .int
  | 6 => .array .int
  | 7 => .int
  | 8 => .int
  | 9 => .array .int
  | 10 => .array .int
  | 11 => .array .long
  | 12 => .int
  | 13 => .int
  | 14 => .int
  | 15 => .array .int
  | 16 => .array .int
  | _ => .boolean
theorem nm_md : ∀ a, a < 18 → ∀ b, b < 18 → a ≠ b → (F_md a).2.1 ≠ (F_md b).2.1 := by decide +kernel
theorem tk_md : ∀ k, k < 18 → parseFieldDescriptor (F_md k).2.2.1 = some (t_md k) := by decide +kernel
def R_ar : String := "java/util/Arrays"
abbrev vwC : List vw_C := [(R_nd, F_nd, 4), (R_rw, F_rw, 3), (R_tr, F_tr, 3), (R_bk, F_bk, 8), (R_md, F_md, 18)]
abbrev b_bk_init : ByteArray := prog_1_method_1_code
def y_bk_init : MethodName := ⟨R_bk, "<init>", "()V"⟩
def w_bk_init : List Cond := .code y_bk_init b_bk_init 1 (Option.none : Option Jvm.ClassFile.FieldType) :: lwB
abbrev b_tr_init : ByteArray := prog_4_method_1_code
def y_tr_init : MethodName := ⟨R_tr, "<init>", "()V"⟩
def w_tr_init : List Cond := .code y_tr_init b_tr_init 1 (Option.none : Option Jvm.ClassFile.FieldType) :: lwB
abbrev b_nd_init : ByteArray := prog_2_method_1_code
def y_nd_init : MethodName := ⟨R_nd, "<init>", "(I)V"⟩
def w_nd_init : List Cond := .code y_nd_init b_nd_init 2 (Option.none : Option Jvm.ClassFile.FieldType) :: lwB
abbrev b_rw_init : ByteArray := prog_3_method_1_code
def y_rw_init : MethodName := ⟨R_rw, "<init>", "()V"⟩
def w_rw_init : List Cond := .code y_rw_init b_rw_init 1 (Option.none : Option Jvm.ClassFile.FieldType) :: lwB
abbrev b_bk_put : ByteArray := prog_1_method_2_code
def y_bk_put : MethodName := ⟨R_bk, "put", "(JI)Z"⟩
def w_bk_put : List Cond := .code y_bk_put b_bk_put 5 (Option.some Jvm.ClassFile.FieldType.boolean) :: lwB
abbrev b_bk_least : ByteArray := prog_1_method_6_code
def y_bk_least : MethodName := ⟨R_bk, "least", "(II)Z"⟩
def w_bk_least : List Cond := .code y_bk_least b_bk_least 3 (Option.some Jvm.ClassFile.FieldType.boolean) :: lwB
abbrev b_bk_value : ByteArray := prog_1_method_7_code
def y_bk_value : MethodName := ⟨R_bk, "value", "(I)I"⟩
def w_bk_value : List Cond := .code y_bk_value b_bk_value 2 (Option.some Jvm.ClassFile.FieldType.int) :: lwB
abbrev b_bk_lettersOfAsked : ByteArray := prog_1_method_19_code
def y_bk_lettersOfAsked : MethodName := ⟨R_bk, "lettersOfAsked", "()I"⟩
def w_bk_lettersOfAsked : List Cond := .code y_bk_lettersOfAsked b_bk_lettersOfAsked 1 (Option.some Jvm.ClassFile.FieldType.int) :: lwB
abbrev b_rw_size : ByteArray := prog_3_method_2_code
def y_rw_size : MethodName := ⟨R_rw, "size", "()I"⟩
def w_rw_size : List Cond := .code y_rw_size b_rw_size 1 (Option.some Jvm.ClassFile.FieldType.int) :: lwB
abbrev b_bk_placeBehind : ByteArray := prog_1_method_11_code
def y_bk_placeBehind : MethodName := ⟨R_bk, "placeBehind", "(I)I"⟩
def w_bk_placeBehind : List Cond := .code y_bk_placeBehind b_bk_placeBehind 1 (Option.some Jvm.ClassFile.FieldType.int) :: lwB
abbrev b_rw_numberAt : ByteArray := prog_3_method_6_code
def y_rw_numberAt : MethodName := ⟨R_rw, "numberAt", "(I)I"⟩
def w_rw_numberAt : List Cond := .code y_rw_numberAt b_rw_numberAt 2 (Option.some Jvm.ClassFile.FieldType.int) :: lwB
abbrev b_bk_elementAt : ByteArray := prog_1_method_12_code
def y_bk_elementAt : MethodName := ⟨R_bk, "elementAt", "([II)I"⟩
def w_bk_elementAt : List Cond := .code y_bk_elementAt b_bk_elementAt 2 (Option.some Jvm.ClassFile.FieldType.int) :: lwB
abbrev b_bk_count : ByteArray := prog_1_method_8_code
def y_bk_count : MethodName := ⟨R_bk, "count", "(I)I"⟩
def w_bk_count : List Cond := .code y_bk_count b_bk_count 2 (Option.some Jvm.ClassFile.FieldType.int) :: lwB
abbrev b_tr_entries : ByteArray := prog_4_method_2_code
def y_tr_entries : MethodName := ⟨R_tr, "entries", "()I"⟩
def w_tr_entries : List Cond := .code y_tr_entries b_tr_entries 1 (Option.some Jvm.ClassFile.FieldType.int) :: lwB
abbrev b_tr_beginnings : ByteArray := prog_4_method_3_code
def y_tr_beginnings : MethodName := ⟨R_tr, "beginnings", "()I"⟩
def w_tr_beginnings : List Cond := .code y_tr_beginnings b_tr_beginnings 1 (Option.some Jvm.ClassFile.FieldType.int) :: lwB
abbrev b_lw_pattern : ByteArray := method_3_code
def y_lw_pattern : MethodName := ⟨"HyphenBookLaw", "pattern", "(LHyphenBook;[J)I"⟩
def w_lw_pattern : List Cond := .codeWith y_lw_pattern b_lw_pattern 3 (Option.some Jvm.ClassFile.FieldType.int) [((0 : Nat), (8 : Nat), (11 : Nat), (13 : Nat)), ((0 : Nat), (8 : Nat), (14 : Nat), (15 : Nat))] :: lwB
abbrev b_bk_pattern : ByteArray := prog_1_method_3_code
def y_bk_pattern : MethodName := ⟨R_bk, "pattern", "()I"⟩
def w_bk_pattern : List Cond := .code y_bk_pattern b_bk_pattern 2 (Option.some Jvm.ClassFile.FieldType.int) :: lwB
abbrev b_bk_readPattern : ByteArray := prog_1_method_13_code
def y_bk_readPattern : MethodName := ⟨R_bk, "readPattern", "()Z"⟩
def w_bk_readPattern : List Cond := .code y_bk_readPattern b_bk_readPattern 4 (Option.some Jvm.ClassFile.FieldType.boolean) :: lwB
abbrev b_rw_clear : ByteArray := prog_3_method_3_code
def y_rw_clear : MethodName := ⟨R_rw, "clear", "()V"⟩
def w_rw_clear : List Cond := .code y_rw_clear b_rw_clear 1 (Option.none : Option Jvm.ClassFile.FieldType) :: lwB
abbrev b_ar_fill : ByteArray := prog_14_method_103_code
def y_ar_fill : MethodName := ⟨R_ar, "fill", "([II)V"⟩
def w_ar_fill : List Cond := .code y_ar_fill b_ar_fill 4 (Option.none : Option Jvm.ClassFile.FieldType) :: lwB
abbrev b_bk_isDigit : ByteArray := prog_1_method_10_code
def y_bk_isDigit : MethodName := ⟨R_bk, "isDigit", "(I)Z"⟩
def w_bk_isDigit : List Cond := .code y_bk_isDigit b_bk_isDigit 1 (Option.some Jvm.ClassFile.FieldType.boolean) :: lwB
abbrev b_rw_setNumber : ByteArray := prog_3_method_7_code
def y_rw_setNumber : MethodName := ⟨R_rw, "setNumber", "(II)V"⟩
def w_rw_setNumber : List Cond := .code y_rw_setNumber b_rw_setNumber 3 (Option.none : Option Jvm.ClassFile.FieldType) :: lwB
abbrev b_bk_isLetter : ByteArray := prog_1_method_9_code
def y_bk_isLetter : MethodName := ⟨R_bk, "isLetter", "(I)Z"⟩
def w_bk_isLetter : List Cond := .code y_bk_isLetter b_bk_isLetter 1 (Option.some Jvm.ClassFile.FieldType.boolean) :: lwB
abbrev b_rw_append : ByteArray := prog_3_method_4_code
def y_rw_append : MethodName := ⟨R_rw, "append", "(I)Z"⟩
def w_rw_append : List Cond := .code y_rw_append b_rw_append 2 (Option.some Jvm.ClassFile.FieldType.boolean) :: lwB
abbrev b_bk_dropNumbersOutsideEdges : ByteArray := prog_1_method_14_code
def y_bk_dropNumbersOutsideEdges : MethodName := ⟨R_bk, "dropNumbersOutsideEdges", "()V"⟩
def w_bk_dropNumbersOutsideEdges : List Cond := .code y_bk_dropNumbersOutsideEdges b_bk_dropNumbersOutsideEdges 1 (Option.none : Option Jvm.ClassFile.FieldType) :: lwB
abbrev b_rw_signAt : ByteArray := prog_3_method_5_code
def y_rw_signAt : MethodName := ⟨R_rw, "signAt", "(I)I"⟩
def w_rw_signAt : List Cond := .code y_rw_signAt b_rw_signAt 2 (Option.some Jvm.ClassFile.FieldType.int) :: lwB
abbrev b_bk_signsReadMakeAPattern : ByteArray := prog_1_method_15_code
def y_bk_signsReadMakeAPattern : MethodName := ⟨R_bk, "signsReadMakeAPattern", "()Z"⟩
def w_bk_signsReadMakeAPattern : List Cond := .code y_bk_signsReadMakeAPattern b_bk_signsReadMakeAPattern 3 (Option.some Jvm.ClassFile.FieldType.boolean) :: lwB
abbrev b_tr_numbersOf : ByteArray := prog_4_method_4_code
def y_tr_numbersOf : MethodName := ⟨R_tr, "numbersOf", "(LHyphenBook$SignRow;)[I"⟩
def w_tr_numbersOf : List Cond := .code y_tr_numbersOf b_tr_numbersOf 4 (Option.some (Jvm.ClassFile.FieldType.array Jvm.ClassFile.FieldType.int)) :: lwB
abbrev b_nd_childWith : ByteArray := prog_2_method_2_code
def y_nd_childWith : MethodName := ⟨R_nd, "childWith", "(I)LHyphenBook$Node;"⟩
def w_nd_childWith : List Cond := .code y_nd_childWith b_nd_childWith 3 (Option.some (Jvm.ClassFile.FieldType.object "HyphenBook$Node")) :: lwB
abbrev b_tr_beginningsWith : ByteArray := prog_4_method_5_code
def y_tr_beginningsWith : MethodName := ⟨R_tr, "beginningsWith", "(LHyphenBook$SignRow;)I"⟩
def w_tr_beginningsWith : List Cond := .code y_tr_beginningsWith b_tr_beginningsWith 4 (Option.some Jvm.ClassFile.FieldType.int) :: lwB
abbrev b_tr_enter : ByteArray := prog_4_method_6_code
def y_tr_enter : MethodName := ⟨R_tr, "enter", "(LHyphenBook$SignRow;)V"⟩
def w_tr_enter : List Cond := .code y_tr_enter b_tr_enter 5 (Option.none : Option Jvm.ClassFile.FieldType) :: lwB
abbrev b_nd_newChild : ByteArray := prog_2_method_3_code
def y_nd_newChild : MethodName := ⟨R_nd, "newChild", "(I)LHyphenBook$Node;"⟩
def w_nd_newChild : List Cond := .code y_nd_newChild b_nd_newChild 3 (Option.some (Jvm.ClassFile.FieldType.object "HyphenBook$Node")) :: lwB
abbrev b_rw_copyOfNumbers : ByteArray := prog_3_method_9_code
def y_rw_copyOfNumbers : MethodName := ⟨R_rw, "copyOfNumbers", "()[I"⟩
def w_rw_copyOfNumbers : List Cond := .code y_rw_copyOfNumbers b_rw_copyOfNumbers 1 (Option.some (Jvm.ClassFile.FieldType.array Jvm.ClassFile.FieldType.int)) :: lwB
abbrev b_lw_exception : ByteArray := method_4_code
def y_lw_exception : MethodName := ⟨"HyphenBookLaw", "exception", "(LHyphenBook;[J)I"⟩
def w_lw_exception : List Cond := .codeWith y_lw_exception b_lw_exception 3 (Option.some Jvm.ClassFile.FieldType.int) [((0 : Nat), (8 : Nat), (11 : Nat), (13 : Nat)), ((0 : Nat), (8 : Nat), (14 : Nat), (15 : Nat))] :: lwB
abbrev b_bk_exception : ByteArray := prog_1_method_4_code
def y_bk_exception : MethodName := ⟨R_bk, "exception", "()I"⟩
def w_bk_exception : List Cond := .code y_bk_exception b_bk_exception 2 (Option.some Jvm.ClassFile.FieldType.int) :: lwB
abbrev b_bk_readException : ByteArray := prog_1_method_16_code
def y_bk_readException : MethodName := ⟨R_bk, "readException", "()Z"⟩
def w_bk_readException : List Cond := .code y_bk_readException b_bk_readException 4 (Option.some Jvm.ClassFile.FieldType.boolean) :: lwB
abbrev b_lw_word : ByteArray := method_5_code
def y_lw_word : MethodName := ⟨"HyphenBookLaw", "word", "(LHyphenBook;[J)I"⟩
def w_lw_word : List Cond := .codeWith y_lw_word b_lw_word 3 (Option.some Jvm.ClassFile.FieldType.int) [((0 : Nat), (7 : Nat), (10 : Nat), (13 : Nat))] :: lwB
abbrev b_bk_word : ByteArray := prog_1_method_5_code
def y_bk_word : MethodName := ⟨R_bk, "word", "()J"⟩
def w_bk_word : List Cond := .code y_bk_word b_bk_word 2 (Option.some Jvm.ClassFile.FieldType.long) :: lwB
abbrev b_bk_draftIsWord : ByteArray := prog_1_method_17_code
def y_bk_draftIsWord : MethodName := ⟨R_bk, "draftIsWord", "()Z"⟩
def w_bk_draftIsWord : List Cond := .code y_bk_draftIsWord b_bk_draftIsWord 2 (Option.some Jvm.ClassFile.FieldType.boolean) :: lwB
abbrev b_bk_copyDraftToAsked : ByteArray := prog_1_method_18_code
def y_bk_copyDraftToAsked : MethodName := ⟨R_bk, "copyDraftToAsked", "()V"⟩
def w_bk_copyDraftToAsked : List Cond := .code y_bk_copyDraftToAsked b_bk_copyDraftToAsked 2 (Option.none : Option Jvm.ClassFile.FieldType) :: lwB
abbrev b_tr_raiseNumbers : ByteArray := prog_4_method_7_code
def y_tr_raiseNumbers : MethodName := ⟨R_tr, "raiseNumbers", "(LHyphenBook$SignRow;)V"⟩
def w_tr_raiseNumbers : List Cond := .code y_tr_raiseNumbers b_tr_raiseNumbers 3 (Option.none : Option Jvm.ClassFile.FieldType) :: lwB
abbrev b_tr_raiseNumbersFrom : ByteArray := prog_4_method_8_code
def y_tr_raiseNumbersFrom : MethodName := ⟨R_tr, "raiseNumbersFrom", "(ILHyphenBook$SignRow;)V"⟩
def w_tr_raiseNumbersFrom : List Cond := .code y_tr_raiseNumbersFrom b_tr_raiseNumbersFrom 5 (Option.none : Option Jvm.ClassFile.FieldType) :: lwB
abbrev b_tr_raiseBetween : ByteArray := prog_4_method_9_code
def y_tr_raiseBetween : MethodName := ⟨R_tr, "raiseBetween", "(II[ILHyphenBook$SignRow;)V"⟩
def w_tr_raiseBetween : List Cond := .code y_tr_raiseBetween b_tr_raiseBetween 5 (Option.none : Option Jvm.ClassFile.FieldType) :: lwB
abbrev b_rw_raiseNumber : ByteArray := prog_3_method_8_code
def y_rw_raiseNumber : MethodName := ⟨R_rw, "raiseNumber", "(II)V"⟩
def w_rw_raiseNumber : List Cond := .code y_rw_raiseNumber b_rw_raiseNumber 3 (Option.none : Option Jvm.ClassFile.FieldType) :: lwB
abbrev b_bk_cutsOfAsked : ByteArray := prog_1_method_20_code
def y_bk_cutsOfAsked : MethodName := ⟨R_bk, "cutsOfAsked", "()J"⟩
def w_bk_cutsOfAsked : List Cond := .code y_bk_cutsOfAsked b_bk_cutsOfAsked 7 (Option.some Jvm.ClassFile.FieldType.long) :: lwB
abbrev b_md_init : ByteArray := prog_6_method_1_code
def y_md_init : MethodName := ⟨R_md, "<init>", "()V"⟩
def w_md_init : List Cond := .code y_md_init b_md_init 1 (Option.none : Option Jvm.ClassFile.FieldType) :: lwB
abbrev b_md_thrown : ByteArray := prog_6_method_2_code
def y_md_thrown : MethodName := ⟨R_md, "thrown", "()I"⟩
def w_md_thrown : List Cond := .code y_md_thrown b_md_thrown 1 (Option.some Jvm.ClassFile.FieldType.int) :: lwB
abbrev b_md_put : ByteArray := prog_6_method_4_code
def y_md_put : MethodName := ⟨R_md, "put", "(JI)Z"⟩
def w_md_put : List Cond := .code y_md_put b_md_put 5 (Option.some Jvm.ClassFile.FieldType.boolean) :: lwB
abbrev b_md_pattern : ByteArray := prog_6_method_9_code
def y_md_pattern : MethodName := ⟨R_md, "pattern", "()I"⟩
def w_md_pattern : List Cond := .code y_md_pattern b_md_pattern 6 (Option.some Jvm.ClassFile.FieldType.int) :: lwB
abbrev b_md_readPattern : ByteArray := prog_6_method_7_code
def y_md_readPattern : MethodName := ⟨R_md, "readPattern", "()I"⟩
def w_md_readPattern : List Cond := .code y_md_readPattern b_md_readPattern 7 (Option.some Jvm.ClassFile.FieldType.int) :: lwB
abbrev b_md_isLetter : ByteArray := prog_6_method_5_code
def y_md_isLetter : MethodName := ⟨R_md, "isLetter", "(I)Z"⟩
def w_md_isLetter : List Cond := .code y_md_isLetter b_md_isLetter 1 (Option.some Jvm.ClassFile.FieldType.boolean) :: lwB
abbrev b_md_isDigit : ByteArray := prog_6_method_6_code
def y_md_isDigit : MethodName := ⟨R_md, "isDigit", "(I)Z"⟩
def w_md_isDigit : List Cond := .code y_md_isDigit b_md_isDigit 1 (Option.some Jvm.ClassFile.FieldType.boolean) :: lwB
abbrev b_md_fails : ByteArray := prog_6_method_3_code
def y_md_fails : MethodName := ⟨R_md, "fails", "(I)I"⟩
def w_md_fails : List Cond := .code y_md_fails b_md_fails 2 (Option.some Jvm.ClassFile.FieldType.int) :: lwB
abbrev b_md_common : ByteArray := prog_6_method_8_code
def y_md_common : MethodName := ⟨R_md, "common", "(III)I"⟩
def w_md_common : List Cond := .code y_md_common b_md_common 5 (Option.some Jvm.ClassFile.FieldType.int) :: lwB
abbrev b_md_exception : ByteArray := prog_6_method_11_code
def y_md_exception : MethodName := ⟨R_md, "exception", "()I"⟩
def w_md_exception : List Cond := .code y_md_exception b_md_exception 6 (Option.some Jvm.ClassFile.FieldType.int) :: lwB
abbrev b_md_find : ByteArray := prog_6_method_10_code
def y_md_find : MethodName := ⟨R_md, "find", "(I)I"⟩
def w_md_find : List Cond := .code y_md_find b_md_find 5 (Option.some Jvm.ClassFile.FieldType.int) :: lwB
abbrev b_md_word : ByteArray := prog_6_method_13_code
def y_md_word : MethodName := ⟨R_md, "word", "()J"⟩
def w_md_word : List Cond := .code y_md_word b_md_word 7 (Option.some Jvm.ClassFile.FieldType.long) :: lwB
abbrev b_md_attempt : ByteArray := prog_6_method_12_code
def y_md_attempt : MethodName := ⟨R_md, "attempt", "(II)V"⟩
def w_md_attempt : List Cond := .code y_md_attempt b_md_attempt 6 (Option.none : Option Jvm.ClassFile.FieldType) :: lwB
abbrev b_md_least : ByteArray := prog_6_method_14_code
def y_md_least : MethodName := ⟨R_md, "least", "(II)Z"⟩
def w_md_least : List Cond := .code y_md_least b_md_least 3 (Option.some Jvm.ClassFile.FieldType.boolean) :: lwB
abbrev b_md_value : ByteArray := prog_6_method_15_code
def y_md_value : MethodName := ⟨R_md, "value", "(I)I"⟩
def w_md_value : List Cond := .code y_md_value b_md_value 2 (Option.some Jvm.ClassFile.FieldType.int) :: lwB
abbrev b_md_count : ByteArray := prog_6_method_16_code
def y_md_count : MethodName := ⟨R_md, "count", "(I)I"⟩
def w_md_count : List Cond := .code y_md_count b_md_count 2 (Option.some Jvm.ClassFile.FieldType.int) :: lwB
abbrev b_lw_law : ByteArray := code
def y_lw_law : MethodName := ⟨"HyphenBookLaw", "law", "([I)Z"⟩
end
section
/-! THE WORDS, each by its place in the tables -/
theorem wm_0 : (Jvm.Cond.initialized "HyphenBookLaw") ∈ lwB := lwB_t (k := 0) rfl rfl
theorem wm_1 : (Jvm.Cond.initialized "HyphenBook") ∈ lwB := lwB_t (k := 1) rfl rfl
theorem wm_2 : (Jvm.Cond.initialized "HyphenBook$SignTree") ∈ lwB := lwB_t (k := 2) rfl rfl
theorem wm_3 : (Jvm.Cond.initialized "HyphenBook$Node") ∈ lwB := lwB_t (k := 3) rfl rfl
theorem wm_4 : (Jvm.Cond.initialized "HyphenBook$SignRow") ∈ lwB := lwB_t (k := 4) rfl rfl
theorem wm_5 : (Jvm.Cond.initialized "HyphenBookModel") ∈ lwB := lwB_t (k := 5) rfl rfl
theorem wm_6 : (Jvm.Cond.initialized "java/util/Arrays") ∈ lwB := lwB_t (k := 6) rfl rfl
theorem wm_7 : (Jvm.Cond.initialized "java/lang/Throwable") ∈ lwB := lwB_t (k := 7) rfl rfl
theorem wm_8 : (Jvm.Cond.initialized "java/lang/Exception") ∈ lwB := lwB_t (k := 8) rfl rfl
theorem wm_9 : (Jvm.Cond.initialized "java/lang/RuntimeException") ∈ lwB := lwB_t (k := 9) rfl rfl
theorem wm_10 : (Jvm.Cond.initialized "java/lang/IllegalArgumentException") ∈ lwB := lwB_t (k := 10) rfl rfl
theorem wm_11 : (Jvm.Cond.initialized "java/lang/IllegalStateException") ∈ lwB := lwB_t (k := 11) rfl rfl
theorem wm_12 : (Jvm.Cond.classLink "HyphenBookLaw" (8 : Nat) "HyphenBook") ∈ lwB := lwB_t (k := 12) rfl rfl
theorem wm_13 : (Jvm.Cond.instantiable "HyphenBook" (8 : Nat)) ∈ lwB := lwB_t (k := 13) rfl rfl
theorem wm_14 : (Jvm.Cond.methodLink "HyphenBookLaw" (24 : Nat) ({ cls := "HyphenBook", name := "<init>", desc := "()V" } : Jvm.MethodName)) ∈ lwB := lwB_t (k := 14) rfl rfl
theorem wm_15 : (Jvm.Cond.instanceMethod ({ cls := "HyphenBook", name := "<init>", desc := "()V" } : Jvm.MethodName)) ∈ lwB := lwB_t (k := 15) rfl rfl
theorem wm_16 : (Jvm.Cond.code ({ cls := "HyphenBook", name := "<init>", desc := "()V" } : Jvm.MethodName) prog_1_method_1_code (1 : Nat) (Option.none : Option Jvm.ClassFile.FieldType)) ∈ lwB := lwB_t (k := 16) rfl rfl
theorem wm_17 : (Jvm.Cond.methodLink "HyphenBook" (3 : Nat) ({ cls := "java/lang/Object", name := "<init>", desc := "()V" } : Jvm.MethodName)) ∈ lwB := lwB_t (k := 17) rfl rfl
theorem wm_18 : (Jvm.Cond.instanceMethod ({ cls := "java/lang/Object", name := "<init>", desc := "()V" } : Jvm.MethodName)) ∈ lwB := lwB_t (k := 18) rfl rfl
theorem wm_19 : (Jvm.Cond.code ({ cls := "java/lang/Object", name := "<init>", desc := "()V" } : Jvm.MethodName) object_method_1_code (1 : Nat) (Option.none : Option Jvm.ClassFile.FieldType)) ∈ lwB := lwB_t (k := 19) rfl rfl
theorem wm_20 : (Jvm.Cond.classLink "HyphenBook" (23 : Nat) "HyphenBook$SignTree") ∈ lwB := lwB_t (k := 20) rfl rfl
theorem wm_21 : (Jvm.Cond.instantiable "HyphenBook$SignTree" (3 : Nat)) ∈ lwB := lwB_t (k := 21) rfl rfl
theorem wm_23 : (Jvm.Cond.instanceMethod ({ cls := "HyphenBook$SignTree", name := "<init>", desc := "()V" } : Jvm.MethodName)) ∈ lwB := lwB_t (k := 23) rfl rfl
theorem wm_24 : (Jvm.Cond.code ({ cls := "HyphenBook$SignTree", name := "<init>", desc := "()V" } : Jvm.MethodName) prog_4_method_1_code (1 : Nat) (Option.none : Option Jvm.ClassFile.FieldType)) ∈ lwB := lwB_t (k := 24) rfl rfl
theorem wm_25 : (Jvm.Cond.methodLink "HyphenBook$SignTree" (1 : Nat) ({ cls := "java/lang/Object", name := "<init>", desc := "()V" } : Jvm.MethodName)) ∈ lwB := lwB_t (k := 25) rfl rfl
theorem wm_26 : (Jvm.Cond.classLink "HyphenBook$SignTree" (7 : Nat) "HyphenBook$Node") ∈ lwB := lwB_t (k := 26) rfl rfl
theorem wm_27 : (Jvm.Cond.instantiable "HyphenBook$Node" (4 : Nat)) ∈ lwB := lwB_t (k := 27) rfl rfl
theorem wm_28 : (Jvm.Cond.methodLink "HyphenBook$SignTree" (9 : Nat) ({ cls := "HyphenBook$Node", name := "<init>", desc := "(I)V" } : Jvm.MethodName)) ∈ lwB := lwB_t (k := 28) rfl rfl
theorem wm_29 : (Jvm.Cond.instanceMethod ({ cls := "HyphenBook$Node", name := "<init>", desc := "(I)V" } : Jvm.MethodName)) ∈ lwB := lwB_t (k := 29) rfl rfl
theorem wm_30 : (Jvm.Cond.code ({ cls := "HyphenBook$Node", name := "<init>", desc := "(I)V" } : Jvm.MethodName) prog_2_method_1_code (2 : Nat) (Option.none : Option Jvm.ClassFile.FieldType)) ∈ lwB := lwB_t (k := 30) rfl rfl
theorem wm_31 : (Jvm.Cond.methodLink "HyphenBook$Node" (1 : Nat) ({ cls := "java/lang/Object", name := "<init>", desc := "()V" } : Jvm.MethodName)) ∈ lwB := lwB_t (k := 31) rfl rfl
theorem wm_32 : (Jvm.Cond.fieldLink "HyphenBook$Node" (20 : Nat) "HyphenBook$Node" "sign" "I") ∈ lwB := lwB_t (k := 32) rfl rfl
theorem wm_33 : (Jvm.Cond.fieldLink "HyphenBook$Node" (7 : Nat) "HyphenBook$Node" "firstChild" "LHyphenBook$Node;") ∈ lwB := lwB_t (k := 33) rfl rfl
theorem wm_34 : (Jvm.Cond.fieldLink "HyphenBook$Node" (13 : Nat) "HyphenBook$Node" "nextSibling" "LHyphenBook$Node;") ∈ lwB := lwB_t (k := 34) rfl rfl
theorem wm_35 : (Jvm.Cond.fieldLink "HyphenBook$Node" (16 : Nat) "HyphenBook$Node" "numbers" "[I") ∈ lwB := lwB_t (k := 35) rfl rfl
theorem wm_37 : (Jvm.Cond.laysFinal "HyphenBook$Node" "HyphenBook$Node" "sign" "I") ∈ lwB := lwB_t (k := 37) rfl rfl
theorem wm_39 : (Jvm.Cond.lays "HyphenBook$Node" "HyphenBook$Node" "firstChild" "LHyphenBook$Node;") ∈ lwB := lwB_t (k := 39) rfl rfl
theorem wm_41 : (Jvm.Cond.lays "HyphenBook$Node" "HyphenBook$Node" "nextSibling" "LHyphenBook$Node;") ∈ lwB := lwB_t (k := 41) rfl rfl
theorem wm_43 : (Jvm.Cond.lays "HyphenBook$Node" "HyphenBook$Node" "numbers" "[I") ∈ lwB := lwB_t (k := 43) rfl rfl
theorem wm_45 : (Jvm.Cond.superclass "HyphenBook$Node" "java/lang/Object") ∈ lwB := lwB_t (k := 45) rfl rfl
theorem wm_46 : (Jvm.Cond.arrayClass Jvm.ClassFile.FieldType.int) ∈ lwB := lwB_t (k := 46) rfl rfl
theorem wm_47 : (Jvm.Cond.fieldLink "HyphenBook$SignTree" (12 : Nat) "HyphenBook$SignTree" "root" "LHyphenBook$Node;") ∈ lwB := lwB_t (k := 47) rfl rfl
theorem wm_48 : (Jvm.Cond.fieldLink "HyphenBook$SignTree" (18 : Nat) "HyphenBook$SignTree" "entries" "I") ∈ lwB := lwB_t (k := 48) rfl rfl
theorem wm_49 : (Jvm.Cond.fieldLink "HyphenBook$SignTree" (22 : Nat) "HyphenBook$SignTree" "beginnings" "I") ∈ lwB := lwB_t (k := 49) rfl rfl
theorem wm_50 : (Jvm.Cond.laysFinal "HyphenBook$SignTree" "HyphenBook$SignTree" "root" "LHyphenBook$Node;") ∈ lwB := lwB_t (k := 50) rfl rfl
theorem wm_52 : (Jvm.Cond.lays "HyphenBook$SignTree" "HyphenBook$SignTree" "entries" "I") ∈ lwB := lwB_t (k := 52) rfl rfl
theorem wm_54 : (Jvm.Cond.lays "HyphenBook$SignTree" "HyphenBook$SignTree" "beginnings" "I") ∈ lwB := lwB_t (k := 54) rfl rfl
theorem wm_56 : (Jvm.Cond.superclass "HyphenBook$SignTree" "java/lang/Object") ∈ lwB := lwB_t (k := 56) rfl rfl
theorem wm_57 : (Jvm.Cond.classLink "HyphenBook" (33 : Nat) "HyphenBook$SignRow") ∈ lwB := lwB_t (k := 57) rfl rfl
theorem wm_58 : (Jvm.Cond.instantiable "HyphenBook$SignRow" (3 : Nat)) ∈ lwB := lwB_t (k := 58) rfl rfl
theorem wm_60 : (Jvm.Cond.instanceMethod ({ cls := "HyphenBook$SignRow", name := "<init>", desc := "()V" } : Jvm.MethodName)) ∈ lwB := lwB_t (k := 60) rfl rfl
theorem wm_61 : (Jvm.Cond.code ({ cls := "HyphenBook$SignRow", name := "<init>", desc := "()V" } : Jvm.MethodName) prog_3_method_1_code (1 : Nat) (Option.none : Option Jvm.ClassFile.FieldType)) ∈ lwB := lwB_t (k := 61) rfl rfl
theorem wm_62 : (Jvm.Cond.methodLink "HyphenBook$SignRow" (3 : Nat) ({ cls := "java/lang/Object", name := "<init>", desc := "()V" } : Jvm.MethodName)) ∈ lwB := lwB_t (k := 62) rfl rfl
theorem wm_63 : (Jvm.Cond.fieldLink "HyphenBook$SignRow" (9 : Nat) "HyphenBook$SignRow" "signs" "[I") ∈ lwB := lwB_t (k := 63) rfl rfl
theorem wm_64 : (Jvm.Cond.fieldLink "HyphenBook$SignRow" (15 : Nat) "HyphenBook$SignRow" "numbers" "[I") ∈ lwB := lwB_t (k := 64) rfl rfl
theorem wm_65 : (Jvm.Cond.fieldLink "HyphenBook$SignRow" (18 : Nat) "HyphenBook$SignRow" "size" "I") ∈ lwB := lwB_t (k := 65) rfl rfl
theorem wm_66 : (Jvm.Cond.laysFinal "HyphenBook$SignRow" "HyphenBook$SignRow" "signs" "[I") ∈ lwB := lwB_t (k := 66) rfl rfl
theorem wm_68 : (Jvm.Cond.laysFinal "HyphenBook$SignRow" "HyphenBook$SignRow" "numbers" "[I") ∈ lwB := lwB_t (k := 68) rfl rfl
theorem wm_70 : (Jvm.Cond.lays "HyphenBook$SignRow" "HyphenBook$SignRow" "size" "I") ∈ lwB := lwB_t (k := 70) rfl rfl
theorem wm_72 : (Jvm.Cond.superclass "HyphenBook$SignRow" "java/lang/Object") ∈ lwB := lwB_t (k := 72) rfl rfl
theorem wm_73 : (Jvm.Cond.fieldLink "HyphenBook" (9 : Nat) "HyphenBook" "draft" "[I") ∈ lwB := lwB_t (k := 73) rfl rfl
theorem wm_74 : (Jvm.Cond.fieldLink "HyphenBook" (13 : Nat) "HyphenBook" "drafted" "I") ∈ lwB := lwB_t (k := 74) rfl rfl
theorem wm_75 : (Jvm.Cond.fieldLink "HyphenBook" (17 : Nat) "HyphenBook" "left" "I") ∈ lwB := lwB_t (k := 75) rfl rfl
theorem wm_76 : (Jvm.Cond.fieldLink "HyphenBook" (20 : Nat) "HyphenBook" "right" "I") ∈ lwB := lwB_t (k := 76) rfl rfl
theorem wm_77 : (Jvm.Cond.fieldLink "HyphenBook" (26 : Nat) "HyphenBook" "patterns" "LHyphenBook$SignTree;") ∈ lwB := lwB_t (k := 77) rfl rfl
theorem wm_78 : (Jvm.Cond.fieldLink "HyphenBook" (30 : Nat) "HyphenBook" "exceptions" "LHyphenBook$SignTree;") ∈ lwB := lwB_t (k := 78) rfl rfl
theorem wm_79 : (Jvm.Cond.fieldLink "HyphenBook" (36 : Nat) "HyphenBook" "read" "LHyphenBook$SignRow;") ∈ lwB := lwB_t (k := 79) rfl rfl
theorem wm_80 : (Jvm.Cond.fieldLink "HyphenBook" (40 : Nat) "HyphenBook" "asked" "LHyphenBook$SignRow;") ∈ lwB := lwB_t (k := 80) rfl rfl
theorem wm_81 : (Jvm.Cond.laysFinal "HyphenBook" "HyphenBook" "draft" "[I") ∈ lwB := lwB_t (k := 81) rfl rfl
theorem wm_83 : (Jvm.Cond.lays "HyphenBook" "HyphenBook" "drafted" "I") ∈ lwB := lwB_t (k := 83) rfl rfl
theorem wm_85 : (Jvm.Cond.lays "HyphenBook" "HyphenBook" "left" "I") ∈ lwB := lwB_t (k := 85) rfl rfl
theorem wm_87 : (Jvm.Cond.lays "HyphenBook" "HyphenBook" "right" "I") ∈ lwB := lwB_t (k := 87) rfl rfl
theorem wm_89 : (Jvm.Cond.laysFinal "HyphenBook" "HyphenBook" "patterns" "LHyphenBook$SignTree;") ∈ lwB := lwB_t (k := 89) rfl rfl
theorem wm_91 : (Jvm.Cond.laysFinal "HyphenBook" "HyphenBook" "exceptions" "LHyphenBook$SignTree;") ∈ lwB := lwB_t (k := 91) rfl rfl
theorem wm_93 : (Jvm.Cond.laysFinal "HyphenBook" "HyphenBook" "read" "LHyphenBook$SignRow;") ∈ lwB := lwB_t (k := 93) rfl rfl
theorem wm_95 : (Jvm.Cond.laysFinal "HyphenBook" "HyphenBook" "asked" "LHyphenBook$SignRow;") ∈ lwB := lwB_t (k := 95) rfl rfl
theorem wm_97 : (Jvm.Cond.superclass "HyphenBook" "java/lang/Object") ∈ lwB := lwB_t (k := 97) rfl rfl
theorem wm_98 : (Jvm.Cond.methodLink "HyphenBookLaw" (30 : Nat) ({ cls := "HyphenBook", name := "put", desc := "(JI)Z" } : Jvm.MethodName)) ∈ lwB := lwB_t (k := 98) rfl rfl
theorem wm_99 : (Jvm.Cond.instanceMethod ({ cls := "HyphenBook", name := "put", desc := "(JI)Z" } : Jvm.MethodName)) ∈ lwB := lwB_t (k := 99) rfl rfl
theorem wm_100 : (Jvm.Cond.selects "HyphenBook" ({ cls := "HyphenBook", name := "put", desc := "(JI)Z" } : Jvm.MethodName) ({ cls := "HyphenBook", name := "put", desc := "(JI)Z" } : Jvm.MethodName)) ∈ lwB := lwB_t (k := 100) rfl rfl
theorem wm_101 : (Jvm.Cond.code ({ cls := "HyphenBook", name := "put", desc := "(JI)Z" } : Jvm.MethodName) prog_1_method_2_code (5 : Nat) (Option.some Jvm.ClassFile.FieldType.boolean)) ∈ lwB := lwB_t (k := 101) rfl rfl
theorem wm_102 : (Jvm.Cond.methodLink "HyphenBookLaw" (50 : Nat) ({ cls := "HyphenBook", name := "least", desc := "(II)Z" } : Jvm.MethodName)) ∈ lwB := lwB_t (k := 102) rfl rfl
theorem wm_103 : (Jvm.Cond.instanceMethod ({ cls := "HyphenBook", name := "least", desc := "(II)Z" } : Jvm.MethodName)) ∈ lwB := lwB_t (k := 103) rfl rfl
theorem wm_104 : (Jvm.Cond.selects "HyphenBook" ({ cls := "HyphenBook", name := "least", desc := "(II)Z" } : Jvm.MethodName) ({ cls := "HyphenBook", name := "least", desc := "(II)Z" } : Jvm.MethodName)) ∈ lwB := lwB_t (k := 104) rfl rfl
theorem wm_105 : (Jvm.Cond.code ({ cls := "HyphenBook", name := "least", desc := "(II)Z" } : Jvm.MethodName) prog_1_method_6_code (3 : Nat) (Option.some Jvm.ClassFile.FieldType.boolean)) ∈ lwB := lwB_t (k := 105) rfl rfl
theorem wm_106 : (Jvm.Cond.methodLink "HyphenBookLaw" (55 : Nat) ({ cls := "HyphenBook", name := "value", desc := "(I)I" } : Jvm.MethodName)) ∈ lwB := lwB_t (k := 106) rfl rfl
theorem wm_107 : (Jvm.Cond.instanceMethod ({ cls := "HyphenBook", name := "value", desc := "(I)I" } : Jvm.MethodName)) ∈ lwB := lwB_t (k := 107) rfl rfl
theorem wm_108 : (Jvm.Cond.selects "HyphenBook" ({ cls := "HyphenBook", name := "value", desc := "(I)I" } : Jvm.MethodName) ({ cls := "HyphenBook", name := "value", desc := "(I)I" } : Jvm.MethodName)) ∈ lwB := lwB_t (k := 108) rfl rfl
theorem wm_109 : (Jvm.Cond.code ({ cls := "HyphenBook", name := "value", desc := "(I)I" } : Jvm.MethodName) prog_1_method_7_code (2 : Nat) (Option.some Jvm.ClassFile.FieldType.int)) ∈ lwB := lwB_t (k := 109) rfl rfl
theorem wm_110 : (Jvm.Cond.methodLink "HyphenBook" (102 : Nat) ({ cls := "HyphenBook", name := "lettersOfAsked", desc := "()I" } : Jvm.MethodName)) ∈ lwB := lwB_t (k := 110) rfl rfl
theorem wm_112 : (Jvm.Cond.instanceMethod ({ cls := "HyphenBook", name := "lettersOfAsked", desc := "()I" } : Jvm.MethodName)) ∈ lwB := lwB_t (k := 112) rfl rfl
theorem wm_113 : (Jvm.Cond.code ({ cls := "HyphenBook", name := "lettersOfAsked", desc := "()I" } : Jvm.MethodName) prog_1_method_19_code (1 : Nat) (Option.some Jvm.ClassFile.FieldType.int)) ∈ lwB := lwB_t (k := 113) rfl rfl
theorem wm_114 : (Jvm.Cond.methodLink "HyphenBook" (126 : Nat) ({ cls := "HyphenBook$SignRow", name := "size", desc := "()I" } : Jvm.MethodName)) ∈ lwB := lwB_t (k := 114) rfl rfl
theorem wm_115 : (Jvm.Cond.instanceMethod ({ cls := "HyphenBook$SignRow", name := "size", desc := "()I" } : Jvm.MethodName)) ∈ lwB := lwB_t (k := 115) rfl rfl
theorem wm_116 : (Jvm.Cond.selects "HyphenBook$SignRow" ({ cls := "HyphenBook$SignRow", name := "size", desc := "()I" } : Jvm.MethodName) ({ cls := "HyphenBook$SignRow", name := "size", desc := "()I" } : Jvm.MethodName)) ∈ lwB := lwB_t (k := 116) rfl rfl
theorem wm_117 : (Jvm.Cond.code ({ cls := "HyphenBook$SignRow", name := "size", desc := "()I" } : Jvm.MethodName) prog_3_method_2_code (1 : Nat) (Option.some Jvm.ClassFile.FieldType.int)) ∈ lwB := lwB_t (k := 117) rfl rfl
theorem wm_118 : (Jvm.Cond.methodLink "HyphenBook" (105 : Nat) ({ cls := "HyphenBook", name := "placeBehind", desc := "(I)I" } : Jvm.MethodName)) ∈ lwB := lwB_t (k := 118) rfl rfl
theorem wm_119 : (Jvm.Cond.static ({ cls := "HyphenBook", name := "placeBehind", desc := "(I)I" } : Jvm.MethodName)) ∈ lwB := lwB_t (k := 119) rfl rfl
theorem wm_120 : (Jvm.Cond.code ({ cls := "HyphenBook", name := "placeBehind", desc := "(I)I" } : Jvm.MethodName) prog_1_method_11_code (1 : Nat) (Option.some Jvm.ClassFile.FieldType.int)) ∈ lwB := lwB_t (k := 120) rfl rfl
theorem wm_121 : (Jvm.Cond.methodLink "HyphenBook" (109 : Nat) ({ cls := "HyphenBook$SignRow", name := "numberAt", desc := "(I)I" } : Jvm.MethodName)) ∈ lwB := lwB_t (k := 121) rfl rfl
theorem wm_122 : (Jvm.Cond.instanceMethod ({ cls := "HyphenBook$SignRow", name := "numberAt", desc := "(I)I" } : Jvm.MethodName)) ∈ lwB := lwB_t (k := 122) rfl rfl
theorem wm_123 : (Jvm.Cond.selects "HyphenBook$SignRow" ({ cls := "HyphenBook$SignRow", name := "numberAt", desc := "(I)I" } : Jvm.MethodName) ({ cls := "HyphenBook$SignRow", name := "numberAt", desc := "(I)I" } : Jvm.MethodName)) ∈ lwB := lwB_t (k := 123) rfl rfl
theorem wm_124 : (Jvm.Cond.code ({ cls := "HyphenBook$SignRow", name := "numberAt", desc := "(I)I" } : Jvm.MethodName) prog_3_method_6_code (2 : Nat) (Option.some Jvm.ClassFile.FieldType.int)) ∈ lwB := lwB_t (k := 124) rfl rfl
theorem wm_126 : (Jvm.Cond.static ({ cls := "HyphenBook", name := "elementAt", desc := "([II)I" } : Jvm.MethodName)) ∈ lwB := lwB_t (k := 126) rfl rfl
theorem wm_127 : (Jvm.Cond.code ({ cls := "HyphenBook", name := "elementAt", desc := "([II)I" } : Jvm.MethodName) prog_1_method_12_code (2 : Nat) (Option.some Jvm.ClassFile.FieldType.int)) ∈ lwB := lwB_t (k := 127) rfl rfl
theorem wm_128 : (Jvm.Cond.methodLink "HyphenBookLaw" (60 : Nat) ({ cls := "HyphenBook", name := "count", desc := "(I)I" } : Jvm.MethodName)) ∈ lwB := lwB_t (k := 128) rfl rfl
theorem wm_129 : (Jvm.Cond.instanceMethod ({ cls := "HyphenBook", name := "count", desc := "(I)I" } : Jvm.MethodName)) ∈ lwB := lwB_t (k := 129) rfl rfl
theorem wm_130 : (Jvm.Cond.selects "HyphenBook" ({ cls := "HyphenBook", name := "count", desc := "(I)I" } : Jvm.MethodName) ({ cls := "HyphenBook", name := "count", desc := "(I)I" } : Jvm.MethodName)) ∈ lwB := lwB_t (k := 130) rfl rfl
theorem wm_131 : (Jvm.Cond.code ({ cls := "HyphenBook", name := "count", desc := "(I)I" } : Jvm.MethodName) prog_1_method_8_code (2 : Nat) (Option.some Jvm.ClassFile.FieldType.int)) ∈ lwB := lwB_t (k := 131) rfl rfl
theorem wm_132 : (Jvm.Cond.methodLink "HyphenBook" (63 : Nat) ({ cls := "HyphenBook$SignTree", name := "entries", desc := "()I" } : Jvm.MethodName)) ∈ lwB := lwB_t (k := 132) rfl rfl
theorem wm_133 : (Jvm.Cond.instanceMethod ({ cls := "HyphenBook$SignTree", name := "entries", desc := "()I" } : Jvm.MethodName)) ∈ lwB := lwB_t (k := 133) rfl rfl
theorem wm_134 : (Jvm.Cond.selects "HyphenBook$SignTree" ({ cls := "HyphenBook$SignTree", name := "entries", desc := "()I" } : Jvm.MethodName) ({ cls := "HyphenBook$SignTree", name := "entries", desc := "()I" } : Jvm.MethodName)) ∈ lwB := lwB_t (k := 134) rfl rfl
theorem wm_135 : (Jvm.Cond.code ({ cls := "HyphenBook$SignTree", name := "entries", desc := "()I" } : Jvm.MethodName) prog_4_method_2_code (1 : Nat) (Option.some Jvm.ClassFile.FieldType.int)) ∈ lwB := lwB_t (k := 135) rfl rfl
theorem wm_136 : (Jvm.Cond.methodLink "HyphenBook" (112 : Nat) ({ cls := "HyphenBook$SignTree", name := "beginnings", desc := "()I" } : Jvm.MethodName)) ∈ lwB := lwB_t (k := 136) rfl rfl
theorem wm_137 : (Jvm.Cond.instanceMethod ({ cls := "HyphenBook$SignTree", name := "beginnings", desc := "()I" } : Jvm.MethodName)) ∈ lwB := lwB_t (k := 137) rfl rfl
theorem wm_138 : (Jvm.Cond.selects "HyphenBook$SignTree" ({ cls := "HyphenBook$SignTree", name := "beginnings", desc := "()I" } : Jvm.MethodName) ({ cls := "HyphenBook$SignTree", name := "beginnings", desc := "()I" } : Jvm.MethodName)) ∈ lwB := lwB_t (k := 138) rfl rfl
theorem wm_139 : (Jvm.Cond.code ({ cls := "HyphenBook$SignTree", name := "beginnings", desc := "()I" } : Jvm.MethodName) prog_4_method_3_code (1 : Nat) (Option.some Jvm.ClassFile.FieldType.int)) ∈ lwB := lwB_t (k := 139) rfl rfl
theorem wm_140 : (Jvm.Cond.methodLink "HyphenBookLaw" (35 : Nat) ({ cls := "HyphenBookLaw", name := "pattern", desc := "(LHyphenBook;[J)I" } : Jvm.MethodName)) ∈ lwB := lwB_t (k := 140) rfl rfl
theorem wm_141 : (Jvm.Cond.static ({ cls := "HyphenBookLaw", name := "pattern", desc := "(LHyphenBook;[J)I" } : Jvm.MethodName)) ∈ lwB := lwB_t (k := 141) rfl rfl
theorem wm_142 : (Jvm.Cond.codeWith ({ cls := "HyphenBookLaw", name := "pattern", desc := "(LHyphenBook;[J)I" } : Jvm.MethodName) method_3_code (3 : Nat) (Option.some Jvm.ClassFile.FieldType.int) [((0 : Nat), (8 : Nat), (11 : Nat), (13 : Nat)), ((0 : Nat), (8 : Nat), (14 : Nat), (15 : Nat))]) ∈ lwB := lwB_t (k := 142) rfl rfl
theorem wm_143 : (Jvm.Cond.classLink "HyphenBookLaw" (13 : Nat) "java/lang/IllegalArgumentException") ∈ lwB := lwB_t (k := 143) rfl rfl
theorem wm_144 : (Jvm.Cond.classLink "HyphenBookLaw" (15 : Nat) "java/lang/IllegalStateException") ∈ lwB := lwB_t (k := 144) rfl rfl
theorem wm_145 : (Jvm.Cond.methodLink "HyphenBookLaw" (7 : Nat) ({ cls := "HyphenBook", name := "pattern", desc := "()I" } : Jvm.MethodName)) ∈ lwB := lwB_t (k := 145) rfl rfl
theorem wm_146 : (Jvm.Cond.instanceMethod ({ cls := "HyphenBook", name := "pattern", desc := "()I" } : Jvm.MethodName)) ∈ lwB := lwB_t (k := 146) rfl rfl
theorem wm_147 : (Jvm.Cond.selects "HyphenBook" ({ cls := "HyphenBook", name := "pattern", desc := "()I" } : Jvm.MethodName) ({ cls := "HyphenBook", name := "pattern", desc := "()I" } : Jvm.MethodName)) ∈ lwB := lwB_t (k := 147) rfl rfl
theorem wm_148 : (Jvm.Cond.code ({ cls := "HyphenBook", name := "pattern", desc := "()I" } : Jvm.MethodName) prog_1_method_3_code (2 : Nat) (Option.some Jvm.ClassFile.FieldType.int)) ∈ lwB := lwB_t (k := 148) rfl rfl
theorem wm_149 : (Jvm.Cond.methodLink "HyphenBook" (43 : Nat) ({ cls := "HyphenBook", name := "readPattern", desc := "()Z" } : Jvm.MethodName)) ∈ lwB := lwB_t (k := 149) rfl rfl
theorem wm_151 : (Jvm.Cond.instanceMethod ({ cls := "HyphenBook", name := "readPattern", desc := "()Z" } : Jvm.MethodName)) ∈ lwB := lwB_t (k := 151) rfl rfl
theorem wm_152 : (Jvm.Cond.code ({ cls := "HyphenBook", name := "readPattern", desc := "()Z" } : Jvm.MethodName) prog_1_method_13_code (4 : Nat) (Option.some Jvm.ClassFile.FieldType.boolean)) ∈ lwB := lwB_t (k := 152) rfl rfl
theorem wm_153 : (Jvm.Cond.methodLink "HyphenBook" (115 : Nat) ({ cls := "HyphenBook$SignRow", name := "clear", desc := "()V" } : Jvm.MethodName)) ∈ lwB := lwB_t (k := 153) rfl rfl
theorem wm_154 : (Jvm.Cond.instanceMethod ({ cls := "HyphenBook$SignRow", name := "clear", desc := "()V" } : Jvm.MethodName)) ∈ lwB := lwB_t (k := 154) rfl rfl
theorem wm_155 : (Jvm.Cond.selects "HyphenBook$SignRow" ({ cls := "HyphenBook$SignRow", name := "clear", desc := "()V" } : Jvm.MethodName) ({ cls := "HyphenBook$SignRow", name := "clear", desc := "()V" } : Jvm.MethodName)) ∈ lwB := lwB_t (k := 155) rfl rfl
theorem wm_156 : (Jvm.Cond.code ({ cls := "HyphenBook$SignRow", name := "clear", desc := "()V" } : Jvm.MethodName) prog_3_method_3_code (1 : Nat) (Option.none : Option Jvm.ClassFile.FieldType)) ∈ lwB := lwB_t (k := 156) rfl rfl
theorem wm_157 : (Jvm.Cond.methodLink "HyphenBook$SignRow" (22 : Nat) ({ cls := "java/util/Arrays", name := "fill", desc := "([II)V" } : Jvm.MethodName)) ∈ lwB := lwB_t (k := 157) rfl rfl
theorem wm_158 : (Jvm.Cond.static ({ cls := "java/util/Arrays", name := "fill", desc := "([II)V" } : Jvm.MethodName)) ∈ lwB := lwB_t (k := 158) rfl rfl
theorem wm_159 : (Jvm.Cond.code ({ cls := "java/util/Arrays", name := "fill", desc := "([II)V" } : Jvm.MethodName) prog_14_method_103_code (4 : Nat) (Option.none : Option Jvm.ClassFile.FieldType)) ∈ lwB := lwB_t (k := 159) rfl rfl
theorem wm_160 : (Jvm.Cond.methodLink "HyphenBook" (118 : Nat) ({ cls := "HyphenBook", name := "elementAt", desc := "([II)I" } : Jvm.MethodName)) ∈ lwB := lwB_t (k := 160) rfl rfl
theorem wm_161 : (Jvm.Cond.methodLink "HyphenBook" (122 : Nat) ({ cls := "HyphenBook", name := "isDigit", desc := "(I)Z" } : Jvm.MethodName)) ∈ lwB := lwB_t (k := 161) rfl rfl
theorem wm_162 : (Jvm.Cond.static ({ cls := "HyphenBook", name := "isDigit", desc := "(I)Z" } : Jvm.MethodName)) ∈ lwB := lwB_t (k := 162) rfl rfl
theorem wm_163 : (Jvm.Cond.code ({ cls := "HyphenBook", name := "isDigit", desc := "(I)Z" } : Jvm.MethodName) prog_1_method_10_code (1 : Nat) (Option.some Jvm.ClassFile.FieldType.boolean)) ∈ lwB := lwB_t (k := 163) rfl rfl
theorem wm_164 : (Jvm.Cond.methodLink "HyphenBook" (129 : Nat) ({ cls := "HyphenBook$SignRow", name := "setNumber", desc := "(II)V" } : Jvm.MethodName)) ∈ lwB := lwB_t (k := 164) rfl rfl
theorem wm_165 : (Jvm.Cond.instanceMethod ({ cls := "HyphenBook$SignRow", name := "setNumber", desc := "(II)V" } : Jvm.MethodName)) ∈ lwB := lwB_t (k := 165) rfl rfl
theorem wm_166 : (Jvm.Cond.selects "HyphenBook$SignRow" ({ cls := "HyphenBook$SignRow", name := "setNumber", desc := "(II)V" } : Jvm.MethodName) ({ cls := "HyphenBook$SignRow", name := "setNumber", desc := "(II)V" } : Jvm.MethodName)) ∈ lwB := lwB_t (k := 166) rfl rfl
theorem wm_167 : (Jvm.Cond.code ({ cls := "HyphenBook$SignRow", name := "setNumber", desc := "(II)V" } : Jvm.MethodName) prog_3_method_7_code (3 : Nat) (Option.none : Option Jvm.ClassFile.FieldType)) ∈ lwB := lwB_t (k := 167) rfl rfl
theorem wm_168 : (Jvm.Cond.methodLink "HyphenBook" (133 : Nat) ({ cls := "HyphenBook", name := "isLetter", desc := "(I)Z" } : Jvm.MethodName)) ∈ lwB := lwB_t (k := 168) rfl rfl
theorem wm_169 : (Jvm.Cond.static ({ cls := "HyphenBook", name := "isLetter", desc := "(I)Z" } : Jvm.MethodName)) ∈ lwB := lwB_t (k := 169) rfl rfl
theorem wm_170 : (Jvm.Cond.code ({ cls := "HyphenBook", name := "isLetter", desc := "(I)Z" } : Jvm.MethodName) prog_1_method_9_code (1 : Nat) (Option.some Jvm.ClassFile.FieldType.boolean)) ∈ lwB := lwB_t (k := 170) rfl rfl
theorem wm_171 : (Jvm.Cond.methodLink "HyphenBook" (136 : Nat) ({ cls := "HyphenBook$SignRow", name := "append", desc := "(I)Z" } : Jvm.MethodName)) ∈ lwB := lwB_t (k := 171) rfl rfl
theorem wm_172 : (Jvm.Cond.instanceMethod ({ cls := "HyphenBook$SignRow", name := "append", desc := "(I)Z" } : Jvm.MethodName)) ∈ lwB := lwB_t (k := 172) rfl rfl
theorem wm_173 : (Jvm.Cond.selects "HyphenBook$SignRow" ({ cls := "HyphenBook$SignRow", name := "append", desc := "(I)Z" } : Jvm.MethodName) ({ cls := "HyphenBook$SignRow", name := "append", desc := "(I)Z" } : Jvm.MethodName)) ∈ lwB := lwB_t (k := 173) rfl rfl
theorem wm_174 : (Jvm.Cond.code ({ cls := "HyphenBook$SignRow", name := "append", desc := "(I)Z" } : Jvm.MethodName) prog_3_method_4_code (2 : Nat) (Option.some Jvm.ClassFile.FieldType.boolean)) ∈ lwB := lwB_t (k := 174) rfl rfl
theorem wm_175 : (Jvm.Cond.methodLink "HyphenBook" (139 : Nat) ({ cls := "HyphenBook", name := "dropNumbersOutsideEdges", desc := "()V" } : Jvm.MethodName)) ∈ lwB := lwB_t (k := 175) rfl rfl
theorem wm_177 : (Jvm.Cond.instanceMethod ({ cls := "HyphenBook", name := "dropNumbersOutsideEdges", desc := "()V" } : Jvm.MethodName)) ∈ lwB := lwB_t (k := 177) rfl rfl
theorem wm_178 : (Jvm.Cond.code ({ cls := "HyphenBook", name := "dropNumbersOutsideEdges", desc := "()V" } : Jvm.MethodName) prog_1_method_14_code (1 : Nat) (Option.none : Option Jvm.ClassFile.FieldType)) ∈ lwB := lwB_t (k := 178) rfl rfl
theorem wm_179 : (Jvm.Cond.methodLink "HyphenBook" (145 : Nat) ({ cls := "HyphenBook$SignRow", name := "signAt", desc := "(I)I" } : Jvm.MethodName)) ∈ lwB := lwB_t (k := 179) rfl rfl
theorem wm_180 : (Jvm.Cond.instanceMethod ({ cls := "HyphenBook$SignRow", name := "signAt", desc := "(I)I" } : Jvm.MethodName)) ∈ lwB := lwB_t (k := 180) rfl rfl
theorem wm_181 : (Jvm.Cond.selects "HyphenBook$SignRow" ({ cls := "HyphenBook$SignRow", name := "signAt", desc := "(I)I" } : Jvm.MethodName) ({ cls := "HyphenBook$SignRow", name := "signAt", desc := "(I)I" } : Jvm.MethodName)) ∈ lwB := lwB_t (k := 181) rfl rfl
theorem wm_182 : (Jvm.Cond.code ({ cls := "HyphenBook$SignRow", name := "signAt", desc := "(I)I" } : Jvm.MethodName) prog_3_method_5_code (2 : Nat) (Option.some Jvm.ClassFile.FieldType.int)) ∈ lwB := lwB_t (k := 182) rfl rfl
theorem wm_183 : (Jvm.Cond.methodLink "HyphenBook" (142 : Nat) ({ cls := "HyphenBook", name := "signsReadMakeAPattern", desc := "()Z" } : Jvm.MethodName)) ∈ lwB := lwB_t (k := 183) rfl rfl
theorem wm_185 : (Jvm.Cond.instanceMethod ({ cls := "HyphenBook", name := "signsReadMakeAPattern", desc := "()Z" } : Jvm.MethodName)) ∈ lwB := lwB_t (k := 185) rfl rfl
theorem wm_186 : (Jvm.Cond.code ({ cls := "HyphenBook", name := "signsReadMakeAPattern", desc := "()Z" } : Jvm.MethodName) prog_1_method_15_code (3 : Nat) (Option.some Jvm.ClassFile.FieldType.boolean)) ∈ lwB := lwB_t (k := 186) rfl rfl
theorem wm_187 : (Jvm.Cond.classLink "HyphenBook" (47 : Nat) "java/lang/IllegalArgumentException") ∈ lwB := lwB_t (k := 187) rfl rfl
theorem wm_188 : (Jvm.Cond.instantiable "java/lang/IllegalArgumentException" (6 : Nat)) ∈ lwB := lwB_t (k := 188) rfl rfl
theorem wm_196 : (Jvm.Cond.selects "java/lang/IllegalArgumentException" ({ cls := "java/lang/Throwable", name := "fillInStackTrace", desc := "(I)Ljava/lang/Throwable;" } : Jvm.MethodName) ({ cls := "java/lang/Throwable", name := "fillInStackTrace", desc := "(I)Ljava/lang/Throwable;" } : Jvm.MethodName)) ∈ lwB := lwB_t (k := 196) rfl rfl
theorem wm_197 : (Jvm.Cond.selects "java/lang/IllegalArgumentException" ({ cls := "java/lang/Throwable", name := "fillInStackTrace", desc := "()Ljava/lang/Throwable;" } : Jvm.MethodName) ({ cls := "java/lang/Throwable", name := "fillInStackTrace", desc := "()Ljava/lang/Throwable;" } : Jvm.MethodName)) ∈ lwB := lwB_t (k := 197) rfl rfl
theorem wm_198 : (Jvm.Cond.lays "java/lang/IllegalArgumentException" "java/lang/Throwable" "cause" "Ljava/lang/Throwable;") ∈ lwB := lwB_t (k := 198) rfl rfl
theorem wm_199 : (Jvm.Cond.lays "java/lang/Throwable" "java/lang/Throwable" "cause" "Ljava/lang/Throwable;") ∈ lwB := lwB_t (k := 199) rfl rfl
theorem wm_200 : (Jvm.Cond.lays "java/lang/IllegalArgumentException" "java/lang/Throwable" "stackTrace" "[Ljava/lang/StackTraceElement;") ∈ lwB := lwB_t (k := 200) rfl rfl
theorem wm_201 : (Jvm.Cond.lays "java/lang/Throwable" "java/lang/Throwable" "stackTrace" "[Ljava/lang/StackTraceElement;") ∈ lwB := lwB_t (k := 201) rfl rfl
theorem wm_202 : (Jvm.Cond.lays "java/lang/IllegalArgumentException" "java/lang/Throwable" "suppressedExceptions" "Ljava/util/List;") ∈ lwB := lwB_t (k := 202) rfl rfl
theorem wm_203 : (Jvm.Cond.lays "java/lang/Throwable" "java/lang/Throwable" "suppressedExceptions" "Ljava/util/List;") ∈ lwB := lwB_t (k := 203) rfl rfl
theorem wm_204 : (Jvm.Cond.lays "java/lang/IllegalArgumentException" "java/lang/Throwable" "detailMessage" "Ljava/lang/String;") ∈ lwB := lwB_t (k := 204) rfl rfl
theorem wm_205 : (Jvm.Cond.lays "java/lang/Throwable" "java/lang/Throwable" "detailMessage" "Ljava/lang/String;") ∈ lwB := lwB_t (k := 205) rfl rfl
theorem wm_206 : (Jvm.Cond.lays "java/lang/IllegalArgumentException" "java/lang/Throwable" "backtrace" "Ljava/lang/Object;") ∈ lwB := lwB_t (k := 206) rfl rfl
theorem wm_207 : (Jvm.Cond.lays "java/lang/Throwable" "java/lang/Throwable" "backtrace" "Ljava/lang/Object;") ∈ lwB := lwB_t (k := 207) rfl rfl
theorem wm_208 : (Jvm.Cond.fieldLink "java/lang/Throwable" (198 : Nat) "java/lang/Throwable" "backtrace" "Ljava/lang/Object;") ∈ lwB := lwB_t (k := 208) rfl rfl
theorem wm_209 : (Jvm.Cond.superclass "java/lang/Throwable" "java/lang/Object") ∈ lwB := lwB_t (k := 209) rfl rfl
theorem wm_210 : (Jvm.Cond.instanceMethod ({ cls := "java/lang/Throwable", name := "<init>", desc := "()V" } : Jvm.MethodName)) ∈ lwB := lwB_t (k := 210) rfl rfl
theorem wm_211 : (Jvm.Cond.code ({ cls := "java/lang/Throwable", name := "<init>", desc := "()V" } : Jvm.MethodName) prog_13_method_1_code (1 : Nat) (Option.none : Option Jvm.ClassFile.FieldType)) ∈ lwB := lwB_t (k := 211) rfl rfl
theorem wm_212 : (Jvm.Cond.methodLink "java/lang/Throwable" (1 : Nat) ({ cls := "java/lang/Object", name := "<init>", desc := "()V" } : Jvm.MethodName)) ∈ lwB := lwB_t (k := 212) rfl rfl
theorem wm_213 : (Jvm.Cond.fieldLink "java/lang/Throwable" (13 : Nat) "java/lang/Throwable" "UNASSIGNED_STACK" "[Ljava/lang/StackTraceElement;") ∈ lwB := lwB_t (k := 213) rfl rfl
theorem wm_215 : (Jvm.Cond.fieldLink "java/lang/Throwable" (20 : Nat) "java/lang/Throwable" "SUPPRESSED_SENTINEL" "Ljava/util/List;") ∈ lwB := lwB_t (k := 215) rfl rfl
theorem wm_217 : (Jvm.Cond.methodLink "java/lang/Throwable" (27 : Nat) ({ cls := "java/lang/Throwable", name := "fillInStackTrace", desc := "()Ljava/lang/Throwable;" } : Jvm.MethodName)) ∈ lwB := lwB_t (k := 217) rfl rfl
theorem wm_218 : (Jvm.Cond.instanceMethod ({ cls := "java/lang/Throwable", name := "fillInStackTrace", desc := "()Ljava/lang/Throwable;" } : Jvm.MethodName)) ∈ lwB := lwB_t (k := 218) rfl rfl
theorem wm_219 : (Jvm.Cond.sameMethod "java/lang/Throwable" "java/lang/Throwable" "fillInStackTrace" "()Ljava/lang/Throwable;") ∈ lwB := lwB_t (k := 219) rfl rfl
theorem wm_220 : (Jvm.Cond.selects "java/lang/IllegalStateException" ({ cls := "java/lang/Throwable", name := "fillInStackTrace", desc := "()Ljava/lang/Throwable;" } : Jvm.MethodName) ({ cls := "java/lang/Throwable", name := "fillInStackTrace", desc := "()Ljava/lang/Throwable;" } : Jvm.MethodName)) ∈ lwB := lwB_t (k := 220) rfl rfl
theorem wm_222 : (Jvm.Cond.methodLink "java/lang/Throwable" (202 : Nat) ({ cls := "java/lang/Throwable", name := "fillInStackTrace", desc := "(I)Ljava/lang/Throwable;" } : Jvm.MethodName)) ∈ lwB := lwB_t (k := 222) rfl rfl
theorem wm_224 : (Jvm.Cond.instanceMethod ({ cls := "java/lang/Throwable", name := "fillInStackTrace", desc := "(I)Ljava/lang/Throwable;" } : Jvm.MethodName)) ∈ lwB := lwB_t (k := 224) rfl rfl
theorem wm_225 : (Jvm.Cond.instantiable "java/lang/Throwable" (6 : Nat)) ∈ lwB := lwB_t (k := 225) rfl rfl
theorem wm_226 : (Jvm.Cond.native ({ cls := "java/lang/Throwable", name := "fillInStackTrace", desc := "(I)Ljava/lang/Throwable;" } : Jvm.MethodName)) ∈ lwB := lwB_t (k := 226) rfl rfl
theorem wm_228 : (Jvm.Cond.methodLink "HyphenBook" (51 : Nat) ({ cls := "java/lang/IllegalArgumentException", name := "<init>", desc := "(Ljava/lang/String;)V" } : Jvm.MethodName)) ∈ lwB := lwB_t (k := 228) rfl rfl
theorem wm_229 : (Jvm.Cond.instanceMethod ({ cls := "java/lang/IllegalArgumentException", name := "<init>", desc := "(Ljava/lang/String;)V" } : Jvm.MethodName)) ∈ lwB := lwB_t (k := 229) rfl rfl
theorem wm_230 : (Jvm.Cond.code ({ cls := "java/lang/IllegalArgumentException", name := "<init>", desc := "(Ljava/lang/String;)V" } : Jvm.MethodName) prog_9_method_2_code (2 : Nat) (Option.none : Option Jvm.ClassFile.FieldType)) ∈ lwB := lwB_t (k := 230) rfl rfl
theorem wm_231 : (Jvm.Cond.methodLink "java/lang/IllegalArgumentException" (7 : Nat) ({ cls := "java/lang/RuntimeException", name := "<init>", desc := "(Ljava/lang/String;)V" } : Jvm.MethodName)) ∈ lwB := lwB_t (k := 231) rfl rfl
theorem wm_232 : (Jvm.Cond.instanceMethod ({ cls := "java/lang/RuntimeException", name := "<init>", desc := "(Ljava/lang/String;)V" } : Jvm.MethodName)) ∈ lwB := lwB_t (k := 232) rfl rfl
theorem wm_233 : (Jvm.Cond.code ({ cls := "java/lang/RuntimeException", name := "<init>", desc := "(Ljava/lang/String;)V" } : Jvm.MethodName) prog_11_method_2_code (2 : Nat) (Option.none : Option Jvm.ClassFile.FieldType)) ∈ lwB := lwB_t (k := 233) rfl rfl
theorem wm_234 : (Jvm.Cond.methodLink "java/lang/RuntimeException" (7 : Nat) ({ cls := "java/lang/Exception", name := "<init>", desc := "(Ljava/lang/String;)V" } : Jvm.MethodName)) ∈ lwB := lwB_t (k := 234) rfl rfl
theorem wm_235 : (Jvm.Cond.instanceMethod ({ cls := "java/lang/Exception", name := "<init>", desc := "(Ljava/lang/String;)V" } : Jvm.MethodName)) ∈ lwB := lwB_t (k := 235) rfl rfl
theorem wm_236 : (Jvm.Cond.code ({ cls := "java/lang/Exception", name := "<init>", desc := "(Ljava/lang/String;)V" } : Jvm.MethodName) prog_8_method_2_code (2 : Nat) (Option.none : Option Jvm.ClassFile.FieldType)) ∈ lwB := lwB_t (k := 236) rfl rfl
theorem wm_237 : (Jvm.Cond.methodLink "java/lang/Exception" (7 : Nat) ({ cls := "java/lang/Throwable", name := "<init>", desc := "(Ljava/lang/String;)V" } : Jvm.MethodName)) ∈ lwB := lwB_t (k := 237) rfl rfl
theorem wm_238 : (Jvm.Cond.instanceMethod ({ cls := "java/lang/Throwable", name := "<init>", desc := "(Ljava/lang/String;)V" } : Jvm.MethodName)) ∈ lwB := lwB_t (k := 238) rfl rfl
theorem wm_239 : (Jvm.Cond.code ({ cls := "java/lang/Throwable", name := "<init>", desc := "(Ljava/lang/String;)V" } : Jvm.MethodName) prog_13_method_2_code (2 : Nat) (Option.none : Option Jvm.ClassFile.FieldType)) ∈ lwB := lwB_t (k := 239) rfl rfl
theorem wm_240 : (Jvm.Cond.fieldLink "java/lang/Throwable" (198 : Nat) "java/lang/Throwable" "backtrace" "Ljava/lang/Object;") ∈ lwB := lwB_t (k := 240) rfl rfl
theorem wm_241 : (Jvm.Cond.fieldLink "java/lang/Throwable" (31 : Nat) "java/lang/Throwable" "detailMessage" "Ljava/lang/String;") ∈ lwB := lwB_t (k := 241) rfl rfl
theorem wm_242 : (Jvm.Cond.fieldLink "java/lang/Throwable" (7 : Nat) "java/lang/Throwable" "cause" "Ljava/lang/Throwable;") ∈ lwB := lwB_t (k := 242) rfl rfl
theorem wm_243 : (Jvm.Cond.fieldLink "java/lang/Throwable" (17 : Nat) "java/lang/Throwable" "stackTrace" "[Ljava/lang/StackTraceElement;") ∈ lwB := lwB_t (k := 243) rfl rfl
theorem wm_244 : (Jvm.Cond.fieldLink "java/lang/Throwable" (24 : Nat) "java/lang/Throwable" "suppressedExceptions" "Ljava/util/List;") ∈ lwB := lwB_t (k := 244) rfl rfl
theorem wm_249 : (Jvm.Cond.lays "java/lang/IllegalArgumentException" "java/lang/Throwable" "depth" "I") ∈ lwB := lwB_t (k := 249) rfl rfl
theorem wm_252 : (Jvm.Cond.superclass "java/lang/IllegalArgumentException" "java/lang/RuntimeException") ∈ lwB := lwB_t (k := 252) rfl rfl
theorem wm_253 : (Jvm.Cond.arrayClass Jvm.ClassFile.FieldType.byte) ∈ lwB := lwB_t (k := 253) rfl rfl
theorem wm_254 : (Jvm.Cond.methodLink "HyphenBook" (54 : Nat) ({ cls := "HyphenBook$SignTree", name := "numbersOf", desc := "(LHyphenBook$SignRow;)[I" } : Jvm.MethodName)) ∈ lwB := lwB_t (k := 254) rfl rfl
theorem wm_255 : (Jvm.Cond.instanceMethod ({ cls := "HyphenBook$SignTree", name := "numbersOf", desc := "(LHyphenBook$SignRow;)[I" } : Jvm.MethodName)) ∈ lwB := lwB_t (k := 255) rfl rfl
theorem wm_256 : (Jvm.Cond.selects "HyphenBook$SignTree" ({ cls := "HyphenBook$SignTree", name := "numbersOf", desc := "(LHyphenBook$SignRow;)[I" } : Jvm.MethodName) ({ cls := "HyphenBook$SignTree", name := "numbersOf", desc := "(LHyphenBook$SignRow;)[I" } : Jvm.MethodName)) ∈ lwB := lwB_t (k := 256) rfl rfl
theorem wm_257 : (Jvm.Cond.code ({ cls := "HyphenBook$SignTree", name := "numbersOf", desc := "(LHyphenBook$SignRow;)[I" } : Jvm.MethodName) prog_4_method_4_code (4 : Nat) (Option.some (Jvm.ClassFile.FieldType.array Jvm.ClassFile.FieldType.int))) ∈ lwB := lwB_t (k := 257) rfl rfl
theorem wm_258 : (Jvm.Cond.methodLink "HyphenBook$SignTree" (25 : Nat) ({ cls := "HyphenBook$SignRow", name := "size", desc := "()I" } : Jvm.MethodName)) ∈ lwB := lwB_t (k := 258) rfl rfl
theorem wm_259 : (Jvm.Cond.methodLink "HyphenBook$SignTree" (31 : Nat) ({ cls := "HyphenBook$SignRow", name := "signAt", desc := "(I)I" } : Jvm.MethodName)) ∈ lwB := lwB_t (k := 259) rfl rfl
theorem wm_260 : (Jvm.Cond.methodLink "HyphenBook$SignTree" (35 : Nat) ({ cls := "HyphenBook$Node", name := "childWith", desc := "(I)LHyphenBook$Node;" } : Jvm.MethodName)) ∈ lwB := lwB_t (k := 260) rfl rfl
theorem wm_261 : (Jvm.Cond.instanceMethod ({ cls := "HyphenBook$Node", name := "childWith", desc := "(I)LHyphenBook$Node;" } : Jvm.MethodName)) ∈ lwB := lwB_t (k := 261) rfl rfl
theorem wm_262 : (Jvm.Cond.selects "HyphenBook$Node" ({ cls := "HyphenBook$Node", name := "childWith", desc := "(I)LHyphenBook$Node;" } : Jvm.MethodName) ({ cls := "HyphenBook$Node", name := "childWith", desc := "(I)LHyphenBook$Node;" } : Jvm.MethodName)) ∈ lwB := lwB_t (k := 262) rfl rfl
theorem wm_263 : (Jvm.Cond.code ({ cls := "HyphenBook$Node", name := "childWith", desc := "(I)LHyphenBook$Node;" } : Jvm.MethodName) prog_2_method_2_code (3 : Nat) (Option.some (Jvm.ClassFile.FieldType.object "HyphenBook$Node"))) ∈ lwB := lwB_t (k := 263) rfl rfl
theorem wm_264 : (Jvm.Cond.classLink "HyphenBook" (58 : Nat) "java/lang/IllegalStateException") ∈ lwB := lwB_t (k := 264) rfl rfl
theorem wm_265 : (Jvm.Cond.instantiable "java/lang/IllegalStateException" (6 : Nat)) ∈ lwB := lwB_t (k := 265) rfl rfl
theorem wm_267 : (Jvm.Cond.selects "java/lang/IllegalStateException" ({ cls := "java/lang/Throwable", name := "fillInStackTrace", desc := "(I)Ljava/lang/Throwable;" } : Jvm.MethodName) ({ cls := "java/lang/Throwable", name := "fillInStackTrace", desc := "(I)Ljava/lang/Throwable;" } : Jvm.MethodName)) ∈ lwB := lwB_t (k := 267) rfl rfl
theorem wm_268 : (Jvm.Cond.lays "java/lang/IllegalStateException" "java/lang/Throwable" "cause" "Ljava/lang/Throwable;") ∈ lwB := lwB_t (k := 268) rfl rfl
theorem wm_269 : (Jvm.Cond.lays "java/lang/IllegalStateException" "java/lang/Throwable" "stackTrace" "[Ljava/lang/StackTraceElement;") ∈ lwB := lwB_t (k := 269) rfl rfl
theorem wm_270 : (Jvm.Cond.lays "java/lang/IllegalStateException" "java/lang/Throwable" "suppressedExceptions" "Ljava/util/List;") ∈ lwB := lwB_t (k := 270) rfl rfl
theorem wm_271 : (Jvm.Cond.lays "java/lang/IllegalStateException" "java/lang/Throwable" "detailMessage" "Ljava/lang/String;") ∈ lwB := lwB_t (k := 271) rfl rfl
theorem wm_272 : (Jvm.Cond.lays "java/lang/IllegalStateException" "java/lang/Throwable" "backtrace" "Ljava/lang/Object;") ∈ lwB := lwB_t (k := 272) rfl rfl
theorem wm_274 : (Jvm.Cond.methodLink "HyphenBook" (62 : Nat) ({ cls := "java/lang/IllegalStateException", name := "<init>", desc := "(Ljava/lang/String;)V" } : Jvm.MethodName)) ∈ lwB := lwB_t (k := 274) rfl rfl
theorem wm_275 : (Jvm.Cond.instanceMethod ({ cls := "java/lang/IllegalStateException", name := "<init>", desc := "(Ljava/lang/String;)V" } : Jvm.MethodName)) ∈ lwB := lwB_t (k := 275) rfl rfl
theorem wm_276 : (Jvm.Cond.code ({ cls := "java/lang/IllegalStateException", name := "<init>", desc := "(Ljava/lang/String;)V" } : Jvm.MethodName) prog_10_method_2_code (2 : Nat) (Option.none : Option Jvm.ClassFile.FieldType)) ∈ lwB := lwB_t (k := 276) rfl rfl
theorem wm_277 : (Jvm.Cond.methodLink "java/lang/IllegalStateException" (7 : Nat) ({ cls := "java/lang/RuntimeException", name := "<init>", desc := "(Ljava/lang/String;)V" } : Jvm.MethodName)) ∈ lwB := lwB_t (k := 277) rfl rfl
theorem wm_278 : (Jvm.Cond.lays "java/lang/IllegalStateException" "java/lang/Throwable" "depth" "I") ∈ lwB := lwB_t (k := 278) rfl rfl
theorem wm_279 : (Jvm.Cond.superclass "java/lang/IllegalStateException" "java/lang/RuntimeException") ∈ lwB := lwB_t (k := 279) rfl rfl
theorem wm_281 : (Jvm.Cond.methodLink "HyphenBook" (69 : Nat) ({ cls := "HyphenBook$SignTree", name := "beginningsWith", desc := "(LHyphenBook$SignRow;)I" } : Jvm.MethodName)) ∈ lwB := lwB_t (k := 281) rfl rfl
theorem wm_282 : (Jvm.Cond.instanceMethod ({ cls := "HyphenBook$SignTree", name := "beginningsWith", desc := "(LHyphenBook$SignRow;)I" } : Jvm.MethodName)) ∈ lwB := lwB_t (k := 282) rfl rfl
theorem wm_283 : (Jvm.Cond.selects "HyphenBook$SignTree" ({ cls := "HyphenBook$SignTree", name := "beginningsWith", desc := "(LHyphenBook$SignRow;)I" } : Jvm.MethodName) ({ cls := "HyphenBook$SignTree", name := "beginningsWith", desc := "(LHyphenBook$SignRow;)I" } : Jvm.MethodName)) ∈ lwB := lwB_t (k := 283) rfl rfl
theorem wm_284 : (Jvm.Cond.code ({ cls := "HyphenBook$SignTree", name := "beginningsWith", desc := "(LHyphenBook$SignRow;)I" } : Jvm.MethodName) prog_4_method_5_code (4 : Nat) (Option.some Jvm.ClassFile.FieldType.int)) ∈ lwB := lwB_t (k := 284) rfl rfl
theorem wm_285 : (Jvm.Cond.constant "HyphenBook" (73 : Nat) (32768 : Int32)) ∈ lwB := lwB_t (k := 285) rfl rfl
theorem wm_287 : (Jvm.Cond.methodLink "HyphenBook" (76 : Nat) ({ cls := "HyphenBook$SignTree", name := "enter", desc := "(LHyphenBook$SignRow;)V" } : Jvm.MethodName)) ∈ lwB := lwB_t (k := 287) rfl rfl
theorem wm_288 : (Jvm.Cond.instanceMethod ({ cls := "HyphenBook$SignTree", name := "enter", desc := "(LHyphenBook$SignRow;)V" } : Jvm.MethodName)) ∈ lwB := lwB_t (k := 288) rfl rfl
theorem wm_289 : (Jvm.Cond.selects "HyphenBook$SignTree" ({ cls := "HyphenBook$SignTree", name := "enter", desc := "(LHyphenBook$SignRow;)V" } : Jvm.MethodName) ({ cls := "HyphenBook$SignTree", name := "enter", desc := "(LHyphenBook$SignRow;)V" } : Jvm.MethodName)) ∈ lwB := lwB_t (k := 289) rfl rfl
theorem wm_290 : (Jvm.Cond.code ({ cls := "HyphenBook$SignTree", name := "enter", desc := "(LHyphenBook$SignRow;)V" } : Jvm.MethodName) prog_4_method_6_code (5 : Nat) (Option.none : Option Jvm.ClassFile.FieldType)) ∈ lwB := lwB_t (k := 290) rfl rfl
theorem wm_291 : (Jvm.Cond.methodLink "HyphenBook$SignTree" (43 : Nat) ({ cls := "HyphenBook$Node", name := "newChild", desc := "(I)LHyphenBook$Node;" } : Jvm.MethodName)) ∈ lwB := lwB_t (k := 291) rfl rfl
theorem wm_292 : (Jvm.Cond.instanceMethod ({ cls := "HyphenBook$Node", name := "newChild", desc := "(I)LHyphenBook$Node;" } : Jvm.MethodName)) ∈ lwB := lwB_t (k := 292) rfl rfl
theorem wm_293 : (Jvm.Cond.selects "HyphenBook$Node" ({ cls := "HyphenBook$Node", name := "newChild", desc := "(I)LHyphenBook$Node;" } : Jvm.MethodName) ({ cls := "HyphenBook$Node", name := "newChild", desc := "(I)LHyphenBook$Node;" } : Jvm.MethodName)) ∈ lwB := lwB_t (k := 293) rfl rfl
theorem wm_294 : (Jvm.Cond.code ({ cls := "HyphenBook$Node", name := "newChild", desc := "(I)LHyphenBook$Node;" } : Jvm.MethodName) prog_2_method_3_code (3 : Nat) (Option.some (Jvm.ClassFile.FieldType.object "HyphenBook$Node"))) ∈ lwB := lwB_t (k := 294) rfl rfl
theorem wm_295 : (Jvm.Cond.classLink "HyphenBook$Node" (8 : Nat) "HyphenBook$Node") ∈ lwB := lwB_t (k := 295) rfl rfl
theorem wm_296 : (Jvm.Cond.methodLink "HyphenBook$Node" (24 : Nat) ({ cls := "HyphenBook$Node", name := "<init>", desc := "(I)V" } : Jvm.MethodName)) ∈ lwB := lwB_t (k := 296) rfl rfl
theorem wm_297 : (Jvm.Cond.methodLink "HyphenBook$SignTree" (46 : Nat) ({ cls := "HyphenBook$SignRow", name := "copyOfNumbers", desc := "()[I" } : Jvm.MethodName)) ∈ lwB := lwB_t (k := 297) rfl rfl
theorem wm_298 : (Jvm.Cond.instanceMethod ({ cls := "HyphenBook$SignRow", name := "copyOfNumbers", desc := "()[I" } : Jvm.MethodName)) ∈ lwB := lwB_t (k := 298) rfl rfl
theorem wm_299 : (Jvm.Cond.selects "HyphenBook$SignRow" ({ cls := "HyphenBook$SignRow", name := "copyOfNumbers", desc := "()[I" } : Jvm.MethodName) ({ cls := "HyphenBook$SignRow", name := "copyOfNumbers", desc := "()[I" } : Jvm.MethodName)) ∈ lwB := lwB_t (k := 299) rfl rfl
theorem wm_300 : (Jvm.Cond.code ({ cls := "HyphenBook$SignRow", name := "copyOfNumbers", desc := "()[I" } : Jvm.MethodName) prog_3_method_9_code (1 : Nat) (Option.some (Jvm.ClassFile.FieldType.array Jvm.ClassFile.FieldType.int))) ∈ lwB := lwB_t (k := 300) rfl rfl
theorem wm_301 : (Jvm.Cond.methodLink "HyphenBook$SignRow" (40 : Nat) ({ cls := "[I", name := "clone", desc := "()Ljava/lang/Object;" } : Jvm.MethodName)) ∈ lwB := lwB_t (k := 301) rfl rfl
theorem wm_302 : (Jvm.Cond.sameMethod "[I" "java/lang/Object" "clone" "()Ljava/lang/Object;") ∈ lwB := lwB_t (k := 302) rfl rfl
theorem wm_303 : (Jvm.Cond.native ({ cls := "java/lang/Object", name := "clone", desc := "()Ljava/lang/Object;" } : Jvm.MethodName)) ∈ lwB := lwB_t (k := 303) rfl rfl
theorem wm_304 : (Jvm.Cond.instanceMethod ({ cls := "java/lang/Object", name := "clone", desc := "()Ljava/lang/Object;" } : Jvm.MethodName)) ∈ lwB := lwB_t (k := 304) rfl rfl
theorem wm_305 : (Jvm.Cond.selects "[I" ({ cls := "[I", name := "clone", desc := "()Ljava/lang/Object;" } : Jvm.MethodName) ({ cls := "java/lang/Object", name := "clone", desc := "()Ljava/lang/Object;" } : Jvm.MethodName)) ∈ lwB := lwB_t (k := 305) rfl rfl
theorem wm_307 : (Jvm.Cond.classLink "HyphenBook$SignRow" (41 : Nat) "[I") ∈ lwB := lwB_t (k := 307) rfl rfl
theorem wm_308 : (Jvm.Cond.methodLink "HyphenBookLaw" (44 : Nat) ({ cls := "HyphenBookLaw", name := "exception", desc := "(LHyphenBook;[J)I" } : Jvm.MethodName)) ∈ lwB := lwB_t (k := 308) rfl rfl
theorem wm_309 : (Jvm.Cond.static ({ cls := "HyphenBookLaw", name := "exception", desc := "(LHyphenBook;[J)I" } : Jvm.MethodName)) ∈ lwB := lwB_t (k := 309) rfl rfl
theorem wm_310 : (Jvm.Cond.codeWith ({ cls := "HyphenBookLaw", name := "exception", desc := "(LHyphenBook;[J)I" } : Jvm.MethodName) method_4_code (3 : Nat) (Option.some Jvm.ClassFile.FieldType.int) [((0 : Nat), (8 : Nat), (11 : Nat), (13 : Nat)), ((0 : Nat), (8 : Nat), (14 : Nat), (15 : Nat))]) ∈ lwB := lwB_t (k := 310) rfl rfl
theorem wm_311 : (Jvm.Cond.methodLink "HyphenBookLaw" (17 : Nat) ({ cls := "HyphenBook", name := "exception", desc := "()I" } : Jvm.MethodName)) ∈ lwB := lwB_t (k := 311) rfl rfl
theorem wm_312 : (Jvm.Cond.instanceMethod ({ cls := "HyphenBook", name := "exception", desc := "()I" } : Jvm.MethodName)) ∈ lwB := lwB_t (k := 312) rfl rfl
theorem wm_313 : (Jvm.Cond.selects "HyphenBook" ({ cls := "HyphenBook", name := "exception", desc := "()I" } : Jvm.MethodName) ({ cls := "HyphenBook", name := "exception", desc := "()I" } : Jvm.MethodName)) ∈ lwB := lwB_t (k := 313) rfl rfl
theorem wm_314 : (Jvm.Cond.code ({ cls := "HyphenBook", name := "exception", desc := "()I" } : Jvm.MethodName) prog_1_method_4_code (2 : Nat) (Option.some Jvm.ClassFile.FieldType.int)) ∈ lwB := lwB_t (k := 314) rfl rfl
theorem wm_315 : (Jvm.Cond.methodLink "HyphenBook" (80 : Nat) ({ cls := "HyphenBook", name := "readException", desc := "()Z" } : Jvm.MethodName)) ∈ lwB := lwB_t (k := 315) rfl rfl
theorem wm_317 : (Jvm.Cond.instanceMethod ({ cls := "HyphenBook", name := "readException", desc := "()Z" } : Jvm.MethodName)) ∈ lwB := lwB_t (k := 317) rfl rfl
theorem wm_318 : (Jvm.Cond.code ({ cls := "HyphenBook", name := "readException", desc := "()Z" } : Jvm.MethodName) prog_1_method_16_code (4 : Nat) (Option.some Jvm.ClassFile.FieldType.boolean)) ∈ lwB := lwB_t (k := 318) rfl rfl
theorem wm_321 : (Jvm.Cond.methodLink "HyphenBookLaw" (47 : Nat) ({ cls := "HyphenBookLaw", name := "word", desc := "(LHyphenBook;[J)I" } : Jvm.MethodName)) ∈ lwB := lwB_t (k := 321) rfl rfl
theorem wm_322 : (Jvm.Cond.static ({ cls := "HyphenBookLaw", name := "word", desc := "(LHyphenBook;[J)I" } : Jvm.MethodName)) ∈ lwB := lwB_t (k := 322) rfl rfl
theorem wm_323 : (Jvm.Cond.codeWith ({ cls := "HyphenBookLaw", name := "word", desc := "(LHyphenBook;[J)I" } : Jvm.MethodName) method_5_code (3 : Nat) (Option.some Jvm.ClassFile.FieldType.int) [((0 : Nat), (7 : Nat), (10 : Nat), (13 : Nat))]) ∈ lwB := lwB_t (k := 323) rfl rfl
theorem wm_324 : (Jvm.Cond.methodLink "HyphenBookLaw" (20 : Nat) ({ cls := "HyphenBook", name := "word", desc := "()J" } : Jvm.MethodName)) ∈ lwB := lwB_t (k := 324) rfl rfl
theorem wm_325 : (Jvm.Cond.instanceMethod ({ cls := "HyphenBook", name := "word", desc := "()J" } : Jvm.MethodName)) ∈ lwB := lwB_t (k := 325) rfl rfl
theorem wm_326 : (Jvm.Cond.selects "HyphenBook" ({ cls := "HyphenBook", name := "word", desc := "()J" } : Jvm.MethodName) ({ cls := "HyphenBook", name := "word", desc := "()J" } : Jvm.MethodName)) ∈ lwB := lwB_t (k := 326) rfl rfl
theorem wm_327 : (Jvm.Cond.code ({ cls := "HyphenBook", name := "word", desc := "()J" } : Jvm.MethodName) prog_1_method_5_code (2 : Nat) (Option.some Jvm.ClassFile.FieldType.long)) ∈ lwB := lwB_t (k := 327) rfl rfl
theorem wm_328 : (Jvm.Cond.methodLink "HyphenBook" (87 : Nat) ({ cls := "HyphenBook", name := "draftIsWord", desc := "()Z" } : Jvm.MethodName)) ∈ lwB := lwB_t (k := 328) rfl rfl
theorem wm_330 : (Jvm.Cond.instanceMethod ({ cls := "HyphenBook", name := "draftIsWord", desc := "()Z" } : Jvm.MethodName)) ∈ lwB := lwB_t (k := 330) rfl rfl
theorem wm_331 : (Jvm.Cond.code ({ cls := "HyphenBook", name := "draftIsWord", desc := "()Z" } : Jvm.MethodName) prog_1_method_17_code (2 : Nat) (Option.some Jvm.ClassFile.FieldType.boolean)) ∈ lwB := lwB_t (k := 331) rfl rfl
theorem wm_332 : (Jvm.Cond.methodLink "HyphenBook" (90 : Nat) ({ cls := "HyphenBook", name := "copyDraftToAsked", desc := "()V" } : Jvm.MethodName)) ∈ lwB := lwB_t (k := 332) rfl rfl
theorem wm_334 : (Jvm.Cond.instanceMethod ({ cls := "HyphenBook", name := "copyDraftToAsked", desc := "()V" } : Jvm.MethodName)) ∈ lwB := lwB_t (k := 334) rfl rfl
theorem wm_335 : (Jvm.Cond.code ({ cls := "HyphenBook", name := "copyDraftToAsked", desc := "()V" } : Jvm.MethodName) prog_1_method_18_code (2 : Nat) (Option.none : Option Jvm.ClassFile.FieldType)) ∈ lwB := lwB_t (k := 335) rfl rfl
theorem wm_337 : (Jvm.Cond.methodLink "HyphenBook" (95 : Nat) ({ cls := "HyphenBook$SignTree", name := "raiseNumbers", desc := "(LHyphenBook$SignRow;)V" } : Jvm.MethodName)) ∈ lwB := lwB_t (k := 337) rfl rfl
theorem wm_338 : (Jvm.Cond.instanceMethod ({ cls := "HyphenBook$SignTree", name := "raiseNumbers", desc := "(LHyphenBook$SignRow;)V" } : Jvm.MethodName)) ∈ lwB := lwB_t (k := 338) rfl rfl
theorem wm_339 : (Jvm.Cond.selects "HyphenBook$SignTree" ({ cls := "HyphenBook$SignTree", name := "raiseNumbers", desc := "(LHyphenBook$SignRow;)V" } : Jvm.MethodName) ({ cls := "HyphenBook$SignTree", name := "raiseNumbers", desc := "(LHyphenBook$SignRow;)V" } : Jvm.MethodName)) ∈ lwB := lwB_t (k := 339) rfl rfl
theorem wm_340 : (Jvm.Cond.code ({ cls := "HyphenBook$SignTree", name := "raiseNumbers", desc := "(LHyphenBook$SignRow;)V" } : Jvm.MethodName) prog_4_method_7_code (3 : Nat) (Option.none : Option Jvm.ClassFile.FieldType)) ∈ lwB := lwB_t (k := 340) rfl rfl
theorem wm_341 : (Jvm.Cond.methodLink "HyphenBook$SignTree" (50 : Nat) ({ cls := "HyphenBook$SignTree", name := "raiseNumbersFrom", desc := "(ILHyphenBook$SignRow;)V" } : Jvm.MethodName)) ∈ lwB := lwB_t (k := 341) rfl rfl
theorem wm_343 : (Jvm.Cond.instanceMethod ({ cls := "HyphenBook$SignTree", name := "raiseNumbersFrom", desc := "(ILHyphenBook$SignRow;)V" } : Jvm.MethodName)) ∈ lwB := lwB_t (k := 343) rfl rfl
theorem wm_344 : (Jvm.Cond.code ({ cls := "HyphenBook$SignTree", name := "raiseNumbersFrom", desc := "(ILHyphenBook$SignRow;)V" } : Jvm.MethodName) prog_4_method_8_code (5 : Nat) (Option.none : Option Jvm.ClassFile.FieldType)) ∈ lwB := lwB_t (k := 344) rfl rfl
theorem wm_345 : (Jvm.Cond.methodLink "HyphenBook$SignTree" (54 : Nat) ({ cls := "HyphenBook$SignTree", name := "raiseBetween", desc := "(II[ILHyphenBook$SignRow;)V" } : Jvm.MethodName)) ∈ lwB := lwB_t (k := 345) rfl rfl
theorem wm_346 : (Jvm.Cond.static ({ cls := "HyphenBook$SignTree", name := "raiseBetween", desc := "(II[ILHyphenBook$SignRow;)V" } : Jvm.MethodName)) ∈ lwB := lwB_t (k := 346) rfl rfl
theorem wm_347 : (Jvm.Cond.code ({ cls := "HyphenBook$SignTree", name := "raiseBetween", desc := "(II[ILHyphenBook$SignRow;)V" } : Jvm.MethodName) prog_4_method_9_code (5 : Nat) (Option.none : Option Jvm.ClassFile.FieldType)) ∈ lwB := lwB_t (k := 347) rfl rfl
theorem wm_349 : (Jvm.Cond.methodLink "HyphenBook$SignTree" (64 : Nat) ({ cls := "HyphenBook$SignRow", name := "raiseNumber", desc := "(II)V" } : Jvm.MethodName)) ∈ lwB := lwB_t (k := 349) rfl rfl
theorem wm_350 : (Jvm.Cond.instanceMethod ({ cls := "HyphenBook$SignRow", name := "raiseNumber", desc := "(II)V" } : Jvm.MethodName)) ∈ lwB := lwB_t (k := 350) rfl rfl
theorem wm_351 : (Jvm.Cond.selects "HyphenBook$SignRow" ({ cls := "HyphenBook$SignRow", name := "raiseNumber", desc := "(II)V" } : Jvm.MethodName) ({ cls := "HyphenBook$SignRow", name := "raiseNumber", desc := "(II)V" } : Jvm.MethodName)) ∈ lwB := lwB_t (k := 351) rfl rfl
theorem wm_352 : (Jvm.Cond.code ({ cls := "HyphenBook$SignRow", name := "raiseNumber", desc := "(II)V" } : Jvm.MethodName) prog_3_method_8_code (3 : Nat) (Option.none : Option Jvm.ClassFile.FieldType)) ∈ lwB := lwB_t (k := 352) rfl rfl
theorem wm_353 : (Jvm.Cond.methodLink "HyphenBook$SignRow" (32 : Nat) ({ cls := "HyphenBook$SignRow", name := "numberAt", desc := "(I)I" } : Jvm.MethodName)) ∈ lwB := lwB_t (k := 353) rfl rfl
theorem wm_354 : (Jvm.Cond.methodLink "HyphenBook$SignRow" (36 : Nat) ({ cls := "HyphenBook$SignRow", name := "setNumber", desc := "(II)V" } : Jvm.MethodName)) ∈ lwB := lwB_t (k := 354) rfl rfl
theorem wm_355 : (Jvm.Cond.methodLink "HyphenBook" (98 : Nat) ({ cls := "HyphenBook", name := "cutsOfAsked", desc := "()J" } : Jvm.MethodName)) ∈ lwB := lwB_t (k := 355) rfl rfl
theorem wm_357 : (Jvm.Cond.instanceMethod ({ cls := "HyphenBook", name := "cutsOfAsked", desc := "()J" } : Jvm.MethodName)) ∈ lwB := lwB_t (k := 357) rfl rfl
theorem wm_358 : (Jvm.Cond.code ({ cls := "HyphenBook", name := "cutsOfAsked", desc := "()J" } : Jvm.MethodName) prog_1_method_20_code (7 : Nat) (Option.some Jvm.ClassFile.FieldType.long)) ∈ lwB := lwB_t (k := 358) rfl rfl
theorem wm_359 : (Jvm.Cond.classLink "HyphenBookLaw" (25 : Nat) "HyphenBookModel") ∈ lwB := lwB_t (k := 359) rfl rfl
theorem wm_360 : (Jvm.Cond.instantiable "HyphenBookModel" (18 : Nat)) ∈ lwB := lwB_t (k := 360) rfl rfl
theorem wm_361 : (Jvm.Cond.methodLink "HyphenBookLaw" (27 : Nat) ({ cls := "HyphenBookModel", name := "<init>", desc := "()V" } : Jvm.MethodName)) ∈ lwB := lwB_t (k := 361) rfl rfl
theorem wm_362 : (Jvm.Cond.instanceMethod ({ cls := "HyphenBookModel", name := "<init>", desc := "()V" } : Jvm.MethodName)) ∈ lwB := lwB_t (k := 362) rfl rfl
theorem wm_363 : (Jvm.Cond.code ({ cls := "HyphenBookModel", name := "<init>", desc := "()V" } : Jvm.MethodName) prog_6_method_1_code (1 : Nat) (Option.none : Option Jvm.ClassFile.FieldType)) ∈ lwB := lwB_t (k := 363) rfl rfl
theorem wm_364 : (Jvm.Cond.methodLink "HyphenBookModel" (1 : Nat) ({ cls := "java/lang/Object", name := "<init>", desc := "()V" } : Jvm.MethodName)) ∈ lwB := lwB_t (k := 364) rfl rfl
theorem wm_365 : (Jvm.Cond.constant "HyphenBookModel" (16 : Nat) (40000 : Int32)) ∈ lwB := lwB_t (k := 365) rfl rfl
theorem wm_366 : (Jvm.Cond.constant "HyphenBookModel" (20 : Nat) (48200 : Int32)) ∈ lwB := lwB_t (k := 366) rfl rfl
theorem wm_367 : (Jvm.Cond.fieldLink "HyphenBookModel" (47 : Nat) "HyphenBookModel" "thrown" "I") ∈ lwB := lwB_t (k := 367) rfl rfl
theorem wm_368 : (Jvm.Cond.fieldLink "HyphenBookModel" (50 : Nat) "HyphenBookModel" "drafted" "I") ∈ lwB := lwB_t (k := 368) rfl rfl
theorem wm_369 : (Jvm.Cond.fieldLink "HyphenBookModel" (7 : Nat) "HyphenBookModel" "draft" "[I") ∈ lwB := lwB_t (k := 369) rfl rfl
theorem wm_370 : (Jvm.Cond.fieldLink "HyphenBookModel" (55 : Nat) "HyphenBookModel" "patterns" "I") ∈ lwB := lwB_t (k := 370) rfl rfl
theorem wm_371 : (Jvm.Cond.fieldLink "HyphenBookModel" (13 : Nat) "HyphenBookModel" "begin" "[I") ∈ lwB := lwB_t (k := 371) rfl rfl
theorem wm_372 : (Jvm.Cond.fieldLink "HyphenBookModel" (17 : Nat) "HyphenBookModel" "signs" "[I") ∈ lwB := lwB_t (k := 372) rfl rfl
theorem wm_373 : (Jvm.Cond.fieldLink "HyphenBookModel" (21 : Nat) "HyphenBookModel" "numbers" "[I") ∈ lwB := lwB_t (k := 373) rfl rfl
theorem wm_374 : (Jvm.Cond.fieldLink "HyphenBookModel" (77 : Nat) "HyphenBookModel" "beginnings" "I") ∈ lwB := lwB_t (k := 374) rfl rfl
theorem wm_375 : (Jvm.Cond.fieldLink "HyphenBookModel" (81 : Nat) "HyphenBookModel" "exceptions" "I") ∈ lwB := lwB_t (k := 375) rfl rfl
theorem wm_376 : (Jvm.Cond.fieldLink "HyphenBookModel" (24 : Nat) "HyphenBookModel" "first" "[I") ∈ lwB := lwB_t (k := 376) rfl rfl
theorem wm_377 : (Jvm.Cond.fieldLink "HyphenBookModel" (27 : Nat) "HyphenBookModel" "letters" "[I") ∈ lwB := lwB_t (k := 377) rfl rfl
theorem wm_378 : (Jvm.Cond.fieldLink "HyphenBookModel" (30 : Nat) "HyphenBookModel" "places" "[J") ∈ lwB := lwB_t (k := 378) rfl rfl
theorem wm_379 : (Jvm.Cond.fieldLink "HyphenBookModel" (34 : Nat) "HyphenBookModel" "left" "I") ∈ lwB := lwB_t (k := 379) rfl rfl
theorem wm_380 : (Jvm.Cond.fieldLink "HyphenBookModel" (38 : Nat) "HyphenBookModel" "right" "I") ∈ lwB := lwB_t (k := 380) rfl rfl
theorem wm_381 : (Jvm.Cond.fieldLink "HyphenBookModel" (87 : Nat) "HyphenBookModel" "length" "I") ∈ lwB := lwB_t (k := 381) rfl rfl
theorem wm_382 : (Jvm.Cond.fieldLink "HyphenBookModel" (41 : Nat) "HyphenBookModel" "row" "[I") ∈ lwB := lwB_t (k := 382) rfl rfl
theorem wm_383 : (Jvm.Cond.fieldLink "HyphenBookModel" (44 : Nat) "HyphenBookModel" "value" "[I") ∈ lwB := lwB_t (k := 383) rfl rfl
theorem wm_384 : (Jvm.Cond.fieldLink "HyphenBookModel" (90 : Nat) "HyphenBookModel" "asked" "Z") ∈ lwB := lwB_t (k := 384) rfl rfl
theorem wm_385 : (Jvm.Cond.lays "HyphenBookModel" "HyphenBookModel" "thrown" "I") ∈ lwB := lwB_t (k := 385) rfl rfl
theorem wm_387 : (Jvm.Cond.lays "HyphenBookModel" "HyphenBookModel" "drafted" "I") ∈ lwB := lwB_t (k := 387) rfl rfl
theorem wm_389 : (Jvm.Cond.laysFinal "HyphenBookModel" "HyphenBookModel" "draft" "[I") ∈ lwB := lwB_t (k := 389) rfl rfl
theorem wm_391 : (Jvm.Cond.lays "HyphenBookModel" "HyphenBookModel" "patterns" "I") ∈ lwB := lwB_t (k := 391) rfl rfl
theorem wm_393 : (Jvm.Cond.laysFinal "HyphenBookModel" "HyphenBookModel" "begin" "[I") ∈ lwB := lwB_t (k := 393) rfl rfl
theorem wm_395 : (Jvm.Cond.laysFinal "HyphenBookModel" "HyphenBookModel" "signs" "[I") ∈ lwB := lwB_t (k := 395) rfl rfl
theorem wm_397 : (Jvm.Cond.laysFinal "HyphenBookModel" "HyphenBookModel" "numbers" "[I") ∈ lwB := lwB_t (k := 397) rfl rfl
theorem wm_399 : (Jvm.Cond.lays "HyphenBookModel" "HyphenBookModel" "beginnings" "I") ∈ lwB := lwB_t (k := 399) rfl rfl
theorem wm_401 : (Jvm.Cond.lays "HyphenBookModel" "HyphenBookModel" "exceptions" "I") ∈ lwB := lwB_t (k := 401) rfl rfl
theorem wm_403 : (Jvm.Cond.laysFinal "HyphenBookModel" "HyphenBookModel" "first" "[I") ∈ lwB := lwB_t (k := 403) rfl rfl
theorem wm_405 : (Jvm.Cond.laysFinal "HyphenBookModel" "HyphenBookModel" "letters" "[I") ∈ lwB := lwB_t (k := 405) rfl rfl
theorem wm_407 : (Jvm.Cond.laysFinal "HyphenBookModel" "HyphenBookModel" "places" "[J") ∈ lwB := lwB_t (k := 407) rfl rfl
theorem wm_409 : (Jvm.Cond.lays "HyphenBookModel" "HyphenBookModel" "left" "I") ∈ lwB := lwB_t (k := 409) rfl rfl
theorem wm_411 : (Jvm.Cond.lays "HyphenBookModel" "HyphenBookModel" "right" "I") ∈ lwB := lwB_t (k := 411) rfl rfl
theorem wm_413 : (Jvm.Cond.lays "HyphenBookModel" "HyphenBookModel" "length" "I") ∈ lwB := lwB_t (k := 413) rfl rfl
theorem wm_415 : (Jvm.Cond.laysFinal "HyphenBookModel" "HyphenBookModel" "row" "[I") ∈ lwB := lwB_t (k := 415) rfl rfl
theorem wm_417 : (Jvm.Cond.laysFinal "HyphenBookModel" "HyphenBookModel" "value" "[I") ∈ lwB := lwB_t (k := 417) rfl rfl
theorem wm_419 : (Jvm.Cond.lays "HyphenBookModel" "HyphenBookModel" "asked" "Z") ∈ lwB := lwB_t (k := 419) rfl rfl
theorem wm_421 : (Jvm.Cond.superclass "HyphenBookModel" "java/lang/Object") ∈ lwB := lwB_t (k := 421) rfl rfl
theorem wm_422 : (Jvm.Cond.arrayClass Jvm.ClassFile.FieldType.long) ∈ lwB := lwB_t (k := 422) rfl rfl
theorem wm_423 : (Jvm.Cond.methodLink "HyphenBookLaw" (41 : Nat) ({ cls := "HyphenBookModel", name := "thrown", desc := "()I" } : Jvm.MethodName)) ∈ lwB := lwB_t (k := 423) rfl rfl
theorem wm_424 : (Jvm.Cond.instanceMethod ({ cls := "HyphenBookModel", name := "thrown", desc := "()I" } : Jvm.MethodName)) ∈ lwB := lwB_t (k := 424) rfl rfl
theorem wm_425 : (Jvm.Cond.selects "HyphenBookModel" ({ cls := "HyphenBookModel", name := "thrown", desc := "()I" } : Jvm.MethodName) ({ cls := "HyphenBookModel", name := "thrown", desc := "()I" } : Jvm.MethodName)) ∈ lwB := lwB_t (k := 425) rfl rfl
theorem wm_426 : (Jvm.Cond.code ({ cls := "HyphenBookModel", name := "thrown", desc := "()I" } : Jvm.MethodName) prog_6_method_2_code (1 : Nat) (Option.some Jvm.ClassFile.FieldType.int)) ∈ lwB := lwB_t (k := 426) rfl rfl
theorem wm_427 : (Jvm.Cond.methodLink "HyphenBookLaw" (34 : Nat) ({ cls := "HyphenBookModel", name := "put", desc := "(JI)Z" } : Jvm.MethodName)) ∈ lwB := lwB_t (k := 427) rfl rfl
theorem wm_428 : (Jvm.Cond.instanceMethod ({ cls := "HyphenBookModel", name := "put", desc := "(JI)Z" } : Jvm.MethodName)) ∈ lwB := lwB_t (k := 428) rfl rfl
theorem wm_429 : (Jvm.Cond.selects "HyphenBookModel" ({ cls := "HyphenBookModel", name := "put", desc := "(JI)Z" } : Jvm.MethodName) ({ cls := "HyphenBookModel", name := "put", desc := "(JI)Z" } : Jvm.MethodName)) ∈ lwB := lwB_t (k := 429) rfl rfl
theorem wm_430 : (Jvm.Cond.code ({ cls := "HyphenBookModel", name := "put", desc := "(JI)Z" } : Jvm.MethodName) prog_6_method_4_code (5 : Nat) (Option.some Jvm.ClassFile.FieldType.boolean)) ∈ lwB := lwB_t (k := 430) rfl rfl
theorem wm_431 : (Jvm.Cond.constantLong "HyphenBookModel" (53 : Nat) (255 : Int64)) ∈ lwB := lwB_t (k := 431) rfl rfl
theorem wm_432 : (Jvm.Cond.methodLink "HyphenBookLaw" (40 : Nat) ({ cls := "HyphenBookModel", name := "pattern", desc := "()I" } : Jvm.MethodName)) ∈ lwB := lwB_t (k := 432) rfl rfl
theorem wm_433 : (Jvm.Cond.instanceMethod ({ cls := "HyphenBookModel", name := "pattern", desc := "()I" } : Jvm.MethodName)) ∈ lwB := lwB_t (k := 433) rfl rfl
theorem wm_434 : (Jvm.Cond.selects "HyphenBookModel" ({ cls := "HyphenBookModel", name := "pattern", desc := "()I" } : Jvm.MethodName) ({ cls := "HyphenBookModel", name := "pattern", desc := "()I" } : Jvm.MethodName)) ∈ lwB := lwB_t (k := 434) rfl rfl
theorem wm_435 : (Jvm.Cond.code ({ cls := "HyphenBookModel", name := "pattern", desc := "()I" } : Jvm.MethodName) prog_6_method_9_code (6 : Nat) (Option.some Jvm.ClassFile.FieldType.int)) ∈ lwB := lwB_t (k := 435) rfl rfl
theorem wm_436 : (Jvm.Cond.methodLink "HyphenBookModel" (65 : Nat) ({ cls := "HyphenBookModel", name := "readPattern", desc := "()I" } : Jvm.MethodName)) ∈ lwB := lwB_t (k := 436) rfl rfl
theorem wm_438 : (Jvm.Cond.instanceMethod ({ cls := "HyphenBookModel", name := "readPattern", desc := "()I" } : Jvm.MethodName)) ∈ lwB := lwB_t (k := 438) rfl rfl
theorem wm_439 : (Jvm.Cond.code ({ cls := "HyphenBookModel", name := "readPattern", desc := "()I" } : Jvm.MethodName) prog_6_method_7_code (7 : Nat) (Option.some Jvm.ClassFile.FieldType.int)) ∈ lwB := lwB_t (k := 439) rfl rfl
theorem wm_440 : (Jvm.Cond.methodLink "HyphenBookModel" (58 : Nat) ({ cls := "HyphenBookModel", name := "isLetter", desc := "(I)Z" } : Jvm.MethodName)) ∈ lwB := lwB_t (k := 440) rfl rfl
theorem wm_441 : (Jvm.Cond.static ({ cls := "HyphenBookModel", name := "isLetter", desc := "(I)Z" } : Jvm.MethodName)) ∈ lwB := lwB_t (k := 441) rfl rfl
theorem wm_442 : (Jvm.Cond.code ({ cls := "HyphenBookModel", name := "isLetter", desc := "(I)Z" } : Jvm.MethodName) prog_6_method_5_code (1 : Nat) (Option.some Jvm.ClassFile.FieldType.boolean)) ∈ lwB := lwB_t (k := 442) rfl rfl
theorem wm_443 : (Jvm.Cond.methodLink "HyphenBookModel" (62 : Nat) ({ cls := "HyphenBookModel", name := "isDigit", desc := "(I)Z" } : Jvm.MethodName)) ∈ lwB := lwB_t (k := 443) rfl rfl
theorem wm_444 : (Jvm.Cond.static ({ cls := "HyphenBookModel", name := "isDigit", desc := "(I)Z" } : Jvm.MethodName)) ∈ lwB := lwB_t (k := 444) rfl rfl
theorem wm_445 : (Jvm.Cond.code ({ cls := "HyphenBookModel", name := "isDigit", desc := "(I)Z" } : Jvm.MethodName) prog_6_method_6_code (1 : Nat) (Option.some Jvm.ClassFile.FieldType.boolean)) ∈ lwB := lwB_t (k := 445) rfl rfl
theorem wm_446 : (Jvm.Cond.methodLink "HyphenBookModel" (69 : Nat) ({ cls := "HyphenBookModel", name := "fails", desc := "(I)I" } : Jvm.MethodName)) ∈ lwB := lwB_t (k := 446) rfl rfl
theorem wm_448 : (Jvm.Cond.instanceMethod ({ cls := "HyphenBookModel", name := "fails", desc := "(I)I" } : Jvm.MethodName)) ∈ lwB := lwB_t (k := 448) rfl rfl
theorem wm_449 : (Jvm.Cond.code ({ cls := "HyphenBookModel", name := "fails", desc := "(I)I" } : Jvm.MethodName) prog_6_method_3_code (2 : Nat) (Option.some Jvm.ClassFile.FieldType.int)) ∈ lwB := lwB_t (k := 449) rfl rfl
theorem wm_450 : (Jvm.Cond.methodLink "HyphenBookModel" (73 : Nat) ({ cls := "HyphenBookModel", name := "common", desc := "(III)I" } : Jvm.MethodName)) ∈ lwB := lwB_t (k := 450) rfl rfl
theorem wm_452 : (Jvm.Cond.instanceMethod ({ cls := "HyphenBookModel", name := "common", desc := "(III)I" } : Jvm.MethodName)) ∈ lwB := lwB_t (k := 452) rfl rfl
theorem wm_453 : (Jvm.Cond.code ({ cls := "HyphenBookModel", name := "common", desc := "(III)I" } : Jvm.MethodName) prog_6_method_8_code (5 : Nat) (Option.some Jvm.ClassFile.FieldType.int)) ∈ lwB := lwB_t (k := 453) rfl rfl
theorem wm_454 : (Jvm.Cond.constant "HyphenBookModel" (80 : Nat) (32768 : Int32)) ∈ lwB := lwB_t (k := 454) rfl rfl
theorem wm_455 : (Jvm.Cond.methodLink "HyphenBookLaw" (46 : Nat) ({ cls := "HyphenBookModel", name := "exception", desc := "()I" } : Jvm.MethodName)) ∈ lwB := lwB_t (k := 455) rfl rfl
theorem wm_456 : (Jvm.Cond.instanceMethod ({ cls := "HyphenBookModel", name := "exception", desc := "()I" } : Jvm.MethodName)) ∈ lwB := lwB_t (k := 456) rfl rfl
theorem wm_457 : (Jvm.Cond.selects "HyphenBookModel" ({ cls := "HyphenBookModel", name := "exception", desc := "()I" } : Jvm.MethodName) ({ cls := "HyphenBookModel", name := "exception", desc := "()I" } : Jvm.MethodName)) ∈ lwB := lwB_t (k := 457) rfl rfl
theorem wm_458 : (Jvm.Cond.code ({ cls := "HyphenBookModel", name := "exception", desc := "()I" } : Jvm.MethodName) prog_6_method_11_code (6 : Nat) (Option.some Jvm.ClassFile.FieldType.int)) ∈ lwB := lwB_t (k := 458) rfl rfl
theorem wm_459 : (Jvm.Cond.methodLink "HyphenBookModel" (84 : Nat) ({ cls := "HyphenBookModel", name := "find", desc := "(I)I" } : Jvm.MethodName)) ∈ lwB := lwB_t (k := 459) rfl rfl
theorem wm_461 : (Jvm.Cond.instanceMethod ({ cls := "HyphenBookModel", name := "find", desc := "(I)I" } : Jvm.MethodName)) ∈ lwB := lwB_t (k := 461) rfl rfl
theorem wm_462 : (Jvm.Cond.code ({ cls := "HyphenBookModel", name := "find", desc := "(I)I" } : Jvm.MethodName) prog_6_method_10_code (5 : Nat) (Option.some Jvm.ClassFile.FieldType.int)) ∈ lwB := lwB_t (k := 462) rfl rfl
theorem wm_463 : (Jvm.Cond.methodLink "HyphenBookLaw" (49 : Nat) ({ cls := "HyphenBookModel", name := "word", desc := "()J" } : Jvm.MethodName)) ∈ lwB := lwB_t (k := 463) rfl rfl
theorem wm_464 : (Jvm.Cond.instanceMethod ({ cls := "HyphenBookModel", name := "word", desc := "()J" } : Jvm.MethodName)) ∈ lwB := lwB_t (k := 464) rfl rfl
theorem wm_465 : (Jvm.Cond.selects "HyphenBookModel" ({ cls := "HyphenBookModel", name := "word", desc := "()J" } : Jvm.MethodName) ({ cls := "HyphenBookModel", name := "word", desc := "()J" } : Jvm.MethodName)) ∈ lwB := lwB_t (k := 465) rfl rfl
theorem wm_466 : (Jvm.Cond.code ({ cls := "HyphenBookModel", name := "word", desc := "()J" } : Jvm.MethodName) prog_6_method_13_code (7 : Nat) (Option.some Jvm.ClassFile.FieldType.long)) ∈ lwB := lwB_t (k := 466) rfl rfl
theorem wm_467 : (Jvm.Cond.methodLink "HyphenBookModel" (94 : Nat) ({ cls := "HyphenBookModel", name := "attempt", desc := "(II)V" } : Jvm.MethodName)) ∈ lwB := lwB_t (k := 467) rfl rfl
theorem wm_469 : (Jvm.Cond.instanceMethod ({ cls := "HyphenBookModel", name := "attempt", desc := "(II)V" } : Jvm.MethodName)) ∈ lwB := lwB_t (k := 469) rfl rfl
theorem wm_470 : (Jvm.Cond.code ({ cls := "HyphenBookModel", name := "attempt", desc := "(II)V" } : Jvm.MethodName) prog_6_method_12_code (6 : Nat) (Option.none : Option Jvm.ClassFile.FieldType)) ∈ lwB := lwB_t (k := 470) rfl rfl
theorem wm_471 : (Jvm.Cond.methodLink "HyphenBookLaw" (54 : Nat) ({ cls := "HyphenBookModel", name := "least", desc := "(II)Z" } : Jvm.MethodName)) ∈ lwB := lwB_t (k := 471) rfl rfl
theorem wm_472 : (Jvm.Cond.instanceMethod ({ cls := "HyphenBookModel", name := "least", desc := "(II)Z" } : Jvm.MethodName)) ∈ lwB := lwB_t (k := 472) rfl rfl
theorem wm_473 : (Jvm.Cond.selects "HyphenBookModel" ({ cls := "HyphenBookModel", name := "least", desc := "(II)Z" } : Jvm.MethodName) ({ cls := "HyphenBookModel", name := "least", desc := "(II)Z" } : Jvm.MethodName)) ∈ lwB := lwB_t (k := 473) rfl rfl
theorem wm_474 : (Jvm.Cond.code ({ cls := "HyphenBookModel", name := "least", desc := "(II)Z" } : Jvm.MethodName) prog_6_method_14_code (3 : Nat) (Option.some Jvm.ClassFile.FieldType.boolean)) ∈ lwB := lwB_t (k := 474) rfl rfl
theorem wm_475 : (Jvm.Cond.methodLink "HyphenBookLaw" (59 : Nat) ({ cls := "HyphenBookModel", name := "value", desc := "(I)I" } : Jvm.MethodName)) ∈ lwB := lwB_t (k := 475) rfl rfl
theorem wm_476 : (Jvm.Cond.instanceMethod ({ cls := "HyphenBookModel", name := "value", desc := "(I)I" } : Jvm.MethodName)) ∈ lwB := lwB_t (k := 476) rfl rfl
theorem wm_477 : (Jvm.Cond.selects "HyphenBookModel" ({ cls := "HyphenBookModel", name := "value", desc := "(I)I" } : Jvm.MethodName) ({ cls := "HyphenBookModel", name := "value", desc := "(I)I" } : Jvm.MethodName)) ∈ lwB := lwB_t (k := 477) rfl rfl
theorem wm_478 : (Jvm.Cond.code ({ cls := "HyphenBookModel", name := "value", desc := "(I)I" } : Jvm.MethodName) prog_6_method_15_code (2 : Nat) (Option.some Jvm.ClassFile.FieldType.int)) ∈ lwB := lwB_t (k := 478) rfl rfl
theorem wm_479 : (Jvm.Cond.methodLink "HyphenBookLaw" (63 : Nat) ({ cls := "HyphenBookModel", name := "count", desc := "(I)I" } : Jvm.MethodName)) ∈ lwB := lwB_t (k := 479) rfl rfl
theorem wm_480 : (Jvm.Cond.instanceMethod ({ cls := "HyphenBookModel", name := "count", desc := "(I)I" } : Jvm.MethodName)) ∈ lwB := lwB_t (k := 480) rfl rfl
theorem wm_481 : (Jvm.Cond.selects "HyphenBookModel" ({ cls := "HyphenBookModel", name := "count", desc := "(I)I" } : Jvm.MethodName) ({ cls := "HyphenBookModel", name := "count", desc := "(I)I" } : Jvm.MethodName)) ∈ lwB := lwB_t (k := 481) rfl rfl
theorem wm_482 : (Jvm.Cond.code ({ cls := "HyphenBookModel", name := "count", desc := "(I)I" } : Jvm.MethodName) prog_6_method_16_code (2 : Nat) (Option.some Jvm.ClassFile.FieldType.int)) ∈ lwB := lwB_t (k := 482) rfl rfl
theorem wm_483 : (Jvm.Cond.constantLong "HyphenBookLaw" (28 : Nat) (4294967295 : Int64)) ∈ lwB := lwB_t (k := 483) rfl rfl
theorem wm_484 : (Jvm.Cond.sameMethod "java/lang/Throwable" "java/lang/Throwable" "fillInStackTrace" "(I)Ljava/lang/Throwable;") ∈ lwB := lwB_t (k := 484) rfl rfl
theorem wp_0 : Cond.selects "HyphenBook" ({ cls := "HyphenBook", name := "lettersOfAsked", desc := "()I" } : Jvm.MethodName) ({ cls := "HyphenBook", name := "lettersOfAsked", desc := "()I" } : Jvm.MethodName) ∈ lwB := lwB_s (k := 0) rfl rfl
theorem wp_1 : Cond.selects "HyphenBook" ({ cls := "HyphenBook", name := "readPattern", desc := "()Z" } : Jvm.MethodName) ({ cls := "HyphenBook", name := "readPattern", desc := "()Z" } : Jvm.MethodName) ∈ lwB := lwB_s (k := 1) rfl rfl
theorem wp_2 : Cond.selects "HyphenBook" ({ cls := "HyphenBook", name := "dropNumbersOutsideEdges", desc := "()V" } : Jvm.MethodName) ({ cls := "HyphenBook", name := "dropNumbersOutsideEdges", desc := "()V" } : Jvm.MethodName) ∈ lwB := lwB_s (k := 2) rfl rfl
theorem wp_3 : Cond.selects "HyphenBook" ({ cls := "HyphenBook", name := "signsReadMakeAPattern", desc := "()Z" } : Jvm.MethodName) ({ cls := "HyphenBook", name := "signsReadMakeAPattern", desc := "()Z" } : Jvm.MethodName) ∈ lwB := lwB_s (k := 3) rfl rfl
theorem wp_4 : Cond.selects "java/lang/Throwable" ({ cls := "java/lang/Throwable", name := "fillInStackTrace", desc := "(I)Ljava/lang/Throwable;" } : Jvm.MethodName) ({ cls := "java/lang/Throwable", name := "fillInStackTrace", desc := "(I)Ljava/lang/Throwable;" } : Jvm.MethodName) ∈ lwB := lwB_s (k := 4) rfl rfl
theorem wp_5 : Cond.selects "HyphenBook" ({ cls := "HyphenBook", name := "readException", desc := "()Z" } : Jvm.MethodName) ({ cls := "HyphenBook", name := "readException", desc := "()Z" } : Jvm.MethodName) ∈ lwB := lwB_s (k := 5) rfl rfl
theorem wp_6 : Cond.selects "HyphenBook" ({ cls := "HyphenBook", name := "draftIsWord", desc := "()Z" } : Jvm.MethodName) ({ cls := "HyphenBook", name := "draftIsWord", desc := "()Z" } : Jvm.MethodName) ∈ lwB := lwB_s (k := 6) rfl rfl
theorem wp_7 : Cond.selects "HyphenBook" ({ cls := "HyphenBook", name := "copyDraftToAsked", desc := "()V" } : Jvm.MethodName) ({ cls := "HyphenBook", name := "copyDraftToAsked", desc := "()V" } : Jvm.MethodName) ∈ lwB := lwB_s (k := 7) rfl rfl
theorem wp_8 : Cond.selects "HyphenBook$SignTree" ({ cls := "HyphenBook$SignTree", name := "raiseNumbersFrom", desc := "(ILHyphenBook$SignRow;)V" } : Jvm.MethodName) ({ cls := "HyphenBook$SignTree", name := "raiseNumbersFrom", desc := "(ILHyphenBook$SignRow;)V" } : Jvm.MethodName) ∈ lwB := lwB_s (k := 8) rfl rfl
theorem wp_9 : Cond.selects "HyphenBook" ({ cls := "HyphenBook", name := "cutsOfAsked", desc := "()J" } : Jvm.MethodName) ({ cls := "HyphenBook", name := "cutsOfAsked", desc := "()J" } : Jvm.MethodName) ∈ lwB := lwB_s (k := 9) rfl rfl
theorem wp_10 : Cond.selects "HyphenBookModel" ({ cls := "HyphenBookModel", name := "readPattern", desc := "()I" } : Jvm.MethodName) ({ cls := "HyphenBookModel", name := "readPattern", desc := "()I" } : Jvm.MethodName) ∈ lwB := lwB_s (k := 10) rfl rfl
theorem wp_11 : Cond.selects "HyphenBookModel" ({ cls := "HyphenBookModel", name := "fails", desc := "(I)I" } : Jvm.MethodName) ({ cls := "HyphenBookModel", name := "fails", desc := "(I)I" } : Jvm.MethodName) ∈ lwB := lwB_s (k := 11) rfl rfl
theorem wp_12 : Cond.selects "HyphenBookModel" ({ cls := "HyphenBookModel", name := "common", desc := "(III)I" } : Jvm.MethodName) ({ cls := "HyphenBookModel", name := "common", desc := "(III)I" } : Jvm.MethodName) ∈ lwB := lwB_s (k := 12) rfl rfl
theorem wp_13 : Cond.selects "HyphenBookModel" ({ cls := "HyphenBookModel", name := "find", desc := "(I)I" } : Jvm.MethodName) ({ cls := "HyphenBookModel", name := "find", desc := "(I)I" } : Jvm.MethodName) ∈ lwB := lwB_s (k := 13) rfl rfl
theorem wp_14 : Cond.selects "HyphenBookModel" ({ cls := "HyphenBookModel", name := "attempt", desc := "(II)V" } : Jvm.MethodName) ({ cls := "HyphenBookModel", name := "attempt", desc := "(II)V" } : Jvm.MethodName) ∈ lwB := lwB_s (k := 14) rfl rfl
theorem in_nd : ∀ w ∈ u_ws R_nd F_nd 4, w ∈ lwB := by
  intro w hw
  obtain ⟨k, hk, rfl⟩ := List.mem_map.mp hw
  rw [List.mem_range] at hk
  match k, hk with
  | 0, _ => exact wm_37
  | 1, _ => exact wm_39
  | 2, _ => exact wm_41
  | 3, _ => exact wm_43
  | n + 4, h => exact absurd h (by omega)
theorem in_rw : ∀ w ∈ u_ws R_rw F_rw 3, w ∈ lwB := by
  intro w hw
  obtain ⟨k, hk, rfl⟩ := List.mem_map.mp hw
  rw [List.mem_range] at hk
  match k, hk with
  | 0, _ => exact wm_66
  | 1, _ => exact wm_68
  | 2, _ => exact wm_70
  | n + 3, h => exact absurd h (by omega)
theorem in_tr : ∀ w ∈ u_ws R_tr F_tr 3, w ∈ lwB := by
  intro w hw
  obtain ⟨k, hk, rfl⟩ := List.mem_map.mp hw
  rw [List.mem_range] at hk
  match k, hk with
  | 0, _ => exact wm_50
  | 1, _ => exact wm_52
  | 2, _ => exact wm_54
  | n + 3, h => exact absurd h (by omega)
theorem in_bk : ∀ w ∈ u_ws R_bk F_bk 8, w ∈ lwB := by
  intro w hw
  obtain ⟨k, hk, rfl⟩ := List.mem_map.mp hw
  rw [List.mem_range] at hk
  match k, hk with
  | 0, _ => exact wm_81
  | 1, _ => exact wm_83
  | 2, _ => exact wm_85
  | 3, _ => exact wm_87
  | 4, _ => exact wm_89
  | 5, _ => exact wm_91
  | 6, _ => exact wm_93
  | 7, _ => exact wm_95
  | n + 8, h => exact absurd h (by omega)
theorem in_md : ∀ w ∈ u_ws R_md F_md 18, w ∈ lwB := by
  intro w hw
  obtain ⟨k, hk, rfl⟩ := List.mem_map.mp hw
  rw [List.mem_range] at hk
  match k, hk with
  | 0, _ => exact wm_385
  | 1, _ => exact wm_387
  | 2, _ => exact wm_389
  | 3, _ => exact wm_391
  | 4, _ => exact wm_393
  | 5, _ => exact wm_395
  | 6, _ => exact wm_397
  | 7, _ => exact wm_399
  | 8, _ => exact wm_401
  | 9, _ => exact wm_403
  | 10, _ => exact wm_405
  | 11, _ => exact wm_407
  | 12, _ => exact wm_409
  | 13, _ => exact wm_411
  | 14, _ => exact wm_413
  | 15, _ => exact wm_415
  | 16, _ => exact wm_417
  | 17, _ => exact wm_419
  | n + 18, h => exact absurd h (by omega)
end
section
theorem d_bk_init_0 : decode b_bk_init 0 = .ok (.aload_n 0, 1) := by decide +kernel
theorem d_bk_init_1 : decode b_bk_init 1 = .ok (.invokespecial 3, 3) := by decide +kernel
theorem d_bk_init_4 : decode b_bk_init 4 = .ok (.aload_n 0, 1) := by decide +kernel
theorem d_bk_init_5 : decode b_bk_init 5 = .ok (.sipush 200, 3) := by decide +kernel
theorem d_bk_init_8 : decode b_bk_init 8 = .ok (.newarray .int, 2) := by decide +kernel
theorem d_bk_init_10 : decode b_bk_init 10 = .ok (.putfield 9, 3) := by decide +kernel
theorem d_bk_init_13 : decode b_bk_init 13 = .ok (.aload_n 0, 1) := by decide +kernel
theorem d_bk_init_14 : decode b_bk_init 14 = .ok (.iconst 0, 1) := by decide +kernel
theorem d_bk_init_15 : decode b_bk_init 15 = .ok (.putfield 13, 3) := by decide +kernel
theorem d_bk_init_18 : decode b_bk_init 18 = .ok (.aload_n 0, 1) := by decide +kernel
theorem d_bk_init_19 : decode b_bk_init 19 = .ok (.iconst 2, 1) := by decide +kernel
theorem d_bk_init_20 : decode b_bk_init 20 = .ok (.putfield 17, 3) := by decide +kernel
theorem d_bk_init_23 : decode b_bk_init 23 = .ok (.aload_n 0, 1) := by decide +kernel
theorem d_bk_init_24 : decode b_bk_init 24 = .ok (.iconst 3, 1) := by decide +kernel
theorem d_bk_init_25 : decode b_bk_init 25 = .ok (.putfield 20, 3) := by decide +kernel
theorem d_bk_init_28 : decode b_bk_init 28 = .ok (.aload_n 0, 1) := by decide +kernel
theorem d_bk_init_29 : decode b_bk_init 29 = .ok (.new 23, 3) := by decide +kernel
theorem d_bk_init_32 : decode b_bk_init 32 = .ok (.dup, 1) := by decide +kernel
theorem d_bk_init_33 : decode b_bk_init 33 = .ok (.invokespecial 25, 3) := by decide +kernel
theorem d_bk_init_36 : decode b_bk_init 36 = .ok (.putfield 26, 3) := by decide +kernel
theorem d_bk_init_39 : decode b_bk_init 39 = .ok (.aload_n 0, 1) := by decide +kernel
theorem d_bk_init_40 : decode b_bk_init 40 = .ok (.new 23, 3) := by decide +kernel
theorem d_bk_init_43 : decode b_bk_init 43 = .ok (.dup, 1) := by decide +kernel
theorem d_bk_init_44 : decode b_bk_init 44 = .ok (.invokespecial 25, 3) := by decide +kernel
theorem d_bk_init_47 : decode b_bk_init 47 = .ok (.putfield 30, 3) := by decide +kernel
theorem d_bk_init_50 : decode b_bk_init 50 = .ok (.aload_n 0, 1) := by decide +kernel
theorem d_bk_init_51 : decode b_bk_init 51 = .ok (.new 33, 3) := by decide +kernel
theorem d_bk_init_54 : decode b_bk_init 54 = .ok (.dup, 1) := by decide +kernel
theorem d_bk_init_55 : decode b_bk_init 55 = .ok (.invokespecial 35, 3) := by decide +kernel
theorem d_bk_init_58 : decode b_bk_init 58 = .ok (.putfield 36, 3) := by decide +kernel
theorem d_bk_init_61 : decode b_bk_init 61 = .ok (.aload_n 0, 1) := by decide +kernel
theorem d_bk_init_62 : decode b_bk_init 62 = .ok (.new 33, 3) := by decide +kernel
theorem d_bk_init_65 : decode b_bk_init 65 = .ok (.dup, 1) := by decide +kernel
theorem d_bk_init_66 : decode b_bk_init 66 = .ok (.invokespecial 35, 3) := by decide +kernel
theorem d_bk_init_69 : decode b_bk_init 69 = .ok (.putfield 40, 3) := by decide +kernel
theorem d_bk_init_72 : decode b_bk_init 72 = .ok (.return_, 1) := by decide +kernel
theorem d_tr_init_0 : decode b_tr_init 0 = .ok (.aload_n 0, 1) := by decide +kernel
theorem d_tr_init_1 : decode b_tr_init 1 = .ok (.invokespecial 1, 3) := by decide +kernel
theorem d_tr_init_4 : decode b_tr_init 4 = .ok (.aload_n 0, 1) := by decide +kernel
theorem d_tr_init_5 : decode b_tr_init 5 = .ok (.new 7, 3) := by decide +kernel
theorem d_tr_init_8 : decode b_tr_init 8 = .ok (.dup, 1) := by decide +kernel
theorem d_tr_init_9 : decode b_tr_init 9 = .ok (.iconst 0, 1) := by decide +kernel
theorem d_tr_init_10 : decode b_tr_init 10 = .ok (.invokespecial 9, 3) := by decide +kernel
theorem d_tr_init_13 : decode b_tr_init 13 = .ok (.putfield 12, 3) := by decide +kernel
theorem d_tr_init_16 : decode b_tr_init 16 = .ok (.aload_n 0, 1) := by decide +kernel
theorem d_tr_init_17 : decode b_tr_init 17 = .ok (.iconst 0, 1) := by decide +kernel
theorem d_tr_init_18 : decode b_tr_init 18 = .ok (.putfield 18, 3) := by decide +kernel
theorem d_tr_init_21 : decode b_tr_init 21 = .ok (.aload_n 0, 1) := by decide +kernel
theorem d_tr_init_22 : decode b_tr_init 22 = .ok (.iconst 0, 1) := by decide +kernel
theorem d_tr_init_23 : decode b_tr_init 23 = .ok (.putfield 22, 3) := by decide +kernel
theorem d_tr_init_26 : decode b_tr_init 26 = .ok (.return_, 1) := by decide +kernel
theorem d_nd_init_0 : decode b_nd_init 0 = .ok (.aload_n 0, 1) := by decide +kernel
theorem d_nd_init_1 : decode b_nd_init 1 = .ok (.invokespecial 1, 3) := by decide +kernel
theorem d_nd_init_4 : decode b_nd_init 4 = .ok (.aload_n 0, 1) := by decide +kernel
theorem d_nd_init_5 : decode b_nd_init 5 = .ok (.aconst_null, 1) := by decide +kernel
theorem d_nd_init_6 : decode b_nd_init 6 = .ok (.putfield 7, 3) := by decide +kernel
theorem d_nd_init_9 : decode b_nd_init 9 = .ok (.aload_n 0, 1) := by decide +kernel
theorem d_nd_init_10 : decode b_nd_init 10 = .ok (.aconst_null, 1) := by decide +kernel
theorem d_nd_init_11 : decode b_nd_init 11 = .ok (.putfield 13, 3) := by decide +kernel
theorem d_nd_init_14 : decode b_nd_init 14 = .ok (.aload_n 0, 1) := by decide +kernel
theorem d_nd_init_15 : decode b_nd_init 15 = .ok (.aconst_null, 1) := by decide +kernel
theorem d_nd_init_16 : decode b_nd_init 16 = .ok (.putfield 16, 3) := by decide +kernel
theorem d_nd_init_19 : decode b_nd_init 19 = .ok (.aload_n 0, 1) := by decide +kernel
theorem d_nd_init_20 : decode b_nd_init 20 = .ok (.iload_n 1, 1) := by decide +kernel
theorem d_nd_init_21 : decode b_nd_init 21 = .ok (.putfield 20, 3) := by decide +kernel
theorem d_nd_init_24 : decode b_nd_init 24 = .ok (.return_, 1) := by decide +kernel
theorem d_rw_init_0 : decode b_rw_init 0 = .ok (.aload_n 0, 1) := by decide +kernel
theorem d_rw_init_1 : decode b_rw_init 1 = .ok (.invokespecial 3, 3) := by decide +kernel
theorem d_rw_init_4 : decode b_rw_init 4 = .ok (.aload_n 0, 1) := by decide +kernel
theorem d_rw_init_5 : decode b_rw_init 5 = .ok (.bipush 65, 2) := by decide +kernel
theorem d_rw_init_7 : decode b_rw_init 7 = .ok (.newarray .int, 2) := by decide +kernel
theorem d_rw_init_9 : decode b_rw_init 9 = .ok (.putfield 9, 3) := by decide +kernel
theorem d_rw_init_12 : decode b_rw_init 12 = .ok (.aload_n 0, 1) := by decide +kernel
theorem d_rw_init_13 : decode b_rw_init 13 = .ok (.bipush 66, 2) := by decide +kernel
theorem d_rw_init_15 : decode b_rw_init 15 = .ok (.newarray .int, 2) := by decide +kernel
theorem d_rw_init_17 : decode b_rw_init 17 = .ok (.putfield 15, 3) := by decide +kernel
theorem d_rw_init_20 : decode b_rw_init 20 = .ok (.aload_n 0, 1) := by decide +kernel
theorem d_rw_init_21 : decode b_rw_init 21 = .ok (.iconst 0, 1) := by decide +kernel
theorem d_rw_init_22 : decode b_rw_init 22 = .ok (.putfield 18, 3) := by decide +kernel
theorem d_rw_init_25 : decode b_rw_init 25 = .ok (.return_, 1) := by decide +kernel
theorem d_bk_put_0 : decode b_bk_put 0 = .ok (.iload_n 3, 1) := by decide +kernel
theorem d_bk_put_1 : decode b_bk_put 1 = .ok (.iconst 1, 1) := by decide +kernel
theorem d_bk_put_2 : decode b_bk_put 2 = .ok (.if_icmp .lt 23, 3) := by decide +kernel
theorem d_bk_put_5 : decode b_bk_put 5 = .ok (.iload_n 3, 1) := by decide +kernel
theorem d_bk_put_6 : decode b_bk_put 6 = .ok (.bipush 8, 2) := by decide +kernel
theorem d_bk_put_8 : decode b_bk_put 8 = .ok (.if_icmp .gt 17, 3) := by decide +kernel
theorem d_bk_put_11 : decode b_bk_put 11 = .ok (.aload_n 0, 1) := by decide +kernel
theorem d_bk_put_12 : decode b_bk_put 12 = .ok (.getfield 13, 3) := by decide +kernel
theorem d_bk_put_15 : decode b_bk_put 15 = .ok (.iload_n 3, 1) := by decide +kernel
theorem d_bk_put_16 : decode b_bk_put 16 = .ok (.iadd, 1) := by decide +kernel
theorem d_bk_put_17 : decode b_bk_put 17 = .ok (.aload_n 0, 1) := by decide +kernel
theorem d_bk_put_18 : decode b_bk_put 18 = .ok (.getfield 9, 3) := by decide +kernel
theorem d_bk_put_21 : decode b_bk_put 21 = .ok (.arraylength, 1) := by decide +kernel
theorem d_bk_put_22 : decode b_bk_put 22 = .ok (.if_icmp .le 5, 3) := by decide +kernel
theorem d_bk_put_25 : decode b_bk_put 25 = .ok (.iconst 0, 1) := by decide +kernel
theorem d_bk_put_26 : decode b_bk_put 26 = .ok (.ireturn, 1) := by decide +kernel
theorem d_bk_put_27 : decode b_bk_put 27 = .ok (.iload_n 3, 1) := by decide +kernel
theorem d_bk_put_28 : decode b_bk_put 28 = .ok (.iconst 1, 1) := by decide +kernel
theorem d_bk_put_29 : decode b_bk_put 29 = .ok (.isub, 1) := by decide +kernel
theorem d_bk_put_30 : decode b_bk_put 30 = .ok (.istore 4, 2) := by decide +kernel
theorem d_bk_put_32 : decode b_bk_put 32 = .ok (.iload 4, 2) := by decide +kernel
theorem d_bk_put_34 : decode b_bk_put 34 = .ok (.ifCond .lt 40, 3) := by decide +kernel
theorem d_bk_put_37 : decode b_bk_put 37 = .ok (.aload_n 0, 1) := by decide +kernel
theorem d_bk_put_38 : decode b_bk_put 38 = .ok (.getfield 9, 3) := by decide +kernel
theorem d_bk_put_41 : decode b_bk_put 41 = .ok (.aload_n 0, 1) := by decide +kernel
theorem d_bk_put_42 : decode b_bk_put 42 = .ok (.getfield 13, 3) := by decide +kernel
theorem d_bk_put_45 : decode b_bk_put 45 = .ok (.lload_n 1, 1) := by decide +kernel
theorem d_bk_put_46 : decode b_bk_put 46 = .ok (.bipush 8, 2) := by decide +kernel
theorem d_bk_put_48 : decode b_bk_put 48 = .ok (.iload 4, 2) := by decide +kernel
theorem d_bk_put_50 : decode b_bk_put 50 = .ok (.imul, 1) := by decide +kernel
theorem d_bk_put_51 : decode b_bk_put 51 = .ok (.lushr, 1) := by decide +kernel
theorem d_bk_put_52 : decode b_bk_put 52 = .ok (.l2i, 1) := by decide +kernel
theorem d_bk_put_53 : decode b_bk_put 53 = .ok (.sipush 255, 3) := by decide +kernel
theorem d_bk_put_56 : decode b_bk_put 56 = .ok (.iand, 1) := by decide +kernel
theorem d_bk_put_57 : decode b_bk_put 57 = .ok (.iastore, 1) := by decide +kernel
theorem d_bk_put_58 : decode b_bk_put 58 = .ok (.aload_n 0, 1) := by decide +kernel
theorem d_bk_put_59 : decode b_bk_put 59 = .ok (.dup, 1) := by decide +kernel
theorem d_bk_put_60 : decode b_bk_put 60 = .ok (.getfield 13, 3) := by decide +kernel
theorem d_bk_put_63 : decode b_bk_put 63 = .ok (.iconst 1, 1) := by decide +kernel
theorem d_bk_put_64 : decode b_bk_put 64 = .ok (.iadd, 1) := by decide +kernel
theorem d_bk_put_65 : decode b_bk_put 65 = .ok (.putfield 13, 3) := by decide +kernel
theorem d_bk_put_68 : decode b_bk_put 68 = .ok (.iinc 4 (-1), 3) := by decide +kernel
theorem d_bk_put_71 : decode b_bk_put 71 = .ok (.goto (-39), 3) := by decide +kernel
theorem d_bk_put_74 : decode b_bk_put 74 = .ok (.iconst 1, 1) := by decide +kernel
theorem d_bk_put_75 : decode b_bk_put 75 = .ok (.ireturn, 1) := by decide +kernel
theorem d_bk_least_0 : decode b_bk_least 0 = .ok (.iload_n 1, 1) := by decide +kernel
theorem d_bk_least_1 : decode b_bk_least 1 = .ok (.iconst 1, 1) := by decide +kernel
theorem d_bk_least_2 : decode b_bk_least 2 = .ok (.if_icmp .lt 20, 3) := by decide +kernel
theorem d_bk_least_5 : decode b_bk_least 5 = .ok (.iload_n 1, 1) := by decide +kernel
theorem d_bk_least_6 : decode b_bk_least 6 = .ok (.bipush 63, 2) := by decide +kernel
theorem d_bk_least_8 : decode b_bk_least 8 = .ok (.if_icmp .gt 14, 3) := by decide +kernel
theorem d_bk_least_11 : decode b_bk_least 11 = .ok (.iload_n 2, 1) := by decide +kernel
theorem d_bk_least_12 : decode b_bk_least 12 = .ok (.iconst 1, 1) := by decide +kernel
theorem d_bk_least_13 : decode b_bk_least 13 = .ok (.if_icmp .lt 9, 3) := by decide +kernel
theorem d_bk_least_16 : decode b_bk_least 16 = .ok (.iload_n 2, 1) := by decide +kernel
theorem d_bk_least_17 : decode b_bk_least 17 = .ok (.bipush 63, 2) := by decide +kernel
theorem d_bk_least_19 : decode b_bk_least 19 = .ok (.if_icmp .le 5, 3) := by decide +kernel
theorem d_bk_least_22 : decode b_bk_least 22 = .ok (.iconst 0, 1) := by decide +kernel
theorem d_bk_least_23 : decode b_bk_least 23 = .ok (.ireturn, 1) := by decide +kernel
theorem d_bk_least_24 : decode b_bk_least 24 = .ok (.aload_n 0, 1) := by decide +kernel
theorem d_bk_least_25 : decode b_bk_least 25 = .ok (.iload_n 1, 1) := by decide +kernel
theorem d_bk_least_26 : decode b_bk_least 26 = .ok (.putfield 17, 3) := by decide +kernel
theorem d_bk_least_29 : decode b_bk_least 29 = .ok (.aload_n 0, 1) := by decide +kernel
theorem d_bk_least_30 : decode b_bk_least 30 = .ok (.iload_n 2, 1) := by decide +kernel
theorem d_bk_least_31 : decode b_bk_least 31 = .ok (.putfield 20, 3) := by decide +kernel
theorem d_bk_least_34 : decode b_bk_least 34 = .ok (.iconst 1, 1) := by decide +kernel
theorem d_bk_least_35 : decode b_bk_least 35 = .ok (.ireturn, 1) := by decide +kernel
theorem d_bk_value_0 : decode b_bk_value 0 = .ok (.iload_n 1, 1) := by decide +kernel
theorem d_bk_value_1 : decode b_bk_value 1 = .ok (.iconst 1, 1) := by decide +kernel
theorem d_bk_value_2 : decode b_bk_value 2 = .ok (.if_icmp .lt 11, 3) := by decide +kernel
theorem d_bk_value_5 : decode b_bk_value 5 = .ok (.iload_n 1, 1) := by decide +kernel
theorem d_bk_value_6 : decode b_bk_value 6 = .ok (.aload_n 0, 1) := by decide +kernel
theorem d_bk_value_7 : decode b_bk_value 7 = .ok (.invokevirtual 102, 3) := by decide +kernel
theorem d_bk_value_10 : decode b_bk_value 10 = .ok (.if_icmp .lt 5, 3) := by decide +kernel
theorem d_bk_value_13 : decode b_bk_value 13 = .ok (.iconst (-1), 1) := by decide +kernel
theorem d_bk_value_14 : decode b_bk_value 14 = .ok (.ireturn, 1) := by decide +kernel
theorem d_bk_value_15 : decode b_bk_value 15 = .ok (.aload_n 0, 1) := by decide +kernel
theorem d_bk_value_16 : decode b_bk_value 16 = .ok (.getfield 40, 3) := by decide +kernel
theorem d_bk_value_19 : decode b_bk_value 19 = .ok (.iload_n 1, 1) := by decide +kernel
theorem d_bk_value_20 : decode b_bk_value 20 = .ok (.invokestatic 105, 3) := by decide +kernel
theorem d_bk_value_23 : decode b_bk_value 23 = .ok (.invokevirtual 109, 3) := by decide +kernel
theorem d_bk_value_26 : decode b_bk_value 26 = .ok (.ireturn, 1) := by decide +kernel
theorem d_bk_lettersOfAsked_0 : decode b_bk_lettersOfAsked 0 = .ok (.aload_n 0, 1) := by decide +kernel
theorem d_bk_lettersOfAsked_1 : decode b_bk_lettersOfAsked 1 = .ok (.getfield 40, 3) := by decide +kernel
theorem d_bk_lettersOfAsked_4 : decode b_bk_lettersOfAsked 4 = .ok (.invokevirtual 126, 3) := by decide +kernel
theorem d_bk_lettersOfAsked_7 : decode b_bk_lettersOfAsked 7 = .ok (.iconst 2, 1) := by decide +kernel
theorem d_bk_lettersOfAsked_8 : decode b_bk_lettersOfAsked 8 = .ok (.isub, 1) := by decide +kernel
theorem d_bk_lettersOfAsked_9 : decode b_bk_lettersOfAsked 9 = .ok (.ireturn, 1) := by decide +kernel
theorem d_rw_size_0 : decode b_rw_size 0 = .ok (.aload_n 0, 1) := by decide +kernel
theorem d_rw_size_1 : decode b_rw_size 1 = .ok (.getfield 18, 3) := by decide +kernel
theorem d_rw_size_4 : decode b_rw_size 4 = .ok (.ireturn, 1) := by decide +kernel
theorem d_bk_placeBehind_0 : decode b_bk_placeBehind 0 = .ok (.iload_n 0, 1) := by decide +kernel
theorem d_bk_placeBehind_1 : decode b_bk_placeBehind 1 = .ok (.iconst 1, 1) := by decide +kernel
theorem d_bk_placeBehind_2 : decode b_bk_placeBehind 2 = .ok (.iadd, 1) := by decide +kernel
theorem d_bk_placeBehind_3 : decode b_bk_placeBehind 3 = .ok (.ireturn, 1) := by decide +kernel
theorem d_rw_numberAt_0 : decode b_rw_numberAt 0 = .ok (.aload_n 0, 1) := by decide +kernel
theorem d_rw_numberAt_1 : decode b_rw_numberAt 1 = .ok (.getfield 15, 3) := by decide +kernel
theorem d_rw_numberAt_4 : decode b_rw_numberAt 4 = .ok (.iload_n 1, 1) := by decide +kernel
theorem d_rw_numberAt_5 : decode b_rw_numberAt 5 = .ok (.invokestatic 28, 3) := by decide +kernel
theorem d_rw_numberAt_8 : decode b_rw_numberAt 8 = .ok (.ireturn, 1) := by decide +kernel
theorem d_bk_elementAt_0 : decode b_bk_elementAt 0 = .ok (.aload_n 0, 1) := by decide +kernel
theorem d_bk_elementAt_1 : decode b_bk_elementAt 1 = .ok (.ifnull 19, 3) := by decide +kernel
theorem d_bk_elementAt_4 : decode b_bk_elementAt 4 = .ok (.iload_n 1, 1) := by decide +kernel
theorem d_bk_elementAt_5 : decode b_bk_elementAt 5 = .ok (.ifCond .lt 15, 3) := by decide +kernel
theorem d_bk_elementAt_8 : decode b_bk_elementAt 8 = .ok (.iload_n 1, 1) := by decide +kernel
theorem d_bk_elementAt_9 : decode b_bk_elementAt 9 = .ok (.aload_n 0, 1) := by decide +kernel
theorem d_bk_elementAt_10 : decode b_bk_elementAt 10 = .ok (.arraylength, 1) := by decide +kernel
theorem d_bk_elementAt_11 : decode b_bk_elementAt 11 = .ok (.if_icmp .ge 9, 3) := by decide +kernel
theorem d_bk_elementAt_14 : decode b_bk_elementAt 14 = .ok (.aload_n 0, 1) := by decide +kernel
theorem d_bk_elementAt_15 : decode b_bk_elementAt 15 = .ok (.iload_n 1, 1) := by decide +kernel
theorem d_bk_elementAt_16 : decode b_bk_elementAt 16 = .ok (.iaload, 1) := by decide +kernel
theorem d_bk_elementAt_17 : decode b_bk_elementAt 17 = .ok (.goto 4, 3) := by decide +kernel
theorem d_bk_elementAt_20 : decode b_bk_elementAt 20 = .ok (.iconst 0, 1) := by decide +kernel
theorem d_bk_elementAt_21 : decode b_bk_elementAt 21 = .ok (.ireturn, 1) := by decide +kernel
theorem d_bk_count_0 : decode b_bk_count 0 = .ok (.iload_n 1, 1) := by decide +kernel
theorem d_bk_count_1 : decode b_bk_count 1 = .ok (.tableswitch 60 0 3 #[31, 39, 47, 55], 31) := by decide +kernel
theorem d_bk_count_32 : decode b_bk_count 32 = .ok (.aload_n 0, 1) := by decide +kernel
theorem d_bk_count_33 : decode b_bk_count 33 = .ok (.getfield 26, 3) := by decide +kernel
theorem d_bk_count_36 : decode b_bk_count 36 = .ok (.invokevirtual 63, 3) := by decide +kernel
theorem d_bk_count_39 : decode b_bk_count 39 = .ok (.ireturn, 1) := by decide +kernel
theorem d_bk_count_40 : decode b_bk_count 40 = .ok (.aload_n 0, 1) := by decide +kernel
theorem d_bk_count_41 : decode b_bk_count 41 = .ok (.getfield 30, 3) := by decide +kernel
theorem d_bk_count_44 : decode b_bk_count 44 = .ok (.invokevirtual 63, 3) := by decide +kernel
theorem d_bk_count_47 : decode b_bk_count 47 = .ok (.ireturn, 1) := by decide +kernel
theorem d_bk_count_48 : decode b_bk_count 48 = .ok (.aload_n 0, 1) := by decide +kernel
theorem d_bk_count_49 : decode b_bk_count 49 = .ok (.getfield 26, 3) := by decide +kernel
theorem d_bk_count_52 : decode b_bk_count 52 = .ok (.invokevirtual 112, 3) := by decide +kernel
theorem d_bk_count_55 : decode b_bk_count 55 = .ok (.ireturn, 1) := by decide +kernel
theorem d_bk_count_56 : decode b_bk_count 56 = .ok (.aload_n 0, 1) := by decide +kernel
theorem d_bk_count_57 : decode b_bk_count 57 = .ok (.getfield 13, 3) := by decide +kernel
theorem d_bk_count_60 : decode b_bk_count 60 = .ok (.ireturn, 1) := by decide +kernel
theorem d_bk_count_61 : decode b_bk_count 61 = .ok (.iconst (-1), 1) := by decide +kernel
theorem d_bk_count_62 : decode b_bk_count 62 = .ok (.ireturn, 1) := by decide +kernel
theorem d_tr_entries_0 : decode b_tr_entries 0 = .ok (.aload_n 0, 1) := by decide +kernel
theorem d_tr_entries_1 : decode b_tr_entries 1 = .ok (.getfield 18, 3) := by decide +kernel
theorem d_tr_entries_4 : decode b_tr_entries 4 = .ok (.ireturn, 1) := by decide +kernel
theorem d_tr_beginnings_0 : decode b_tr_beginnings 0 = .ok (.aload_n 0, 1) := by decide +kernel
theorem d_tr_beginnings_1 : decode b_tr_beginnings 1 = .ok (.getfield 22, 3) := by decide +kernel
theorem d_tr_beginnings_4 : decode b_tr_beginnings 4 = .ok (.ireturn, 1) := by decide +kernel
theorem d_lw_pattern_0 : decode b_lw_pattern 0 = .ok (.aload_n 1, 1) := by decide +kernel
theorem d_lw_pattern_1 : decode b_lw_pattern 1 = .ok (.iconst 0, 1) := by decide +kernel
theorem d_lw_pattern_2 : decode b_lw_pattern 2 = .ok (.aload_n 0, 1) := by decide +kernel
theorem d_lw_pattern_3 : decode b_lw_pattern 3 = .ok (.invokevirtual 7, 3) := by decide +kernel
theorem d_lw_pattern_6 : decode b_lw_pattern 6 = .ok (.i2l, 1) := by decide +kernel
theorem d_lw_pattern_7 : decode b_lw_pattern 7 = .ok (.lastore, 1) := by decide +kernel
theorem d_lw_pattern_8 : decode b_lw_pattern 8 = .ok (.goto 9, 3) := by decide +kernel
theorem d_lw_pattern_11 : decode b_lw_pattern 11 = .ok (.astore_n 2, 1) := by decide +kernel
theorem d_lw_pattern_12 : decode b_lw_pattern 12 = .ok (.iconst 1, 1) := by decide +kernel
theorem d_lw_pattern_13 : decode b_lw_pattern 13 = .ok (.ireturn, 1) := by decide +kernel
theorem d_lw_pattern_14 : decode b_lw_pattern 14 = .ok (.astore_n 2, 1) := by decide +kernel
theorem d_lw_pattern_15 : decode b_lw_pattern 15 = .ok (.iconst 2, 1) := by decide +kernel
theorem d_lw_pattern_16 : decode b_lw_pattern 16 = .ok (.ireturn, 1) := by decide +kernel
theorem d_lw_pattern_17 : decode b_lw_pattern 17 = .ok (.iconst 0, 1) := by decide +kernel
theorem d_lw_pattern_18 : decode b_lw_pattern 18 = .ok (.ireturn, 1) := by decide +kernel
theorem d_bk_pattern_0 : decode b_bk_pattern 0 = .ok (.aload_n 0, 1) := by decide +kernel
theorem d_bk_pattern_1 : decode b_bk_pattern 1 = .ok (.invokevirtual 43, 3) := by decide +kernel
theorem d_bk_pattern_4 : decode b_bk_pattern 4 = .ok (.istore_n 1, 1) := by decide +kernel
theorem d_bk_pattern_5 : decode b_bk_pattern 5 = .ok (.aload_n 0, 1) := by decide +kernel
theorem d_bk_pattern_6 : decode b_bk_pattern 6 = .ok (.iconst 0, 1) := by decide +kernel
theorem d_bk_pattern_7 : decode b_bk_pattern 7 = .ok (.putfield 13, 3) := by decide +kernel
theorem d_bk_pattern_10 : decode b_bk_pattern 10 = .ok (.iload_n 1, 1) := by decide +kernel
theorem d_bk_pattern_11 : decode b_bk_pattern 11 = .ok (.ifCond .ne 13, 3) := by decide +kernel
theorem d_bk_pattern_14 : decode b_bk_pattern 14 = .ok (.new 47, 3) := by decide +kernel
theorem d_bk_pattern_17 : decode b_bk_pattern 17 = .ok (.dup, 1) := by decide +kernel
theorem d_bk_pattern_18 : decode b_bk_pattern 18 = .ok (.ldc 49, 2) := by decide +kernel
theorem d_bk_pattern_20 : decode b_bk_pattern 20 = .ok (.invokespecial 51, 3) := by decide +kernel
theorem d_bk_pattern_23 : decode b_bk_pattern 23 = .ok (.athrow, 1) := by decide +kernel
theorem d_bk_pattern_24 : decode b_bk_pattern 24 = .ok (.aload_n 0, 1) := by decide +kernel
theorem d_bk_pattern_25 : decode b_bk_pattern 25 = .ok (.getfield 26, 3) := by decide +kernel
theorem d_bk_pattern_28 : decode b_bk_pattern 28 = .ok (.aload_n 0, 1) := by decide +kernel
theorem d_bk_pattern_29 : decode b_bk_pattern 29 = .ok (.getfield 36, 3) := by decide +kernel
theorem d_bk_pattern_32 : decode b_bk_pattern 32 = .ok (.invokevirtual 54, 3) := by decide +kernel
theorem d_bk_pattern_35 : decode b_bk_pattern 35 = .ok (.ifnull 13, 3) := by decide +kernel
theorem d_bk_pattern_38 : decode b_bk_pattern 38 = .ok (.new 58, 3) := by decide +kernel
theorem d_bk_pattern_41 : decode b_bk_pattern 41 = .ok (.dup, 1) := by decide +kernel
theorem d_bk_pattern_42 : decode b_bk_pattern 42 = .ok (.ldc 60, 2) := by decide +kernel
theorem d_bk_pattern_44 : decode b_bk_pattern 44 = .ok (.invokespecial 62, 3) := by decide +kernel
theorem d_bk_pattern_47 : decode b_bk_pattern 47 = .ok (.athrow, 1) := by decide +kernel
theorem d_bk_pattern_48 : decode b_bk_pattern 48 = .ok (.aload_n 0, 1) := by decide +kernel
theorem d_bk_pattern_49 : decode b_bk_pattern 49 = .ok (.getfield 26, 3) := by decide +kernel
theorem d_bk_pattern_52 : decode b_bk_pattern 52 = .ok (.invokevirtual 63, 3) := by decide +kernel
theorem d_bk_pattern_55 : decode b_bk_pattern 55 = .ok (.sipush 8192, 3) := by decide +kernel
theorem d_bk_pattern_58 : decode b_bk_pattern 58 = .ok (.if_icmp .lt 13, 3) := by decide +kernel
theorem d_bk_pattern_61 : decode b_bk_pattern 61 = .ok (.new 58, 3) := by decide +kernel
theorem d_bk_pattern_64 : decode b_bk_pattern 64 = .ok (.dup, 1) := by decide +kernel
theorem d_bk_pattern_65 : decode b_bk_pattern 65 = .ok (.ldc 67, 2) := by decide +kernel
theorem d_bk_pattern_67 : decode b_bk_pattern 67 = .ok (.invokespecial 62, 3) := by decide +kernel
theorem d_bk_pattern_70 : decode b_bk_pattern 70 = .ok (.athrow, 1) := by decide +kernel
theorem d_bk_pattern_71 : decode b_bk_pattern 71 = .ok (.aload_n 0, 1) := by decide +kernel
theorem d_bk_pattern_72 : decode b_bk_pattern 72 = .ok (.getfield 26, 3) := by decide +kernel
theorem d_bk_pattern_75 : decode b_bk_pattern 75 = .ok (.aload_n 0, 1) := by decide +kernel
theorem d_bk_pattern_76 : decode b_bk_pattern 76 = .ok (.getfield 36, 3) := by decide +kernel
theorem d_bk_pattern_79 : decode b_bk_pattern 79 = .ok (.invokevirtual 69, 3) := by decide +kernel
theorem d_bk_pattern_82 : decode b_bk_pattern 82 = .ok (.ldc 73, 2) := by decide +kernel
theorem d_bk_pattern_84 : decode b_bk_pattern 84 = .ok (.if_icmp .le 13, 3) := by decide +kernel
theorem d_bk_pattern_87 : decode b_bk_pattern 87 = .ok (.new 58, 3) := by decide +kernel
theorem d_bk_pattern_90 : decode b_bk_pattern 90 = .ok (.dup, 1) := by decide +kernel
theorem d_bk_pattern_91 : decode b_bk_pattern 91 = .ok (.ldc 74, 2) := by decide +kernel
theorem d_bk_pattern_93 : decode b_bk_pattern 93 = .ok (.invokespecial 62, 3) := by decide +kernel
theorem d_bk_pattern_96 : decode b_bk_pattern 96 = .ok (.athrow, 1) := by decide +kernel
theorem d_bk_pattern_97 : decode b_bk_pattern 97 = .ok (.aload_n 0, 1) := by decide +kernel
theorem d_bk_pattern_98 : decode b_bk_pattern 98 = .ok (.getfield 26, 3) := by decide +kernel
theorem d_bk_pattern_101 : decode b_bk_pattern 101 = .ok (.aload_n 0, 1) := by decide +kernel
theorem d_bk_pattern_102 : decode b_bk_pattern 102 = .ok (.getfield 36, 3) := by decide +kernel
theorem d_bk_pattern_105 : decode b_bk_pattern 105 = .ok (.invokevirtual 76, 3) := by decide +kernel
theorem d_bk_pattern_108 : decode b_bk_pattern 108 = .ok (.aload_n 0, 1) := by decide +kernel
theorem d_bk_pattern_109 : decode b_bk_pattern 109 = .ok (.getfield 26, 3) := by decide +kernel
theorem d_bk_pattern_112 : decode b_bk_pattern 112 = .ok (.invokevirtual 63, 3) := by decide +kernel
theorem d_bk_pattern_115 : decode b_bk_pattern 115 = .ok (.ireturn, 1) := by decide +kernel
theorem d_bk_readPattern_0 : decode b_bk_readPattern 0 = .ok (.aload_n 0, 1) := by decide +kernel
theorem d_bk_readPattern_1 : decode b_bk_readPattern 1 = .ok (.getfield 36, 3) := by decide +kernel
theorem d_bk_readPattern_4 : decode b_bk_readPattern 4 = .ok (.invokevirtual 115, 3) := by decide +kernel
theorem d_bk_readPattern_7 : decode b_bk_readPattern 7 = .ok (.iconst 0, 1) := by decide +kernel
theorem d_bk_readPattern_8 : decode b_bk_readPattern 8 = .ok (.istore_n 1, 1) := by decide +kernel
theorem d_bk_readPattern_9 : decode b_bk_readPattern 9 = .ok (.iconst 0, 1) := by decide +kernel
theorem d_bk_readPattern_10 : decode b_bk_readPattern 10 = .ok (.istore_n 2, 1) := by decide +kernel
theorem d_bk_readPattern_11 : decode b_bk_readPattern 11 = .ok (.iload_n 2, 1) := by decide +kernel
theorem d_bk_readPattern_12 : decode b_bk_readPattern 12 = .ok (.aload_n 0, 1) := by decide +kernel
theorem d_bk_readPattern_13 : decode b_bk_readPattern 13 = .ok (.getfield 13, 3) := by decide +kernel
theorem d_bk_readPattern_16 : decode b_bk_readPattern 16 = .ok (.if_icmp .ge 82, 3) := by decide +kernel
theorem d_bk_readPattern_19 : decode b_bk_readPattern 19 = .ok (.aload_n 0, 1) := by decide +kernel
theorem d_bk_readPattern_20 : decode b_bk_readPattern 20 = .ok (.getfield 9, 3) := by decide +kernel
theorem d_bk_readPattern_23 : decode b_bk_readPattern 23 = .ok (.iload_n 2, 1) := by decide +kernel
theorem d_bk_readPattern_24 : decode b_bk_readPattern 24 = .ok (.invokestatic 118, 3) := by decide +kernel
theorem d_bk_readPattern_27 : decode b_bk_readPattern 27 = .ok (.istore_n 3, 1) := by decide +kernel
theorem d_bk_readPattern_28 : decode b_bk_readPattern 28 = .ok (.iload_n 3, 1) := by decide +kernel
theorem d_bk_readPattern_29 : decode b_bk_readPattern 29 = .ok (.invokestatic 122, 3) := by decide +kernel
theorem d_bk_readPattern_32 : decode b_bk_readPattern 32 = .ok (.ifCond .eq 32, 3) := by decide +kernel
theorem d_bk_readPattern_35 : decode b_bk_readPattern 35 = .ok (.iload_n 1, 1) := by decide +kernel
theorem d_bk_readPattern_36 : decode b_bk_readPattern 36 = .ok (.ifCond .eq 5, 3) := by decide +kernel
theorem d_bk_readPattern_39 : decode b_bk_readPattern 39 = .ok (.iconst 0, 1) := by decide +kernel
theorem d_bk_readPattern_40 : decode b_bk_readPattern 40 = .ok (.ireturn, 1) := by decide +kernel
theorem d_bk_readPattern_41 : decode b_bk_readPattern 41 = .ok (.aload_n 0, 1) := by decide +kernel
theorem d_bk_readPattern_42 : decode b_bk_readPattern 42 = .ok (.getfield 36, 3) := by decide +kernel
theorem d_bk_readPattern_45 : decode b_bk_readPattern 45 = .ok (.aload_n 0, 1) := by decide +kernel
theorem d_bk_readPattern_46 : decode b_bk_readPattern 46 = .ok (.getfield 36, 3) := by decide +kernel
theorem d_bk_readPattern_49 : decode b_bk_readPattern 49 = .ok (.invokevirtual 126, 3) := by decide +kernel
theorem d_bk_readPattern_52 : decode b_bk_readPattern 52 = .ok (.iload_n 3, 1) := by decide +kernel
theorem d_bk_readPattern_53 : decode b_bk_readPattern 53 = .ok (.bipush 48, 2) := by decide +kernel
theorem d_bk_readPattern_55 : decode b_bk_readPattern 55 = .ok (.isub, 1) := by decide +kernel
theorem d_bk_readPattern_56 : decode b_bk_readPattern 56 = .ok (.invokevirtual 129, 3) := by decide +kernel
theorem d_bk_readPattern_59 : decode b_bk_readPattern 59 = .ok (.iconst 1, 1) := by decide +kernel
theorem d_bk_readPattern_60 : decode b_bk_readPattern 60 = .ok (.istore_n 1, 1) := by decide +kernel
theorem d_bk_readPattern_61 : decode b_bk_readPattern 61 = .ok (.goto 31, 3) := by decide +kernel
theorem d_bk_readPattern_64 : decode b_bk_readPattern 64 = .ok (.iload_n 3, 1) := by decide +kernel
theorem d_bk_readPattern_65 : decode b_bk_readPattern 65 = .ok (.invokestatic 133, 3) := by decide +kernel
theorem d_bk_readPattern_68 : decode b_bk_readPattern 68 = .ok (.ifCond .ne 9, 3) := by decide +kernel
theorem d_bk_readPattern_71 : decode b_bk_readPattern 71 = .ok (.iload_n 3, 1) := by decide +kernel
theorem d_bk_readPattern_72 : decode b_bk_readPattern 72 = .ok (.bipush 46, 2) := by decide +kernel
theorem d_bk_readPattern_74 : decode b_bk_readPattern 74 = .ok (.if_icmp .ne 14, 3) := by decide +kernel
theorem d_bk_readPattern_77 : decode b_bk_readPattern 77 = .ok (.aload_n 0, 1) := by decide +kernel
theorem d_bk_readPattern_78 : decode b_bk_readPattern 78 = .ok (.getfield 36, 3) := by decide +kernel
theorem d_bk_readPattern_81 : decode b_bk_readPattern 81 = .ok (.iload_n 3, 1) := by decide +kernel
theorem d_bk_readPattern_82 : decode b_bk_readPattern 82 = .ok (.invokevirtual 136, 3) := by decide +kernel
theorem d_bk_readPattern_85 : decode b_bk_readPattern 85 = .ok (.ifCond .ne 5, 3) := by decide +kernel
theorem d_bk_readPattern_88 : decode b_bk_readPattern 88 = .ok (.iconst 0, 1) := by decide +kernel
theorem d_bk_readPattern_89 : decode b_bk_readPattern 89 = .ok (.ireturn, 1) := by decide +kernel
theorem d_bk_readPattern_90 : decode b_bk_readPattern 90 = .ok (.iconst 0, 1) := by decide +kernel
theorem d_bk_readPattern_91 : decode b_bk_readPattern 91 = .ok (.istore_n 1, 1) := by decide +kernel
theorem d_bk_readPattern_92 : decode b_bk_readPattern 92 = .ok (.iinc 2 1, 3) := by decide +kernel
theorem d_bk_readPattern_95 : decode b_bk_readPattern 95 = .ok (.goto (-84), 3) := by decide +kernel
theorem d_bk_readPattern_98 : decode b_bk_readPattern 98 = .ok (.aload_n 0, 1) := by decide +kernel
theorem d_bk_readPattern_99 : decode b_bk_readPattern 99 = .ok (.invokevirtual 139, 3) := by decide +kernel
theorem d_bk_readPattern_102 : decode b_bk_readPattern 102 = .ok (.aload_n 0, 1) := by decide +kernel
theorem d_bk_readPattern_103 : decode b_bk_readPattern 103 = .ok (.invokevirtual 142, 3) := by decide +kernel
theorem d_bk_readPattern_106 : decode b_bk_readPattern 106 = .ok (.ireturn, 1) := by decide +kernel
theorem d_rw_clear_0 : decode b_rw_clear 0 = .ok (.aload_n 0, 1) := by decide +kernel
theorem d_rw_clear_1 : decode b_rw_clear 1 = .ok (.iconst 0, 1) := by decide +kernel
theorem d_rw_clear_2 : decode b_rw_clear 2 = .ok (.putfield 18, 3) := by decide +kernel
theorem d_rw_clear_5 : decode b_rw_clear 5 = .ok (.aload_n 0, 1) := by decide +kernel
theorem d_rw_clear_6 : decode b_rw_clear 6 = .ok (.getfield 15, 3) := by decide +kernel
theorem d_rw_clear_9 : decode b_rw_clear 9 = .ok (.iconst 0, 1) := by decide +kernel
theorem d_rw_clear_10 : decode b_rw_clear 10 = .ok (.invokestatic 22, 3) := by decide +kernel
theorem d_rw_clear_13 : decode b_rw_clear 13 = .ok (.return_, 1) := by decide +kernel
theorem d_ar_fill_0 : decode b_ar_fill 0 = .ok (.iconst 0, 1) := by decide +kernel
theorem d_ar_fill_1 : decode b_ar_fill 1 = .ok (.istore_n 2, 1) := by decide +kernel
theorem d_ar_fill_2 : decode b_ar_fill 2 = .ok (.aload_n 0, 1) := by decide +kernel
theorem d_ar_fill_3 : decode b_ar_fill 3 = .ok (.arraylength, 1) := by decide +kernel
theorem d_ar_fill_4 : decode b_ar_fill 4 = .ok (.istore_n 3, 1) := by decide +kernel
theorem d_ar_fill_5 : decode b_ar_fill 5 = .ok (.iload_n 2, 1) := by decide +kernel
theorem d_ar_fill_6 : decode b_ar_fill 6 = .ok (.iload_n 3, 1) := by decide +kernel
theorem d_ar_fill_7 : decode b_ar_fill 7 = .ok (.if_icmp .ge 13, 3) := by decide +kernel
theorem d_ar_fill_10 : decode b_ar_fill 10 = .ok (.aload_n 0, 1) := by decide +kernel
theorem d_ar_fill_11 : decode b_ar_fill 11 = .ok (.iload_n 2, 1) := by decide +kernel
theorem d_ar_fill_12 : decode b_ar_fill 12 = .ok (.iload_n 1, 1) := by decide +kernel
theorem d_ar_fill_13 : decode b_ar_fill 13 = .ok (.iastore, 1) := by decide +kernel
theorem d_ar_fill_14 : decode b_ar_fill 14 = .ok (.iinc 2 1, 3) := by decide +kernel
theorem d_ar_fill_17 : decode b_ar_fill 17 = .ok (.goto (-12), 3) := by decide +kernel
theorem d_ar_fill_20 : decode b_ar_fill 20 = .ok (.return_, 1) := by decide +kernel
theorem d_bk_isDigit_0 : decode b_bk_isDigit 0 = .ok (.iload_n 0, 1) := by decide +kernel
theorem d_bk_isDigit_1 : decode b_bk_isDigit 1 = .ok (.bipush 48, 2) := by decide +kernel
theorem d_bk_isDigit_3 : decode b_bk_isDigit 3 = .ok (.if_icmp .lt 13, 3) := by decide +kernel
theorem d_bk_isDigit_6 : decode b_bk_isDigit 6 = .ok (.iload_n 0, 1) := by decide +kernel
theorem d_bk_isDigit_7 : decode b_bk_isDigit 7 = .ok (.bipush 57, 2) := by decide +kernel
theorem d_bk_isDigit_9 : decode b_bk_isDigit 9 = .ok (.if_icmp .gt 7, 3) := by decide +kernel
theorem d_bk_isDigit_12 : decode b_bk_isDigit 12 = .ok (.iconst 1, 1) := by decide +kernel
theorem d_bk_isDigit_13 : decode b_bk_isDigit 13 = .ok (.goto 4, 3) := by decide +kernel
theorem d_bk_isDigit_16 : decode b_bk_isDigit 16 = .ok (.iconst 0, 1) := by decide +kernel
theorem d_bk_isDigit_17 : decode b_bk_isDigit 17 = .ok (.ireturn, 1) := by decide +kernel
theorem d_rw_setNumber_0 : decode b_rw_setNumber 0 = .ok (.iload_n 1, 1) := by decide +kernel
theorem d_rw_setNumber_1 : decode b_rw_setNumber 1 = .ok (.ifCond .lt 19, 3) := by decide +kernel
theorem d_rw_setNumber_4 : decode b_rw_setNumber 4 = .ok (.iload_n 1, 1) := by decide +kernel
theorem d_rw_setNumber_5 : decode b_rw_setNumber 5 = .ok (.aload_n 0, 1) := by decide +kernel
theorem d_rw_setNumber_6 : decode b_rw_setNumber 6 = .ok (.getfield 15, 3) := by decide +kernel
theorem d_rw_setNumber_9 : decode b_rw_setNumber 9 = .ok (.arraylength, 1) := by decide +kernel
theorem d_rw_setNumber_10 : decode b_rw_setNumber 10 = .ok (.if_icmp .ge 10, 3) := by decide +kernel
theorem d_rw_setNumber_13 : decode b_rw_setNumber 13 = .ok (.aload_n 0, 1) := by decide +kernel
theorem d_rw_setNumber_14 : decode b_rw_setNumber 14 = .ok (.getfield 15, 3) := by decide +kernel
theorem d_rw_setNumber_17 : decode b_rw_setNumber 17 = .ok (.iload_n 1, 1) := by decide +kernel
theorem d_rw_setNumber_18 : decode b_rw_setNumber 18 = .ok (.iload_n 2, 1) := by decide +kernel
theorem d_rw_setNumber_19 : decode b_rw_setNumber 19 = .ok (.iastore, 1) := by decide +kernel
theorem d_rw_setNumber_20 : decode b_rw_setNumber 20 = .ok (.return_, 1) := by decide +kernel
theorem d_bk_isLetter_0 : decode b_bk_isLetter 0 = .ok (.iload_n 0, 1) := by decide +kernel
theorem d_bk_isLetter_1 : decode b_bk_isLetter 1 = .ok (.bipush 97, 2) := by decide +kernel
theorem d_bk_isLetter_3 : decode b_bk_isLetter 3 = .ok (.if_icmp .lt 9, 3) := by decide +kernel
theorem d_bk_isLetter_6 : decode b_bk_isLetter 6 = .ok (.iload_n 0, 1) := by decide +kernel
theorem d_bk_isLetter_7 : decode b_bk_isLetter 7 = .ok (.bipush 122, 2) := by decide +kernel
theorem d_bk_isLetter_9 : decode b_bk_isLetter 9 = .ok (.if_icmp .le 17, 3) := by decide +kernel
theorem d_bk_isLetter_12 : decode b_bk_isLetter 12 = .ok (.iload_n 0, 1) := by decide +kernel
theorem d_bk_isLetter_13 : decode b_bk_isLetter 13 = .ok (.sipush 128, 3) := by decide +kernel
theorem d_bk_isLetter_16 : decode b_bk_isLetter 16 = .ok (.if_icmp .lt 14, 3) := by decide +kernel
theorem d_bk_isLetter_19 : decode b_bk_isLetter 19 = .ok (.iload_n 0, 1) := by decide +kernel
theorem d_bk_isLetter_20 : decode b_bk_isLetter 20 = .ok (.sipush 255, 3) := by decide +kernel
theorem d_bk_isLetter_23 : decode b_bk_isLetter 23 = .ok (.if_icmp .gt 7, 3) := by decide +kernel
theorem d_bk_isLetter_26 : decode b_bk_isLetter 26 = .ok (.iconst 1, 1) := by decide +kernel
theorem d_bk_isLetter_27 : decode b_bk_isLetter 27 = .ok (.goto 4, 3) := by decide +kernel
theorem d_bk_isLetter_30 : decode b_bk_isLetter 30 = .ok (.iconst 0, 1) := by decide +kernel
theorem d_bk_isLetter_31 : decode b_bk_isLetter 31 = .ok (.ireturn, 1) := by decide +kernel
theorem d_rw_append_0 : decode b_rw_append 0 = .ok (.aload_n 0, 1) := by decide +kernel
theorem d_rw_append_1 : decode b_rw_append 1 = .ok (.getfield 18, 3) := by decide +kernel
theorem d_rw_append_4 : decode b_rw_append 4 = .ok (.aload_n 0, 1) := by decide +kernel
theorem d_rw_append_5 : decode b_rw_append 5 = .ok (.getfield 9, 3) := by decide +kernel
theorem d_rw_append_8 : decode b_rw_append 8 = .ok (.arraylength, 1) := by decide +kernel
theorem d_rw_append_9 : decode b_rw_append 9 = .ok (.if_icmp .lt 5, 3) := by decide +kernel
theorem d_rw_append_12 : decode b_rw_append 12 = .ok (.iconst 0, 1) := by decide +kernel
theorem d_rw_append_13 : decode b_rw_append 13 = .ok (.ireturn, 1) := by decide +kernel
theorem d_rw_append_14 : decode b_rw_append 14 = .ok (.aload_n 0, 1) := by decide +kernel
theorem d_rw_append_15 : decode b_rw_append 15 = .ok (.getfield 9, 3) := by decide +kernel
theorem d_rw_append_18 : decode b_rw_append 18 = .ok (.aload_n 0, 1) := by decide +kernel
theorem d_rw_append_19 : decode b_rw_append 19 = .ok (.getfield 18, 3) := by decide +kernel
theorem d_rw_append_22 : decode b_rw_append 22 = .ok (.iload_n 1, 1) := by decide +kernel
theorem d_rw_append_23 : decode b_rw_append 23 = .ok (.iastore, 1) := by decide +kernel
theorem d_rw_append_24 : decode b_rw_append 24 = .ok (.aload_n 0, 1) := by decide +kernel
theorem d_rw_append_25 : decode b_rw_append 25 = .ok (.dup, 1) := by decide +kernel
theorem d_rw_append_26 : decode b_rw_append 26 = .ok (.getfield 18, 3) := by decide +kernel
theorem d_rw_append_29 : decode b_rw_append 29 = .ok (.iconst 1, 1) := by decide +kernel
theorem d_rw_append_30 : decode b_rw_append 30 = .ok (.iadd, 1) := by decide +kernel
theorem d_rw_append_31 : decode b_rw_append 31 = .ok (.putfield 18, 3) := by decide +kernel
theorem d_rw_append_34 : decode b_rw_append 34 = .ok (.iconst 1, 1) := by decide +kernel
theorem d_rw_append_35 : decode b_rw_append 35 = .ok (.ireturn, 1) := by decide +kernel
theorem d_bk_dropNumbersOutsideEdges_0 : decode b_bk_dropNumbersOutsideEdges 0 = .ok (.aload_n 0, 1) := by decide +kernel
theorem d_bk_dropNumbersOutsideEdges_1 : decode b_bk_dropNumbersOutsideEdges 1 = .ok (.getfield 36, 3) := by decide +kernel
theorem d_bk_dropNumbersOutsideEdges_4 : decode b_bk_dropNumbersOutsideEdges 4 = .ok (.iconst 0, 1) := by decide +kernel
theorem d_bk_dropNumbersOutsideEdges_5 : decode b_bk_dropNumbersOutsideEdges 5 = .ok (.invokevirtual 145, 3) := by decide +kernel
theorem d_bk_dropNumbersOutsideEdges_8 : decode b_bk_dropNumbersOutsideEdges 8 = .ok (.bipush 46, 2) := by decide +kernel
theorem d_bk_dropNumbersOutsideEdges_10 : decode b_bk_dropNumbersOutsideEdges 10 = .ok (.if_icmp .ne 12, 3) := by decide +kernel
theorem d_bk_dropNumbersOutsideEdges_13 : decode b_bk_dropNumbersOutsideEdges 13 = .ok (.aload_n 0, 1) := by decide +kernel
theorem d_bk_dropNumbersOutsideEdges_14 : decode b_bk_dropNumbersOutsideEdges 14 = .ok (.getfield 36, 3) := by decide +kernel
theorem d_bk_dropNumbersOutsideEdges_17 : decode b_bk_dropNumbersOutsideEdges 17 = .ok (.iconst 0, 1) := by decide +kernel
theorem d_bk_dropNumbersOutsideEdges_18 : decode b_bk_dropNumbersOutsideEdges 18 = .ok (.iconst 0, 1) := by decide +kernel
theorem d_bk_dropNumbersOutsideEdges_19 : decode b_bk_dropNumbersOutsideEdges 19 = .ok (.invokevirtual 129, 3) := by decide +kernel
theorem d_bk_dropNumbersOutsideEdges_22 : decode b_bk_dropNumbersOutsideEdges 22 = .ok (.aload_n 0, 1) := by decide +kernel
theorem d_bk_dropNumbersOutsideEdges_23 : decode b_bk_dropNumbersOutsideEdges 23 = .ok (.getfield 36, 3) := by decide +kernel
theorem d_bk_dropNumbersOutsideEdges_26 : decode b_bk_dropNumbersOutsideEdges 26 = .ok (.aload_n 0, 1) := by decide +kernel
theorem d_bk_dropNumbersOutsideEdges_27 : decode b_bk_dropNumbersOutsideEdges 27 = .ok (.getfield 36, 3) := by decide +kernel
theorem d_bk_dropNumbersOutsideEdges_30 : decode b_bk_dropNumbersOutsideEdges 30 = .ok (.invokevirtual 126, 3) := by decide +kernel
theorem d_bk_dropNumbersOutsideEdges_33 : decode b_bk_dropNumbersOutsideEdges 33 = .ok (.iconst 1, 1) := by decide +kernel
theorem d_bk_dropNumbersOutsideEdges_34 : decode b_bk_dropNumbersOutsideEdges 34 = .ok (.isub, 1) := by decide +kernel
theorem d_bk_dropNumbersOutsideEdges_35 : decode b_bk_dropNumbersOutsideEdges 35 = .ok (.invokevirtual 145, 3) := by decide +kernel
theorem d_bk_dropNumbersOutsideEdges_38 : decode b_bk_dropNumbersOutsideEdges 38 = .ok (.bipush 46, 2) := by decide +kernel
theorem d_bk_dropNumbersOutsideEdges_40 : decode b_bk_dropNumbersOutsideEdges 40 = .ok (.if_icmp .ne 18, 3) := by decide +kernel
theorem d_bk_dropNumbersOutsideEdges_43 : decode b_bk_dropNumbersOutsideEdges 43 = .ok (.aload_n 0, 1) := by decide +kernel
theorem d_bk_dropNumbersOutsideEdges_44 : decode b_bk_dropNumbersOutsideEdges 44 = .ok (.getfield 36, 3) := by decide +kernel
theorem d_bk_dropNumbersOutsideEdges_47 : decode b_bk_dropNumbersOutsideEdges 47 = .ok (.aload_n 0, 1) := by decide +kernel
theorem d_bk_dropNumbersOutsideEdges_48 : decode b_bk_dropNumbersOutsideEdges 48 = .ok (.getfield 36, 3) := by decide +kernel
theorem d_bk_dropNumbersOutsideEdges_51 : decode b_bk_dropNumbersOutsideEdges 51 = .ok (.invokevirtual 126, 3) := by decide +kernel
theorem d_bk_dropNumbersOutsideEdges_54 : decode b_bk_dropNumbersOutsideEdges 54 = .ok (.iconst 0, 1) := by decide +kernel
theorem d_bk_dropNumbersOutsideEdges_55 : decode b_bk_dropNumbersOutsideEdges 55 = .ok (.invokevirtual 129, 3) := by decide +kernel
theorem d_bk_dropNumbersOutsideEdges_58 : decode b_bk_dropNumbersOutsideEdges 58 = .ok (.return_, 1) := by decide +kernel
theorem d_rw_signAt_0 : decode b_rw_signAt 0 = .ok (.iload_n 1, 1) := by decide +kernel
theorem d_rw_signAt_1 : decode b_rw_signAt 1 = .ok (.aload_n 0, 1) := by decide +kernel
theorem d_rw_signAt_2 : decode b_rw_signAt 2 = .ok (.getfield 18, 3) := by decide +kernel
theorem d_rw_signAt_5 : decode b_rw_signAt 5 = .ok (.if_icmp .ge 14, 3) := by decide +kernel
theorem d_rw_signAt_8 : decode b_rw_signAt 8 = .ok (.aload_n 0, 1) := by decide +kernel
theorem d_rw_signAt_9 : decode b_rw_signAt 9 = .ok (.getfield 9, 3) := by decide +kernel
theorem d_rw_signAt_12 : decode b_rw_signAt 12 = .ok (.iload_n 1, 1) := by decide +kernel
theorem d_rw_signAt_13 : decode b_rw_signAt 13 = .ok (.invokestatic 28, 3) := by decide +kernel
theorem d_rw_signAt_16 : decode b_rw_signAt 16 = .ok (.goto 4, 3) := by decide +kernel
theorem d_rw_signAt_19 : decode b_rw_signAt 19 = .ok (.iconst 0, 1) := by decide +kernel
theorem d_rw_signAt_20 : decode b_rw_signAt 20 = .ok (.ireturn, 1) := by decide +kernel
theorem d_bk_signsReadMakeAPattern_0 : decode b_bk_signsReadMakeAPattern 0 = .ok (.iconst 0, 1) := by decide +kernel
theorem d_bk_signsReadMakeAPattern_1 : decode b_bk_signsReadMakeAPattern 1 = .ok (.istore_n 1, 1) := by decide +kernel
theorem d_bk_signsReadMakeAPattern_2 : decode b_bk_signsReadMakeAPattern 2 = .ok (.iconst 0, 1) := by decide +kernel
theorem d_bk_signsReadMakeAPattern_3 : decode b_bk_signsReadMakeAPattern 3 = .ok (.istore_n 2, 1) := by decide +kernel
theorem d_bk_signsReadMakeAPattern_4 : decode b_bk_signsReadMakeAPattern 4 = .ok (.iload_n 2, 1) := by decide +kernel
theorem d_bk_signsReadMakeAPattern_5 : decode b_bk_signsReadMakeAPattern 5 = .ok (.aload_n 0, 1) := by decide +kernel
theorem d_bk_signsReadMakeAPattern_6 : decode b_bk_signsReadMakeAPattern 6 = .ok (.getfield 36, 3) := by decide +kernel
theorem d_bk_signsReadMakeAPattern_9 : decode b_bk_signsReadMakeAPattern 9 = .ok (.invokevirtual 126, 3) := by decide +kernel
theorem d_bk_signsReadMakeAPattern_12 : decode b_bk_signsReadMakeAPattern 12 = .ok (.if_icmp .ge 47, 3) := by decide +kernel
theorem d_bk_signsReadMakeAPattern_15 : decode b_bk_signsReadMakeAPattern 15 = .ok (.aload_n 0, 1) := by decide +kernel
theorem d_bk_signsReadMakeAPattern_16 : decode b_bk_signsReadMakeAPattern 16 = .ok (.getfield 36, 3) := by decide +kernel
theorem d_bk_signsReadMakeAPattern_19 : decode b_bk_signsReadMakeAPattern 19 = .ok (.iload_n 2, 1) := by decide +kernel
theorem d_bk_signsReadMakeAPattern_20 : decode b_bk_signsReadMakeAPattern 20 = .ok (.invokevirtual 145, 3) := by decide +kernel
theorem d_bk_signsReadMakeAPattern_23 : decode b_bk_signsReadMakeAPattern 23 = .ok (.bipush 46, 2) := by decide +kernel
theorem d_bk_signsReadMakeAPattern_25 : decode b_bk_signsReadMakeAPattern 25 = .ok (.if_icmp .eq 9, 3) := by decide +kernel
theorem d_bk_signsReadMakeAPattern_28 : decode b_bk_signsReadMakeAPattern 28 = .ok (.iinc 1 1, 3) := by decide +kernel
theorem d_bk_signsReadMakeAPattern_31 : decode b_bk_signsReadMakeAPattern 31 = .ok (.goto 22, 3) := by decide +kernel
theorem d_bk_signsReadMakeAPattern_34 : decode b_bk_signsReadMakeAPattern 34 = .ok (.iload_n 2, 1) := by decide +kernel
theorem d_bk_signsReadMakeAPattern_35 : decode b_bk_signsReadMakeAPattern 35 = .ok (.ifCond .eq 18, 3) := by decide +kernel
theorem d_bk_signsReadMakeAPattern_38 : decode b_bk_signsReadMakeAPattern 38 = .ok (.iload_n 2, 1) := by decide +kernel
theorem d_bk_signsReadMakeAPattern_39 : decode b_bk_signsReadMakeAPattern 39 = .ok (.aload_n 0, 1) := by decide +kernel
theorem d_bk_signsReadMakeAPattern_40 : decode b_bk_signsReadMakeAPattern 40 = .ok (.getfield 36, 3) := by decide +kernel
theorem d_bk_signsReadMakeAPattern_43 : decode b_bk_signsReadMakeAPattern 43 = .ok (.invokevirtual 126, 3) := by decide +kernel
theorem d_bk_signsReadMakeAPattern_46 : decode b_bk_signsReadMakeAPattern 46 = .ok (.iconst 1, 1) := by decide +kernel
theorem d_bk_signsReadMakeAPattern_47 : decode b_bk_signsReadMakeAPattern 47 = .ok (.isub, 1) := by decide +kernel
theorem d_bk_signsReadMakeAPattern_48 : decode b_bk_signsReadMakeAPattern 48 = .ok (.if_icmp .eq 5, 3) := by decide +kernel
theorem d_bk_signsReadMakeAPattern_51 : decode b_bk_signsReadMakeAPattern 51 = .ok (.iconst 0, 1) := by decide +kernel
theorem d_bk_signsReadMakeAPattern_52 : decode b_bk_signsReadMakeAPattern 52 = .ok (.ireturn, 1) := by decide +kernel
theorem d_bk_signsReadMakeAPattern_53 : decode b_bk_signsReadMakeAPattern 53 = .ok (.iinc 2 1, 3) := by decide +kernel
theorem d_bk_signsReadMakeAPattern_56 : decode b_bk_signsReadMakeAPattern 56 = .ok (.goto (-52), 3) := by decide +kernel
theorem d_bk_signsReadMakeAPattern_59 : decode b_bk_signsReadMakeAPattern 59 = .ok (.iload_n 1, 1) := by decide +kernel
theorem d_bk_signsReadMakeAPattern_60 : decode b_bk_signsReadMakeAPattern 60 = .ok (.iconst 1, 1) := by decide +kernel
theorem d_bk_signsReadMakeAPattern_61 : decode b_bk_signsReadMakeAPattern 61 = .ok (.if_icmp .lt 13, 3) := by decide +kernel
theorem d_bk_signsReadMakeAPattern_64 : decode b_bk_signsReadMakeAPattern 64 = .ok (.iload_n 1, 1) := by decide +kernel
theorem d_bk_signsReadMakeAPattern_65 : decode b_bk_signsReadMakeAPattern 65 = .ok (.bipush 63, 2) := by decide +kernel
theorem d_bk_signsReadMakeAPattern_67 : decode b_bk_signsReadMakeAPattern 67 = .ok (.if_icmp .gt 7, 3) := by decide +kernel
theorem d_bk_signsReadMakeAPattern_70 : decode b_bk_signsReadMakeAPattern 70 = .ok (.iconst 1, 1) := by decide +kernel
theorem d_bk_signsReadMakeAPattern_71 : decode b_bk_signsReadMakeAPattern 71 = .ok (.goto 4, 3) := by decide +kernel
theorem d_bk_signsReadMakeAPattern_74 : decode b_bk_signsReadMakeAPattern 74 = .ok (.iconst 0, 1) := by decide +kernel
theorem d_bk_signsReadMakeAPattern_75 : decode b_bk_signsReadMakeAPattern 75 = .ok (.ireturn, 1) := by decide +kernel
theorem d_tr_numbersOf_0 : decode b_tr_numbersOf 0 = .ok (.aload_n 0, 1) := by decide +kernel
theorem d_tr_numbersOf_1 : decode b_tr_numbersOf 1 = .ok (.getfield 12, 3) := by decide +kernel
theorem d_tr_numbersOf_4 : decode b_tr_numbersOf 4 = .ok (.astore_n 2, 1) := by decide +kernel
theorem d_tr_numbersOf_5 : decode b_tr_numbersOf 5 = .ok (.iconst 0, 1) := by decide +kernel
theorem d_tr_numbersOf_6 : decode b_tr_numbersOf 6 = .ok (.istore_n 3, 1) := by decide +kernel
theorem d_tr_numbersOf_7 : decode b_tr_numbersOf 7 = .ok (.iload_n 3, 1) := by decide +kernel
theorem d_tr_numbersOf_8 : decode b_tr_numbersOf 8 = .ok (.aload_n 1, 1) := by decide +kernel
theorem d_tr_numbersOf_9 : decode b_tr_numbersOf 9 = .ok (.invokevirtual 25, 3) := by decide +kernel
theorem d_tr_numbersOf_12 : decode b_tr_numbersOf 12 = .ok (.if_icmp .ge 25, 3) := by decide +kernel
theorem d_tr_numbersOf_15 : decode b_tr_numbersOf 15 = .ok (.aload_n 2, 1) := by decide +kernel
theorem d_tr_numbersOf_16 : decode b_tr_numbersOf 16 = .ok (.aload_n 1, 1) := by decide +kernel
theorem d_tr_numbersOf_17 : decode b_tr_numbersOf 17 = .ok (.iload_n 3, 1) := by decide +kernel
theorem d_tr_numbersOf_18 : decode b_tr_numbersOf 18 = .ok (.invokevirtual 31, 3) := by decide +kernel
theorem d_tr_numbersOf_21 : decode b_tr_numbersOf 21 = .ok (.invokevirtual 35, 3) := by decide +kernel
theorem d_tr_numbersOf_24 : decode b_tr_numbersOf 24 = .ok (.astore_n 2, 1) := by decide +kernel
theorem d_tr_numbersOf_25 : decode b_tr_numbersOf 25 = .ok (.aload_n 2, 1) := by decide +kernel
theorem d_tr_numbersOf_26 : decode b_tr_numbersOf 26 = .ok (.ifnonnull 5, 3) := by decide +kernel
theorem d_tr_numbersOf_29 : decode b_tr_numbersOf 29 = .ok (.aconst_null, 1) := by decide +kernel
theorem d_tr_numbersOf_30 : decode b_tr_numbersOf 30 = .ok (.areturn, 1) := by decide +kernel
theorem d_tr_numbersOf_31 : decode b_tr_numbersOf 31 = .ok (.iinc 3 1, 3) := by decide +kernel
theorem d_tr_numbersOf_34 : decode b_tr_numbersOf 34 = .ok (.goto (-27), 3) := by decide +kernel
theorem d_tr_numbersOf_37 : decode b_tr_numbersOf 37 = .ok (.aload_n 2, 1) := by decide +kernel
theorem d_tr_numbersOf_38 : decode b_tr_numbersOf 38 = .ok (.getfield 39, 3) := by decide +kernel
theorem d_tr_numbersOf_41 : decode b_tr_numbersOf 41 = .ok (.areturn, 1) := by decide +kernel
theorem d_nd_childWith_0 : decode b_nd_childWith 0 = .ok (.aload_n 0, 1) := by decide +kernel
theorem d_nd_childWith_1 : decode b_nd_childWith 1 = .ok (.getfield 7, 3) := by decide +kernel
theorem d_nd_childWith_4 : decode b_nd_childWith 4 = .ok (.astore_n 2, 1) := by decide +kernel
theorem d_nd_childWith_5 : decode b_nd_childWith 5 = .ok (.aload_n 2, 1) := by decide +kernel
theorem d_nd_childWith_6 : decode b_nd_childWith 6 = .ok (.ifnull 21, 3) := by decide +kernel
theorem d_nd_childWith_9 : decode b_nd_childWith 9 = .ok (.aload_n 2, 1) := by decide +kernel
theorem d_nd_childWith_10 : decode b_nd_childWith 10 = .ok (.getfield 20, 3) := by decide +kernel
theorem d_nd_childWith_13 : decode b_nd_childWith 13 = .ok (.iload_n 1, 1) := by decide +kernel
theorem d_nd_childWith_14 : decode b_nd_childWith 14 = .ok (.if_icmp .ne 5, 3) := by decide +kernel
theorem d_nd_childWith_17 : decode b_nd_childWith 17 = .ok (.aload_n 2, 1) := by decide +kernel
theorem d_nd_childWith_18 : decode b_nd_childWith 18 = .ok (.areturn, 1) := by decide +kernel
theorem d_nd_childWith_19 : decode b_nd_childWith 19 = .ok (.aload_n 2, 1) := by decide +kernel
theorem d_nd_childWith_20 : decode b_nd_childWith 20 = .ok (.getfield 13, 3) := by decide +kernel
theorem d_nd_childWith_23 : decode b_nd_childWith 23 = .ok (.astore_n 2, 1) := by decide +kernel
theorem d_nd_childWith_24 : decode b_nd_childWith 24 = .ok (.goto (-19), 3) := by decide +kernel
theorem d_nd_childWith_27 : decode b_nd_childWith 27 = .ok (.aconst_null, 1) := by decide +kernel
theorem d_nd_childWith_28 : decode b_nd_childWith 28 = .ok (.areturn, 1) := by decide +kernel
theorem d_tr_beginningsWith_0 : decode b_tr_beginningsWith 0 = .ok (.aload_n 0, 1) := by decide +kernel
theorem d_tr_beginningsWith_1 : decode b_tr_beginningsWith 1 = .ok (.getfield 12, 3) := by decide +kernel
theorem d_tr_beginningsWith_4 : decode b_tr_beginningsWith 4 = .ok (.astore_n 2, 1) := by decide +kernel
theorem d_tr_beginningsWith_5 : decode b_tr_beginningsWith 5 = .ok (.iconst 0, 1) := by decide +kernel
theorem d_tr_beginningsWith_6 : decode b_tr_beginningsWith 6 = .ok (.istore_n 3, 1) := by decide +kernel
theorem d_tr_beginningsWith_7 : decode b_tr_beginningsWith 7 = .ok (.iload_n 3, 1) := by decide +kernel
theorem d_tr_beginningsWith_8 : decode b_tr_beginningsWith 8 = .ok (.aload_n 1, 1) := by decide +kernel
theorem d_tr_beginningsWith_9 : decode b_tr_beginningsWith 9 = .ok (.invokevirtual 25, 3) := by decide +kernel
theorem d_tr_beginningsWith_12 : decode b_tr_beginningsWith 12 = .ok (.if_icmp .ge 35, 3) := by decide +kernel
theorem d_tr_beginningsWith_15 : decode b_tr_beginningsWith 15 = .ok (.aload_n 2, 1) := by decide +kernel
theorem d_tr_beginningsWith_16 : decode b_tr_beginningsWith 16 = .ok (.aload_n 1, 1) := by decide +kernel
theorem d_tr_beginningsWith_17 : decode b_tr_beginningsWith 17 = .ok (.iload_n 3, 1) := by decide +kernel
theorem d_tr_beginningsWith_18 : decode b_tr_beginningsWith 18 = .ok (.invokevirtual 31, 3) := by decide +kernel
theorem d_tr_beginningsWith_21 : decode b_tr_beginningsWith 21 = .ok (.invokevirtual 35, 3) := by decide +kernel
theorem d_tr_beginningsWith_24 : decode b_tr_beginningsWith 24 = .ok (.astore_n 2, 1) := by decide +kernel
theorem d_tr_beginningsWith_25 : decode b_tr_beginningsWith 25 = .ok (.aload_n 2, 1) := by decide +kernel
theorem d_tr_beginningsWith_26 : decode b_tr_beginningsWith 26 = .ok (.ifnonnull 15, 3) := by decide +kernel
theorem d_tr_beginningsWith_29 : decode b_tr_beginningsWith 29 = .ok (.aload_n 0, 1) := by decide +kernel
theorem d_tr_beginningsWith_30 : decode b_tr_beginningsWith 30 = .ok (.getfield 22, 3) := by decide +kernel
theorem d_tr_beginningsWith_33 : decode b_tr_beginningsWith 33 = .ok (.aload_n 1, 1) := by decide +kernel
theorem d_tr_beginningsWith_34 : decode b_tr_beginningsWith 34 = .ok (.invokevirtual 25, 3) := by decide +kernel
theorem d_tr_beginningsWith_37 : decode b_tr_beginningsWith 37 = .ok (.iadd, 1) := by decide +kernel
theorem d_tr_beginningsWith_38 : decode b_tr_beginningsWith 38 = .ok (.iload_n 3, 1) := by decide +kernel
theorem d_tr_beginningsWith_39 : decode b_tr_beginningsWith 39 = .ok (.isub, 1) := by decide +kernel
theorem d_tr_beginningsWith_40 : decode b_tr_beginningsWith 40 = .ok (.ireturn, 1) := by decide +kernel
theorem d_tr_beginningsWith_41 : decode b_tr_beginningsWith 41 = .ok (.iinc 3 1, 3) := by decide +kernel
theorem d_tr_beginningsWith_44 : decode b_tr_beginningsWith 44 = .ok (.goto (-37), 3) := by decide +kernel
theorem d_tr_beginningsWith_47 : decode b_tr_beginningsWith 47 = .ok (.aload_n 0, 1) := by decide +kernel
theorem d_tr_beginningsWith_48 : decode b_tr_beginningsWith 48 = .ok (.getfield 22, 3) := by decide +kernel
theorem d_tr_beginningsWith_51 : decode b_tr_beginningsWith 51 = .ok (.ireturn, 1) := by decide +kernel
theorem d_tr_enter_0 : decode b_tr_enter 0 = .ok (.aload_n 0, 1) := by decide +kernel
theorem d_tr_enter_1 : decode b_tr_enter 1 = .ok (.getfield 12, 3) := by decide +kernel
theorem d_tr_enter_4 : decode b_tr_enter 4 = .ok (.astore_n 2, 1) := by decide +kernel
theorem d_tr_enter_5 : decode b_tr_enter 5 = .ok (.iconst 0, 1) := by decide +kernel
theorem d_tr_enter_6 : decode b_tr_enter 6 = .ok (.istore_n 3, 1) := by decide +kernel
theorem d_tr_enter_7 : decode b_tr_enter 7 = .ok (.iload_n 3, 1) := by decide +kernel
theorem d_tr_enter_8 : decode b_tr_enter 8 = .ok (.aload_n 1, 1) := by decide +kernel
theorem d_tr_enter_9 : decode b_tr_enter 9 = .ok (.invokevirtual 25, 3) := by decide +kernel
theorem d_tr_enter_12 : decode b_tr_enter 12 = .ok (.if_icmp .ge 49, 3) := by decide +kernel
theorem d_tr_enter_15 : decode b_tr_enter 15 = .ok (.aload_n 2, 1) := by decide +kernel
theorem d_tr_enter_16 : decode b_tr_enter 16 = .ok (.aload_n 1, 1) := by decide +kernel
theorem d_tr_enter_17 : decode b_tr_enter 17 = .ok (.iload_n 3, 1) := by decide +kernel
theorem d_tr_enter_18 : decode b_tr_enter 18 = .ok (.invokevirtual 31, 3) := by decide +kernel
theorem d_tr_enter_21 : decode b_tr_enter 21 = .ok (.invokevirtual 35, 3) := by decide +kernel
theorem d_tr_enter_24 : decode b_tr_enter 24 = .ok (.astore 4, 2) := by decide +kernel
theorem d_tr_enter_26 : decode b_tr_enter 26 = .ok (.aload 4, 2) := by decide +kernel
theorem d_tr_enter_28 : decode b_tr_enter 28 = .ok (.ifnonnull 24, 3) := by decide +kernel
theorem d_tr_enter_31 : decode b_tr_enter 31 = .ok (.aload_n 2, 1) := by decide +kernel
theorem d_tr_enter_32 : decode b_tr_enter 32 = .ok (.aload_n 1, 1) := by decide +kernel
theorem d_tr_enter_33 : decode b_tr_enter 33 = .ok (.iload_n 3, 1) := by decide +kernel
theorem d_tr_enter_34 : decode b_tr_enter 34 = .ok (.invokevirtual 31, 3) := by decide +kernel
theorem d_tr_enter_37 : decode b_tr_enter 37 = .ok (.invokevirtual 43, 3) := by decide +kernel
theorem d_tr_enter_40 : decode b_tr_enter 40 = .ok (.astore 4, 2) := by decide +kernel
theorem d_tr_enter_42 : decode b_tr_enter 42 = .ok (.aload_n 0, 1) := by decide +kernel
theorem d_tr_enter_43 : decode b_tr_enter 43 = .ok (.dup, 1) := by decide +kernel
theorem d_tr_enter_44 : decode b_tr_enter 44 = .ok (.getfield 22, 3) := by decide +kernel
theorem d_tr_enter_47 : decode b_tr_enter 47 = .ok (.iconst 1, 1) := by decide +kernel
theorem d_tr_enter_48 : decode b_tr_enter 48 = .ok (.iadd, 1) := by decide +kernel
theorem d_tr_enter_49 : decode b_tr_enter 49 = .ok (.putfield 22, 3) := by decide +kernel
theorem d_tr_enter_52 : decode b_tr_enter 52 = .ok (.aload 4, 2) := by decide +kernel
theorem d_tr_enter_54 : decode b_tr_enter 54 = .ok (.astore_n 2, 1) := by decide +kernel
theorem d_tr_enter_55 : decode b_tr_enter 55 = .ok (.iinc 3 1, 3) := by decide +kernel
theorem d_tr_enter_58 : decode b_tr_enter 58 = .ok (.goto (-51), 3) := by decide +kernel
theorem d_tr_enter_61 : decode b_tr_enter 61 = .ok (.aload_n 2, 1) := by decide +kernel
theorem d_tr_enter_62 : decode b_tr_enter 62 = .ok (.getfield 39, 3) := by decide +kernel
theorem d_tr_enter_65 : decode b_tr_enter 65 = .ok (.ifnonnull 13, 3) := by decide +kernel
theorem d_tr_enter_68 : decode b_tr_enter 68 = .ok (.aload_n 0, 1) := by decide +kernel
theorem d_tr_enter_69 : decode b_tr_enter 69 = .ok (.dup, 1) := by decide +kernel
theorem d_tr_enter_70 : decode b_tr_enter 70 = .ok (.getfield 18, 3) := by decide +kernel
theorem d_tr_enter_73 : decode b_tr_enter 73 = .ok (.iconst 1, 1) := by decide +kernel
theorem d_tr_enter_74 : decode b_tr_enter 74 = .ok (.iadd, 1) := by decide +kernel
theorem d_tr_enter_75 : decode b_tr_enter 75 = .ok (.putfield 18, 3) := by decide +kernel
theorem d_tr_enter_78 : decode b_tr_enter 78 = .ok (.aload_n 2, 1) := by decide +kernel
theorem d_tr_enter_79 : decode b_tr_enter 79 = .ok (.aload_n 1, 1) := by decide +kernel
theorem d_tr_enter_80 : decode b_tr_enter 80 = .ok (.invokevirtual 46, 3) := by decide +kernel
theorem d_tr_enter_83 : decode b_tr_enter 83 = .ok (.putfield 39, 3) := by decide +kernel
theorem d_tr_enter_86 : decode b_tr_enter 86 = .ok (.return_, 1) := by decide +kernel
theorem d_nd_newChild_0 : decode b_nd_newChild 0 = .ok (.new 8, 3) := by decide +kernel
theorem d_nd_newChild_3 : decode b_nd_newChild 3 = .ok (.dup, 1) := by decide +kernel
theorem d_nd_newChild_4 : decode b_nd_newChild 4 = .ok (.iload_n 1, 1) := by decide +kernel
theorem d_nd_newChild_5 : decode b_nd_newChild 5 = .ok (.invokespecial 24, 3) := by decide +kernel
theorem d_nd_newChild_8 : decode b_nd_newChild 8 = .ok (.astore_n 2, 1) := by decide +kernel
theorem d_nd_newChild_9 : decode b_nd_newChild 9 = .ok (.aload_n 2, 1) := by decide +kernel
theorem d_nd_newChild_10 : decode b_nd_newChild 10 = .ok (.aload_n 0, 1) := by decide +kernel
theorem d_nd_newChild_11 : decode b_nd_newChild 11 = .ok (.getfield 7, 3) := by decide +kernel
theorem d_nd_newChild_14 : decode b_nd_newChild 14 = .ok (.putfield 13, 3) := by decide +kernel
theorem d_nd_newChild_17 : decode b_nd_newChild 17 = .ok (.aload_n 0, 1) := by decide +kernel
theorem d_nd_newChild_18 : decode b_nd_newChild 18 = .ok (.aload_n 2, 1) := by decide +kernel
theorem d_nd_newChild_19 : decode b_nd_newChild 19 = .ok (.putfield 7, 3) := by decide +kernel
theorem d_nd_newChild_22 : decode b_nd_newChild 22 = .ok (.aload_n 2, 1) := by decide +kernel
theorem d_nd_newChild_23 : decode b_nd_newChild 23 = .ok (.areturn, 1) := by decide +kernel
theorem d_rw_copyOfNumbers_0 : decode b_rw_copyOfNumbers 0 = .ok (.aload_n 0, 1) := by decide +kernel
theorem d_rw_copyOfNumbers_1 : decode b_rw_copyOfNumbers 1 = .ok (.getfield 15, 3) := by decide +kernel
theorem d_rw_copyOfNumbers_4 : decode b_rw_copyOfNumbers 4 = .ok (.invokevirtual 40, 3) := by decide +kernel
theorem d_rw_copyOfNumbers_7 : decode b_rw_copyOfNumbers 7 = .ok (.checkcast 41, 3) := by decide +kernel
theorem d_rw_copyOfNumbers_10 : decode b_rw_copyOfNumbers 10 = .ok (.areturn, 1) := by decide +kernel
theorem d_lw_exception_0 : decode b_lw_exception 0 = .ok (.aload_n 1, 1) := by decide +kernel
theorem d_lw_exception_1 : decode b_lw_exception 1 = .ok (.iconst 0, 1) := by decide +kernel
theorem d_lw_exception_2 : decode b_lw_exception 2 = .ok (.aload_n 0, 1) := by decide +kernel
theorem d_lw_exception_3 : decode b_lw_exception 3 = .ok (.invokevirtual 17, 3) := by decide +kernel
theorem d_lw_exception_6 : decode b_lw_exception 6 = .ok (.i2l, 1) := by decide +kernel
theorem d_lw_exception_7 : decode b_lw_exception 7 = .ok (.lastore, 1) := by decide +kernel
theorem d_lw_exception_8 : decode b_lw_exception 8 = .ok (.goto 9, 3) := by decide +kernel
theorem d_lw_exception_11 : decode b_lw_exception 11 = .ok (.astore_n 2, 1) := by decide +kernel
theorem d_lw_exception_12 : decode b_lw_exception 12 = .ok (.iconst 1, 1) := by decide +kernel
theorem d_lw_exception_13 : decode b_lw_exception 13 = .ok (.ireturn, 1) := by decide +kernel
theorem d_lw_exception_14 : decode b_lw_exception 14 = .ok (.astore_n 2, 1) := by decide +kernel
theorem d_lw_exception_15 : decode b_lw_exception 15 = .ok (.iconst 2, 1) := by decide +kernel
theorem d_lw_exception_16 : decode b_lw_exception 16 = .ok (.ireturn, 1) := by decide +kernel
theorem d_lw_exception_17 : decode b_lw_exception 17 = .ok (.iconst 0, 1) := by decide +kernel
theorem d_lw_exception_18 : decode b_lw_exception 18 = .ok (.ireturn, 1) := by decide +kernel
theorem d_bk_exception_0 : decode b_bk_exception 0 = .ok (.aload_n 0, 1) := by decide +kernel
theorem d_bk_exception_1 : decode b_bk_exception 1 = .ok (.invokevirtual 80, 3) := by decide +kernel
theorem d_bk_exception_4 : decode b_bk_exception 4 = .ok (.istore_n 1, 1) := by decide +kernel
theorem d_bk_exception_5 : decode b_bk_exception 5 = .ok (.aload_n 0, 1) := by decide +kernel
theorem d_bk_exception_6 : decode b_bk_exception 6 = .ok (.iconst 0, 1) := by decide +kernel
theorem d_bk_exception_7 : decode b_bk_exception 7 = .ok (.putfield 13, 3) := by decide +kernel
theorem d_bk_exception_10 : decode b_bk_exception 10 = .ok (.iload_n 1, 1) := by decide +kernel
theorem d_bk_exception_11 : decode b_bk_exception 11 = .ok (.ifCond .ne 13, 3) := by decide +kernel
theorem d_bk_exception_14 : decode b_bk_exception 14 = .ok (.new 47, 3) := by decide +kernel
theorem d_bk_exception_17 : decode b_bk_exception 17 = .ok (.dup, 1) := by decide +kernel
theorem d_bk_exception_18 : decode b_bk_exception 18 = .ok (.ldc 83, 2) := by decide +kernel
theorem d_bk_exception_20 : decode b_bk_exception 20 = .ok (.invokespecial 51, 3) := by decide +kernel
theorem d_bk_exception_23 : decode b_bk_exception 23 = .ok (.athrow, 1) := by decide +kernel
theorem d_bk_exception_24 : decode b_bk_exception 24 = .ok (.aload_n 0, 1) := by decide +kernel
theorem d_bk_exception_25 : decode b_bk_exception 25 = .ok (.getfield 30, 3) := by decide +kernel
theorem d_bk_exception_28 : decode b_bk_exception 28 = .ok (.aload_n 0, 1) := by decide +kernel
theorem d_bk_exception_29 : decode b_bk_exception 29 = .ok (.getfield 36, 3) := by decide +kernel
theorem d_bk_exception_32 : decode b_bk_exception 32 = .ok (.invokevirtual 54, 3) := by decide +kernel
theorem d_bk_exception_35 : decode b_bk_exception 35 = .ok (.ifnonnull 26, 3) := by decide +kernel
theorem d_bk_exception_38 : decode b_bk_exception 38 = .ok (.aload_n 0, 1) := by decide +kernel
theorem d_bk_exception_39 : decode b_bk_exception 39 = .ok (.getfield 30, 3) := by decide +kernel
theorem d_bk_exception_42 : decode b_bk_exception 42 = .ok (.invokevirtual 63, 3) := by decide +kernel
theorem d_bk_exception_45 : decode b_bk_exception 45 = .ok (.sipush 2048, 3) := by decide +kernel
theorem d_bk_exception_48 : decode b_bk_exception 48 = .ok (.if_icmp .lt 13, 3) := by decide +kernel
theorem d_bk_exception_51 : decode b_bk_exception 51 = .ok (.new 58, 3) := by decide +kernel
theorem d_bk_exception_54 : decode b_bk_exception 54 = .ok (.dup, 1) := by decide +kernel
theorem d_bk_exception_55 : decode b_bk_exception 55 = .ok (.ldc 85, 2) := by decide +kernel
theorem d_bk_exception_57 : decode b_bk_exception 57 = .ok (.invokespecial 62, 3) := by decide +kernel
theorem d_bk_exception_60 : decode b_bk_exception 60 = .ok (.athrow, 1) := by decide +kernel
theorem d_bk_exception_61 : decode b_bk_exception 61 = .ok (.aload_n 0, 1) := by decide +kernel
theorem d_bk_exception_62 : decode b_bk_exception 62 = .ok (.getfield 30, 3) := by decide +kernel
theorem d_bk_exception_65 : decode b_bk_exception 65 = .ok (.aload_n 0, 1) := by decide +kernel
theorem d_bk_exception_66 : decode b_bk_exception 66 = .ok (.getfield 36, 3) := by decide +kernel
theorem d_bk_exception_69 : decode b_bk_exception 69 = .ok (.invokevirtual 76, 3) := by decide +kernel
theorem d_bk_exception_72 : decode b_bk_exception 72 = .ok (.aload_n 0, 1) := by decide +kernel
theorem d_bk_exception_73 : decode b_bk_exception 73 = .ok (.getfield 30, 3) := by decide +kernel
theorem d_bk_exception_76 : decode b_bk_exception 76 = .ok (.invokevirtual 63, 3) := by decide +kernel
theorem d_bk_exception_79 : decode b_bk_exception 79 = .ok (.ireturn, 1) := by decide +kernel
theorem d_bk_readException_0 : decode b_bk_readException 0 = .ok (.aload_n 0, 1) := by decide +kernel
theorem d_bk_readException_1 : decode b_bk_readException 1 = .ok (.getfield 36, 3) := by decide +kernel
theorem d_bk_readException_4 : decode b_bk_readException 4 = .ok (.invokevirtual 115, 3) := by decide +kernel
theorem d_bk_readException_7 : decode b_bk_readException 7 = .ok (.aload_n 0, 1) := by decide +kernel
theorem d_bk_readException_8 : decode b_bk_readException 8 = .ok (.getfield 36, 3) := by decide +kernel
theorem d_bk_readException_11 : decode b_bk_readException 11 = .ok (.bipush 46, 2) := by decide +kernel
theorem d_bk_readException_13 : decode b_bk_readException 13 = .ok (.invokevirtual 136, 3) := by decide +kernel
theorem d_bk_readException_16 : decode b_bk_readException 16 = .ok (.pop, 1) := by decide +kernel
theorem d_bk_readException_17 : decode b_bk_readException 17 = .ok (.iconst 0, 1) := by decide +kernel
theorem d_bk_readException_18 : decode b_bk_readException 18 = .ok (.istore_n 1, 1) := by decide +kernel
theorem d_bk_readException_19 : decode b_bk_readException 19 = .ok (.iconst 0, 1) := by decide +kernel
theorem d_bk_readException_20 : decode b_bk_readException 20 = .ok (.istore_n 2, 1) := by decide +kernel
theorem d_bk_readException_21 : decode b_bk_readException 21 = .ok (.iload_n 2, 1) := by decide +kernel
theorem d_bk_readException_22 : decode b_bk_readException 22 = .ok (.aload_n 0, 1) := by decide +kernel
theorem d_bk_readException_23 : decode b_bk_readException 23 = .ok (.getfield 13, 3) := by decide +kernel
theorem d_bk_readException_26 : decode b_bk_readException 26 = .ok (.if_icmp .ge 70, 3) := by decide +kernel
theorem d_bk_readException_29 : decode b_bk_readException 29 = .ok (.aload_n 0, 1) := by decide +kernel
theorem d_bk_readException_30 : decode b_bk_readException 30 = .ok (.getfield 9, 3) := by decide +kernel
theorem d_bk_readException_33 : decode b_bk_readException 33 = .ok (.iload_n 2, 1) := by decide +kernel
theorem d_bk_readException_34 : decode b_bk_readException 34 = .ok (.invokestatic 118, 3) := by decide +kernel
theorem d_bk_readException_37 : decode b_bk_readException 37 = .ok (.istore_n 3, 1) := by decide +kernel
theorem d_bk_readException_38 : decode b_bk_readException 38 = .ok (.iload_n 3, 1) := by decide +kernel
theorem d_bk_readException_39 : decode b_bk_readException 39 = .ok (.bipush 45, 2) := by decide +kernel
theorem d_bk_readException_41 : decode b_bk_readException 41 = .ok (.if_icmp .ne 27, 3) := by decide +kernel
theorem d_bk_readException_44 : decode b_bk_readException 44 = .ok (.iload_n 1, 1) := by decide +kernel
theorem d_bk_readException_45 : decode b_bk_readException 45 = .ok (.ifCond .eq 23, 3) := by decide +kernel
theorem d_bk_readException_48 : decode b_bk_readException 48 = .ok (.aload_n 0, 1) := by decide +kernel
theorem d_bk_readException_49 : decode b_bk_readException 49 = .ok (.getfield 36, 3) := by decide +kernel
theorem d_bk_readException_52 : decode b_bk_readException 52 = .ok (.aload_n 0, 1) := by decide +kernel
theorem d_bk_readException_53 : decode b_bk_readException 53 = .ok (.getfield 36, 3) := by decide +kernel
theorem d_bk_readException_56 : decode b_bk_readException 56 = .ok (.invokevirtual 126, 3) := by decide +kernel
theorem d_bk_readException_59 : decode b_bk_readException 59 = .ok (.iconst 1, 1) := by decide +kernel
theorem d_bk_readException_60 : decode b_bk_readException 60 = .ok (.invokevirtual 129, 3) := by decide +kernel
theorem d_bk_readException_63 : decode b_bk_readException 63 = .ok (.iconst 0, 1) := by decide +kernel
theorem d_bk_readException_64 : decode b_bk_readException 64 = .ok (.istore_n 1, 1) := by decide +kernel
theorem d_bk_readException_65 : decode b_bk_readException 65 = .ok (.goto 25, 3) := by decide +kernel
theorem d_bk_readException_68 : decode b_bk_readException 68 = .ok (.iload_n 3, 1) := by decide +kernel
theorem d_bk_readException_69 : decode b_bk_readException 69 = .ok (.invokestatic 133, 3) := by decide +kernel
theorem d_bk_readException_72 : decode b_bk_readException 72 = .ok (.ifCond .eq 14, 3) := by decide +kernel
theorem d_bk_readException_75 : decode b_bk_readException 75 = .ok (.aload_n 0, 1) := by decide +kernel
theorem d_bk_readException_76 : decode b_bk_readException 76 = .ok (.getfield 36, 3) := by decide +kernel
theorem d_bk_readException_79 : decode b_bk_readException 79 = .ok (.iload_n 3, 1) := by decide +kernel
theorem d_bk_readException_80 : decode b_bk_readException 80 = .ok (.invokevirtual 136, 3) := by decide +kernel
theorem d_bk_readException_83 : decode b_bk_readException 83 = .ok (.ifCond .ne 5, 3) := by decide +kernel
theorem d_bk_readException_86 : decode b_bk_readException 86 = .ok (.iconst 0, 1) := by decide +kernel
theorem d_bk_readException_87 : decode b_bk_readException 87 = .ok (.ireturn, 1) := by decide +kernel
theorem d_bk_readException_88 : decode b_bk_readException 88 = .ok (.iconst 1, 1) := by decide +kernel
theorem d_bk_readException_89 : decode b_bk_readException 89 = .ok (.istore_n 1, 1) := by decide +kernel
theorem d_bk_readException_90 : decode b_bk_readException 90 = .ok (.iinc 2 1, 3) := by decide +kernel
theorem d_bk_readException_93 : decode b_bk_readException 93 = .ok (.goto (-72), 3) := by decide +kernel
theorem d_bk_readException_96 : decode b_bk_readException 96 = .ok (.iload_n 1, 1) := by decide +kernel
theorem d_bk_readException_97 : decode b_bk_readException 97 = .ok (.ifCond .eq 19, 3) := by decide +kernel
theorem d_bk_readException_100 : decode b_bk_readException 100 = .ok (.aload_n 0, 1) := by decide +kernel
theorem d_bk_readException_101 : decode b_bk_readException 101 = .ok (.getfield 36, 3) := by decide +kernel
theorem d_bk_readException_104 : decode b_bk_readException 104 = .ok (.bipush 46, 2) := by decide +kernel
theorem d_bk_readException_106 : decode b_bk_readException 106 = .ok (.invokevirtual 136, 3) := by decide +kernel
theorem d_bk_readException_109 : decode b_bk_readException 109 = .ok (.ifCond .eq 7, 3) := by decide +kernel
theorem d_bk_readException_112 : decode b_bk_readException 112 = .ok (.iconst 1, 1) := by decide +kernel
theorem d_bk_readException_113 : decode b_bk_readException 113 = .ok (.goto 4, 3) := by decide +kernel
theorem d_bk_readException_116 : decode b_bk_readException 116 = .ok (.iconst 0, 1) := by decide +kernel
theorem d_bk_readException_117 : decode b_bk_readException 117 = .ok (.ireturn, 1) := by decide +kernel
theorem d_lw_word_0 : decode b_lw_word 0 = .ok (.aload_n 1, 1) := by decide +kernel
theorem d_lw_word_1 : decode b_lw_word 1 = .ok (.iconst 0, 1) := by decide +kernel
theorem d_lw_word_2 : decode b_lw_word 2 = .ok (.aload_n 0, 1) := by decide +kernel
theorem d_lw_word_3 : decode b_lw_word 3 = .ok (.invokevirtual 20, 3) := by decide +kernel
theorem d_lw_word_6 : decode b_lw_word 6 = .ok (.lastore, 1) := by decide +kernel
theorem d_lw_word_7 : decode b_lw_word 7 = .ok (.goto 6, 3) := by decide +kernel
theorem d_lw_word_10 : decode b_lw_word 10 = .ok (.astore_n 2, 1) := by decide +kernel
theorem d_lw_word_11 : decode b_lw_word 11 = .ok (.iconst 1, 1) := by decide +kernel
theorem d_lw_word_12 : decode b_lw_word 12 = .ok (.ireturn, 1) := by decide +kernel
theorem d_lw_word_13 : decode b_lw_word 13 = .ok (.iconst 0, 1) := by decide +kernel
theorem d_lw_word_14 : decode b_lw_word 14 = .ok (.ireturn, 1) := by decide +kernel
theorem d_bk_word_0 : decode b_bk_word 0 = .ok (.aload_n 0, 1) := by decide +kernel
theorem d_bk_word_1 : decode b_bk_word 1 = .ok (.invokevirtual 87, 3) := by decide +kernel
theorem d_bk_word_4 : decode b_bk_word 4 = .ok (.istore_n 1, 1) := by decide +kernel
theorem d_bk_word_5 : decode b_bk_word 5 = .ok (.iload_n 1, 1) := by decide +kernel
theorem d_bk_word_6 : decode b_bk_word 6 = .ok (.ifCond .eq 7, 3) := by decide +kernel
theorem d_bk_word_9 : decode b_bk_word 9 = .ok (.aload_n 0, 1) := by decide +kernel
theorem d_bk_word_10 : decode b_bk_word 10 = .ok (.invokevirtual 90, 3) := by decide +kernel
theorem d_bk_word_13 : decode b_bk_word 13 = .ok (.aload_n 0, 1) := by decide +kernel
theorem d_bk_word_14 : decode b_bk_word 14 = .ok (.iconst 0, 1) := by decide +kernel
theorem d_bk_word_15 : decode b_bk_word 15 = .ok (.putfield 13, 3) := by decide +kernel
theorem d_bk_word_18 : decode b_bk_word 18 = .ok (.iload_n 1, 1) := by decide +kernel
theorem d_bk_word_19 : decode b_bk_word 19 = .ok (.ifCond .ne 13, 3) := by decide +kernel
theorem d_bk_word_22 : decode b_bk_word 22 = .ok (.new 47, 3) := by decide +kernel
theorem d_bk_word_25 : decode b_bk_word 25 = .ok (.dup, 1) := by decide +kernel
theorem d_bk_word_26 : decode b_bk_word 26 = .ok (.ldc 93, 2) := by decide +kernel
theorem d_bk_word_28 : decode b_bk_word 28 = .ok (.invokespecial 51, 3) := by decide +kernel
theorem d_bk_word_31 : decode b_bk_word 31 = .ok (.athrow, 1) := by decide +kernel
theorem d_bk_word_32 : decode b_bk_word 32 = .ok (.aload_n 0, 1) := by decide +kernel
theorem d_bk_word_33 : decode b_bk_word 33 = .ok (.getfield 26, 3) := by decide +kernel
theorem d_bk_word_36 : decode b_bk_word 36 = .ok (.aload_n 0, 1) := by decide +kernel
theorem d_bk_word_37 : decode b_bk_word 37 = .ok (.getfield 40, 3) := by decide +kernel
theorem d_bk_word_40 : decode b_bk_word 40 = .ok (.invokevirtual 95, 3) := by decide +kernel
theorem d_bk_word_43 : decode b_bk_word 43 = .ok (.aload_n 0, 1) := by decide +kernel
theorem d_bk_word_44 : decode b_bk_word 44 = .ok (.invokevirtual 98, 3) := by decide +kernel
theorem d_bk_word_47 : decode b_bk_word 47 = .ok (.lreturn, 1) := by decide +kernel
theorem d_bk_draftIsWord_0 : decode b_bk_draftIsWord 0 = .ok (.aload_n 0, 1) := by decide +kernel
theorem d_bk_draftIsWord_1 : decode b_bk_draftIsWord 1 = .ok (.getfield 13, 3) := by decide +kernel
theorem d_bk_draftIsWord_4 : decode b_bk_draftIsWord 4 = .ok (.iconst 1, 1) := by decide +kernel
theorem d_bk_draftIsWord_5 : decode b_bk_draftIsWord 5 = .ok (.if_icmp .lt 12, 3) := by decide +kernel
theorem d_bk_draftIsWord_8 : decode b_bk_draftIsWord 8 = .ok (.aload_n 0, 1) := by decide +kernel
theorem d_bk_draftIsWord_9 : decode b_bk_draftIsWord 9 = .ok (.getfield 13, 3) := by decide +kernel
theorem d_bk_draftIsWord_12 : decode b_bk_draftIsWord 12 = .ok (.bipush 63, 2) := by decide +kernel
theorem d_bk_draftIsWord_14 : decode b_bk_draftIsWord 14 = .ok (.if_icmp .le 5, 3) := by decide +kernel
theorem d_bk_draftIsWord_17 : decode b_bk_draftIsWord 17 = .ok (.iconst 0, 1) := by decide +kernel
theorem d_bk_draftIsWord_18 : decode b_bk_draftIsWord 18 = .ok (.ireturn, 1) := by decide +kernel
theorem d_bk_draftIsWord_19 : decode b_bk_draftIsWord 19 = .ok (.iconst 0, 1) := by decide +kernel
theorem d_bk_draftIsWord_20 : decode b_bk_draftIsWord 20 = .ok (.istore_n 1, 1) := by decide +kernel
theorem d_bk_draftIsWord_21 : decode b_bk_draftIsWord 21 = .ok (.iload_n 1, 1) := by decide +kernel
theorem d_bk_draftIsWord_22 : decode b_bk_draftIsWord 22 = .ok (.aload_n 0, 1) := by decide +kernel
theorem d_bk_draftIsWord_23 : decode b_bk_draftIsWord 23 = .ok (.getfield 13, 3) := by decide +kernel
theorem d_bk_draftIsWord_26 : decode b_bk_draftIsWord 26 = .ok (.if_icmp .ge 25, 3) := by decide +kernel
theorem d_bk_draftIsWord_29 : decode b_bk_draftIsWord 29 = .ok (.aload_n 0, 1) := by decide +kernel
theorem d_bk_draftIsWord_30 : decode b_bk_draftIsWord 30 = .ok (.getfield 9, 3) := by decide +kernel
theorem d_bk_draftIsWord_33 : decode b_bk_draftIsWord 33 = .ok (.iload_n 1, 1) := by decide +kernel
theorem d_bk_draftIsWord_34 : decode b_bk_draftIsWord 34 = .ok (.invokestatic 118, 3) := by decide +kernel
theorem d_bk_draftIsWord_37 : decode b_bk_draftIsWord 37 = .ok (.invokestatic 133, 3) := by decide +kernel
theorem d_bk_draftIsWord_40 : decode b_bk_draftIsWord 40 = .ok (.ifCond .ne 5, 3) := by decide +kernel
theorem d_bk_draftIsWord_43 : decode b_bk_draftIsWord 43 = .ok (.iconst 0, 1) := by decide +kernel
theorem d_bk_draftIsWord_44 : decode b_bk_draftIsWord 44 = .ok (.ireturn, 1) := by decide +kernel
theorem d_bk_draftIsWord_45 : decode b_bk_draftIsWord 45 = .ok (.iinc 1 1, 3) := by decide +kernel
theorem d_bk_draftIsWord_48 : decode b_bk_draftIsWord 48 = .ok (.goto (-27), 3) := by decide +kernel
theorem d_bk_draftIsWord_51 : decode b_bk_draftIsWord 51 = .ok (.iconst 1, 1) := by decide +kernel
theorem d_bk_draftIsWord_52 : decode b_bk_draftIsWord 52 = .ok (.ireturn, 1) := by decide +kernel
theorem d_bk_copyDraftToAsked_0 : decode b_bk_copyDraftToAsked 0 = .ok (.aload_n 0, 1) := by decide +kernel
theorem d_bk_copyDraftToAsked_1 : decode b_bk_copyDraftToAsked 1 = .ok (.getfield 40, 3) := by decide +kernel
theorem d_bk_copyDraftToAsked_4 : decode b_bk_copyDraftToAsked 4 = .ok (.invokevirtual 115, 3) := by decide +kernel
theorem d_bk_copyDraftToAsked_7 : decode b_bk_copyDraftToAsked 7 = .ok (.aload_n 0, 1) := by decide +kernel
theorem d_bk_copyDraftToAsked_8 : decode b_bk_copyDraftToAsked 8 = .ok (.getfield 40, 3) := by decide +kernel
theorem d_bk_copyDraftToAsked_11 : decode b_bk_copyDraftToAsked 11 = .ok (.bipush 46, 2) := by decide +kernel
theorem d_bk_copyDraftToAsked_13 : decode b_bk_copyDraftToAsked 13 = .ok (.invokevirtual 136, 3) := by decide +kernel
theorem d_bk_copyDraftToAsked_16 : decode b_bk_copyDraftToAsked 16 = .ok (.pop, 1) := by decide +kernel
theorem d_bk_copyDraftToAsked_17 : decode b_bk_copyDraftToAsked 17 = .ok (.iconst 0, 1) := by decide +kernel
theorem d_bk_copyDraftToAsked_18 : decode b_bk_copyDraftToAsked 18 = .ok (.istore_n 1, 1) := by decide +kernel
theorem d_bk_copyDraftToAsked_19 : decode b_bk_copyDraftToAsked 19 = .ok (.iload_n 1, 1) := by decide +kernel
theorem d_bk_copyDraftToAsked_20 : decode b_bk_copyDraftToAsked 20 = .ok (.aload_n 0, 1) := by decide +kernel
theorem d_bk_copyDraftToAsked_21 : decode b_bk_copyDraftToAsked 21 = .ok (.getfield 13, 3) := by decide +kernel
theorem d_bk_copyDraftToAsked_24 : decode b_bk_copyDraftToAsked 24 = .ok (.if_icmp .ge 25, 3) := by decide +kernel
theorem d_bk_copyDraftToAsked_27 : decode b_bk_copyDraftToAsked 27 = .ok (.aload_n 0, 1) := by decide +kernel
theorem d_bk_copyDraftToAsked_28 : decode b_bk_copyDraftToAsked 28 = .ok (.getfield 40, 3) := by decide +kernel
theorem d_bk_copyDraftToAsked_31 : decode b_bk_copyDraftToAsked 31 = .ok (.aload_n 0, 1) := by decide +kernel
theorem d_bk_copyDraftToAsked_32 : decode b_bk_copyDraftToAsked 32 = .ok (.getfield 9, 3) := by decide +kernel
theorem d_bk_copyDraftToAsked_35 : decode b_bk_copyDraftToAsked 35 = .ok (.iload_n 1, 1) := by decide +kernel
theorem d_bk_copyDraftToAsked_36 : decode b_bk_copyDraftToAsked 36 = .ok (.invokestatic 118, 3) := by decide +kernel
theorem d_bk_copyDraftToAsked_39 : decode b_bk_copyDraftToAsked 39 = .ok (.invokevirtual 136, 3) := by decide +kernel
theorem d_bk_copyDraftToAsked_42 : decode b_bk_copyDraftToAsked 42 = .ok (.pop, 1) := by decide +kernel
theorem d_bk_copyDraftToAsked_43 : decode b_bk_copyDraftToAsked 43 = .ok (.iinc 1 1, 3) := by decide +kernel
theorem d_bk_copyDraftToAsked_46 : decode b_bk_copyDraftToAsked 46 = .ok (.goto (-27), 3) := by decide +kernel
theorem d_bk_copyDraftToAsked_49 : decode b_bk_copyDraftToAsked 49 = .ok (.aload_n 0, 1) := by decide +kernel
theorem d_bk_copyDraftToAsked_50 : decode b_bk_copyDraftToAsked 50 = .ok (.getfield 40, 3) := by decide +kernel
theorem d_bk_copyDraftToAsked_53 : decode b_bk_copyDraftToAsked 53 = .ok (.bipush 46, 2) := by decide +kernel
theorem d_bk_copyDraftToAsked_55 : decode b_bk_copyDraftToAsked 55 = .ok (.invokevirtual 136, 3) := by decide +kernel
theorem d_bk_copyDraftToAsked_58 : decode b_bk_copyDraftToAsked 58 = .ok (.pop, 1) := by decide +kernel
theorem d_bk_copyDraftToAsked_59 : decode b_bk_copyDraftToAsked 59 = .ok (.return_, 1) := by decide +kernel
theorem d_tr_raiseNumbers_0 : decode b_tr_raiseNumbers 0 = .ok (.iconst 0, 1) := by decide +kernel
theorem d_tr_raiseNumbers_1 : decode b_tr_raiseNumbers 1 = .ok (.istore_n 2, 1) := by decide +kernel
theorem d_tr_raiseNumbers_2 : decode b_tr_raiseNumbers 2 = .ok (.iload_n 2, 1) := by decide +kernel
theorem d_tr_raiseNumbers_3 : decode b_tr_raiseNumbers 3 = .ok (.aload_n 1, 1) := by decide +kernel
theorem d_tr_raiseNumbers_4 : decode b_tr_raiseNumbers 4 = .ok (.invokevirtual 25, 3) := by decide +kernel
theorem d_tr_raiseNumbers_7 : decode b_tr_raiseNumbers 7 = .ok (.if_icmp .ge 15, 3) := by decide +kernel
theorem d_tr_raiseNumbers_10 : decode b_tr_raiseNumbers 10 = .ok (.aload_n 0, 1) := by decide +kernel
theorem d_tr_raiseNumbers_11 : decode b_tr_raiseNumbers 11 = .ok (.iload_n 2, 1) := by decide +kernel
theorem d_tr_raiseNumbers_12 : decode b_tr_raiseNumbers 12 = .ok (.aload_n 1, 1) := by decide +kernel
theorem d_tr_raiseNumbers_13 : decode b_tr_raiseNumbers 13 = .ok (.invokevirtual 50, 3) := by decide +kernel
theorem d_tr_raiseNumbers_16 : decode b_tr_raiseNumbers 16 = .ok (.iinc 2 1, 3) := by decide +kernel
theorem d_tr_raiseNumbers_19 : decode b_tr_raiseNumbers 19 = .ok (.goto (-17), 3) := by decide +kernel
theorem d_tr_raiseNumbers_22 : decode b_tr_raiseNumbers 22 = .ok (.return_, 1) := by decide +kernel
theorem d_tr_raiseNumbersFrom_0 : decode b_tr_raiseNumbersFrom 0 = .ok (.aload_n 0, 1) := by decide +kernel
theorem d_tr_raiseNumbersFrom_1 : decode b_tr_raiseNumbersFrom 1 = .ok (.getfield 12, 3) := by decide +kernel
theorem d_tr_raiseNumbersFrom_4 : decode b_tr_raiseNumbersFrom 4 = .ok (.astore_n 3, 1) := by decide +kernel
theorem d_tr_raiseNumbersFrom_5 : decode b_tr_raiseNumbersFrom 5 = .ok (.iload_n 1, 1) := by decide +kernel
theorem d_tr_raiseNumbersFrom_6 : decode b_tr_raiseNumbersFrom 6 = .ok (.istore 4, 2) := by decide +kernel
theorem d_tr_raiseNumbersFrom_8 : decode b_tr_raiseNumbersFrom 8 = .ok (.iload 4, 2) := by decide +kernel
theorem d_tr_raiseNumbersFrom_10 : decode b_tr_raiseNumbersFrom 10 = .ok (.aload_n 2, 1) := by decide +kernel
theorem d_tr_raiseNumbersFrom_11 : decode b_tr_raiseNumbersFrom 11 = .ok (.invokevirtual 25, 3) := by decide +kernel
theorem d_tr_raiseNumbersFrom_14 : decode b_tr_raiseNumbersFrom 14 = .ok (.if_icmp .ge 45, 3) := by decide +kernel
theorem d_tr_raiseNumbersFrom_17 : decode b_tr_raiseNumbersFrom 17 = .ok (.aload_n 3, 1) := by decide +kernel
theorem d_tr_raiseNumbersFrom_18 : decode b_tr_raiseNumbersFrom 18 = .ok (.aload_n 2, 1) := by decide +kernel
theorem d_tr_raiseNumbersFrom_19 : decode b_tr_raiseNumbersFrom 19 = .ok (.iload 4, 2) := by decide +kernel
theorem d_tr_raiseNumbersFrom_21 : decode b_tr_raiseNumbersFrom 21 = .ok (.invokevirtual 31, 3) := by decide +kernel
theorem d_tr_raiseNumbersFrom_24 : decode b_tr_raiseNumbersFrom 24 = .ok (.invokevirtual 35, 3) := by decide +kernel
theorem d_tr_raiseNumbersFrom_27 : decode b_tr_raiseNumbersFrom 27 = .ok (.astore_n 3, 1) := by decide +kernel
theorem d_tr_raiseNumbersFrom_28 : decode b_tr_raiseNumbersFrom 28 = .ok (.aload_n 3, 1) := by decide +kernel
theorem d_tr_raiseNumbersFrom_29 : decode b_tr_raiseNumbersFrom 29 = .ok (.ifnonnull 4, 3) := by decide +kernel
theorem d_tr_raiseNumbersFrom_32 : decode b_tr_raiseNumbersFrom 32 = .ok (.return_, 1) := by decide +kernel
theorem d_tr_raiseNumbersFrom_33 : decode b_tr_raiseNumbersFrom 33 = .ok (.aload_n 3, 1) := by decide +kernel
theorem d_tr_raiseNumbersFrom_34 : decode b_tr_raiseNumbersFrom 34 = .ok (.getfield 39, 3) := by decide +kernel
theorem d_tr_raiseNumbersFrom_37 : decode b_tr_raiseNumbersFrom 37 = .ok (.ifnull 16, 3) := by decide +kernel
theorem d_tr_raiseNumbersFrom_40 : decode b_tr_raiseNumbersFrom 40 = .ok (.iload_n 1, 1) := by decide +kernel
theorem d_tr_raiseNumbersFrom_41 : decode b_tr_raiseNumbersFrom 41 = .ok (.iload 4, 2) := by decide +kernel
theorem d_tr_raiseNumbersFrom_43 : decode b_tr_raiseNumbersFrom 43 = .ok (.iconst 1, 1) := by decide +kernel
theorem d_tr_raiseNumbersFrom_44 : decode b_tr_raiseNumbersFrom 44 = .ok (.iadd, 1) := by decide +kernel
theorem d_tr_raiseNumbersFrom_45 : decode b_tr_raiseNumbersFrom 45 = .ok (.aload_n 3, 1) := by decide +kernel
theorem d_tr_raiseNumbersFrom_46 : decode b_tr_raiseNumbersFrom 46 = .ok (.getfield 39, 3) := by decide +kernel
theorem d_tr_raiseNumbersFrom_49 : decode b_tr_raiseNumbersFrom 49 = .ok (.aload_n 2, 1) := by decide +kernel
theorem d_tr_raiseNumbersFrom_50 : decode b_tr_raiseNumbersFrom 50 = .ok (.invokestatic 54, 3) := by decide +kernel
theorem d_tr_raiseNumbersFrom_53 : decode b_tr_raiseNumbersFrom 53 = .ok (.iinc 4 1, 3) := by decide +kernel
theorem d_tr_raiseNumbersFrom_56 : decode b_tr_raiseNumbersFrom 56 = .ok (.goto (-48), 3) := by decide +kernel
theorem d_tr_raiseNumbersFrom_59 : decode b_tr_raiseNumbersFrom 59 = .ok (.return_, 1) := by decide +kernel
theorem d_tr_raiseBetween_0 : decode b_tr_raiseBetween 0 = .ok (.iload_n 0, 1) := by decide +kernel
theorem d_tr_raiseBetween_1 : decode b_tr_raiseBetween 1 = .ok (.istore 4, 2) := by decide +kernel
theorem d_tr_raiseBetween_3 : decode b_tr_raiseBetween 3 = .ok (.iload 4, 2) := by decide +kernel
theorem d_tr_raiseBetween_5 : decode b_tr_raiseBetween 5 = .ok (.iload_n 1, 1) := by decide +kernel
theorem d_tr_raiseBetween_6 : decode b_tr_raiseBetween 6 = .ok (.if_icmp .gt 23, 3) := by decide +kernel
theorem d_tr_raiseBetween_9 : decode b_tr_raiseBetween 9 = .ok (.aload_n 3, 1) := by decide +kernel
theorem d_tr_raiseBetween_10 : decode b_tr_raiseBetween 10 = .ok (.iload 4, 2) := by decide +kernel
theorem d_tr_raiseBetween_12 : decode b_tr_raiseBetween 12 = .ok (.aload_n 2, 1) := by decide +kernel
theorem d_tr_raiseBetween_13 : decode b_tr_raiseBetween 13 = .ok (.iload 4, 2) := by decide +kernel
theorem d_tr_raiseBetween_15 : decode b_tr_raiseBetween 15 = .ok (.iload_n 0, 1) := by decide +kernel
theorem d_tr_raiseBetween_16 : decode b_tr_raiseBetween 16 = .ok (.isub, 1) := by decide +kernel
theorem d_tr_raiseBetween_17 : decode b_tr_raiseBetween 17 = .ok (.invokestatic 58, 3) := by decide +kernel
theorem d_tr_raiseBetween_20 : decode b_tr_raiseBetween 20 = .ok (.invokevirtual 64, 3) := by decide +kernel
theorem d_tr_raiseBetween_23 : decode b_tr_raiseBetween 23 = .ok (.iinc 4 1, 3) := by decide +kernel
theorem d_tr_raiseBetween_26 : decode b_tr_raiseBetween 26 = .ok (.goto (-23), 3) := by decide +kernel
theorem d_tr_raiseBetween_29 : decode b_tr_raiseBetween 29 = .ok (.return_, 1) := by decide +kernel
theorem d_rw_raiseNumber_0 : decode b_rw_raiseNumber 0 = .ok (.iload_n 2, 1) := by decide +kernel
theorem d_rw_raiseNumber_1 : decode b_rw_raiseNumber 1 = .ok (.aload_n 0, 1) := by decide +kernel
theorem d_rw_raiseNumber_2 : decode b_rw_raiseNumber 2 = .ok (.iload_n 1, 1) := by decide +kernel
theorem d_rw_raiseNumber_3 : decode b_rw_raiseNumber 3 = .ok (.invokevirtual 32, 3) := by decide +kernel
theorem d_rw_raiseNumber_6 : decode b_rw_raiseNumber 6 = .ok (.if_icmp .le 9, 3) := by decide +kernel
theorem d_rw_raiseNumber_9 : decode b_rw_raiseNumber 9 = .ok (.aload_n 0, 1) := by decide +kernel
theorem d_rw_raiseNumber_10 : decode b_rw_raiseNumber 10 = .ok (.iload_n 1, 1) := by decide +kernel
theorem d_rw_raiseNumber_11 : decode b_rw_raiseNumber 11 = .ok (.iload_n 2, 1) := by decide +kernel
theorem d_rw_raiseNumber_12 : decode b_rw_raiseNumber 12 = .ok (.invokevirtual 36, 3) := by decide +kernel
theorem d_rw_raiseNumber_15 : decode b_rw_raiseNumber 15 = .ok (.return_, 1) := by decide +kernel
theorem d_bk_cutsOfAsked_0 : decode b_bk_cutsOfAsked 0 = .ok (.aload_n 0, 1) := by decide +kernel
theorem d_bk_cutsOfAsked_1 : decode b_bk_cutsOfAsked 1 = .ok (.getfield 30, 3) := by decide +kernel
theorem d_bk_cutsOfAsked_4 : decode b_bk_cutsOfAsked 4 = .ok (.aload_n 0, 1) := by decide +kernel
theorem d_bk_cutsOfAsked_5 : decode b_bk_cutsOfAsked 5 = .ok (.getfield 40, 3) := by decide +kernel
theorem d_bk_cutsOfAsked_8 : decode b_bk_cutsOfAsked 8 = .ok (.invokevirtual 54, 3) := by decide +kernel
theorem d_bk_cutsOfAsked_11 : decode b_bk_cutsOfAsked 11 = .ok (.astore_n 1, 1) := by decide +kernel
theorem d_bk_cutsOfAsked_12 : decode b_bk_cutsOfAsked 12 = .ok (.lconst 0, 1) := by decide +kernel
theorem d_bk_cutsOfAsked_13 : decode b_bk_cutsOfAsked 13 = .ok (.lstore_n 2, 1) := by decide +kernel
theorem d_bk_cutsOfAsked_14 : decode b_bk_cutsOfAsked 14 = .ok (.aload_n 0, 1) := by decide +kernel
theorem d_bk_cutsOfAsked_15 : decode b_bk_cutsOfAsked 15 = .ok (.getfield 17, 3) := by decide +kernel
theorem d_bk_cutsOfAsked_18 : decode b_bk_cutsOfAsked 18 = .ok (.istore 4, 2) := by decide +kernel
theorem d_bk_cutsOfAsked_20 : decode b_bk_cutsOfAsked 20 = .ok (.iload 4, 2) := by decide +kernel
theorem d_bk_cutsOfAsked_22 : decode b_bk_cutsOfAsked 22 = .ok (.aload_n 0, 1) := by decide +kernel
theorem d_bk_cutsOfAsked_23 : decode b_bk_cutsOfAsked 23 = .ok (.invokevirtual 102, 3) := by decide +kernel
theorem d_bk_cutsOfAsked_26 : decode b_bk_cutsOfAsked 26 = .ok (.aload_n 0, 1) := by decide +kernel
theorem d_bk_cutsOfAsked_27 : decode b_bk_cutsOfAsked 27 = .ok (.getfield 20, 3) := by decide +kernel
theorem d_bk_cutsOfAsked_30 : decode b_bk_cutsOfAsked 30 = .ok (.isub, 1) := by decide +kernel
theorem d_bk_cutsOfAsked_31 : decode b_bk_cutsOfAsked 31 = .ok (.if_icmp .gt 55, 3) := by decide +kernel
theorem d_bk_cutsOfAsked_34 : decode b_bk_cutsOfAsked 34 = .ok (.iload 4, 2) := by decide +kernel
theorem d_bk_cutsOfAsked_36 : decode b_bk_cutsOfAsked 36 = .ok (.invokestatic 105, 3) := by decide +kernel
theorem d_bk_cutsOfAsked_39 : decode b_bk_cutsOfAsked 39 = .ok (.istore 5, 2) := by decide +kernel
theorem d_bk_cutsOfAsked_41 : decode b_bk_cutsOfAsked 41 = .ok (.aload_n 1, 1) := by decide +kernel
theorem d_bk_cutsOfAsked_42 : decode b_bk_cutsOfAsked 42 = .ok (.ifnonnull 15, 3) := by decide +kernel
theorem d_bk_cutsOfAsked_45 : decode b_bk_cutsOfAsked 45 = .ok (.aload_n 0, 1) := by decide +kernel
theorem d_bk_cutsOfAsked_46 : decode b_bk_cutsOfAsked 46 = .ok (.getfield 40, 3) := by decide +kernel
theorem d_bk_cutsOfAsked_49 : decode b_bk_cutsOfAsked 49 = .ok (.iload 5, 2) := by decide +kernel
theorem d_bk_cutsOfAsked_51 : decode b_bk_cutsOfAsked 51 = .ok (.invokevirtual 109, 3) := by decide +kernel
theorem d_bk_cutsOfAsked_54 : decode b_bk_cutsOfAsked 54 = .ok (.goto 9, 3) := by decide +kernel
theorem d_bk_cutsOfAsked_57 : decode b_bk_cutsOfAsked 57 = .ok (.aload_n 1, 1) := by decide +kernel
theorem d_bk_cutsOfAsked_58 : decode b_bk_cutsOfAsked 58 = .ok (.iload 5, 2) := by decide +kernel
theorem d_bk_cutsOfAsked_60 : decode b_bk_cutsOfAsked 60 = .ok (.invokestatic 118, 3) := by decide +kernel
theorem d_bk_cutsOfAsked_63 : decode b_bk_cutsOfAsked 63 = .ok (.istore 6, 2) := by decide +kernel
theorem d_bk_cutsOfAsked_65 : decode b_bk_cutsOfAsked 65 = .ok (.iload 6, 2) := by decide +kernel
theorem d_bk_cutsOfAsked_67 : decode b_bk_cutsOfAsked 67 = .ok (.iconst 1, 1) := by decide +kernel
theorem d_bk_cutsOfAsked_68 : decode b_bk_cutsOfAsked 68 = .ok (.iand, 1) := by decide +kernel
theorem d_bk_cutsOfAsked_69 : decode b_bk_cutsOfAsked 69 = .ok (.iconst 1, 1) := by decide +kernel
theorem d_bk_cutsOfAsked_70 : decode b_bk_cutsOfAsked 70 = .ok (.if_icmp .ne 10, 3) := by decide +kernel
theorem d_bk_cutsOfAsked_73 : decode b_bk_cutsOfAsked 73 = .ok (.lload_n 2, 1) := by decide +kernel
theorem d_bk_cutsOfAsked_74 : decode b_bk_cutsOfAsked 74 = .ok (.lconst 1, 1) := by decide +kernel
theorem d_bk_cutsOfAsked_75 : decode b_bk_cutsOfAsked 75 = .ok (.iload 4, 2) := by decide +kernel
theorem d_bk_cutsOfAsked_77 : decode b_bk_cutsOfAsked 77 = .ok (.lshl, 1) := by decide +kernel
theorem d_bk_cutsOfAsked_78 : decode b_bk_cutsOfAsked 78 = .ok (.lor, 1) := by decide +kernel
theorem d_bk_cutsOfAsked_79 : decode b_bk_cutsOfAsked 79 = .ok (.lstore_n 2, 1) := by decide +kernel
theorem d_bk_cutsOfAsked_80 : decode b_bk_cutsOfAsked 80 = .ok (.iinc 4 1, 3) := by decide +kernel
theorem d_bk_cutsOfAsked_83 : decode b_bk_cutsOfAsked 83 = .ok (.goto (-63), 3) := by decide +kernel
theorem d_bk_cutsOfAsked_86 : decode b_bk_cutsOfAsked 86 = .ok (.lload_n 2, 1) := by decide +kernel
theorem d_bk_cutsOfAsked_87 : decode b_bk_cutsOfAsked 87 = .ok (.lreturn, 1) := by decide +kernel
theorem d_lw_law_0 : decode b_lw_law 0 = .ok (.new 8, 3) := by decide +kernel
theorem d_lw_law_3 : decode b_lw_law 3 = .ok (.dup, 1) := by decide +kernel
theorem d_lw_law_4 : decode b_lw_law 4 = .ok (.invokespecial 24, 3) := by decide +kernel
theorem d_lw_law_7 : decode b_lw_law 7 = .ok (.astore_n 1, 1) := by decide +kernel
theorem d_lw_law_8 : decode b_lw_law 8 = .ok (.new 25, 3) := by decide +kernel
theorem d_lw_law_11 : decode b_lw_law 11 = .ok (.dup, 1) := by decide +kernel
theorem d_lw_law_12 : decode b_lw_law 12 = .ok (.invokespecial 27, 3) := by decide +kernel
theorem d_lw_law_15 : decode b_lw_law 15 = .ok (.astore_n 2, 1) := by decide +kernel
theorem d_lw_law_16 : decode b_lw_law 16 = .ok (.iconst 1, 1) := by decide +kernel
theorem d_lw_law_17 : decode b_lw_law 17 = .ok (.newarray .long, 2) := by decide +kernel
theorem d_lw_law_19 : decode b_lw_law 19 = .ok (.astore_n 3, 1) := by decide +kernel
theorem d_lw_law_20 : decode b_lw_law 20 = .ok (.iconst 0, 1) := by decide +kernel
theorem d_lw_law_21 : decode b_lw_law 21 = .ok (.istore 4, 2) := by decide +kernel
theorem d_lw_law_23 : decode b_lw_law 23 = .ok (.iload 4, 2) := by decide +kernel
theorem d_lw_law_25 : decode b_lw_law 25 = .ok (.aload_n 0, 1) := by decide +kernel
theorem d_lw_law_26 : decode b_lw_law 26 = .ok (.arraylength, 1) := by decide +kernel
theorem d_lw_law_27 : decode b_lw_law 27 = .ok (.iconst 4, 1) := by decide +kernel
theorem d_lw_law_28 : decode b_lw_law 28 = .ok (.isub, 1) := by decide +kernel
theorem d_lw_law_29 : decode b_lw_law 29 = .ok (.if_icmp .gt 344, 3) := by decide +kernel
theorem d_lw_law_32 : decode b_lw_law 32 = .ok (.aload_n 0, 1) := by decide +kernel
theorem d_lw_law_33 : decode b_lw_law 33 = .ok (.iload 4, 2) := by decide +kernel
theorem d_lw_law_35 : decode b_lw_law 35 = .ok (.iaload, 1) := by decide +kernel
theorem d_lw_law_36 : decode b_lw_law 36 = .ok (.bipush 7, 2) := by decide +kernel
theorem d_lw_law_38 : decode b_lw_law 38 = .ok (.iand, 1) := by decide +kernel
theorem d_lw_law_39 : decode b_lw_law 39 = .ok (.tableswitch 328 0 6 #[41, 110, 154, 198, 241, 278, 303], 41) := by decide +kernel
theorem d_lw_law_80 : decode b_lw_law 80 = .ok (.aload_n 1, 1) := by decide +kernel
theorem d_lw_law_81 : decode b_lw_law 81 = .ok (.aload_n 0, 1) := by decide +kernel
theorem d_lw_law_82 : decode b_lw_law 82 = .ok (.iload 4, 2) := by decide +kernel
theorem d_lw_law_84 : decode b_lw_law 84 = .ok (.iconst 1, 1) := by decide +kernel
theorem d_lw_law_85 : decode b_lw_law 85 = .ok (.iadd, 1) := by decide +kernel
theorem d_lw_law_86 : decode b_lw_law 86 = .ok (.iaload, 1) := by decide +kernel
theorem d_lw_law_87 : decode b_lw_law 87 = .ok (.i2l, 1) := by decide +kernel
theorem d_lw_law_88 : decode b_lw_law 88 = .ok (.bipush 32, 2) := by decide +kernel
theorem d_lw_law_90 : decode b_lw_law 90 = .ok (.lshl, 1) := by decide +kernel
theorem d_lw_law_91 : decode b_lw_law 91 = .ok (.aload_n 0, 1) := by decide +kernel
theorem d_lw_law_92 : decode b_lw_law 92 = .ok (.iload 4, 2) := by decide +kernel
theorem d_lw_law_94 : decode b_lw_law 94 = .ok (.iconst 2, 1) := by decide +kernel
theorem d_lw_law_95 : decode b_lw_law 95 = .ok (.iadd, 1) := by decide +kernel
theorem d_lw_law_96 : decode b_lw_law 96 = .ok (.iaload, 1) := by decide +kernel
theorem d_lw_law_97 : decode b_lw_law 97 = .ok (.i2l, 1) := by decide +kernel
theorem d_lw_law_98 : decode b_lw_law 98 = .ok (.ldc2_w 28, 3) := by decide +kernel
theorem d_lw_law_101 : decode b_lw_law 101 = .ok (.land, 1) := by decide +kernel
theorem d_lw_law_102 : decode b_lw_law 102 = .ok (.lor, 1) := by decide +kernel
theorem d_lw_law_103 : decode b_lw_law 103 = .ok (.aload_n 0, 1) := by decide +kernel
theorem d_lw_law_104 : decode b_lw_law 104 = .ok (.iload 4, 2) := by decide +kernel
theorem d_lw_law_106 : decode b_lw_law 106 = .ok (.iconst 3, 1) := by decide +kernel
theorem d_lw_law_107 : decode b_lw_law 107 = .ok (.iadd, 1) := by decide +kernel
theorem d_lw_law_108 : decode b_lw_law 108 = .ok (.iaload, 1) := by decide +kernel
theorem d_lw_law_109 : decode b_lw_law 109 = .ok (.invokevirtual 30, 3) := by decide +kernel
theorem d_lw_law_112 : decode b_lw_law 112 = .ok (.aload_n 2, 1) := by decide +kernel
theorem d_lw_law_113 : decode b_lw_law 113 = .ok (.aload_n 0, 1) := by decide +kernel
theorem d_lw_law_114 : decode b_lw_law 114 = .ok (.iload 4, 2) := by decide +kernel
theorem d_lw_law_116 : decode b_lw_law 116 = .ok (.iconst 1, 1) := by decide +kernel
theorem d_lw_law_117 : decode b_lw_law 117 = .ok (.iadd, 1) := by decide +kernel
theorem d_lw_law_118 : decode b_lw_law 118 = .ok (.iaload, 1) := by decide +kernel
theorem d_lw_law_119 : decode b_lw_law 119 = .ok (.i2l, 1) := by decide +kernel
theorem d_lw_law_120 : decode b_lw_law 120 = .ok (.bipush 32, 2) := by decide +kernel
theorem d_lw_law_122 : decode b_lw_law 122 = .ok (.lshl, 1) := by decide +kernel
theorem d_lw_law_123 : decode b_lw_law 123 = .ok (.aload_n 0, 1) := by decide +kernel
theorem d_lw_law_124 : decode b_lw_law 124 = .ok (.iload 4, 2) := by decide +kernel
theorem d_lw_law_126 : decode b_lw_law 126 = .ok (.iconst 2, 1) := by decide +kernel
theorem d_lw_law_127 : decode b_lw_law 127 = .ok (.iadd, 1) := by decide +kernel
theorem d_lw_law_128 : decode b_lw_law 128 = .ok (.iaload, 1) := by decide +kernel
theorem d_lw_law_129 : decode b_lw_law 129 = .ok (.i2l, 1) := by decide +kernel
theorem d_lw_law_130 : decode b_lw_law 130 = .ok (.ldc2_w 28, 3) := by decide +kernel
theorem d_lw_law_133 : decode b_lw_law 133 = .ok (.land, 1) := by decide +kernel
theorem d_lw_law_134 : decode b_lw_law 134 = .ok (.lor, 1) := by decide +kernel
theorem d_lw_law_135 : decode b_lw_law 135 = .ok (.aload_n 0, 1) := by decide +kernel
theorem d_lw_law_136 : decode b_lw_law 136 = .ok (.iload 4, 2) := by decide +kernel
theorem d_lw_law_138 : decode b_lw_law 138 = .ok (.iconst 3, 1) := by decide +kernel
theorem d_lw_law_139 : decode b_lw_law 139 = .ok (.iadd, 1) := by decide +kernel
theorem d_lw_law_140 : decode b_lw_law 140 = .ok (.iaload, 1) := by decide +kernel
theorem d_lw_law_141 : decode b_lw_law 141 = .ok (.invokevirtual 34, 3) := by decide +kernel
theorem d_lw_law_144 : decode b_lw_law 144 = .ok (.if_icmp .eq 223, 3) := by decide +kernel
theorem d_lw_law_147 : decode b_lw_law 147 = .ok (.iconst 0, 1) := by decide +kernel
theorem d_lw_law_148 : decode b_lw_law 148 = .ok (.ireturn, 1) := by decide +kernel
theorem d_lw_law_149 : decode b_lw_law 149 = .ok (.aload_n 1, 1) := by decide +kernel
theorem d_lw_law_150 : decode b_lw_law 150 = .ok (.aload_n 3, 1) := by decide +kernel
theorem d_lw_law_151 : decode b_lw_law 151 = .ok (.invokestatic 35, 3) := by decide +kernel
theorem d_lw_law_154 : decode b_lw_law 154 = .ok (.istore 5, 2) := by decide +kernel
theorem d_lw_law_156 : decode b_lw_law 156 = .ok (.aload_n 2, 1) := by decide +kernel
theorem d_lw_law_157 : decode b_lw_law 157 = .ok (.invokevirtual 40, 3) := by decide +kernel
theorem d_lw_law_160 : decode b_lw_law 160 = .ok (.istore 6, 2) := by decide +kernel
theorem d_lw_law_162 : decode b_lw_law 162 = .ok (.aload_n 2, 1) := by decide +kernel
theorem d_lw_law_163 : decode b_lw_law 163 = .ok (.invokevirtual 41, 3) := by decide +kernel
theorem d_lw_law_166 : decode b_lw_law 166 = .ok (.iload 5, 2) := by decide +kernel
theorem d_lw_law_168 : decode b_lw_law 168 = .ok (.if_icmp .eq 5, 3) := by decide +kernel
theorem d_lw_law_171 : decode b_lw_law 171 = .ok (.iconst 0, 1) := by decide +kernel
theorem d_lw_law_172 : decode b_lw_law 172 = .ok (.ireturn, 1) := by decide +kernel
theorem d_lw_law_173 : decode b_lw_law 173 = .ok (.iload 5, 2) := by decide +kernel
theorem d_lw_law_175 : decode b_lw_law 175 = .ok (.ifCond .ne 15, 3) := by decide +kernel
theorem d_lw_law_178 : decode b_lw_law 178 = .ok (.aload_n 3, 1) := by decide +kernel
theorem d_lw_law_179 : decode b_lw_law 179 = .ok (.iconst 0, 1) := by decide +kernel
theorem d_lw_law_180 : decode b_lw_law 180 = .ok (.laload, 1) := by decide +kernel
theorem d_lw_law_181 : decode b_lw_law 181 = .ok (.iload 6, 2) := by decide +kernel
theorem d_lw_law_183 : decode b_lw_law 183 = .ok (.i2l, 1) := by decide +kernel
theorem d_lw_law_184 : decode b_lw_law 184 = .ok (.lcmp, 1) := by decide +kernel
theorem d_lw_law_185 : decode b_lw_law 185 = .ok (.ifCond .eq 5, 3) := by decide +kernel
theorem d_lw_law_188 : decode b_lw_law 188 = .ok (.iconst 0, 1) := by decide +kernel
theorem d_lw_law_189 : decode b_lw_law 189 = .ok (.ireturn, 1) := by decide +kernel
theorem d_lw_law_190 : decode b_lw_law 190 = .ok (.goto 177, 3) := by decide +kernel
theorem d_lw_law_193 : decode b_lw_law 193 = .ok (.aload_n 1, 1) := by decide +kernel
theorem d_lw_law_194 : decode b_lw_law 194 = .ok (.aload_n 3, 1) := by decide +kernel
theorem d_lw_law_195 : decode b_lw_law 195 = .ok (.invokestatic 44, 3) := by decide +kernel
theorem d_lw_law_198 : decode b_lw_law 198 = .ok (.istore 5, 2) := by decide +kernel
theorem d_lw_law_200 : decode b_lw_law 200 = .ok (.aload_n 2, 1) := by decide +kernel
theorem d_lw_law_201 : decode b_lw_law 201 = .ok (.invokevirtual 46, 3) := by decide +kernel
theorem d_lw_law_204 : decode b_lw_law 204 = .ok (.istore 6, 2) := by decide +kernel
theorem d_lw_law_206 : decode b_lw_law 206 = .ok (.aload_n 2, 1) := by decide +kernel
theorem d_lw_law_207 : decode b_lw_law 207 = .ok (.invokevirtual 41, 3) := by decide +kernel
theorem d_lw_law_210 : decode b_lw_law 210 = .ok (.iload 5, 2) := by decide +kernel
theorem d_lw_law_212 : decode b_lw_law 212 = .ok (.if_icmp .eq 5, 3) := by decide +kernel
theorem d_lw_law_215 : decode b_lw_law 215 = .ok (.iconst 0, 1) := by decide +kernel
theorem d_lw_law_216 : decode b_lw_law 216 = .ok (.ireturn, 1) := by decide +kernel
theorem d_lw_law_217 : decode b_lw_law 217 = .ok (.iload 5, 2) := by decide +kernel
theorem d_lw_law_219 : decode b_lw_law 219 = .ok (.ifCond .ne 15, 3) := by decide +kernel
theorem d_lw_law_222 : decode b_lw_law 222 = .ok (.aload_n 3, 1) := by decide +kernel
theorem d_lw_law_223 : decode b_lw_law 223 = .ok (.iconst 0, 1) := by decide +kernel
theorem d_lw_law_224 : decode b_lw_law 224 = .ok (.laload, 1) := by decide +kernel
theorem d_lw_law_225 : decode b_lw_law 225 = .ok (.iload 6, 2) := by decide +kernel
theorem d_lw_law_227 : decode b_lw_law 227 = .ok (.i2l, 1) := by decide +kernel
theorem d_lw_law_228 : decode b_lw_law 228 = .ok (.lcmp, 1) := by decide +kernel
theorem d_lw_law_229 : decode b_lw_law 229 = .ok (.ifCond .eq 5, 3) := by decide +kernel
theorem d_lw_law_232 : decode b_lw_law 232 = .ok (.iconst 0, 1) := by decide +kernel
theorem d_lw_law_233 : decode b_lw_law 233 = .ok (.ireturn, 1) := by decide +kernel
theorem d_lw_law_234 : decode b_lw_law 234 = .ok (.goto 133, 3) := by decide +kernel
theorem d_lw_law_237 : decode b_lw_law 237 = .ok (.aload_n 1, 1) := by decide +kernel
theorem d_lw_law_238 : decode b_lw_law 238 = .ok (.aload_n 3, 1) := by decide +kernel
theorem d_lw_law_239 : decode b_lw_law 239 = .ok (.invokestatic 47, 3) := by decide +kernel
theorem d_lw_law_242 : decode b_lw_law 242 = .ok (.istore 5, 2) := by decide +kernel
theorem d_lw_law_244 : decode b_lw_law 244 = .ok (.aload_n 2, 1) := by decide +kernel
theorem d_lw_law_245 : decode b_lw_law 245 = .ok (.invokevirtual 49, 3) := by decide +kernel
theorem d_lw_law_248 : decode b_lw_law 248 = .ok (.lstore 6, 2) := by decide +kernel
theorem d_lw_law_250 : decode b_lw_law 250 = .ok (.aload_n 2, 1) := by decide +kernel
theorem d_lw_law_251 : decode b_lw_law 251 = .ok (.invokevirtual 41, 3) := by decide +kernel
theorem d_lw_law_254 : decode b_lw_law 254 = .ok (.iload 5, 2) := by decide +kernel
theorem d_lw_law_256 : decode b_lw_law 256 = .ok (.if_icmp .eq 5, 3) := by decide +kernel
theorem d_lw_law_259 : decode b_lw_law 259 = .ok (.iconst 0, 1) := by decide +kernel
theorem d_lw_law_260 : decode b_lw_law 260 = .ok (.ireturn, 1) := by decide +kernel
theorem d_lw_law_261 : decode b_lw_law 261 = .ok (.iload 5, 2) := by decide +kernel
theorem d_lw_law_263 : decode b_lw_law 263 = .ok (.ifCond .ne 14, 3) := by decide +kernel
theorem d_lw_law_266 : decode b_lw_law 266 = .ok (.aload_n 3, 1) := by decide +kernel
theorem d_lw_law_267 : decode b_lw_law 267 = .ok (.iconst 0, 1) := by decide +kernel
theorem d_lw_law_268 : decode b_lw_law 268 = .ok (.laload, 1) := by decide +kernel
theorem d_lw_law_269 : decode b_lw_law 269 = .ok (.lload 6, 2) := by decide +kernel
theorem d_lw_law_271 : decode b_lw_law 271 = .ok (.lcmp, 1) := by decide +kernel
theorem d_lw_law_272 : decode b_lw_law 272 = .ok (.ifCond .eq 5, 3) := by decide +kernel
theorem d_lw_law_275 : decode b_lw_law 275 = .ok (.iconst 0, 1) := by decide +kernel
theorem d_lw_law_276 : decode b_lw_law 276 = .ok (.ireturn, 1) := by decide +kernel
theorem d_lw_law_277 : decode b_lw_law 277 = .ok (.goto 90, 3) := by decide +kernel
theorem d_lw_law_280 : decode b_lw_law 280 = .ok (.aload_n 1, 1) := by decide +kernel
theorem d_lw_law_281 : decode b_lw_law 281 = .ok (.aload_n 0, 1) := by decide +kernel
theorem d_lw_law_282 : decode b_lw_law 282 = .ok (.iload 4, 2) := by decide +kernel
theorem d_lw_law_284 : decode b_lw_law 284 = .ok (.iconst 1, 1) := by decide +kernel
theorem d_lw_law_285 : decode b_lw_law 285 = .ok (.iadd, 1) := by decide +kernel
theorem d_lw_law_286 : decode b_lw_law 286 = .ok (.iaload, 1) := by decide +kernel
theorem d_lw_law_287 : decode b_lw_law 287 = .ok (.aload_n 0, 1) := by decide +kernel
theorem d_lw_law_288 : decode b_lw_law 288 = .ok (.iload 4, 2) := by decide +kernel
theorem d_lw_law_290 : decode b_lw_law 290 = .ok (.iconst 2, 1) := by decide +kernel
theorem d_lw_law_291 : decode b_lw_law 291 = .ok (.iadd, 1) := by decide +kernel
theorem d_lw_law_292 : decode b_lw_law 292 = .ok (.iaload, 1) := by decide +kernel
theorem d_lw_law_293 : decode b_lw_law 293 = .ok (.invokevirtual 50, 3) := by decide +kernel
theorem d_lw_law_296 : decode b_lw_law 296 = .ok (.aload_n 2, 1) := by decide +kernel
theorem d_lw_law_297 : decode b_lw_law 297 = .ok (.aload_n 0, 1) := by decide +kernel
theorem d_lw_law_298 : decode b_lw_law 298 = .ok (.iload 4, 2) := by decide +kernel
theorem d_lw_law_300 : decode b_lw_law 300 = .ok (.iconst 1, 1) := by decide +kernel
theorem d_lw_law_301 : decode b_lw_law 301 = .ok (.iadd, 1) := by decide +kernel
theorem d_lw_law_302 : decode b_lw_law 302 = .ok (.iaload, 1) := by decide +kernel
theorem d_lw_law_303 : decode b_lw_law 303 = .ok (.aload_n 0, 1) := by decide +kernel
theorem d_lw_law_304 : decode b_lw_law 304 = .ok (.iload 4, 2) := by decide +kernel
theorem d_lw_law_306 : decode b_lw_law 306 = .ok (.iconst 2, 1) := by decide +kernel
theorem d_lw_law_307 : decode b_lw_law 307 = .ok (.iadd, 1) := by decide +kernel
theorem d_lw_law_308 : decode b_lw_law 308 = .ok (.iaload, 1) := by decide +kernel
theorem d_lw_law_309 : decode b_lw_law 309 = .ok (.invokevirtual 54, 3) := by decide +kernel
theorem d_lw_law_312 : decode b_lw_law 312 = .ok (.if_icmp .eq 55, 3) := by decide +kernel
theorem d_lw_law_315 : decode b_lw_law 315 = .ok (.iconst 0, 1) := by decide +kernel
theorem d_lw_law_316 : decode b_lw_law 316 = .ok (.ireturn, 1) := by decide +kernel
theorem d_lw_law_317 : decode b_lw_law 317 = .ok (.aload_n 1, 1) := by decide +kernel
theorem d_lw_law_318 : decode b_lw_law 318 = .ok (.aload_n 0, 1) := by decide +kernel
theorem d_lw_law_319 : decode b_lw_law 319 = .ok (.iload 4, 2) := by decide +kernel
theorem d_lw_law_321 : decode b_lw_law 321 = .ok (.iconst 1, 1) := by decide +kernel
theorem d_lw_law_322 : decode b_lw_law 322 = .ok (.iadd, 1) := by decide +kernel
theorem d_lw_law_323 : decode b_lw_law 323 = .ok (.iaload, 1) := by decide +kernel
theorem d_lw_law_324 : decode b_lw_law 324 = .ok (.invokevirtual 55, 3) := by decide +kernel
theorem d_lw_law_327 : decode b_lw_law 327 = .ok (.aload_n 2, 1) := by decide +kernel
theorem d_lw_law_328 : decode b_lw_law 328 = .ok (.aload_n 0, 1) := by decide +kernel
theorem d_lw_law_329 : decode b_lw_law 329 = .ok (.iload 4, 2) := by decide +kernel
theorem d_lw_law_331 : decode b_lw_law 331 = .ok (.iconst 1, 1) := by decide +kernel
theorem d_lw_law_332 : decode b_lw_law 332 = .ok (.iadd, 1) := by decide +kernel
theorem d_lw_law_333 : decode b_lw_law 333 = .ok (.iaload, 1) := by decide +kernel
theorem d_lw_law_334 : decode b_lw_law 334 = .ok (.invokevirtual 59, 3) := by decide +kernel
theorem d_lw_law_337 : decode b_lw_law 337 = .ok (.if_icmp .eq 30, 3) := by decide +kernel
theorem d_lw_law_340 : decode b_lw_law 340 = .ok (.iconst 0, 1) := by decide +kernel
theorem d_lw_law_341 : decode b_lw_law 341 = .ok (.ireturn, 1) := by decide +kernel
theorem d_lw_law_342 : decode b_lw_law 342 = .ok (.aload_n 1, 1) := by decide +kernel
theorem d_lw_law_343 : decode b_lw_law 343 = .ok (.aload_n 0, 1) := by decide +kernel
theorem d_lw_law_344 : decode b_lw_law 344 = .ok (.iload 4, 2) := by decide +kernel
theorem d_lw_law_346 : decode b_lw_law 346 = .ok (.iconst 1, 1) := by decide +kernel
theorem d_lw_law_347 : decode b_lw_law 347 = .ok (.iadd, 1) := by decide +kernel
theorem d_lw_law_348 : decode b_lw_law 348 = .ok (.iaload, 1) := by decide +kernel
theorem d_lw_law_349 : decode b_lw_law 349 = .ok (.invokevirtual 60, 3) := by decide +kernel
theorem d_lw_law_352 : decode b_lw_law 352 = .ok (.aload_n 2, 1) := by decide +kernel
theorem d_lw_law_353 : decode b_lw_law 353 = .ok (.aload_n 0, 1) := by decide +kernel
theorem d_lw_law_354 : decode b_lw_law 354 = .ok (.iload 4, 2) := by decide +kernel
theorem d_lw_law_356 : decode b_lw_law 356 = .ok (.iconst 1, 1) := by decide +kernel
theorem d_lw_law_357 : decode b_lw_law 357 = .ok (.iadd, 1) := by decide +kernel
theorem d_lw_law_358 : decode b_lw_law 358 = .ok (.iaload, 1) := by decide +kernel
theorem d_lw_law_359 : decode b_lw_law 359 = .ok (.invokevirtual 63, 3) := by decide +kernel
theorem d_lw_law_362 : decode b_lw_law 362 = .ok (.if_icmp .eq 5, 3) := by decide +kernel
theorem d_lw_law_365 : decode b_lw_law 365 = .ok (.iconst 0, 1) := by decide +kernel
theorem d_lw_law_366 : decode b_lw_law 366 = .ok (.ireturn, 1) := by decide +kernel
theorem d_lw_law_367 : decode b_lw_law 367 = .ok (.iinc 4 4, 3) := by decide +kernel
theorem d_lw_law_370 : decode b_lw_law 370 = .ok (.goto (-347), 3) := by decide +kernel
theorem d_lw_law_373 : decode b_lw_law 373 = .ok (.iconst 1, 1) := by decide +kernel
theorem d_lw_law_374 : decode b_lw_law 374 = .ok (.ireturn, 1) := by decide +kernel
end
section
theorem d_md_init_0 : decode b_md_init 0 = .ok (.aload_n 0, 1) := by decide +kernel
theorem d_md_init_1 : decode b_md_init 1 = .ok (.invokespecial 1, 3) := by decide +kernel
theorem d_md_init_4 : decode b_md_init 4 = .ok (.aload_n 0, 1) := by decide +kernel
theorem d_md_init_5 : decode b_md_init 5 = .ok (.sipush 200, 3) := by decide +kernel
theorem d_md_init_8 : decode b_md_init 8 = .ok (.newarray .int, 2) := by decide +kernel
theorem d_md_init_10 : decode b_md_init 10 = .ok (.putfield 7, 3) := by decide +kernel
theorem d_md_init_13 : decode b_md_init 13 = .ok (.aload_n 0, 1) := by decide +kernel
theorem d_md_init_14 : decode b_md_init 14 = .ok (.sipush 8194, 3) := by decide +kernel
theorem d_md_init_17 : decode b_md_init 17 = .ok (.newarray .int, 2) := by decide +kernel
theorem d_md_init_19 : decode b_md_init 19 = .ok (.putfield 13, 3) := by decide +kernel
theorem d_md_init_22 : decode b_md_init 22 = .ok (.aload_n 0, 1) := by decide +kernel
theorem d_md_init_23 : decode b_md_init 23 = .ok (.ldc 16, 2) := by decide +kernel
theorem d_md_init_25 : decode b_md_init 25 = .ok (.newarray .int, 2) := by decide +kernel
theorem d_md_init_27 : decode b_md_init 27 = .ok (.putfield 17, 3) := by decide +kernel
theorem d_md_init_30 : decode b_md_init 30 = .ok (.aload_n 0, 1) := by decide +kernel
theorem d_md_init_31 : decode b_md_init 31 = .ok (.ldc 20, 2) := by decide +kernel
theorem d_md_init_33 : decode b_md_init 33 = .ok (.newarray .int, 2) := by decide +kernel
theorem d_md_init_35 : decode b_md_init 35 = .ok (.putfield 21, 3) := by decide +kernel
theorem d_md_init_38 : decode b_md_init 38 = .ok (.aload_n 0, 1) := by decide +kernel
theorem d_md_init_39 : decode b_md_init 39 = .ok (.sipush 2050, 3) := by decide +kernel
theorem d_md_init_42 : decode b_md_init 42 = .ok (.newarray .int, 2) := by decide +kernel
theorem d_md_init_44 : decode b_md_init 44 = .ok (.putfield 24, 3) := by decide +kernel
theorem d_md_init_47 : decode b_md_init 47 = .ok (.aload_n 0, 1) := by decide +kernel
theorem d_md_init_48 : decode b_md_init 48 = .ok (.ldc 16, 2) := by decide +kernel
theorem d_md_init_50 : decode b_md_init 50 = .ok (.newarray .int, 2) := by decide +kernel
theorem d_md_init_52 : decode b_md_init 52 = .ok (.putfield 27, 3) := by decide +kernel
theorem d_md_init_55 : decode b_md_init 55 = .ok (.aload_n 0, 1) := by decide +kernel
theorem d_md_init_56 : decode b_md_init 56 = .ok (.sipush 2048, 3) := by decide +kernel
theorem d_md_init_59 : decode b_md_init 59 = .ok (.newarray .long, 2) := by decide +kernel
theorem d_md_init_61 : decode b_md_init 61 = .ok (.putfield 30, 3) := by decide +kernel
theorem d_md_init_64 : decode b_md_init 64 = .ok (.aload_n 0, 1) := by decide +kernel
theorem d_md_init_65 : decode b_md_init 65 = .ok (.iconst 2, 1) := by decide +kernel
theorem d_md_init_66 : decode b_md_init 66 = .ok (.putfield 34, 3) := by decide +kernel
theorem d_md_init_69 : decode b_md_init 69 = .ok (.aload_n 0, 1) := by decide +kernel
theorem d_md_init_70 : decode b_md_init 70 = .ok (.iconst 3, 1) := by decide +kernel
theorem d_md_init_71 : decode b_md_init 71 = .ok (.putfield 38, 3) := by decide +kernel
theorem d_md_init_74 : decode b_md_init 74 = .ok (.aload_n 0, 1) := by decide +kernel
theorem d_md_init_75 : decode b_md_init 75 = .ok (.bipush 66, 2) := by decide +kernel
theorem d_md_init_77 : decode b_md_init 77 = .ok (.newarray .int, 2) := by decide +kernel
theorem d_md_init_79 : decode b_md_init 79 = .ok (.putfield 41, 3) := by decide +kernel
theorem d_md_init_82 : decode b_md_init 82 = .ok (.aload_n 0, 1) := by decide +kernel
theorem d_md_init_83 : decode b_md_init 83 = .ok (.bipush 66, 2) := by decide +kernel
theorem d_md_init_85 : decode b_md_init 85 = .ok (.newarray .int, 2) := by decide +kernel
theorem d_md_init_87 : decode b_md_init 87 = .ok (.putfield 44, 3) := by decide +kernel
theorem d_md_init_90 : decode b_md_init 90 = .ok (.return_, 1) := by decide +kernel
theorem d_md_thrown_0 : decode b_md_thrown 0 = .ok (.aload_n 0, 1) := by decide +kernel
theorem d_md_thrown_1 : decode b_md_thrown 1 = .ok (.getfield 47, 3) := by decide +kernel
theorem d_md_thrown_4 : decode b_md_thrown 4 = .ok (.ireturn, 1) := by decide +kernel
theorem d_md_put_0 : decode b_md_put 0 = .ok (.aload_n 0, 1) := by decide +kernel
theorem d_md_put_1 : decode b_md_put 1 = .ok (.iconst 0, 1) := by decide +kernel
theorem d_md_put_2 : decode b_md_put 2 = .ok (.putfield 47, 3) := by decide +kernel
theorem d_md_put_5 : decode b_md_put 5 = .ok (.iload_n 3, 1) := by decide +kernel
theorem d_md_put_6 : decode b_md_put 6 = .ok (.iconst 1, 1) := by decide +kernel
theorem d_md_put_7 : decode b_md_put 7 = .ok (.if_icmp .lt 21, 3) := by decide +kernel
theorem d_md_put_10 : decode b_md_put 10 = .ok (.iload_n 3, 1) := by decide +kernel
theorem d_md_put_11 : decode b_md_put 11 = .ok (.bipush 8, 2) := by decide +kernel
theorem d_md_put_13 : decode b_md_put 13 = .ok (.if_icmp .gt 15, 3) := by decide +kernel
theorem d_md_put_16 : decode b_md_put 16 = .ok (.aload_n 0, 1) := by decide +kernel
theorem d_md_put_17 : decode b_md_put 17 = .ok (.getfield 50, 3) := by decide +kernel
theorem d_md_put_20 : decode b_md_put 20 = .ok (.iload_n 3, 1) := by decide +kernel
theorem d_md_put_21 : decode b_md_put 21 = .ok (.iadd, 1) := by decide +kernel
theorem d_md_put_22 : decode b_md_put 22 = .ok (.sipush 200, 3) := by decide +kernel
theorem d_md_put_25 : decode b_md_put 25 = .ok (.if_icmp .le 5, 3) := by decide +kernel
theorem d_md_put_28 : decode b_md_put 28 = .ok (.iconst 0, 1) := by decide +kernel
theorem d_md_put_29 : decode b_md_put 29 = .ok (.ireturn, 1) := by decide +kernel
theorem d_md_put_30 : decode b_md_put 30 = .ok (.iload_n 3, 1) := by decide +kernel
theorem d_md_put_31 : decode b_md_put 31 = .ok (.iconst 1, 1) := by decide +kernel
theorem d_md_put_32 : decode b_md_put 32 = .ok (.isub, 1) := by decide +kernel
theorem d_md_put_33 : decode b_md_put 33 = .ok (.istore 4, 2) := by decide +kernel
theorem d_md_put_35 : decode b_md_put 35 = .ok (.iload 4, 2) := by decide +kernel
theorem d_md_put_37 : decode b_md_put 37 = .ok (.ifCond .lt 40, 3) := by decide +kernel
theorem d_md_put_40 : decode b_md_put 40 = .ok (.aload_n 0, 1) := by decide +kernel
theorem d_md_put_41 : decode b_md_put 41 = .ok (.getfield 7, 3) := by decide +kernel
theorem d_md_put_44 : decode b_md_put 44 = .ok (.aload_n 0, 1) := by decide +kernel
theorem d_md_put_45 : decode b_md_put 45 = .ok (.getfield 50, 3) := by decide +kernel
theorem d_md_put_48 : decode b_md_put 48 = .ok (.lload_n 1, 1) := by decide +kernel
theorem d_md_put_49 : decode b_md_put 49 = .ok (.bipush 8, 2) := by decide +kernel
theorem d_md_put_51 : decode b_md_put 51 = .ok (.iload 4, 2) := by decide +kernel
theorem d_md_put_53 : decode b_md_put 53 = .ok (.imul, 1) := by decide +kernel
theorem d_md_put_54 : decode b_md_put 54 = .ok (.lshr, 1) := by decide +kernel
theorem d_md_put_55 : decode b_md_put 55 = .ok (.ldc2_w 53, 3) := by decide +kernel
theorem d_md_put_58 : decode b_md_put 58 = .ok (.land, 1) := by decide +kernel
theorem d_md_put_59 : decode b_md_put 59 = .ok (.l2i, 1) := by decide +kernel
theorem d_md_put_60 : decode b_md_put 60 = .ok (.iastore, 1) := by decide +kernel
theorem d_md_put_61 : decode b_md_put 61 = .ok (.aload_n 0, 1) := by decide +kernel
theorem d_md_put_62 : decode b_md_put 62 = .ok (.dup, 1) := by decide +kernel
theorem d_md_put_63 : decode b_md_put 63 = .ok (.getfield 50, 3) := by decide +kernel
theorem d_md_put_66 : decode b_md_put 66 = .ok (.iconst 1, 1) := by decide +kernel
theorem d_md_put_67 : decode b_md_put 67 = .ok (.iadd, 1) := by decide +kernel
theorem d_md_put_68 : decode b_md_put 68 = .ok (.putfield 50, 3) := by decide +kernel
theorem d_md_put_71 : decode b_md_put 71 = .ok (.iinc 4 (-1), 3) := by decide +kernel
theorem d_md_put_74 : decode b_md_put 74 = .ok (.goto (-39), 3) := by decide +kernel
theorem d_md_put_77 : decode b_md_put 77 = .ok (.iconst 1, 1) := by decide +kernel
theorem d_md_put_78 : decode b_md_put 78 = .ok (.ireturn, 1) := by decide +kernel
theorem d_md_pattern_0 : decode b_md_pattern 0 = .ok (.aload_n 0, 1) := by decide +kernel
theorem d_md_pattern_1 : decode b_md_pattern 1 = .ok (.invokevirtual 65, 3) := by decide +kernel
theorem d_md_pattern_4 : decode b_md_pattern 4 = .ok (.istore_n 1, 1) := by decide +kernel
theorem d_md_pattern_5 : decode b_md_pattern 5 = .ok (.iload_n 1, 1) := by decide +kernel
theorem d_md_pattern_6 : decode b_md_pattern 6 = .ok (.ifCond .ne 9, 3) := by decide +kernel
theorem d_md_pattern_9 : decode b_md_pattern 9 = .ok (.aload_n 0, 1) := by decide +kernel
theorem d_md_pattern_10 : decode b_md_pattern 10 = .ok (.iconst 1, 1) := by decide +kernel
theorem d_md_pattern_11 : decode b_md_pattern 11 = .ok (.invokevirtual 69, 3) := by decide +kernel
theorem d_md_pattern_14 : decode b_md_pattern 14 = .ok (.ireturn, 1) := by decide +kernel
theorem d_md_pattern_15 : decode b_md_pattern 15 = .ok (.iconst 0, 1) := by decide +kernel
theorem d_md_pattern_16 : decode b_md_pattern 16 = .ok (.istore_n 2, 1) := by decide +kernel
theorem d_md_pattern_17 : decode b_md_pattern 17 = .ok (.iconst 0, 1) := by decide +kernel
theorem d_md_pattern_18 : decode b_md_pattern 18 = .ok (.istore_n 3, 1) := by decide +kernel
theorem d_md_pattern_19 : decode b_md_pattern 19 = .ok (.iconst 0, 1) := by decide +kernel
theorem d_md_pattern_20 : decode b_md_pattern 20 = .ok (.istore 4, 2) := by decide +kernel
theorem d_md_pattern_22 : decode b_md_pattern 22 = .ok (.iload 4, 2) := by decide +kernel
theorem d_md_pattern_24 : decode b_md_pattern 24 = .ok (.aload_n 0, 1) := by decide +kernel
theorem d_md_pattern_25 : decode b_md_pattern 25 = .ok (.getfield 55, 3) := by decide +kernel
theorem d_md_pattern_28 : decode b_md_pattern 28 = .ok (.if_icmp .ge 77, 3) := by decide +kernel
theorem d_md_pattern_31 : decode b_md_pattern 31 = .ok (.aload_n 0, 1) := by decide +kernel
theorem d_md_pattern_32 : decode b_md_pattern 32 = .ok (.aload_n 0, 1) := by decide +kernel
theorem d_md_pattern_33 : decode b_md_pattern 33 = .ok (.getfield 13, 3) := by decide +kernel
theorem d_md_pattern_36 : decode b_md_pattern 36 = .ok (.aload_n 0, 1) := by decide +kernel
theorem d_md_pattern_37 : decode b_md_pattern 37 = .ok (.getfield 55, 3) := by decide +kernel
theorem d_md_pattern_40 : decode b_md_pattern 40 = .ok (.iaload, 1) := by decide +kernel
theorem d_md_pattern_41 : decode b_md_pattern 41 = .ok (.iload_n 1, 1) := by decide +kernel
theorem d_md_pattern_42 : decode b_md_pattern 42 = .ok (.iload 4, 2) := by decide +kernel
theorem d_md_pattern_44 : decode b_md_pattern 44 = .ok (.invokevirtual 73, 3) := by decide +kernel
theorem d_md_pattern_47 : decode b_md_pattern 47 = .ok (.istore 5, 2) := by decide +kernel
theorem d_md_pattern_49 : decode b_md_pattern 49 = .ok (.iload 5, 2) := by decide +kernel
theorem d_md_pattern_51 : decode b_md_pattern 51 = .ok (.iload_n 2, 1) := by decide +kernel
theorem d_md_pattern_52 : decode b_md_pattern 52 = .ok (.if_icmp .le 8, 3) := by decide +kernel
theorem d_md_pattern_55 : decode b_md_pattern 55 = .ok (.iload 5, 2) := by decide +kernel
theorem d_md_pattern_57 : decode b_md_pattern 57 = .ok (.goto 4, 3) := by decide +kernel
theorem d_md_pattern_60 : decode b_md_pattern 60 = .ok (.iload_n 2, 1) := by decide +kernel
theorem d_md_pattern_61 : decode b_md_pattern 61 = .ok (.istore_n 2, 1) := by decide +kernel
theorem d_md_pattern_62 : decode b_md_pattern 62 = .ok (.iload_n 3, 1) := by decide +kernel
theorem d_md_pattern_63 : decode b_md_pattern 63 = .ok (.ifCond .ne 30, 3) := by decide +kernel
theorem d_md_pattern_66 : decode b_md_pattern 66 = .ok (.iload 5, 2) := by decide +kernel
theorem d_md_pattern_68 : decode b_md_pattern 68 = .ok (.iload_n 1, 1) := by decide +kernel
theorem d_md_pattern_69 : decode b_md_pattern 69 = .ok (.if_icmp .ne 28, 3) := by decide +kernel
theorem d_md_pattern_72 : decode b_md_pattern 72 = .ok (.aload_n 0, 1) := by decide +kernel
theorem d_md_pattern_73 : decode b_md_pattern 73 = .ok (.getfield 13, 3) := by decide +kernel
theorem d_md_pattern_76 : decode b_md_pattern 76 = .ok (.iload 4, 2) := by decide +kernel
theorem d_md_pattern_78 : decode b_md_pattern 78 = .ok (.iconst 1, 1) := by decide +kernel
theorem d_md_pattern_79 : decode b_md_pattern 79 = .ok (.iadd, 1) := by decide +kernel
theorem d_md_pattern_80 : decode b_md_pattern 80 = .ok (.iaload, 1) := by decide +kernel
theorem d_md_pattern_81 : decode b_md_pattern 81 = .ok (.aload_n 0, 1) := by decide +kernel
theorem d_md_pattern_82 : decode b_md_pattern 82 = .ok (.getfield 13, 3) := by decide +kernel
theorem d_md_pattern_85 : decode b_md_pattern 85 = .ok (.iload 4, 2) := by decide +kernel
theorem d_md_pattern_87 : decode b_md_pattern 87 = .ok (.iaload, 1) := by decide +kernel
theorem d_md_pattern_88 : decode b_md_pattern 88 = .ok (.isub, 1) := by decide +kernel
theorem d_md_pattern_89 : decode b_md_pattern 89 = .ok (.iload_n 1, 1) := by decide +kernel
theorem d_md_pattern_90 : decode b_md_pattern 90 = .ok (.if_icmp .ne 7, 3) := by decide +kernel
theorem d_md_pattern_93 : decode b_md_pattern 93 = .ok (.iconst 1, 1) := by decide +kernel
theorem d_md_pattern_94 : decode b_md_pattern 94 = .ok (.goto 4, 3) := by decide +kernel
theorem d_md_pattern_97 : decode b_md_pattern 97 = .ok (.iconst 0, 1) := by decide +kernel
theorem d_md_pattern_98 : decode b_md_pattern 98 = .ok (.istore_n 3, 1) := by decide +kernel
theorem d_md_pattern_99 : decode b_md_pattern 99 = .ok (.iinc 4 1, 3) := by decide +kernel
theorem d_md_pattern_102 : decode b_md_pattern 102 = .ok (.goto (-80), 3) := by decide +kernel
theorem d_md_pattern_105 : decode b_md_pattern 105 = .ok (.iload_n 3, 1) := by decide +kernel
theorem d_md_pattern_106 : decode b_md_pattern 106 = .ok (.ifCond .ne 26, 3) := by decide +kernel
theorem d_md_pattern_109 : decode b_md_pattern 109 = .ok (.aload_n 0, 1) := by decide +kernel
theorem d_md_pattern_110 : decode b_md_pattern 110 = .ok (.getfield 55, 3) := by decide +kernel
theorem d_md_pattern_113 : decode b_md_pattern 113 = .ok (.sipush 8192, 3) := by decide +kernel
theorem d_md_pattern_116 : decode b_md_pattern 116 = .ok (.if_icmp .eq 16, 3) := by decide +kernel
theorem d_md_pattern_119 : decode b_md_pattern 119 = .ok (.aload_n 0, 1) := by decide +kernel
theorem d_md_pattern_120 : decode b_md_pattern 120 = .ok (.getfield 77, 3) := by decide +kernel
theorem d_md_pattern_123 : decode b_md_pattern 123 = .ok (.iload_n 1, 1) := by decide +kernel
theorem d_md_pattern_124 : decode b_md_pattern 124 = .ok (.iadd, 1) := by decide +kernel
theorem d_md_pattern_125 : decode b_md_pattern 125 = .ok (.iload_n 2, 1) := by decide +kernel
theorem d_md_pattern_126 : decode b_md_pattern 126 = .ok (.isub, 1) := by decide +kernel
theorem d_md_pattern_127 : decode b_md_pattern 127 = .ok (.ldc 80, 2) := by decide +kernel
theorem d_md_pattern_129 : decode b_md_pattern 129 = .ok (.if_icmp .le 9, 3) := by decide +kernel
theorem d_md_pattern_132 : decode b_md_pattern 132 = .ok (.aload_n 0, 1) := by decide +kernel
theorem d_md_pattern_133 : decode b_md_pattern 133 = .ok (.iconst 2, 1) := by decide +kernel
theorem d_md_pattern_134 : decode b_md_pattern 134 = .ok (.invokevirtual 69, 3) := by decide +kernel
theorem d_md_pattern_137 : decode b_md_pattern 137 = .ok (.ireturn, 1) := by decide +kernel
theorem d_md_pattern_138 : decode b_md_pattern 138 = .ok (.aload_n 0, 1) := by decide +kernel
theorem d_md_pattern_139 : decode b_md_pattern 139 = .ok (.dup, 1) := by decide +kernel
theorem d_md_pattern_140 : decode b_md_pattern 140 = .ok (.getfield 55, 3) := by decide +kernel
theorem d_md_pattern_143 : decode b_md_pattern 143 = .ok (.iconst 1, 1) := by decide +kernel
theorem d_md_pattern_144 : decode b_md_pattern 144 = .ok (.iadd, 1) := by decide +kernel
theorem d_md_pattern_145 : decode b_md_pattern 145 = .ok (.putfield 55, 3) := by decide +kernel
theorem d_md_pattern_148 : decode b_md_pattern 148 = .ok (.aload_n 0, 1) := by decide +kernel
theorem d_md_pattern_149 : decode b_md_pattern 149 = .ok (.getfield 13, 3) := by decide +kernel
theorem d_md_pattern_152 : decode b_md_pattern 152 = .ok (.aload_n 0, 1) := by decide +kernel
theorem d_md_pattern_153 : decode b_md_pattern 153 = .ok (.getfield 55, 3) := by decide +kernel
theorem d_md_pattern_156 : decode b_md_pattern 156 = .ok (.aload_n 0, 1) := by decide +kernel
theorem d_md_pattern_157 : decode b_md_pattern 157 = .ok (.getfield 13, 3) := by decide +kernel
theorem d_md_pattern_160 : decode b_md_pattern 160 = .ok (.aload_n 0, 1) := by decide +kernel
theorem d_md_pattern_161 : decode b_md_pattern 161 = .ok (.getfield 55, 3) := by decide +kernel
theorem d_md_pattern_164 : decode b_md_pattern 164 = .ok (.iconst 1, 1) := by decide +kernel
theorem d_md_pattern_165 : decode b_md_pattern 165 = .ok (.isub, 1) := by decide +kernel
theorem d_md_pattern_166 : decode b_md_pattern 166 = .ok (.iaload, 1) := by decide +kernel
theorem d_md_pattern_167 : decode b_md_pattern 167 = .ok (.iload_n 1, 1) := by decide +kernel
theorem d_md_pattern_168 : decode b_md_pattern 168 = .ok (.iadd, 1) := by decide +kernel
theorem d_md_pattern_169 : decode b_md_pattern 169 = .ok (.iastore, 1) := by decide +kernel
theorem d_md_pattern_170 : decode b_md_pattern 170 = .ok (.aload_n 0, 1) := by decide +kernel
theorem d_md_pattern_171 : decode b_md_pattern 171 = .ok (.dup, 1) := by decide +kernel
theorem d_md_pattern_172 : decode b_md_pattern 172 = .ok (.getfield 77, 3) := by decide +kernel
theorem d_md_pattern_175 : decode b_md_pattern 175 = .ok (.iload_n 1, 1) := by decide +kernel
theorem d_md_pattern_176 : decode b_md_pattern 176 = .ok (.iload_n 2, 1) := by decide +kernel
theorem d_md_pattern_177 : decode b_md_pattern 177 = .ok (.isub, 1) := by decide +kernel
theorem d_md_pattern_178 : decode b_md_pattern 178 = .ok (.iadd, 1) := by decide +kernel
theorem d_md_pattern_179 : decode b_md_pattern 179 = .ok (.putfield 77, 3) := by decide +kernel
theorem d_md_pattern_182 : decode b_md_pattern 182 = .ok (.aload_n 0, 1) := by decide +kernel
theorem d_md_pattern_183 : decode b_md_pattern 183 = .ok (.iconst 0, 1) := by decide +kernel
theorem d_md_pattern_184 : decode b_md_pattern 184 = .ok (.invokevirtual 69, 3) := by decide +kernel
theorem d_md_pattern_187 : decode b_md_pattern 187 = .ok (.pop, 1) := by decide +kernel
theorem d_md_pattern_188 : decode b_md_pattern 188 = .ok (.aload_n 0, 1) := by decide +kernel
theorem d_md_pattern_189 : decode b_md_pattern 189 = .ok (.getfield 55, 3) := by decide +kernel
theorem d_md_pattern_192 : decode b_md_pattern 192 = .ok (.ireturn, 1) := by decide +kernel
theorem d_md_readPattern_0 : decode b_md_readPattern 0 = .ok (.aload_n 0, 1) := by decide +kernel
theorem d_md_readPattern_1 : decode b_md_readPattern 1 = .ok (.getfield 13, 3) := by decide +kernel
theorem d_md_readPattern_4 : decode b_md_readPattern 4 = .ok (.aload_n 0, 1) := by decide +kernel
theorem d_md_readPattern_5 : decode b_md_readPattern 5 = .ok (.getfield 55, 3) := by decide +kernel
theorem d_md_readPattern_8 : decode b_md_readPattern 8 = .ok (.iaload, 1) := by decide +kernel
theorem d_md_readPattern_9 : decode b_md_readPattern 9 = .ok (.istore_n 1, 1) := by decide +kernel
theorem d_md_readPattern_10 : decode b_md_readPattern 10 = .ok (.iconst 0, 1) := by decide +kernel
theorem d_md_readPattern_11 : decode b_md_readPattern 11 = .ok (.istore_n 2, 1) := by decide +kernel
theorem d_md_readPattern_12 : decode b_md_readPattern 12 = .ok (.iconst 0, 1) := by decide +kernel
theorem d_md_readPattern_13 : decode b_md_readPattern 13 = .ok (.istore_n 3, 1) := by decide +kernel
theorem d_md_readPattern_14 : decode b_md_readPattern 14 = .ok (.iconst 1, 1) := by decide +kernel
theorem d_md_readPattern_15 : decode b_md_readPattern 15 = .ok (.istore 4, 2) := by decide +kernel
theorem d_md_readPattern_17 : decode b_md_readPattern 17 = .ok (.iconst 0, 1) := by decide +kernel
theorem d_md_readPattern_18 : decode b_md_readPattern 18 = .ok (.istore 5, 2) := by decide +kernel
theorem d_md_readPattern_20 : decode b_md_readPattern 20 = .ok (.iload 5, 2) := by decide +kernel
theorem d_md_readPattern_22 : decode b_md_readPattern 22 = .ok (.aload_n 0, 1) := by decide +kernel
theorem d_md_readPattern_23 : decode b_md_readPattern 23 = .ok (.getfield 50, 3) := by decide +kernel
theorem d_md_readPattern_26 : decode b_md_readPattern 26 = .ok (.if_icmp .ge 134, 3) := by decide +kernel
theorem d_md_readPattern_29 : decode b_md_readPattern 29 = .ok (.iload 4, 2) := by decide +kernel
theorem d_md_readPattern_31 : decode b_md_readPattern 31 = .ok (.ifCond .eq 78, 3) := by decide +kernel
theorem d_md_readPattern_34 : decode b_md_readPattern 34 = .ok (.aload_n 0, 1) := by decide +kernel
theorem d_md_readPattern_35 : decode b_md_readPattern 35 = .ok (.getfield 7, 3) := by decide +kernel
theorem d_md_readPattern_38 : decode b_md_readPattern 38 = .ok (.iload 5, 2) := by decide +kernel
theorem d_md_readPattern_40 : decode b_md_readPattern 40 = .ok (.iaload, 1) := by decide +kernel
theorem d_md_readPattern_41 : decode b_md_readPattern 41 = .ok (.invokestatic 58, 3) := by decide +kernel
theorem d_md_readPattern_44 : decode b_md_readPattern 44 = .ok (.ifCond .ne 28, 3) := by decide +kernel
theorem d_md_readPattern_47 : decode b_md_readPattern 47 = .ok (.aload_n 0, 1) := by decide +kernel
theorem d_md_readPattern_48 : decode b_md_readPattern 48 = .ok (.getfield 7, 3) := by decide +kernel
theorem d_md_readPattern_51 : decode b_md_readPattern 51 = .ok (.iload 5, 2) := by decide +kernel
theorem d_md_readPattern_53 : decode b_md_readPattern 53 = .ok (.iaload, 1) := by decide +kernel
theorem d_md_readPattern_54 : decode b_md_readPattern 54 = .ok (.invokestatic 62, 3) := by decide +kernel
theorem d_md_readPattern_57 : decode b_md_readPattern 57 = .ok (.ifCond .ne 15, 3) := by decide +kernel
theorem d_md_readPattern_60 : decode b_md_readPattern 60 = .ok (.aload_n 0, 1) := by decide +kernel
theorem d_md_readPattern_61 : decode b_md_readPattern 61 = .ok (.getfield 7, 3) := by decide +kernel
theorem d_md_readPattern_64 : decode b_md_readPattern 64 = .ok (.iload 5, 2) := by decide +kernel
theorem d_md_readPattern_66 : decode b_md_readPattern 66 = .ok (.iaload, 1) := by decide +kernel
theorem d_md_readPattern_67 : decode b_md_readPattern 67 = .ok (.bipush 46, 2) := by decide +kernel
theorem d_md_readPattern_69 : decode b_md_readPattern 69 = .ok (.if_icmp .ne 40, 3) := by decide +kernel
theorem d_md_readPattern_72 : decode b_md_readPattern 72 = .ok (.iload 5, 2) := by decide +kernel
theorem d_md_readPattern_74 : decode b_md_readPattern 74 = .ok (.ifCond .le 31, 3) := by decide +kernel
theorem d_md_readPattern_77 : decode b_md_readPattern 77 = .ok (.aload_n 0, 1) := by decide +kernel
theorem d_md_readPattern_78 : decode b_md_readPattern 78 = .ok (.getfield 7, 3) := by decide +kernel
theorem d_md_readPattern_81 : decode b_md_readPattern 81 = .ok (.iload 5, 2) := by decide +kernel
theorem d_md_readPattern_83 : decode b_md_readPattern 83 = .ok (.iaload, 1) := by decide +kernel
theorem d_md_readPattern_84 : decode b_md_readPattern 84 = .ok (.invokestatic 62, 3) := by decide +kernel
theorem d_md_readPattern_87 : decode b_md_readPattern 87 = .ok (.ifCond .eq 18, 3) := by decide +kernel
theorem d_md_readPattern_90 : decode b_md_readPattern 90 = .ok (.aload_n 0, 1) := by decide +kernel
theorem d_md_readPattern_91 : decode b_md_readPattern 91 = .ok (.getfield 7, 3) := by decide +kernel
theorem d_md_readPattern_94 : decode b_md_readPattern 94 = .ok (.iload 5, 2) := by decide +kernel
theorem d_md_readPattern_96 : decode b_md_readPattern 96 = .ok (.iconst 1, 1) := by decide +kernel
theorem d_md_readPattern_97 : decode b_md_readPattern 97 = .ok (.isub, 1) := by decide +kernel
theorem d_md_readPattern_98 : decode b_md_readPattern 98 = .ok (.iaload, 1) := by decide +kernel
theorem d_md_readPattern_99 : decode b_md_readPattern 99 = .ok (.invokestatic 62, 3) := by decide +kernel
theorem d_md_readPattern_102 : decode b_md_readPattern 102 = .ok (.ifCond .ne 7, 3) := by decide +kernel
theorem d_md_readPattern_105 : decode b_md_readPattern 105 = .ok (.iconst 1, 1) := by decide +kernel
theorem d_md_readPattern_106 : decode b_md_readPattern 106 = .ok (.goto 4, 3) := by decide +kernel
theorem d_md_readPattern_109 : decode b_md_readPattern 109 = .ok (.iconst 0, 1) := by decide +kernel
theorem d_md_readPattern_110 : decode b_md_readPattern 110 = .ok (.istore 4, 2) := by decide +kernel
theorem d_md_readPattern_112 : decode b_md_readPattern 112 = .ok (.iload_n 2, 1) := by decide +kernel
theorem d_md_readPattern_113 : decode b_md_readPattern 113 = .ok (.aload_n 0, 1) := by decide +kernel
theorem d_md_readPattern_114 : decode b_md_readPattern 114 = .ok (.getfield 7, 3) := by decide +kernel
theorem d_md_readPattern_117 : decode b_md_readPattern 117 = .ok (.iload 5, 2) := by decide +kernel
theorem d_md_readPattern_119 : decode b_md_readPattern 119 = .ok (.iaload, 1) := by decide +kernel
theorem d_md_readPattern_120 : decode b_md_readPattern 120 = .ok (.invokestatic 58, 3) := by decide +kernel
theorem d_md_readPattern_123 : decode b_md_readPattern 123 = .ok (.ifCond .eq 7, 3) := by decide +kernel
theorem d_md_readPattern_126 : decode b_md_readPattern 126 = .ok (.iconst 1, 1) := by decide +kernel
theorem d_md_readPattern_127 : decode b_md_readPattern 127 = .ok (.goto 4, 3) := by decide +kernel
theorem d_md_readPattern_130 : decode b_md_readPattern 130 = .ok (.iconst 0, 1) := by decide +kernel
theorem d_md_readPattern_131 : decode b_md_readPattern 131 = .ok (.iadd, 1) := by decide +kernel
theorem d_md_readPattern_132 : decode b_md_readPattern 132 = .ok (.istore_n 2, 1) := by decide +kernel
theorem d_md_readPattern_133 : decode b_md_readPattern 133 = .ok (.iload_n 3, 1) := by decide +kernel
theorem d_md_readPattern_134 : decode b_md_readPattern 134 = .ok (.aload_n 0, 1) := by decide +kernel
theorem d_md_readPattern_135 : decode b_md_readPattern 135 = .ok (.getfield 7, 3) := by decide +kernel
theorem d_md_readPattern_138 : decode b_md_readPattern 138 = .ok (.iload 5, 2) := by decide +kernel
theorem d_md_readPattern_140 : decode b_md_readPattern 140 = .ok (.iaload, 1) := by decide +kernel
theorem d_md_readPattern_141 : decode b_md_readPattern 141 = .ok (.invokestatic 62, 3) := by decide +kernel
theorem d_md_readPattern_144 : decode b_md_readPattern 144 = .ok (.ifCond .eq 7, 3) := by decide +kernel
theorem d_md_readPattern_147 : decode b_md_readPattern 147 = .ok (.iconst 0, 1) := by decide +kernel
theorem d_md_readPattern_148 : decode b_md_readPattern 148 = .ok (.goto 4, 3) := by decide +kernel
theorem d_md_readPattern_151 : decode b_md_readPattern 151 = .ok (.iconst 1, 1) := by decide +kernel
theorem d_md_readPattern_152 : decode b_md_readPattern 152 = .ok (.iadd, 1) := by decide +kernel
theorem d_md_readPattern_153 : decode b_md_readPattern 153 = .ok (.istore_n 3, 1) := by decide +kernel
theorem d_md_readPattern_154 : decode b_md_readPattern 154 = .ok (.iinc 5 1, 3) := by decide +kernel
theorem d_md_readPattern_157 : decode b_md_readPattern 157 = .ok (.goto (-137), 3) := by decide +kernel
theorem d_md_readPattern_160 : decode b_md_readPattern 160 = .ok (.iload 4, 2) := by decide +kernel
theorem d_md_readPattern_162 : decode b_md_readPattern 162 = .ok (.ifCond .eq 14, 3) := by decide +kernel
theorem d_md_readPattern_165 : decode b_md_readPattern 165 = .ok (.iload_n 2, 1) := by decide +kernel
theorem d_md_readPattern_166 : decode b_md_readPattern 166 = .ok (.iconst 1, 1) := by decide +kernel
theorem d_md_readPattern_167 : decode b_md_readPattern 167 = .ok (.if_icmp .lt 9, 3) := by decide +kernel
theorem d_md_readPattern_170 : decode b_md_readPattern 170 = .ok (.iload_n 2, 1) := by decide +kernel
theorem d_md_readPattern_171 : decode b_md_readPattern 171 = .ok (.bipush 63, 2) := by decide +kernel
theorem d_md_readPattern_173 : decode b_md_readPattern 173 = .ok (.if_icmp .le 5, 3) := by decide +kernel
theorem d_md_readPattern_176 : decode b_md_readPattern 176 = .ok (.iconst 0, 1) := by decide +kernel
theorem d_md_readPattern_177 : decode b_md_readPattern 177 = .ok (.ireturn, 1) := by decide +kernel
theorem d_md_readPattern_178 : decode b_md_readPattern 178 = .ok (.iconst 0, 1) := by decide +kernel
theorem d_md_readPattern_179 : decode b_md_readPattern 179 = .ok (.istore 5, 2) := by decide +kernel
theorem d_md_readPattern_181 : decode b_md_readPattern 181 = .ok (.iconst 0, 1) := by decide +kernel
theorem d_md_readPattern_182 : decode b_md_readPattern 182 = .ok (.istore 6, 2) := by decide +kernel
theorem d_md_readPattern_184 : decode b_md_readPattern 184 = .ok (.iload 6, 2) := by decide +kernel
theorem d_md_readPattern_186 : decode b_md_readPattern 186 = .ok (.aload_n 0, 1) := by decide +kernel
theorem d_md_readPattern_187 : decode b_md_readPattern 187 = .ok (.getfield 50, 3) := by decide +kernel
theorem d_md_readPattern_190 : decode b_md_readPattern 190 = .ok (.if_icmp .ge 128, 3) := by decide +kernel
theorem d_md_readPattern_193 : decode b_md_readPattern 193 = .ok (.aload_n 0, 1) := by decide +kernel
theorem d_md_readPattern_194 : decode b_md_readPattern 194 = .ok (.getfield 7, 3) := by decide +kernel
theorem d_md_readPattern_197 : decode b_md_readPattern 197 = .ok (.iload 6, 2) := by decide +kernel
theorem d_md_readPattern_199 : decode b_md_readPattern 199 = .ok (.iaload, 1) := by decide +kernel
theorem d_md_readPattern_200 : decode b_md_readPattern 200 = .ok (.invokestatic 62, 3) := by decide +kernel
theorem d_md_readPattern_203 : decode b_md_readPattern 203 = .ok (.ifCond .ne 109, 3) := by decide +kernel
theorem d_md_readPattern_206 : decode b_md_readPattern 206 = .ok (.iload 4, 2) := by decide +kernel
theorem d_md_readPattern_208 : decode b_md_readPattern 208 = .ok (.ifCond .eq 32, 3) := by decide +kernel
theorem d_md_readPattern_211 : decode b_md_readPattern 211 = .ok (.aload_n 0, 1) := by decide +kernel
theorem d_md_readPattern_212 : decode b_md_readPattern 212 = .ok (.getfield 7, 3) := by decide +kernel
theorem d_md_readPattern_215 : decode b_md_readPattern 215 = .ok (.iload 6, 2) := by decide +kernel
theorem d_md_readPattern_217 : decode b_md_readPattern 217 = .ok (.iaload, 1) := by decide +kernel
theorem d_md_readPattern_218 : decode b_md_readPattern 218 = .ok (.bipush 46, 2) := by decide +kernel
theorem d_md_readPattern_220 : decode b_md_readPattern 220 = .ok (.if_icmp .ne 16, 3) := by decide +kernel
theorem d_md_readPattern_223 : decode b_md_readPattern 223 = .ok (.iload 5, 2) := by decide +kernel
theorem d_md_readPattern_225 : decode b_md_readPattern 225 = .ok (.ifCond .eq 11, 3) := by decide +kernel
theorem d_md_readPattern_228 : decode b_md_readPattern 228 = .ok (.iload 5, 2) := by decide +kernel
theorem d_md_readPattern_230 : decode b_md_readPattern 230 = .ok (.iload_n 3, 1) := by decide +kernel
theorem d_md_readPattern_231 : decode b_md_readPattern 231 = .ok (.iconst 1, 1) := by decide +kernel
theorem d_md_readPattern_232 : decode b_md_readPattern 232 = .ok (.isub, 1) := by decide +kernel
theorem d_md_readPattern_233 : decode b_md_readPattern 233 = .ok (.if_icmp .ne 7, 3) := by decide +kernel
theorem d_md_readPattern_236 : decode b_md_readPattern 236 = .ok (.iconst 1, 1) := by decide +kernel
theorem d_md_readPattern_237 : decode b_md_readPattern 237 = .ok (.goto 4, 3) := by decide +kernel
theorem d_md_readPattern_240 : decode b_md_readPattern 240 = .ok (.iconst 0, 1) := by decide +kernel
theorem d_md_readPattern_241 : decode b_md_readPattern 241 = .ok (.istore 4, 2) := by decide +kernel
theorem d_md_readPattern_243 : decode b_md_readPattern 243 = .ok (.aload_n 0, 1) := by decide +kernel
theorem d_md_readPattern_244 : decode b_md_readPattern 244 = .ok (.getfield 17, 3) := by decide +kernel
theorem d_md_readPattern_247 : decode b_md_readPattern 247 = .ok (.iload_n 1, 1) := by decide +kernel
theorem d_md_readPattern_248 : decode b_md_readPattern 248 = .ok (.iload 5, 2) := by decide +kernel
theorem d_md_readPattern_250 : decode b_md_readPattern 250 = .ok (.iadd, 1) := by decide +kernel
theorem d_md_readPattern_251 : decode b_md_readPattern 251 = .ok (.aload_n 0, 1) := by decide +kernel
theorem d_md_readPattern_252 : decode b_md_readPattern 252 = .ok (.getfield 7, 3) := by decide +kernel
theorem d_md_readPattern_255 : decode b_md_readPattern 255 = .ok (.iload 6, 2) := by decide +kernel
theorem d_md_readPattern_257 : decode b_md_readPattern 257 = .ok (.iaload, 1) := by decide +kernel
theorem d_md_readPattern_258 : decode b_md_readPattern 258 = .ok (.iastore, 1) := by decide +kernel
theorem d_md_readPattern_259 : decode b_md_readPattern 259 = .ok (.aload_n 0, 1) := by decide +kernel
theorem d_md_readPattern_260 : decode b_md_readPattern 260 = .ok (.getfield 21, 3) := by decide +kernel
theorem d_md_readPattern_263 : decode b_md_readPattern 263 = .ok (.iload_n 1, 1) := by decide +kernel
theorem d_md_readPattern_264 : decode b_md_readPattern 264 = .ok (.aload_n 0, 1) := by decide +kernel
theorem d_md_readPattern_265 : decode b_md_readPattern 265 = .ok (.getfield 55, 3) := by decide +kernel
theorem d_md_readPattern_268 : decode b_md_readPattern 268 = .ok (.iadd, 1) := by decide +kernel
theorem d_md_readPattern_269 : decode b_md_readPattern 269 = .ok (.iload 5, 2) := by decide +kernel
theorem d_md_readPattern_271 : decode b_md_readPattern 271 = .ok (.iadd, 1) := by decide +kernel
theorem d_md_readPattern_272 : decode b_md_readPattern 272 = .ok (.iload 6, 2) := by decide +kernel
theorem d_md_readPattern_274 : decode b_md_readPattern 274 = .ok (.ifCond .le 33, 3) := by decide +kernel
theorem d_md_readPattern_277 : decode b_md_readPattern 277 = .ok (.aload_n 0, 1) := by decide +kernel
theorem d_md_readPattern_278 : decode b_md_readPattern 278 = .ok (.getfield 7, 3) := by decide +kernel
theorem d_md_readPattern_281 : decode b_md_readPattern 281 = .ok (.iload 6, 2) := by decide +kernel
theorem d_md_readPattern_283 : decode b_md_readPattern 283 = .ok (.iconst 1, 1) := by decide +kernel
theorem d_md_readPattern_284 : decode b_md_readPattern 284 = .ok (.isub, 1) := by decide +kernel
theorem d_md_readPattern_285 : decode b_md_readPattern 285 = .ok (.iaload, 1) := by decide +kernel
theorem d_md_readPattern_286 : decode b_md_readPattern 286 = .ok (.invokestatic 62, 3) := by decide +kernel
theorem d_md_readPattern_289 : decode b_md_readPattern 289 = .ok (.ifCond .eq 18, 3) := by decide +kernel
theorem d_md_readPattern_292 : decode b_md_readPattern 292 = .ok (.aload_n 0, 1) := by decide +kernel
theorem d_md_readPattern_293 : decode b_md_readPattern 293 = .ok (.getfield 7, 3) := by decide +kernel
theorem d_md_readPattern_296 : decode b_md_readPattern 296 = .ok (.iload 6, 2) := by decide +kernel
theorem d_md_readPattern_298 : decode b_md_readPattern 298 = .ok (.iconst 1, 1) := by decide +kernel
theorem d_md_readPattern_299 : decode b_md_readPattern 299 = .ok (.isub, 1) := by decide +kernel
theorem d_md_readPattern_300 : decode b_md_readPattern 300 = .ok (.iaload, 1) := by decide +kernel
theorem d_md_readPattern_301 : decode b_md_readPattern 301 = .ok (.bipush 48, 2) := by decide +kernel
theorem d_md_readPattern_303 : decode b_md_readPattern 303 = .ok (.isub, 1) := by decide +kernel
theorem d_md_readPattern_304 : decode b_md_readPattern 304 = .ok (.goto 4, 3) := by decide +kernel
theorem d_md_readPattern_307 : decode b_md_readPattern 307 = .ok (.iconst 0, 1) := by decide +kernel
theorem d_md_readPattern_308 : decode b_md_readPattern 308 = .ok (.iastore, 1) := by decide +kernel
theorem d_md_readPattern_309 : decode b_md_readPattern 309 = .ok (.iinc 5 1, 3) := by decide +kernel
theorem d_md_readPattern_312 : decode b_md_readPattern 312 = .ok (.iinc 6 1, 3) := by decide +kernel
theorem d_md_readPattern_315 : decode b_md_readPattern 315 = .ok (.goto (-131), 3) := by decide +kernel
theorem d_md_readPattern_318 : decode b_md_readPattern 318 = .ok (.aload_n 0, 1) := by decide +kernel
theorem d_md_readPattern_319 : decode b_md_readPattern 319 = .ok (.getfield 21, 3) := by decide +kernel
theorem d_md_readPattern_322 : decode b_md_readPattern 322 = .ok (.iload_n 1, 1) := by decide +kernel
theorem d_md_readPattern_323 : decode b_md_readPattern 323 = .ok (.aload_n 0, 1) := by decide +kernel
theorem d_md_readPattern_324 : decode b_md_readPattern 324 = .ok (.getfield 55, 3) := by decide +kernel
theorem d_md_readPattern_327 : decode b_md_readPattern 327 = .ok (.iadd, 1) := by decide +kernel
theorem d_md_readPattern_328 : decode b_md_readPattern 328 = .ok (.iload_n 3, 1) := by decide +kernel
theorem d_md_readPattern_329 : decode b_md_readPattern 329 = .ok (.iadd, 1) := by decide +kernel
theorem d_md_readPattern_330 : decode b_md_readPattern 330 = .ok (.aload_n 0, 1) := by decide +kernel
theorem d_md_readPattern_331 : decode b_md_readPattern 331 = .ok (.getfield 7, 3) := by decide +kernel
theorem d_md_readPattern_334 : decode b_md_readPattern 334 = .ok (.aload_n 0, 1) := by decide +kernel
theorem d_md_readPattern_335 : decode b_md_readPattern 335 = .ok (.getfield 50, 3) := by decide +kernel
theorem d_md_readPattern_338 : decode b_md_readPattern 338 = .ok (.iconst 1, 1) := by decide +kernel
theorem d_md_readPattern_339 : decode b_md_readPattern 339 = .ok (.isub, 1) := by decide +kernel
theorem d_md_readPattern_340 : decode b_md_readPattern 340 = .ok (.iaload, 1) := by decide +kernel
theorem d_md_readPattern_341 : decode b_md_readPattern 341 = .ok (.invokestatic 62, 3) := by decide +kernel
theorem d_md_readPattern_344 : decode b_md_readPattern 344 = .ok (.ifCond .eq 20, 3) := by decide +kernel
theorem d_md_readPattern_347 : decode b_md_readPattern 347 = .ok (.aload_n 0, 1) := by decide +kernel
theorem d_md_readPattern_348 : decode b_md_readPattern 348 = .ok (.getfield 7, 3) := by decide +kernel
theorem d_md_readPattern_351 : decode b_md_readPattern 351 = .ok (.aload_n 0, 1) := by decide +kernel
theorem d_md_readPattern_352 : decode b_md_readPattern 352 = .ok (.getfield 50, 3) := by decide +kernel
theorem d_md_readPattern_355 : decode b_md_readPattern 355 = .ok (.iconst 1, 1) := by decide +kernel
theorem d_md_readPattern_356 : decode b_md_readPattern 356 = .ok (.isub, 1) := by decide +kernel
theorem d_md_readPattern_357 : decode b_md_readPattern 357 = .ok (.iaload, 1) := by decide +kernel
theorem d_md_readPattern_358 : decode b_md_readPattern 358 = .ok (.bipush 48, 2) := by decide +kernel
theorem d_md_readPattern_360 : decode b_md_readPattern 360 = .ok (.isub, 1) := by decide +kernel
theorem d_md_readPattern_361 : decode b_md_readPattern 361 = .ok (.goto 4, 3) := by decide +kernel
theorem d_md_readPattern_364 : decode b_md_readPattern 364 = .ok (.iconst 0, 1) := by decide +kernel
theorem d_md_readPattern_365 : decode b_md_readPattern 365 = .ok (.iastore, 1) := by decide +kernel
theorem d_md_readPattern_366 : decode b_md_readPattern 366 = .ok (.aload_n 0, 1) := by decide +kernel
theorem d_md_readPattern_367 : decode b_md_readPattern 367 = .ok (.getfield 17, 3) := by decide +kernel
theorem d_md_readPattern_370 : decode b_md_readPattern 370 = .ok (.iload_n 1, 1) := by decide +kernel
theorem d_md_readPattern_371 : decode b_md_readPattern 371 = .ok (.iaload, 1) := by decide +kernel
theorem d_md_readPattern_372 : decode b_md_readPattern 372 = .ok (.bipush 46, 2) := by decide +kernel
theorem d_md_readPattern_374 : decode b_md_readPattern 374 = .ok (.if_icmp .ne 15, 3) := by decide +kernel
theorem d_md_readPattern_377 : decode b_md_readPattern 377 = .ok (.aload_n 0, 1) := by decide +kernel
theorem d_md_readPattern_378 : decode b_md_readPattern 378 = .ok (.getfield 21, 3) := by decide +kernel
theorem d_md_readPattern_381 : decode b_md_readPattern 381 = .ok (.iload_n 1, 1) := by decide +kernel
theorem d_md_readPattern_382 : decode b_md_readPattern 382 = .ok (.aload_n 0, 1) := by decide +kernel
theorem d_md_readPattern_383 : decode b_md_readPattern 383 = .ok (.getfield 55, 3) := by decide +kernel
theorem d_md_readPattern_386 : decode b_md_readPattern 386 = .ok (.iadd, 1) := by decide +kernel
theorem d_md_readPattern_387 : decode b_md_readPattern 387 = .ok (.iconst 0, 1) := by decide +kernel
theorem d_md_readPattern_388 : decode b_md_readPattern 388 = .ok (.iastore, 1) := by decide +kernel
theorem d_md_readPattern_389 : decode b_md_readPattern 389 = .ok (.aload_n 0, 1) := by decide +kernel
theorem d_md_readPattern_390 : decode b_md_readPattern 390 = .ok (.getfield 17, 3) := by decide +kernel
theorem d_md_readPattern_393 : decode b_md_readPattern 393 = .ok (.iload_n 1, 1) := by decide +kernel
theorem d_md_readPattern_394 : decode b_md_readPattern 394 = .ok (.iload_n 3, 1) := by decide +kernel
theorem d_md_readPattern_395 : decode b_md_readPattern 395 = .ok (.iadd, 1) := by decide +kernel
theorem d_md_readPattern_396 : decode b_md_readPattern 396 = .ok (.iconst 1, 1) := by decide +kernel
theorem d_md_readPattern_397 : decode b_md_readPattern 397 = .ok (.isub, 1) := by decide +kernel
theorem d_md_readPattern_398 : decode b_md_readPattern 398 = .ok (.iaload, 1) := by decide +kernel
theorem d_md_readPattern_399 : decode b_md_readPattern 399 = .ok (.bipush 46, 2) := by decide +kernel
theorem d_md_readPattern_401 : decode b_md_readPattern 401 = .ok (.if_icmp .ne 17, 3) := by decide +kernel
theorem d_md_readPattern_404 : decode b_md_readPattern 404 = .ok (.aload_n 0, 1) := by decide +kernel
theorem d_md_readPattern_405 : decode b_md_readPattern 405 = .ok (.getfield 21, 3) := by decide +kernel
theorem d_md_readPattern_408 : decode b_md_readPattern 408 = .ok (.iload_n 1, 1) := by decide +kernel
theorem d_md_readPattern_409 : decode b_md_readPattern 409 = .ok (.aload_n 0, 1) := by decide +kernel
theorem d_md_readPattern_410 : decode b_md_readPattern 410 = .ok (.getfield 55, 3) := by decide +kernel
theorem d_md_readPattern_413 : decode b_md_readPattern 413 = .ok (.iadd, 1) := by decide +kernel
theorem d_md_readPattern_414 : decode b_md_readPattern 414 = .ok (.iload_n 3, 1) := by decide +kernel
theorem d_md_readPattern_415 : decode b_md_readPattern 415 = .ok (.iadd, 1) := by decide +kernel
theorem d_md_readPattern_416 : decode b_md_readPattern 416 = .ok (.iconst 0, 1) := by decide +kernel
theorem d_md_readPattern_417 : decode b_md_readPattern 417 = .ok (.iastore, 1) := by decide +kernel
theorem d_md_readPattern_418 : decode b_md_readPattern 418 = .ok (.iload 4, 2) := by decide +kernel
theorem d_md_readPattern_420 : decode b_md_readPattern 420 = .ok (.ifCond .eq 7, 3) := by decide +kernel
theorem d_md_readPattern_423 : decode b_md_readPattern 423 = .ok (.iload_n 3, 1) := by decide +kernel
theorem d_md_readPattern_424 : decode b_md_readPattern 424 = .ok (.goto 4, 3) := by decide +kernel
theorem d_md_readPattern_427 : decode b_md_readPattern 427 = .ok (.iconst 0, 1) := by decide +kernel
theorem d_md_readPattern_428 : decode b_md_readPattern 428 = .ok (.ireturn, 1) := by decide +kernel
theorem d_md_isLetter_0 : decode b_md_isLetter 0 = .ok (.iload_n 0, 1) := by decide +kernel
theorem d_md_isLetter_1 : decode b_md_isLetter 1 = .ok (.bipush 96, 2) := by decide +kernel
theorem d_md_isLetter_3 : decode b_md_isLetter 3 = .ok (.if_icmp .le 9, 3) := by decide +kernel
theorem d_md_isLetter_6 : decode b_md_isLetter 6 = .ok (.iload_n 0, 1) := by decide +kernel
theorem d_md_isLetter_7 : decode b_md_isLetter 7 = .ok (.bipush 123, 2) := by decide +kernel
theorem d_md_isLetter_9 : decode b_md_isLetter 9 = .ok (.if_icmp .lt 9, 3) := by decide +kernel
theorem d_md_isLetter_12 : decode b_md_isLetter 12 = .ok (.iload_n 0, 1) := by decide +kernel
theorem d_md_isLetter_13 : decode b_md_isLetter 13 = .ok (.bipush 127, 2) := by decide +kernel
theorem d_md_isLetter_15 : decode b_md_isLetter 15 = .ok (.if_icmp .le 7, 3) := by decide +kernel
theorem d_md_isLetter_18 : decode b_md_isLetter 18 = .ok (.iconst 1, 1) := by decide +kernel
theorem d_md_isLetter_19 : decode b_md_isLetter 19 = .ok (.goto 4, 3) := by decide +kernel
theorem d_md_isLetter_22 : decode b_md_isLetter 22 = .ok (.iconst 0, 1) := by decide +kernel
theorem d_md_isLetter_23 : decode b_md_isLetter 23 = .ok (.ireturn, 1) := by decide +kernel
theorem d_md_isDigit_0 : decode b_md_isDigit 0 = .ok (.iload_n 0, 1) := by decide +kernel
theorem d_md_isDigit_1 : decode b_md_isDigit 1 = .ok (.bipush 47, 2) := by decide +kernel
theorem d_md_isDigit_3 : decode b_md_isDigit 3 = .ok (.if_icmp .le 13, 3) := by decide +kernel
theorem d_md_isDigit_6 : decode b_md_isDigit 6 = .ok (.iload_n 0, 1) := by decide +kernel
theorem d_md_isDigit_7 : decode b_md_isDigit 7 = .ok (.bipush 58, 2) := by decide +kernel
theorem d_md_isDigit_9 : decode b_md_isDigit 9 = .ok (.if_icmp .ge 7, 3) := by decide +kernel
theorem d_md_isDigit_12 : decode b_md_isDigit 12 = .ok (.iconst 1, 1) := by decide +kernel
theorem d_md_isDigit_13 : decode b_md_isDigit 13 = .ok (.goto 4, 3) := by decide +kernel
theorem d_md_isDigit_16 : decode b_md_isDigit 16 = .ok (.iconst 0, 1) := by decide +kernel
theorem d_md_isDigit_17 : decode b_md_isDigit 17 = .ok (.ireturn, 1) := by decide +kernel
theorem d_md_fails_0 : decode b_md_fails 0 = .ok (.aload_n 0, 1) := by decide +kernel
theorem d_md_fails_1 : decode b_md_fails 1 = .ok (.iload_n 1, 1) := by decide +kernel
theorem d_md_fails_2 : decode b_md_fails 2 = .ok (.putfield 47, 3) := by decide +kernel
theorem d_md_fails_5 : decode b_md_fails 5 = .ok (.aload_n 0, 1) := by decide +kernel
theorem d_md_fails_6 : decode b_md_fails 6 = .ok (.iconst 0, 1) := by decide +kernel
theorem d_md_fails_7 : decode b_md_fails 7 = .ok (.putfield 50, 3) := by decide +kernel
theorem d_md_fails_10 : decode b_md_fails 10 = .ok (.iconst 0, 1) := by decide +kernel
theorem d_md_fails_11 : decode b_md_fails 11 = .ok (.ireturn, 1) := by decide +kernel
theorem d_md_common_0 : decode b_md_common 0 = .ok (.iconst 0, 1) := by decide +kernel
theorem d_md_common_1 : decode b_md_common 1 = .ok (.istore 4, 2) := by decide +kernel
theorem d_md_common_3 : decode b_md_common 3 = .ok (.iload 4, 2) := by decide +kernel
theorem d_md_common_5 : decode b_md_common 5 = .ok (.iload_n 2, 1) := by decide +kernel
theorem d_md_common_6 : decode b_md_common 6 = .ok (.if_icmp .ge 55, 3) := by decide +kernel
theorem d_md_common_9 : decode b_md_common 9 = .ok (.aload_n 0, 1) := by decide +kernel
theorem d_md_common_10 : decode b_md_common 10 = .ok (.getfield 13, 3) := by decide +kernel
theorem d_md_common_13 : decode b_md_common 13 = .ok (.iload_n 3, 1) := by decide +kernel
theorem d_md_common_14 : decode b_md_common 14 = .ok (.iaload, 1) := by decide +kernel
theorem d_md_common_15 : decode b_md_common 15 = .ok (.iload 4, 2) := by decide +kernel
theorem d_md_common_17 : decode b_md_common 17 = .ok (.iadd, 1) := by decide +kernel
theorem d_md_common_18 : decode b_md_common 18 = .ok (.aload_n 0, 1) := by decide +kernel
theorem d_md_common_19 : decode b_md_common 19 = .ok (.getfield 13, 3) := by decide +kernel
theorem d_md_common_22 : decode b_md_common 22 = .ok (.iload_n 3, 1) := by decide +kernel
theorem d_md_common_23 : decode b_md_common 23 = .ok (.iconst 1, 1) := by decide +kernel
theorem d_md_common_24 : decode b_md_common 24 = .ok (.iadd, 1) := by decide +kernel
theorem d_md_common_25 : decode b_md_common 25 = .ok (.iaload, 1) := by decide +kernel
theorem d_md_common_26 : decode b_md_common 26 = .ok (.if_icmp .ge 35, 3) := by decide +kernel
theorem d_md_common_29 : decode b_md_common 29 = .ok (.aload_n 0, 1) := by decide +kernel
theorem d_md_common_30 : decode b_md_common 30 = .ok (.getfield 17, 3) := by decide +kernel
theorem d_md_common_33 : decode b_md_common 33 = .ok (.aload_n 0, 1) := by decide +kernel
theorem d_md_common_34 : decode b_md_common 34 = .ok (.getfield 13, 3) := by decide +kernel
theorem d_md_common_37 : decode b_md_common 37 = .ok (.iload_n 3, 1) := by decide +kernel
theorem d_md_common_38 : decode b_md_common 38 = .ok (.iaload, 1) := by decide +kernel
theorem d_md_common_39 : decode b_md_common 39 = .ok (.iload 4, 2) := by decide +kernel
theorem d_md_common_41 : decode b_md_common 41 = .ok (.iadd, 1) := by decide +kernel
theorem d_md_common_42 : decode b_md_common 42 = .ok (.iaload, 1) := by decide +kernel
theorem d_md_common_43 : decode b_md_common 43 = .ok (.aload_n 0, 1) := by decide +kernel
theorem d_md_common_44 : decode b_md_common 44 = .ok (.getfield 17, 3) := by decide +kernel
theorem d_md_common_47 : decode b_md_common 47 = .ok (.iload_n 1, 1) := by decide +kernel
theorem d_md_common_48 : decode b_md_common 48 = .ok (.iload 4, 2) := by decide +kernel
theorem d_md_common_50 : decode b_md_common 50 = .ok (.iadd, 1) := by decide +kernel
theorem d_md_common_51 : decode b_md_common 51 = .ok (.iaload, 1) := by decide +kernel
theorem d_md_common_52 : decode b_md_common 52 = .ok (.if_icmp .ne 9, 3) := by decide +kernel
theorem d_md_common_55 : decode b_md_common 55 = .ok (.iinc 4 1, 3) := by decide +kernel
theorem d_md_common_58 : decode b_md_common 58 = .ok (.goto (-55), 3) := by decide +kernel
theorem d_md_common_61 : decode b_md_common 61 = .ok (.iload 4, 2) := by decide +kernel
theorem d_md_common_63 : decode b_md_common 63 = .ok (.ireturn, 1) := by decide +kernel
theorem d_md_exception_0 : decode b_md_exception 0 = .ok (.iconst 0, 1) := by decide +kernel
theorem d_md_exception_1 : decode b_md_exception 1 = .ok (.istore_n 1, 1) := by decide +kernel
theorem d_md_exception_2 : decode b_md_exception 2 = .ok (.lconst 0, 1) := by decide +kernel
theorem d_md_exception_3 : decode b_md_exception 3 = .ok (.lstore_n 2, 1) := by decide +kernel
theorem d_md_exception_4 : decode b_md_exception 4 = .ok (.aload_n 0, 1) := by decide +kernel
theorem d_md_exception_5 : decode b_md_exception 5 = .ok (.getfield 50, 3) := by decide +kernel
theorem d_md_exception_8 : decode b_md_exception 8 = .ok (.ifCond .le 7, 3) := by decide +kernel
theorem d_md_exception_11 : decode b_md_exception 11 = .ok (.iconst 1, 1) := by decide +kernel
theorem d_md_exception_12 : decode b_md_exception 12 = .ok (.goto 4, 3) := by decide +kernel
theorem d_md_exception_15 : decode b_md_exception 15 = .ok (.iconst 0, 1) := by decide +kernel
theorem d_md_exception_16 : decode b_md_exception 16 = .ok (.istore 4, 2) := by decide +kernel
theorem d_md_exception_18 : decode b_md_exception 18 = .ok (.iconst 0, 1) := by decide +kernel
theorem d_md_exception_19 : decode b_md_exception 19 = .ok (.istore 5, 2) := by decide +kernel
theorem d_md_exception_21 : decode b_md_exception 21 = .ok (.iload 5, 2) := by decide +kernel
theorem d_md_exception_23 : decode b_md_exception 23 = .ok (.aload_n 0, 1) := by decide +kernel
theorem d_md_exception_24 : decode b_md_exception 24 = .ok (.getfield 50, 3) := by decide +kernel
theorem d_md_exception_27 : decode b_md_exception 27 = .ok (.if_icmp .ge 127, 3) := by decide +kernel
theorem d_md_exception_30 : decode b_md_exception 30 = .ok (.aload_n 0, 1) := by decide +kernel
theorem d_md_exception_31 : decode b_md_exception 31 = .ok (.getfield 7, 3) := by decide +kernel
theorem d_md_exception_34 : decode b_md_exception 34 = .ok (.iload 5, 2) := by decide +kernel
theorem d_md_exception_36 : decode b_md_exception 36 = .ok (.iaload, 1) := by decide +kernel
theorem d_md_exception_37 : decode b_md_exception 37 = .ok (.invokestatic 58, 3) := by decide +kernel
theorem d_md_exception_40 : decode b_md_exception 40 = .ok (.ifCond .eq 38, 3) := by decide +kernel
theorem d_md_exception_43 : decode b_md_exception 43 = .ok (.iload_n 1, 1) := by decide +kernel
theorem d_md_exception_44 : decode b_md_exception 44 = .ok (.bipush 64, 2) := by decide +kernel
theorem d_md_exception_46 : decode b_md_exception 46 = .ok (.if_icmp .ge 26, 3) := by decide +kernel
theorem d_md_exception_49 : decode b_md_exception 49 = .ok (.aload_n 0, 1) := by decide +kernel
theorem d_md_exception_50 : decode b_md_exception 50 = .ok (.getfield 27, 3) := by decide +kernel
theorem d_md_exception_53 : decode b_md_exception 53 = .ok (.aload_n 0, 1) := by decide +kernel
theorem d_md_exception_54 : decode b_md_exception 54 = .ok (.getfield 24, 3) := by decide +kernel
theorem d_md_exception_57 : decode b_md_exception 57 = .ok (.aload_n 0, 1) := by decide +kernel
theorem d_md_exception_58 : decode b_md_exception 58 = .ok (.getfield 81, 3) := by decide +kernel
theorem d_md_exception_61 : decode b_md_exception 61 = .ok (.iaload, 1) := by decide +kernel
theorem d_md_exception_62 : decode b_md_exception 62 = .ok (.iload_n 1, 1) := by decide +kernel
theorem d_md_exception_63 : decode b_md_exception 63 = .ok (.iadd, 1) := by decide +kernel
theorem d_md_exception_64 : decode b_md_exception 64 = .ok (.aload_n 0, 1) := by decide +kernel
theorem d_md_exception_65 : decode b_md_exception 65 = .ok (.getfield 7, 3) := by decide +kernel
theorem d_md_exception_68 : decode b_md_exception 68 = .ok (.iload 5, 2) := by decide +kernel
theorem d_md_exception_70 : decode b_md_exception 70 = .ok (.iaload, 1) := by decide +kernel
theorem d_md_exception_71 : decode b_md_exception 71 = .ok (.iastore, 1) := by decide +kernel
theorem d_md_exception_72 : decode b_md_exception 72 = .ok (.iinc 1 1, 3) := by decide +kernel
theorem d_md_exception_75 : decode b_md_exception 75 = .ok (.goto 73, 3) := by decide +kernel
theorem d_md_exception_78 : decode b_md_exception 78 = .ok (.iload 4, 2) := by decide +kernel
theorem d_md_exception_80 : decode b_md_exception 80 = .ok (.ifCond .eq 49, 3) := by decide +kernel
theorem d_md_exception_83 : decode b_md_exception 83 = .ok (.aload_n 0, 1) := by decide +kernel
theorem d_md_exception_84 : decode b_md_exception 84 = .ok (.getfield 7, 3) := by decide +kernel
theorem d_md_exception_87 : decode b_md_exception 87 = .ok (.iload 5, 2) := by decide +kernel
theorem d_md_exception_89 : decode b_md_exception 89 = .ok (.iaload, 1) := by decide +kernel
theorem d_md_exception_90 : decode b_md_exception 90 = .ok (.bipush 45, 2) := by decide +kernel
theorem d_md_exception_92 : decode b_md_exception 92 = .ok (.if_icmp .ne 37, 3) := by decide +kernel
theorem d_md_exception_95 : decode b_md_exception 95 = .ok (.iload 5, 2) := by decide +kernel
theorem d_md_exception_97 : decode b_md_exception 97 = .ok (.ifCond .le 32, 3) := by decide +kernel
theorem d_md_exception_100 : decode b_md_exception 100 = .ok (.iload 5, 2) := by decide +kernel
theorem d_md_exception_102 : decode b_md_exception 102 = .ok (.iconst 1, 1) := by decide +kernel
theorem d_md_exception_103 : decode b_md_exception 103 = .ok (.iadd, 1) := by decide +kernel
theorem d_md_exception_104 : decode b_md_exception 104 = .ok (.aload_n 0, 1) := by decide +kernel
theorem d_md_exception_105 : decode b_md_exception 105 = .ok (.getfield 50, 3) := by decide +kernel
theorem d_md_exception_108 : decode b_md_exception 108 = .ok (.if_icmp .ge 21, 3) := by decide +kernel
theorem d_md_exception_111 : decode b_md_exception 111 = .ok (.aload_n 0, 1) := by decide +kernel
theorem d_md_exception_112 : decode b_md_exception 112 = .ok (.getfield 7, 3) := by decide +kernel
theorem d_md_exception_115 : decode b_md_exception 115 = .ok (.iload 5, 2) := by decide +kernel
theorem d_md_exception_117 : decode b_md_exception 117 = .ok (.iconst 1, 1) := by decide +kernel
theorem d_md_exception_118 : decode b_md_exception 118 = .ok (.isub, 1) := by decide +kernel
theorem d_md_exception_119 : decode b_md_exception 119 = .ok (.iaload, 1) := by decide +kernel
theorem d_md_exception_120 : decode b_md_exception 120 = .ok (.bipush 45, 2) := by decide +kernel
theorem d_md_exception_122 : decode b_md_exception 122 = .ok (.if_icmp .eq 7, 3) := by decide +kernel
theorem d_md_exception_125 : decode b_md_exception 125 = .ok (.iconst 1, 1) := by decide +kernel
theorem d_md_exception_126 : decode b_md_exception 126 = .ok (.goto 4, 3) := by decide +kernel
theorem d_md_exception_129 : decode b_md_exception 129 = .ok (.iconst 0, 1) := by decide +kernel
theorem d_md_exception_130 : decode b_md_exception 130 = .ok (.istore 4, 2) := by decide +kernel
theorem d_md_exception_132 : decode b_md_exception 132 = .ok (.iload_n 1, 1) := by decide +kernel
theorem d_md_exception_133 : decode b_md_exception 133 = .ok (.bipush 64, 2) := by decide +kernel
theorem d_md_exception_135 : decode b_md_exception 135 = .ok (.if_icmp .ge 11, 3) := by decide +kernel
theorem d_md_exception_138 : decode b_md_exception 138 = .ok (.lload_n 2, 1) := by decide +kernel
theorem d_md_exception_139 : decode b_md_exception 139 = .ok (.lconst 1, 1) := by decide +kernel
theorem d_md_exception_140 : decode b_md_exception 140 = .ok (.iload_n 1, 1) := by decide +kernel
theorem d_md_exception_141 : decode b_md_exception 141 = .ok (.lshl, 1) := by decide +kernel
theorem d_md_exception_142 : decode b_md_exception 142 = .ok (.lor, 1) := by decide +kernel
theorem d_md_exception_143 : decode b_md_exception 143 = .ok (.goto 4, 3) := by decide +kernel
theorem d_md_exception_146 : decode b_md_exception 146 = .ok (.lload_n 2, 1) := by decide +kernel
theorem d_md_exception_147 : decode b_md_exception 147 = .ok (.lstore_n 2, 1) := by decide +kernel
theorem d_md_exception_148 : decode b_md_exception 148 = .ok (.iinc 5 1, 3) := by decide +kernel
theorem d_md_exception_151 : decode b_md_exception 151 = .ok (.goto (-130), 3) := by decide +kernel
theorem d_md_exception_154 : decode b_md_exception 154 = .ok (.iload 4, 2) := by decide +kernel
theorem d_md_exception_156 : decode b_md_exception 156 = .ok (.ifCond .eq 14, 3) := by decide +kernel
theorem d_md_exception_159 : decode b_md_exception 159 = .ok (.iload_n 1, 1) := by decide +kernel
theorem d_md_exception_160 : decode b_md_exception 160 = .ok (.iconst 1, 1) := by decide +kernel
theorem d_md_exception_161 : decode b_md_exception 161 = .ok (.if_icmp .lt 9, 3) := by decide +kernel
theorem d_md_exception_164 : decode b_md_exception 164 = .ok (.iload_n 1, 1) := by decide +kernel
theorem d_md_exception_165 : decode b_md_exception 165 = .ok (.bipush 63, 2) := by decide +kernel
theorem d_md_exception_167 : decode b_md_exception 167 = .ok (.if_icmp .le 9, 3) := by decide +kernel
theorem d_md_exception_170 : decode b_md_exception 170 = .ok (.aload_n 0, 1) := by decide +kernel
theorem d_md_exception_171 : decode b_md_exception 171 = .ok (.iconst 1, 1) := by decide +kernel
theorem d_md_exception_172 : decode b_md_exception 172 = .ok (.invokevirtual 69, 3) := by decide +kernel
theorem d_md_exception_175 : decode b_md_exception 175 = .ok (.ireturn, 1) := by decide +kernel
theorem d_md_exception_176 : decode b_md_exception 176 = .ok (.aload_n 0, 1) := by decide +kernel
theorem d_md_exception_177 : decode b_md_exception 177 = .ok (.iload_n 1, 1) := by decide +kernel
theorem d_md_exception_178 : decode b_md_exception 178 = .ok (.invokevirtual 84, 3) := by decide +kernel
theorem d_md_exception_181 : decode b_md_exception 181 = .ok (.istore 5, 2) := by decide +kernel
theorem d_md_exception_183 : decode b_md_exception 183 = .ok (.iload 5, 2) := by decide +kernel
theorem d_md_exception_185 : decode b_md_exception 185 = .ok (.sipush 2048, 3) := by decide +kernel
theorem d_md_exception_188 : decode b_md_exception 188 = .ok (.if_icmp .ne 9, 3) := by decide +kernel
theorem d_md_exception_191 : decode b_md_exception 191 = .ok (.aload_n 0, 1) := by decide +kernel
theorem d_md_exception_192 : decode b_md_exception 192 = .ok (.iconst 2, 1) := by decide +kernel
theorem d_md_exception_193 : decode b_md_exception 193 = .ok (.invokevirtual 69, 3) := by decide +kernel
theorem d_md_exception_196 : decode b_md_exception 196 = .ok (.ireturn, 1) := by decide +kernel
theorem d_md_exception_197 : decode b_md_exception 197 = .ok (.aload_n 0, 1) := by decide +kernel
theorem d_md_exception_198 : decode b_md_exception 198 = .ok (.getfield 30, 3) := by decide +kernel
theorem d_md_exception_201 : decode b_md_exception 201 = .ok (.iload 5, 2) := by decide +kernel
theorem d_md_exception_203 : decode b_md_exception 203 = .ok (.lload_n 2, 1) := by decide +kernel
theorem d_md_exception_204 : decode b_md_exception 204 = .ok (.lastore, 1) := by decide +kernel
theorem d_md_exception_205 : decode b_md_exception 205 = .ok (.iload 5, 2) := by decide +kernel
theorem d_md_exception_207 : decode b_md_exception 207 = .ok (.aload_n 0, 1) := by decide +kernel
theorem d_md_exception_208 : decode b_md_exception 208 = .ok (.getfield 81, 3) := by decide +kernel
theorem d_md_exception_211 : decode b_md_exception 211 = .ok (.if_icmp .ne 31, 3) := by decide +kernel
theorem d_md_exception_214 : decode b_md_exception 214 = .ok (.aload_n 0, 1) := by decide +kernel
theorem d_md_exception_215 : decode b_md_exception 215 = .ok (.dup, 1) := by decide +kernel
theorem d_md_exception_216 : decode b_md_exception 216 = .ok (.getfield 81, 3) := by decide +kernel
theorem d_md_exception_219 : decode b_md_exception 219 = .ok (.iconst 1, 1) := by decide +kernel
theorem d_md_exception_220 : decode b_md_exception 220 = .ok (.iadd, 1) := by decide +kernel
theorem d_md_exception_221 : decode b_md_exception 221 = .ok (.putfield 81, 3) := by decide +kernel
theorem d_md_exception_224 : decode b_md_exception 224 = .ok (.aload_n 0, 1) := by decide +kernel
theorem d_md_exception_225 : decode b_md_exception 225 = .ok (.getfield 24, 3) := by decide +kernel
theorem d_md_exception_228 : decode b_md_exception 228 = .ok (.aload_n 0, 1) := by decide +kernel
theorem d_md_exception_229 : decode b_md_exception 229 = .ok (.getfield 81, 3) := by decide +kernel
theorem d_md_exception_232 : decode b_md_exception 232 = .ok (.aload_n 0, 1) := by decide +kernel
theorem d_md_exception_233 : decode b_md_exception 233 = .ok (.getfield 24, 3) := by decide +kernel
theorem d_md_exception_236 : decode b_md_exception 236 = .ok (.iload 5, 2) := by decide +kernel
theorem d_md_exception_238 : decode b_md_exception 238 = .ok (.iaload, 1) := by decide +kernel
theorem d_md_exception_239 : decode b_md_exception 239 = .ok (.iload_n 1, 1) := by decide +kernel
theorem d_md_exception_240 : decode b_md_exception 240 = .ok (.iadd, 1) := by decide +kernel
theorem d_md_exception_241 : decode b_md_exception 241 = .ok (.iastore, 1) := by decide +kernel
theorem d_md_exception_242 : decode b_md_exception 242 = .ok (.aload_n 0, 1) := by decide +kernel
theorem d_md_exception_243 : decode b_md_exception 243 = .ok (.iconst 0, 1) := by decide +kernel
theorem d_md_exception_244 : decode b_md_exception 244 = .ok (.invokevirtual 69, 3) := by decide +kernel
theorem d_md_exception_247 : decode b_md_exception 247 = .ok (.pop, 1) := by decide +kernel
theorem d_md_exception_248 : decode b_md_exception 248 = .ok (.aload_n 0, 1) := by decide +kernel
theorem d_md_exception_249 : decode b_md_exception 249 = .ok (.getfield 81, 3) := by decide +kernel
theorem d_md_exception_252 : decode b_md_exception 252 = .ok (.ireturn, 1) := by decide +kernel
theorem d_md_find_0 : decode b_md_find 0 = .ok (.iconst 0, 1) := by decide +kernel
theorem d_md_find_1 : decode b_md_find 1 = .ok (.istore_n 2, 1) := by decide +kernel
theorem d_md_find_2 : decode b_md_find 2 = .ok (.iload_n 2, 1) := by decide +kernel
theorem d_md_find_3 : decode b_md_find 3 = .ok (.aload_n 0, 1) := by decide +kernel
theorem d_md_find_4 : decode b_md_find 4 = .ok (.getfield 81, 3) := by decide +kernel
theorem d_md_find_7 : decode b_md_find 7 = .ok (.if_icmp .ge 99, 3) := by decide +kernel
theorem d_md_find_10 : decode b_md_find 10 = .ok (.aload_n 0, 1) := by decide +kernel
theorem d_md_find_11 : decode b_md_find 11 = .ok (.getfield 24, 3) := by decide +kernel
theorem d_md_find_14 : decode b_md_find 14 = .ok (.iload_n 2, 1) := by decide +kernel
theorem d_md_find_15 : decode b_md_find 15 = .ok (.iconst 1, 1) := by decide +kernel
theorem d_md_find_16 : decode b_md_find 16 = .ok (.iadd, 1) := by decide +kernel
theorem d_md_find_17 : decode b_md_find 17 = .ok (.iaload, 1) := by decide +kernel
theorem d_md_find_18 : decode b_md_find 18 = .ok (.aload_n 0, 1) := by decide +kernel
theorem d_md_find_19 : decode b_md_find 19 = .ok (.getfield 24, 3) := by decide +kernel
theorem d_md_find_22 : decode b_md_find 22 = .ok (.iload_n 2, 1) := by decide +kernel
theorem d_md_find_23 : decode b_md_find 23 = .ok (.iaload, 1) := by decide +kernel
theorem d_md_find_24 : decode b_md_find 24 = .ok (.isub, 1) := by decide +kernel
theorem d_md_find_25 : decode b_md_find 25 = .ok (.iload_n 1, 1) := by decide +kernel
theorem d_md_find_26 : decode b_md_find 26 = .ok (.if_icmp .ne 7, 3) := by decide +kernel
theorem d_md_find_29 : decode b_md_find 29 = .ok (.iconst 1, 1) := by decide +kernel
theorem d_md_find_30 : decode b_md_find 30 = .ok (.goto 4, 3) := by decide +kernel
theorem d_md_find_33 : decode b_md_find 33 = .ok (.iconst 0, 1) := by decide +kernel
theorem d_md_find_34 : decode b_md_find 34 = .ok (.istore_n 3, 1) := by decide +kernel
theorem d_md_find_35 : decode b_md_find 35 = .ok (.iconst 0, 1) := by decide +kernel
theorem d_md_find_36 : decode b_md_find 36 = .ok (.istore 4, 2) := by decide +kernel
theorem d_md_find_38 : decode b_md_find 38 = .ok (.iload 4, 2) := by decide +kernel
theorem d_md_find_40 : decode b_md_find 40 = .ok (.iload_n 1, 1) := by decide +kernel
theorem d_md_find_41 : decode b_md_find 41 = .ok (.if_icmp .ge 53, 3) := by decide +kernel
theorem d_md_find_44 : decode b_md_find 44 = .ok (.iload_n 3, 1) := by decide +kernel
theorem d_md_find_45 : decode b_md_find 45 = .ok (.ifCond .eq 49, 3) := by decide +kernel
theorem d_md_find_48 : decode b_md_find 48 = .ok (.aload_n 0, 1) := by decide +kernel
theorem d_md_find_49 : decode b_md_find 49 = .ok (.getfield 27, 3) := by decide +kernel
theorem d_md_find_52 : decode b_md_find 52 = .ok (.aload_n 0, 1) := by decide +kernel
theorem d_md_find_53 : decode b_md_find 53 = .ok (.getfield 24, 3) := by decide +kernel
theorem d_md_find_56 : decode b_md_find 56 = .ok (.iload_n 2, 1) := by decide +kernel
theorem d_md_find_57 : decode b_md_find 57 = .ok (.iaload, 1) := by decide +kernel
theorem d_md_find_58 : decode b_md_find 58 = .ok (.iload 4, 2) := by decide +kernel
theorem d_md_find_60 : decode b_md_find 60 = .ok (.iadd, 1) := by decide +kernel
theorem d_md_find_61 : decode b_md_find 61 = .ok (.iaload, 1) := by decide +kernel
theorem d_md_find_62 : decode b_md_find 62 = .ok (.aload_n 0, 1) := by decide +kernel
theorem d_md_find_63 : decode b_md_find 63 = .ok (.getfield 27, 3) := by decide +kernel
theorem d_md_find_66 : decode b_md_find 66 = .ok (.aload_n 0, 1) := by decide +kernel
theorem d_md_find_67 : decode b_md_find 67 = .ok (.getfield 24, 3) := by decide +kernel
theorem d_md_find_70 : decode b_md_find 70 = .ok (.aload_n 0, 1) := by decide +kernel
theorem d_md_find_71 : decode b_md_find 71 = .ok (.getfield 81, 3) := by decide +kernel
theorem d_md_find_74 : decode b_md_find 74 = .ok (.iaload, 1) := by decide +kernel
theorem d_md_find_75 : decode b_md_find 75 = .ok (.iload 4, 2) := by decide +kernel
theorem d_md_find_77 : decode b_md_find 77 = .ok (.iadd, 1) := by decide +kernel
theorem d_md_find_78 : decode b_md_find 78 = .ok (.iaload, 1) := by decide +kernel
theorem d_md_find_79 : decode b_md_find 79 = .ok (.if_icmp .ne 7, 3) := by decide +kernel
theorem d_md_find_82 : decode b_md_find 82 = .ok (.iconst 1, 1) := by decide +kernel
theorem d_md_find_83 : decode b_md_find 83 = .ok (.goto 4, 3) := by decide +kernel
theorem d_md_find_86 : decode b_md_find 86 = .ok (.iconst 0, 1) := by decide +kernel
theorem d_md_find_87 : decode b_md_find 87 = .ok (.istore_n 3, 1) := by decide +kernel
theorem d_md_find_88 : decode b_md_find 88 = .ok (.iinc 4 1, 3) := by decide +kernel
theorem d_md_find_91 : decode b_md_find 91 = .ok (.goto (-53), 3) := by decide +kernel
theorem d_md_find_94 : decode b_md_find 94 = .ok (.iload_n 3, 1) := by decide +kernel
theorem d_md_find_95 : decode b_md_find 95 = .ok (.ifCond .eq 5, 3) := by decide +kernel
theorem d_md_find_98 : decode b_md_find 98 = .ok (.iload_n 2, 1) := by decide +kernel
theorem d_md_find_99 : decode b_md_find 99 = .ok (.ireturn, 1) := by decide +kernel
theorem d_md_find_100 : decode b_md_find 100 = .ok (.iinc 2 1, 3) := by decide +kernel
theorem d_md_find_103 : decode b_md_find 103 = .ok (.goto (-101), 3) := by decide +kernel
theorem d_md_find_106 : decode b_md_find 106 = .ok (.aload_n 0, 1) := by decide +kernel
theorem d_md_find_107 : decode b_md_find 107 = .ok (.getfield 81, 3) := by decide +kernel
theorem d_md_find_110 : decode b_md_find 110 = .ok (.ireturn, 1) := by decide +kernel
theorem d_md_word_0 : decode b_md_word 0 = .ok (.aload_n 0, 1) := by decide +kernel
theorem d_md_word_1 : decode b_md_word 1 = .ok (.getfield 50, 3) := by decide +kernel
theorem d_md_word_4 : decode b_md_word 4 = .ok (.ifCond .le 16, 3) := by decide +kernel
theorem d_md_word_7 : decode b_md_word 7 = .ok (.aload_n 0, 1) := by decide +kernel
theorem d_md_word_8 : decode b_md_word 8 = .ok (.getfield 50, 3) := by decide +kernel
theorem d_md_word_11 : decode b_md_word 11 = .ok (.bipush 64, 2) := by decide +kernel
theorem d_md_word_13 : decode b_md_word 13 = .ok (.if_icmp .ge 7, 3) := by decide +kernel
theorem d_md_word_16 : decode b_md_word 16 = .ok (.iconst 1, 1) := by decide +kernel
theorem d_md_word_17 : decode b_md_word 17 = .ok (.goto 4, 3) := by decide +kernel
theorem d_md_word_20 : decode b_md_word 20 = .ok (.iconst 0, 1) := by decide +kernel
theorem d_md_word_21 : decode b_md_word 21 = .ok (.istore_n 1, 1) := by decide +kernel
theorem d_md_word_22 : decode b_md_word 22 = .ok (.iconst 0, 1) := by decide +kernel
theorem d_md_word_23 : decode b_md_word 23 = .ok (.istore_n 2, 1) := by decide +kernel
theorem d_md_word_24 : decode b_md_word 24 = .ok (.iload_n 2, 1) := by decide +kernel
theorem d_md_word_25 : decode b_md_word 25 = .ok (.aload_n 0, 1) := by decide +kernel
theorem d_md_word_26 : decode b_md_word 26 = .ok (.getfield 50, 3) := by decide +kernel
theorem d_md_word_29 : decode b_md_word 29 = .ok (.if_icmp .ge 31, 3) := by decide +kernel
theorem d_md_word_32 : decode b_md_word 32 = .ok (.iload_n 1, 1) := by decide +kernel
theorem d_md_word_33 : decode b_md_word 33 = .ok (.ifCond .eq 19, 3) := by decide +kernel
theorem d_md_word_36 : decode b_md_word 36 = .ok (.aload_n 0, 1) := by decide +kernel
theorem d_md_word_37 : decode b_md_word 37 = .ok (.getfield 7, 3) := by decide +kernel
theorem d_md_word_40 : decode b_md_word 40 = .ok (.iload_n 2, 1) := by decide +kernel
theorem d_md_word_41 : decode b_md_word 41 = .ok (.iaload, 1) := by decide +kernel
theorem d_md_word_42 : decode b_md_word 42 = .ok (.invokestatic 58, 3) := by decide +kernel
theorem d_md_word_45 : decode b_md_word 45 = .ok (.ifCond .eq 7, 3) := by decide +kernel
theorem d_md_word_48 : decode b_md_word 48 = .ok (.iconst 1, 1) := by decide +kernel
theorem d_md_word_49 : decode b_md_word 49 = .ok (.goto 4, 3) := by decide +kernel
theorem d_md_word_52 : decode b_md_word 52 = .ok (.iconst 0, 1) := by decide +kernel
theorem d_md_word_53 : decode b_md_word 53 = .ok (.istore_n 1, 1) := by decide +kernel
theorem d_md_word_54 : decode b_md_word 54 = .ok (.iinc 2 1, 3) := by decide +kernel
theorem d_md_word_57 : decode b_md_word 57 = .ok (.goto (-33), 3) := by decide +kernel
theorem d_md_word_60 : decode b_md_word 60 = .ok (.iload_n 1, 1) := by decide +kernel
theorem d_md_word_61 : decode b_md_word 61 = .ok (.ifCond .ne 10, 3) := by decide +kernel
theorem d_md_word_64 : decode b_md_word 64 = .ok (.aload_n 0, 1) := by decide +kernel
theorem d_md_word_65 : decode b_md_word 65 = .ok (.iconst 1, 1) := by decide +kernel
theorem d_md_word_66 : decode b_md_word 66 = .ok (.invokevirtual 69, 3) := by decide +kernel
theorem d_md_word_69 : decode b_md_word 69 = .ok (.i2l, 1) := by decide +kernel
theorem d_md_word_70 : decode b_md_word 70 = .ok (.lreturn, 1) := by decide +kernel
theorem d_md_word_71 : decode b_md_word 71 = .ok (.aload_n 0, 1) := by decide +kernel
theorem d_md_word_72 : decode b_md_word 72 = .ok (.aload_n 0, 1) := by decide +kernel
theorem d_md_word_73 : decode b_md_word 73 = .ok (.getfield 50, 3) := by decide +kernel
theorem d_md_word_76 : decode b_md_word 76 = .ok (.putfield 87, 3) := by decide +kernel
theorem d_md_word_79 : decode b_md_word 79 = .ok (.aload_n 0, 1) := by decide +kernel
theorem d_md_word_80 : decode b_md_word 80 = .ok (.iconst 1, 1) := by decide +kernel
theorem d_md_word_81 : decode b_md_word 81 = .ok (.putfield 90, 3) := by decide +kernel
theorem d_md_word_84 : decode b_md_word 84 = .ok (.iconst 0, 1) := by decide +kernel
theorem d_md_word_85 : decode b_md_word 85 = .ok (.istore_n 2, 1) := by decide +kernel
theorem d_md_word_86 : decode b_md_word 86 = .ok (.iload_n 2, 1) := by decide +kernel
theorem d_md_word_87 : decode b_md_word 87 = .ok (.aload_n 0, 1) := by decide +kernel
theorem d_md_word_88 : decode b_md_word 88 = .ok (.getfield 87, 3) := by decide +kernel
theorem d_md_word_91 : decode b_md_word 91 = .ok (.if_icmp .ge 45, 3) := by decide +kernel
theorem d_md_word_94 : decode b_md_word 94 = .ok (.aload_n 0, 1) := by decide +kernel
theorem d_md_word_95 : decode b_md_word 95 = .ok (.getfield 41, 3) := by decide +kernel
theorem d_md_word_98 : decode b_md_word 98 = .ok (.iload_n 2, 1) := by decide +kernel
theorem d_md_word_99 : decode b_md_word 99 = .ok (.iconst 1, 1) := by decide +kernel
theorem d_md_word_100 : decode b_md_word 100 = .ok (.iadd, 1) := by decide +kernel
theorem d_md_word_101 : decode b_md_word 101 = .ok (.aload_n 0, 1) := by decide +kernel
theorem d_md_word_102 : decode b_md_word 102 = .ok (.getfield 7, 3) := by decide +kernel
theorem d_md_word_105 : decode b_md_word 105 = .ok (.iload_n 2, 1) := by decide +kernel
theorem d_md_word_106 : decode b_md_word 106 = .ok (.iaload, 1) := by decide +kernel
theorem d_md_word_107 : decode b_md_word 107 = .ok (.iastore, 1) := by decide +kernel
theorem d_md_word_108 : decode b_md_word 108 = .ok (.aload_n 0, 1) := by decide +kernel
theorem d_md_word_109 : decode b_md_word 109 = .ok (.getfield 27, 3) := by decide +kernel
theorem d_md_word_112 : decode b_md_word 112 = .ok (.aload_n 0, 1) := by decide +kernel
theorem d_md_word_113 : decode b_md_word 113 = .ok (.getfield 24, 3) := by decide +kernel
theorem d_md_word_116 : decode b_md_word 116 = .ok (.aload_n 0, 1) := by decide +kernel
theorem d_md_word_117 : decode b_md_word 117 = .ok (.getfield 81, 3) := by decide +kernel
theorem d_md_word_120 : decode b_md_word 120 = .ok (.iaload, 1) := by decide +kernel
theorem d_md_word_121 : decode b_md_word 121 = .ok (.iload_n 2, 1) := by decide +kernel
theorem d_md_word_122 : decode b_md_word 122 = .ok (.iadd, 1) := by decide +kernel
theorem d_md_word_123 : decode b_md_word 123 = .ok (.aload_n 0, 1) := by decide +kernel
theorem d_md_word_124 : decode b_md_word 124 = .ok (.getfield 7, 3) := by decide +kernel
theorem d_md_word_127 : decode b_md_word 127 = .ok (.iload_n 2, 1) := by decide +kernel
theorem d_md_word_128 : decode b_md_word 128 = .ok (.iaload, 1) := by decide +kernel
theorem d_md_word_129 : decode b_md_word 129 = .ok (.iastore, 1) := by decide +kernel
theorem d_md_word_130 : decode b_md_word 130 = .ok (.iinc 2 1, 3) := by decide +kernel
theorem d_md_word_133 : decode b_md_word 133 = .ok (.goto (-47), 3) := by decide +kernel
theorem d_md_word_136 : decode b_md_word 136 = .ok (.aload_n 0, 1) := by decide +kernel
theorem d_md_word_137 : decode b_md_word 137 = .ok (.getfield 41, 3) := by decide +kernel
theorem d_md_word_140 : decode b_md_word 140 = .ok (.iconst 0, 1) := by decide +kernel
theorem d_md_word_141 : decode b_md_word 141 = .ok (.bipush 46, 2) := by decide +kernel
theorem d_md_word_143 : decode b_md_word 143 = .ok (.iastore, 1) := by decide +kernel
theorem d_md_word_144 : decode b_md_word 144 = .ok (.aload_n 0, 1) := by decide +kernel
theorem d_md_word_145 : decode b_md_word 145 = .ok (.getfield 41, 3) := by decide +kernel
theorem d_md_word_148 : decode b_md_word 148 = .ok (.aload_n 0, 1) := by decide +kernel
theorem d_md_word_149 : decode b_md_word 149 = .ok (.getfield 87, 3) := by decide +kernel
theorem d_md_word_152 : decode b_md_word 152 = .ok (.iconst 1, 1) := by decide +kernel
theorem d_md_word_153 : decode b_md_word 153 = .ok (.iadd, 1) := by decide +kernel
theorem d_md_word_154 : decode b_md_word 154 = .ok (.bipush 46, 2) := by decide +kernel
theorem d_md_word_156 : decode b_md_word 156 = .ok (.iastore, 1) := by decide +kernel
theorem d_md_word_157 : decode b_md_word 157 = .ok (.iconst 0, 1) := by decide +kernel
theorem d_md_word_158 : decode b_md_word 158 = .ok (.istore_n 2, 1) := by decide +kernel
theorem d_md_word_159 : decode b_md_word 159 = .ok (.iload_n 2, 1) := by decide +kernel
theorem d_md_word_160 : decode b_md_word 160 = .ok (.bipush 66, 2) := by decide +kernel
theorem d_md_word_162 : decode b_md_word 162 = .ok (.if_icmp .ge 16, 3) := by decide +kernel
theorem d_md_word_165 : decode b_md_word 165 = .ok (.aload_n 0, 1) := by decide +kernel
theorem d_md_word_166 : decode b_md_word 166 = .ok (.getfield 44, 3) := by decide +kernel
theorem d_md_word_169 : decode b_md_word 169 = .ok (.iload_n 2, 1) := by decide +kernel
theorem d_md_word_170 : decode b_md_word 170 = .ok (.iconst 0, 1) := by decide +kernel
theorem d_md_word_171 : decode b_md_word 171 = .ok (.iastore, 1) := by decide +kernel
theorem d_md_word_172 : decode b_md_word 172 = .ok (.iinc 2 1, 3) := by decide +kernel
theorem d_md_word_175 : decode b_md_word 175 = .ok (.goto (-16), 3) := by decide +kernel
theorem d_md_word_178 : decode b_md_word 178 = .ok (.iconst 0, 1) := by decide +kernel
theorem d_md_word_179 : decode b_md_word 179 = .ok (.istore_n 2, 1) := by decide +kernel
theorem d_md_word_180 : decode b_md_word 180 = .ok (.iload_n 2, 1) := by decide +kernel
theorem d_md_word_181 : decode b_md_word 181 = .ok (.aload_n 0, 1) := by decide +kernel
theorem d_md_word_182 : decode b_md_word 182 = .ok (.getfield 55, 3) := by decide +kernel
theorem d_md_word_185 : decode b_md_word 185 = .ok (.if_icmp .ge 49, 3) := by decide +kernel
theorem d_md_word_188 : decode b_md_word 188 = .ok (.iconst 0, 1) := by decide +kernel
theorem d_md_word_189 : decode b_md_word 189 = .ok (.istore_n 3, 1) := by decide +kernel
theorem d_md_word_190 : decode b_md_word 190 = .ok (.iload_n 3, 1) := by decide +kernel
theorem d_md_word_191 : decode b_md_word 191 = .ok (.aload_n 0, 1) := by decide +kernel
theorem d_md_word_192 : decode b_md_word 192 = .ok (.getfield 13, 3) := by decide +kernel
theorem d_md_word_195 : decode b_md_word 195 = .ok (.iload_n 2, 1) := by decide +kernel
theorem d_md_word_196 : decode b_md_word 196 = .ok (.iconst 1, 1) := by decide +kernel
theorem d_md_word_197 : decode b_md_word 197 = .ok (.iadd, 1) := by decide +kernel
theorem d_md_word_198 : decode b_md_word 198 = .ok (.iaload, 1) := by decide +kernel
theorem d_md_word_199 : decode b_md_word 199 = .ok (.iadd, 1) := by decide +kernel
theorem d_md_word_200 : decode b_md_word 200 = .ok (.aload_n 0, 1) := by decide +kernel
theorem d_md_word_201 : decode b_md_word 201 = .ok (.getfield 13, 3) := by decide +kernel
theorem d_md_word_204 : decode b_md_word 204 = .ok (.iload_n 2, 1) := by decide +kernel
theorem d_md_word_205 : decode b_md_word 205 = .ok (.iaload, 1) := by decide +kernel
theorem d_md_word_206 : decode b_md_word 206 = .ok (.isub, 1) := by decide +kernel
theorem d_md_word_207 : decode b_md_word 207 = .ok (.aload_n 0, 1) := by decide +kernel
theorem d_md_word_208 : decode b_md_word 208 = .ok (.getfield 87, 3) := by decide +kernel
theorem d_md_word_211 : decode b_md_word 211 = .ok (.iconst 2, 1) := by decide +kernel
theorem d_md_word_212 : decode b_md_word 212 = .ok (.iadd, 1) := by decide +kernel
theorem d_md_word_213 : decode b_md_word 213 = .ok (.if_icmp .gt 15, 3) := by decide +kernel
theorem d_md_word_216 : decode b_md_word 216 = .ok (.aload_n 0, 1) := by decide +kernel
theorem d_md_word_217 : decode b_md_word 217 = .ok (.iload_n 2, 1) := by decide +kernel
theorem d_md_word_218 : decode b_md_word 218 = .ok (.iload_n 3, 1) := by decide +kernel
theorem d_md_word_219 : decode b_md_word 219 = .ok (.invokevirtual 94, 3) := by decide +kernel
theorem d_md_word_222 : decode b_md_word 222 = .ok (.iinc 3 1, 3) := by decide +kernel
theorem d_md_word_225 : decode b_md_word 225 = .ok (.goto (-35), 3) := by decide +kernel
theorem d_md_word_228 : decode b_md_word 228 = .ok (.iinc 2 1, 3) := by decide +kernel
theorem d_md_word_231 : decode b_md_word 231 = .ok (.goto (-51), 3) := by decide +kernel
theorem d_md_word_234 : decode b_md_word 234 = .ok (.aload_n 0, 1) := by decide +kernel
theorem d_md_word_235 : decode b_md_word 235 = .ok (.aload_n 0, 1) := by decide +kernel
theorem d_md_word_236 : decode b_md_word 236 = .ok (.getfield 87, 3) := by decide +kernel
theorem d_md_word_239 : decode b_md_word 239 = .ok (.invokevirtual 84, 3) := by decide +kernel
theorem d_md_word_242 : decode b_md_word 242 = .ok (.istore_n 2, 1) := by decide +kernel
theorem d_md_word_243 : decode b_md_word 243 = .ok (.lconst 0, 1) := by decide +kernel
theorem d_md_word_244 : decode b_md_word 244 = .ok (.lstore_n 3, 1) := by decide +kernel
theorem d_md_word_245 : decode b_md_word 245 = .ok (.iconst 1, 1) := by decide +kernel
theorem d_md_word_246 : decode b_md_word 246 = .ok (.istore 5, 2) := by decide +kernel
theorem d_md_word_248 : decode b_md_word 248 = .ok (.iload 5, 2) := by decide +kernel
theorem d_md_word_250 : decode b_md_word 250 = .ok (.aload_n 0, 1) := by decide +kernel
theorem d_md_word_251 : decode b_md_word 251 = .ok (.getfield 87, 3) := by decide +kernel
theorem d_md_word_254 : decode b_md_word 254 = .ok (.if_icmp .ge 102, 3) := by decide +kernel
theorem d_md_word_257 : decode b_md_word 257 = .ok (.iload_n 2, 1) := by decide +kernel
theorem d_md_word_258 : decode b_md_word 258 = .ok (.aload_n 0, 1) := by decide +kernel
theorem d_md_word_259 : decode b_md_word 259 = .ok (.getfield 81, 3) := by decide +kernel
theorem d_md_word_262 : decode b_md_word 262 = .ok (.if_icmp .ge 27, 3) := by decide +kernel
theorem d_md_word_265 : decode b_md_word 265 = .ok (.aload_n 0, 1) := by decide +kernel
theorem d_md_word_266 : decode b_md_word 266 = .ok (.getfield 30, 3) := by decide +kernel
theorem d_md_word_269 : decode b_md_word 269 = .ok (.iload_n 2, 1) := by decide +kernel
theorem d_md_word_270 : decode b_md_word 270 = .ok (.laload, 1) := by decide +kernel
theorem d_md_word_271 : decode b_md_word 271 = .ok (.iload 5, 2) := by decide +kernel
theorem d_md_word_273 : decode b_md_word 273 = .ok (.lshr, 1) := by decide +kernel
theorem d_md_word_274 : decode b_md_word 274 = .ok (.lconst 1, 1) := by decide +kernel
theorem d_md_word_275 : decode b_md_word 275 = .ok (.land, 1) := by decide +kernel
theorem d_md_word_276 : decode b_md_word 276 = .ok (.lconst 1, 1) := by decide +kernel
theorem d_md_word_277 : decode b_md_word 277 = .ok (.lcmp, 1) := by decide +kernel
theorem d_md_word_278 : decode b_md_word 278 = .ok (.ifCond .ne 7, 3) := by decide +kernel
theorem d_md_word_281 : decode b_md_word 281 = .ok (.iconst 1, 1) := by decide +kernel
theorem d_md_word_282 : decode b_md_word 282 = .ok (.goto 27, 3) := by decide +kernel
theorem d_md_word_285 : decode b_md_word 285 = .ok (.iconst 0, 1) := by decide +kernel
theorem d_md_word_286 : decode b_md_word 286 = .ok (.goto 23, 3) := by decide +kernel
theorem d_md_word_289 : decode b_md_word 289 = .ok (.aload_n 0, 1) := by decide +kernel
theorem d_md_word_290 : decode b_md_word 290 = .ok (.getfield 44, 3) := by decide +kernel
theorem d_md_word_293 : decode b_md_word 293 = .ok (.iload 5, 2) := by decide +kernel
theorem d_md_word_295 : decode b_md_word 295 = .ok (.iconst 1, 1) := by decide +kernel
theorem d_md_word_296 : decode b_md_word 296 = .ok (.iadd, 1) := by decide +kernel
theorem d_md_word_297 : decode b_md_word 297 = .ok (.iaload, 1) := by decide +kernel
theorem d_md_word_298 : decode b_md_word 298 = .ok (.iconst 2, 1) := by decide +kernel
theorem d_md_word_299 : decode b_md_word 299 = .ok (.irem, 1) := by decide +kernel
theorem d_md_word_300 : decode b_md_word 300 = .ok (.iconst 1, 1) := by decide +kernel
theorem d_md_word_301 : decode b_md_word 301 = .ok (.if_icmp .ne 7, 3) := by decide +kernel
theorem d_md_word_304 : decode b_md_word 304 = .ok (.iconst 1, 1) := by decide +kernel
theorem d_md_word_305 : decode b_md_word 305 = .ok (.goto 4, 3) := by decide +kernel
theorem d_md_word_308 : decode b_md_word 308 = .ok (.iconst 0, 1) := by decide +kernel
theorem d_md_word_309 : decode b_md_word 309 = .ok (.istore 6, 2) := by decide +kernel
theorem d_md_word_311 : decode b_md_word 311 = .ok (.iload 6, 2) := by decide +kernel
theorem d_md_word_313 : decode b_md_word 313 = .ok (.ifCond .eq 35, 3) := by decide +kernel
theorem d_md_word_316 : decode b_md_word 316 = .ok (.iload 5, 2) := by decide +kernel
theorem d_md_word_318 : decode b_md_word 318 = .ok (.aload_n 0, 1) := by decide +kernel
theorem d_md_word_319 : decode b_md_word 319 = .ok (.getfield 34, 3) := by decide +kernel
theorem d_md_word_322 : decode b_md_word 322 = .ok (.if_icmp .lt 26, 3) := by decide +kernel
theorem d_md_word_325 : decode b_md_word 325 = .ok (.aload_n 0, 1) := by decide +kernel
theorem d_md_word_326 : decode b_md_word 326 = .ok (.getfield 87, 3) := by decide +kernel
theorem d_md_word_329 : decode b_md_word 329 = .ok (.iload 5, 2) := by decide +kernel
theorem d_md_word_331 : decode b_md_word 331 = .ok (.isub, 1) := by decide +kernel
theorem d_md_word_332 : decode b_md_word 332 = .ok (.aload_n 0, 1) := by decide +kernel
theorem d_md_word_333 : decode b_md_word 333 = .ok (.getfield 38, 3) := by decide +kernel
theorem d_md_word_336 : decode b_md_word 336 = .ok (.if_icmp .lt 12, 3) := by decide +kernel
theorem d_md_word_339 : decode b_md_word 339 = .ok (.lload_n 3, 1) := by decide +kernel
theorem d_md_word_340 : decode b_md_word 340 = .ok (.lconst 1, 1) := by decide +kernel
theorem d_md_word_341 : decode b_md_word 341 = .ok (.iload 5, 2) := by decide +kernel
theorem d_md_word_343 : decode b_md_word 343 = .ok (.lshl, 1) := by decide +kernel
theorem d_md_word_344 : decode b_md_word 344 = .ok (.lor, 1) := by decide +kernel
theorem d_md_word_345 : decode b_md_word 345 = .ok (.goto 4, 3) := by decide +kernel
theorem d_md_word_348 : decode b_md_word 348 = .ok (.lload_n 3, 1) := by decide +kernel
theorem d_md_word_349 : decode b_md_word 349 = .ok (.lstore_n 3, 1) := by decide +kernel
theorem d_md_word_350 : decode b_md_word 350 = .ok (.iinc 5 1, 3) := by decide +kernel
theorem d_md_word_353 : decode b_md_word 353 = .ok (.goto (-105), 3) := by decide +kernel
theorem d_md_word_356 : decode b_md_word 356 = .ok (.aload_n 0, 1) := by decide +kernel
theorem d_md_word_357 : decode b_md_word 357 = .ok (.iconst 0, 1) := by decide +kernel
theorem d_md_word_358 : decode b_md_word 358 = .ok (.invokevirtual 69, 3) := by decide +kernel
theorem d_md_word_361 : decode b_md_word 361 = .ok (.pop, 1) := by decide +kernel
theorem d_md_word_362 : decode b_md_word 362 = .ok (.lload_n 3, 1) := by decide +kernel
theorem d_md_word_363 : decode b_md_word 363 = .ok (.lreturn, 1) := by decide +kernel
theorem d_md_attempt_0 : decode b_md_attempt 0 = .ok (.aload_n 0, 1) := by decide +kernel
theorem d_md_attempt_1 : decode b_md_attempt 1 = .ok (.getfield 13, 3) := by decide +kernel
theorem d_md_attempt_4 : decode b_md_attempt 4 = .ok (.iload_n 1, 1) := by decide +kernel
theorem d_md_attempt_5 : decode b_md_attempt 5 = .ok (.iconst 1, 1) := by decide +kernel
theorem d_md_attempt_6 : decode b_md_attempt 6 = .ok (.iadd, 1) := by decide +kernel
theorem d_md_attempt_7 : decode b_md_attempt 7 = .ok (.iaload, 1) := by decide +kernel
theorem d_md_attempt_8 : decode b_md_attempt 8 = .ok (.aload_n 0, 1) := by decide +kernel
theorem d_md_attempt_9 : decode b_md_attempt 9 = .ok (.getfield 13, 3) := by decide +kernel
theorem d_md_attempt_12 : decode b_md_attempt 12 = .ok (.iload_n 1, 1) := by decide +kernel
theorem d_md_attempt_13 : decode b_md_attempt 13 = .ok (.iaload, 1) := by decide +kernel
theorem d_md_attempt_14 : decode b_md_attempt 14 = .ok (.isub, 1) := by decide +kernel
theorem d_md_attempt_15 : decode b_md_attempt 15 = .ok (.istore_n 3, 1) := by decide +kernel
theorem d_md_attempt_16 : decode b_md_attempt 16 = .ok (.iconst 0, 1) := by decide +kernel
theorem d_md_attempt_17 : decode b_md_attempt 17 = .ok (.istore 4, 2) := by decide +kernel
theorem d_md_attempt_19 : decode b_md_attempt 19 = .ok (.iload 4, 2) := by decide +kernel
theorem d_md_attempt_21 : decode b_md_attempt 21 = .ok (.iload_n 3, 1) := by decide +kernel
theorem d_md_attempt_22 : decode b_md_attempt 22 = .ok (.if_icmp .ge 36, 3) := by decide +kernel
theorem d_md_attempt_25 : decode b_md_attempt 25 = .ok (.aload_n 0, 1) := by decide +kernel
theorem d_md_attempt_26 : decode b_md_attempt 26 = .ok (.getfield 17, 3) := by decide +kernel
theorem d_md_attempt_29 : decode b_md_attempt 29 = .ok (.aload_n 0, 1) := by decide +kernel
theorem d_md_attempt_30 : decode b_md_attempt 30 = .ok (.getfield 13, 3) := by decide +kernel
theorem d_md_attempt_33 : decode b_md_attempt 33 = .ok (.iload_n 1, 1) := by decide +kernel
theorem d_md_attempt_34 : decode b_md_attempt 34 = .ok (.iaload, 1) := by decide +kernel
theorem d_md_attempt_35 : decode b_md_attempt 35 = .ok (.iload 4, 2) := by decide +kernel
theorem d_md_attempt_37 : decode b_md_attempt 37 = .ok (.iadd, 1) := by decide +kernel
theorem d_md_attempt_38 : decode b_md_attempt 38 = .ok (.iaload, 1) := by decide +kernel
theorem d_md_attempt_39 : decode b_md_attempt 39 = .ok (.aload_n 0, 1) := by decide +kernel
theorem d_md_attempt_40 : decode b_md_attempt 40 = .ok (.getfield 41, 3) := by decide +kernel
theorem d_md_attempt_43 : decode b_md_attempt 43 = .ok (.iload_n 2, 1) := by decide +kernel
theorem d_md_attempt_44 : decode b_md_attempt 44 = .ok (.iload 4, 2) := by decide +kernel
theorem d_md_attempt_46 : decode b_md_attempt 46 = .ok (.iadd, 1) := by decide +kernel
theorem d_md_attempt_47 : decode b_md_attempt 47 = .ok (.iaload, 1) := by decide +kernel
theorem d_md_attempt_48 : decode b_md_attempt 48 = .ok (.if_icmp .eq 4, 3) := by decide +kernel
theorem d_md_attempt_51 : decode b_md_attempt 51 = .ok (.return_, 1) := by decide +kernel
theorem d_md_attempt_52 : decode b_md_attempt 52 = .ok (.iinc 4 1, 3) := by decide +kernel
theorem d_md_attempt_55 : decode b_md_attempt 55 = .ok (.goto (-36), 3) := by decide +kernel
theorem d_md_attempt_58 : decode b_md_attempt 58 = .ok (.iconst 0, 1) := by decide +kernel
theorem d_md_attempt_59 : decode b_md_attempt 59 = .ok (.istore 4, 2) := by decide +kernel
theorem d_md_attempt_61 : decode b_md_attempt 61 = .ok (.iload 4, 2) := by decide +kernel
theorem d_md_attempt_63 : decode b_md_attempt 63 = .ok (.iload_n 3, 1) := by decide +kernel
theorem d_md_attempt_64 : decode b_md_attempt 64 = .ok (.if_icmp .gt 64, 3) := by decide +kernel
theorem d_md_attempt_67 : decode b_md_attempt 67 = .ok (.aload_n 0, 1) := by decide +kernel
theorem d_md_attempt_68 : decode b_md_attempt 68 = .ok (.getfield 21, 3) := by decide +kernel
theorem d_md_attempt_71 : decode b_md_attempt 71 = .ok (.aload_n 0, 1) := by decide +kernel
theorem d_md_attempt_72 : decode b_md_attempt 72 = .ok (.getfield 13, 3) := by decide +kernel
theorem d_md_attempt_75 : decode b_md_attempt 75 = .ok (.iload_n 1, 1) := by decide +kernel
theorem d_md_attempt_76 : decode b_md_attempt 76 = .ok (.iaload, 1) := by decide +kernel
theorem d_md_attempt_77 : decode b_md_attempt 77 = .ok (.iload_n 1, 1) := by decide +kernel
theorem d_md_attempt_78 : decode b_md_attempt 78 = .ok (.iadd, 1) := by decide +kernel
theorem d_md_attempt_79 : decode b_md_attempt 79 = .ok (.iload 4, 2) := by decide +kernel
theorem d_md_attempt_81 : decode b_md_attempt 81 = .ok (.iadd, 1) := by decide +kernel
theorem d_md_attempt_82 : decode b_md_attempt 82 = .ok (.iaload, 1) := by decide +kernel
theorem d_md_attempt_83 : decode b_md_attempt 83 = .ok (.istore 5, 2) := by decide +kernel
theorem d_md_attempt_85 : decode b_md_attempt 85 = .ok (.aload_n 0, 1) := by decide +kernel
theorem d_md_attempt_86 : decode b_md_attempt 86 = .ok (.getfield 44, 3) := by decide +kernel
theorem d_md_attempt_89 : decode b_md_attempt 89 = .ok (.iload_n 2, 1) := by decide +kernel
theorem d_md_attempt_90 : decode b_md_attempt 90 = .ok (.iload 4, 2) := by decide +kernel
theorem d_md_attempt_92 : decode b_md_attempt 92 = .ok (.iadd, 1) := by decide +kernel
theorem d_md_attempt_93 : decode b_md_attempt 93 = .ok (.iload 5, 2) := by decide +kernel
theorem d_md_attempt_95 : decode b_md_attempt 95 = .ok (.aload_n 0, 1) := by decide +kernel
theorem d_md_attempt_96 : decode b_md_attempt 96 = .ok (.getfield 44, 3) := by decide +kernel
theorem d_md_attempt_99 : decode b_md_attempt 99 = .ok (.iload_n 2, 1) := by decide +kernel
theorem d_md_attempt_100 : decode b_md_attempt 100 = .ok (.iload 4, 2) := by decide +kernel
theorem d_md_attempt_102 : decode b_md_attempt 102 = .ok (.iadd, 1) := by decide +kernel
theorem d_md_attempt_103 : decode b_md_attempt 103 = .ok (.iaload, 1) := by decide +kernel
theorem d_md_attempt_104 : decode b_md_attempt 104 = .ok (.if_icmp .le 8, 3) := by decide +kernel
theorem d_md_attempt_107 : decode b_md_attempt 107 = .ok (.iload 5, 2) := by decide +kernel
theorem d_md_attempt_109 : decode b_md_attempt 109 = .ok (.goto 12, 3) := by decide +kernel
theorem d_md_attempt_112 : decode b_md_attempt 112 = .ok (.aload_n 0, 1) := by decide +kernel
theorem d_md_attempt_113 : decode b_md_attempt 113 = .ok (.getfield 44, 3) := by decide +kernel
theorem d_md_attempt_116 : decode b_md_attempt 116 = .ok (.iload_n 2, 1) := by decide +kernel
theorem d_md_attempt_117 : decode b_md_attempt 117 = .ok (.iload 4, 2) := by decide +kernel
theorem d_md_attempt_119 : decode b_md_attempt 119 = .ok (.iadd, 1) := by decide +kernel
theorem d_md_attempt_120 : decode b_md_attempt 120 = .ok (.iaload, 1) := by decide +kernel
theorem d_md_attempt_121 : decode b_md_attempt 121 = .ok (.iastore, 1) := by decide +kernel
theorem d_md_attempt_122 : decode b_md_attempt 122 = .ok (.iinc 4 1, 3) := by decide +kernel
theorem d_md_attempt_125 : decode b_md_attempt 125 = .ok (.goto (-64), 3) := by decide +kernel
theorem d_md_attempt_128 : decode b_md_attempt 128 = .ok (.return_, 1) := by decide +kernel
theorem d_md_least_0 : decode b_md_least 0 = .ok (.aload_n 0, 1) := by decide +kernel
theorem d_md_least_1 : decode b_md_least 1 = .ok (.iconst 0, 1) := by decide +kernel
theorem d_md_least_2 : decode b_md_least 2 = .ok (.putfield 47, 3) := by decide +kernel
theorem d_md_least_5 : decode b_md_least 5 = .ok (.iload_n 1, 1) := by decide +kernel
theorem d_md_least_6 : decode b_md_least 6 = .ok (.iconst 1, 1) := by decide +kernel
theorem d_md_least_7 : decode b_md_least 7 = .ok (.if_icmp .lt 20, 3) := by decide +kernel
theorem d_md_least_10 : decode b_md_least 10 = .ok (.iload_n 1, 1) := by decide +kernel
theorem d_md_least_11 : decode b_md_least 11 = .ok (.bipush 63, 2) := by decide +kernel
theorem d_md_least_13 : decode b_md_least 13 = .ok (.if_icmp .gt 14, 3) := by decide +kernel
theorem d_md_least_16 : decode b_md_least 16 = .ok (.iload_n 2, 1) := by decide +kernel
theorem d_md_least_17 : decode b_md_least 17 = .ok (.iconst 1, 1) := by decide +kernel
theorem d_md_least_18 : decode b_md_least 18 = .ok (.if_icmp .lt 9, 3) := by decide +kernel
theorem d_md_least_21 : decode b_md_least 21 = .ok (.iload_n 2, 1) := by decide +kernel
theorem d_md_least_22 : decode b_md_least 22 = .ok (.bipush 63, 2) := by decide +kernel
theorem d_md_least_24 : decode b_md_least 24 = .ok (.if_icmp .le 5, 3) := by decide +kernel
theorem d_md_least_27 : decode b_md_least 27 = .ok (.iconst 0, 1) := by decide +kernel
theorem d_md_least_28 : decode b_md_least 28 = .ok (.ireturn, 1) := by decide +kernel
theorem d_md_least_29 : decode b_md_least 29 = .ok (.aload_n 0, 1) := by decide +kernel
theorem d_md_least_30 : decode b_md_least 30 = .ok (.iload_n 1, 1) := by decide +kernel
theorem d_md_least_31 : decode b_md_least 31 = .ok (.putfield 34, 3) := by decide +kernel
theorem d_md_least_34 : decode b_md_least 34 = .ok (.aload_n 0, 1) := by decide +kernel
theorem d_md_least_35 : decode b_md_least 35 = .ok (.iload_n 2, 1) := by decide +kernel
theorem d_md_least_36 : decode b_md_least 36 = .ok (.putfield 38, 3) := by decide +kernel
theorem d_md_least_39 : decode b_md_least 39 = .ok (.iconst 1, 1) := by decide +kernel
theorem d_md_least_40 : decode b_md_least 40 = .ok (.ireturn, 1) := by decide +kernel
theorem d_md_value_0 : decode b_md_value 0 = .ok (.aload_n 0, 1) := by decide +kernel
theorem d_md_value_1 : decode b_md_value 1 = .ok (.iconst 0, 1) := by decide +kernel
theorem d_md_value_2 : decode b_md_value 2 = .ok (.putfield 47, 3) := by decide +kernel
theorem d_md_value_5 : decode b_md_value 5 = .ok (.aload_n 0, 1) := by decide +kernel
theorem d_md_value_6 : decode b_md_value 6 = .ok (.getfield 90, 3) := by decide +kernel
theorem d_md_value_9 : decode b_md_value 9 = .ok (.ifCond .eq 16, 3) := by decide +kernel
theorem d_md_value_12 : decode b_md_value 12 = .ok (.iload_n 1, 1) := by decide +kernel
theorem d_md_value_13 : decode b_md_value 13 = .ok (.iconst 1, 1) := by decide +kernel
theorem d_md_value_14 : decode b_md_value 14 = .ok (.if_icmp .lt 11, 3) := by decide +kernel
theorem d_md_value_17 : decode b_md_value 17 = .ok (.iload_n 1, 1) := by decide +kernel
theorem d_md_value_18 : decode b_md_value 18 = .ok (.aload_n 0, 1) := by decide +kernel
theorem d_md_value_19 : decode b_md_value 19 = .ok (.getfield 87, 3) := by decide +kernel
theorem d_md_value_22 : decode b_md_value 22 = .ok (.if_icmp .lt 7, 3) := by decide +kernel
theorem d_md_value_25 : decode b_md_value 25 = .ok (.iconst (-1), 1) := by decide +kernel
theorem d_md_value_26 : decode b_md_value 26 = .ok (.goto 11, 3) := by decide +kernel
theorem d_md_value_29 : decode b_md_value 29 = .ok (.aload_n 0, 1) := by decide +kernel
theorem d_md_value_30 : decode b_md_value 30 = .ok (.getfield 44, 3) := by decide +kernel
theorem d_md_value_33 : decode b_md_value 33 = .ok (.iload_n 1, 1) := by decide +kernel
theorem d_md_value_34 : decode b_md_value 34 = .ok (.iconst 1, 1) := by decide +kernel
theorem d_md_value_35 : decode b_md_value 35 = .ok (.iadd, 1) := by decide +kernel
theorem d_md_value_36 : decode b_md_value 36 = .ok (.iaload, 1) := by decide +kernel
theorem d_md_value_37 : decode b_md_value 37 = .ok (.ireturn, 1) := by decide +kernel
theorem d_md_count_0 : decode b_md_count 0 = .ok (.aload_n 0, 1) := by decide +kernel
theorem d_md_count_1 : decode b_md_count 1 = .ok (.iconst 0, 1) := by decide +kernel
theorem d_md_count_2 : decode b_md_count 2 = .ok (.putfield 47, 3) := by decide +kernel
theorem d_md_count_5 : decode b_md_count 5 = .ok (.iload_n 1, 1) := by decide +kernel
theorem d_md_count_6 : decode b_md_count 6 = .ok (.ifCond .ne 10, 3) := by decide +kernel
theorem d_md_count_9 : decode b_md_count 9 = .ok (.aload_n 0, 1) := by decide +kernel
theorem d_md_count_10 : decode b_md_count 10 = .ok (.getfield 55, 3) := by decide +kernel
theorem d_md_count_13 : decode b_md_count 13 = .ok (.goto 40, 3) := by decide +kernel
theorem d_md_count_16 : decode b_md_count 16 = .ok (.iload_n 1, 1) := by decide +kernel
theorem d_md_count_17 : decode b_md_count 17 = .ok (.iconst 1, 1) := by decide +kernel
theorem d_md_count_18 : decode b_md_count 18 = .ok (.if_icmp .ne 10, 3) := by decide +kernel
theorem d_md_count_21 : decode b_md_count 21 = .ok (.aload_n 0, 1) := by decide +kernel
theorem d_md_count_22 : decode b_md_count 22 = .ok (.getfield 81, 3) := by decide +kernel
theorem d_md_count_25 : decode b_md_count 25 = .ok (.goto 28, 3) := by decide +kernel
theorem d_md_count_28 : decode b_md_count 28 = .ok (.iload_n 1, 1) := by decide +kernel
theorem d_md_count_29 : decode b_md_count 29 = .ok (.iconst 2, 1) := by decide +kernel
theorem d_md_count_30 : decode b_md_count 30 = .ok (.if_icmp .ne 10, 3) := by decide +kernel
theorem d_md_count_33 : decode b_md_count 33 = .ok (.aload_n 0, 1) := by decide +kernel
theorem d_md_count_34 : decode b_md_count 34 = .ok (.getfield 77, 3) := by decide +kernel
theorem d_md_count_37 : decode b_md_count 37 = .ok (.goto 16, 3) := by decide +kernel
theorem d_md_count_40 : decode b_md_count 40 = .ok (.iload_n 1, 1) := by decide +kernel
theorem d_md_count_41 : decode b_md_count 41 = .ok (.iconst 3, 1) := by decide +kernel
theorem d_md_count_42 : decode b_md_count 42 = .ok (.if_icmp .ne 10, 3) := by decide +kernel
theorem d_md_count_45 : decode b_md_count 45 = .ok (.aload_n 0, 1) := by decide +kernel
theorem d_md_count_46 : decode b_md_count 46 = .ok (.getfield 50, 3) := by decide +kernel
theorem d_md_count_49 : decode b_md_count 49 = .ok (.goto 4, 3) := by decide +kernel
theorem d_md_count_52 : decode b_md_count 52 = .ok (.iconst (-1), 1) := by decide +kernel
theorem d_md_count_53 : decode b_md_count 53 = .ok (.ireturn, 1) := by decide +kernel
end
section
/-! THE HEAP AS A MAP. M a = some e: the cell at a holds e. One map for all cells of the system; a method's world is that map. -/
abbrev hM : Type := Nat → Option va_E
def hm_P (D : va_G) (cl : List vw_C) (M : hM) (H : Heap) : Prop := ∀ (a : Nat) (e : va_E), M a = some e → va_at D cl (a, e) H
def hm_A (M : hM) (sz : Nat) : Nat → Prop := fun q => (∃ e, M q = some e) ∨ sz ≤ q
/-- the world of a walk: the map, what may be written, what was there before -/
def hm_I (D : va_G) (cl : List vw_C) (A : Nat → Prop) (H0 : Heap) (M : hM) (H : Heap) (locs : List Loc) : Prop :=
  hm_P D cl M H ∧ (∀ (a : Nat) (e : va_E), M a = some e → A a) ∧ va_S A H0 H locs ∧ ∀ q, H0.size ≤ q → A q
theorem hm_P.lt {D : va_G} {cl : List vw_C} {M : hM} {H : Heap} (h : hm_P D cl M H) {a : Nat} {e : va_E} (ha : M a = some e) : a < H.size := (h a e ha).lt
theorem hm_fresh {D : va_G} {cl : List vw_C} {M : hM} {H : Heap} (h : hm_P D cl M H) {a : Nat} (ha : H.size ≤ a) : M a = none := by
  cases hm : M a with
  | none => rfl
  | some e => exact absurd (h.lt hm) (by omega)
theorem hm_pw : ∀ (n : Nat) (M : hM), ((List.range n).filterMap (fun a => (M a).map (fun e => (a, e)))).Pairwise (fun p q => p.1 < q.1) := by
  intro n M
  rw [List.pairwise_filterMap]
  refine List.Pairwise.imp ?_ List.pairwise_lt_range
  intro a b hab p hp q hq
  simp only [Option.mem_def, Option.map_eq_some_iff] at hp hq
  obtain ⟨_, _, rfl⟩ := hp
  obtain ⟨_, _, rfl⟩ := hq
  exact hab
/-- the map as a list of cells: the kit's rows speak of lists -/
theorem hm_list {D : va_G} {cl : List vw_C} {A : Nat → Prop} {M : hM} {H : Heap} (hP : hm_P D cl M H) (hA : ∀ (a : Nat) (e : va_E), M a = some e → A a) :
    ∃ ws : va_W, va_P D cl ws H ∧ va_D A ws ∧ ∀ (a : Nat) (e : va_E), M a = some e ↔ ∃ k : Nat, ws[k]? = some (a, e) := by
  have hmem : ∀ (a : Nat) (e : va_E), M a = some e ↔ (a, e) ∈ (List.range H.size).filterMap (fun a => (M a).map (fun e => (a, e))) := by
    intro a e
    rw [List.mem_filterMap]
    constructor
    · intro h
      exact ⟨a, List.mem_range.mpr (hP.lt h), by rw [h]; rfl⟩
    · rintro ⟨b, _, h⟩
      simp only [Option.map_eq_some_iff] at h
      obtain ⟨e', h1, h2⟩ := h
      cases h2
      exact h1
  have hpw := hm_pw H.size M
  refine ⟨(List.range H.size).filterMap (fun a => (M a).map (fun e => (a, e))), ?_, ⟨?_, ?_⟩, ?_⟩
  · intro k q hk
    exact hP q.1 q.2 ((hmem q.1 q.2).mpr (List.mem_of_getElem? hk))
  · intro i j p q hi hj hpq
    rw [List.pairwise_iff_getElem] at hpw
    obtain ⟨li, ei⟩ := List.getElem?_eq_some_iff.mp hi
    obtain ⟨lj, ej⟩ := List.getElem?_eq_some_iff.mp hj
    rcases Nat.lt_trichotomy i j with h | h | h
    · have := hpw i j li lj h
      rw [ei, ej] at this
      omega
    · exact h
    · have := hpw j i lj li h
      rw [ei, ej] at this
      omega
  · intro k q hk
    exact hA q.1 q.2 ((hmem q.1 q.2).mpr (List.mem_of_getElem? hk))
  · intro a e
    rw [hmem]
    constructor
    · intro h
      exact List.getElem?_of_mem h
    · rintro ⟨k, hk⟩
      exact List.mem_of_getElem? hk
theorem hm_up_self {M : hM} {a : Nat} {v : Option va_E} : va_up M a v a = v := by simp [va_up]
theorem hm_up_ne {M : hM} {a b : Nat} {v : Option va_E} (h : b ≠ a) : va_up M a v b = M b := by simp [va_up, h]
/-- a list with one cell changed is the map with it changed -/
theorem hm_set {D : va_G} {cl : List vw_C} {A : Nat → Prop} {M : hM} {ws : va_W} {H1 : Heap} {a k : Nat} {e0 e : va_E} (hD : va_D A ws) (hM : ∀ (a : Nat) (e : va_E), M a = some e ↔ ∃ k : Nat, ws[k]? = some (a, e)) (hk : ws[k]? = some (a, e0)) (hP : va_P D cl (ws.set k (a, e)) H1) :
    hm_P D cl (va_up M a (some e)) H1 := by
  have hl := (List.getElem?_eq_some_iff.mp hk).1
  intro b x hb
  by_cases h : b = a
  · subst h
    rw [hm_up_self] at hb
    cases hb
    exact hP k _ (List.getElem?_set_self hl)
  · rw [hm_up_ne h] at hb
    obtain ⟨j, hj⟩ := (hM b x).mp hb
    have hjk : k ≠ j := fun z => by
      subst z
      rw [hk] at hj
      cases hj
      exact h rfl
    exact hP j _ (by rw [List.getElem?_set_ne hjk]; exact hj)
theorem hm_setA {A : Nat → Prop} {M : hM} {a : Nat} {e0 e : va_E} (hA : ∀ (a : Nat) (e : va_E), M a = some e → A a) (ha : M a = some e0) : ∀ (b : Nat) (x : va_E), va_up M a (some e) b = some x → A b := by
  intro b x hb
  by_cases h : b = a
  · subst h
    exact hA b e0 ha
  · rw [hm_up_ne h] at hb
    exact hA b x hb
theorem hm_app {D : va_G} {cl : List vw_C} {M : hM} {ws : va_W} {H1 : Heap} {q : Nat} {e : va_E} (hM : ∀ (a : Nat) (e : va_E), M a = some e ↔ ∃ k : Nat, ws[k]? = some (a, e)) (hP : va_P D cl (ws ++ [(q, e)]) H1) :
    hm_P D cl (va_up M q (some e)) H1 := by
  intro b x hb
  by_cases h : b = q
  · subst h
    rw [hm_up_self] at hb
    cases hb
    exact hP ws.length _ (by rw [List.getElem?_append_right (Nat.le_refl _), Nat.sub_self]; rfl)
  · rw [hm_up_ne h] at hb
    obtain ⟨j, hj⟩ := (hM b x).mp hb
    exact hP j _ (by rw [List.getElem?_append_left (List.getElem?_eq_some_iff.mp hj).1]; exact hj)
theorem hm_appN {A : Nat → Prop} {M : hM} {ws : va_W} {q : Nat} {e : va_E} (hM : ∀ (a : Nat) (e : va_E), M a = some e ↔ ∃ k : Nat, ws[k]? = some (a, e)) (hD : va_D A (ws ++ [(q, e)])) : M q = none := by
  cases hq : M q with
  | none => rfl
  | some x =>
    obtain ⟨j, hj⟩ := (hM q x).mp hq
    have hl := (List.getElem?_eq_some_iff.mp hj).1
    have h1 : (ws ++ [(q, e)])[j]? = some (q, x) := by rw [List.getElem?_append_left hl]; exact hj
    have h2 : (ws ++ [(q, e)])[ws.length]? = some (q, e) := by rw [List.getElem?_append_right (Nat.le_refl _), Nat.sub_self]; rfl
    have := hD.1 _ _ _ _ h1 h2 rfl
    omega
theorem hm_appA {A : Nat → Prop} {M : hM} {ws : va_W} {q : Nat} {e : va_E} (hA : ∀ (a : Nat) (e : va_E), M a = some e → A a) (hD : va_D A (ws ++ [(q, e)])) : ∀ (b : Nat) (x : va_E), va_up M q (some e) b = some x → A b := by
  intro b x hb
  by_cases h : b = q
  · subst h
    exact hD.2 ws.length (b, e) (by rw [List.getElem?_append_right (Nat.le_refl _), Nat.sub_self]; rfl)
  · rw [hm_up_ne h] at hb
    exact hA b x hb
/-! cells of interest, by a list: each at an address of its own -/
def hm_has (M : hM) (ws : va_W) : Prop := (ws.map (fun q => q.1)).Nodup ∧ ∀ q ∈ ws, M q.1 = some q.2
theorem hm_has.at {M : hM} {ws : va_W} (h : hm_has M ws) (k : Nat) {a : Nat} {e : va_E} (hk : ws[k]? = some (a, e)) : M a = some e := h.2 (a, e) (List.mem_of_getElem? hk)
theorem hm_has.ne {M : hM} {ws : va_W} (h : hm_has M ws) (i j : Nat) {p q : Nat × va_E} (hi : ws[i]? = some p) (hj : ws[j]? = some q) (hij : i ≠ j) : p.1 ≠ q.1 := by
  intro hpq
  have h1 : (ws.map (fun q => q.1))[i]? = some p.1 := by rw [List.getElem?_map, hi]; rfl
  have h2 : (ws.map (fun q => q.1))[j]? = some p.1 := by rw [List.getElem?_map, hj, hpq]; rfl
  have li := (List.getElem?_eq_some_iff.mp h1).1
  exact hij ((List.getElem?_inj li h.1).mp (h1.trans h2.symm))
theorem hm_has.set {M : hM} {ws ws' : va_W} {a k : Nat} {e0 e : va_E} (h : hm_has M ws) (hk : ws[k]? = some (a, e0)) (hs : ws.set k (a, e) = ws') : hm_has (va_up M a (some e)) ws' := by
  subst hs
  have hl := (List.getElem?_eq_some_iff.mp hk).1
  have hmap : (ws.set k (a, e)).map (fun q => q.1) = ws.map (fun q => q.1) := by
    rw [List.map_set]
    have h9 : (ws.map (fun q => q.1))[k]? = some a := by rw [List.getElem?_map, hk]; rfl
    apply List.ext_getElem?
    intro j
    by_cases hjk : k = j
    · subst hjk
      rw [List.getElem?_set_self (by simpa using hl), h9]
    · rw [List.getElem?_set_ne hjk]
  refine ⟨by rw [hmap]; exact h.1, fun q hq => ?_⟩
  obtain ⟨j, hj⟩ := List.getElem?_of_mem hq
  by_cases hjk : k = j
  · subst hjk
    rw [List.getElem?_set_self hl] at hj
    cases hj
    exact hm_up_self
  · rw [List.getElem?_set_ne hjk] at hj
    have := h.ne j k hj hk (fun z => hjk z.symm)
    rw [hm_up_ne this]
    exact h.2 q (List.mem_of_getElem? hj)
theorem hm_has.push {M : hM} {ws ws' : va_W} {q : Nat} {e : va_E} (h : hm_has M ws) (hq : M q = none) (hs : ws ++ [(q, e)] = ws') : hm_has (va_up M q (some e)) ws' := by
  subst hs
  have hne : ∀ x ∈ ws, x.1 ≠ q := fun x hx z => by
    have := h.2 x hx
    rw [z, hq] at this
    cases this
  refine ⟨?_, fun x hx => ?_⟩
  · rw [List.map_append, List.nodup_append]
    refine ⟨h.1, by simp, fun a ha b hb => ?_⟩
    obtain ⟨x, hx, rfl⟩ := List.mem_map.mp ha
    simp at hb
    subst hb
    exact hne x hx
  · rcases List.mem_append.mp hx with hx | hx
    · rw [hm_up_ne (hne x hx)]
      exact h.2 x hx
    · rw [List.mem_singleton] at hx
      subst hx
      exact hm_up_self
theorem hm_has.sub {M : hM} {ws ws' : va_W} (h : hm_has M ws) (is : List Nat) (hn : va_nd is = true) (hs : is.map (fun i => ws[i]?) = ws'.map some) : hm_has M ws' := by
  have key : ∀ (k : Nat) (q : Nat × va_E), ws'[k]? = some q → ∃ i, is[k]? = some i ∧ ws[i]? = some q := by
    intro k q hk
    have h1 : (is.map (fun i => ws[i]?))[k]? = some (some q) := by rw [hs, List.getElem?_map, hk]; rfl
    rw [List.getElem?_map] at h1
    cases hi : is[k]? with
    | none => rw [hi] at h1; cases h1
    | some i => rw [hi] at h1; exact ⟨i, rfl, Option.some.inj h1⟩
  refine ⟨?_, fun q hq => ?_⟩
  · show List.Pairwise (fun a b => a ≠ b) _
    rw [List.pairwise_iff_getElem]
    intro i j hi hj hij
    rw [List.length_map] at hi hj
    have hp : ws'[i]? = some ws'[i] := List.getElem?_eq_getElem hi
    have hq : ws'[j]? = some ws'[j] := List.getElem?_eq_getElem hj
    obtain ⟨a, h1, h2⟩ := key i _ hp
    obtain ⟨b, h3, h4⟩ := key j _ hq
    have hab : a ≠ b := fun z => by
      subst z
      have := va_nd_inj is hn i j a h1 h3
      omega
    rw [List.getElem_map, List.getElem_map]
    exact h.ne a b h2 h4 hab
  · obtain ⟨k, hk⟩ := List.getElem?_of_mem hq
    obtain ⟨i, -, h2⟩ := key k q hk
    exact h.2 q (List.mem_of_getElem? h2)
/-- what stays: every cell that S does not name -/
def hm_kp (S : Nat → Prop) (M M' : hM) : Prop := ∀ (a : Nat) (e : va_E), M a = some e → ¬ S a → M' a = some e
theorem hm_kp.rf {S : Nat → Prop} {M : hM} : hm_kp S M M := fun _ _ h _ => h
theorem hm_kp.tr {S T : Nat → Prop} {M M' M2 : hM} (h : hm_kp S M M') (h2 : hm_kp T M' M2) (hST : ∀ a, T a → S a) : hm_kp S M M2 := fun a e ha hs => h2 a e (h a e ha hs) (fun z => hs (hST a z))
theorem hm_kp.mono {S T : Nat → Prop} {M M' : hM} (h : hm_kp S M M') (hST : ∀ a, S a → T a) : hm_kp T M M' := fun a e ha hs => h a e ha (fun z => hs (hST a z))
theorem hm_kp.up {S : Nat → Prop} {M : hM} {a : Nat} {v : Option va_E} (hs : S a) : hm_kp S M (va_up M a v) := fun b e hb hn => by
  rw [hm_up_ne (fun z => hn (by rw [z]; exact hs))]
  exact hb
theorem hm_kp.new {S : Nat → Prop} {M : hM} {a : Nat} {v : Option va_E} (ha : M a = none) : hm_kp S M (va_up M a v) := fun b e hb _ => by
  rw [hm_up_ne (fun z => by rw [z, ha] at hb; cases hb)]
  exact hb
/-- behind a call: the callee's cells as it left them, the others as they were -/
theorem hm_join {M M' : hM} {ws wc wc' ws' : va_W} {S : Nat → Prop} (h : hm_has M ws) (h' : hm_has M' wc') (hk : hm_kp S M M') (is : List Nat) (hc : is.map (fun i => ws[i]?) = wc.map some) (ha : wc'.map (fun q => q.1) = wc.map (fun q => q.1)) (hS : ∀ a, S a → a ∈ wc.map (fun q => q.1))
    (hw : ws'.map (fun q => q.1) = ws.map (fun q => q.1)) (hr : ∀ (k : Nat), k < ws.length → (k ∉ is ∧ ws'[k]? = ws[k]?) ∨ ∃ j : Nat, is[j]? = some k ∧ ws'[k]? = wc'[j]?) : hm_has M' ws' := by
  refine ⟨by rw [hw]; exact h.1, fun q hq => ?_⟩
  obtain ⟨k, hkq⟩ := List.getElem?_of_mem hq
  have hl : k < ws.length := by
    have := (List.getElem?_eq_some_iff.mp hkq).1
    have e : ws'.length = ws.length := by
      have := congrArg List.length hw
      simpa using this
    omega
  rcases hr k hl with ⟨h1, h2⟩ | ⟨j, h1, h2⟩
  · rw [h2] at hkq
    refine hk q.1 q.2 (h.2 q (List.mem_of_getElem? hkq)) (fun z => ?_)
    obtain ⟨x, hx, hxe⟩ := List.mem_map.mp (hS _ z)
    obtain ⟨j, hj⟩ := List.getElem?_of_mem hx
    have h3 : (is.map (fun i => ws[i]?))[j]? = some (some x) := by rw [hc, List.getElem?_map, hj]; rfl
    rw [List.getElem?_map] at h3
    cases hi : is[j]? with
    | none => rw [hi] at h3; cases h3
    | some i =>
      rw [hi] at h3
      have h4 : ws[i]? = some x := Option.some.inj h3
      have hik : i ≠ k := fun z => h1 (by rw [← z]; exact List.mem_of_getElem? hi)
      exact h.ne i k h4 hkq hik hxe
  · rw [h2] at hkq
    exact h'.2 q (List.mem_of_getElem? hkq)
end
section
/-! THE PURE SIDE: bytes, drafts, patterns, exceptions, words -/
def isL (b : Int32) : Bool := (decide (97 ≤ b) && decide (b ≤ 122)) || (decide (128 ≤ b) && decide (b ≤ 255))
def isDg (b : Int32) : Bool := decide (48 ≤ b) && decide (b ≤ 57)
def isBy (b : Int32) : Prop := 0 ≤ b.toInt ∧ b.toInt ≤ 255
theorem i32_le {x y : Int32} : x ≤ y ↔ x.toInt ≤ y.toInt := Int32.le_iff_toInt_le
theorem i32_lt {x y : Int32} : x < y ↔ x.toInt < y.toInt := Int32.lt_iff_toInt_lt
theorem i32_eq {x y : Int32} : x = y ↔ x.toInt = y.toInt := Int32.toInt_inj.symm
theorem isL_iff {b : Int32} : isL b = true ↔ (97 ≤ b.toInt ∧ b.toInt ≤ 122) ∨ (128 ≤ b.toInt ∧ b.toInt ≤ 255) := by
  have e1 : (97 : Int32).toInt = 97 := by decide
  have e2 : (122 : Int32).toInt = 122 := by decide
  have e3 : (128 : Int32).toInt = 128 := by decide
  have e4 : (255 : Int32).toInt = 255 := by decide
  simp only [isL, Bool.or_eq_true, Bool.and_eq_true, decide_eq_true_eq, i32_le, e1, e2, e3, e4]
theorem isDg_iff {b : Int32} : isDg b = true ↔ 48 ≤ b.toInt ∧ b.toInt ≤ 57 := by
  have e1 : (48 : Int32).toInt = 48 := by decide
  have e2 : (57 : Int32).toInt = 57 := by decide
  simp only [isDg, Bool.and_eq_true, decide_eq_true_eq, i32_le, e1, e2]
theorem eq46_iff {b : Int32} : b = 46 ↔ b.toInt = 46 := by
  have e1 : (46 : Int32).toInt = 46 := by decide
  rw [i32_eq, e1]
theorem eq45_iff {b : Int32} : b = 45 ↔ b.toInt = 45 := by
  have e1 : (45 : Int32).toInt = 45 := by decide
  rw [i32_eq, e1]
/-! what is read out of a draft as a pattern -/
def pz (d : Nat → Int32) : Nat → Nat
  | 0 => 0
  | k + 1 => if isDg (d k) then pz d k else pz d k + 1
def psg (d : Nat → Int32) : Nat → Nat → Int32
  | 0 => fun _ => 0
  | k + 1 => if isDg (d k) then psg d k else upd (psg d k) (pz d k) (d k)
def pnm (d : Nat → Int32) : Nat → Nat → Int32
  | 0 => fun _ => 0
  | k + 1 => if isDg (d k) then upd (pnm d k) (pz d k) (d k - 48) else pnm d k
def plt (d : Nat → Int32) : Nat → Nat
  | 0 => 0
  | k + 1 => if isL (d k) then plt d k + 1 else plt d k
def pOk (d : Nat → Int32) (n : Nat) : Prop :=
  (∀ k, k < n → isL (d k) = true ∨ isDg (d k) = true ∨ d k = 46) ∧ (∀ k, k + 1 < n → ¬ (isDg (d k) = true ∧ isDg (d (k + 1)) = true)) ∧ 1 ≤ plt d n ∧ plt d n ≤ 63 ∧ ∀ k, k < n → d k = 46 → pz d k = 0 ∨ pz d k + 1 = pz d n
def pN1 (d : Nat → Int32) (n : Nat) : Nat → Int32 := if psg d n 0 = 46 then upd (pnm d n) 0 0 else pnm d n
def pN (d : Nat → Int32) (n : Nat) : Nat → Int32 := if psg d n (pz d n - 1) = 46 then upd (pN1 d n) (pz d n) 0 else pN1 d n
theorem pz_mono {d : Nat → Int32} {k n : Nat} (h : k ≤ n) : pz d k ≤ pz d n := by
  induction n with
  | zero => obtain rfl : k = 0 := by omega
            exact Nat.le_refl _
  | succ n ih =>
    rcases Nat.lt_or_ge n k with q | q
    · obtain rfl : k = n + 1 := by omega
      exact Nat.le_refl _
    · have := ih q
      simp only [pz]
      split <;> omega
theorem pz_le (d : Nat → Int32) (n : Nat) : pz d n ≤ n := by
  induction n with
  | zero => exact Nat.le_refl _
  | succ n ih => simp only [pz]; split <;> omega
theorem upd_self {f : Nat → Int32} {k : Nat} {x : Int32} : upd f k x k = x := by simp [upd]
theorem upd_ne {f : Nat → Int32} {k j : Nat} {x : Int32} (h : j ≠ k) : upd f k x j = f j := by simp [upd, h]
/-- sign pz d k is byte k -/
theorem psg_at {d : Nat → Int32} {k n : Nat} (h : k < n) (hd : isDg (d k) = false) : psg d n (pz d k) = d k := by
  induction n with
  | zero => omega
  | succ n ih =>
    rcases Nat.lt_or_ge k n with q | q
    · simp only [psg]
      split
      · exact ih q
      · have h1 : pz d (k + 1) ≤ pz d n := pz_mono q
        have h2 : pz d (k + 1) = pz d k + 1 := by simp [pz, hd]
        rw [upd_ne (by omega)]
        exact ih q
    · obtain rfl : k = n := by omega
      simp only [psg, hd]
      exact upd_self
/-- every sign is a byte that is no digit -/
theorem psg_of {d : Nat → Int32} {n j : Nat} (h : j < pz d n) : ∃ k, k < n ∧ isDg (d k) = false ∧ pz d k = j := by
  induction n with
  | zero => simp [pz] at h
  | succ n ih =>
    by_cases hd : isDg (d n) = true
    · simp only [pz, hd, if_true] at h
      obtain ⟨k, h1, h2, h3⟩ := ih h
      exact ⟨k, by omega, h2, h3⟩
    · have hd : isDg (d n) = false := by simpa using hd
      simp only [pz, hd] at h
      rcases Nat.lt_or_ge j (pz d n) with q | q
      · obtain ⟨k, h1, h2, h3⟩ := ih q
        exact ⟨k, by omega, h2, h3⟩
      · exact ⟨n, by omega, hd, by simp at h; omega⟩
theorem pnm_above {d : Nat → Int32} {n j : Nat} (h : pz d n < j) : pnm d n j = 0 := by
  induction n with
  | zero => rfl
  | succ n ih =>
    simp only [pnm]
    by_cases hd : isDg (d n) = true
    · simp only [pz, hd, if_true] at h ⊢
      rw [upd_ne (by omega)]
      exact ih h
    · have hd : isDg (d n) = false := by simpa using hd
      simp only [pz, hd] at h ⊢
      simp at h ⊢
      exact ih (by omega)
/-- the number at the last place of what was read -/
theorem pnm_top (d : Nat → Int32) (n : Nat) : pnm d n (pz d n) = if 0 < n ∧ isDg (d (n - 1)) = true then d (n - 1) - 48 else 0 := by
  cases n with
  | zero => simp [pnm]
  | succ n =>
    simp only [pnm, pz]
    by_cases hd : isDg (d n) = true
    · simp [hd, upd_self]
    · have hd : isDg (d n) = false := by simpa using hd
      have h9 := pnm_above (d := d) (n := n) (j := pz d n + 1) (by omega)
      simpa [hd] using h9
theorem pnm_at {d : Nat → Int32} {k n : Nat} (h : k < n) (hd : isDg (d k) = false) : pnm d n (pz d k) = pnm d k (pz d k) := by
  induction n with
  | zero => omega
  | succ n ih =>
    rcases Nat.lt_or_ge k n with q | q
    · simp only [pnm]
      split
      · have h1 : pz d (k + 1) ≤ pz d n := pz_mono q
        have h2 : pz d (k + 1) = pz d k + 1 := by simp [pz, hd]
        rw [upd_ne (by omega)]
        exact ih q
      · exact ih q
    · obtain rfl : k = n := by omega
      simp [pnm, hd]
/-! what is read out of a draft as an exception -/
def xz (d : Nat → Int32) : Nat → Nat
  | 0 => 0
  | k + 1 => if isL (d k) then xz d k + 1 else xz d k
def xsg (d : Nat → Int32) : Nat → Nat → Int32
  | 0 => fun _ => 0
  | k + 1 => if isL (d k) then upd (xsg d k) (xz d k) (d k) else xsg d k
/-- is there a hyphen behind letter j -/
def xhy (d : Nat → Int32) : Nat → Nat → Bool
  | 0 => fun _ => false
  | k + 1 => if isL (d k) then xhy d k else fun j => if j = xz d k then true else xhy d k j
def xOk (d : Nat → Int32) (n : Nat) : Prop :=
  0 < n ∧ (∀ k, k < n → isL (d k) = true ∨ (d k = 45 ∧ 0 < k ∧ k + 1 < n ∧ d (k - 1) ≠ 45)) ∧ 1 ≤ xz d n ∧ xz d n ≤ 63
/-! words -/
def wOk (d : Nat → Int32) (n : Nat) : Prop := 1 ≤ n ∧ n ≤ 63 ∧ ∀ k, k < n → isL (d k) = true
/-- the row of a word: an edge at each end -/
def wrow (d : Nat → Int32) (n : Nat) : Nat → Int32 := fun j => if j = 0 then 46 else if j ≤ n then d (j - 1) else if j = n + 1 then 46 else 0
/-! values: the greatest of what was told -/
def vMax (S : Nat → Int32 → Prop) (N : Nat) (v : Nat → Int32) : Prop := ∀ pl, pl ≤ N → (∀ x, S pl x → x ≤ v pl) ∧ (v pl = 0 ∨ S pl (v pl)) ∧ 0 ≤ v pl
theorem i32_antisymm {x y : Int32} (h1 : x ≤ y) (h2 : y ≤ x) : x = y := by
  rw [i32_le] at h1 h2
  exact i32_eq.mpr (by omega)
theorem vMax_uniq {S T : Nat → Int32 → Prop} {N : Nat} {v w : Nat → Int32} (hv : vMax S N v) (hw : vMax T N w) (h : ∀ pl x, pl ≤ N → (S pl x ↔ T pl x)) : ∀ pl, pl ≤ N → v pl = w pl := by
  intro pl hpl
  obtain ⟨a1, a2, a3⟩ := hv pl hpl
  obtain ⟨b1, b2, b3⟩ := hw pl hpl
  refine i32_antisymm ?_ ?_
  · rcases a2 with z | z
    · rw [z]; exact b3
    · exact b1 _ ((h pl _ hpl).mp z)
  · rcases b2 with z | z
    · rw [z]; exact a3
    · exact a1 _ ((h pl _ hpl).mpr z)
theorem vMax_0 {N : Nat} {S : Nat → Int32 → Prop} (h : ∀ pl x, pl ≤ N → ¬ S pl x) : vMax S N (fun _ => 0) := fun pl hpl => ⟨fun x hx => absurd hx (h pl x hpl), Or.inl rfl, Int32.le_refl _⟩
theorem vMax_raise {S T : Nat → Int32 → Prop} {N : Nat} {v : Nat → Int32} {p : Nat} {x : Int32} (hv : vMax S N v) (h : ∀ pl y, pl ≤ N → (T pl y ↔ S pl y ∨ (pl = p ∧ y = x))) (hx : 0 ≤ x) : vMax T N (if v p < x then upd v p x else v) := by
  intro pl hpl
  obtain ⟨a1, a2, a3⟩ := hv pl hpl
  by_cases hp : pl = p
  · subst hp
    by_cases hlt : v pl < x
    · rw [if_pos hlt, upd_self]
      refine ⟨fun y hy => ?_, Or.inr ((h pl x hpl).mpr (Or.inr ⟨rfl, rfl⟩)), hx⟩
      rcases (h pl y hpl).mp hy with z | ⟨-, rfl⟩
      · have := a1 y z
        rw [i32_le] at this ⊢
        rw [i32_lt] at hlt
        omega
      · exact Int32.le_refl _
    · rw [if_neg hlt]
      refine ⟨fun y hy => ?_, ?_, a3⟩
      · rcases (h pl y hpl).mp hy with z | ⟨-, rfl⟩
        · exact a1 y z
        · rw [i32_lt] at hlt
          rw [i32_le]
          omega
      · rcases a2 with z | z
        · exact Or.inl z
        · exact Or.inr ((h pl _ hpl).mpr (Or.inl z))
  · have hv' : (if v p < x then upd v p x else v) pl = v pl := by
      split
      · exact upd_ne hp
      · rfl
    rw [hv']
    refine ⟨fun y hy => ?_, ?_, a3⟩
    · rcases (h pl y hpl).mp hy with z | ⟨z, -⟩
      · exact a1 y z
      · exact absurd z hp
    · rcases a2 with z | z
      · exact Or.inl z
      · exact Or.inr ((h pl _ hpl).mpr (Or.inl z))
/-! cuts -/
def cutN (q : Nat → Bool) : Nat → Int64
  | 0 => 0
  | k + 1 => if q k then cutN q k ||| (1 <<< ((nI k).toInt64 &&& 63)) else cutN q k
theorem cutN_none {q : Nat → Bool} {k : Nat} (h : ∀ j, j < k → q j = false) : cutN q k = 0 := by
  induction k with
  | zero => rfl
  | succ k ih => simp only [cutN, h k (by omega)]; exact ih (fun j hj => h j (by omega))
theorem cutN_more {q : Nat → Bool} {k n : Nat} (hk : k ≤ n) (h : ∀ j, k ≤ j → j < n → q j = false) : cutN q n = cutN q k := by
  induction n with
  | zero => obtain rfl : k = 0 := by omega
            rfl
  | succ n ih =>
    rcases Nat.lt_or_ge n k with z | z
    · obtain rfl : k = n + 1 := by omega
      rfl
    · simp only [cutN, h n z (by omega)]
      exact ih z (fun j h1 h2 => h j h1 (by omega))
theorem cutN_ext {q r : Nat → Bool} {k : Nat} (h : ∀ j, j < k → q j = r j) : cutN q k = cutN r k := by
  induction k with
  | zero => rfl
  | succ k ih => simp only [cutN, h k (by omega), ih (fun j hj => h j (by omega))]
end
section
/-! THE KIT'S ROWS OVER A MAP -/
section HMR
variable {p : Program} {l : Launch} {e : Env} {R : Room} {s : State} {m : MethodId} {args : Array Value} {below : List Frame} {meth : Method} {c : Code} {H : Heap} {locs : List Loc} {cells slots : Nat} {Q : State → Prop}
variable {cc : ByteArray} {pc nL : Nat} {ls : Array Slot} {rest : List Value} {D : va_G} {cl : List vw_C} {A : Nat → Prop} {a : Nat} {tys : List (ClassId × FieldType)} {M : hM} {H0 : Heap} {Ts : List Cond} {own : String}
theorem hm_get (E : CallFix p m c cc nL s args Ts own) {C : String} {T : u_T} {N ci index : Nat} (hin : ∀ w ∈ u_ws C T N, w ∈ Ts) (hK : va_K D cl tys s) (hH : hm_I D cl A H0 M H locs) {fs : List Value} (he : M a = some (.inr (ci, fs))) (hc : cl[ci]? = some (C, T, N)) (k : Nat) (hk : k < N) (hlink : Cond.fieldLink own index (T k).1 (T k).2.1 (T k).2.2.1 ∈ Ts) {v : Value} (hv : fs[k]? = some v) (hdg : decode cc pc = .ok (.getfield index, 3))
    (kk : W p l e R s m args below meth c H locs cells slots Q (F0 m (pc + 3) ls (v :: rest))) : W p l e R s m args below meth c H locs cells slots Q (F0 m pc ls (.ref a :: rest)) := by
  obtain ⟨hx, hb, -, hown, hts⟩ := E
  refine va_get (D := D) (cl := cl) (tys := tys) (ws := [(a, .inr (ci, fs))]) hx hb hts hin hown hK ?_ 0 rfl hc k hk (hts _ hlink) (fun _ h => h) hv hdg kk
  intro j q hj
  have : j < 1 := (List.getElem?_eq_some_iff.mp hj).1
  obtain rfl : j = 0 := by omega
  cases hj
  exact hH.1 _ _ he
theorem hm_getN (E : CallFix p m c cc nL s args Ts own) {C host : String} {T : u_T} {N ci index : Nat} (hin : ∀ w ∈ u_ws C T N, w ∈ Ts) (hK : va_K D cl tys s) (hH : hm_I D cl A H0 M H locs) {fs : List Value} (he : M a = some (.inr (ci, fs))) (hc : cl[ci]? = some (C, T, N)) (k : Nat) (hk : k < N) (hlink : va_Nw (.fieldLinkNest own index (T k).1 (T k).2.1 (T k).2.2.1 host) s) {v : Value} (hv : fs[k]? = some v) (hdg : decode cc pc = .ok (.getfield index, 3))
    (kk : W p l e R s m args below meth c H locs cells slots Q (F0 m (pc + 3) ls (v :: rest))) : W p l e R s m args below meth c H locs cells slots Q (F0 m pc ls (.ref a :: rest)) := by
  obtain ⟨hx, hb, -, hown, hts⟩ := E
  refine va_getN (D := D) (cl := cl) (tys := tys) (ws := [(a, .inr (ci, fs))]) hx hb hts hin hown hK ?_ 0 rfl hc k hk (va_Nw.use rfl hlink) (fun _ h => h) hv hdg kk
  intro j q hj
  have : j < 1 := (List.getElem?_eq_some_iff.mp hj).1
  obtain rfl : j = 0 := by omega
  cases hj
  exact hH.1 _ _ he
theorem hm_put (E : CallFix p m c cc nL s args Ts own) {C : String} {T : u_T} {N ci index : Nat} (hin : ∀ w ∈ u_ws C T N, w ∈ Ts) (ty0 : Nat → FieldType) (hty : ∀ k, k < N → parseFieldDescriptor (T k).2.2.1 = some (ty0 k)) (hnm : ∀ a, a < N → ∀ b, b < N → a ≠ b → (T a).2.1 ≠ (T b).2.1) (hK : va_K D cl tys s) (hH : hm_I D cl A H0 M H locs) {fs : List Value} (he : M a = some (.inr (ci, fs))) (hc : cl[ci]? = some (C, T, N)) (k : Nat) (hk : k < N) (hlink : Cond.fieldLink own index (T k).1 (T k).2.1 (T k).2.2.1 ∈ Ts) (hfin : (T k).2.2.2 = false) {v : Value} (hn : narrow (ty0 k) v = v) (hfit : fits (ty0 k) v = true) (hl : k < fs.length) {fs' : List Value} (hf : fs.set k v = fs')
    (hdg : decode cc pc = .ok (.putfield index, 3)) (kk : ∀ (H1 : Heap) (locs1 : List Loc), hm_I D cl A H0 (va_up M a (some (.inr (ci, fs')))) H1 locs1 → W p l e R s m args below meth c H1 locs1 cells slots Q (F0 m (pc + 3) ls rest)) : W p l e R s m args below meth c H locs cells slots Q (F0 m pc ls (v :: .ref a :: rest)) := by
  subst hf
  obtain ⟨hx, hb, -, hown, hts⟩ := E
  obtain ⟨hP, hA, hS, hN⟩ := hH
  obtain ⟨ws, hPw, hDw, hMw⟩ := hm_list hP hA
  obtain ⟨q0, hq⟩ := (hMw a _).mp he
  exact va_put hx hb hts hin ty0 hty hnm hown hK hPw hDw hS q0 hq hc k hk (hts _ hlink) (fun _ h => h) hfin (hty k hk) hn hfit hl hdg (fun H1 locs1 h1 h2 h3 => kk H1 locs1 ⟨hm_set hDw hMw hq h1, hm_setA hA he, h3, hN⟩)
theorem hm_putF (E : CallFix p m c cc nL s args Ts own) {C : String} {T : u_T} {N ci index : Nat} (hin : ∀ w ∈ u_ws C T N, w ∈ Ts) (ty0 : Nat → FieldType) (hty : ∀ k, k < N → parseFieldDescriptor (T k).2.2.1 = some (ty0 k)) (hnm : ∀ a, a < N → ∀ b, b < N → a ≠ b → (T a).2.1 ≠ (T b).2.1) (hK : va_K D cl tys s) (hH : hm_I D cl A H0 M H locs) {fs : List Value} (he : M a = some (.inr (ci, fs))) (hc : cl[ci]? = some (C, T, N)) (k : Nat) (hk : k < N) (hlink : Cond.fieldLink own index (T k).1 (T k).2.1 (T k).2.2.1 ∈ Ts) (hfin : (T k).2.2.2 = true) (hin2 : meth.name = "<init>") (hdecl : (T k).1 = own) {v : Value} (hn : narrow (ty0 k) v = v) (hfit : fits (ty0 k) v = true) (hl : k < fs.length) {fs' : List Value} (hf : fs.set k v = fs')
    (hdg : decode cc pc = .ok (.putfield index, 3)) (kk : ∀ (H1 : Heap) (locs1 : List Loc), hm_I D cl A H0 (va_up M a (some (.inr (ci, fs')))) H1 locs1 → W p l e R s m args below meth c H1 locs1 cells slots Q (F0 m (pc + 3) ls rest)) : W p l e R s m args below meth c H locs cells slots Q (F0 m pc ls (v :: .ref a :: rest)) := by
  subst hf
  obtain ⟨hx, hb, -, hown, hts⟩ := E
  obtain ⟨hP, hA, hS, hN⟩ := hH
  obtain ⟨ws, hPw, hDw, hMw⟩ := hm_list hP hA
  obtain ⟨q0, hq⟩ := (hMw a _).mp he
  exact va_putF hx hb hts hin ty0 hty hnm hown hK hPw hDw hS q0 hq hc k hk (hts _ hlink) (fun _ h => h) hfin hin2 hdecl (hty k hk) hn hfit hl hdg (fun H1 locs1 h1 h2 h3 => kk H1 locs1 ⟨hm_set hDw hMw hq h1, hm_setA hA he, h3, hN⟩)
theorem hm_putN (E : CallFix p m c cc nL s args Ts own) {C host : String} {T : u_T} {N ci index : Nat} (hin : ∀ w ∈ u_ws C T N, w ∈ Ts) (ty0 : Nat → FieldType) (hty : ∀ k, k < N → parseFieldDescriptor (T k).2.2.1 = some (ty0 k)) (hnm : ∀ a, a < N → ∀ b, b < N → a ≠ b → (T a).2.1 ≠ (T b).2.1) (hK : va_K D cl tys s) (hH : hm_I D cl A H0 M H locs) {fs : List Value} (he : M a = some (.inr (ci, fs))) (hc : cl[ci]? = some (C, T, N)) (k : Nat) (hk : k < N) (hlink : va_Nw (.fieldLinkNest own index (T k).1 (T k).2.1 (T k).2.2.1 host) s) (hfin : (T k).2.2.2 = false) {v : Value} (hn : narrow (ty0 k) v = v) (hfit : fits (ty0 k) v = true) (hl : k < fs.length) {fs' : List Value} (hf : fs.set k v = fs')
    (hdg : decode cc pc = .ok (.putfield index, 3)) (kk : ∀ (H1 : Heap) (locs1 : List Loc), hm_I D cl A H0 (va_up M a (some (.inr (ci, fs')))) H1 locs1 → W p l e R s m args below meth c H1 locs1 cells slots Q (F0 m (pc + 3) ls rest)) : W p l e R s m args below meth c H locs cells slots Q (F0 m pc ls (v :: .ref a :: rest)) := by
  subst hf
  obtain ⟨hx, hb, -, hown, hts⟩ := E
  obtain ⟨hP, hA, hS, hN⟩ := hH
  obtain ⟨ws, hPw, hDw, hMw⟩ := hm_list hP hA
  obtain ⟨q0, hq⟩ := (hMw a _).mp he
  exact va_putN hx hb hts hin ty0 hty hnm hown hK hPw hDw hS q0 hq hc k hk (va_Nw.use rfl hlink) (fun _ h => h) hfin (hty k hk) hn hfit hl hdg (fun H1 locs1 h1 h2 h3 => kk H1 locs1 ⟨hm_set hDw hMw hq h1, hm_setA hA he, h3, hN⟩)
theorem hm_one {D : va_G} {cl : List vw_C} {M : hM} {H : Heap} (hP : hm_P D cl M H) {a : Nat} {x : va_E} (he : M a = some x) : va_P D cl [(a, x)] H := by
  intro j q hj
  have : j < 1 := (List.getElem?_eq_some_iff.mp hj).1
  obtain rfl : j = 0 := by omega
  cases hj
  exact hP _ _ he
theorem hm_iald (E : CallFix p m c cc nL s args Ts own) (hK : va_K D cl tys s) (hH : hm_I D cl A H0 M H locs) (t0 : Nat) {cA : ClassId} {n : Nat} {f : Nat → Int32} (ha : M a = some (.inl (cA, n, .inl f))) (ht : tys[t0]? = some (cA, .int)) {i : Nat} (hi : i < n) (hn : n < 2 ^ 31) (hdg : decode cc pc = .ok (.iaload, 1))
    (kk : W p l e R s m args below meth c H locs cells slots Q (F0 m (pc + 1) ls (.int (f i) :: rest))) : W p l e R s m args below meth c H locs cells slots Q (F0 m pc ls (.int (nI i) :: .ref a :: rest)) := by
  refine va_iald E.1 E.2.1 hK (hm_one hH.1 ha) 0 t0 rfl ht (vp_in_nI hi hn) hdg ?_
  rw [nI_clamp (by omega)]
  exact kk
theorem hm_lald (E : CallFix p m c cc nL s args Ts own) (hK : va_K D cl tys s) (hH : hm_I D cl A H0 M H locs) (t0 : Nat) {cA : ClassId} {n : Nat} {f : Nat → Int64} (ha : M a = some (.inl (cA, n, .inr (.inl f)))) (ht : tys[t0]? = some (cA, .long)) {i : Nat} (hi : i < n) (hn : n < 2 ^ 31) (hdg : decode cc pc = .ok (.laload, 1))
    (kk : W p l e R s m args below meth c H locs cells slots Q (F0 m (pc + 1) ls (.long (f i) :: rest))) : W p l e R s m args below meth c H locs cells slots Q (F0 m pc ls (.int (nI i) :: .ref a :: rest)) := by
  refine va_lald E.1 E.2.1 hK (hm_one hH.1 ha) 0 t0 rfl ht (vp_in_nI hi hn) hdg ?_
  rw [nI_clamp (by omega)]
  exact kk
theorem hm_iast (E : CallFix p m c cc nL s args Ts own) (hK : va_K D cl tys s) (hH : hm_I D cl A H0 M H locs) (t0 : Nat) {cA : ClassId} {n : Nat} {f : Nat → Int32} (ha : M a = some (.inl (cA, n, .inl f))) (ht : tys[t0]? = some (cA, .int)) {i : Nat} {x : Int32} (hi : i < n) (hn : n < 2 ^ 31) (hdg : decode cc pc = .ok (.iastore, 1))
    (kk : ∀ (H1 : Heap) (locs1 : List Loc), hm_I D cl A H0 (va_up M a (some (.inl (cA, n, .inl (upd f i x))))) H1 locs1 → W p l e R s m args below meth c H1 locs1 cells slots Q (F0 m (pc + 1) ls rest)) : W p l e R s m args below meth c H locs cells slots Q (F0 m pc ls (.int x :: .int (nI i) :: .ref a :: rest)) := by
  obtain ⟨hP, hA, hS, hN⟩ := hH
  obtain ⟨ws, hPw, hDw, hMw⟩ := hm_list hP hA
  obtain ⟨q0, hq⟩ := (hMw a _).mp ha
  refine va_iast E.1 E.2.1 hK hPw hDw hS q0 t0 hq ht (vp_in_nI hi hn) hdg (fun H1 locs1 h1 h2 h3 => ?_)
  rw [nI_clamp (by omega)] at h1
  exact kk H1 locs1 ⟨hm_set hDw hMw hq h1, hm_setA hA ha, h3, hN⟩
theorem hm_last (E : CallFix p m c cc nL s args Ts own) (hK : va_K D cl tys s) (hH : hm_I D cl A H0 M H locs) (t0 : Nat) {cA : ClassId} {n : Nat} {f : Nat → Int64} (ha : M a = some (.inl (cA, n, .inr (.inl f)))) (ht : tys[t0]? = some (cA, .long)) {i : Nat} {x : Int64} (hi : i < n) (hn : n < 2 ^ 31) (hdg : decode cc pc = .ok (.lastore, 1))
    (kk : ∀ (H1 : Heap) (locs1 : List Loc), hm_I D cl A H0 (va_up M a (some (.inl (cA, n, .inr (.inl (vp_updL f i x)))))) H1 locs1 → W p l e R s m args below meth c H1 locs1 cells slots Q (F0 m (pc + 1) ls rest)) : W p l e R s m args below meth c H locs cells slots Q (F0 m pc ls (.long x :: .int (nI i) :: .ref a :: rest)) := by
  obtain ⟨hP, hA, hS, hN⟩ := hH
  obtain ⟨ws, hPw, hDw, hMw⟩ := hm_list hP hA
  obtain ⟨q0, hq⟩ := (hMw a _).mp ha
  refine va_last E.1 E.2.1 hK hPw hDw hS q0 t0 hq ht (vp_in_nI hi hn) hdg (fun H1 locs1 h1 h2 h3 => ?_)
  rw [nI_clamp (by omega)] at h1
  exact kk H1 locs1 ⟨hm_set hDw hMw hq h1, hm_setA hA ha, h3, hN⟩
theorem hm_alen (E : CallFix p m c cc nL s args Ts own) (hK : va_K D cl tys s) (hH : hm_I D cl A H0 M H locs) (t0 : Nat) {cA : ClassId} {x : vp_A} (ha : M a = some (.inl (cA, x))) {ty : FieldType} (ht : tys[t0]? = some (cA, ty)) (hdg : decode cc pc = .ok (.arraylength, 1))
    (kk : W p l e R s m args below meth c H locs cells slots Q (F0 m (pc + 1) ls (.int (nI x.1) :: rest))) : W p l e R s m args below meth c H locs cells slots Q (F0 m pc ls (.ref a :: rest)) :=
  va_alen E.1 E.2.1 hK (hm_one hH.1 ha) 0 t0 rfl ht rfl hdg kk
theorem hm_new (E : CallFix p m c cc nL s args Ts own) {C : String} {T : u_T} {N ci index : Nat} (hin : ∀ w ∈ u_ws C T N, w ∈ Ts) (ty : Nat → FieldType) (hty : ∀ k, k < N → parseFieldDescriptor (T k).2.2.1 = some (ty k)) (hcl : Cond.classLink own index C ∈ Ts) (hinst : Cond.instantiable C N ∈ Ts) (hini : Cond.initialized C ∈ Ts)
    (hK : va_K D cl tys s) (hH : hm_I D cl A H0 M H locs) (hc : cl[ci]? = some (C, T, N)) {fs : List Value} (hfs : ∀ j, j < N → defaultValue (ty j) = vp_V fs j) (hcells : cells + 1 ≤ R.cells) (hslots : slots + N ≤ R.slots) (hdg : decode cc pc = .ok (.new index, 3))
    (kk : ∀ (q : Nat) (H1 : Heap), M q = none → hm_I D cl A H0 (va_up M q (some (.inr (ci, fs)))) H1 locs → W p l e R s m args below meth c H1 locs (cells + 1) (slots + N) Q (F0 m (pc + 3) ls (.ref q :: rest))) : W p l e R s m args below meth c H locs cells slots Q (F0 m pc ls rest) := by
  obtain ⟨hx, hb, -, hown, hts⟩ := E
  obtain ⟨hP, hA, hS, hN⟩ := hH
  obtain ⟨ws, hPw, hDw, hMw⟩ := hm_list hP hA
  exact va_new hx hb hts hin ty hty hown (hts _ hcl) (hts _ hinst) (hts _ hini) hK hPw hDw hS hN hc hfs hcells hslots hdg (fun q H1 h1 h2 h3 => kk q H1 (hm_appN hMw h2) ⟨hm_app hMw h1, hm_appA hA h2, h3, hN⟩)
theorem hm_newaI (E : CallFix p m c cc nL s args Ts own) (harr : Cond.arrayClass .int ∈ Ts) (hK : va_K D cl tys s) (hH : hm_I D cl A H0 M H locs) (t0 : Nat) {cA : ClassId} (ht : tys[t0]? = some (cA, .int)) {n : Nat} (hn : n < 2 ^ 20) (hcells : cells + 1 ≤ R.cells) (hslots : slots + n ≤ R.slots) (hdg : decode cc pc = .ok (.newarray .int, 2))
    (kk : ∀ (q : Nat) (H1 : Heap), M q = none → hm_I D cl A H0 (va_up M q (some (.inl (cA, n, .inl (fun _ => 0))))) H1 locs → W p l e R s m args below meth c H1 locs (cells + 1) (slots + n) Q (F0 m (pc + 2) ls (.ref q :: rest))) : W p l e R s m args below meth c H locs cells slots Q (F0 m pc ls (.int (nI n) :: rest)) := by
  obtain ⟨hx, hb, -, hown, hts⟩ := E
  obtain ⟨hP, hA, hS, hN⟩ := hH
  obtain ⟨ws, hPw, hDw, hMw⟩ := hm_list hP hA
  refine va_newa (atype := .int) (ty := .int) (N' := n) (a0 := (n, .inl (fun _ => 0))) hx hb (hts _ harr) rfl hK hPw hDw hS hN (fun cA => rfl) (nI_pos (by omega)) (nI_clamp (by omega)) (by show n * 4 ≤ _; omega) hcells hslots hdg (fun q cB H1 h0 h1 h2 h3 => ?_)
  have e1 := va_nm_int (hK.2 t0 _ ht).2
  have e2 := va_nm_int (h0.2 tys.length (cB, .int) (by rw [List.getElem?_append_right (Nat.le_refl _), Nat.sub_self]; rfl)).2
  cases e1.symm.trans e2
  exact kk q H1 (hm_appN hMw h2) ⟨hm_app hMw h1, hm_appA hA h2, h3, hN⟩
theorem hm_newaJ (E : CallFix p m c cc nL s args Ts own) (harr : Cond.arrayClass .long ∈ Ts) (hK : va_K D cl tys s) (hH : hm_I D cl A H0 M H locs) (t0 : Nat) {cA : ClassId} (ht : tys[t0]? = some (cA, .long)) {n : Nat} (hn : n < 2 ^ 20) (hcells : cells + 1 ≤ R.cells) (hslots : slots + n ≤ R.slots) (hdg : decode cc pc = .ok (.newarray .long, 2))
    (kk : ∀ (q : Nat) (H1 : Heap), M q = none → hm_I D cl A H0 (va_up M q (some (.inl (cA, n, .inr (.inl (fun _ => 0)))))) H1 locs → W p l e R s m args below meth c H1 locs (cells + 1) (slots + n) Q (F0 m (pc + 2) ls (.ref q :: rest))) : W p l e R s m args below meth c H locs cells slots Q (F0 m pc ls (.int (nI n) :: rest)) := by
  obtain ⟨hx, hb, -, hown, hts⟩ := E
  obtain ⟨hP, hA, hS, hN⟩ := hH
  obtain ⟨ws, hPw, hDw, hMw⟩ := hm_list hP hA
  refine va_newa (atype := .long) (ty := .long) (N' := n) (a0 := (n, .inr (.inl (fun _ => 0)))) hx hb (hts _ harr) rfl hK hPw hDw hS hN (fun cA => rfl) (nI_pos (by omega)) (nI_clamp (by omega)) (by show n * 8 ≤ _; omega) hcells hslots hdg (fun q cB H1 h0 h1 h2 h3 => ?_)
  have e1 := va_nm_long (hK.2 t0 _ ht).2
  have e2 := va_nm_long (h0.2 tys.length (cB, .long) (by rw [List.getElem?_append_right (Nat.le_refl _), Nat.sub_self]; rfl)).2
  cases e1.symm.trans e2
  exact kk q H1 (hm_appN hMw h2) ⟨hm_app hMw h1, hm_appA hA h2, h3, hN⟩
theorem hm_clone (E : CallFix p m c cc nL s args Ts own) (hls : ls.size = nL) {index : Nat}
    (hlink : Cond.methodLink own index ⟨"[I", "clone", "()Ljava/lang/Object;"⟩ ∈ Ts) (hsame : Cond.sameMethod "[I" "java/lang/Object" "clone" "()Ljava/lang/Object;" ∈ Ts)
    (hnat : Cond.native ⟨"java/lang/Object", "clone", "()Ljava/lang/Object;"⟩ ∈ Ts) (hinst : Cond.instanceMethod ⟨"java/lang/Object", "clone", "()Ljava/lang/Object;"⟩ ∈ Ts)
    (hsel : Cond.selects "[I" ⟨"[I", "clone", "()Ljava/lang/Object;"⟩ ⟨"java/lang/Object", "clone", "()Ljava/lang/Object;"⟩ ∈ Ts) (hcl : va_Nw (.castable "[I" "java/lang/Cloneable") s)
    (hK : va_K D cl tys s) (hH : hm_I D cl A H0 M H locs) (t0 : Nat) {cA : ClassId} {n : Nat} {f : Nat → Int32} (ha : M a = some (.inl (cA, n, .inl f))) (ht : tys[t0]? = some (cA, .int))
    (hframes : 1 ≤ R.frames) (hlocals : (rest.map fun v => v.category).sum + 14 ≤ R.locals) (hcells : cells + 1 ≤ R.cells) (hslots : slots + n ≤ R.slots) (hdg : decode cc pc = .ok (.invokevirtual index, 3))
    (kk : ∀ (q : Nat) (H1 : Heap), M q = none → hm_I D cl A H0 (va_up M q (some (.inl (cA, n, .inl f)))) H1 locs → W p l e R s m args below meth c H1 locs (cells + 1) (slots + n) Q (F0 m (pc + 3) ls (.ref q :: rest))) : W p l e R s m args below meth c H locs cells slots Q (F0 m pc ls (.ref a :: rest)) := by
  obtain ⟨hx, hb, hml, hown, hts⟩ := E
  obtain ⟨hP, hA, hS, hN⟩ := hH
  obtain ⟨ws, hPw, hDw, hMw⟩ := hm_list hP hA
  obtain ⟨q0, hq⟩ := (hMw a _).mp ha
  refine va_clone hx hb (hml.trans hls.symm) hown (hts _ hlink) (hts _ hsame) (hts _ hnat) (hts _ hinst) (hts _ hsel) hcl hK hPw hDw hS hN q0 t0 hq ht (va_nm_int (hK.2 t0 _ ht).2) (fun i v hv => ?_) hframes hlocals hcells hslots hdg (fun q H1 h0 h1 h2 h3 => kk q H1 (hm_appN hMw h2) ⟨hm_app hMw h1, hm_appA hA h2, h3, hN⟩)
  exact va_fit (cA := cA) (n := n) (F := fun j => .int (f j)) (ty := .int) (fun _ _ => rfl) i v hv
theorem hm_castI (E : CallFix p m c cc nL s args Ts own) {index : Nat} (hlink : Cond.classLink own index "[I" ∈ Ts) (hK : va_K D cl tys s) (hH : hm_I D cl A H0 M H locs) (t0 : Nat) {cA : ClassId} {x : vp_A} (ha : M a = some (.inl (cA, x))) (ht : tys[t0]? = some (cA, .int)) (hdg : decode cc pc = .ok (.checkcast index, 3))
    (k : W p l e R s m args below meth c H locs cells slots Q (F0 m (pc + 3) ls (.ref a :: rest))) : W p l e R s m args below meth c H locs cells slots Q (F0 m pc ls (.ref a :: rest)) :=
  va_castA E.1 E.2.1 E.2.2.2.1 (E.2.2.2.2 _ hlink) (hm_one hH.1 ha) 0 rfl (va_nm_int (hK.2 t0 _ ht).2) hdg k
/-! references that may be null -/
theorem hm_ifnull (hexec : p.tables.exec = Jvm.exec) (hb : c.code = cc) {x : Option Nat} {off : Int} {tgt : Nat} (hdg : decode cc pc = .ok (.ifnull off, 3)) (ht : (pc : Int) + off = (tgt : Int)) (k1 : x = none → W p l e R s m args below meth c H locs cells slots Q (F0 m tgt ls rest)) (k2 : ∀ y, x = some y → W p l e R s m args below meth c H locs cells slots Q (F0 m (pc + 3) ls rest)) : W p l e R s m args below meth c H locs cells slots Q (F0 m pc ls (va_rf x :: rest)) := by
  cases x with
  | none => exact lv_ifnullN hexec hb hdg ht (k1 rfl)
  | some y => exact lv_ifnull hexec hb hdg (k2 y rfl)
theorem hm_ifnonnull (hexec : p.tables.exec = Jvm.exec) (hb : c.code = cc) {x : Option Nat} {off : Int} {tgt : Nat} (hdg : decode cc pc = .ok (.ifnonnull off, 3)) (ht : (pc : Int) + off = (tgt : Int)) (k1 : ∀ y, x = some y → W p l e R s m args below meth c H locs cells slots Q (F0 m tgt ls rest)) (k2 : x = none → W p l e R s m args below meth c H locs cells slots Q (F0 m (pc + 3) ls rest)) : W p l e R s m args below meth c H locs cells slots Q (F0 m pc ls (va_rf x :: rest)) := by
  cases x with
  | none => exact lv_ifnonnullN hexec hb hdg (k2 rfl)
  | some y => exact lv_ifnonnull hexec hb hdg ht (k1 y rfl)
/-- the value on top by another term -/
theorem hm_top {v w : Value} (h : v = w) (k : W p l e R s m args below meth c H locs cells slots Q (F0 m pc ls (w :: rest))) : W p l e R s m args below meth c H locs cells slots Q (F0 m pc ls (v :: rest)) := by subst h; exact k
end HMR
end
section
/-! ROWS OVER SMALL NATURALS, BOOLEANS, REFERENCES THAT MAY BE NULL -/
def bI (b : Bool) : Int32 := if b then 1 else 0
theorem bI_t : bI true = 1 := rfl
theorem bI_f : bI false = 0 := rfl
theorem bI_0 {b : Bool} : bI b = 0 ↔ b = false := by cases b <;> simp [bI]
theorem bI_n (b : Bool) : narrow .boolean (.int (bI b)) = .int (bI b) := by cases b <;> decide
theorem i32_nlt {x y : Int32} : ¬ x < y ↔ y ≤ x := by rw [i32_lt, i32_le]; omega
theorem i32_nle {x y : Int32} : ¬ x ≤ y ↔ y < x := by rw [i32_lt, i32_le]; omega
theorem k_0 : (0 : Int32).toInt = 0 := by decide
theorem bI_of {b : Bool} {q : Prop} (h : b = true ↔ q) : (q → bI b = 1) ∧ (¬ q → bI b = 0) := ⟨fun z => by rw [h.mpr z]; rfl, fun z => by cases b with | true => exact absurd (h.mp rfl) z | false => rfl⟩
section HN
variable {p : Program} {l : Launch} {e : Env} {R : Room} {s : State} {m : MethodId} {args : Array Value} {below : List Frame} {meth : Method} {c : Code} {H : Heap} {locs : List Loc} {cells slots : Nat} {Q : State → Prop}
variable {cc : ByteArray} {pc : Nat} {ls : Array Slot} {rest : List Value}
theorem hn_iadd (hexec : p.tables.exec = Jvm.exec) (hb : c.code = cc) {a b : Nat} (hdg : decode cc pc = .ok (.iadd, 1)) (k : W p l e R s m args below meth c H locs cells slots Q (F0 m (pc + 1) ls (.int (nI (a + b)) :: rest))) : W p l e R s m args below meth c H locs cells slots Q (F0 m pc ls (.int (nI b) :: .int (nI a) :: rest)) := lv_iadd hexec hb hdg (hm_top (congrArg Value.int (nI_add a b)) k)
theorem hn_imul (hexec : p.tables.exec = Jvm.exec) (hb : c.code = cc) {a b : Nat} (hdg : decode cc pc = .ok (.imul, 1)) (k : W p l e R s m args below meth c H locs cells slots Q (F0 m (pc + 1) ls (.int (nI (a * b)) :: rest))) : W p l e R s m args below meth c H locs cells slots Q (F0 m pc ls (.int (nI b) :: .int (nI a) :: rest)) := lv_imul hexec hb hdg (hm_top (congrArg Value.int (pk_mul a b)) k)
theorem hn_isub (hexec : p.tables.exec = Jvm.exec) (hb : c.code = cc) {a b : Nat} (hle : b ≤ a) (hdg : decode cc pc = .ok (.isub, 1)) (k : W p l e R s m args below meth c H locs cells slots Q (F0 m (pc + 1) ls (.int (nI (a - b)) :: rest))) : W p l e R s m args below meth c H locs cells slots Q (F0 m pc ls (.int (nI b) :: .int (nI a) :: rest)) := lv_isub hexec hb hdg (hm_top (congrArg Value.int (pk_sub hle)) k)
theorem hn_icmp_lt (hexec : p.tables.exec = Jvm.exec) (hb : c.code = cc) {a b : Nat} (ha : a < 2 ^ 31) (hb2 : b < 2 ^ 31) {off : Int} {tgt : Nat} (hdg : decode cc pc = .ok (.if_icmp .lt off, 3)) (ht : (pc : Int) + off = (tgt : Int)) (kt : a < b → W p l e R s m args below meth c H locs cells slots Q (F0 m tgt ls rest)) (kf : b ≤ a → W p l e R s m args below meth c H locs cells slots Q (F0 m (pc + 3) ls rest)) : W p l e R s m args below meth c H locs cells slots Q (F0 m pc ls (.int (nI b) :: .int (nI a) :: rest)) := lv_icmp_lt hexec hb hdg ht (fun h => kt ((nI_ltI ha hb2).mp h)) (fun h => kf (Nat.not_lt.mp (fun z => h ((nI_ltI ha hb2).mpr z))))
theorem hn_icmp_ge (hexec : p.tables.exec = Jvm.exec) (hb : c.code = cc) {a b : Nat} (ha : a < 2 ^ 31) (hb2 : b < 2 ^ 31) {off : Int} {tgt : Nat} (hdg : decode cc pc = .ok (.if_icmp .ge off, 3)) (ht : (pc : Int) + off = (tgt : Int)) (kt : b ≤ a → W p l e R s m args below meth c H locs cells slots Q (F0 m tgt ls rest)) (kf : a < b → W p l e R s m args below meth c H locs cells slots Q (F0 m (pc + 3) ls rest)) : W p l e R s m args below meth c H locs cells slots Q (F0 m pc ls (.int (nI b) :: .int (nI a) :: rest)) := lv_icmp_ge hexec hb hdg ht (fun h => kt ((nI_leI hb2 ha).mp h)) (fun h => kf (Nat.not_le.mp (fun z => h ((nI_leI hb2 ha).mpr z))))
theorem hn_icmp_gt (hexec : p.tables.exec = Jvm.exec) (hb : c.code = cc) {a b : Nat} (ha : a < 2 ^ 31) (hb2 : b < 2 ^ 31) {off : Int} {tgt : Nat} (hdg : decode cc pc = .ok (.if_icmp .gt off, 3)) (ht : (pc : Int) + off = (tgt : Int)) (kt : b < a → W p l e R s m args below meth c H locs cells slots Q (F0 m tgt ls rest)) (kf : a ≤ b → W p l e R s m args below meth c H locs cells slots Q (F0 m (pc + 3) ls rest)) : W p l e R s m args below meth c H locs cells slots Q (F0 m pc ls (.int (nI b) :: .int (nI a) :: rest)) := lv_icmp_gt hexec hb hdg ht (fun h => kt ((nI_ltI hb2 ha).mp h)) (fun h => kf (Nat.not_lt.mp (fun z => h ((nI_ltI hb2 ha).mpr z))))
theorem hn_icmp_le (hexec : p.tables.exec = Jvm.exec) (hb : c.code = cc) {a b : Nat} (ha : a < 2 ^ 31) (hb2 : b < 2 ^ 31) {off : Int} {tgt : Nat} (hdg : decode cc pc = .ok (.if_icmp .le off, 3)) (ht : (pc : Int) + off = (tgt : Int)) (kt : a ≤ b → W p l e R s m args below meth c H locs cells slots Q (F0 m tgt ls rest)) (kf : b < a → W p l e R s m args below meth c H locs cells slots Q (F0 m (pc + 3) ls rest)) : W p l e R s m args below meth c H locs cells slots Q (F0 m pc ls (.int (nI b) :: .int (nI a) :: rest)) := lv_icmp_le hexec hb hdg ht (fun h => kt ((nI_leI ha hb2).mp h)) (fun h => kf (Nat.not_le.mp (fun z => h ((nI_leI ha hb2).mpr z))))
theorem hn_icmp_eq (hexec : p.tables.exec = Jvm.exec) (hb : c.code = cc) {a b : Nat} (ha : a < 2 ^ 31) (hb2 : b < 2 ^ 31) {off : Int} {tgt : Nat} (hdg : decode cc pc = .ok (.if_icmp .eq off, 3)) (ht : (pc : Int) + off = (tgt : Int)) (kt : a = b → W p l e R s m args below meth c H locs cells slots Q (F0 m tgt ls rest)) (kf : a ≠ b → W p l e R s m args below meth c H locs cells slots Q (F0 m (pc + 3) ls rest)) : W p l e R s m args below meth c H locs cells slots Q (F0 m pc ls (.int (nI b) :: .int (nI a) :: rest)) := lv_icmp_eq hexec hb hdg ht (fun h => kt ((nI_eq ha hb2).mp h)) (fun h => kf (fun z => h ((nI_eq ha hb2).mpr z)))
theorem hn_icmp_ne (hexec : p.tables.exec = Jvm.exec) (hb : c.code = cc) {a b : Nat} (ha : a < 2 ^ 31) (hb2 : b < 2 ^ 31) {off : Int} {tgt : Nat} (hdg : decode cc pc = .ok (.if_icmp .ne off, 3)) (ht : (pc : Int) + off = (tgt : Int)) (kt : a ≠ b → W p l e R s m args below meth c H locs cells slots Q (F0 m tgt ls rest)) (kf : a = b → W p l e R s m args below meth c H locs cells slots Q (F0 m (pc + 3) ls rest)) : W p l e R s m args below meth c H locs cells slots Q (F0 m pc ls (.int (nI b) :: .int (nI a) :: rest)) := lv_icmp_ne hexec hb hdg ht (fun h => kt (fun z => h ((nI_eq ha hb2).mpr z))) (fun h => kf ((nI_eq ha hb2).mp h))
theorem hn_if_eq (hexec : p.tables.exec = Jvm.exec) (hb : c.code = cc) {a : Nat} (ha : a < 2 ^ 31) {off : Int} {tgt : Nat} (hdg : decode cc pc = .ok (.ifCond .eq off, 3)) (ht : (pc : Int) + off = (tgt : Int)) (kt : a = 0 → W p l e R s m args below meth c H locs cells slots Q (F0 m tgt ls rest)) (kf : a ≠ 0 → W p l e R s m args below meth c H locs cells slots Q (F0 m (pc + 3) ls rest)) : W p l e R s m args below meth c H locs cells slots Q (F0 m pc ls (.int (nI a) :: rest)) := lv_if_eq hexec hb hdg ht (fun h => kt ((nI_eq ha (by decide)).mp h)) (fun h => kf (fun z => h ((nI_eq ha (by decide)).mpr z)))
theorem hn_if_ne (hexec : p.tables.exec = Jvm.exec) (hb : c.code = cc) {a : Nat} (ha : a < 2 ^ 31) {off : Int} {tgt : Nat} (hdg : decode cc pc = .ok (.ifCond .ne off, 3)) (ht : (pc : Int) + off = (tgt : Int)) (kt : a ≠ 0 → W p l e R s m args below meth c H locs cells slots Q (F0 m tgt ls rest)) (kf : a = 0 → W p l e R s m args below meth c H locs cells slots Q (F0 m (pc + 3) ls rest)) : W p l e R s m args below meth c H locs cells slots Q (F0 m pc ls (.int (nI a) :: rest)) := lv_if_ne hexec hb hdg ht (fun h => kt (fun z => h ((nI_eq ha (by decide)).mpr z))) (fun h => kf ((nI_eq (b := 0) ha (by decide)).mp h))
theorem hn_if_le (hexec : p.tables.exec = Jvm.exec) (hb : c.code = cc) {a : Nat} (ha : a < 2 ^ 31) {off : Int} {tgt : Nat} (hdg : decode cc pc = .ok (.ifCond .le off, 3)) (ht : (pc : Int) + off = (tgt : Int)) (kt : a = 0 → W p l e R s m args below meth c H locs cells slots Q (F0 m tgt ls rest)) (kf : a ≠ 0 → W p l e R s m args below meth c H locs cells slots Q (F0 m (pc + 3) ls rest)) : W p l e R s m args below meth c H locs cells slots Q (F0 m pc ls (.int (nI a) :: rest)) := lv_if_le hexec hb hdg ht (fun h => kt (Nat.le_zero.mp ((nI_leI (b := 0) ha (by decide)).mp h))) (fun h => kf (fun z => h ((nI_leI (b := 0) ha (by decide)).mpr (Nat.le_zero.mpr z))))
theorem hn_if_gt (hexec : p.tables.exec = Jvm.exec) (hb : c.code = cc) {a : Nat} (ha : a < 2 ^ 31) {off : Int} {tgt : Nat} (hdg : decode cc pc = .ok (.ifCond .gt off, 3)) (ht : (pc : Int) + off = (tgt : Int)) (kt : a ≠ 0 → W p l e R s m args below meth c H locs cells slots Q (F0 m tgt ls rest)) (kf : a = 0 → W p l e R s m args below meth c H locs cells slots Q (F0 m (pc + 3) ls rest)) : W p l e R s m args below meth c H locs cells slots Q (F0 m pc ls (.int (nI a) :: rest)) := lv_if_gt hexec hb hdg ht (fun h => kt (Nat.pos_iff_ne_zero.mp ((nI_ltI (a := 0) (by decide) ha).mp h))) (fun h => kf (Classical.byContradiction fun z => h ((nI_ltI (a := 0) (by decide) ha).mpr (Nat.pos_iff_ne_zero.mpr z))))
theorem hn_if_lt (hexec : p.tables.exec = Jvm.exec) (hb : c.code = cc) {a : Nat} (ha : a < 2 ^ 31) {off : Int} {tgt : Nat} (hdg : decode cc pc = .ok (.ifCond .lt off, 3)) (ht : (pc : Int) + off = (tgt : Int)) (kf : W p l e R s m args below meth c H locs cells slots Q (F0 m (pc + 3) ls rest)) : W p l e R s m args below meth c H locs cells slots Q (F0 m pc ls (.int (nI a) :: rest)) := lv_if_lt hexec hb hdg ht (fun h => absurd h (nI_pos ha)) (fun _ => kf)
theorem hn_if_ge (hexec : p.tables.exec = Jvm.exec) (hb : c.code = cc) {a : Nat} (ha : a < 2 ^ 31) {off : Int} {tgt : Nat} (hdg : decode cc pc = .ok (.ifCond .ge off, 3)) (ht : (pc : Int) + off = (tgt : Int)) (kt : W p l e R s m args below meth c H locs cells slots Q (F0 m tgt ls rest)) : W p l e R s m args below meth c H locs cells slots Q (F0 m pc ls (.int (nI a) :: rest)) := lv_if_ge hexec hb hdg ht (fun _ => kt) (fun h => absurd (nI_pos' ha) h)
theorem hb_if_eq (hexec : p.tables.exec = Jvm.exec) (hb : c.code = cc) {b : Bool} {off : Int} {tgt : Nat} (hdg : decode cc pc = .ok (.ifCond .eq off, 3)) (ht : (pc : Int) + off = (tgt : Int)) (kt : b = false → W p l e R s m args below meth c H locs cells slots Q (F0 m tgt ls rest)) (kf : b = true → W p l e R s m args below meth c H locs cells slots Q (F0 m (pc + 3) ls rest)) : W p l e R s m args below meth c H locs cells slots Q (F0 m pc ls (.int (bI b) :: rest)) := lv_if_eq hexec hb hdg ht (fun h => kt (bI_0.mp h)) (fun h => kf (by cases b with | true => rfl | false => exact absurd rfl h))
theorem hb_if_ne (hexec : p.tables.exec = Jvm.exec) (hb : c.code = cc) {b : Bool} {off : Int} {tgt : Nat} (hdg : decode cc pc = .ok (.ifCond .ne off, 3)) (ht : (pc : Int) + off = (tgt : Int)) (kt : b = true → W p l e R s m args below meth c H locs cells slots Q (F0 m tgt ls rest)) (kf : b = false → W p l e R s m args below meth c H locs cells slots Q (F0 m (pc + 3) ls rest)) : W p l e R s m args below meth c H locs cells slots Q (F0 m pc ls (.int (bI b) :: rest)) := lv_if_ne hexec hb hdg ht (fun h => kt (by cases b with | true => rfl | false => exact absurd rfl h)) (fun h => kf (by cases b with | false => rfl | true => exact absurd h (show bI true ≠ 0 by decide)))
theorem hr_icmp_lt (hexec : p.tables.exec = Jvm.exec) (hb : c.code = cc) {x y : Int32} {c9 : Int} (hc : y.toInt = c9) {off : Int} {tgt : Nat} (hdg : decode cc pc = .ok (.if_icmp .lt off, 3)) (ht : (pc : Int) + off = (tgt : Int)) (kt : x.toInt < c9 → W p l e R s m args below meth c H locs cells slots Q (F0 m tgt ls rest)) (kf : c9 ≤ x.toInt → W p l e R s m args below meth c H locs cells slots Q (F0 m (pc + 3) ls rest)) : W p l e R s m args below meth c H locs cells slots Q (F0 m pc ls (.int y :: .int x :: rest)) := lv_icmp_lt hexec hb hdg ht (fun h => kt (by first | (rw [i32_lt] at h; omega) | (rw [i32_le] at h; omega))) (fun h => kf (by first | (rw [i32_lt] at h; omega) | (rw [i32_le] at h; omega)))
theorem hr_if_lt (hexec : p.tables.exec = Jvm.exec) (hb : c.code = cc) {x : Int32} {off : Int} {tgt : Nat} (hdg : decode cc pc = .ok (.ifCond .lt off, 3)) (ht : (pc : Int) + off = (tgt : Int)) (kt : x.toInt < 0 → W p l e R s m args below meth c H locs cells slots Q (F0 m tgt ls rest)) (kf : 0 ≤ x.toInt → W p l e R s m args below meth c H locs cells slots Q (F0 m (pc + 3) ls rest)) : W p l e R s m args below meth c H locs cells slots Q (F0 m pc ls (.int x :: rest)) := lv_if_lt hexec hb hdg ht (fun h => kt (by first | (rw [i32_lt, k_0] at h; omega) | (rw [i32_le, k_0] at h; omega))) (fun h => kf (by first | (rw [i32_lt, k_0] at h; omega) | (rw [i32_le, k_0] at h; omega)))
theorem hr_icmp_ge (hexec : p.tables.exec = Jvm.exec) (hb : c.code = cc) {x y : Int32} {c9 : Int} (hc : y.toInt = c9) {off : Int} {tgt : Nat} (hdg : decode cc pc = .ok (.if_icmp .ge off, 3)) (ht : (pc : Int) + off = (tgt : Int)) (kt : c9 ≤ x.toInt → W p l e R s m args below meth c H locs cells slots Q (F0 m tgt ls rest)) (kf : x.toInt < c9 → W p l e R s m args below meth c H locs cells slots Q (F0 m (pc + 3) ls rest)) : W p l e R s m args below meth c H locs cells slots Q (F0 m pc ls (.int y :: .int x :: rest)) := lv_icmp_ge hexec hb hdg ht (fun h => kt (by first | (rw [i32_lt] at h; omega) | (rw [i32_le] at h; omega))) (fun h => kf (by first | (rw [i32_lt] at h; omega) | (rw [i32_le] at h; omega)))
theorem hr_if_ge (hexec : p.tables.exec = Jvm.exec) (hb : c.code = cc) {x : Int32} {off : Int} {tgt : Nat} (hdg : decode cc pc = .ok (.ifCond .ge off, 3)) (ht : (pc : Int) + off = (tgt : Int)) (kt : 0 ≤ x.toInt → W p l e R s m args below meth c H locs cells slots Q (F0 m tgt ls rest)) (kf : x.toInt < 0 → W p l e R s m args below meth c H locs cells slots Q (F0 m (pc + 3) ls rest)) : W p l e R s m args below meth c H locs cells slots Q (F0 m pc ls (.int x :: rest)) := lv_if_ge hexec hb hdg ht (fun h => kt (by first | (rw [i32_lt, k_0] at h; omega) | (rw [i32_le, k_0] at h; omega))) (fun h => kf (by first | (rw [i32_lt, k_0] at h; omega) | (rw [i32_le, k_0] at h; omega)))
theorem hr_icmp_gt (hexec : p.tables.exec = Jvm.exec) (hb : c.code = cc) {x y : Int32} {c9 : Int} (hc : y.toInt = c9) {off : Int} {tgt : Nat} (hdg : decode cc pc = .ok (.if_icmp .gt off, 3)) (ht : (pc : Int) + off = (tgt : Int)) (kt : c9 < x.toInt → W p l e R s m args below meth c H locs cells slots Q (F0 m tgt ls rest)) (kf : x.toInt ≤ c9 → W p l e R s m args below meth c H locs cells slots Q (F0 m (pc + 3) ls rest)) : W p l e R s m args below meth c H locs cells slots Q (F0 m pc ls (.int y :: .int x :: rest)) := lv_icmp_gt hexec hb hdg ht (fun h => kt (by first | (rw [i32_lt] at h; omega) | (rw [i32_le] at h; omega))) (fun h => kf (by first | (rw [i32_lt] at h; omega) | (rw [i32_le] at h; omega)))
theorem hr_if_gt (hexec : p.tables.exec = Jvm.exec) (hb : c.code = cc) {x : Int32} {off : Int} {tgt : Nat} (hdg : decode cc pc = .ok (.ifCond .gt off, 3)) (ht : (pc : Int) + off = (tgt : Int)) (kt : 0 < x.toInt → W p l e R s m args below meth c H locs cells slots Q (F0 m tgt ls rest)) (kf : x.toInt ≤ 0 → W p l e R s m args below meth c H locs cells slots Q (F0 m (pc + 3) ls rest)) : W p l e R s m args below meth c H locs cells slots Q (F0 m pc ls (.int x :: rest)) := lv_if_gt hexec hb hdg ht (fun h => kt (by first | (rw [i32_lt, k_0] at h; omega) | (rw [i32_le, k_0] at h; omega))) (fun h => kf (by first | (rw [i32_lt, k_0] at h; omega) | (rw [i32_le, k_0] at h; omega)))
theorem hr_icmp_le (hexec : p.tables.exec = Jvm.exec) (hb : c.code = cc) {x y : Int32} {c9 : Int} (hc : y.toInt = c9) {off : Int} {tgt : Nat} (hdg : decode cc pc = .ok (.if_icmp .le off, 3)) (ht : (pc : Int) + off = (tgt : Int)) (kt : x.toInt ≤ c9 → W p l e R s m args below meth c H locs cells slots Q (F0 m tgt ls rest)) (kf : c9 < x.toInt → W p l e R s m args below meth c H locs cells slots Q (F0 m (pc + 3) ls rest)) : W p l e R s m args below meth c H locs cells slots Q (F0 m pc ls (.int y :: .int x :: rest)) := lv_icmp_le hexec hb hdg ht (fun h => kt (by first | (rw [i32_lt] at h; omega) | (rw [i32_le] at h; omega))) (fun h => kf (by first | (rw [i32_lt] at h; omega) | (rw [i32_le] at h; omega)))
theorem hr_if_le (hexec : p.tables.exec = Jvm.exec) (hb : c.code = cc) {x : Int32} {off : Int} {tgt : Nat} (hdg : decode cc pc = .ok (.ifCond .le off, 3)) (ht : (pc : Int) + off = (tgt : Int)) (kt : x.toInt ≤ 0 → W p l e R s m args below meth c H locs cells slots Q (F0 m tgt ls rest)) (kf : 0 < x.toInt → W p l e R s m args below meth c H locs cells slots Q (F0 m (pc + 3) ls rest)) : W p l e R s m args below meth c H locs cells slots Q (F0 m pc ls (.int x :: rest)) := lv_if_le hexec hb hdg ht (fun h => kt (by first | (rw [i32_lt, k_0] at h; omega) | (rw [i32_le, k_0] at h; omega))) (fun h => kf (by first | (rw [i32_lt, k_0] at h; omega) | (rw [i32_le, k_0] at h; omega)))
theorem hr_icmp_eq (hexec : p.tables.exec = Jvm.exec) (hb : c.code = cc) {x y : Int32} {off : Int} {tgt : Nat} (hdg : decode cc pc = .ok (.if_icmp .eq off, 3)) (ht : (pc : Int) + off = (tgt : Int)) (kt : x = y → W p l e R s m args below meth c H locs cells slots Q (F0 m tgt ls rest)) (kf : x ≠ y → W p l e R s m args below meth c H locs cells slots Q (F0 m (pc + 3) ls rest)) : W p l e R s m args below meth c H locs cells slots Q (F0 m pc ls (.int y :: .int x :: rest)) := lv_icmp_eq hexec hb hdg ht (fun h => kt h) (fun h => kf h)
theorem hc_icmp_eq (hexec : p.tables.exec = Jvm.exec) (hb : c.code = cc) {x y : Int32} {c9 : Int} (hc : y.toInt = c9) {off : Int} {tgt : Nat} (hdg : decode cc pc = .ok (.if_icmp .eq off, 3)) (ht : (pc : Int) + off = (tgt : Int)) (kt : x.toInt = c9 → W p l e R s m args below meth c H locs cells slots Q (F0 m tgt ls rest)) (kf : x.toInt ≠ c9 → W p l e R s m args below meth c H locs cells slots Q (F0 m (pc + 3) ls rest)) : W p l e R s m args below meth c H locs cells slots Q (F0 m pc ls (.int y :: .int x :: rest)) := lv_icmp_eq hexec hb hdg ht (fun h => kt (by first | (rw [← hc]; exact i32_eq.mp h) | (rw [← hc]; exact fun z => h (i32_eq.mpr z)))) (fun h => kf (by first | (rw [← hc]; exact i32_eq.mp h) | (rw [← hc]; exact fun z => h (i32_eq.mpr z))))
theorem hc_if_eq (hexec : p.tables.exec = Jvm.exec) (hb : c.code = cc) {x : Int32} {off : Int} {tgt : Nat} (hdg : decode cc pc = .ok (.ifCond .eq off, 3)) (ht : (pc : Int) + off = (tgt : Int)) (kt : x.toInt = 0 → W p l e R s m args below meth c H locs cells slots Q (F0 m tgt ls rest)) (kf : x.toInt ≠ 0 → W p l e R s m args below meth c H locs cells slots Q (F0 m (pc + 3) ls rest)) : W p l e R s m args below meth c H locs cells slots Q (F0 m pc ls (.int x :: rest)) := lv_if_eq hexec hb hdg ht (fun h => kt (by first | (rw [← k_0]; exact i32_eq.mp h) | (rw [← k_0]; exact fun z => h (i32_eq.mpr z)))) (fun h => kf (by first | (rw [← k_0]; exact i32_eq.mp h) | (rw [← k_0]; exact fun z => h (i32_eq.mpr z))))
theorem hr_icmp_ne (hexec : p.tables.exec = Jvm.exec) (hb : c.code = cc) {x y : Int32} {off : Int} {tgt : Nat} (hdg : decode cc pc = .ok (.if_icmp .ne off, 3)) (ht : (pc : Int) + off = (tgt : Int)) (kt : x ≠ y → W p l e R s m args below meth c H locs cells slots Q (F0 m tgt ls rest)) (kf : x = y → W p l e R s m args below meth c H locs cells slots Q (F0 m (pc + 3) ls rest)) : W p l e R s m args below meth c H locs cells slots Q (F0 m pc ls (.int y :: .int x :: rest)) := lv_icmp_ne hexec hb hdg ht (fun h => kt h) (fun h => kf h)
theorem hc_icmp_ne (hexec : p.tables.exec = Jvm.exec) (hb : c.code = cc) {x y : Int32} {c9 : Int} (hc : y.toInt = c9) {off : Int} {tgt : Nat} (hdg : decode cc pc = .ok (.if_icmp .ne off, 3)) (ht : (pc : Int) + off = (tgt : Int)) (kt : x.toInt ≠ c9 → W p l e R s m args below meth c H locs cells slots Q (F0 m tgt ls rest)) (kf : x.toInt = c9 → W p l e R s m args below meth c H locs cells slots Q (F0 m (pc + 3) ls rest)) : W p l e R s m args below meth c H locs cells slots Q (F0 m pc ls (.int y :: .int x :: rest)) := lv_icmp_ne hexec hb hdg ht (fun h => kt (by first | (rw [← hc]; exact i32_eq.mp h) | (rw [← hc]; exact fun z => h (i32_eq.mpr z)))) (fun h => kf (by first | (rw [← hc]; exact i32_eq.mp h) | (rw [← hc]; exact fun z => h (i32_eq.mpr z))))
theorem hc_if_ne (hexec : p.tables.exec = Jvm.exec) (hb : c.code = cc) {x : Int32} {off : Int} {tgt : Nat} (hdg : decode cc pc = .ok (.ifCond .ne off, 3)) (ht : (pc : Int) + off = (tgt : Int)) (kt : x.toInt ≠ 0 → W p l e R s m args below meth c H locs cells slots Q (F0 m tgt ls rest)) (kf : x.toInt = 0 → W p l e R s m args below meth c H locs cells slots Q (F0 m (pc + 3) ls rest)) : W p l e R s m args below meth c H locs cells slots Q (F0 m pc ls (.int x :: rest)) := lv_if_ne hexec hb hdg ht (fun h => kt (by first | (rw [← k_0]; exact i32_eq.mp h) | (rw [← k_0]; exact fun z => h (i32_eq.mpr z)))) (fun h => kf (by first | (rw [← k_0]; exact i32_eq.mp h) | (rw [← k_0]; exact fun z => h (i32_eq.mpr z))))
theorem ho_aload (hexec : p.tables.exec = Jvm.exec) (hb : c.code = cc) {i : Nat} {x : Option Nat} (hdg : decode cc pc = .ok (.aload i, 2)) (hl : ls[i]? = some (.val (va_rf x))) (k : W p l e R s m args below meth c H locs cells slots Q (F0 m (pc + 2) ls (va_rf x :: rest))) : W p l e R s m args below meth c H locs cells slots Q (F0 m pc ls rest) := by
  cases x with
  | none => exact lv_aloadN hexec hb hdg hl k
  | some y => exact lv_aload hexec hb hdg hl k
theorem ho_aload_n (hexec : p.tables.exec = Jvm.exec) (hb : c.code = cc) {j : Fin 4} {i : Nat} {x : Option Nat} (hdg : decode cc pc = .ok (.aload_n j, 1)) (hi : (j : Nat) = i) (hl : ls[i]? = some (.val (va_rf x))) (k : W p l e R s m args below meth c H locs cells slots Q (F0 m (pc + 1) ls (va_rf x :: rest))) : W p l e R s m args below meth c H locs cells slots Q (F0 m pc ls rest) := by
  cases x with
  | none => exact lv_aload_nN hexec hb hdg hi hl k
  | some y => exact lv_aload_n hexec hb hdg hi hl k
theorem ho_astore (hexec : p.tables.exec = Jvm.exec) (hb : c.code = cc) {i nL : Nat} {x : Option Nat} {lv lv' : List (Nat × Value)} (hdg : decode cc pc = .ok (.astore i, 2)) (h : lv_has ls nL lv) (hn : i < nL) (hl : (i, va_rf x) :: lv.filter (fun q => !(q.1 == i) && !(q.1 + 1 == i && q.2.category == 2)) = lv') (k : ∀ ls' : Array Slot, lv_has ls' nL lv' → W p l e R s m args below meth c H locs cells slots Q (F0 m (pc + 2) ls' rest)) : W p l e R s m args below meth c H locs cells slots Q (F0 m pc ls (va_rf x :: rest)) := by
  cases x with
  | none => exact lv_astoreN hexec hb hdg h hn hl k
  | some y => exact lv_astore hexec hb hdg h hn hl k
theorem ho_astore_n (hexec : p.tables.exec = Jvm.exec) (hb : c.code = cc) {j : Fin 4} {i nL : Nat} {x : Option Nat} {lv lv' : List (Nat × Value)} (hdg : decode cc pc = .ok (.astore_n j, 1)) (hi : (j : Nat) = i) (h : lv_has ls nL lv) (hn : i < nL) (hl : (i, va_rf x) :: lv.filter (fun q => !(q.1 == i) && !(q.1 + 1 == i && q.2.category == 2)) = lv') (k : ∀ ls' : Array Slot, lv_has ls' nL lv' → W p l e R s m args below meth c H locs cells slots Q (F0 m (pc + 1) ls' rest)) : W p l e R s m args below meth c H locs cells slots Q (F0 m pc ls (va_rf x :: rest)) := by
  cases x with
  | none => exact lv_astore_nN hexec hb hdg hi h hn hl k
  | some y => exact lv_astore_n hexec hb hdg hi h hn hl k
end HN
end
section
/-! CONTRACTS: a method's start is a map, its end an answer and a map. gk (the tables' knowledge) is carried by every contract. -/
abbrev hG : Type := va_G × ClassId × ClassId
abbrev aI (G : hG) (n : Nat) (f : Nat → Int32) : va_E := .inl (G.2.1, n, .inl f)
abbrev aJ (G : hG) (n : Nat) (f : Nat → Int64) : va_E := .inl (G.2.2, n, .inr (.inl f))
abbrev tyG (G : hG) : List (ClassId × FieldType) := [(G.2.1, .int), (G.2.2, .long)]
def hm_Q (D : va_G) (cl : List vw_C) (post : Option Value → hM → Prop) (A : Nat → Prop) : Array Value → State → Outcome → State → Prop := fun _ st oc t =>
  (∃ (r : Option Value) (M' : hM), oc = .returned r ∧ post r M' ∧ hm_P D cl M' t.heap ∧ ∀ (a : Nat) (e : va_E), M' a = some e → A a) ∧ va_F A st t
def ctP (gk : State → Prop) (D : va_G) (cl : List vw_C) (M : hM) (sz : Nat) (U : State) : Prop := U.heap.size = sz ∧ hm_P D cl M U.heap ∧ gk U
section HMC
variable {p : Program} {l : Launch} {e : Env} {R : Room} {s : State} {m : MethodId} {args : Array Value} {below : List Frame} {meth : Method} {c : Code} {H : Heap} {locs : List Loc} {cells slots : Nat} {Q : State → Prop}
variable {cc : ByteArray} {pc nL : Nat} {ls : Array Slot} {rest : List Value} {D : va_G} {cl : List vw_C} {A : Nat → Prop} {a : Nat} {M : hM} {H0 : Heap} {Ts : List Cond} {own : String} {post : Option Value → hM → Prop} {mc ms : Nat} {gk : State → Prop}
theorem hm_iret (E : CallFix p m c cc nL s args Ts own) (hr : meth.sig.returnType = some .int) (hlk : meth.locks = false) (hH : hm_I D cl A s.heap M H locs) {v : Int32} (hp : post (some (.int v)) M) (h1 : cells ≤ mc) (h2 : slots ≤ ms) (hdg : decode cc pc = .ok (.ireturn, 1)) :
    W p l e R s m args below meth c H locs cells slots (MQ below (hm_Q D cl post A) args s mc ms A) (F0 m pc ls [.int v]) :=
  W.widen h1 h2 (W.iret E.1 E.2.1 hr (fun t ht _ => ⟨⟨_, M, rfl, hp, by rw [ht]; exact hH.1, hH.2.1⟩, hH.2.2.1.F ht⟩) hH.2.2.1.2.2 hdg hlk)
theorem hm_zret (E : CallFix p m c cc nL s args Ts own) {ty : FieldType} (hr : meth.sig.returnType = some ty) (hlk : meth.locks = false) (hH : hm_I D cl A s.heap M H locs) {v : Int32} (hn : narrow ty (.int v) = .int v) (hp : post (some (.int v)) M) (h1 : cells ≤ mc) (h2 : slots ≤ ms) (hdg : decode cc pc = .ok (.ireturn, 1)) :
    W p l e R s m args below meth c H locs cells slots (MQ below (hm_Q D cl post A) args s mc ms A) (F0 m pc ls [.int v]) :=
  W.widen h1 h2 (W.zret E.1 E.2.1 hr hn (fun t ht _ => ⟨⟨_, M, rfl, hp, by rw [ht]; exact hH.1, hH.2.1⟩, hH.2.2.1.F ht⟩) hH.2.2.1.2.2 hdg hlk)
theorem hm_lret (E : CallFix p m c cc nL s args Ts own) (hr : meth.sig.returnType = some .long) (hlk : meth.locks = false) (hH : hm_I D cl A s.heap M H locs) {v : Int64} (hp : post (some (.long v)) M) (h1 : cells ≤ mc) (h2 : slots ≤ ms) (hdg : decode cc pc = .ok (.lreturn, 1)) :
    W p l e R s m args below meth c H locs cells slots (MQ below (hm_Q D cl post A) args s mc ms A) (F0 m pc ls [.long v]) :=
  W.widen h1 h2 (W.lret E.1 E.2.1 hr (fun t ht _ => ⟨⟨_, M, rfl, hp, by rw [ht]; exact hH.1, hH.2.1⟩, hH.2.2.1.F ht⟩) hH.2.2.1.2.2 hdg hlk)
theorem hm_vret (E : CallFix p m c cc nL s args Ts own) (hr : meth.sig.returnType = none) (hlk : meth.locks = false) (hH : hm_I D cl A s.heap M H locs) (hp : post none M) (h1 : cells ≤ mc) (h2 : slots ≤ ms) (hdg : decode cc pc = .ok (.return_, 1)) :
    W p l e R s m args below meth c H locs cells slots (MQ below (hm_Q D cl post A) args s mc ms A) (F0 m pc ls []) :=
  W.widen h1 h2 (W.vret E.1 E.2.1 hr (fun t ht _ => ⟨⟨_, M, rfl, hp, by rw [ht]; exact hH.1, hH.2.1⟩, hH.2.2.1.F ht⟩) hH.2.2.1.2.2 hdg hlk)
theorem hm_aret (E : CallFix p m c cc nL s args Ts own) {rt : FieldType} (hr : meth.sig.returnType = some rt) (hrt : (∃ n, rt = .object n) ∨ ∃ t, rt = .array t) (hlk : meth.locks = false) (hH : hm_I D cl A s.heap M H locs) {x : Option Nat} (hp : post (some (va_rf x)) M) (h1 : cells ≤ mc) (h2 : slots ≤ ms) (hdg : decode cc pc = .ok (.areturn, 1)) :
    W p l e R s m args below meth c H locs cells slots (MQ below (hm_Q D cl post A) args s mc ms A) (F0 m pc ls [va_rf x]) :=
  W.widen h1 h2 (W.aret E.1 E.2.1 hr hrt (by cases x with | none => exact Or.inl rfl | some y => exact Or.inr ⟨y, rfl⟩) (fun t ht _ => ⟨⟨_, M, rfl, hp, by rw [ht]; exact hH.1, hH.2.1⟩, hH.2.2.1.F ht⟩) hH.2.2.1.2.2 hdg hlk)
theorem hm_preS (hgw : ∀ {s U : State}, s.WarmedH U.vm → gk s → gk U) (hgs : ∀ {u U : State}, u.vm = U.vm → gk u → gk U) (hH : hm_I D cl A H0 M H locs) (hK : gk s) (As : List Value) : PreS s H (va_Pc As (ctP gk D cl M H.size)) As :=
  ⟨fun a U g mk q => ⟨q.1, q.2.1, q.2.2.1, hgs (u := U) (U := U.calling g mk a) rfl q.2.2.2⟩, fun U hU hW => ⟨rfl, by rw [hU], by rw [hU]; exact hH.1, hgw hW hK⟩⟩
theorem hm_preV (hgw : ∀ {s U : State}, s.WarmedH U.vm → gk s → gk U) (hgs : ∀ {u U : State}, u.vm = U.vm → gk u → gk U) (hH : hm_I D cl A H0 M H locs) (hK : gk s) {tys : List (ClassId × FieldType)} (hKc : va_K D cl tys s) {b ci : Nat} {fs : List Value} {q : vw_C} (he : M b = some (.inr (ci, fs))) (hc : cl[ci]? = some q) (As : List Value) : PreV s H q.1 b (va_Pc (.ref b :: As) (ctP gk D cl M H.size)) As :=
  ⟨fun a U g mk q => ⟨q.1, q.2.1, q.2.2.1, hgs (u := U) (U := U.calling g mk a) rfl q.2.2.2⟩, va_recv hKc (hm_one hH.1 he) (ci := ci) (q0 := 0) hc rfl, fun U hU hW => ⟨rfl, by rw [hU], by rw [hU]; exact hH.1, hgw hW hK⟩⟩
theorem hm_call {st0 : List Value} {av : Array Value} (hr : va_Run p l e R s m args below meth c H locs cells slots mc ms (F0 m pc ls st0) rest (hm_Q D cl post (hm_A M H.size) av) (hm_A M H.size)) (hH : hm_I D cl A H0 M H locs)
    (kk : ∀ (r : Option Value) (M' : hM) (H1 : Heap) (locs1 : List Loc), post r M' → hm_I D cl A H0 M' H1 locs1 → W p l e R s m args below meth c H1 locs1 (cells + mc) (slots + ms) Q (F0 m (pc + 3) ls (r.toList ++ rest))) : W p l e R s m args below meth c H locs cells slots Q (F0 m pc ls st0) := by
  intro T hT X
  obtain ⟨v, st₀, t, T', L, h0, X', hL, e1, e2, ⟨⟨r, M', hv, hp, hb, ha⟩, hz, hk⟩, st⟩ := hr T hT X
  cases hv
  rw [h0] at hz hk
  obtain ⟨hP, hA, hS, hN⟩ := hH
  have hsub : ∀ q, hm_A M H.size q → A q := by
    rintro q (⟨x, hx⟩ | hq)
    · exact hA q x hx
    · exact hN q (Nat.le_trans hS.1 hq)
  obtain ⟨t2, a1, b1⟩ := kk v M' T'.heap (locs ++ L) hp ⟨by rw [e1]; exact hb, fun q x hx => hsub q (ha q x hx), ⟨Nat.le_trans hS.1 (by rw [e1]; exact hz), fun q h1 h2 => by rw [e1, hk q (Nat.lt_of_lt_of_le h1 hS.1) (fun z => h2 (hsub q z))]; exact hS.2.1 q h1 h2, fun q hq => by
      rcases List.mem_append.mp hq with h | h
      · exact hS.2.2 q h
      · exact hsub _ (hL q h)⟩, hN⟩ T' rfl X'
  exact ⟨t2, st t2 a1, b1⟩
end HMC
/-- a contract over maps -/
def Ct (gk : State → Prop) (l : Launch) (D : va_G) (cl : List vw_C) (y : MethodName) (ws : List Cond) (rm : Room) (av : List Value) (M : hM) (post : Option Value → hM → Prop) (mc ms : Nat) : Prop :=
  ∀ sz : Nat, Met l y ws rm (va_Pc av (ctP gk D cl M sz)) (hm_Q D cl post (hm_A M sz)) mc ms (hm_A M sz)
theorem Ct.ofW {gk : State → Prop} {l : Launch} {D : va_G} {cl : List vw_C} {y : MethodName} {ws ws' : List Cond} {rm : Room} {av : List Value} {M : hM} {post : Option Value → hM → Prop} {mc ms : Nat} {cc : ByteArray} {maxL : Nat} {ret : Option FieldType}
    (hy : plainName y.cls = true) (hw : ws = Cond.code y cc maxL ret :: ws') (hfit : (lg_sl av).length ≤ maxL)
    (body : ∀ (p : Program) (e : Env) (s : State) (m : MethodId) (below : List Frame) (meth : Method) (c : Code) (A : Nat → Prop) (ls : Array Slot), CallFix p m c cc maxL s av.toArray ws y.cls → meth.sig.returnType = ret → meth.locks = false → meth.name = y.name → gk s → hm_I D cl A s.heap M s.heap [] → lv_has ls maxL (lv_args 0 av) →
      W p l e rm s m av.toArray below meth c s.heap [] 0 0 (MQ below (hm_Q D cl post A) av.toArray s mc ms A) (F0 m 0 ls [])) : Ct gk l D cl y ws rm av M post mc ms := by
  intro sz
  refine Met.ofW (cc := cc) (maxL := maxL) (ret := ret) hy hw ?_
  intro p e s m args below meth c s₁ B hml hv
  obtain ⟨rfl, hsz, hP, hK⟩ := hv
  have hts := atoms_spec (ws := ws) B.pre
  have hown : s.vm.findClass y.cls = some m.cls := findClass_of_methodNamed B.named
  subst hsz
  rw [lg_entry_eq]
  exact body p e s m below meth c (hm_A M s.heap.size) _ ⟨B.exec, B.bytes, hml, hown, hts⟩ B.returns B.notSynchronized (name_of_methodNamed B.named B.method).1 hK ⟨hP, fun a x h => Or.inl ⟨x, h⟩, va_S.rf, fun q h => Or.inr h⟩ (lv_entry av hfit)
end
section
/-! PATTERNS: what makes a draft one -/
def ped (d : Nat → Int32) : Nat → Nat
  | 0 => 0
  | k + 1 => if d k = 46 then ped d k + 1 else ped d k
theorem not_both {b : Int32} (h : isL b = true) : isDg b = false ∧ b ≠ 46 := by
  rw [isL_iff] at h
  refine ⟨?_, ?_⟩
  · cases hd : isDg b with
    | false => rfl
    | true => rw [isDg_iff] at hd; omega
  · rw [Ne, eq46_iff]; omega
theorem dg_46 : isDg 46 = false := by decide
theorem isL_46 : isL 46 = false := by decide
theorem pz_sum {d : Nat → Int32} {n : Nat} (h : ∀ k, k < n → isL (d k) = true ∨ isDg (d k) = true ∨ d k = 46) : pz d n = plt d n + ped d n := by
  induction n with
  | zero => rfl
  | succ n ih =>
    have ih := ih (fun k hk => h k (by omega))
    simp only [pz, plt, ped]
    by_cases h1 : isL (d n) = true
    · obtain ⟨h2, h3⟩ := not_both h1
      simp [h1, h2, h3]; omega
    · have h1 : isL (d n) = false := by simpa using h1
      by_cases h4 : d n = 46
      · have h5 : isDg (d n) = false := by rw [h4]; exact dg_46
        simp [h1, h5, h4]
        rw [h4] at h1
        simp [isL_46, dg_46]; omega
      · have h5 : isDg (d n) = true := by
          rcases h n (by omega) with z | z | z
          · rw [h1] at z; cases z
          · exact z
          · exact absurd z h4
        simp [h1, h5, h4]; omega
theorem ped_le {d : Nat → Int32} {n M : Nat} (hM : 1 ≤ M) (h : ∀ k, k < n → d k = 46 → pz d k = 0 ∨ pz d k + 1 = M) : ped d n ≤ (if 1 ≤ pz d n then 1 else 0) + (if M ≤ pz d n then 1 else 0) := by
  induction n with
  | zero => simp [ped]
  | succ n ih =>
    have ih := ih (fun k hk => h k (by omega))
    simp only [ped, pz]
    by_cases h4 : d n = 46
    · have h5 : isDg (d n) = false := by rw [h4]; exact dg_46
      simp only [h4, if_true]
      rw [h4] at h5
      simp only [h5]
      have := h n (by omega) h4
      simp at ih ⊢
      split at ih <;> split at ih <;> split <;> omega
    · simp only [h4, if_false]
      by_cases h5 : isDg (d n) = true
      · simp only [h5, if_true]; exact ih
      · have h5 : isDg (d n) = false := by simpa using h5
        simp only [h5]
        simp at ih ⊢
        split at ih <;> split at ih <;> split <;> omega
theorem pOk_len {d : Nat → Int32} {n : Nat} (h : pOk d n) : 1 ≤ pz d n ∧ pz d n ≤ 65 := by
  obtain ⟨h1, h2, h3, h4, h5⟩ := h
  have hs := pz_sum h1
  have hM : 1 ≤ pz d n := by omega
  have := ped_le hM h5
  refine ⟨hM, ?_⟩
  split at this <;> split at this <;> omega
/-- the letters among the first i signs -/
def sgl (f : Nat → Int32) : Nat → Nat
  | 0 => 0
  | i + 1 => if f i = 46 then sgl f i else sgl f i + 1
theorem sgl_psg {d : Nat → Int32} {n : Nat} (h : ∀ k, k < n → isL (d k) = true ∨ isDg (d k) = true ∨ d k = 46) : sgl (psg d n) (pz d n) = plt d n := by
  have key : ∀ (f g : Nat → Int32) (i : Nat), (∀ j, j < i → f j = g j) → sgl f i = sgl g i := by
    intro f g i hfg
    induction i with
    | zero => rfl
    | succ i ih => simp only [sgl, hfg i (by omega), ih (fun j hj => hfg j (by omega))]
  induction n with
  | zero => rfl
  | succ n ih =>
    have ih := ih (fun k hk => h k (by omega))
    by_cases hd : isDg (d n) = true
    · have hl : isL (d n) = false := by
        cases hl : isL (d n) with
        | false => rfl
        | true => rw [(not_both hl).1] at hd; cases hd
      simp only [pz, psg, plt, hd, hl, if_true]
      simpa using ih
    · have hd : isDg (d n) = false := by simpa using hd
      simp only [pz, psg, plt, hd]
      simp only [Bool.false_eq_true, if_false, sgl, upd_self]
      rw [key (upd (psg d n) (pz d n) (d n)) (psg d n) (pz d n) (fun j hj => upd_ne (by omega)), ih]
      by_cases h4 : d n = 46
      · simp [h4, isL_46]
      · have hl : isL (d n) = true := by
          rcases h n (by omega) with z | z | z
          · exact z
          · rw [hd] at z; cases z
          · exact absurd z h4
        simp [h4, hl]
theorem psg_edge {d : Nat → Int32} {n : Nat} : (∀ k, k < n → d k = 46 → pz d k = 0 ∨ pz d k + 1 = pz d n) ↔ ∀ i, i < pz d n → psg d n i = 46 → i = 0 ∨ i + 1 = pz d n := by
  constructor
  · intro h i hi h46
    obtain ⟨k, h1, h2, rfl⟩ := psg_of hi
    rw [psg_at h1 h2] at h46
    exact h k h1 h46
  · intro h k hk h46
    have hd : isDg (d k) = false := by rw [h46]; exact dg_46
    have h1 : pz d (k + 1) = pz d k + 1 := by simp [pz, hd]
    have h2 : pz d (k + 1) ≤ pz d n := pz_mono hk
    exact h (pz d k) (by omega) (by rw [psg_at hk hd]; exact h46)
theorem dig_val {b : Int32} (h : isDg b = true) : 0 ≤ b - 48 ∧ (b - 48).toInt ≤ 9 := by
  rw [isDg_iff] at h
  have e : (b - 48).toInt = b.toInt - 48 := by
    have e1 : (48 : Int32).toInt = 48 := by decide
    rw [Int32.toInt_sub, e1]
    apply Int.bmod_eq_of_le <;> omega
  rw [i32_le, e]
  have e0 : (0 : Int32).toInt = 0 := by decide
  rw [e0]
  omega
theorem pnm_nn (d : Nat → Int32) (n j : Nat) : 0 ≤ pnm d n j ∧ (pnm d n j).toInt ≤ 9 := by
  induction n with
  | zero => exact ⟨Int32.le_refl _, (by decide : (0 : Int32).toInt ≤ 9)⟩
  | succ n ih =>
    simp only [pnm]
    split
    · rename_i h
      by_cases hj : j = pz d n
      · subst hj
        rw [upd_self]
        exact dig_val h
      · rw [upd_ne hj]
        exact ih
    · exact ih
theorem pN_nn (d : Nat → Int32) (n j : Nat) : 0 ≤ pN d n j ∧ (pN d n j).toInt ≤ 9 := by
  have h0 : (0 : Int32) ≤ 0 ∧ (0 : Int32).toInt ≤ 9 := ⟨Int32.le_refl _, by decide⟩
  have h1 : 0 ≤ pN1 d n j ∧ (pN1 d n j).toInt ≤ 9 := by
    unfold pN1
    split
    · by_cases hj : j = 0
      · subst hj; rw [upd_self]; exact h0
      · rw [upd_ne hj]; exact pnm_nn d n j
    · exact pnm_nn d n j
  unfold pN
  split
  · by_cases hj : j = pz d n
    · subst hj; rw [upd_self]; exact h0
    · rw [upd_ne hj]; exact h1
  · exact h1
end
section
/-! EXCEPTIONS: what makes a draft one -/
theorem isL_45 : isL 45 = false := by decide
theorem xz_mono {d : Nat → Int32} {k n : Nat} (h : k ≤ n) : xz d k ≤ xz d n := by
  induction n with
  | zero => obtain rfl : k = 0 := by omega
            exact Nat.le_refl _
  | succ n ih =>
    rcases Nat.lt_or_ge n k with q | q
    · obtain rfl : k = n + 1 := by omega
      exact Nat.le_refl _
    · have := ih q
      simp only [xz]
      split <;> omega
theorem xz_le (d : Nat → Int32) (n : Nat) : xz d n ≤ n := by
  induction n with
  | zero => exact Nat.le_refl _
  | succ n ih => simp only [xz]; split <;> omega
theorem xOk_iff {d : Nat → Int32} {n : Nat} : xOk d n ↔ (0 < n ∧ (∀ k, k < n → isL (d k) = true ∨ (d k = 45 ∧ 0 < k ∧ isL (d (k - 1)) = true)) ∧ isL (d (n - 1)) = true ∧ xz d n ≤ 63) := by
  constructor
  · rintro ⟨h0, h1, h2, h3⟩
    refine ⟨h0, fun k hk => ?_, ?_, h3⟩
    · rcases h1 k hk with z | ⟨z1, z2, z3, z4⟩
      · exact Or.inl z
      · refine Or.inr ⟨z1, z2, ?_⟩
        rcases h1 (k - 1) (by omega) with y | y
        · exact y
        · exact absurd y.1 z4
    · rcases h1 (n - 1) (by omega) with z | ⟨z1, z2, z3, z4⟩
      · exact z
      · omega
  · rintro ⟨h0, h1, h2, h3⟩
    refine ⟨h0, fun k hk => ?_, ?_, h3⟩
    · rcases h1 k hk with z | ⟨z1, z2, z3⟩
      · exact Or.inl z
      · refine Or.inr ⟨z1, z2, ?_, fun y => ?_⟩
        · rcases Nat.lt_or_ge (k + 1) n with q | q
          · exact q
          · obtain rfl : k = n - 1 := by omega
            rw [z1, isL_45] at h2
            cases h2
        · rw [y, isL_45] at z3
          cases z3
    · have e : xz d (n - 1 + 1) ≤ xz d n := xz_mono (by omega)
      simp only [xz, h2, if_true] at e
      omega
theorem xsg_at {d : Nat → Int32} {k n : Nat} (h : k < n) (hl : isL (d k) = true) : xsg d n (xz d k) = d k := by
  induction n with
  | zero => omega
  | succ n ih =>
    rcases Nat.lt_or_ge k n with q | q
    · simp only [xsg]
      split
      · have h1 : xz d (k + 1) ≤ xz d n := xz_mono q
        have h2 : xz d (k + 1) = xz d k + 1 := by simp [xz, hl]
        rw [upd_ne (by omega)]
        exact ih q
      · exact ih q
    · obtain rfl : k = n := by omega
      simp only [xsg, hl, if_true]
      exact upd_self
theorem xsg_L {d : Nat → Int32} {n j : Nat} (h : j < xz d n) : isL (xsg d n j) = true := by
  induction n with
  | zero => simp [xz] at h
  | succ n ih =>
    by_cases hl : isL (d n) = true
    · simp only [xz, hl, if_true] at h
      simp only [xsg, hl, if_true]
      by_cases hj : j = xz d n
      · subst hj; rw [upd_self]; exact hl
      · rw [upd_ne hj]; exact ih (by omega)
    · have hl : isL (d n) = false := by simpa using hl
      simp only [xz, hl] at h
      simp only [xsg, hl]
      exact ih (by simpa using h)
end
section
/-! TREES OF BEGINNINGS, the pure side: st a c is a's child with sign c -/
def ag (f g : Nat → Int32) (i : Nat) : Prop := ∀ j, j < i → f j = g j
theorem ag.rf {f : Nat → Int32} {i : Nat} : ag f f i := fun _ _ => rfl
theorem ag.sm {f g : Nat → Int32} {i : Nat} (h : ag f g i) : ag g f i := fun j hj => (h j hj).symm
theorem ag.tr {f g k : Nat → Int32} {i : Nat} (h : ag f g i) (h2 : ag g k i) : ag f k i := fun j hj => (h j hj).trans (h2 j hj)
theorem ag.le {f g : Nat → Int32} {i k : Nat} (h : ag f g i) (hk : k ≤ i) : ag f g k := fun j hj => h j (by omega)
theorem ag.succ {f g : Nat → Int32} {i : Nat} (h : ag f g i) (hi : f i = g i) : ag f g (i + 1) := fun j hj => by
  rcases Nat.lt_or_ge j i with q | q
  · exact h j q
  · obtain rfl : j = i := by omega
    exact hi
def tstep (cs : Nat → List Nat) (sg : Nat → Int32) (a : Nat) (c : Int32) : Option Nat := (cs a).find? (fun b => decide (sg b = c))
def twk (st : Nat → Int32 → Option Nat) (root : Nat) (f : Nat → Int32) : Nat → Option Nat
  | 0 => some root
  | i + 1 => (twk st root f i).bind (fun a => st a (f i))
theorem twk_ag {st : Nat → Int32 → Option Nat} {root : Nat} {f g : Nat → Int32} {i : Nat} (h : ag f g i) : twk st root f i = twk st root g i := by
  induction i with
  | zero => rfl
  | succ i ih =>
    simp only [twk]
    rw [ih (h.le (Nat.le_succ i)), h i (Nat.lt_succ_self i)]
theorem twk_down {st : Nat → Int32 → Option Nat} {root : Nat} {f : Nat → Int32} {i k : Nat} (hk : k ≤ i) {a : Nat} (h : twk st root f i = some a) : ∃ b, twk st root f k = some b := by
  induction i generalizing a with
  | zero => obtain rfl : k = 0 := by omega
            exact ⟨a, h⟩
  | succ i ih =>
    rcases Nat.lt_or_ge i k with q | q
    · obtain rfl : k = i + 1 := by omega
      exact ⟨a, h⟩
    · simp only [twk] at h
      cases hb : twk st root f i with
      | none => rw [hb] at h; simp at h
      | some b => exact ih q hb
/-- S: which beginnings there are; each at an address of its own -/
def trI (st : Nat → Int32 → Option Nat) (root : Nat) (S : (Nat → Int32) → Nat → Prop) : Prop :=
  (∀ f i, (∃ a, twk st root f i = some a) ↔ S f i) ∧ ∀ (f g : Nat → Int32) (i j a : Nat), twk st root f i = some a → twk st root g j = some a → i = j ∧ ag f g i
theorem twk_new {st st' : Nat → Int32 → Option Nat} {root a q i : Nat} {f : Nat → Int32} {S : (Nat → Int32) → Nat → Prop} (h : trI st root S) (ha : twk st root f i = some a) (hn : st a (f i) = none) (hq : ∀ g k, twk st root g k ≠ some q)
    (hst : ∀ b c, (b = q ∨ ∃ g k, twk st root g k = some b) → st' b c = if b = a ∧ c = f i then some q else if b = q then none else st b c) : ∀ g k, ((k = i + 1 ∧ ag g f (i + 1)) → twk st' root g k = some q) ∧ (¬ (k = i + 1 ∧ ag g f (i + 1)) → twk st' root g k = twk st root g k) := by
  have hqa : q ≠ a := fun z => hq f i (by rw [z]; exact ha)
  intro g k
  induction k with
  | zero => exact ⟨fun z => absurd z.1 (by omega), fun _ => rfl⟩
  | succ k ih =>
    by_cases h1 : k = i + 1 ∧ ag g f (i + 1)
    · refine ⟨fun z => absurd z.1 (by omega), fun _ => ?_⟩
      simp only [twk]
      rw [ih.1 h1]
      have e1 : twk st root g k = none := by
        rw [h1.1, twk_ag h1.2]
        simp only [twk, ha, Option.bind_some]
        exact hn
      rw [e1]
      simp only [Option.bind_some, Option.bind_none]
      rw [hst q (g k) (Or.inl rfl), if_neg (fun z => hqa z.1), if_pos rfl]
    · cases hb : twk st root g k with
      | none =>
        refine ⟨?_, fun _ => ?_⟩
        · rintro ⟨h2, h3⟩
          obtain rfl : k = i := by omega
          rw [twk_ag (h3.le (Nat.le_succ k)), ha] at hb
          cases hb
        · simp only [twk]
          rw [ih.2 h1, hb]
          rfl
      | some b =>
        have hbq : b ≠ q := fun z => hq g k (by rw [hb, z])
        by_cases h2 : b = a ∧ g k = f i
        · obtain ⟨rfl, h3⟩ := h2
          obtain ⟨h4, h5⟩ := h.2 g f k i b hb ha
          subst h4
          refine ⟨fun _ => ?_, fun z => absurd ⟨rfl, h5.succ h3⟩ z⟩
          simp only [twk]
          rw [ih.2 h1, hb]
          simp only [Option.bind_some]
          rw [hst b (g k) (Or.inr ⟨g, k, hb⟩), if_pos ⟨rfl, h3⟩]
        · refine ⟨?_, fun _ => ?_⟩
          · rintro ⟨h3, h4⟩
            obtain rfl : k = i := by omega
            rw [twk_ag (h4.le (Nat.le_succ k)), ha] at hb
            cases hb
            exact absurd ⟨rfl, h4 k (Nat.lt_succ_self k)⟩ h2
          · simp only [twk]
            rw [ih.2 h1, hb]
            simp only [Option.bind_some]
            rw [hst b (g k) (Or.inr ⟨g, k, hb⟩), if_neg h2, if_neg hbq]
theorem trI_new {st st' : Nat → Int32 → Option Nat} {root a q i : Nat} {f : Nat → Int32} {S S' : (Nat → Int32) → Nat → Prop} (h : trI st root S) (ha : twk st root f i = some a) (hn : st a (f i) = none) (hq : ∀ g k, twk st root g k ≠ some q)
    (hst : ∀ b c, (b = q ∨ ∃ g k, twk st root g k = some b) → st' b c = if b = a ∧ c = f i then some q else if b = q then none else st b c) (hS : ∀ g k, S' g k ↔ S g k ∨ (k = i + 1 ∧ ag g f (i + 1))) : trI st' root S' := by
  have hw := twk_new h ha hn hq hst
  refine ⟨fun g k => ?_, fun g g2 k k2 b hb hb2 => ?_⟩
  · rw [hS, ← h.1 g k]
    by_cases h1 : k = i + 1 ∧ ag g f (i + 1)
    · rw [(hw g k).1 h1]
      exact ⟨fun _ => Or.inr h1, fun _ => ⟨q, rfl⟩⟩
    · rw [(hw g k).2 h1]
      exact ⟨fun z => Or.inl z, fun z => z.elim id (fun y => absurd y h1)⟩
  · by_cases h1 : k = i + 1 ∧ ag g f (i + 1) <;> by_cases h2 : k2 = i + 1 ∧ ag g2 f (i + 1)
    · exact ⟨h1.1.trans h2.1.symm, by rw [h1.1]; exact h1.2.tr h2.2.sm⟩
    · rw [(hw g k).1 h1] at hb
      rw [(hw g2 k2).2 h2] at hb2
      cases hb
      exact absurd hb2 (hq g2 k2)
    · rw [(hw g k).2 h1] at hb
      rw [(hw g2 k2).1 h2] at hb2
      cases hb2
      exact absurd hb (hq g k)
    · rw [(hw g k).2 h1] at hb
      rw [(hw g2 k2).2 h2] at hb2
      exact h.2 g g2 k k2 b hb hb2
theorem trI_ext {st : Nat → Int32 → Option Nat} {root : Nat} {S S' : (Nat → Int32) → Nat → Prop} (h : trI st root S) (hS : ∀ g k, S' g k ↔ S g k) : trI st root S' := ⟨fun f i => (h.1 f i).trans (hS f i).symm, h.2⟩
/-- rows: how many signs, the signs, the numbers -/
abbrev rwT : Type := Nat × (Nat → Int32) × (Nat → Int32)
def sE (E : List rwT) (f : Nat → Int32) (i : Nat) : Prop := i = 0 ∨ ∃ r ∈ E, i ≤ r.1 ∧ ag r.2.1 f i
/-- the same row -/
def sm (r : rwT) (m : Nat) (f : Nat → Int32) : Prop := r.1 = m ∧ ag r.2.1 f m
def g66 (g k : Nat → Int32) : Prop := ∀ j, j < 66 → g j = k j
/-- what stands at a node: the numbers of the row that ends there -/
def trC (st : Nat → Int32 → Option Nat) (root : Nat) (nu : Nat → Option Nat) (nv : Nat → Nat → Int32) (E : List rwT) : Prop :=
  ∀ (f : Nat → Int32) (i a : Nat), twk st root f i = some a → (nu a = none ∧ ∀ r ∈ E, ¬ sm r i f) ∨ ∃ q r, nu a = some q ∧ r ∈ E ∧ sm r i f ∧ g66 (nv q) r.2.2
theorem trC_app {st : Nat → Int32 → Option Nat} {root a q m : Nat} {nu nu' : Nat → Option Nat} {nv : Nat → Nat → Int32} {E : List rwT} {f g : Nat → Int32} {S : (Nat → Int32) → Nat → Prop} (hI : trI st root S) (h : trC st root nu nv E) (ha : twk st root f m = some a) (hno : ∀ r ∈ E, ¬ sm r m f) (hnu : ∀ b, nu' b = if b = a then some q else nu b) (hq : g66 (nv q) g) : trC st root nu' nv (E ++ [(m, f, g)]) := by
  intro f2 i b hb
  rw [hnu]
  by_cases hba : b = a
  · subst hba
    rw [if_pos rfl]
    obtain ⟨h1, h2⟩ := hI.2 f2 f i m b hb ha
    subst h1
    exact Or.inr ⟨q, (i, f, g), rfl, List.mem_append_right _ (List.mem_singleton.mpr rfl), ⟨rfl, h2.sm⟩, hq⟩
  · rw [if_neg hba]
    rcases h f2 i b hb with ⟨h1, h2⟩ | ⟨q2, r, h1, h2, h3, h4⟩
    · refine Or.inl ⟨h1, fun r hr => ?_⟩
      rcases List.mem_append.mp hr with hr | hr
      · exact h2 r hr
      · rw [List.mem_singleton] at hr
        subst hr
        rintro ⟨z1, z2⟩
        dsimp at z1 z2
        subst z1
        rw [twk_ag z2.sm, ha] at hb
        cases hb
        exact hba rfl
    · exact Or.inr ⟨q2, r, h1, List.mem_append_left _ h2, h3, h4⟩
theorem trC_set {st : Nat → Int32 → Option Nat} {root a q m e : Nat} {nu nu' : Nat → Option Nat} {nv : Nat → Nat → Int32} {E : List rwT} {f g : Nat → Int32} {S : (Nat → Int32) → Nat → Prop} {r0 : rwT} (hI : trI st root S) (h : trC st root nu nv E) (ha : twk st root f m = some a) (he : E[e]? = some r0) (h0 : sm r0 m f) (hnu : ∀ b, nu' b = if b = a then some q else nu b) (hq : g66 (nv q) g) : trC st root nu' nv (E.set e (m, f, g)) := by
  have hl := (List.getElem?_eq_some_iff.mp he).1
  have hmem : ∀ r, r ∈ E.set e (m, f, g) → r ∈ E ∨ r = (m, f, g) := fun r hr => List.mem_or_eq_of_mem_set hr
  intro f2 i b hb
  rw [hnu]
  by_cases hba : b = a
  · subst hba
    rw [if_pos rfl]
    obtain ⟨h1, h2⟩ := hI.2 f2 f i m b hb ha
    subst h1
    exact Or.inr ⟨q, (i, f, g), rfl, List.mem_of_getElem? (List.getElem?_set_self hl), ⟨rfl, h2.sm⟩, hq⟩
  · rw [if_neg hba]
    have hns : ∀ r, sm r m f → ¬ sm r i f2 := by
      rintro r ⟨z1, z2⟩ ⟨z3, z4⟩
      have : m = i := z1.symm.trans z3
      subst this
      rw [twk_ag (z4.sm.tr z2), ha] at hb
      cases hb
      exact hba rfl
    rcases h f2 i b hb with ⟨h1, h2⟩ | ⟨q2, r, h1, h2, h3, h4⟩
    · refine Or.inl ⟨h1, fun r hr => ?_⟩
      rcases hmem r hr with hr | hr
      · exact h2 r hr
      · subst hr
        exact hns _ ⟨rfl, ag.rf⟩
    · refine Or.inr ⟨q2, r, h1, ?_, h3, h4⟩
      obtain ⟨j, hj⟩ := List.getElem?_of_mem h2
      have hje : e ≠ j := fun z => by
        subst z
        rw [he] at hj
        cases hj
        exact hns r0 h0 h3
      exact List.mem_of_getElem? (i := j) (by rw [List.getElem?_set_ne hje]; exact hj)
/-- nodes that were made and hold nothing yet -/
theorem trC_new {st st' : Nat → Int32 → Option Nat} {root a q i : Nat} {f : Nat → Int32} {S : (Nat → Int32) → Nat → Prop} {nu nu' : Nat → Option Nat} {nv : Nat → Nat → Int32} {E : List rwT} (hI : trI st root S) (h : trC st root nu nv E) (ha : twk st root f i = some a) (hn : st a (f i) = none) (hq : ∀ g k, twk st root g k ≠ some q)
    (hst : ∀ b c, (b = q ∨ ∃ g k, twk st root g k = some b) → st' b c = if b = a ∧ c = f i then some q else if b = q then none else st b c) (hSE : ∀ g k, sE E g k → S g k) (hnu : ∀ b, b ≠ q → nu' b = nu b) (hnq : nu' q = none) : trC st' root nu' nv E := by
  have hw := twk_new hI ha hn hq hst
  intro g k b hb
  by_cases h1 : k = i + 1 ∧ ag g f (i + 1)
  · rw [(hw g k).1 h1] at hb
    cases hb
    refine Or.inl ⟨hnq, fun r hr hs => ?_⟩
    have hex : S f (i + 1) := hSE f (i + 1) (Or.inr ⟨r, hr, by rw [hs.1, h1.1]; exact Nat.le_refl _, by rw [← h1.1]; exact hs.2.tr (by rw [h1.1]; exact h1.2)⟩)
    obtain ⟨b, hb⟩ := (hI.1 f (i + 1)).mpr hex
    simp only [twk, ha, Option.bind_some] at hb
    rw [hn] at hb
    cases hb
  · rw [(hw g k).2 h1] at hb
    have hbq : b ≠ q := fun z => hq g k (by rw [hb, z])
    rw [hnu b hbq]
    exact h g k b hb
end
section
/-! WHAT THE TABLES SAY, carried by every contract -/
def gk (G : hG) (U : State) : Prop := va_K G.1 vwC (tyG G) U ∧ va_Nw (.fieldLinkNest R_tr 39 R_nd "numbers" "[I" R_bk) U ∧ va_Nw (.methodLinkNest R_bk 25 y_tr_init R_bk) U ∧ va_Nw (.methodLinkNest R_bk 35 y_rw_init R_bk) U ∧ va_Nw (.methodLinkNest R_rw 28 y_bk_elementAt R_bk) U ∧ va_Nw (.methodLinkNest R_tr 58 y_bk_elementAt R_bk) U ∧ va_Nw (.castable "[I" "java/lang/Cloneable") U
theorem gk_w {G : hG} : ∀ {s U : State}, s.WarmedH U.vm → gk G s → gk G U := fun hW h => ⟨va_K.moved hW.alike h.1, va_Nw.warmF hW h.2.1, va_Nw.warmM hW h.2.2.1, va_Nw.warmM hW h.2.2.2.1, va_Nw.warmM hW h.2.2.2.2.1, va_Nw.warmM hW h.2.2.2.2.2.1, va_Nw.warmC hW h.2.2.2.2.2.2⟩
theorem gk_s {G : hG} : ∀ {u U : State}, u.vm = U.vm → gk G u → gk G U := fun hv h => ⟨va_K.moved (by rw [hv]; exact Vm.Alike.refl _) h.1, va_Nw.same rfl hv h.2.1, va_Nw.same rfl hv h.2.2.1, va_Nw.same rfl hv h.2.2.2.1, va_Nw.same rfl hv h.2.2.2.2.1, va_Nw.same rfl hv h.2.2.2.2.2.1, va_Nw.same rfl hv h.2.2.2.2.2.2⟩
theorem tC {c0 w : Cond} (h : w ∈ lwB) : w ∈ c0 :: lwB := List.mem_cons_of_mem _ h
theorem tB {c0 : Cond} {L : List Cond} (h : ∀ w ∈ L, w ∈ lwB) : ∀ w ∈ L, w ∈ c0 :: lwB := fun w hw => List.mem_cons_of_mem _ (h w hw)
theorem hm_rfcat (x : Option Nat) : (va_rf x).category = 1 := by cases x <;> rfl
theorem hm_rffit {C : String} (x : Option Nat) : fits (.object C) (va_rf x) = true := by cases x <;> rfl
theorem hm_rffitA {t : FieldType} (x : Option Nat) : fits (.array t) (va_rf x) = true := by cases x <;> rfl
theorem hm_rfnar {C : String} (x : Option Nat) : narrow (.object C) (va_rf x) = va_rf x := by cases x <;> rfl
theorem hm_rfnarA {t : FieldType} (x : Option Nat) : narrow (.array t) (va_rf x) = va_rf x := by cases x <;> rfl
theorem bI_fit (b : Bool) : fits .boolean (.int (bI b)) = true := by cases b <;> decide
/-- a new content of an array that agrees with the old one below its length -/
theorem hm_ext {D : va_G} {cl : List vw_C} {A : Nat → Prop} {H0 : Heap} {M : hM} {H : Heap} {locs : List Loc} {a n : Nat} {cA : ClassId} {f g : Nat → Int32} (hH : hm_I D cl A H0 M H locs) (ha : M a = some (.inl (cA, n, .inl f))) (hfg : ∀ j, j < n → f j = g j) : hm_I D cl A H0 (va_up M a (some (.inl (cA, n, .inl g)))) H locs := by
  obtain ⟨hP, hA, hS, hN⟩ := hH
  refine ⟨fun b x hb => ?_, hm_setA hA ha, hS, hN⟩
  by_cases h : b = a
  · subst h
    rw [hm_up_self] at hb
    cases hb
    have h1 : H[b]? = some (vp_cell cA (n, .inl f)) := hP b _ ha
    show H[b]? = some (vp_cell cA (n, .inl g))
    rw [h1]
    show some (arrV cA n (fun j => .int (f j))) = some (arrV cA n (fun j => .int (g j)))
    congr 1
    simp only [arrV]
    congr 1
    apply Array.ext
    · simp
    · intro i h1 h2
      simp only [Array.size_ofFn] at h1
      simp [hfg i h1]
  · rw [hm_up_ne h] at hb
    exact hP b x hb
end
section
theorem upd_all {g : Nat → Int32} {i : Nat} {v : Int32} (h : ∀ j, j < i → g j = v) : ∀ j, j < i + 1 → upd g i v j = v := by
  intro j hj
  by_cases hji : j = i
  · subst hji; exact upd_self
  · rw [upd_ne hji]; exact h j (by omega)
theorem hm_kp.tr9 {S : Nat → Prop} {M0 M M1 : hM} {q : Nat} (h : hm_kp S M0 M) (h2 : hm_kp (fun a => a ∈ [q]) M M1) (hq : M0 q = none) : hm_kp S M0 M1 := fun a e ha hs => h2 a e (h a e ha hs) (fun z => by
  simp only [List.mem_singleton] at z
  rw [z, hq] at ha
  cases ha)
theorem hm_kp.wr {S : Nat → Prop} {M0 M : hM} {a : Nat} {v : Option va_E} (h : hm_kp S M0 M) (hs : S a ∨ M0 a = none) : hm_kp S M0 (va_up M a v) := fun b e hb hn => by
  rw [hm_up_ne (fun z => by
    subst z
    rcases hs with q | q
    · exact hn q
    · rw [q] at hb; cases hb)]
  exact h b e hb hn
end
section
/-! THE CELLS -/
abbrev cNd (s : Int32) (fc ns nu : Option Nat) : va_E := .inr (0, [.int s, va_rf fc, va_rf ns, va_rf nu])
abbrev cRw (sg nm sz : Nat) : va_E := .inr (1, [.ref sg, .ref nm, .int (nI sz)])
abbrev cTr (root en bg : Nat) : va_E := .inr (2, [.ref root, .int (nI en), .int (nI bg)])
theorem find_none {ch : List Nat} {sg : Nat → Int32} {c : Int32} (h : ∀ (j b : Nat), ch[j]? = some b → sg b ≠ c) : ch.find? (fun b => decide (sg b = c)) = none := by
  rw [List.find?_eq_none]
  intro b hb
  obtain ⟨j, hj⟩ := List.getElem?_of_mem hb
  simp [h j b hj]
theorem find_some {ch : List Nat} {sg : Nat → Int32} {c : Int32} {i b : Nat} (hi : ch[i]? = some b) (hb : sg b = c) (h : ∀ (j : Nat), j < i → ∀ b, ch[j]? = some b → sg b ≠ c) : ch.find? (fun b => decide (sg b = c)) = some b := by
  induction ch generalizing i with
  | nil => simp at hi
  | cons x t ih =>
    cases i with
    | zero =>
      simp at hi
      subst hi
      simp [List.find?, hb]
    | succ i =>
      have hx : sg x ≠ c := h 0 (by omega) x rfl
      simp only [List.find?, hx, decide_false]
      exact ih (i := i) (by simpa using hi) (fun j hj b hb2 => h (j + 1) (by omega) b (by simpa using hb2))
end
section
/-! TREES OF BEGINNINGS IN THE HEAP: nodes, children (in the chain's order), next in the chain, signs, where the numbers lie, the numbers -/
abbrev tau : Type := List Nat × (Nat → List Nat) × (Nat → Option Nat) × (Nat → Int32) × (Nat → Option Nat) × (Nat → Nat → Int32)
abbrev tL (τ : tau) : List Nat := τ.1
abbrev tcs (τ : tau) : Nat → List Nat := τ.2.1
abbrev tnx (τ : tau) : Nat → Option Nat := τ.2.2.1
abbrev tsg (τ : tau) : Nat → Int32 := τ.2.2.2.1
abbrev tnu (τ : tau) : Nat → Option Nat := τ.2.2.2.2.1
abbrev tnv (τ : tau) : Nat → Nat → Int32 := τ.2.2.2.2.2
abbrev tst (τ : tau) : Nat → Int32 → Option Nat := tstep (tcs τ) (tsg τ)
def trH (G : hG) (M : hM) (root : Nat) (τ : tau) : Prop :=
  root ∈ tL τ ∧ (∀ a ∈ tL τ, M a = some (cNd (tsg τ a) (tcs τ a).head? (tnx τ a) (tnu τ a))) ∧ (∀ a ∈ tL τ, ∀ b ∈ tcs τ a, b ∈ tL τ) ∧ (∀ a ∈ tL τ, ∀ (i b : Nat), (tcs τ a)[i]? = some b → tnx τ b = (tcs τ a)[i + 1]?) ∧ ∀ a ∈ tL τ, ∀ q, tnu τ a = some q → M q = some (aI G 66 (tnv τ q))
theorem trH.ch {G : hG} {M : hM} {root : Nat} {τ : tau} (h : trH G M root τ) {a : Nat} (ha : a ∈ tL τ) : ∀ (i b : Nat), (tcs τ a)[i]? = some b → ∃ fc nu9, M b = some (cNd (tsg τ b) fc (tcs τ a)[i + 1]? nu9) := by
  intro i b hb
  have hbL := h.2.2.1 a ha b (List.mem_of_getElem? hb)
  refine ⟨(tcs τ b).head?, tnu τ b, ?_⟩
  rw [← h.2.2.2.1 a ha i b hb]
  exact h.2.1 b hbL
theorem tst_in {G : hG} {M : hM} {root : Nat} {τ : tau} (h : trH G M root τ) {a b : Nat} {c : Int32} (ha : a ∈ tL τ) (hb : tst τ a c = some b) : b ∈ tL τ := h.2.2.1 a ha b (List.mem_of_find?_eq_some hb)
theorem twk_in {G : hG} {M : hM} {root : Nat} {τ : tau} (h : trH G M root τ) {f : Nat → Int32} {i a : Nat} (ha : twk (tst τ) root f i = some a) : a ∈ tL τ := by
  induction i generalizing a with
  | zero => simp only [twk] at ha; cases ha; exact h.1
  | succ i ih =>
    simp only [twk] at ha
    cases hb : twk (tst τ) root f i with
    | none => rw [hb] at ha; cases ha
    | some b => rw [hb] at ha; exact tst_in h (ih hb) ha
theorem twk_succ {st : Nat → Int32 → Option Nat} {root : Nat} {f : Nat → Int32} {i a : Nat} (h : twk st root f i = some a) : twk st root f (i + 1) = st a (f i) := by
  simp only [twk, h, Option.bind_some]
theorem twk_none {st : Nat → Int32 → Option Nat} {root : Nat} {f : Nat → Int32} {i k : Nat} (h : twk st root f i = none) (hk : i ≤ k) : twk st root f k = none := by
  cases hb : twk st root f k with
  | none => rfl
  | some b => obtain ⟨c, hc⟩ := twk_down hk hb; rw [h] at hc; cases hc
/-- the cells of a tree stay, if what changed isn't theirs -/
theorem trH.kept {G : hG} {M M' : hM} {root : Nat} {τ : tau} (h : trH G M root τ) {S : Nat → Prop} (hk : hm_kp S M M') (h1 : ∀ a ∈ tL τ, ¬ S a) (h2 : ∀ a ∈ tL τ, ∀ q, tnu τ a = some q → ¬ S q) : trH G M' root τ :=
  ⟨h.1, fun a ha => hk a _ (h.2.1 a ha) (h1 a ha), h.2.2.1, h.2.2.2.1, fun a ha q hq => hk q _ (h.2.2.2.2 a ha q hq) (h2 a ha q hq)⟩
/-- a new child -/
def tnew (τ : tau) (a q : Nat) (c : Int32) : tau :=
  (tL τ ++ [q], (fun b => if b = a then q :: tcs τ a else if b = q then [] else tcs τ b), (fun b => if b = q then (tcs τ a).head? else tnx τ b), (fun b => if b = q then c else tsg τ b), (fun b => if b = q then none else tnu τ b), tnv τ)
theorem tn_L {τ : tau} {a q : Nat} {c : Int32} : tL (tnew τ a q c) = tL τ ++ [q] := rfl
theorem tn_cs {τ : tau} {a q : Nat} {c : Int32} (b : Nat) : tcs (tnew τ a q c) b = if b = a then q :: tcs τ a else if b = q then [] else tcs τ b := rfl
theorem tn_nx {τ : tau} {a q : Nat} {c : Int32} (b : Nat) : tnx (tnew τ a q c) b = if b = q then (tcs τ a).head? else tnx τ b := rfl
theorem tn_sg {τ : tau} {a q : Nat} {c : Int32} (b : Nat) : tsg (tnew τ a q c) b = if b = q then c else tsg τ b := rfl
theorem tn_nu {τ : tau} {a q : Nat} {c : Int32} (b : Nat) : tnu (tnew τ a q c) b = if b = q then none else tnu τ b := rfl
theorem tst_eq (τ : tau) (a : Nat) (c : Int32) : tst τ a c = (tcs τ a).find? (fun b => decide (tsg τ b = c)) := rfl
theorem trH.new {G : hG} {M M' : hM} {root : Nat} {τ : tau} (h : trH G M root τ) {a q : Nat} {c : Int32} (ha : a ∈ tL τ) (hq : M q = none) (hw : hm_has M' [(a, cNd (tsg τ a) (some q) (tnx τ a) (tnu τ a)), (q, cNd c none (tcs τ a).head? none)]) (hk : hm_kp (fun b => b ∈ [a]) M M') : trH G M' root (tnew τ a q c) := by
  have hqL : ∀ b ∈ tL τ, b ≠ q := fun b hb z => by
    have := h.2.1 b hb
    rw [z, hq] at this
    cases this
  have hqa : q ≠ a := fun z => hqL a ha z.symm
  refine ⟨List.mem_append_left _ h.1, fun b hb => ?_, fun b hb d hd => ?_, fun b hb i d hd => ?_, fun b hb x hx => ?_⟩
  · by_cases hbq : b = q
    · subst hbq
      have := hw.at 1 rfl
      simpa [tn_cs, tn_nx, tn_sg, tn_nu, hqa] using this
    · have hbL : b ∈ tL τ := by
        rcases List.mem_append.mp hb with z | z
        · exact z
        · exact absurd (List.mem_singleton.mp z) hbq
      by_cases hba : b = a
      · subst hba
        have := hw.at 0 rfl
        simpa [tn_cs, tn_nx, tn_sg, tn_nu, hbq] using this
      · have := hk b _ (h.2.1 b hbL) (by simpa using hba)
        simpa [tn_cs, tn_nx, tn_sg, tn_nu, hbq, hba] using this
  · show d ∈ tL τ ++ [q]
    by_cases hbq : b = q
    · subst hbq
      simp [tn_cs, tn_nx, tn_sg, tn_nu, hqa] at hd
    · have hbL : b ∈ tL τ := by
        rcases List.mem_append.mp hb with z | z
        · exact z
        · exact absurd (List.mem_singleton.mp z) hbq
      by_cases hba : b = a
      · subst hba
        rw [tn_cs, if_pos rfl] at hd
        rcases List.mem_cons.mp hd with z | z
        · rw [z]; exact List.mem_append_right _ (List.mem_singleton.mpr rfl)
        · exact List.mem_append_left _ (h.2.2.1 b hbL d z)
      · have hd : d ∈ tcs τ b := by simpa [tn_cs, tn_nx, tn_sg, tn_nu, hbq, hba] using hd
        exact List.mem_append_left _ (h.2.2.1 b hbL d hd)
  · by_cases hbq : b = q
    · subst hbq
      simp [tn_cs, tn_nx, tn_sg, tn_nu, hqa] at hd
    · have hbL : b ∈ tL τ := by
        rcases List.mem_append.mp hb with z | z
        · exact z
        · exact absurd (List.mem_singleton.mp z) hbq
      by_cases hba : b = a
      · subst hba
        have e : tcs (tnew τ b q c) b = q :: tcs τ b := by simp [tn_cs, tn_nx, tn_sg, tn_nu]
        rw [e] at hd ⊢
        cases i with
        | zero =>
          simp at hd
          subst hd
          simp [tn_cs, tn_nx, tn_sg, tn_nu, List.head?_eq_getElem?]
        | succ i =>
          simp only [List.getElem?_cons_succ] at hd ⊢
          have hdL := h.2.2.1 b hbL d (List.mem_of_getElem? hd)
          have := h.2.2.2.1 b hbL i d hd
          simpa [tn_cs, tn_nx, tn_sg, tn_nu, hqL d hdL] using this
      · have e : tcs (tnew τ a q c) b = tcs τ b := by simp [tn_cs, tn_nx, tn_sg, tn_nu, hbq, hba]
        rw [e] at hd ⊢
        have hdL := h.2.2.1 b hbL d (List.mem_of_getElem? hd)
        have := h.2.2.2.1 b hbL i d hd
        simpa [tn_cs, tn_nx, tn_sg, tn_nu, hqL d hdL] using this
  · by_cases hbq : b = q
    · subst hbq
      simp [tn_cs, tn_nx, tn_sg, tn_nu] at hx
    · have hbL : b ∈ tL τ := by
        rcases List.mem_append.mp hb with z | z
        · exact z
        · exact absurd (List.mem_singleton.mp z) hbq
      have hx : tnu τ b = some x := by simpa [tn_cs, tn_nx, tn_sg, tn_nu, hbq] using hx
      have h5 := h.2.2.2.2 b hbL x hx
      show M' x = some (aI G 66 (tnv τ x))
      refine hk x _ h5 (fun z => ?_)
      have z : x = a := by simpa using z
      have := h.2.1 a ha
      rw [← z, h5] at this
      cases this
theorem tst_new {G : hG} {M : hM} {root : Nat} {τ : tau} (h : trH G M root τ) {a q : Nat} {c : Int32} (hq : M q = none) (hn : tst τ a c = none) (ha : a ∈ tL τ) : ∀ (b : Nat) (d : Int32), (b = q ∨ b ∈ tL τ) → tst (tnew τ a q c) b d = if b = a ∧ d = c then some q else if b = q then none else tst τ b d := by
  have hqL : ∀ b ∈ tL τ, b ≠ q := fun b hb z => by
    have := h.2.1 b hb
    rw [z, hq] at this
    cases this
  have hqa : q ≠ a := fun z => hqL a ha z.symm
  have hfind : ∀ (l : List Nat), (∀ x ∈ l, x ≠ q) → ∀ d : Int32, l.find? (fun x => decide ((if x = q then c else tsg τ x) = d)) = l.find? (fun x => decide (tsg τ x = d)) := by
    intro l hl d
    induction l with
    | nil => rfl
    | cons x t ih =>
      simp only [List.find?, hl x List.mem_cons_self, if_false]
      rw [ih (fun y hy => hl y (List.mem_cons_of_mem _ hy))]
  intro b d hb
  rcases hb with rfl | hb
  · rw [if_neg (fun z => hqa z.1), if_pos rfl]
    simp [tst_eq, tn_cs, tn_sg, hqa]
  · have hbq := hqL b hb
    have hlist : ∀ x ∈ tcs τ b, x ≠ q := fun x hx => hqL x (h.2.2.1 b hb x hx)
    by_cases hba : b = a
    · subst hba
      have e : tst (tnew τ b q c) b d = (q :: tcs τ b).find? (fun x => decide ((if x = q then c else tsg τ x) = d)) := by rw [tst_eq, tn_cs, if_pos rfl]; rfl
      rw [e]
      by_cases hd : d = c
      · subst hd
        simp [List.find?]
      · have hcd : ¬ c = d := fun z => hd z.symm
        rw [if_neg (fun z => hd z.2), if_neg hbq]
        simp only [List.find?, if_true, hcd, decide_false]
        rw [hfind _ hlist]
        rfl
    · have e : tst (tnew τ a q c) b d = (tcs τ b).find? (fun x => decide ((if x = q then c else tsg τ x) = d)) := by rw [tst_eq, tn_cs, if_neg hba, if_neg hbq]; rfl
      rw [e, if_neg (fun z => hba z.1), if_neg hbq, hfind _ hlist]
      rfl
/-- the numbers of a row that is entered: at a new place -/
def tput (τ : tau) (a q : Nat) (g : Nat → Int32) : tau := (tL τ, tcs τ, tnx τ, tsg τ, (fun b => if b = a then some q else tnu τ b), (fun x => if x = q then g else tnv τ x))
theorem tp_nu {τ : tau} {a q : Nat} {g : Nat → Int32} (b : Nat) : tnu (tput τ a q g) b = if b = a then some q else tnu τ b := rfl
theorem tp_nv {τ : tau} {a q : Nat} {g : Nat → Int32} (x : Nat) : tnv (tput τ a q g) x = if x = q then g else tnv τ x := rfl
theorem trH.put {G : hG} {M M' : hM} {root : Nat} {τ : tau} (h : trH G M root τ) {a q : Nat} {g : Nat → Int32} (ha : a ∈ tL τ) (hq : M q = none) (hw : hm_has M' [(a, cNd (tsg τ a) (tcs τ a).head? (tnx τ a) (some q)), (q, aI G 66 g)]) (hk : hm_kp (fun b => b ∈ [a]) M M') : trH G M' root (tput τ a q g) := by
  refine ⟨h.1, fun b hb => ?_, h.2.2.1, h.2.2.2.1, fun b hb x hx => ?_⟩
  · rw [tp_nu]
    by_cases hba : b = a
    · subst hba
      rw [if_pos rfl]
      exact hw.at 0 rfl
    · rw [if_neg hba]
      exact hk b _ (h.2.1 b hb) (by simpa using hba)
  · rw [tp_nu] at hx
    rw [tp_nv]
    by_cases hba : b = a
    · rw [if_pos hba] at hx
      cases hx
      rw [if_pos rfl]
      exact hw.at 1 rfl
    · rw [if_neg hba] at hx
      have h5 := h.2.2.2.2 b hb x hx
      have hxq : x ≠ q := fun z => by rw [z, hq] at h5; cases h5
      rw [if_neg hxq]
      refine hk x _ h5 (fun z => ?_)
      have z : x = a := by simpa using z
      have h6 := h.2.1 a ha
      rw [← z, h5] at h6
      cases h6
theorem trC_nv {st : Nat → Int32 → Option Nat} {root : Nat} {nu : Nat → Option Nat} {nv nv' : Nat → Nat → Int32} {E : List rwT} (h : trC st root nu nv E) (hv : ∀ f i a q, twk st root f i = some a → nu a = some q → nv' q = nv q) : trC st root nu nv' E := by
  intro f i a ha
  rcases h f i a ha with z | ⟨q, r, h1, h2, h3, h4⟩
  · exact Or.inl z
  · exact Or.inr ⟨q, r, h1, h2, h3, by rw [hv f i a q ha h1]; exact h4⟩
/-- how deep a row goes is one number -/
theorem twk_dp {st : Nat → Int32 → Option Nat} {root : Nat} {f : Nat → Int32} {dp sz i a : Nat} (h0 : dp ≤ sz) (h1 : ∃ a, twk st root f dp = some a) (h2 : dp = sz ∨ twk st root f (dp + 1) = none) (hi : i < sz) (ha : twk st root f i = some a) (hn : twk st root f (i + 1) = none) : i = dp := by
  obtain ⟨b, hb⟩ := h1
  rcases Nat.lt_trichotomy i dp with q | q | q
  · rw [twk_none hn q] at hb; cases hb
  · exact q
  · rcases h2 with z | z
    · omega
    · rw [twk_none z q] at ha; cases ha
end
section
/-! entering a row: the pure steps -/
theorem hm_kp.trN {S T : Nat → Prop} {M0 M M1 : hM} (h : hm_kp S M0 M) (h2 : hm_kp T M M1) (hT : ∀ b, T b → S b ∨ M0 b = none) : hm_kp S M0 M1 := fun a e ha hs => h2 a e (h a e ha hs) (fun z => by
  rcases hT a z with q | q
  · exact hs q
  · rw [q] at ha; cases ha)
theorem hm_has.keptA {M M1 : hM} {ws : va_W} {a : Nat} {e0 : va_E} (hw : hm_has M ws) (hk : hm_kp (fun b => b ∈ [a]) M M1) (ha : M a = some e0) (hne : ∀ q ∈ ws, q.2 ≠ e0) : hm_has M1 ws := ⟨hw.1, fun q hq => hk q.1 q.2 (hw.2 q hq) (fun z => by
  have z : q.1 = a := by simpa using z
  have h1 := hw.2 q hq
  rw [z, ha] at h1
  exact hne q hq (Option.some.inj h1).symm)⟩
theorem hm_has.keptS {M M1 : hM} {ws : va_W} {S : Nat → Prop} (hw : hm_has M ws) (hk : hm_kp S M M1) (hS : ∀ q ∈ ws, ¬ S q.1) : hm_has M1 ws := ⟨hw.1, fun q hq => hk q.1 q.2 (hw.2 q hq) (hS q hq)⟩
theorem en_f {st st1 : Nat → Int32 → Option Nat} {root i sz dp y : Nat} {S0 : (Nat → Int32) → Nat → Prop} {f : Nat → Int32} (hI : trI st root S0) (hI1 : trI st1 root (fun x k => S0 x k ∨ (k ≤ i ∧ ag x f k))) (hy : twk st1 root f (i + 1) = some y) (hi : i < sz) (hd2 : dp = sz ∨ twk st root f (dp + 1) = none) : i < dp := by
  rcases (hI1.1 f (i + 1)).mp ⟨y, hy⟩ with z | z
  · obtain ⟨b, hb⟩ := (hI.1 f (i + 1)).mpr z
    rcases Nat.lt_or_ge i dp with q | q
    · exact q
    · rcases hd2 with w | w
      · omega
      · rw [twk_none w (by omega)] at hb; cases hb
  · omega
theorem en_n {st st1 : Nat → Int32 → Option Nat} {root i dp : Nat} {S0 : (Nat → Int32) → Nat → Prop} {f : Nat → Int32} (hI : trI st root S0) (hI1 : trI st1 root (fun x k => S0 x k ∨ (k ≤ i ∧ ag x f k))) (hn : twk st1 root f (i + 1) = none) (hd1 : ∃ a, twk st root f dp = some a) : dp ≤ i := by
  rcases Nat.lt_or_ge i dp with q | q
  · obtain ⟨b, hb⟩ := hd1
    obtain ⟨c, hc⟩ := twk_down (k := i + 1) (by omega) hb
    obtain ⟨d, hd⟩ := (hI1.1 f (i + 1)).mpr (Or.inl ((hI.1 f (i + 1)).mp ⟨c, hc⟩))
    rw [hn] at hd
    cases hd
  · exact q
theorem en_ext {st1 : Nat → Int32 → Option Nat} {root i y : Nat} {S0 : (Nat → Int32) → Nat → Prop} {f : Nat → Int32} (hI1 : trI st1 root (fun x k => S0 x k ∨ (k ≤ i ∧ ag x f k))) (hy : twk st1 root f (i + 1) = some y) : trI st1 root (fun x k => S0 x k ∨ (k ≤ i + 1 ∧ ag x f k)) := by
  refine trI_ext hI1 (fun g k => ⟨fun z => ?_, fun z => ?_⟩)
  · rcases z with z | ⟨z1, z2⟩
    · exact Or.inl z
    · rcases Nat.lt_or_ge i k with q | q
      · obtain rfl : k = i + 1 := by omega
        exact (hI1.1 g (i + 1)).mp ⟨y, by rw [twk_ag z2]; exact hy⟩
      · exact Or.inr ⟨q, z2⟩
  · rcases z with z | ⟨z1, z2⟩
    · exact Or.inl z
    · exact Or.inr ⟨by omega, z2⟩
theorem en_new {G : hG} {M : hM} {root a q i : Nat} {τ : tau} {f : Nat → Int32} {S0 : (Nat → Int32) → Nat → Prop} {E : List rwT} (htr : trH G M root τ) (hq : M q = none) (hI1 : trI (tst τ) root (fun x k => S0 x k ∨ (k ≤ i ∧ ag x f k))) (hC : trC (tst τ) root (tnu τ) (tnv τ) E) (hSE : ∀ g k, sE E g k → S0 g k) (ha : twk (tst τ) root f i = some a) (hn : tst τ a (f i) = none) :
    trI (tst (tnew τ a q (f i))) root (fun x k => S0 x k ∨ (k ≤ i + 1 ∧ ag x f k)) ∧ trC (tst (tnew τ a q (f i))) root (tnu (tnew τ a q (f i))) (tnv (tnew τ a q (f i))) E ∧ twk (tst (tnew τ a q (f i))) root f (i + 1) = some q := by
  have hqL : ∀ b ∈ tL τ, b ≠ q := fun b hb z => by
    have := htr.2.1 b hb
    rw [z, hq] at this
    cases this
  have hqn : ∀ g k, twk (tst τ) root g k ≠ some q := fun g k z => hqL q (twk_in htr z) rfl
  have hst : ∀ b c, (b = q ∨ ∃ g k, twk (tst τ) root g k = some b) → tst (tnew τ a q (f i)) b c = if b = a ∧ c = f i then some q else if b = q then none else tst τ b c := fun b c hb => tst_new htr hq hn (twk_in htr ha) b c (hb.elim Or.inl (fun ⟨g, k, z⟩ => Or.inr (twk_in htr z)))
  refine ⟨trI_new hI1 ha hn hqn hst (fun g k => ⟨fun z => ?_, fun z => ?_⟩), trC_new hI1 hC ha hn hqn hst (fun g k z => Or.inl (hSE g k z)) (fun b hb => by rw [tn_nu, if_neg hb]) (by rw [tn_nu, if_pos rfl]), (twk_new hI1 ha hn hqn hst f (i + 1)).1 ⟨rfl, ag.rf⟩⟩
  · rcases z with z | ⟨z1, z2⟩
    · exact Or.inl (Or.inl z)
    · rcases Nat.lt_or_ge i k with w | w
      · obtain rfl : k = i + 1 := by omega
        exact Or.inr ⟨rfl, z2⟩
      · exact Or.inl (Or.inr ⟨w, z2⟩)
  · rcases z with (z | ⟨z1, z2⟩) | ⟨z1, z2⟩
    · exact Or.inl z
    · exact Or.inr ⟨by omega, z2⟩
    · subst z1
      exact Or.inr ⟨Nat.le_refl _, z2⟩
theorem en_nv {G : hG} {M : hM} {root q : Nat} {τ : tau} {E : List rwT} {a : Nat} {g : Nat → Int32} (htr : trH G M root τ) (hq : M q = none) (hC : trC (tst τ) root (tnu τ) (tnv τ) E) : trC (tst τ) root (tnu τ) (tnv (tput τ a q g)) E := by
  refine trC_nv hC (fun f i b x hb hx => ?_)
  have h5 := htr.2.2.2.2 b (twk_in htr hb) x hx
  rw [tp_nv, if_neg (fun z => by rw [z, hq] at h5; cases h5)]
theorem en_app {G : hG} {M : hM} {root q m a : Nat} {τ : tau} {E : List rwT} {f g : Nat → Int32} {S : (Nat → Int32) → Nat → Prop} (hI : trI (tst τ) root S) (htr : trH G M root τ) (hq : M q = none) (hC : trC (tst τ) root (tnu τ) (tnv τ) E) (ha : twk (tst τ) root f m = some a) (hnu : tnu τ a = none) :
    (∀ r ∈ E, ¬ sm r m f) ∧ trC (tst (tput τ a q g)) root (tnu (tput τ a q g)) (tnv (tput τ a q g)) (E ++ [(m, f, g)]) := by
  have hno : ∀ r ∈ E, ¬ sm r m f := by
    rcases hC f m a ha with ⟨-, z⟩ | ⟨q2, r, z, -⟩
    · exact z
    · rw [hnu] at z; cases z
  refine ⟨hno, trC_app hI (en_nv (a := a) (g := g) htr hq hC) ha hno (fun b => tp_nu b) (fun j _ => by rw [tp_nv, if_pos rfl])⟩
theorem en_set {G : hG} {M : hM} {root q m a y : Nat} {τ : tau} {E : List rwT} {f g : Nat → Int32} {S : (Nat → Int32) → Nat → Prop} (hI : trI (tst τ) root S) (htr : trH G M root τ) (hq : M q = none) (hC : trC (tst τ) root (tnu τ) (tnv τ) E) (ha : twk (tst τ) root f m = some a) (hnu : tnu τ a = some y) :
    ∃ e r0, E[e]? = some r0 ∧ sm r0 m f ∧ trC (tst (tput τ a q g)) root (tnu (tput τ a q g)) (tnv (tput τ a q g)) (E.set e (m, f, g)) := by
  rcases hC f m a ha with ⟨z, -⟩ | ⟨q2, r, z1, z2, z3, z4⟩
  · rw [hnu] at z; cases z
  · obtain ⟨e, he⟩ := List.getElem?_of_mem z2
    exact ⟨e, r, he, z3, trC_set hI (en_nv (a := a) (g := g) htr hq hC) ha he z3 (fun b => tp_nu b) (fun j _ => by rw [tp_nv, if_pos rfl])⟩
theorem en_0 {st : Nat → Int32 → Option Nat} {root : Nat} {S0 : (Nat → Int32) → Nat → Prop} {f : Nat → Int32} (hI : trI st root S0) : trI st root (fun x k => S0 x k ∨ (k ≤ 0 ∧ ag x f k)) := by
  refine trI_ext hI (fun x k => ⟨fun z => ?_, Or.inl⟩)
  rcases z with z | ⟨z1, z2⟩
  · exact z
  · obtain rfl : k = 0 := by omega
    exact (hI.1 x 0).mp ⟨root, rfl⟩
theorem trH.upT {G : hG} {M : hM} {root t : Nat} {τ : tau} {fs : List Value} {v : Option va_E} (h : trH G M root τ) (ht : M t = some (.inr (2, fs))) : trH G (va_up M t v) root τ := by
  refine h.kept (S := fun b => b ∈ [t]) (hm_kp.up (by simp)) (fun a ha z => ?_) (fun a ha q hq z => ?_)
  · have z : a = t := by simpa using z
    have h1 := h.2.1 a ha
    rw [z, ht] at h1
    simp at h1
  · have z : q = t := by simpa using z
    have h1 := h.2.2.2.2 a ha q hq
    rw [z, ht] at h1
    simp at h1
end
section
/-! raising numbers -/
def rzB (v g : Nat → Int32) (st : Nat) : Nat → Nat → Int32
  | 0 => v
  | j + 1 => if rzB v g st j (st + j) < g j then upd (rzB v g st j) (st + j) (g j) else rzB v g st j
theorem vMax_ext {S T : Nat → Int32 → Prop} {N : Nat} {v : Nat → Int32} (h : vMax S N v) (hST : ∀ pl x, pl ≤ N → (T pl x ↔ S pl x)) : vMax T N v := by
  intro pl hpl
  obtain ⟨a1, a2, a3⟩ := h pl hpl
  exact ⟨fun x hx => a1 x ((hST pl x hpl).mp hx), a2.imp id (fun z => (hST pl _ hpl).mpr z), a3⟩
theorem rz_max {S : Nat → Int32 → Prop} {N st : Nat} {v g : Nat → Int32} (h : vMax S N v) : ∀ cnt, (∀ j, j < cnt → 0 ≤ g j) → vMax (fun pl x => S pl x ∨ ∃ j, j < cnt ∧ pl = st + j ∧ x = g j) N (rzB v g st cnt) := by
  intro cnt
  induction cnt with
  | zero => intro _; exact vMax_ext h (fun pl x _ => ⟨fun z => z.elim id (fun ⟨j, hj, _⟩ => absurd hj (by omega)), Or.inl⟩)
  | succ cnt ih =>
    intro hg
    have ih := ih (fun j hj => hg j (by omega))
    refine vMax_raise ih (fun pl y _ => ⟨fun z => ?_, fun z => ?_⟩) (hg cnt (by omega))
    · rcases z with z | ⟨j, h1, h2, h3⟩
      · exact Or.inl (Or.inl z)
      · by_cases hj : j = cnt
        · subst hj; exact Or.inr ⟨h2, h3⟩
        · exact Or.inl (Or.inr ⟨j, by omega, h2, h3⟩)
    · rcases z with (z | ⟨j, h1, h2, h3⟩) | ⟨h1, h2⟩
      · exact Or.inl z
      · exact Or.inr ⟨j, by omega, h2, h3⟩
      · exact Or.inr ⟨cnt, by omega, h1, h2⟩
/-- what the rows of E that fit at st, of at most k signs, tell of place pl -/
def ctr (E : List rwT) (f : Nat → Int32) (sz st k pl : Nat) (x : Int32) : Prop := ∃ r ∈ E, 1 ≤ r.1 ∧ r.1 ≤ k ∧ st + r.1 ≤ sz ∧ ag r.2.1 (fun j => f (st + j)) r.1 ∧ st ≤ pl ∧ pl ≤ st + r.1 ∧ x = r.2.2 (pl - st)
def unE (E : List rwT) : Prop := ∀ r ∈ E, ∀ r' ∈ E, r.1 = r'.1 → ag r.2.1 r'.2.1 r.1 → g66 r.2.2 r'.2.2
def nnE (E : List rwT) : Prop := ∀ r ∈ E, ∀ j, j < 66 → 0 ≤ r.2.2 j
theorem ctr_0 {E : List rwT} {f : Nat → Int32} {sz st pl : Nat} {x : Int32} : ¬ ctr E f sz st 0 pl x := by
  rintro ⟨r, -, h1, h2, -⟩
  omega
theorem ctr_no {E : List rwT} {f : Nat → Int32} {sz st k pl : Nat} {x : Int32} (h : ∀ r ∈ E, ¬ sm r (k + 1) (fun j => f (st + j))) : ctr E f sz st (k + 1) pl x ↔ ctr E f sz st k pl x := by
  constructor
  · rintro ⟨r, h0, h1, h2, h3, h4, h5⟩
    refine ⟨r, h0, h1, ?_, h3, h4, h5⟩
    rcases Nat.lt_or_ge k r.1 with q | q
    · have e : r.1 = k + 1 := by omega
      exact absurd ⟨e, by rw [← e]; exact h4⟩ (h r h0)
    · exact q
  · rintro ⟨r, h0, h1, h2, h3⟩
    exact ⟨r, h0, h1, by omega, h3⟩
theorem ctr_yes {E : List rwT} {f g : Nat → Int32} {sz st k pl : Nat} {x : Int32} {r0 : rwT} (hU : unE E) (h0 : r0 ∈ E) (hs : sm r0 (k + 1) (fun j => f (st + j))) (hg : g66 g r0.2.2) (hk : st + (k + 1) ≤ sz) (hz : sz ≤ 65) : ctr E f sz st (k + 1) pl x ↔ (ctr E f sz st k pl x ∨ ∃ j, j < k + 2 ∧ pl = st + j ∧ x = g j) := by
  constructor
  · rintro ⟨r, h1, h2, h3, h4, h5, h6, h7, h8⟩
    rcases Nat.lt_or_ge k r.1 with q | q
    · have e : r.1 = k + 1 := by omega
      have h9 := hU r h1 r0 h0 (by rw [e, hs.1]) (by rw [e] at h5 ⊢; exact h5.tr hs.2.sm)
      refine Or.inr ⟨pl - st, by omega, by omega, ?_⟩
      rw [h8, h9 (pl - st) (by omega), hg (pl - st) (by omega)]
    · exact Or.inl ⟨r, h1, h2, q, h4, h5, h6, h7, h8⟩
  · rintro (⟨r, h1, h2, h3, h4⟩ | ⟨j, h1, h2, h3⟩)
    · exact ⟨r, h1, h2, by omega, h4⟩
    · refine ⟨r0, h0, by rw [hs.1]; omega, by rw [hs.1]; exact Nat.le_refl _, by rw [hs.1]; exact hk, by rw [hs.1]; exact hs.2, by omega, by rw [hs.1]; omega, ?_⟩
      have e : pl - st = j := by omega
      rw [h3, e, hg j (by omega)]
theorem ctr_end {st' : Nat → Int32 → Option Nat} {root : Nat} {E : List rwT} {f : Nat → Int32} {sz st k k2 pl : Nat} {x : Int32} {S0 : (Nat → Int32) → Nat → Prop} (hI : trI st' root S0) (hSE : ∀ g k, sE E g k → S0 g k) (hn : twk st' root (fun j => f (st + j)) (k + 1) = none) (hk : k ≤ k2) : ctr E f sz st k2 pl x ↔ ctr E f sz st k pl x := by
  constructor
  · rintro ⟨r, h0, h1, h2, h3, h4, h5⟩
    refine ⟨r, h0, h1, ?_, h3, h4, h5⟩
    rcases Nat.lt_or_ge k r.1 with q | q
    · obtain ⟨a, ha⟩ := (hI.1 (fun j => f (st + j)) (k + 1)).mpr (hSE _ _ (Or.inr ⟨r, h0, q, h4.le q⟩))
      rw [hn] at ha
      cases ha
    · exact q
  · rintro ⟨r, h0, h1, h2, h3⟩
    exact ⟨r, h0, h1, by omega, h3⟩
theorem hm_has3 {M : hM} {t r sg nm q : Nat} {e1 e2 e3 e4 e5 : va_E} (hw : hm_has M [(t, e1), (r, e2), (sg, e3), (nm, e4)]) (hq : M q = some e5) (hqn : q ≠ nm) (hqr : e5 ≠ e2) : hm_has M [(r, e2), (nm, e4), (q, e5)] := by
  have h2 : M r = some e2 := hw.at 1 rfl
  have h4 : M nm = some e4 := hw.at 3 rfl
  have hrn : r ≠ nm := hw.ne 1 3 rfl rfl (by decide)
  have hrq : r ≠ q := fun z => by rw [← z, h2] at hq; exact hqr (Option.some.inj hq).symm
  refine ⟨?_, ?_⟩
  · simp [hrn, hrq, Ne.symm hqn]
  · simp [h2, h4, hq]
theorem hm_join3 {M M1 : hM} {t r sg nm q : Nat} {e1 e2 e3 e4 e5 e6 : va_E} (hw : hm_has M [(t, e1), (r, e2), (sg, e3), (nm, e4)]) (hw1 : hm_has M1 [(r, e2), (nm, e6), (q, e5)]) (hk : hm_kp (fun a => a ∈ [nm]) M M1) : hm_has M1 [(t, e1), (r, e2), (sg, e3), (nm, e6)] := by
  have h1 : M1 t = some e1 := hk t _ (hw.at 0 rfl) (by simpa using hw.ne 0 3 rfl rfl (by decide))
  have h2 : M1 r = some e2 := hw1.at 0 rfl
  have h3 : M1 sg = some e3 := hk sg _ (hw.at 2 rfl) (by simpa using hw.ne 2 3 rfl rfl (by decide))
  have h4 : M1 nm = some e6 := hw1.at 1 rfl
  exact ⟨hw.1, by simp [h1, h2, h3, h4]⟩
theorem rz_or {P : Prop} {Q : Nat → Prop} {st : Nat} : (P ∨ ∃ i, i < st + 1 ∧ Q i) ↔ ((P ∨ ∃ i, i < st ∧ Q i) ∨ Q st) := by
  constructor
  · rintro (z | ⟨i, h1, h2⟩)
    · exact Or.inl (Or.inl z)
    · by_cases h : i = st
      · subst h; exact Or.inr h2
      · exact Or.inl (Or.inr ⟨i, by omega, h2⟩)
  · rintro ((z | ⟨i, h1, h2⟩) | z)
    · exact Or.inl z
    · exact Or.inr ⟨i, by omega, h2⟩
    · exact Or.inr ⟨st, by omega, z⟩
end
section
/-! THE BOOK'S OWN CELL, and small facts for its methods -/
abbrev cBk (d dn lf rt pt xt rr ar : Nat) : va_E := .inr (3, [.ref d, .int (nI dn), .int (nI lf), .int (nI rt), .ref pt, .ref xt, .ref rr, .ref ar])
theorem nI_toI {z : Int32} {k : Nat} (h : z.toInt = (k : Int)) (hk : k < 2 ^ 31) : z = nI k := i32_eq.mpr (by rw [nI_toInt hk]; exact h)
theorem nI_ex {z : Int32} (h : 0 ≤ z.toInt) : ∃ j : Nat, j < 2 ^ 31 ∧ z = nI j := by
  have h2 := Int32.toInt_lt z
  exact ⟨z.toInt.toNat, by omega, nI_toI (by omega) (by omega)⟩
theorem m1_toInt {x : Int32} (h : 0 ≤ x.toInt) : (x + (-1)).toInt = x.toInt - 1 := by
  have e1 : (-1 : Int32).toInt = -1 := by decide
  have h2 := Int32.toInt_lt x
  rw [Int32.toInt_add, e1]
  apply Int.bmod_eq_of_le <;> omega
theorem sub2_toInt {n : Nat} (h : n < 2 ^ 20) : (nI n - 2).toInt = (n : Int) - 2 := pk_sub_toInt (b := 2) (by omega) (by decide)
/-- byte i of a long, the lowest is byte 0 -/
def byt (v : Int64) (i : Nat) : Int32 := ((v.toUInt64 >>> ((nI (8 * i)).toInt64.toUInt64 &&& Int64.toUInt64 63)).toInt64).toInt32 &&& 255
/-- c of n bytes of v appended at dn -/
def drF (dr : Nat → Int32) (dn : Nat) (v : Int64) (n : Nat) : Nat → Nat → Int32
  | 0 => dr
  | c + 1 => upd (drF dr dn v n c) (dn + c) (byt v (n - 1 - c))
/-- numbers outside edges are 0 -/
def drp (f : Nat → Int32) (sz : Nat) (g : Nat → Int32) : Nat → Int32 :=
  if sz = 0 then g else if f (sz - 1) = 46 then upd (if f 0 = 46 then upd g 0 0 else g) sz 0 else (if f 0 = 46 then upd g 0 0 else g)
def bdg (d : Nat → Int32) (i : Nat) : Bool := decide (0 < i) && isDg (d (i - 1))
theorem bdg_s (d : Nat → Int32) (i : Nat) : bdg d (i + 1) = isDg (d i) := by simp [bdg]
theorem bdg_0 (d : Nat → Int32) : bdg d 0 = false := by simp [bdg]
theorem c46 : (46 : Int32).toInt = 46 := by decide
theorem sgl_le (f : Nat → Int32) (i : Nat) : sgl f i ≤ i := by
  induction i with
  | zero => exact Nat.le_refl _
  | succ i ih => simp only [sgl]; split <;> omega
theorem sgl_n {f : Nat → Int32} {i : Nat} (h : ¬ f i = 46) : sgl f (i + 1) = sgl f i + 1 := by simp [sgl, h]
theorem sgl_y {f : Nat → Int32} {i : Nat} (h : f i = 46) : sgl f (i + 1) = sgl f i := by simp [sgl, h]
theorem sgl_hl {ls : Array Slot} {n a b : Nat} {v1 v2 : Nat × Value} (hl : lv_has ls n [v1, (1, .int (nI a)), v2]) (h : b = a) : lv_has ls n [v1, (1, .int (nI b)), v2] := by rw [h]; exact hl
theorem lt_46n {f : Nat → Int32} {i sz : Nat} (h : ∀ j, j < i → f j = 46 → j = 0 ∨ j + 1 = sz) (hi : ¬ f i = 46) : ∀ j, j < i + 1 → f j = 46 → j = 0 ∨ j + 1 = sz := by
  intro j hj hf
  by_cases hji : j = i
  · subst hji; exact absurd hf hi
  · exact h j (by omega) hf
theorem lt_46y {f : Nat → Int32} {i sz : Nat} (h : ∀ j, j < i → f j = 46 → j = 0 ∨ j + 1 = sz) (hi : i = 0 ∨ i + 1 = sz) : ∀ j, j < i + 1 → f j = 46 → j = 0 ∨ j + 1 = sz := by
  intro j hj hf
  by_cases hji : j = i
  · subst hji; exact hi
  · exact h j (by omega) hf
end
section
abbrev q_bk_isLetter (G : hG) (b : Int32) (M : hM) : Option Value → hM → Prop := fun rv M' => rv = some (.int (bI (isL b))) ∧ M' = M
set_option maxHeartbeats 4000000 in
set_option maxRecDepth 100000 in
theorem c_bk_isLetter (l : Launch) (G : hG) (b : Int32) (M : hM)  : Ct (gk G) l G.1 vwC y_bk_isLetter w_bk_isLetter { frames := 0, cells := 0, slots := 0, locals := 0 } ([.int b] : List Value) M (q_bk_isLetter G b M) 0 0 := by
  refine Ct.ofW (cc := b_bk_isLetter) (maxL := 1) (ret := (Option.some Jvm.ClassFile.FieldType.boolean)) (by decide) rfl (Nat.le_of_ble_eq_true rfl) (fun p e s m below meth c A ls E hr hlk hin hg hH hl => ?_)
  have hl : lv_has ls 1 [(0, .int b)] := hl
  have hx := E.1; have hb := E.2.1; have hml := E.2.2.1; have hown := E.2.2.2.1; have hts := E.2.2.2.2; have hK := hg.1
  obtain ⟨M0, hM0⟩ : ∃ M0 : hM, M0 = M := ⟨M, rfl⟩
  rw [show q_bk_isLetter G b M = q_bk_isLetter G b M0 by rw [hM0]]
  refine lv_iload_n hx hb d_bk_isLetter_0 rfl (lv_at hl 0 rfl) ?_
  refine lv_bipush (v := 97) hx hb d_bk_isLetter_1 (by decide) ?_
  refine hr_icmp_lt (x := b) (y := 97) (c9 := 97) hx hb (by decide) (tgt := 12) d_bk_isLetter_3 (by decide) (fun h3 => ?_) (fun h3 => ?_)
  · skip
    refine lv_iload_n hx hb d_bk_isLetter_12 rfl (lv_at hl 0 rfl) ?_
    refine lv_sipush (v := 128) hx hb d_bk_isLetter_13 (by decide) ?_
    refine hr_icmp_lt (x := b) (y := 128) (c9 := 128) hx hb (by decide) (tgt := 30) d_bk_isLetter_16 (by decide) (fun h16 => ?_) (fun h16 => ?_)
    · skip
      refine lv_iconst (v := 0) hx hb d_bk_isLetter_30 (by decide) ?_
      exact hm_zret E hr hlk hH (by decide) (⟨by first | (rw [(bI_of (isL_iff (b := b))).1 (by omega)]; done) | (rw [(bI_of (isL_iff (b := b))).2 (by omega)]; done), hM0.symm⟩) (by omega) (by omega) d_bk_isLetter_31
    · skip
      refine lv_iload_n hx hb d_bk_isLetter_19 rfl (lv_at hl 0 rfl) ?_
      refine lv_sipush (v := 255) hx hb d_bk_isLetter_20 (by decide) ?_
      refine hr_icmp_gt (x := b) (y := 255) (c9 := 255) hx hb (by decide) (tgt := 30) d_bk_isLetter_23 (by decide) (fun h23 => ?_) (fun h23 => ?_)
      · skip
        refine lv_iconst (v := 0) hx hb d_bk_isLetter_30 (by decide) ?_
        exact hm_zret E hr hlk hH (by decide) (⟨by first | (rw [(bI_of (isL_iff (b := b))).1 (by omega)]; done) | (rw [(bI_of (isL_iff (b := b))).2 (by omega)]; done), hM0.symm⟩) (by omega) (by omega) d_bk_isLetter_31
      · skip
        refine lv_iconst (v := 1) hx hb d_bk_isLetter_26 (by decide) ?_
        refine lv_goto (tgt := 31) hx hb d_bk_isLetter_27 (by decide) ?_
        exact hm_zret E hr hlk hH (by decide) (⟨by first | (rw [(bI_of (isL_iff (b := b))).1 (by omega)]; done) | (rw [(bI_of (isL_iff (b := b))).2 (by omega)]; done), hM0.symm⟩) (by omega) (by omega) d_bk_isLetter_31
  · skip
    refine lv_iload_n hx hb d_bk_isLetter_6 rfl (lv_at hl 0 rfl) ?_
    refine lv_bipush (v := 122) hx hb d_bk_isLetter_7 (by decide) ?_
    refine hr_icmp_le (x := b) (y := 122) (c9 := 122) hx hb (by decide) (tgt := 26) d_bk_isLetter_9 (by decide) (fun h9 => ?_) (fun h9 => ?_)
    · skip
      refine lv_iconst (v := 1) hx hb d_bk_isLetter_26 (by decide) ?_
      refine lv_goto (tgt := 31) hx hb d_bk_isLetter_27 (by decide) ?_
      exact hm_zret E hr hlk hH (by decide) (⟨by first | (rw [(bI_of (isL_iff (b := b))).1 (by omega)]; done) | (rw [(bI_of (isL_iff (b := b))).2 (by omega)]; done), hM0.symm⟩) (by omega) (by omega) d_bk_isLetter_31
    · skip
      refine lv_iload_n hx hb d_bk_isLetter_12 rfl (lv_at hl 0 rfl) ?_
      refine lv_sipush (v := 128) hx hb d_bk_isLetter_13 (by decide) ?_
      refine hr_icmp_lt (x := b) (y := 128) (c9 := 128) hx hb (by decide) (tgt := 30) d_bk_isLetter_16 (by decide) (fun h16 => ?_) (fun h16 => ?_)
      · skip
        refine lv_iconst (v := 0) hx hb d_bk_isLetter_30 (by decide) ?_
        exact hm_zret E hr hlk hH (by decide) (⟨by first | (rw [(bI_of (isL_iff (b := b))).1 (by omega)]; done) | (rw [(bI_of (isL_iff (b := b))).2 (by omega)]; done), hM0.symm⟩) (by omega) (by omega) d_bk_isLetter_31
      · skip
        refine lv_iload_n hx hb d_bk_isLetter_19 rfl (lv_at hl 0 rfl) ?_
        refine lv_sipush (v := 255) hx hb d_bk_isLetter_20 (by decide) ?_
        refine hr_icmp_gt (x := b) (y := 255) (c9 := 255) hx hb (by decide) (tgt := 30) d_bk_isLetter_23 (by decide) (fun h23 => ?_) (fun h23 => ?_)
        · skip
          refine lv_iconst (v := 0) hx hb d_bk_isLetter_30 (by decide) ?_
          exact hm_zret E hr hlk hH (by decide) (⟨by first | (rw [(bI_of (isL_iff (b := b))).1 (by omega)]; done) | (rw [(bI_of (isL_iff (b := b))).2 (by omega)]; done), hM0.symm⟩) (by omega) (by omega) d_bk_isLetter_31
        · skip
          refine lv_iconst (v := 1) hx hb d_bk_isLetter_26 (by decide) ?_
          refine lv_goto (tgt := 31) hx hb d_bk_isLetter_27 (by decide) ?_
          exact hm_zret E hr hlk hH (by decide) (⟨by first | (rw [(bI_of (isL_iff (b := b))).1 (by omega)]; done) | (rw [(bI_of (isL_iff (b := b))).2 (by omega)]; done), hM0.symm⟩) (by omega) (by omega) d_bk_isLetter_31

abbrev q_bk_isDigit (G : hG) (b : Int32) (M : hM) : Option Value → hM → Prop := fun rv M' => rv = some (.int (bI (isDg b))) ∧ M' = M
set_option maxHeartbeats 4000000 in
set_option maxRecDepth 100000 in
theorem c_bk_isDigit (l : Launch) (G : hG) (b : Int32) (M : hM)  : Ct (gk G) l G.1 vwC y_bk_isDigit w_bk_isDigit { frames := 0, cells := 0, slots := 0, locals := 0 } ([.int b] : List Value) M (q_bk_isDigit G b M) 0 0 := by
  refine Ct.ofW (cc := b_bk_isDigit) (maxL := 1) (ret := (Option.some Jvm.ClassFile.FieldType.boolean)) (by decide) rfl (Nat.le_of_ble_eq_true rfl) (fun p e s m below meth c A ls E hr hlk hin hg hH hl => ?_)
  have hl : lv_has ls 1 [(0, .int b)] := hl
  have hx := E.1; have hb := E.2.1; have hml := E.2.2.1; have hown := E.2.2.2.1; have hts := E.2.2.2.2; have hK := hg.1
  obtain ⟨M0, hM0⟩ : ∃ M0 : hM, M0 = M := ⟨M, rfl⟩
  rw [show q_bk_isDigit G b M = q_bk_isDigit G b M0 by rw [hM0]]
  refine lv_iload_n hx hb d_bk_isDigit_0 rfl (lv_at hl 0 rfl) ?_
  refine lv_bipush (v := 48) hx hb d_bk_isDigit_1 (by decide) ?_
  refine hr_icmp_lt (x := b) (y := 48) (c9 := 48) hx hb (by decide) (tgt := 16) d_bk_isDigit_3 (by decide) (fun h3 => ?_) (fun h3 => ?_)
  · skip
    refine lv_iconst (v := 0) hx hb d_bk_isDigit_16 (by decide) ?_
    exact hm_zret E hr hlk hH (by decide) (⟨by first | (rw [(bI_of (isDg_iff (b := b))).1 (by omega)]; done) | (rw [(bI_of (isDg_iff (b := b))).2 (by omega)]; done), hM0.symm⟩) (by omega) (by omega) d_bk_isDigit_17
  · skip
    refine lv_iload_n hx hb d_bk_isDigit_6 rfl (lv_at hl 0 rfl) ?_
    refine lv_bipush (v := 57) hx hb d_bk_isDigit_7 (by decide) ?_
    refine hr_icmp_gt (x := b) (y := 57) (c9 := 57) hx hb (by decide) (tgt := 16) d_bk_isDigit_9 (by decide) (fun h9 => ?_) (fun h9 => ?_)
    · skip
      refine lv_iconst (v := 0) hx hb d_bk_isDigit_16 (by decide) ?_
      exact hm_zret E hr hlk hH (by decide) (⟨by first | (rw [(bI_of (isDg_iff (b := b))).1 (by omega)]; done) | (rw [(bI_of (isDg_iff (b := b))).2 (by omega)]; done), hM0.symm⟩) (by omega) (by omega) d_bk_isDigit_17
    · skip
      refine lv_iconst (v := 1) hx hb d_bk_isDigit_12 (by decide) ?_
      refine lv_goto (tgt := 17) hx hb d_bk_isDigit_13 (by decide) ?_
      exact hm_zret E hr hlk hH (by decide) (⟨by first | (rw [(bI_of (isDg_iff (b := b))).1 (by omega)]; done) | (rw [(bI_of (isDg_iff (b := b))).2 (by omega)]; done), hM0.symm⟩) (by omega) (by omega) d_bk_isDigit_17

abbrev q_bk_placeBehind (G : hG) (k : Nat) (M : hM) : Option Value → hM → Prop := fun rv M' => rv = some (.int (nI (k + 1))) ∧ M' = M
set_option maxHeartbeats 4000000 in
set_option maxRecDepth 100000 in
theorem c_bk_placeBehind (l : Launch) (G : hG) (k : Nat) (M : hM)  : Ct (gk G) l G.1 vwC y_bk_placeBehind w_bk_placeBehind { frames := 0, cells := 0, slots := 0, locals := 0 } ([.int (nI k)] : List Value) M (q_bk_placeBehind G k M) 0 0 := by
  refine Ct.ofW (cc := b_bk_placeBehind) (maxL := 1) (ret := (Option.some Jvm.ClassFile.FieldType.int)) (by decide) rfl (Nat.le_of_ble_eq_true rfl) (fun p e s m below meth c A ls E hr hlk hin hg hH hl => ?_)
  have hl : lv_has ls 1 [(0, .int (nI k))] := hl
  have hx := E.1; have hb := E.2.1; have hml := E.2.2.1; have hown := E.2.2.2.1; have hts := E.2.2.2.2; have hK := hg.1
  obtain ⟨M0, hM0⟩ : ∃ M0 : hM, M0 = M := ⟨M, rfl⟩
  rw [show q_bk_placeBehind G k M = q_bk_placeBehind G k M0 by rw [hM0]]
  refine lv_iload_n hx hb d_bk_placeBehind_0 rfl (lv_at hl 0 rfl) ?_
  refine lv_iconst (v := 1) hx hb d_bk_placeBehind_1 (by decide) ?_
  refine hn_iadd hx hb (a := k) (b := 1) d_bk_placeBehind_2 ?_
  exact hm_iret E hr hlk hH (⟨rfl, hM0.symm⟩) (by omega) (by omega) d_bk_placeBehind_3

abbrev q_bk_elementAt (G : hG) (a n : Nat) (f : Nat → Int32) (i : Nat) (M : hM) : Option Value → hM → Prop := fun rv M' => rv = some (.int (if i < n then f i else 0)) ∧ M' = M
set_option maxHeartbeats 4000000 in
set_option maxRecDepth 100000 in
theorem c_bk_elementAt (l : Launch) (G : hG) (a n : Nat) (f : Nat → Int32) (i : Nat) (M : hM) (hw : hm_has M [(a, aI G n f)]) (hn : n < 2 ^ 31) (hi : i < 2 ^ 31) : Ct (gk G) l G.1 vwC y_bk_elementAt w_bk_elementAt { frames := 0, cells := 0, slots := 0, locals := 0 } ([.ref a, .int (nI i)] : List Value) M (q_bk_elementAt G a n f i M) 0 0 := by
  refine Ct.ofW (cc := b_bk_elementAt) (maxL := 2) (ret := (Option.some Jvm.ClassFile.FieldType.int)) (by decide) rfl (Nat.le_of_ble_eq_true rfl) (fun p e s m below meth c A ls E hr hlk hin hg hH hl => ?_)
  have hl : lv_has ls 2 [(0, .ref a), (1, .int (nI i))] := hl
  have hx := E.1; have hb := E.2.1; have hml := E.2.2.1; have hown := E.2.2.2.1; have hts := E.2.2.2.2; have hK := hg.1
  obtain ⟨M0, hM0⟩ : ∃ M0 : hM, M0 = M := ⟨M, rfl⟩
  rw [show q_bk_elementAt G a n f i M = q_bk_elementAt G a n f i M0 by rw [hM0]]
  refine lv_aload_n hx hb d_bk_elementAt_0 rfl (lv_at hl 0 rfl) ?_
  refine lv_ifnull hx hb d_bk_elementAt_1 ?_
  refine lv_iload_n hx hb d_bk_elementAt_4 rfl (lv_at hl 1 rfl) ?_
  refine hn_if_lt (a := i) hx hb (by omega) (tgt := 20) d_bk_elementAt_5 (by decide) ?_
  refine lv_iload_n hx hb d_bk_elementAt_8 rfl (lv_at hl 1 rfl) ?_
  refine lv_aload_n hx hb d_bk_elementAt_9 rfl (lv_at hl 0 rfl) ?_
  refine hm_alen E hK hH 0 (hw.at 0 rfl) rfl d_bk_elementAt_10 ?_
  refine hn_icmp_ge (a := i) (b := n) hx hb (by omega) (by omega) (tgt := 20) d_bk_elementAt_11 (by decide) (fun h11 => ?_) (fun h11 => ?_)
  · skip
    refine lv_iconst (v := 0) hx hb d_bk_elementAt_20 (by decide) ?_
    exact hm_iret E hr hlk hH (⟨by first | rw [if_pos h11] | rw [if_neg (by omega)], hM0.symm⟩) (by omega) (by omega) d_bk_elementAt_21
  · skip
    refine lv_aload_n hx hb d_bk_elementAt_14 rfl (lv_at hl 0 rfl) ?_
    refine lv_iload_n hx hb d_bk_elementAt_15 rfl (lv_at hl 1 rfl) ?_
    refine hm_iald E hK hH 0 (hw.at 0 rfl) rfl (i := i) (by omega) (hn) d_bk_elementAt_16 ?_
    refine lv_goto (tgt := 21) hx hb d_bk_elementAt_17 (by decide) ?_
    exact hm_iret E hr hlk hH (⟨by first | rw [if_pos h11] | rw [if_neg (by omega)], hM0.symm⟩) (by omega) (by omega) d_bk_elementAt_21

abbrev q_bk_elementAtN (G : hG) (a n : Nat) (f : Nat → Int32) (i : Int32) (M : hM) : Option Value → hM → Prop := fun rv M' => rv = some (.int 0) ∧ M' = M
set_option maxHeartbeats 4000000 in
set_option maxRecDepth 100000 in
theorem c_bk_elementAtN (l : Launch) (G : hG) (a n : Nat) (f : Nat → Int32) (i : Int32) (M : hM) (hw : hm_has M [(a, aI G n f)]) (hi : i.toInt < 0) : Ct (gk G) l G.1 vwC y_bk_elementAt w_bk_elementAt { frames := 0, cells := 0, slots := 0, locals := 0 } ([.ref a, .int i] : List Value) M (q_bk_elementAtN G a n f i M) 0 0 := by
  refine Ct.ofW (cc := b_bk_elementAt) (maxL := 2) (ret := (Option.some Jvm.ClassFile.FieldType.int)) (by decide) rfl (Nat.le_of_ble_eq_true rfl) (fun p e s m below meth c A ls E hr hlk hin hg hH hl => ?_)
  have hl : lv_has ls 2 [(0, .ref a), (1, .int i)] := hl
  have hx := E.1; have hb := E.2.1; have hml := E.2.2.1; have hown := E.2.2.2.1; have hts := E.2.2.2.2; have hK := hg.1
  obtain ⟨M0, hM0⟩ : ∃ M0 : hM, M0 = M := ⟨M, rfl⟩
  rw [show q_bk_elementAtN G a n f i M = q_bk_elementAtN G a n f i M0 by rw [hM0]]
  refine lv_aload_n hx hb d_bk_elementAt_0 rfl (lv_at hl 0 rfl) ?_
  refine lv_ifnull hx hb d_bk_elementAt_1 ?_
  refine lv_iload_n hx hb d_bk_elementAt_4 rfl (lv_at hl 1 rfl) ?_
  refine hr_if_lt (x := i) hx hb (tgt := 20) d_bk_elementAt_5 (by decide) (fun h5 => ?_) (fun h5 => ?_)
  · skip
    refine lv_iconst (v := 0) hx hb d_bk_elementAt_20 (by decide) ?_
    exact hm_iret E hr hlk hH (⟨rfl, hM0.symm⟩) (by omega) (by omega) d_bk_elementAt_21
  · skip
    omega

abbrev q_rw_size (G : hG) (r : Nat) (sg nm sz : Nat) (M : hM) : Option Value → hM → Prop := fun rv M' => rv = some (.int (nI sz)) ∧ M' = M
set_option maxHeartbeats 4000000 in
set_option maxRecDepth 100000 in
theorem c_rw_size (l : Launch) (G : hG) (r : Nat) (sg nm sz : Nat) (M : hM) (hw : hm_has M [(r, .inr (1, [.ref sg, .ref nm, .int (nI sz)]))]) : Ct (gk G) l G.1 vwC y_rw_size w_rw_size { frames := 0, cells := 0, slots := 0, locals := 0 } ([.ref r] : List Value) M (q_rw_size G r sg nm sz M) 0 0 := by
  refine Ct.ofW (cc := b_rw_size) (maxL := 1) (ret := (Option.some Jvm.ClassFile.FieldType.int)) (by decide) rfl (Nat.le_of_ble_eq_true rfl) (fun p e s m below meth c A ls E hr hlk hin hg hH hl => ?_)
  have hl : lv_has ls 1 [(0, .ref r)] := hl
  have hx := E.1; have hb := E.2.1; have hml := E.2.2.1; have hown := E.2.2.2.1; have hts := E.2.2.2.2; have hK := hg.1
  obtain ⟨M0, hM0⟩ : ∃ M0 : hM, M0 = M := ⟨M, rfl⟩
  rw [show q_rw_size G r sg nm sz M = q_rw_size G r sg nm sz M0 by rw [hM0]]
  refine lv_aload_n hx hb d_rw_size_0 rfl (lv_at hl 0 rfl) ?_
  refine hm_get E (tB in_rw) hK hH (hw.at 0 rfl) rfl 2 (by decide) (tC wm_65) rfl d_rw_size_1 ?_
  exact hm_iret E hr hlk hH (⟨rfl, hM0.symm⟩) (by omega) (by omega) d_rw_size_4

abbrev q_rw_append (G : hG) (r sg nm sz : Nat) (f : Nat → Int32) (v : Int32) (M : hM) : Option Value → hM → Prop := fun rv M' => (sz < 65 ∧ rv = some (.int (bI true)) ∧ hm_has M' [(r, .inr (1, [.ref sg, .ref nm, .int (nI (sz + 1))])), (sg, aI G 65 (upd f sz v))] ∧ hm_kp (fun a => a ∈ [r, sg]) M M') ∨ (65 ≤ sz ∧ rv = some (.int (bI false)) ∧ M' = M)
set_option maxHeartbeats 4000000 in
set_option maxRecDepth 100000 in
theorem c_rw_append (l : Launch) (G : hG) (r sg nm sz : Nat) (f : Nat → Int32) (v : Int32) (M : hM) (hw : hm_has M [(r, .inr (1, [.ref sg, .ref nm, .int (nI sz)])), (sg, aI G 65 f)]) (hsz : sz ≤ 65) : Ct (gk G) l G.1 vwC y_rw_append w_rw_append { frames := 0, cells := 0, slots := 0, locals := 0 } ([.ref r, .int v] : List Value) M (q_rw_append G r sg nm sz f v M) 0 0 := by
  refine Ct.ofW (cc := b_rw_append) (maxL := 2) (ret := (Option.some Jvm.ClassFile.FieldType.boolean)) (by decide) rfl (Nat.le_of_ble_eq_true rfl) (fun p e s m below meth c A ls E hr hlk hin hg hH hl => ?_)
  have hl : lv_has ls 2 [(0, .ref r), (1, .int v)] := hl
  have hx := E.1; have hb := E.2.1; have hml := E.2.2.1; have hown := E.2.2.2.1; have hts := E.2.2.2.2; have hK := hg.1
  obtain ⟨M0, hM0⟩ : ∃ M0 : hM, M0 = M := ⟨M, rfl⟩
  rw [show q_rw_append G r sg nm sz f v M = q_rw_append G r sg nm sz f v M0 by rw [hM0]]
  have hk : hm_kp (fun a => a ∈ [r, sg]) M0 M := by rw [hM0]; exact hm_kp.rf
  refine lv_aload_n hx hb d_rw_append_0 rfl (lv_at hl 0 rfl) ?_
  refine hm_get E (tB in_rw) hK hH (hw.at 0 rfl) rfl 2 (by decide) (tC wm_65) rfl d_rw_append_1 ?_
  refine lv_aload_n hx hb d_rw_append_4 rfl (lv_at hl 0 rfl) ?_
  refine hm_get E (tB in_rw) hK hH (hw.at 0 rfl) rfl 0 (by decide) (tC wm_63) rfl d_rw_append_5 ?_
  refine hm_alen E hK hH 0 (hw.at 1 rfl) rfl d_rw_append_8 ?_
  refine hn_icmp_lt (a := sz) (b := 65) hx hb (by omega) (by omega) (tgt := 14) d_rw_append_9 (by decide) (fun h9 => ?_) (fun h9 => ?_)
  · skip
    refine lv_aload_n hx hb d_rw_append_14 rfl (lv_at hl 0 rfl) ?_
    refine hm_get E (tB in_rw) hK hH (hw.at 0 rfl) rfl 0 (by decide) (tC wm_63) rfl d_rw_append_15 ?_
    refine lv_aload_n hx hb d_rw_append_18 rfl (lv_at hl 0 rfl) ?_
    refine hm_get E (tB in_rw) hK hH (hw.at 0 rfl) rfl 2 (by decide) (tC wm_65) rfl d_rw_append_19 ?_
    refine lv_iload_n hx hb d_rw_append_22 rfl (lv_at hl 1 rfl) ?_
    refine hm_iast E hK hH 0 (hw.at 1 rfl) rfl (i := sz) (by omega) (by decide) d_rw_append_23 (fun H locs hH => ?_)
    have hw := hw.set (ws' := [(r, .inr (1, [.ref sg, .ref nm, .int (nI sz)])), (sg, aI G 65 (upd f sz v))]) (k := 1) rfl rfl
    have hk := hk.wr (a := sg) (v := some (aI G 65 (upd f sz v))) (by first | (right; assumption) | (left; simp; done))
    generalize va_up M sg (some (aI G 65 (upd f sz v))) = M at hH hw hk ⊢
    refine lv_aload_n hx hb d_rw_append_24 rfl (lv_at hl 0 rfl) ?_
    refine lv_dup hx hb d_rw_append_25 rfl ?_
    refine hm_get E (tB in_rw) hK hH (hw.at 0 rfl) rfl 2 (by decide) (tC wm_65) rfl d_rw_append_26 ?_
    refine lv_iconst (v := 1) hx hb d_rw_append_29 (by decide) ?_
    refine hn_iadd hx hb (a := sz) (b := 1) d_rw_append_30 ?_
    refine hm_put E (tB in_rw) t_rw tk_rw nm_rw hK hH (hw.at 0 rfl) rfl 2 (by decide) (tC wm_65) rfl rfl rfl (Nat.le_of_ble_eq_true rfl) (fs' := [.ref sg, .ref nm, .int (nI (sz + 1))]) rfl d_rw_append_31 (fun H locs hH => ?_)
    have hw := hw.set (ws' := [(r, .inr (1, [.ref sg, .ref nm, .int (nI (sz + 1))])), (sg, aI G 65 (upd f sz v))]) (k := 0) rfl rfl
    have hk := hk.wr (a := r) (v := some (.inr (1, [.ref sg, .ref nm, .int (nI (sz + 1))]))) (by first | (right; assumption) | (left; simp; done))
    generalize va_up M r (some (.inr (1, [.ref sg, .ref nm, .int (nI (sz + 1))]))) = M at hH hw hk ⊢
    refine lv_iconst (v := 1) hx hb d_rw_append_34 (by decide) ?_
    exact hm_zret E hr hlk hH (by decide) (Or.inl ⟨h9, rfl, hw, hk⟩) (by omega) (by omega) d_rw_append_35
  · skip
    refine lv_iconst (v := 0) hx hb d_rw_append_12 (by decide) ?_
    exact hm_zret E hr hlk hH (by decide) (Or.inr ⟨h9, rfl, hM0.symm⟩) (by omega) (by omega) d_rw_append_13

abbrev q_rw_setNumber (G : hG) (r sg nm sz : Nat) (g : Nat → Int32) (i : Nat) (v : Int32) (M : hM) : Option Value → hM → Prop := fun rv M' => rv = none ∧ hm_has M' [(r, .inr (1, [.ref sg, .ref nm, .int (nI sz)])), (nm, aI G 66 (upd g i v))] ∧ hm_kp (fun a => a ∈ [nm]) M M'
set_option maxHeartbeats 4000000 in
set_option maxRecDepth 100000 in
theorem c_rw_setNumber (l : Launch) (G : hG) (r sg nm sz : Nat) (g : Nat → Int32) (i : Nat) (v : Int32) (M : hM) (hw : hm_has M [(r, .inr (1, [.ref sg, .ref nm, .int (nI sz)])), (nm, aI G 66 g)]) (hi : i < 66) : Ct (gk G) l G.1 vwC y_rw_setNumber w_rw_setNumber { frames := 0, cells := 0, slots := 0, locals := 0 } ([.ref r, .int (nI i), .int v] : List Value) M (q_rw_setNumber G r sg nm sz g i v M) 0 0 := by
  refine Ct.ofW (cc := b_rw_setNumber) (maxL := 3) (ret := (Option.none : Option Jvm.ClassFile.FieldType)) (by decide) rfl (Nat.le_of_ble_eq_true rfl) (fun p e s m below meth c A ls E hr hlk hin hg hH hl => ?_)
  have hl : lv_has ls 3 [(0, .ref r), (1, .int (nI i)), (2, .int v)] := hl
  have hx := E.1; have hb := E.2.1; have hml := E.2.2.1; have hown := E.2.2.2.1; have hts := E.2.2.2.2; have hK := hg.1
  obtain ⟨M0, hM0⟩ : ∃ M0 : hM, M0 = M := ⟨M, rfl⟩
  rw [show q_rw_setNumber G r sg nm sz g i v M = q_rw_setNumber G r sg nm sz g i v M0 by rw [hM0]]
  have hk : hm_kp (fun a => a ∈ [nm]) M0 M := by rw [hM0]; exact hm_kp.rf
  refine lv_iload_n hx hb d_rw_setNumber_0 rfl (lv_at hl 1 rfl) ?_
  refine hn_if_lt (a := i) hx hb (by omega) (tgt := 20) d_rw_setNumber_1 (by decide) ?_
  refine lv_iload_n hx hb d_rw_setNumber_4 rfl (lv_at hl 1 rfl) ?_
  refine lv_aload_n hx hb d_rw_setNumber_5 rfl (lv_at hl 0 rfl) ?_
  refine hm_get E (tB in_rw) hK hH (hw.at 0 rfl) rfl 1 (by decide) (tC wm_64) rfl d_rw_setNumber_6 ?_
  refine hm_alen E hK hH 0 (hw.at 1 rfl) rfl d_rw_setNumber_9 ?_
  refine hn_icmp_ge (a := i) (b := 66) hx hb (by omega) (by omega) (tgt := 20) d_rw_setNumber_10 (by decide) (fun h10 => ?_) (fun h10 => ?_)
  · skip
    omega
  · skip
    refine lv_aload_n hx hb d_rw_setNumber_13 rfl (lv_at hl 0 rfl) ?_
    refine hm_get E (tB in_rw) hK hH (hw.at 0 rfl) rfl 1 (by decide) (tC wm_64) rfl d_rw_setNumber_14 ?_
    refine lv_iload_n hx hb d_rw_setNumber_17 rfl (lv_at hl 1 rfl) ?_
    refine lv_iload_n hx hb d_rw_setNumber_18 rfl (lv_at hl 2 rfl) ?_
    refine hm_iast E hK hH 0 (hw.at 1 rfl) rfl (i := i) (by omega) (by decide) d_rw_setNumber_19 (fun H locs hH => ?_)
    have hw := hw.set (ws' := [(r, .inr (1, [.ref sg, .ref nm, .int (nI sz)])), (nm, aI G 66 (upd g i v))]) (k := 1) rfl rfl
    have hk := hk.wr (a := nm) (v := some (aI G 66 (upd g i v))) (by first | (right; assumption) | (left; simp; done))
    generalize va_up M nm (some (aI G 66 (upd g i v))) = M at hH hw hk ⊢
    exact hm_vret E hr hlk hH (⟨rfl, hw, hk⟩) (by omega) (by omega) d_rw_setNumber_20

abbrev q_ar_fill (G : hG) (a n : Nat) (f : Nat → Int32) (v : Int32) (M : hM) : Option Value → hM → Prop := fun rv M' => rv = none ∧ hm_has M' [(a, aI G n (fun _ => v))] ∧ hm_kp (fun a0 => a0 ∈ [a]) M M'
set_option maxHeartbeats 4000000 in
set_option maxRecDepth 100000 in
theorem c_ar_fill (l : Launch) (G : hG) (a n : Nat) (f : Nat → Int32) (v : Int32) (M : hM) (hw : hm_has M [(a, aI G n f)]) (hn : n < 2 ^ 31) : Ct (gk G) l G.1 vwC y_ar_fill w_ar_fill { frames := 0, cells := 0, slots := 0, locals := 0 } ([.ref a, .int v] : List Value) M (q_ar_fill G a n f v M) 0 0 := by
  refine Ct.ofW (cc := b_ar_fill) (maxL := 4) (ret := (Option.none : Option Jvm.ClassFile.FieldType)) (by decide) rfl (Nat.le_of_ble_eq_true rfl) (fun p e s m below meth c A ls E hr hlk hin hg hH hl => ?_)
  have hl : lv_has ls 4 [(0, .ref a), (1, .int v)] := hl
  have hx := E.1; have hb := E.2.1; have hml := E.2.2.1; have hown := E.2.2.2.1; have hts := E.2.2.2.2; have hK := hg.1
  obtain ⟨M0, hM0⟩ : ∃ M0 : hM, M0 = M := ⟨M, rfl⟩
  rw [show q_ar_fill G a n f v M = q_ar_fill G a n f v M0 by rw [hM0]]
  have hk : hm_kp (fun a0 => a0 ∈ [a]) M0 M := by rw [hM0]; exact hm_kp.rf
  have L5 : ∀ (k i : Nat) (g : Nat → Int32) (M : hM) (H : Heap) (locs : List Loc) (ls : Array Slot), n + 1 ≤ i + k → i ≤ n → (∀ j, j < i → g j = v) → hm_has M [(a, aI G n g)] → hm_kp (fun a0 => a0 ∈ [a]) M0 M → hm_I G.1 vwC A s.heap M H locs → lv_has ls 4 [(2, .int (nI i)), (3, .int (nI n)), (0, .ref a), (1, .int v)] → W p l e { frames := 0, cells := 0, slots := 0, locals := 0 } s m ([.ref a, .int v] : List Value).toArray below meth c H locs 0 0 (MQ below (hm_Q G.1 vwC (q_ar_fill G a n f v M0) A) ([.ref a, .int v] : List Value).toArray s 0 0 A) (F0 m 5 ls []) := by
    intro k
    induction k with
    | zero => intro i g M H locs ls h1 h2; exact absurd h1 (by omega)
    | succ k ih =>
      intro i g M H locs ls h1 h2 hgv hw hk hH hl
      refine lv_iload_n hx hb d_ar_fill_5 rfl (lv_at hl 0 rfl) ?_
      refine lv_iload_n hx hb d_ar_fill_6 rfl (lv_at hl 1 rfl) ?_
      refine hn_icmp_ge (a := i) (b := n) hx hb (by omega) (by omega) (tgt := 20) d_ar_fill_7 (by decide) (fun h7 => ?_) (fun h7 => ?_)
      · skip
        obtain rfl : i = n := by omega
        have hH := hm_ext (g := fun _ => v) hH (hw.at 0 rfl) (fun j hj => hgv j hj)
        have hw := hw.set (ws' := [(a, aI G i (fun _ => v))]) (k := 0) rfl rfl
        have hk := hk.tr (hm_kp.up (S := fun a0 => a0 ∈ [a]) (a := a) (v := some (aI G i (fun _ => v))) (by simp)) (fun _ h => h)
        exact hm_vret E hr hlk hH (⟨rfl, hw, hk⟩) (by omega) (by omega) d_ar_fill_20
      · skip
        refine lv_aload_n hx hb d_ar_fill_10 rfl (lv_at hl 2 rfl) ?_
        refine lv_iload_n hx hb d_ar_fill_11 rfl (lv_at hl 0 rfl) ?_
        refine lv_iload_n hx hb d_ar_fill_12 rfl (lv_at hl 3 rfl) ?_
        refine hm_iast E hK hH 0 (hw.at 0 rfl) rfl (i := i) (by omega) (hn) d_ar_fill_13 (fun H locs hH => ?_)
        have hw := hw.set (ws' := [(a, aI G n (upd g i v))]) (k := 0) rfl rfl
        have hk := hk.wr (a := a) (v := some (aI G n (upd g i v))) (by first | (right; assumption) | (left; simp; done))
        generalize va_up M a (some (aI G n (upd g i v))) = M at hH hw hk ⊢
        refine lv_iinc (v := nI (i + 1)) (lv' := [(2, .int (nI (i + 1))), (3, .int (nI n)), (0, .ref a), (1, .int v)]) hx hb d_ar_fill_14 hl (k := 0) rfl (by first | exact nI_add _ 1 | (show nI _ + nI _ = _; rw [nI_add])) (by decide) rfl (fun ls hl => ?_)
        skip
        refine lv_goto (tgt := 5) hx hb d_ar_fill_17 (by decide) ?_
        exact ih (i + 1) (upd g i v) M _ _ _ (by omega) (by omega) (upd_all hgv) hw hk hH (lv_sub hl [0, 1, 2, 3] rfl)
  refine lv_iconst (v := 0) hx hb d_ar_fill_0 (by decide) ?_
  refine lv_istore_n (lv' := [(2, .int 0), (0, .ref a), (1, .int v)]) hx hb d_ar_fill_1 rfl hl (by decide) rfl (fun ls hl => ?_)
  refine lv_aload_n hx hb d_ar_fill_2 rfl (lv_at hl 1 rfl) ?_
  refine hm_alen E hK hH 0 (hw.at 0 rfl) rfl d_ar_fill_3 ?_
  refine lv_istore_n (lv' := [(3, .int (nI n)), (2, .int 0), (0, .ref a), (1, .int v)]) hx hb d_ar_fill_4 rfl hl (by decide) rfl (fun ls hl => ?_)
  exact L5 (n + 1) 0 f M _ _ _ (by omega) (by omega) (fun j hj => absurd hj (by omega)) hw hk hH (lv_sub hl [1, 0, 2, 3] rfl)
end
section
abbrev q_rw_clear (G : hG) (r sg nm sz : Nat) (g : Nat → Int32) (M : hM) : Option Value → hM → Prop := fun rv M' => rv = none ∧ hm_has M' [(r, .inr (1, [.ref sg, .ref nm, .int (nI 0)])), (nm, aI G 66 (fun _ => 0))] ∧ hm_kp (fun a => a ∈ [r, nm]) M M'
set_option maxHeartbeats 4000000 in
set_option maxRecDepth 100000 in
theorem c_rw_clear (l : Launch) (G : hG) (r sg nm sz : Nat) (g : Nat → Int32) (M : hM) (hw : hm_has M [(r, .inr (1, [.ref sg, .ref nm, .int (nI sz)])), (nm, aI G 66 g)]) : Ct (gk G) l G.1 vwC y_rw_clear w_rw_clear { frames := 1, cells := 0, slots := 0, locals := 23 } ([.ref r] : List Value) M (q_rw_clear G r sg nm sz g M) 0 0 := by
  refine Ct.ofW (cc := b_rw_clear) (maxL := 1) (ret := (Option.none : Option Jvm.ClassFile.FieldType)) (by decide) rfl (Nat.le_of_ble_eq_true rfl) (fun p e s m below meth c A ls E hr hlk hin hg hH hl => ?_)
  have hl : lv_has ls 1 [(0, .ref r)] := hl
  have hx := E.1; have hb := E.2.1; have hml := E.2.2.1; have hown := E.2.2.2.1; have hts := E.2.2.2.2; have hK := hg.1
  obtain ⟨M0, hM0⟩ : ∃ M0 : hM, M0 = M := ⟨M, rfl⟩
  rw [show q_rw_clear G r sg nm sz g M = q_rw_clear G r sg nm sz g M0 by rw [hM0]]
  have hk : hm_kp (fun a => a ∈ [r, nm]) M0 M := by rw [hM0]; exact hm_kp.rf
  refine lv_aload_n hx hb d_rw_clear_0 rfl (lv_at hl 0 rfl) ?_
  refine lv_iconst (v := 0) hx hb d_rw_clear_1 (by decide) ?_
  refine hm_put E (tB in_rw) t_rw tk_rw nm_rw hK hH (hw.at 0 rfl) rfl 2 (by decide) (tC wm_65) rfl rfl rfl (Nat.le_of_ble_eq_true rfl) (fs' := [.ref sg, .ref nm, .int 0]) rfl d_rw_clear_2 (fun H locs hH => ?_)
  have hw := hw.set (ws' := [(r, .inr (1, [.ref sg, .ref nm, .int 0])), (nm, aI G 66 g)]) (k := 0) rfl rfl
  have hk := hk.wr (a := r) (v := some (.inr (1, [.ref sg, .ref nm, .int 0]))) (by first | (right; assumption) | (left; simp; done))
  generalize va_up M r (some (.inr (1, [.ref sg, .ref nm, .int 0]))) = M at hH hw hk ⊢
  refine lv_aload_n hx hb d_rw_clear_5 rfl (lv_at hl 0 rfl) ?_
  refine hm_get E (tB in_rw) hK hH (hw.at 0 rfl) rfl 1 (by decide) (tC wm_64) rfl d_rw_clear_6 ?_
  refine lv_iconst (v := 0) hx hb d_rw_clear_9 (by decide) ?_
  have hM1 := c_ar_fill l G nm 66 g 0 M (hw.sub (ws' := [(nm, aI G 66 g)]) [1] rfl rfl) (by decide) H.size
  have hG1 : GoodIn w_rw_clear (va_wsS R_rw 22 y_ar_fill w_ar_fill) := gB_VS wm_157 wm_158 wm_6 wm_159
  refine hm_call (va_runS (y := y_ar_fill) (bytes := b_ar_fill) (maxL := 4) (ws := w_ar_fill) (rm := { frames := 0, cells := 0, slots := 0, locals := 0 }) (own := R_rw) (index := 22) (ret := (Option.none : Option Jvm.ClassFile.FieldType)) (As := [.ref nm, .int 0]) (rest := []) E hM1 (va_cwS (y := y_ar_fill) (bytes := b_ar_fill) (maxL := 4) (ws := w_ar_fill) (rm := { frames := 0, cells := 0, slots := 0, locals := 0 }) (own := R_rw) (index := 22) (ret := (Option.none : Option Jvm.ClassFile.FieldType)) 2 hts hG1 rfl rfl rfl (by decide +kernel) ⟨Nat.le_of_ble_eq_true rfl, Nat.le_of_ble_eq_true rfl⟩) (hm_preS gk_w gk_s hH hg [.ref nm, .int 0]) rfl rfl hl.1 rfl (lv_room (Nat.le_of_ble_eq_true rfl)) d_rw_clear_10 ⟨(by show _ ≤ 0; omega), (by show _ ≤ 0; omega)⟩) hH (fun r1 M1 H1 locs1 hq1 hH1 => ?_)
  replace hH := hH1; clear hH1; generalize H1 = H at hH ⊢; generalize locs1 = locs at hH ⊢
  obtain ⟨rfl, hw1, hk1⟩ := hq1
  have hw := hm_join (ws' := [(r, .inr (1, [.ref sg, .ref nm, .int (nI 0)])), (nm, aI G 66 (fun _ => 0))]) (wc := [(nm, aI G 66 g)]) hw hw1 hk1 [1] rfl rfl (fun _ h => h) rfl (by
    intro k9 h9
    match k9, h9 with
    | 0, _ => exact Or.inl ⟨by decide, rfl⟩
    | 1, _ => exact Or.inr ⟨0, rfl, rfl⟩
    | k9 + 2, h9 => exact absurd h9 (Nat.not_lt_of_le (Nat.le_add_left _ _)))
  have hk := hk.tr hk1 (by simp)
  generalize M1 = M at hH hw hk
  exact hm_vret E hr hlk hH (⟨rfl, hw, hk⟩) (by omega) (by omega) d_rw_clear_13

abbrev q_rw_signAt (G : hG) (r sg nm sz : Nat) (f : Nat → Int32) (i : Nat) (M : hM) : Option Value → hM → Prop := fun rv M' => rv = some (.int (if i < sz then f i else 0)) ∧ M' = M
set_option maxHeartbeats 4000000 in
set_option maxRecDepth 100000 in
theorem c_rw_signAt (l : Launch) (G : hG) (r sg nm sz : Nat) (f : Nat → Int32) (i : Nat) (M : hM) (hw : hm_has M [(r, .inr (1, [.ref sg, .ref nm, .int (nI sz)])), (sg, aI G 65 f)]) (hsz : sz ≤ 65) (hi : i < 2 ^ 31) : Ct (gk G) l G.1 vwC y_rw_signAt w_rw_signAt { frames := 1, cells := 0, slots := 0, locals := 21 } ([.ref r, .int (nI i)] : List Value) M (q_rw_signAt G r sg nm sz f i M) 0 0 := by
  refine Ct.ofW (cc := b_rw_signAt) (maxL := 2) (ret := (Option.some Jvm.ClassFile.FieldType.int)) (by decide) rfl (Nat.le_of_ble_eq_true rfl) (fun p e s m below meth c A ls E hr hlk hin hg hH hl => ?_)
  have hl : lv_has ls 2 [(0, .ref r), (1, .int (nI i))] := hl
  have hx := E.1; have hb := E.2.1; have hml := E.2.2.1; have hown := E.2.2.2.1; have hts := E.2.2.2.2; have hK := hg.1
  obtain ⟨M0, hM0⟩ : ∃ M0 : hM, M0 = M := ⟨M, rfl⟩
  rw [show q_rw_signAt G r sg nm sz f i M = q_rw_signAt G r sg nm sz f i M0 by rw [hM0]]
  refine lv_iload_n hx hb d_rw_signAt_0 rfl (lv_at hl 1 rfl) ?_
  refine lv_aload_n hx hb d_rw_signAt_1 rfl (lv_at hl 0 rfl) ?_
  refine hm_get E (tB in_rw) hK hH (hw.at 0 rfl) rfl 2 (by decide) (tC wm_65) rfl d_rw_signAt_2 ?_
  refine hn_icmp_ge (a := i) (b := sz) hx hb (by omega) (by omega) (tgt := 19) d_rw_signAt_5 (by decide) (fun h5 => ?_) (fun h5 => ?_)
  · skip
    refine lv_iconst (v := 0) hx hb d_rw_signAt_19 (by decide) ?_
    exact hm_iret E hr hlk hH (⟨by first | (rw [if_pos (by omega), if_pos (by omega)]; done) | (rw [if_neg (by omega)]; done), hM0.symm⟩) (by omega) (by omega) d_rw_signAt_20
  · skip
    refine lv_aload_n hx hb d_rw_signAt_8 rfl (lv_at hl 0 rfl) ?_
    refine hm_get E (tB in_rw) hK hH (hw.at 0 rfl) rfl 0 (by decide) (tC wm_63) rfl d_rw_signAt_9 ?_
    refine lv_iload_n hx hb d_rw_signAt_12 rfl (lv_at hl 1 rfl) ?_
    have hM1 := c_bk_elementAt l G sg 65 f i M (hw.sub (ws' := [(sg, aI G 65 f)]) [1] rfl rfl) (by decide) (by omega) s.heap.size
    have hG1 : GoodIn w_rw_signAt w_bk_elementAt := gB_0 wm_127
    refine hm_call (va_runSN (y := y_bk_elementAt) (bytes := b_bk_elementAt) (maxL := 2) (ws := w_bk_elementAt) (rm := { frames := 0, cells := 0, slots := 0, locals := 0 }) (own := R_rw) (index := 28) (ret := (Option.some Jvm.ClassFile.FieldType.int)) (host := R_bk) (As := [.ref sg, .int (nI i)]) (rest := []) E hM1 ⟨va_cnB (y := y_bk_elementAt) (bytes := b_bk_elementAt) (maxL := 2) (ws := w_bk_elementAt) (rm := { frames := 0, cells := 0, slots := 0, locals := 0 }) (own := R_rw) (index := 28) (host := R_bk) (ret := (Option.some Jvm.ClassFile.FieldType.int)) 2 hts hG1 rfl rfl rfl hg.2.2.2.2.1 (hts _ (tC wm_1)) (by decide +kernel) ⟨Nat.le_of_ble_eq_true rfl, Nat.le_of_ble_eq_true rfl⟩, hts _ (tC wm_126), trivial⟩ (hm_preS gk_w gk_s hH hg [.ref sg, .int (nI i)]) rfl rfl hl.1 rfl (lv_room (Nat.le_of_ble_eq_true rfl)) d_rw_signAt_13 ⟨(by show _ ≤ 0; omega), (by show _ ≤ 0; omega)⟩) hH (fun r1 M1 H1 locs1 hq1 hH1 => ?_)
    obtain ⟨rfl, e1⟩ := hq1
    replace hH := hH1; rw [e1] at hH; clear hH1 e1; generalize H1 = H at hH ⊢; generalize locs1 = locs at hH ⊢
    refine lv_goto (tgt := 20) hx hb d_rw_signAt_16 (by decide) ?_
    exact hm_iret E hr hlk hH (⟨by first | (rw [if_pos (by omega), if_pos (by omega)]; done) | (rw [if_neg (by omega)]; done), hM0.symm⟩) (by omega) (by omega) d_rw_signAt_20

abbrev q_rw_signAtN (G : hG) (r sg nm sz : Nat) (f : Nat → Int32) (i : Int32) (M : hM) : Option Value → hM → Prop := fun rv M' => rv = some (.int 0) ∧ M' = M
set_option maxHeartbeats 4000000 in
set_option maxRecDepth 100000 in
theorem c_rw_signAtN (l : Launch) (G : hG) (r sg nm sz : Nat) (f : Nat → Int32) (i : Int32) (M : hM) (hw : hm_has M [(r, .inr (1, [.ref sg, .ref nm, .int (nI sz)])), (sg, aI G 65 f)]) (hsz : sz ≤ 65) (hi : i.toInt < 0) : Ct (gk G) l G.1 vwC y_rw_signAt w_rw_signAt { frames := 1, cells := 0, slots := 0, locals := 21 } ([.ref r, .int i] : List Value) M (q_rw_signAtN G r sg nm sz f i M) 0 0 := by
  refine Ct.ofW (cc := b_rw_signAt) (maxL := 2) (ret := (Option.some Jvm.ClassFile.FieldType.int)) (by decide) rfl (Nat.le_of_ble_eq_true rfl) (fun p e s m below meth c A ls E hr hlk hin hg hH hl => ?_)
  have hl : lv_has ls 2 [(0, .ref r), (1, .int i)] := hl
  have hx := E.1; have hb := E.2.1; have hml := E.2.2.1; have hown := E.2.2.2.1; have hts := E.2.2.2.2; have hK := hg.1
  obtain ⟨M0, hM0⟩ : ∃ M0 : hM, M0 = M := ⟨M, rfl⟩
  rw [show q_rw_signAtN G r sg nm sz f i M = q_rw_signAtN G r sg nm sz f i M0 by rw [hM0]]
  refine lv_iload_n hx hb d_rw_signAt_0 rfl (lv_at hl 1 rfl) ?_
  refine lv_aload_n hx hb d_rw_signAt_1 rfl (lv_at hl 0 rfl) ?_
  refine hm_get E (tB in_rw) hK hH (hw.at 0 rfl) rfl 2 (by decide) (tC wm_65) rfl d_rw_signAt_2 ?_
  refine hr_icmp_ge (x := i) (y := nI sz) (c9 := (sz : Int)) hx hb (nI_toInt (by omega)) (tgt := 19) d_rw_signAt_5 (by decide) (fun h5 => ?_) (fun h5 => ?_)
  · skip
    omega
  · skip
    refine lv_aload_n hx hb d_rw_signAt_8 rfl (lv_at hl 0 rfl) ?_
    refine hm_get E (tB in_rw) hK hH (hw.at 0 rfl) rfl 0 (by decide) (tC wm_63) rfl d_rw_signAt_9 ?_
    refine lv_iload_n hx hb d_rw_signAt_12 rfl (lv_at hl 1 rfl) ?_
    have hM1 := c_bk_elementAtN l G sg 65 f i M (hw.sub (ws' := [(sg, aI G 65 f)]) [1] rfl rfl) hi s.heap.size
    have hG1 : GoodIn w_rw_signAt w_bk_elementAt := gB_0 wm_127
    refine hm_call (va_runSN (y := y_bk_elementAt) (bytes := b_bk_elementAt) (maxL := 2) (ws := w_bk_elementAt) (rm := { frames := 0, cells := 0, slots := 0, locals := 0 }) (own := R_rw) (index := 28) (ret := (Option.some Jvm.ClassFile.FieldType.int)) (host := R_bk) (As := [.ref sg, .int i]) (rest := []) E hM1 ⟨va_cnB (y := y_bk_elementAt) (bytes := b_bk_elementAt) (maxL := 2) (ws := w_bk_elementAt) (rm := { frames := 0, cells := 0, slots := 0, locals := 0 }) (own := R_rw) (index := 28) (host := R_bk) (ret := (Option.some Jvm.ClassFile.FieldType.int)) 2 hts hG1 rfl rfl rfl hg.2.2.2.2.1 (hts _ (tC wm_1)) (by decide +kernel) ⟨Nat.le_of_ble_eq_true rfl, Nat.le_of_ble_eq_true rfl⟩, hts _ (tC wm_126), trivial⟩ (hm_preS gk_w gk_s hH hg [.ref sg, .int i]) rfl rfl hl.1 rfl (lv_room (Nat.le_of_ble_eq_true rfl)) d_rw_signAt_13 ⟨(by show _ ≤ 0; omega), (by show _ ≤ 0; omega)⟩) hH (fun r1 M1 H1 locs1 hq1 hH1 => ?_)
    obtain ⟨rfl, e1⟩ := hq1
    replace hH := hH1; rw [e1] at hH; clear hH1 e1; generalize H1 = H at hH ⊢; generalize locs1 = locs at hH ⊢
    refine lv_goto (tgt := 20) hx hb d_rw_signAt_16 (by decide) ?_
    exact hm_iret E hr hlk hH (⟨rfl, hM0.symm⟩) (by omega) (by omega) d_rw_signAt_20

abbrev q_rw_numberAt (G : hG) (r sg nm sz : Nat) (g : Nat → Int32) (i : Nat) (M : hM) : Option Value → hM → Prop := fun rv M' => rv = some (.int (if i < 66 then g i else 0)) ∧ M' = M
set_option maxHeartbeats 4000000 in
set_option maxRecDepth 100000 in
theorem c_rw_numberAt (l : Launch) (G : hG) (r sg nm sz : Nat) (g : Nat → Int32) (i : Nat) (M : hM) (hw : hm_has M [(r, .inr (1, [.ref sg, .ref nm, .int (nI sz)])), (nm, aI G 66 g)]) (hi : i < 2 ^ 31) : Ct (gk G) l G.1 vwC y_rw_numberAt w_rw_numberAt { frames := 1, cells := 0, slots := 0, locals := 21 } ([.ref r, .int (nI i)] : List Value) M (q_rw_numberAt G r sg nm sz g i M) 0 0 := by
  refine Ct.ofW (cc := b_rw_numberAt) (maxL := 2) (ret := (Option.some Jvm.ClassFile.FieldType.int)) (by decide) rfl (Nat.le_of_ble_eq_true rfl) (fun p e s m below meth c A ls E hr hlk hin hg hH hl => ?_)
  have hl : lv_has ls 2 [(0, .ref r), (1, .int (nI i))] := hl
  have hx := E.1; have hb := E.2.1; have hml := E.2.2.1; have hown := E.2.2.2.1; have hts := E.2.2.2.2; have hK := hg.1
  obtain ⟨M0, hM0⟩ : ∃ M0 : hM, M0 = M := ⟨M, rfl⟩
  rw [show q_rw_numberAt G r sg nm sz g i M = q_rw_numberAt G r sg nm sz g i M0 by rw [hM0]]
  refine lv_aload_n hx hb d_rw_numberAt_0 rfl (lv_at hl 0 rfl) ?_
  refine hm_get E (tB in_rw) hK hH (hw.at 0 rfl) rfl 1 (by decide) (tC wm_64) rfl d_rw_numberAt_1 ?_
  refine lv_iload_n hx hb d_rw_numberAt_4 rfl (lv_at hl 1 rfl) ?_
  have hM1 := c_bk_elementAt l G nm 66 g i M (hw.sub (ws' := [(nm, aI G 66 g)]) [1] rfl rfl) (by decide) (by omega) s.heap.size
  have hG1 : GoodIn w_rw_numberAt w_bk_elementAt := gB_0 wm_127
  refine hm_call (va_runSN (y := y_bk_elementAt) (bytes := b_bk_elementAt) (maxL := 2) (ws := w_bk_elementAt) (rm := { frames := 0, cells := 0, slots := 0, locals := 0 }) (own := R_rw) (index := 28) (ret := (Option.some Jvm.ClassFile.FieldType.int)) (host := R_bk) (As := [.ref nm, .int (nI i)]) (rest := []) E hM1 ⟨va_cnB (y := y_bk_elementAt) (bytes := b_bk_elementAt) (maxL := 2) (ws := w_bk_elementAt) (rm := { frames := 0, cells := 0, slots := 0, locals := 0 }) (own := R_rw) (index := 28) (host := R_bk) (ret := (Option.some Jvm.ClassFile.FieldType.int)) 2 hts hG1 rfl rfl rfl hg.2.2.2.2.1 (hts _ (tC wm_1)) (by decide +kernel) ⟨Nat.le_of_ble_eq_true rfl, Nat.le_of_ble_eq_true rfl⟩, hts _ (tC wm_126), trivial⟩ (hm_preS gk_w gk_s hH hg [.ref nm, .int (nI i)]) rfl rfl hl.1 rfl (lv_room (Nat.le_of_ble_eq_true rfl)) d_rw_numberAt_5 ⟨(by show _ ≤ 0; omega), (by show _ ≤ 0; omega)⟩) hH (fun r1 M1 H1 locs1 hq1 hH1 => ?_)
  obtain ⟨rfl, e1⟩ := hq1
  replace hH := hH1; rw [e1] at hH; clear hH1 e1; generalize H1 = H at hH ⊢; generalize locs1 = locs at hH ⊢
  exact hm_iret E hr hlk hH (⟨rfl, hM0.symm⟩) (by omega) (by omega) d_rw_numberAt_8

abbrev q_rw_raiseNumber (G : hG) (r sg nm sz : Nat) (g : Nat → Int32) (i : Nat) (v : Int32) (M : hM) : Option Value → hM → Prop := fun rv M' => rv = none ∧ hm_has M' [(r, .inr (1, [.ref sg, .ref nm, .int (nI sz)])), (nm, aI G 66 (if g i < v then upd g i v else g))] ∧ hm_kp (fun a => a ∈ [nm]) M M'
set_option maxHeartbeats 4000000 in
set_option maxRecDepth 100000 in
theorem c_rw_raiseNumber (l : Launch) (G : hG) (r sg nm sz : Nat) (g : Nat → Int32) (i : Nat) (v : Int32) (M : hM) (hw : hm_has M [(r, .inr (1, [.ref sg, .ref nm, .int (nI sz)])), (nm, aI G 66 g)]) (hi : i < 66) : Ct (gk G) l G.1 vwC y_rw_raiseNumber w_rw_raiseNumber { frames := 2, cells := 0, slots := 0, locals := 42 } ([.ref r, .int (nI i), .int v] : List Value) M (q_rw_raiseNumber G r sg nm sz g i v M) 0 0 := by
  refine Ct.ofW (cc := b_rw_raiseNumber) (maxL := 3) (ret := (Option.none : Option Jvm.ClassFile.FieldType)) (by decide) rfl (Nat.le_of_ble_eq_true rfl) (fun p e s m below meth c A ls E hr hlk hin hg hH hl => ?_)
  have hl : lv_has ls 3 [(0, .ref r), (1, .int (nI i)), (2, .int v)] := hl
  have hx := E.1; have hb := E.2.1; have hml := E.2.2.1; have hown := E.2.2.2.1; have hts := E.2.2.2.2; have hK := hg.1
  obtain ⟨M0, hM0⟩ : ∃ M0 : hM, M0 = M := ⟨M, rfl⟩
  rw [show q_rw_raiseNumber G r sg nm sz g i v M = q_rw_raiseNumber G r sg nm sz g i v M0 by rw [hM0]]
  have hk : hm_kp (fun a => a ∈ [nm]) M0 M := by rw [hM0]; exact hm_kp.rf
  refine lv_iload_n hx hb d_rw_raiseNumber_0 rfl (lv_at hl 2 rfl) ?_
  refine lv_aload_n hx hb d_rw_raiseNumber_1 rfl (lv_at hl 0 rfl) ?_
  refine lv_iload_n hx hb d_rw_raiseNumber_2 rfl (lv_at hl 1 rfl) ?_
  have hM1 := c_rw_numberAt l G r sg nm sz g i M hw (by omega) s.heap.size
  have hG1 : GoodIn w_rw_raiseNumber (wsV R_rw 32 R_rw y_rw_numberAt w_rw_numberAt) := gB_V wm_353 wm_122 wm_123 wm_4 wm_124
  refine hm_call (va_runV (y := y_rw_numberAt) (bytes := b_rw_numberAt) (maxL := 2) (ws := w_rw_numberAt) (rm := { frames := 1, cells := 0, slots := 0, locals := 21 }) (own := R_rw) (index := 32) (ret := (Option.some Jvm.ClassFile.FieldType.int)) (C := R_rw) (As := [.int (nI i)]) (rest := [.int v]) E hM1 (cwV (y := y_rw_numberAt) (bytes := b_rw_numberAt) (maxL := 2) (ws := w_rw_numberAt) (rm := { frames := 1, cells := 0, slots := 0, locals := 21 }) (own := R_rw) (index := 32) (ret := (Option.some Jvm.ClassFile.FieldType.int)) (C := R_rw) 1 hts hG1 rfl rfl rfl (by decide +kernel) ⟨Nat.le_of_ble_eq_true rfl, Nat.le_of_ble_eq_true rfl⟩) (hm_preV gk_w gk_s hH hg hK (hw.at 0 rfl) rfl [.int (nI i)]) rfl rfl hl.1 rfl (lv_room (Nat.le_of_ble_eq_true rfl)) d_rw_raiseNumber_3 ⟨(by show _ ≤ 0; omega), (by show _ ≤ 0; omega)⟩) hH (fun r1 M1 H1 locs1 hq1 hH1 => ?_)
  obtain ⟨rfl, e1⟩ := hq1
  replace hH := hH1; rw [e1] at hH; clear hH1 e1; generalize H1 = H at hH ⊢; generalize locs1 = locs at hH ⊢
  refine hm_top (w := .int (g i)) (by rw [if_pos hi]) ?_
  refine hr_icmp_le (x := v) (y := g i) (c9 := (g i).toInt) hx hb rfl (tgt := 15) d_rw_raiseNumber_6 (by decide) (fun h6 => ?_) (fun h6 => ?_)
  · skip
    exact hm_vret E hr hlk hH (⟨rfl, by first | (rw [if_pos (by rw [i32_lt]; omega)]; exact hw) | (rw [if_neg (by rw [i32_lt]; omega)]; exact hw), hk⟩) (by omega) (by omega) d_rw_raiseNumber_15
  · skip
    refine lv_aload_n hx hb d_rw_raiseNumber_9 rfl (lv_at hl 0 rfl) ?_
    refine lv_iload_n hx hb d_rw_raiseNumber_10 rfl (lv_at hl 1 rfl) ?_
    refine lv_iload_n hx hb d_rw_raiseNumber_11 rfl (lv_at hl 2 rfl) ?_
    have hM1 := c_rw_setNumber l G r sg nm sz g i v M hw hi H.size
    have hG1 : GoodIn w_rw_raiseNumber (wsV R_rw 36 R_rw y_rw_setNumber w_rw_setNumber) := gB_V wm_354 wm_165 wm_166 wm_4 wm_167
    refine hm_call (va_runV (y := y_rw_setNumber) (bytes := b_rw_setNumber) (maxL := 3) (ws := w_rw_setNumber) (rm := { frames := 0, cells := 0, slots := 0, locals := 0 }) (own := R_rw) (index := 36) (ret := (Option.none : Option Jvm.ClassFile.FieldType)) (C := R_rw) (As := [.int (nI i), .int v]) (rest := []) E hM1 (cwV (y := y_rw_setNumber) (bytes := b_rw_setNumber) (maxL := 3) (ws := w_rw_setNumber) (rm := { frames := 0, cells := 0, slots := 0, locals := 0 }) (own := R_rw) (index := 36) (ret := (Option.none : Option Jvm.ClassFile.FieldType)) (C := R_rw) 2 hts hG1 rfl rfl rfl (by decide +kernel) ⟨Nat.le_of_ble_eq_true rfl, Nat.le_of_ble_eq_true rfl⟩) (hm_preV gk_w gk_s hH hg hK (hw.at 0 rfl) rfl [.int (nI i), .int v]) rfl rfl hl.1 rfl (lv_room (Nat.le_of_ble_eq_true rfl)) d_rw_raiseNumber_12 ⟨(by show _ ≤ 0; omega), (by show _ ≤ 0; omega)⟩) hH (fun r1 M1 H1 locs1 hq1 hH1 => ?_)
    replace hH := hH1; clear hH1; generalize H1 = H at hH ⊢; generalize locs1 = locs at hH ⊢
    obtain ⟨rfl, hw, hk1⟩ := hq1
    have hk := hk.tr hk1 (fun _ h => h)
    generalize M1 = M at hH hw hk
    exact hm_vret E hr hlk hH (⟨rfl, by first | (rw [if_pos (by rw [i32_lt]; omega)]; exact hw) | (rw [if_neg (by rw [i32_lt]; omega)]; exact hw), hk⟩) (by omega) (by omega) d_rw_raiseNumber_15

abbrev q_rw_copyOfNumbers (G : hG) (r sg nm sz : Nat) (g : Nat → Int32) (M : hM) : Option Value → hM → Prop := fun rv M' => ∃ q, rv = some (.ref q) ∧ M q = none ∧ M' = va_up M q (some (aI G 66 g))
set_option maxHeartbeats 4000000 in
set_option maxRecDepth 100000 in
theorem c_rw_copyOfNumbers (l : Launch) (G : hG) (r sg nm sz : Nat) (g : Nat → Int32) (M : hM) (hw : hm_has M [(r, .inr (1, [.ref sg, .ref nm, .int (nI sz)])), (nm, aI G 66 g)]) : Ct (gk G) l G.1 vwC y_rw_copyOfNumbers w_rw_copyOfNumbers { frames := 1, cells := 1, slots := 66, locals := 22 } ([.ref r] : List Value) M (q_rw_copyOfNumbers G r sg nm sz g M) 1 66 := by
  refine Ct.ofW (cc := b_rw_copyOfNumbers) (maxL := 1) (ret := (Option.some (Jvm.ClassFile.FieldType.array Jvm.ClassFile.FieldType.int))) (by decide) rfl (Nat.le_of_ble_eq_true rfl) (fun p e s m below meth c A ls E hr hlk hin hg hH hl => ?_)
  have hl : lv_has ls 1 [(0, .ref r)] := hl
  have hx := E.1; have hb := E.2.1; have hml := E.2.2.1; have hown := E.2.2.2.1; have hts := E.2.2.2.2; have hK := hg.1
  obtain ⟨M0, hM0⟩ : ∃ M0 : hM, M0 = M := ⟨M, rfl⟩
  rw [show q_rw_copyOfNumbers G r sg nm sz g M = q_rw_copyOfNumbers G r sg nm sz g M0 by rw [hM0]]
  refine lv_aload_n hx hb d_rw_copyOfNumbers_0 rfl (lv_at hl 0 rfl) ?_
  refine hm_get E (tB in_rw) hK hH (hw.at 0 rfl) rfl 1 (by decide) (tC wm_64) rfl d_rw_copyOfNumbers_1 ?_
  refine hm_clone E hl.1 (tC wm_301) (tC wm_302) (tC wm_303) (tC wm_304) (tC wm_305) hg.2.2.2.2.2.2 hK hH 0 (hw.at 1 rfl) rfl (Nat.le_of_ble_eq_true rfl) (Nat.le_of_ble_eq_true rfl) (by show _ ≤ 1; omega) (by show _ ≤ 66; omega) d_rw_copyOfNumbers_4 (fun q H hqq hH => ?_)
  have hw := hw.push (ws' := [(r, .inr (1, [.ref sg, .ref nm, .int (nI sz)])), (nm, aI G 66 g), (q, aI G 66 g)]) hqq rfl
  refine hm_castI E (tC wm_307) hK hH 0 (hw.at 2 rfl) rfl d_rw_copyOfNumbers_7 ?_
  exact hm_aret (x := some q) E hr (Or.inr ⟨_, rfl⟩) hlk hH (⟨q, rfl, by rw [hM0]; exact hqq, by rw [hM0]⟩) (by omega) (by omega) d_rw_copyOfNumbers_10
end
section
abbrev q_nd_init (G : hG) (q : Nat) (v : Int32) (M : hM) : Option Value → hM → Prop := fun rv M' => rv = none ∧ hm_has M' [(q, cNd v none none none)] ∧ hm_kp (fun a => a ∈ [q]) M M'
set_option maxHeartbeats 4000000 in
set_option maxRecDepth 100000 in
theorem c_nd_init (l : Launch) (G : hG) (q : Nat) (v : Int32) (M : hM) (hw : hm_has M [(q, .inr (0, [.int 0, .null, .null, .null]))]) : Ct (gk G) l G.1 vwC y_nd_init w_nd_init { frames := 1, cells := 0, slots := 0, locals := 12 } ([.ref q, .int v] : List Value) M (q_nd_init G q v M) 0 0 := by
  refine Ct.ofW (cc := b_nd_init) (maxL := 2) (ret := (Option.none : Option Jvm.ClassFile.FieldType)) (by decide) rfl (Nat.le_of_ble_eq_true rfl) (fun p e s m below meth c A ls E hr hlk hin hg hH hl => ?_)
  have hl : lv_has ls 2 [(0, .ref q), (1, .int v)] := hl
  have hx := E.1; have hb := E.2.1; have hml := E.2.2.1; have hown := E.2.2.2.1; have hts := E.2.2.2.2; have hK := hg.1
  obtain ⟨M0, hM0⟩ : ∃ M0 : hM, M0 = M := ⟨M, rfl⟩
  rw [show q_nd_init G q v M = q_nd_init G q v M0 by rw [hM0]]
  have hk : hm_kp (fun a => a ∈ [q]) M0 M := by rw [hM0]; exact hm_kp.rf
  refine lv_aload_n hx hb d_nd_init_0 rfl (lv_at hl 0 rfl) ?_
  refine W.objInit hx hb hown (hts _ (tC wm_31)) (hts _ (tC wm_18)) (hts _ (tC wm_19)) rfl (by rw [hml]; exact hl.1) rfl d_nd_init_1 (Nat.le_of_ble_eq_true rfl) (Nat.le_of_ble_eq_true rfl) ?_
  refine W.eq (g2 := F0 m 4 ls []) rfl ?_
  refine lv_aload_n hx hb d_nd_init_4 rfl (lv_at hl 0 rfl) ?_
  refine lv_null hx hb d_nd_init_5 ?_
  refine hm_put E (tB in_nd) t_nd tk_nd nm_nd hK hH (hw.at 0 rfl) rfl 1 (by decide) (tC wm_33) rfl rfl rfl (Nat.le_of_ble_eq_true rfl) (fs' := [.int 0, .null, .null, .null]) rfl d_nd_init_6 (fun H locs hH => ?_)
  have hw := hw.set (ws' := [(q, .inr (0, [.int 0, .null, .null, .null]))]) (k := 0) rfl rfl
  have hk := hk.wr (a := q) (v := some (.inr (0, [.int 0, .null, .null, .null]))) (by first | (right; assumption) | (left; simp; done))
  generalize va_up M q (some (.inr (0, [.int 0, .null, .null, .null]))) = M at hH hw hk ⊢
  refine lv_aload_n hx hb d_nd_init_9 rfl (lv_at hl 0 rfl) ?_
  refine lv_null hx hb d_nd_init_10 ?_
  refine hm_put E (tB in_nd) t_nd tk_nd nm_nd hK hH (hw.at 0 rfl) rfl 2 (by decide) (tC wm_34) rfl rfl rfl (Nat.le_of_ble_eq_true rfl) (fs' := [.int 0, .null, .null, .null]) rfl d_nd_init_11 (fun H locs hH => ?_)
  have hw := hw.set (ws' := [(q, .inr (0, [.int 0, .null, .null, .null]))]) (k := 0) rfl rfl
  have hk := hk.wr (a := q) (v := some (.inr (0, [.int 0, .null, .null, .null]))) (by first | (right; assumption) | (left; simp; done))
  generalize va_up M q (some (.inr (0, [.int 0, .null, .null, .null]))) = M at hH hw hk ⊢
  refine lv_aload_n hx hb d_nd_init_14 rfl (lv_at hl 0 rfl) ?_
  refine lv_null hx hb d_nd_init_15 ?_
  refine hm_put E (tB in_nd) t_nd tk_nd nm_nd hK hH (hw.at 0 rfl) rfl 3 (by decide) (tC wm_35) rfl rfl rfl (Nat.le_of_ble_eq_true rfl) (fs' := [.int 0, .null, .null, .null]) rfl d_nd_init_16 (fun H locs hH => ?_)
  have hw := hw.set (ws' := [(q, .inr (0, [.int 0, .null, .null, .null]))]) (k := 0) rfl rfl
  have hk := hk.wr (a := q) (v := some (.inr (0, [.int 0, .null, .null, .null]))) (by first | (right; assumption) | (left; simp; done))
  generalize va_up M q (some (.inr (0, [.int 0, .null, .null, .null]))) = M at hH hw hk ⊢
  refine lv_aload_n hx hb d_nd_init_19 rfl (lv_at hl 0 rfl) ?_
  refine lv_iload_n hx hb d_nd_init_20 rfl (lv_at hl 1 rfl) ?_
  refine hm_putF E (tB in_nd) t_nd tk_nd nm_nd hK hH (hw.at 0 rfl) rfl 0 (by decide) (tC wm_32) rfl hin rfl rfl rfl (Nat.le_of_ble_eq_true rfl) (fs' := [.int v, .null, .null, .null]) rfl d_nd_init_21 (fun H locs hH => ?_)
  have hw := hw.set (ws' := [(q, .inr (0, [.int v, .null, .null, .null]))]) (k := 0) rfl rfl
  have hk := hk.wr (a := q) (v := some (.inr (0, [.int v, .null, .null, .null]))) (by first | (right; assumption) | (left; simp; done))
  generalize va_up M q (some (.inr (0, [.int v, .null, .null, .null]))) = M at hH hw hk ⊢
  exact hm_vret E hr hlk hH (⟨rfl, hw, hk⟩) (by omega) (by omega) d_nd_init_24

abbrev q_nd_childWith (G : hG) (a : Nat) (v : Int32) (ns nu : Option Nat) (ch : List Nat) (sg : Nat → Int32) (c9 : Int32) (M : hM) : Option Value → hM → Prop := fun rv M' => rv = some (va_rf (ch.find? (fun b => decide (sg b = c9)))) ∧ M' = M
set_option maxHeartbeats 4000000 in
set_option maxRecDepth 100000 in
theorem c_nd_childWith (l : Launch) (G : hG) (a : Nat) (v : Int32) (ns nu : Option Nat) (ch : List Nat) (sg : Nat → Int32) (c9 : Int32) (M : hM) (ha : M a = some (cNd v ch.head? ns nu)) (hch : ∀ i b, ch[i]? = some b → ∃ fc nu9, M b = some (cNd (sg b) fc ch[i + 1]? nu9)) : Ct (gk G) l G.1 vwC y_nd_childWith w_nd_childWith { frames := 0, cells := 0, slots := 0, locals := 0 } ([.ref a, .int c9] : List Value) M (q_nd_childWith G a v ns nu ch sg c9 M) 0 0 := by
  refine Ct.ofW (cc := b_nd_childWith) (maxL := 3) (ret := (Option.some (Jvm.ClassFile.FieldType.object "HyphenBook$Node"))) (by decide) rfl (Nat.le_of_ble_eq_true rfl) (fun p e s m below meth c A ls E hr hlk hin hg hH hl => ?_)
  have hl : lv_has ls 3 [(0, .ref a), (1, .int c9)] := hl
  have hx := E.1; have hb := E.2.1; have hml := E.2.2.1; have hown := E.2.2.2.1; have hts := E.2.2.2.2; have hK := hg.1
  obtain ⟨M0, hM0⟩ : ∃ M0 : hM, M0 = M := ⟨M, rfl⟩
  rw [show q_nd_childWith G a v ns nu ch sg c9 M = q_nd_childWith G a v ns nu ch sg c9 M0 by rw [hM0]]
  have L5 : ∀ (k i : Nat) (H : Heap) (locs : List Loc) (ls : Array Slot), ch.length + 1 ≤ i + k → i ≤ ch.length → (∀ j, j < i → ∀ b, ch[j]? = some b → sg b ≠ c9) → hm_I G.1 vwC A s.heap M H locs → lv_has ls 3 [(2, va_rf ch[i]?), (0, .ref a), (1, .int c9)] → W p l e { frames := 0, cells := 0, slots := 0, locals := 0 } s m ([.ref a, .int c9] : List Value).toArray below meth c H locs 0 0 (MQ below (hm_Q G.1 vwC (q_nd_childWith G a v ns nu ch sg c9 M0) A) ([.ref a, .int c9] : List Value).toArray s 0 0 A) (F0 m 5 ls []) := by
    intro k
    induction k with
    | zero => intro i H locs ls h1 h2; exact absurd h1 (by omega)
    | succ k ih =>
      intro i H locs ls h1 h2 hno hH hl
      refine ho_aload_n hx hb d_nd_childWith_5 rfl (lv_at hl 0 rfl) ?_
      refine hm_ifnull (tgt := 27) hx hb d_nd_childWith_6 (by decide) (fun hnn => ?_) (fun y hnn => ?_)
      · skip
        have hno2 : ∀ j b, ch[j]? = some b → sg b ≠ c9 := fun j b hj => hno j (by have h5 := (List.getElem?_eq_some_iff.mp hj).1; have h6 := List.getElem?_eq_none_iff.mp hnn; omega) b hj
        refine lv_null hx hb d_nd_childWith_27 ?_
        exact hm_aret (x := none) E hr (Or.inl ⟨_, rfl⟩) hlk hH (⟨by rw [find_none hno2], hM0.symm⟩) (by omega) (by omega) d_nd_childWith_28
      · skip
        have hl : lv_has ls 3 [(2, .ref y), (0, .ref a), (1, .int c9)] := by rw [hnn] at hl; exact hl
        obtain ⟨fc9, nu9, hy⟩ := hch i y hnn
        refine lv_aload_n hx hb d_nd_childWith_9 rfl (lv_at hl 0 rfl) ?_
        refine hm_get E (tB in_nd) hK hH hy rfl 0 (by decide) (tC wm_32) rfl d_nd_childWith_10 ?_
        refine lv_iload_n hx hb d_nd_childWith_13 rfl (lv_at hl 2 rfl) ?_
        refine hr_icmp_ne (x := sg y) (y := c9) hx hb (tgt := 19) d_nd_childWith_14 (by decide) (fun h14 => ?_) (fun h14 => ?_)
        · skip
          refine lv_aload_n hx hb d_nd_childWith_19 rfl (lv_at hl 0 rfl) ?_
          refine hm_get E (tB in_nd) hK hH hy rfl 2 (by decide) (tC wm_34) rfl d_nd_childWith_20 ?_
          refine ho_astore_n (lv' := [(2, va_rf (ch[i + 1]?)), (0, .ref a), (1, .int c9)]) hx hb d_nd_childWith_23 rfl hl (by decide) rfl (fun ls hl => ?_)
          refine lv_goto (tgt := 5) hx hb d_nd_childWith_24 (by decide) ?_
          exact ih (i + 1) _ _ _ (by omega) (by have := (List.getElem?_eq_some_iff.mp hnn).1; omega) (fun j hj b hb2 => by
            by_cases hji : j = i
            · subst hji; rw [hnn] at hb2; cases hb2; exact h14
            · exact hno j (by omega) b hb2) hH (lv_sub hl [0, 1, 2] rfl)
        · skip
          refine lv_aload_n hx hb d_nd_childWith_17 rfl (lv_at hl 0 rfl) ?_
          exact hm_aret (x := some y) E hr (Or.inl ⟨_, rfl⟩) hlk hH (⟨by rw [find_some hnn h14 hno], hM0.symm⟩) (by omega) (by omega) d_nd_childWith_18
  refine lv_aload_n hx hb d_nd_childWith_0 rfl (lv_at hl 0 rfl) ?_
  refine hm_get E (tB in_nd) hK hH ha rfl 1 (by decide) (tC wm_33) rfl d_nd_childWith_1 ?_
  rw [List.head?_eq_getElem?]
  refine ho_astore_n (lv' := [(2, va_rf (ch[0]?)), (0, .ref a), (1, .int c9)]) hx hb d_nd_childWith_4 rfl hl (by decide) rfl (fun ls hl => ?_)
  exact L5 (ch.length + 1) 0 _ _ _ (by omega) (by omega) (fun j hj => absurd hj (by omega)) hH (lv_sub hl [0, 1, 2] rfl)

abbrev q_nd_newChild (G : hG) (a : Nat) (v : Int32) (fc ns nu : Option Nat) (c9 : Int32) (M : hM) : Option Value → hM → Prop := fun rv M' => ∃ q, rv = some (.ref q) ∧ M q = none ∧ hm_has M' [(a, cNd v (some q) ns nu), (q, cNd c9 none fc none)] ∧ hm_kp (fun b => b ∈ [a]) M M'
set_option maxHeartbeats 4000000 in
set_option maxRecDepth 100000 in
theorem c_nd_newChild (l : Launch) (G : hG) (a : Nat) (v : Int32) (fc ns nu : Option Nat) (c9 : Int32) (M : hM) (hw : hm_has M [(a, cNd v fc ns nu)]) : Ct (gk G) l G.1 vwC y_nd_newChild w_nd_newChild { frames := 2, cells := 1, slots := 4, locals := 33 } ([.ref a, .int c9] : List Value) M (q_nd_newChild G a v fc ns nu c9 M) 1 4 := by
  refine Ct.ofW (cc := b_nd_newChild) (maxL := 3) (ret := (Option.some (Jvm.ClassFile.FieldType.object "HyphenBook$Node"))) (by decide) rfl (Nat.le_of_ble_eq_true rfl) (fun p e s m below meth c A ls E hr hlk hin hg hH hl => ?_)
  have hl : lv_has ls 3 [(0, .ref a), (1, .int c9)] := hl
  have hx := E.1; have hb := E.2.1; have hml := E.2.2.1; have hown := E.2.2.2.1; have hts := E.2.2.2.2; have hK := hg.1
  obtain ⟨M0, hM0⟩ : ∃ M0 : hM, M0 = M := ⟨M, rfl⟩
  rw [show q_nd_newChild G a v fc ns nu c9 M = q_nd_newChild G a v fc ns nu c9 M0 by rw [hM0]]
  have hk : hm_kp (fun b => b ∈ [a]) M0 M := by rw [hM0]; exact hm_kp.rf
  refine hm_new E (tB in_nd) t_nd tk_nd (tC wm_295) (tC wm_27) (tC wm_3) (ci := 0) hK hH rfl (fs := [.int 0, .null, .null, .null]) (by decide) (by show _ ≤ 1; omega) (by show _ ≤ 4; omega) d_nd_newChild_0 (fun q H hqq hH => ?_)
  have hw := hw.push (ws' := [(a, .inr (0, [.int v, va_rf fc, va_rf ns, va_rf nu])), (q, .inr (0, [.int 0, .null, .null, .null]))]) hqq rfl
  have hk := hk.tr (hm_kp.new (S := fun b => b ∈ [a]) (v := some (.inr (0, [.int 0, .null, .null, .null]))) hqq) (fun _ h => h)
  generalize va_up M q (some (.inr (0, [.int 0, .null, .null, .null]))) = M at hH hw hk ⊢
  have hq9 : M0 q = none := by rw [hM0]; exact hqq
  refine lv_dup hx hb d_nd_newChild_3 rfl ?_
  refine lv_iload_n hx hb d_nd_newChild_4 rfl (lv_at hl 1 rfl) ?_
  have hM1 := c_nd_init l G q c9 M (hw.sub (ws' := [(q, .inr (0, [.int 0, .null, .null, .null]))]) [1] rfl rfl) H.size
  have hG1 : GoodIn w_nd_newChild w_nd_init := gB_0 wm_30
  refine hm_call (va_runI (y := y_nd_init) (bytes := b_nd_init) (maxL := 2) (ws := w_nd_init) (rm := { frames := 1, cells := 0, slots := 0, locals := 12 }) (own := R_nd) (index := 24) (As := [.int c9]) (rest := [.ref q]) E hM1 (cwI (y := y_nd_init) (bytes := b_nd_init) (maxL := 2) (ws := w_nd_init) (rm := { frames := 1, cells := 0, slots := 0, locals := 12 }) (own := R_nd) (index := 24) 1 hts hG1 rfl rfl rfl (hts _ (tC wm_3)) (hts _ (tC wm_296)) (hts _ (tC wm_29)) rfl (by decide +kernel) ⟨Nat.le_of_ble_eq_true rfl, Nat.le_of_ble_eq_true rfl⟩) (hm_preS gk_w gk_s hH hg (.ref q :: [.int c9])) rfl rfl hl.1 rfl (lv_room (Nat.le_of_ble_eq_true rfl)) d_nd_newChild_5 ⟨(by show _ ≤ 1; omega), (by show _ ≤ 4; omega)⟩) hH (fun r1 M1 H1 locs1 hq1 hH1 => ?_)
  replace hH := hH1; clear hH1; generalize H1 = H at hH ⊢; generalize locs1 = locs at hH ⊢
  obtain ⟨rfl, hw1, hk1⟩ := hq1
  have hw := hm_join (ws' := [(a, .inr (0, [.int v, va_rf fc, va_rf ns, va_rf nu])), (q, .inr (0, [.int c9, .null, .null, .null]))]) (wc := [(q, .inr (0, [.int 0, .null, .null, .null]))]) hw hw1 hk1 [1] rfl rfl (fun _ h => h) rfl (by
    intro k9 h9
    match k9, h9 with
    | 0, _ => exact Or.inl ⟨by decide, rfl⟩
    | 1, _ => exact Or.inr ⟨0, rfl, rfl⟩
    | k9 + 2, h9 => exact absurd h9 (Nat.not_lt_of_le (Nat.le_add_left _ _)))
  have hk := hk.tr9 hk1 hq9
  generalize M1 = M at hH hw hk
  refine lv_astore_n (lv' := [(2, .ref q), (0, .ref a), (1, .int c9)]) hx hb d_nd_newChild_8 rfl hl (by decide) rfl (fun ls hl => ?_)
  refine lv_aload_n hx hb d_nd_newChild_9 rfl (lv_at hl 0 rfl) ?_
  refine lv_aload_n hx hb d_nd_newChild_10 rfl (lv_at hl 1 rfl) ?_
  refine hm_get E (tB in_nd) hK hH (hw.at 0 rfl) rfl 1 (by decide) (tC wm_33) rfl d_nd_newChild_11 ?_
  refine hm_put E (tB in_nd) t_nd tk_nd nm_nd hK hH (hw.at 1 rfl) rfl 2 (by decide) (tC wm_34) rfl (hm_rfnar _) (hm_rffit _) (Nat.le_of_ble_eq_true rfl) (fs' := [.int c9, .null, va_rf fc, .null]) rfl d_nd_newChild_14 (fun H locs hH => ?_)
  have hw := hw.set (ws' := [(a, .inr (0, [.int v, va_rf fc, va_rf ns, va_rf nu])), (q, .inr (0, [.int c9, .null, va_rf fc, .null]))]) (k := 1) rfl rfl
  have hk := hk.wr (a := q) (v := some (.inr (0, [.int c9, .null, va_rf fc, .null]))) (by first | (right; assumption) | (left; simp; done))
  generalize va_up M q (some (.inr (0, [.int c9, .null, va_rf fc, .null]))) = M at hH hw hk ⊢
  refine lv_aload_n hx hb d_nd_newChild_17 rfl (lv_at hl 1 rfl) ?_
  refine lv_aload_n hx hb d_nd_newChild_18 rfl (lv_at hl 0 rfl) ?_
  refine hm_put E (tB in_nd) t_nd tk_nd nm_nd hK hH (hw.at 0 rfl) rfl 1 (by decide) (tC wm_33) rfl rfl rfl (Nat.le_of_ble_eq_true rfl) (fs' := [.int v, .ref q, va_rf ns, va_rf nu]) rfl d_nd_newChild_19 (fun H locs hH => ?_)
  have hw := hw.set (ws' := [(a, .inr (0, [.int v, .ref q, va_rf ns, va_rf nu])), (q, .inr (0, [.int c9, .null, va_rf fc, .null]))]) (k := 0) rfl rfl
  have hk := hk.wr (a := a) (v := some (.inr (0, [.int v, .ref q, va_rf ns, va_rf nu]))) (by first | (right; assumption) | (left; simp; done))
  generalize va_up M a (some (.inr (0, [.int v, .ref q, va_rf ns, va_rf nu]))) = M at hH hw hk ⊢
  refine lv_aload_n hx hb d_nd_newChild_22 rfl (lv_at hl 0 rfl) ?_
  exact hm_aret (x := some q) E hr (Or.inl ⟨_, rfl⟩) hlk hH (⟨q, rfl, hq9, hw, hk⟩) (by omega) (by omega) d_nd_newChild_23
end
section
abbrev q_tr_entries (G : hG) (t root en bg : Nat) (M : hM) : Option Value → hM → Prop := fun rv M' => rv = some (.int (nI en)) ∧ M' = M
set_option maxHeartbeats 4000000 in
set_option maxRecDepth 100000 in
theorem c_tr_entries (l : Launch) (G : hG) (t root en bg : Nat) (M : hM) (ht : M t = some (cTr root en bg)) : Ct (gk G) l G.1 vwC y_tr_entries w_tr_entries { frames := 0, cells := 0, slots := 0, locals := 0 } ([.ref t] : List Value) M (q_tr_entries G t root en bg M) 0 0 := by
  refine Ct.ofW (cc := b_tr_entries) (maxL := 1) (ret := (Option.some Jvm.ClassFile.FieldType.int)) (by decide) rfl (Nat.le_of_ble_eq_true rfl) (fun p e s m below meth c A ls E hr hlk hin hg hH hl => ?_)
  have hl : lv_has ls 1 [(0, .ref t)] := hl
  have hx := E.1; have hb := E.2.1; have hml := E.2.2.1; have hown := E.2.2.2.1; have hts := E.2.2.2.2; have hK := hg.1
  obtain ⟨M0, hM0⟩ : ∃ M0 : hM, M0 = M := ⟨M, rfl⟩
  rw [show q_tr_entries G t root en bg M = q_tr_entries G t root en bg M0 by rw [hM0]]
  refine lv_aload_n hx hb d_tr_entries_0 rfl (lv_at hl 0 rfl) ?_
  refine hm_get E (tB in_tr) hK hH ht rfl 1 (by decide) (tC wm_48) rfl d_tr_entries_1 ?_
  exact hm_iret E hr hlk hH (⟨rfl, hM0.symm⟩) (by omega) (by omega) d_tr_entries_4

abbrev q_tr_beginnings (G : hG) (t root en bg : Nat) (M : hM) : Option Value → hM → Prop := fun rv M' => rv = some (.int (nI bg)) ∧ M' = M
set_option maxHeartbeats 4000000 in
set_option maxRecDepth 100000 in
theorem c_tr_beginnings (l : Launch) (G : hG) (t root en bg : Nat) (M : hM) (ht : M t = some (cTr root en bg)) : Ct (gk G) l G.1 vwC y_tr_beginnings w_tr_beginnings { frames := 0, cells := 0, slots := 0, locals := 0 } ([.ref t] : List Value) M (q_tr_beginnings G t root en bg M) 0 0 := by
  refine Ct.ofW (cc := b_tr_beginnings) (maxL := 1) (ret := (Option.some Jvm.ClassFile.FieldType.int)) (by decide) rfl (Nat.le_of_ble_eq_true rfl) (fun p e s m below meth c A ls E hr hlk hin hg hH hl => ?_)
  have hl : lv_has ls 1 [(0, .ref t)] := hl
  have hx := E.1; have hb := E.2.1; have hml := E.2.2.1; have hown := E.2.2.2.1; have hts := E.2.2.2.2; have hK := hg.1
  obtain ⟨M0, hM0⟩ : ∃ M0 : hM, M0 = M := ⟨M, rfl⟩
  rw [show q_tr_beginnings G t root en bg M = q_tr_beginnings G t root en bg M0 by rw [hM0]]
  refine lv_aload_n hx hb d_tr_beginnings_0 rfl (lv_at hl 0 rfl) ?_
  refine hm_get E (tB in_tr) hK hH ht rfl 2 (by decide) (tC wm_49) rfl d_tr_beginnings_1 ?_
  exact hm_iret E hr hlk hH (⟨rfl, hM0.symm⟩) (by omega) (by omega) d_tr_beginnings_4

abbrev q_tr_numbersOf (G : hG) (t root en bg r sg nm sz : Nat) (f : Nat → Int32) (τ : tau) (M : hM) : Option Value → hM → Prop := fun rv M' => rv = some (va_rf ((twk (tst τ) root f sz).bind (tnu τ))) ∧ M' = M
set_option maxHeartbeats 4000000 in
set_option maxRecDepth 100000 in
theorem c_tr_numbersOf (l : Launch) (G : hG) (t root en bg r sg nm sz : Nat) (f : Nat → Int32) (τ : tau) (M : hM) (hw : hm_has M [(t, .inr (2, [.ref root, .int (nI en), .int (nI bg)])), (r, .inr (1, [.ref sg, .ref nm, .int (nI sz)])), (sg, aI G 65 f)]) (htr : trH G M root τ) (hsz : sz ≤ 65) : Ct (gk G) l G.1 vwC y_tr_numbersOf w_tr_numbersOf { frames := 2, cells := 0, slots := 0, locals := 42 } ([.ref t, .ref r] : List Value) M (q_tr_numbersOf G t root en bg r sg nm sz f τ M) 0 0 := by
  refine Ct.ofW (cc := b_tr_numbersOf) (maxL := 4) (ret := (Option.some (Jvm.ClassFile.FieldType.array Jvm.ClassFile.FieldType.int))) (by decide) rfl (Nat.le_of_ble_eq_true rfl) (fun p e s m below meth c A ls E hr hlk hin hg hH hl => ?_)
  have hl : lv_has ls 4 [(0, .ref t), (1, .ref r)] := hl
  have hx := E.1; have hb := E.2.1; have hml := E.2.2.1; have hown := E.2.2.2.1; have hts := E.2.2.2.2; have hK := hg.1
  obtain ⟨M0, hM0⟩ : ∃ M0 : hM, M0 = M := ⟨M, rfl⟩
  rw [show q_tr_numbersOf G t root en bg r sg nm sz f τ M = q_tr_numbersOf G t root en bg r sg nm sz f τ M0 by rw [hM0]]
  have L7 : ∀ (k : Nat) (i a : Nat) (H : Heap) (locs : List Loc) (ls : Array Slot), sz + 1 ≤ i + k → i ≤ sz → twk (tst τ) root f i = some a → a ∈ tL τ → hm_I G.1 vwC A s.heap M H locs → lv_has ls 4 [(3, .int (nI i)), (2, .ref a), (0, .ref t), (1, .ref r)] → W p l e { frames := 2, cells := 0, slots := 0, locals := 42 } s m ([.ref t, .ref r] : List Value).toArray below meth c H locs 0 0 (MQ below (hm_Q G.1 vwC (q_tr_numbersOf G t root en bg r sg nm sz f τ M0) A) ([.ref t, .ref r] : List Value).toArray s 0 0 A) (F0 m 7 ls []) := by
    intro k
    induction k with
    | zero => intro i a H locs ls hfu hi hwk haL; exact absurd hfu (by omega)
    | succ k ih =>
      intro i a H locs ls hfu hi hwk haL hH hl
      refine lv_iload_n hx hb d_tr_numbersOf_7 rfl (lv_at hl 0 rfl) ?_
      refine lv_aload_n hx hb d_tr_numbersOf_8 rfl (lv_at hl 3 rfl) ?_
      have hM1 := c_rw_size l G r sg nm sz M (hw.sub (ws' := [(r, cRw sg nm sz)]) [1] rfl rfl) H.size
      have hG1 : GoodIn w_tr_numbersOf (wsV R_tr 25 R_rw y_rw_size w_rw_size) := gB_V wm_258 wm_115 wm_116 wm_4 wm_117
      refine hm_call (va_runV (y := y_rw_size) (bytes := b_rw_size) (maxL := 1) (ws := w_rw_size) (rm := { frames := 0, cells := 0, slots := 0, locals := 0 }) (own := R_tr) (index := 25) (ret := (Option.some Jvm.ClassFile.FieldType.int)) (C := R_rw) (As := []) (rest := [.int (nI i)]) E hM1 (cwV (y := y_rw_size) (bytes := b_rw_size) (maxL := 1) (ws := w_rw_size) (rm := { frames := 0, cells := 0, slots := 0, locals := 0 }) (own := R_tr) (index := 25) (ret := (Option.some Jvm.ClassFile.FieldType.int)) (C := R_rw) 0 hts hG1 rfl rfl rfl (by decide +kernel) ⟨Nat.le_of_ble_eq_true rfl, Nat.le_of_ble_eq_true rfl⟩) (hm_preV gk_w gk_s hH hg hK (hw.at 1 rfl) rfl []) rfl rfl hl.1 rfl (lv_room (Nat.le_of_ble_eq_true rfl)) d_tr_numbersOf_9 ⟨(by show _ ≤ 0; omega), (by show _ ≤ 0; omega)⟩) hH (fun r1 M1 H1 locs1 hq1 hH1 => ?_)
      obtain ⟨rfl, e1⟩ := hq1
      replace hH := hH1; rw [e1] at hH; clear hH1 e1; generalize H1 = H at hH ⊢; generalize locs1 = locs at hH ⊢
      refine hn_icmp_ge (a := i) (b := sz) hx hb (by omega) (by omega) (tgt := 37) d_tr_numbersOf_12 (by decide) (fun h12 => ?_) (fun h12 => ?_)
      · skip
        refine lv_aload_n hx hb d_tr_numbersOf_37 rfl (lv_at hl 1 rfl) ?_
        refine hm_getN E (tB in_nd) hK hH (htr.2.1 a haL) rfl 3 (by decide) hg.2.1 rfl d_tr_numbersOf_38 ?_
        obtain rfl : i = sz := by omega
        exact hm_aret (x := tnu τ a) E hr (Or.inr ⟨_, rfl⟩) hlk hH (⟨by rw [hwk]; rfl, hM0.symm⟩) (by omega) (by omega) d_tr_numbersOf_41
      · skip
        refine lv_aload_n hx hb d_tr_numbersOf_15 rfl (lv_at hl 1 rfl) ?_
        refine lv_aload_n hx hb d_tr_numbersOf_16 rfl (lv_at hl 3 rfl) ?_
        refine lv_iload_n hx hb d_tr_numbersOf_17 rfl (lv_at hl 0 rfl) ?_
        have hM1 := c_rw_signAt l G r sg nm sz f i M (hw.sub (ws' := [(r, cRw sg nm sz), (sg, aI G 65 f)]) [1, 2] rfl rfl) hsz (by omega) H.size
        have hG1 : GoodIn w_tr_numbersOf (wsV R_tr 31 R_rw y_rw_signAt w_rw_signAt) := gB_V wm_259 wm_180 wm_181 wm_4 wm_182
        refine hm_call (va_runV (y := y_rw_signAt) (bytes := b_rw_signAt) (maxL := 2) (ws := w_rw_signAt) (rm := { frames := 1, cells := 0, slots := 0, locals := 21 }) (own := R_tr) (index := 31) (ret := (Option.some Jvm.ClassFile.FieldType.int)) (C := R_rw) (As := [.int (nI i)]) (rest := [.ref a]) E hM1 (cwV (y := y_rw_signAt) (bytes := b_rw_signAt) (maxL := 2) (ws := w_rw_signAt) (rm := { frames := 1, cells := 0, slots := 0, locals := 21 }) (own := R_tr) (index := 31) (ret := (Option.some Jvm.ClassFile.FieldType.int)) (C := R_rw) 1 hts hG1 rfl rfl rfl (by decide +kernel) ⟨Nat.le_of_ble_eq_true rfl, Nat.le_of_ble_eq_true rfl⟩) (hm_preV gk_w gk_s hH hg hK (hw.at 1 rfl) rfl [.int (nI i)]) rfl rfl hl.1 rfl (lv_room (Nat.le_of_ble_eq_true rfl)) d_tr_numbersOf_18 ⟨(by show _ ≤ 0; omega), (by show _ ≤ 0; omega)⟩) hH (fun r1 M1 H1 locs1 hq1 hH1 => ?_)
        obtain ⟨rfl, e1⟩ := hq1
        replace hH := hH1; rw [e1] at hH; clear hH1 e1; generalize H1 = H at hH ⊢; generalize locs1 = locs at hH ⊢
        refine hm_top (w := .int (f i)) (by rw [if_pos h12]) ?_
        have hM1 := c_nd_childWith l G a (tsg τ a) (tnx τ a) (tnu τ a) (tcs τ a) (tsg τ) (f i) M (htr.2.1 a haL) (htr.ch haL) H.size
        have hG1 : GoodIn w_tr_numbersOf (wsV R_tr 35 R_nd y_nd_childWith w_nd_childWith) := gB_V wm_260 wm_261 wm_262 wm_3 wm_263
        refine hm_call (va_runV (y := y_nd_childWith) (bytes := b_nd_childWith) (maxL := 3) (ws := w_nd_childWith) (rm := { frames := 0, cells := 0, slots := 0, locals := 0 }) (own := R_tr) (index := 35) (ret := (Option.some (Jvm.ClassFile.FieldType.object "HyphenBook$Node"))) (C := R_nd) (As := [.int (f i)]) (rest := []) E hM1 (cwV (y := y_nd_childWith) (bytes := b_nd_childWith) (maxL := 3) (ws := w_nd_childWith) (rm := { frames := 0, cells := 0, slots := 0, locals := 0 }) (own := R_tr) (index := 35) (ret := (Option.some (Jvm.ClassFile.FieldType.object "HyphenBook$Node"))) (C := R_nd) 1 hts hG1 rfl rfl rfl (by decide +kernel) ⟨Nat.le_of_ble_eq_true rfl, Nat.le_of_ble_eq_true rfl⟩) (hm_preV gk_w gk_s hH hg hK (htr.2.1 a haL) rfl [.int (f i)]) rfl rfl hl.1 rfl (lv_room (Nat.le_of_ble_eq_true rfl)) d_tr_numbersOf_21 ⟨(by show _ ≤ 0; omega), (by show _ ≤ 0; omega)⟩) hH (fun r1 M1 H1 locs1 hq1 hH1 => ?_)
        obtain ⟨rfl, e1⟩ := hq1
        replace hH := hH1; rw [e1] at hH; clear hH1 e1; generalize H1 = H at hH ⊢; generalize locs1 = locs at hH ⊢
        refine ho_astore_n (lv' := [(2, va_rf (tst τ a (f i))), (3, .int (nI i)), (0, .ref t), (1, .ref r)]) hx hb d_tr_numbersOf_24 rfl hl (by decide) rfl (fun ls hl => ?_)
        refine ho_aload_n hx hb d_tr_numbersOf_25 rfl (lv_at hl 0 rfl) ?_
        refine hm_ifnonnull (tgt := 31) hx hb d_tr_numbersOf_26 (by decide) (fun y hnn => ?_) (fun hnn => ?_)
        · skip
          have hl : lv_has ls 4 [(2, .ref y), (3, .int (nI i)), (0, .ref t), (1, .ref r)] := by rw [hnn] at hl; exact hl
          refine lv_iinc (v := nI (i + 1)) (lv' := [(3, .int (nI (i + 1))), (2, .ref y), (0, .ref t), (1, .ref r)]) hx hb d_tr_numbersOf_31 hl (k := 1) rfl (by first | exact nI_add _ 1 | (show nI _ + nI _ = _; rw [nI_add])) (by decide) rfl (fun ls hl => ?_)
          refine lv_goto (tgt := 7) hx hb d_tr_numbersOf_34 (by decide) ?_
          exact ih (i + 1) y _ _ _ (by omega) (by omega) (by rw [twk_succ hwk]; exact hnn) (tst_in htr haL hnn) hH (lv_sub hl [0, 1, 2, 3] rfl)
        · skip
          refine lv_null hx hb d_tr_numbersOf_29 ?_
          exact hm_aret (x := none) E hr (Or.inr ⟨_, rfl⟩) hlk hH (⟨by rw [twk_none (k := sz) (by rw [twk_succ hwk]; exact hnn) (by omega)]; rfl, hM0.symm⟩) (by omega) (by omega) d_tr_numbersOf_30
  refine lv_aload_n hx hb d_tr_numbersOf_0 rfl (lv_at hl 0 rfl) ?_
  refine hm_get E (tB in_tr) hK hH (hw.at 0 rfl) rfl 0 (by decide) (tC wm_47) rfl d_tr_numbersOf_1 ?_
  refine lv_astore_n (lv' := [(2, .ref root), (0, .ref t), (1, .ref r)]) hx hb d_tr_numbersOf_4 rfl hl (by decide) rfl (fun ls hl => ?_)
  refine lv_iconst (v := 0) hx hb d_tr_numbersOf_5 (by decide) ?_
  refine lv_istore_n (lv' := [(3, .int 0), (2, .ref root), (0, .ref t), (1, .ref r)]) hx hb d_tr_numbersOf_6 rfl hl (by decide) rfl (fun ls hl => ?_)
  exact L7 (sz + 1) 0 root _ _ _ (by omega) (by omega) rfl htr.1 hH (lv_sub hl [0, 1, 2, 3] rfl)

abbrev q_tr_beginningsWith (G : hG) (t root en bg r sg nm sz : Nat) (f : Nat → Int32) (τ : tau) (dp : Nat) (M : hM) : Option Value → hM → Prop := fun rv M' => rv = some (.int (nI (bg + sz - dp))) ∧ M' = M
set_option maxHeartbeats 4000000 in
set_option maxRecDepth 100000 in
theorem c_tr_beginningsWith (l : Launch) (G : hG) (t root en bg r sg nm sz : Nat) (f : Nat → Int32) (τ : tau) (dp : Nat) (M : hM) (hw : hm_has M [(t, .inr (2, [.ref root, .int (nI en), .int (nI bg)])), (r, .inr (1, [.ref sg, .ref nm, .int (nI sz)])), (sg, aI G 65 f)]) (htr : trH G M root τ) (hsz : sz ≤ 65) (hbg : bg < 2 ^ 20) (hdp : dp ≤ sz) (hd1 : ∃ a, twk (tst τ) root f dp = some a) (hd2 : dp = sz ∨ twk (tst τ) root f (dp + 1) = none) : Ct (gk G) l G.1 vwC y_tr_beginningsWith w_tr_beginningsWith { frames := 2, cells := 0, slots := 0, locals := 42 } ([.ref t, .ref r] : List Value) M (q_tr_beginningsWith G t root en bg r sg nm sz f τ dp M) 0 0 := by
  refine Ct.ofW (cc := b_tr_beginningsWith) (maxL := 4) (ret := (Option.some Jvm.ClassFile.FieldType.int)) (by decide) rfl (Nat.le_of_ble_eq_true rfl) (fun p e s m below meth c A ls E hr hlk hin hg hH hl => ?_)
  have hl : lv_has ls 4 [(0, .ref t), (1, .ref r)] := hl
  have hx := E.1; have hb := E.2.1; have hml := E.2.2.1; have hown := E.2.2.2.1; have hts := E.2.2.2.2; have hK := hg.1
  obtain ⟨M0, hM0⟩ : ∃ M0 : hM, M0 = M := ⟨M, rfl⟩
  rw [show q_tr_beginningsWith G t root en bg r sg nm sz f τ dp M = q_tr_beginningsWith G t root en bg r sg nm sz f τ dp M0 by rw [hM0]]
  have L7 : ∀ (k : Nat) (i a : Nat) (H : Heap) (locs : List Loc) (ls : Array Slot), sz + 1 ≤ i + k → i ≤ sz → twk (tst τ) root f i = some a → a ∈ tL τ → hm_I G.1 vwC A s.heap M H locs → lv_has ls 4 [(3, .int (nI i)), (2, .ref a), (0, .ref t), (1, .ref r)] → W p l e { frames := 2, cells := 0, slots := 0, locals := 42 } s m ([.ref t, .ref r] : List Value).toArray below meth c H locs 0 0 (MQ below (hm_Q G.1 vwC (q_tr_beginningsWith G t root en bg r sg nm sz f τ dp M0) A) ([.ref t, .ref r] : List Value).toArray s 0 0 A) (F0 m 7 ls []) := by
    intro k
    induction k with
    | zero => intro i a H locs ls hfu hi hwk haL; exact absurd hfu (by omega)
    | succ k ih =>
      intro i a H locs ls hfu hi hwk haL hH hl
      refine lv_iload_n hx hb d_tr_beginningsWith_7 rfl (lv_at hl 0 rfl) ?_
      refine lv_aload_n hx hb d_tr_beginningsWith_8 rfl (lv_at hl 3 rfl) ?_
      have hM1 := c_rw_size l G r sg nm sz M (hw.sub (ws' := [(r, cRw sg nm sz)]) [1] rfl rfl) H.size
      have hG1 : GoodIn w_tr_beginningsWith (wsV R_tr 25 R_rw y_rw_size w_rw_size) := gB_V wm_258 wm_115 wm_116 wm_4 wm_117
      refine hm_call (va_runV (y := y_rw_size) (bytes := b_rw_size) (maxL := 1) (ws := w_rw_size) (rm := { frames := 0, cells := 0, slots := 0, locals := 0 }) (own := R_tr) (index := 25) (ret := (Option.some Jvm.ClassFile.FieldType.int)) (C := R_rw) (As := []) (rest := [.int (nI i)]) E hM1 (cwV (y := y_rw_size) (bytes := b_rw_size) (maxL := 1) (ws := w_rw_size) (rm := { frames := 0, cells := 0, slots := 0, locals := 0 }) (own := R_tr) (index := 25) (ret := (Option.some Jvm.ClassFile.FieldType.int)) (C := R_rw) 0 hts hG1 rfl rfl rfl (by decide +kernel) ⟨Nat.le_of_ble_eq_true rfl, Nat.le_of_ble_eq_true rfl⟩) (hm_preV gk_w gk_s hH hg hK (hw.at 1 rfl) rfl []) rfl rfl hl.1 rfl (lv_room (Nat.le_of_ble_eq_true rfl)) d_tr_beginningsWith_9 ⟨(by show _ ≤ 0; omega), (by show _ ≤ 0; omega)⟩) hH (fun r1 M1 H1 locs1 hq1 hH1 => ?_)
      obtain ⟨rfl, e1⟩ := hq1
      replace hH := hH1; rw [e1] at hH; clear hH1 e1; generalize H1 = H at hH ⊢; generalize locs1 = locs at hH ⊢
      refine hn_icmp_ge (a := i) (b := sz) hx hb (by omega) (by omega) (tgt := 47) d_tr_beginningsWith_12 (by decide) (fun h12 => ?_) (fun h12 => ?_)
      · skip
        refine lv_aload_n hx hb d_tr_beginningsWith_47 rfl (lv_at hl 2 rfl) ?_
        refine hm_get E (tB in_tr) hK hH (hw.at 0 rfl) rfl 2 (by decide) (tC wm_49) rfl d_tr_beginningsWith_48 ?_
        obtain rfl : i = sz := by omega
        have hde : dp = i := by
          rcases hd2 with z | z
          · exact z
          · rcases Nat.lt_or_ge dp i with q | q
            · obtain ⟨b9, hb9⟩ := twk_down (k := dp + 1) (by omega) hwk; rw [z] at hb9; cases hb9
            · omega
        exact hm_iret E hr hlk hH (⟨by rw [hde, Nat.add_sub_cancel], hM0.symm⟩) (by omega) (by omega) d_tr_beginningsWith_51
      · skip
        refine lv_aload_n hx hb d_tr_beginningsWith_15 rfl (lv_at hl 1 rfl) ?_
        refine lv_aload_n hx hb d_tr_beginningsWith_16 rfl (lv_at hl 3 rfl) ?_
        refine lv_iload_n hx hb d_tr_beginningsWith_17 rfl (lv_at hl 0 rfl) ?_
        have hM1 := c_rw_signAt l G r sg nm sz f i M (hw.sub (ws' := [(r, cRw sg nm sz), (sg, aI G 65 f)]) [1, 2] rfl rfl) hsz (by omega) H.size
        have hG1 : GoodIn w_tr_beginningsWith (wsV R_tr 31 R_rw y_rw_signAt w_rw_signAt) := gB_V wm_259 wm_180 wm_181 wm_4 wm_182
        refine hm_call (va_runV (y := y_rw_signAt) (bytes := b_rw_signAt) (maxL := 2) (ws := w_rw_signAt) (rm := { frames := 1, cells := 0, slots := 0, locals := 21 }) (own := R_tr) (index := 31) (ret := (Option.some Jvm.ClassFile.FieldType.int)) (C := R_rw) (As := [.int (nI i)]) (rest := [.ref a]) E hM1 (cwV (y := y_rw_signAt) (bytes := b_rw_signAt) (maxL := 2) (ws := w_rw_signAt) (rm := { frames := 1, cells := 0, slots := 0, locals := 21 }) (own := R_tr) (index := 31) (ret := (Option.some Jvm.ClassFile.FieldType.int)) (C := R_rw) 1 hts hG1 rfl rfl rfl (by decide +kernel) ⟨Nat.le_of_ble_eq_true rfl, Nat.le_of_ble_eq_true rfl⟩) (hm_preV gk_w gk_s hH hg hK (hw.at 1 rfl) rfl [.int (nI i)]) rfl rfl hl.1 rfl (lv_room (Nat.le_of_ble_eq_true rfl)) d_tr_beginningsWith_18 ⟨(by show _ ≤ 0; omega), (by show _ ≤ 0; omega)⟩) hH (fun r1 M1 H1 locs1 hq1 hH1 => ?_)
        obtain ⟨rfl, e1⟩ := hq1
        replace hH := hH1; rw [e1] at hH; clear hH1 e1; generalize H1 = H at hH ⊢; generalize locs1 = locs at hH ⊢
        refine hm_top (w := .int (f i)) (by rw [if_pos h12]) ?_
        have hM1 := c_nd_childWith l G a (tsg τ a) (tnx τ a) (tnu τ a) (tcs τ a) (tsg τ) (f i) M (htr.2.1 a haL) (htr.ch haL) H.size
        have hG1 : GoodIn w_tr_beginningsWith (wsV R_tr 35 R_nd y_nd_childWith w_nd_childWith) := gB_V wm_260 wm_261 wm_262 wm_3 wm_263
        refine hm_call (va_runV (y := y_nd_childWith) (bytes := b_nd_childWith) (maxL := 3) (ws := w_nd_childWith) (rm := { frames := 0, cells := 0, slots := 0, locals := 0 }) (own := R_tr) (index := 35) (ret := (Option.some (Jvm.ClassFile.FieldType.object "HyphenBook$Node"))) (C := R_nd) (As := [.int (f i)]) (rest := []) E hM1 (cwV (y := y_nd_childWith) (bytes := b_nd_childWith) (maxL := 3) (ws := w_nd_childWith) (rm := { frames := 0, cells := 0, slots := 0, locals := 0 }) (own := R_tr) (index := 35) (ret := (Option.some (Jvm.ClassFile.FieldType.object "HyphenBook$Node"))) (C := R_nd) 1 hts hG1 rfl rfl rfl (by decide +kernel) ⟨Nat.le_of_ble_eq_true rfl, Nat.le_of_ble_eq_true rfl⟩) (hm_preV gk_w gk_s hH hg hK (htr.2.1 a haL) rfl [.int (f i)]) rfl rfl hl.1 rfl (lv_room (Nat.le_of_ble_eq_true rfl)) d_tr_beginningsWith_21 ⟨(by show _ ≤ 0; omega), (by show _ ≤ 0; omega)⟩) hH (fun r1 M1 H1 locs1 hq1 hH1 => ?_)
        obtain ⟨rfl, e1⟩ := hq1
        replace hH := hH1; rw [e1] at hH; clear hH1 e1; generalize H1 = H at hH ⊢; generalize locs1 = locs at hH ⊢
        refine ho_astore_n (lv' := [(2, va_rf (tst τ a (f i))), (3, .int (nI i)), (0, .ref t), (1, .ref r)]) hx hb d_tr_beginningsWith_24 rfl hl (by decide) rfl (fun ls hl => ?_)
        refine ho_aload_n hx hb d_tr_beginningsWith_25 rfl (lv_at hl 0 rfl) ?_
        refine hm_ifnonnull (tgt := 41) hx hb d_tr_beginningsWith_26 (by decide) (fun y hnn => ?_) (fun hnn => ?_)
        · skip
          have hl : lv_has ls 4 [(2, .ref y), (3, .int (nI i)), (0, .ref t), (1, .ref r)] := by rw [hnn] at hl; exact hl
          refine lv_iinc (v := nI (i + 1)) (lv' := [(3, .int (nI (i + 1))), (2, .ref y), (0, .ref t), (1, .ref r)]) hx hb d_tr_beginningsWith_41 hl (k := 1) rfl (by first | exact nI_add _ 1 | (show nI _ + nI _ = _; rw [nI_add])) (by decide) rfl (fun ls hl => ?_)
          refine lv_goto (tgt := 7) hx hb d_tr_beginningsWith_44 (by decide) ?_
          exact ih (i + 1) y _ _ _ (by omega) (by omega) (by rw [twk_succ hwk]; exact hnn) (tst_in htr haL hnn) hH (lv_sub hl [0, 1, 2, 3] rfl)
        · skip
          refine lv_aload_n hx hb d_tr_beginningsWith_29 rfl (lv_at hl 2 rfl) ?_
          refine hm_get E (tB in_tr) hK hH (hw.at 0 rfl) rfl 2 (by decide) (tC wm_49) rfl d_tr_beginningsWith_30 ?_
          refine lv_aload_n hx hb d_tr_beginningsWith_33 rfl (lv_at hl 3 rfl) ?_
          have hM1 := c_rw_size l G r sg nm sz M (hw.sub (ws' := [(r, cRw sg nm sz)]) [1] rfl rfl) H.size
          have hG1 : GoodIn w_tr_beginningsWith (wsV R_tr 25 R_rw y_rw_size w_rw_size) := gB_V wm_258 wm_115 wm_116 wm_4 wm_117
          refine hm_call (va_runV (y := y_rw_size) (bytes := b_rw_size) (maxL := 1) (ws := w_rw_size) (rm := { frames := 0, cells := 0, slots := 0, locals := 0 }) (own := R_tr) (index := 25) (ret := (Option.some Jvm.ClassFile.FieldType.int)) (C := R_rw) (As := []) (rest := [.int (nI bg)]) E hM1 (cwV (y := y_rw_size) (bytes := b_rw_size) (maxL := 1) (ws := w_rw_size) (rm := { frames := 0, cells := 0, slots := 0, locals := 0 }) (own := R_tr) (index := 25) (ret := (Option.some Jvm.ClassFile.FieldType.int)) (C := R_rw) 0 hts hG1 rfl rfl rfl (by decide +kernel) ⟨Nat.le_of_ble_eq_true rfl, Nat.le_of_ble_eq_true rfl⟩) (hm_preV gk_w gk_s hH hg hK (hw.at 1 rfl) rfl []) rfl rfl hl.1 rfl (lv_room (Nat.le_of_ble_eq_true rfl)) d_tr_beginningsWith_34 ⟨(by show _ ≤ 0; omega), (by show _ ≤ 0; omega)⟩) hH (fun r1 M1 H1 locs1 hq1 hH1 => ?_)
          obtain ⟨rfl, e1⟩ := hq1
          replace hH := hH1; rw [e1] at hH; clear hH1 e1; generalize H1 = H at hH ⊢; generalize locs1 = locs at hH ⊢
          refine hn_iadd hx hb (a := bg) (b := sz) d_tr_beginningsWith_37 ?_
          refine lv_iload_n hx hb d_tr_beginningsWith_38 rfl (lv_at hl 1 rfl) ?_
          refine hn_isub hx hb (a := bg + sz) (b := i) (by omega) d_tr_beginningsWith_39 ?_
          have hde : i = dp := twk_dp hdp hd1 hd2 (by omega) hwk (by rw [twk_succ hwk]; exact hnn)
          exact hm_iret E hr hlk hH (⟨by rw [hde], hM0.symm⟩) (by omega) (by omega) d_tr_beginningsWith_40
  refine lv_aload_n hx hb d_tr_beginningsWith_0 rfl (lv_at hl 0 rfl) ?_
  refine hm_get E (tB in_tr) hK hH (hw.at 0 rfl) rfl 0 (by decide) (tC wm_47) rfl d_tr_beginningsWith_1 ?_
  refine lv_astore_n (lv' := [(2, .ref root), (0, .ref t), (1, .ref r)]) hx hb d_tr_beginningsWith_4 rfl hl (by decide) rfl (fun ls hl => ?_)
  refine lv_iconst (v := 0) hx hb d_tr_beginningsWith_5 (by decide) ?_
  refine lv_istore_n (lv' := [(3, .int 0), (2, .ref root), (0, .ref t), (1, .ref r)]) hx hb d_tr_beginningsWith_6 rfl hl (by decide) rfl (fun ls hl => ?_)
  exact L7 (sz + 1) 0 root _ _ _ (by omega) (by omega) rfl htr.1 hH (lv_sub hl [0, 1, 2, 3] rfl)
end
section
abbrev q_tr_enter (G : hG) (t root en bg r sg nm sz : Nat) (f : Nat → Int32) (τ : tau) (g : Nat → Int32) (S0 : (Nat → Int32) → Nat → Prop) (Es : List rwT) (dp : Nat) (M : hM) : Option Value → hM → Prop := fun rv M' => rv = none ∧ ∃ τ' Es', trH G M' root τ' ∧ trI (tst τ') root (fun x k => S0 x k ∨ (k ≤ sz ∧ ag x f k)) ∧ trC (tst τ') root (tnu τ') (tnv τ') Es' ∧ (((∀ r9 ∈ Es, ¬ sm r9 sz f) ∧ Es' = Es ++ [(sz, f, g)] ∧ hm_has M' [(t, .inr (2, [.ref root, .int (nI (en + 1)), .int (nI (bg + (sz - dp)))])), (r, .inr (1, [.ref sg, .ref nm, .int (nI sz)])), (sg, aI G 65 f), (nm, aI G 66 g)]) ∨ (∃ e r0, Es[e]? = some r0 ∧ sm r0 sz f ∧ Es' = Es.set e (sz, f, g) ∧ hm_has M' [(t, .inr (2, [.ref root, .int (nI en), .int (nI (bg + (sz - dp)))])), (r, .inr (1, [.ref sg, .ref nm, .int (nI sz)])), (sg, aI G 65 f), (nm, aI G 66 g)])) ∧ hm_kp (fun b => b = t ∨ b ∈ tL τ) M M' ∧ (∀ b ∈ tL τ', b ∈ tL τ ∨ M b = none) ∧ (∀ b ∈ tL τ', ∀ q, tnu τ' b = some q → (∃ b0 ∈ tL τ, tnu τ b0 = some q) ∨ M q = none)
set_option maxHeartbeats 4000000 in
set_option maxRecDepth 100000 in
theorem c_tr_enter (l : Launch) (G : hG) (t root en bg r sg nm sz : Nat) (f : Nat → Int32) (τ : tau) (g : Nat → Int32) (S0 : (Nat → Int32) → Nat → Prop) (Es : List rwT) (dp : Nat) (M : hM) (hw : hm_has M [(t, .inr (2, [.ref root, .int (nI en), .int (nI bg)])), (r, .inr (1, [.ref sg, .ref nm, .int (nI sz)])), (sg, aI G 65 f), (nm, aI G 66 g)]) (htr : trH G M root τ) (hsz : sz ≤ 65) (hbg : bg < 2 ^ 20) (hen : en < 2 ^ 20) (hdp : dp ≤ sz) (hd1 : ∃ a, twk (tst τ) root f dp = some a) (hd2 : dp = sz ∨ twk (tst τ) root f (dp + 1) = none) (hI : trI (tst τ) root S0) (hC : trC (tst τ) root (tnu τ) (tnv τ) Es) (hSE : ∀ x k, sE Es x k → S0 x k) : Ct (gk G) l G.1 vwC y_tr_enter w_tr_enter { frames := 3, cells := 66, slots := 326, locals := 55 } ([.ref t, .ref r] : List Value) M (q_tr_enter G t root en bg r sg nm sz f τ g S0 Es dp M) 66 326 := by
  refine Ct.ofW (cc := b_tr_enter) (maxL := 5) (ret := (Option.none : Option Jvm.ClassFile.FieldType)) (by decide) rfl (Nat.le_of_ble_eq_true rfl) (fun p e s m below meth c A ls E hr hlk hin hg hH hl => ?_)
  have hl : lv_has ls 5 [(0, .ref t), (1, .ref r)] := hl
  have hx := E.1; have hb := E.2.1; have hml := E.2.2.1; have hown := E.2.2.2.1; have hts := E.2.2.2.2; have hK := hg.1
  obtain ⟨M0, hM0⟩ : ∃ M0 : hM, M0 = M := ⟨M, rfl⟩
  rw [show q_tr_enter G t root en bg r sg nm sz f τ g S0 Es dp M = q_tr_enter G t root en bg r sg nm sz f τ g S0 Es dp M0 by rw [hM0]]
  have hk : hm_kp (fun b => b = t ∨ b ∈ tL τ) M0 M := by rw [hM0]; exact hm_kp.rf
  have L7 : ∀ (k : Nat) (i a bgi : Nat) (τ1 : tau) (M : hM) (H : Heap) (locs : List Loc) (ls : Array Slot), sz + 1 ≤ i + k → i ≤ sz → twk (tst τ1) root f i = some a → trH G M root τ1 → trI (tst τ1) root (fun x k9 => S0 x k9 ∨ (k9 ≤ i ∧ ag x f k9)) → trC (tst τ1) root (tnu τ1) (tnv τ1) Es → bgi = bg + (i - dp) → (∀ b ∈ tL τ1, b ∈ tL τ ∨ M0 b = none) → (∀ b ∈ tL τ, b ∈ tL τ1) → (∀ b ∈ tL τ1, ∀ q, tnu τ1 b = some q → ∃ b0 ∈ tL τ, tnu τ b0 = some q) → hm_has M [(t, .inr (2, [.ref root, .int (nI en), .int (nI bgi)])), (r, .inr (1, [.ref sg, .ref nm, .int (nI sz)])), (sg, aI G 65 f), (nm, aI G 66 g)] → hm_kp (fun b => b = t ∨ b ∈ tL τ) M0 M → hm_I G.1 vwC A s.heap M H locs → lv_has ls 5 [(3, .int (nI i)), (2, .ref a), (0, .ref t), (1, .ref r)] → W p l e { frames := 3, cells := 66, slots := 326, locals := 55 } s m ([.ref t, .ref r] : List Value).toArray below meth c H locs i (4 * i) (MQ below (hm_Q G.1 vwC (q_tr_enter G t root en bg r sg nm sz f τ g S0 Es dp M0) A) ([.ref t, .ref r] : List Value).toArray s 66 326 A) (F0 m 7 ls []) := by
    intro k
    induction k with
    | zero => intro i a bgi τ1 M H locs ls hfu hi hwk htr1 hI1 hC1 hbgi hLs hsub hnus; exact absurd hfu (by omega)
    | succ k ih =>
      intro i a bgi τ1 M H locs ls hfu hi hwk htr1 hI1 hC1 hbgi hLs hsub hnus hw hk hH hl
      have haL := twk_in htr1 hwk
      refine lv_iload_n hx hb d_tr_enter_7 rfl (lv_at hl 0 rfl) ?_
      refine lv_aload_n hx hb d_tr_enter_8 rfl (lv_at hl 3 rfl) ?_
      have hM1 := c_rw_size l G r sg nm sz M (hw.sub (ws' := [(r, cRw sg nm sz)]) [1] rfl rfl) H.size
      have hG1 : GoodIn w_tr_enter (wsV R_tr 25 R_rw y_rw_size w_rw_size) := gB_V wm_258 wm_115 wm_116 wm_4 wm_117
      refine hm_call (va_runV (y := y_rw_size) (bytes := b_rw_size) (maxL := 1) (ws := w_rw_size) (rm := { frames := 0, cells := 0, slots := 0, locals := 0 }) (own := R_tr) (index := 25) (ret := (Option.some Jvm.ClassFile.FieldType.int)) (C := R_rw) (As := []) (rest := [.int (nI i)]) E hM1 (cwV (y := y_rw_size) (bytes := b_rw_size) (maxL := 1) (ws := w_rw_size) (rm := { frames := 0, cells := 0, slots := 0, locals := 0 }) (own := R_tr) (index := 25) (ret := (Option.some Jvm.ClassFile.FieldType.int)) (C := R_rw) 0 hts hG1 rfl rfl rfl (by decide +kernel) ⟨Nat.le_of_ble_eq_true rfl, Nat.le_of_ble_eq_true rfl⟩) (hm_preV gk_w gk_s hH hg hK (hw.at 1 rfl) rfl []) rfl rfl hl.1 rfl (lv_room (Nat.le_of_ble_eq_true rfl)) d_tr_enter_9 ⟨(by show _ ≤ 66; omega), (by show _ ≤ 326; omega)⟩) hH (fun r1 M1 H1 locs1 hq1 hH1 => ?_)
      obtain ⟨rfl, e1⟩ := hq1
      replace hH := hH1; rw [e1] at hH; clear hH1 e1; generalize H1 = H at hH ⊢; generalize locs1 = locs at hH ⊢
      refine hn_icmp_ge (a := i) (b := sz) hx hb (by omega) (by omega) (tgt := 61) d_tr_enter_12 (by decide) (fun h12 => ?_) (fun h12 => ?_)
      · skip
        have hie : i = sz := by omega
        rw [hie] at hwk hI1 hbgi
        refine lv_aload_n hx hb d_tr_enter_61 rfl (lv_at hl 1 rfl) ?_
        refine hm_getN E (tB in_nd) hK hH (htr1.2.1 a haL) rfl 3 (by decide) hg.2.1 rfl d_tr_enter_62 ?_
        refine hm_ifnonnull (tgt := 78) hx hb d_tr_enter_65 (by decide) (fun y hnu => ?_) (fun hnu => ?_)
        · skip
          have hwt0 := hw.at 0 rfl
          refine lv_aload_n hx hb d_tr_enter_78 rfl (lv_at hl 1 rfl) ?_
          refine lv_aload_n hx hb d_tr_enter_79 rfl (lv_at hl 3 rfl) ?_
          have hM1 := c_rw_copyOfNumbers l G r sg nm sz g M (hw.sub (ws' := [(r, cRw sg nm sz), (nm, aI G 66 g)]) [1, 3] rfl rfl) H.size
          have hG1 : GoodIn w_tr_enter (wsV R_tr 46 R_rw y_rw_copyOfNumbers w_rw_copyOfNumbers) := gB_V wm_297 wm_298 wm_299 wm_4 wm_300
          refine hm_call (va_runV (y := y_rw_copyOfNumbers) (bytes := b_rw_copyOfNumbers) (maxL := 1) (ws := w_rw_copyOfNumbers) (rm := { frames := 1, cells := 1, slots := 66, locals := 22 }) (own := R_tr) (index := 46) (ret := (Option.some (Jvm.ClassFile.FieldType.array Jvm.ClassFile.FieldType.int))) (C := R_rw) (As := []) (rest := [.ref a]) E hM1 (cwV (y := y_rw_copyOfNumbers) (bytes := b_rw_copyOfNumbers) (maxL := 1) (ws := w_rw_copyOfNumbers) (rm := { frames := 1, cells := 1, slots := 66, locals := 22 }) (own := R_tr) (index := 46) (ret := (Option.some (Jvm.ClassFile.FieldType.array Jvm.ClassFile.FieldType.int))) (C := R_rw) 0 hts hG1 rfl rfl rfl (by decide +kernel) ⟨Nat.le_of_ble_eq_true rfl, Nat.le_of_ble_eq_true rfl⟩) (hm_preV gk_w gk_s hH hg hK (hw.at 1 rfl) rfl []) rfl rfl hl.1 rfl (lv_room (Nat.le_of_ble_eq_true rfl)) d_tr_enter_80 ⟨(by show _ ≤ 66; omega), (by show _ ≤ 326; omega)⟩) hH (fun r1 M1 H1 locs1 hq1 hH1 => ?_)
          replace hH := hH1; clear hH1; generalize H1 = H at hH ⊢; generalize locs1 = locs at hH ⊢
          obtain ⟨q, rfl, hqn, hM1⟩ := hq1
          have hwa : hm_has M [(a, cNd (tsg τ1 a) (tcs τ1 a).head? (tnx τ1 a) (tnu τ1 a))] := ⟨by simp, by simp only [List.mem_singleton, forall_eq]; exact htr1.2.1 a haL⟩
          have hwa := hwa.push (ws' := [(a, cNd (tsg τ1 a) (tcs τ1 a).head? (tnx τ1 a) (tnu τ1 a)), (q, aI G 66 g)]) hqn rfl
          have hkq : hm_kp (fun b => b ∈ [a]) M M1 := by rw [hM1]; exact hm_kp.new hqn
          rw [← hM1] at hwa
          refine hm_putN E (tB in_nd) t_nd tk_nd nm_nd hK hH (hwa.at 0 rfl) rfl 3 (by decide) hg.2.1 rfl rfl rfl (Nat.le_of_ble_eq_true rfl) (fs' := [.int (tsg τ1 a), va_rf ((tcs τ1 a).head?), va_rf (tnx τ1 a), .ref q]) rfl d_tr_enter_83 (fun H locs hH => ?_)
          have hw2 := hwa.set (ws' := [(a, cNd (tsg τ1 a) (tcs τ1 a).head? (tnx τ1 a) (some q)), (q, aI G 66 g)]) (k := 0) rfl rfl
          have hk2 : hm_kp (fun b => b ∈ [a]) M (va_up M1 a (some (cNd (tsg τ1 a) (tcs τ1 a).head? (tnx τ1 a) (some q)))) := hkq.wr (Or.inl (by simp))
          have htr2 := htr1.put haL hqn hw2 hk2
          have hw := hw.keptA hk2 (htr1.2.1 a haL) (by simp)
          have hq0 : M0 q = none := by
            cases hm9 : M0 q with
            | none => rfl
            | some x9 =>
              by_cases hs9 : q = t ∨ q ∈ tL τ
              · rcases hs9 with z | z
                · rw [z, hwt0] at hqn; cases hqn
                · rw [htr1.2.1 q (hsub q z)] at hqn; cases hqn
              · rw [hk q x9 hm9 hs9] at hqn; cases hqn
          have hk := hk.trN hk2 (fun b hb => by
            have hb : b = a := by simpa using hb
            rw [hb]
            exact (hLs a haL).imp (fun z => Or.inr z) id)
          have hL9 : ∀ b ∈ tL (tput τ1 a q g), b ∈ tL τ ∨ M0 b = none := hLs
          have hN9 : ∀ b ∈ tL (tput τ1 a q g), ∀ x, tnu (tput τ1 a q g) b = some x → (∃ b0 ∈ tL τ, tnu τ b0 = some x) ∨ M0 x = none := by
            intro b hb x hx
            rw [tp_nu] at hx
            by_cases hba : b = a
            · rw [if_pos hba] at hx; cases hx; exact Or.inr hq0
            · rw [if_neg hba] at hx; exact Or.inl (hnus b hb x hx)
          have hI9 : trI (tst (tput τ1 a q g)) root (fun x k9 => S0 x k9 ∨ (k9 ≤ sz ∧ ag x f k9)) := hI1
          exact hm_vret E hr hlk hH (⟨rfl, tput τ1 a q g, _, htr2, hI9, by first | exact (en_app (g := g) hI1 htr1 hqn hC1 hwk hnu).2 | exact (en_set (g := g) hI1 htr1 hqn hC1 hwk hnu).choose_spec.choose_spec.2.2, by first | exact Or.inl ⟨(en_app (g := g) hI1 htr1 hqn hC1 hwk hnu).1, rfl, by rw [hbgi] at hw; exact hw⟩ | exact Or.inr ⟨_, _, (en_set (g := g) hI1 htr1 hqn hC1 hwk hnu).choose_spec.choose_spec.1, (en_set (g := g) hI1 htr1 hqn hC1 hwk hnu).choose_spec.choose_spec.2.1, rfl, by rw [hbgi] at hw; exact hw⟩, hk, hL9, hN9⟩) (by omega) (by omega) d_tr_enter_86
        · skip
          refine lv_aload_n hx hb d_tr_enter_68 rfl (lv_at hl 2 rfl) ?_
          refine lv_dup hx hb d_tr_enter_69 rfl ?_
          refine hm_get E (tB in_tr) hK hH (hw.at 0 rfl) rfl 1 (by decide) (tC wm_48) rfl d_tr_enter_70 ?_
          refine lv_iconst (v := 1) hx hb d_tr_enter_73 (by decide) ?_
          refine hn_iadd hx hb (a := en) (b := 1) d_tr_enter_74 ?_
          refine hm_put E (tB in_tr) t_tr tk_tr nm_tr hK hH (hw.at 0 rfl) rfl 1 (by decide) (tC wm_48) rfl rfl rfl (Nat.le_of_ble_eq_true rfl) (fs' := [.ref root, .int (nI (en + 1)), .int (nI bgi)]) rfl d_tr_enter_75 (fun H locs hH => ?_)
          have htr1 := htr1.upT (v := (some (.inr (2, [.ref root, .int (nI (en + 1)), .int (nI bgi)])))) (hw.at 0 rfl)
          have hw := hw.set (ws' := [(t, .inr (2, [.ref root, .int (nI (en + 1)), .int (nI bgi)])), (r, .inr (1, [.ref sg, .ref nm, .int (nI sz)])), (sg, aI G 65 f), (nm, aI G 66 g)]) (k := 0) rfl rfl
          have hk := hk.wr (a := t) (v := some (.inr (2, [.ref root, .int (nI (en + 1)), .int (nI bgi)]))) (by first | (right; assumption) | (left; simp; done))
          generalize va_up M t (some (.inr (2, [.ref root, .int (nI (en + 1)), .int (nI bgi)]))) = M at hH hw hk htr1 ⊢
          have hwt0 := hw.at 0 rfl
          refine lv_aload_n hx hb d_tr_enter_78 rfl (lv_at hl 1 rfl) ?_
          refine lv_aload_n hx hb d_tr_enter_79 rfl (lv_at hl 3 rfl) ?_
          have hM1 := c_rw_copyOfNumbers l G r sg nm sz g M (hw.sub (ws' := [(r, cRw sg nm sz), (nm, aI G 66 g)]) [1, 3] rfl rfl) H.size
          have hG1 : GoodIn w_tr_enter (wsV R_tr 46 R_rw y_rw_copyOfNumbers w_rw_copyOfNumbers) := gB_V wm_297 wm_298 wm_299 wm_4 wm_300
          refine hm_call (va_runV (y := y_rw_copyOfNumbers) (bytes := b_rw_copyOfNumbers) (maxL := 1) (ws := w_rw_copyOfNumbers) (rm := { frames := 1, cells := 1, slots := 66, locals := 22 }) (own := R_tr) (index := 46) (ret := (Option.some (Jvm.ClassFile.FieldType.array Jvm.ClassFile.FieldType.int))) (C := R_rw) (As := []) (rest := [.ref a]) E hM1 (cwV (y := y_rw_copyOfNumbers) (bytes := b_rw_copyOfNumbers) (maxL := 1) (ws := w_rw_copyOfNumbers) (rm := { frames := 1, cells := 1, slots := 66, locals := 22 }) (own := R_tr) (index := 46) (ret := (Option.some (Jvm.ClassFile.FieldType.array Jvm.ClassFile.FieldType.int))) (C := R_rw) 0 hts hG1 rfl rfl rfl (by decide +kernel) ⟨Nat.le_of_ble_eq_true rfl, Nat.le_of_ble_eq_true rfl⟩) (hm_preV gk_w gk_s hH hg hK (hw.at 1 rfl) rfl []) rfl rfl hl.1 rfl (lv_room (Nat.le_of_ble_eq_true rfl)) d_tr_enter_80 ⟨(by show _ ≤ 66; omega), (by show _ ≤ 326; omega)⟩) hH (fun r1 M1 H1 locs1 hq1 hH1 => ?_)
          replace hH := hH1; clear hH1; generalize H1 = H at hH ⊢; generalize locs1 = locs at hH ⊢
          obtain ⟨q, rfl, hqn, hM1⟩ := hq1
          have hwa : hm_has M [(a, cNd (tsg τ1 a) (tcs τ1 a).head? (tnx τ1 a) (tnu τ1 a))] := ⟨by simp, by simp only [List.mem_singleton, forall_eq]; exact htr1.2.1 a haL⟩
          have hwa := hwa.push (ws' := [(a, cNd (tsg τ1 a) (tcs τ1 a).head? (tnx τ1 a) (tnu τ1 a)), (q, aI G 66 g)]) hqn rfl
          have hkq : hm_kp (fun b => b ∈ [a]) M M1 := by rw [hM1]; exact hm_kp.new hqn
          rw [← hM1] at hwa
          refine hm_putN E (tB in_nd) t_nd tk_nd nm_nd hK hH (hwa.at 0 rfl) rfl 3 (by decide) hg.2.1 rfl rfl rfl (Nat.le_of_ble_eq_true rfl) (fs' := [.int (tsg τ1 a), va_rf ((tcs τ1 a).head?), va_rf (tnx τ1 a), .ref q]) rfl d_tr_enter_83 (fun H locs hH => ?_)
          have hw2 := hwa.set (ws' := [(a, cNd (tsg τ1 a) (tcs τ1 a).head? (tnx τ1 a) (some q)), (q, aI G 66 g)]) (k := 0) rfl rfl
          have hk2 : hm_kp (fun b => b ∈ [a]) M (va_up M1 a (some (cNd (tsg τ1 a) (tcs τ1 a).head? (tnx τ1 a) (some q)))) := hkq.wr (Or.inl (by simp))
          have htr2 := htr1.put haL hqn hw2 hk2
          have hw := hw.keptA hk2 (htr1.2.1 a haL) (by simp)
          have hq0 : M0 q = none := by
            cases hm9 : M0 q with
            | none => rfl
            | some x9 =>
              by_cases hs9 : q = t ∨ q ∈ tL τ
              · rcases hs9 with z | z
                · rw [z, hwt0] at hqn; cases hqn
                · rw [htr1.2.1 q (hsub q z)] at hqn; cases hqn
              · rw [hk q x9 hm9 hs9] at hqn; cases hqn
          have hk := hk.trN hk2 (fun b hb => by
            have hb : b = a := by simpa using hb
            rw [hb]
            exact (hLs a haL).imp (fun z => Or.inr z) id)
          have hL9 : ∀ b ∈ tL (tput τ1 a q g), b ∈ tL τ ∨ M0 b = none := hLs
          have hN9 : ∀ b ∈ tL (tput τ1 a q g), ∀ x, tnu (tput τ1 a q g) b = some x → (∃ b0 ∈ tL τ, tnu τ b0 = some x) ∨ M0 x = none := by
            intro b hb x hx
            rw [tp_nu] at hx
            by_cases hba : b = a
            · rw [if_pos hba] at hx; cases hx; exact Or.inr hq0
            · rw [if_neg hba] at hx; exact Or.inl (hnus b hb x hx)
          have hI9 : trI (tst (tput τ1 a q g)) root (fun x k9 => S0 x k9 ∨ (k9 ≤ sz ∧ ag x f k9)) := hI1
          exact hm_vret E hr hlk hH (⟨rfl, tput τ1 a q g, _, htr2, hI9, by first | exact (en_app (g := g) hI1 htr1 hqn hC1 hwk hnu).2 | exact (en_set (g := g) hI1 htr1 hqn hC1 hwk hnu).choose_spec.choose_spec.2.2, by first | exact Or.inl ⟨(en_app (g := g) hI1 htr1 hqn hC1 hwk hnu).1, rfl, by rw [hbgi] at hw; exact hw⟩ | exact Or.inr ⟨_, _, (en_set (g := g) hI1 htr1 hqn hC1 hwk hnu).choose_spec.choose_spec.1, (en_set (g := g) hI1 htr1 hqn hC1 hwk hnu).choose_spec.choose_spec.2.1, rfl, by rw [hbgi] at hw; exact hw⟩, hk, hL9, hN9⟩) (by omega) (by omega) d_tr_enter_86
      · skip
        refine lv_aload_n hx hb d_tr_enter_15 rfl (lv_at hl 1 rfl) ?_
        refine lv_aload_n hx hb d_tr_enter_16 rfl (lv_at hl 3 rfl) ?_
        refine lv_iload_n hx hb d_tr_enter_17 rfl (lv_at hl 0 rfl) ?_
        have hM1 := c_rw_signAt l G r sg nm sz f i M (hw.sub (ws' := [(r, cRw sg nm sz), (sg, aI G 65 f)]) [1, 2] rfl rfl) hsz (by omega) H.size
        have hG1 : GoodIn w_tr_enter (wsV R_tr 31 R_rw y_rw_signAt w_rw_signAt) := gB_V wm_259 wm_180 wm_181 wm_4 wm_182
        refine hm_call (va_runV (y := y_rw_signAt) (bytes := b_rw_signAt) (maxL := 2) (ws := w_rw_signAt) (rm := { frames := 1, cells := 0, slots := 0, locals := 21 }) (own := R_tr) (index := 31) (ret := (Option.some Jvm.ClassFile.FieldType.int)) (C := R_rw) (As := [.int (nI i)]) (rest := [.ref a]) E hM1 (cwV (y := y_rw_signAt) (bytes := b_rw_signAt) (maxL := 2) (ws := w_rw_signAt) (rm := { frames := 1, cells := 0, slots := 0, locals := 21 }) (own := R_tr) (index := 31) (ret := (Option.some Jvm.ClassFile.FieldType.int)) (C := R_rw) 1 hts hG1 rfl rfl rfl (by decide +kernel) ⟨Nat.le_of_ble_eq_true rfl, Nat.le_of_ble_eq_true rfl⟩) (hm_preV gk_w gk_s hH hg hK (hw.at 1 rfl) rfl [.int (nI i)]) rfl rfl hl.1 rfl (lv_room (Nat.le_of_ble_eq_true rfl)) d_tr_enter_18 ⟨(by show _ ≤ 66; omega), (by show _ ≤ 326; omega)⟩) hH (fun r1 M1 H1 locs1 hq1 hH1 => ?_)
        obtain ⟨rfl, e1⟩ := hq1
        replace hH := hH1; rw [e1] at hH; clear hH1 e1; generalize H1 = H at hH ⊢; generalize locs1 = locs at hH ⊢
        refine hm_top (w := .int (f i)) (by rw [if_pos h12]) ?_
        have hM1 := c_nd_childWith l G a (tsg τ1 a) (tnx τ1 a) (tnu τ1 a) (tcs τ1 a) (tsg τ1) (f i) M (htr1.2.1 a haL) (htr1.ch haL) H.size
        have hG1 : GoodIn w_tr_enter (wsV R_tr 35 R_nd y_nd_childWith w_nd_childWith) := gB_V wm_260 wm_261 wm_262 wm_3 wm_263
        refine hm_call (va_runV (y := y_nd_childWith) (bytes := b_nd_childWith) (maxL := 3) (ws := w_nd_childWith) (rm := { frames := 0, cells := 0, slots := 0, locals := 0 }) (own := R_tr) (index := 35) (ret := (Option.some (Jvm.ClassFile.FieldType.object "HyphenBook$Node"))) (C := R_nd) (As := [.int (f i)]) (rest := []) E hM1 (cwV (y := y_nd_childWith) (bytes := b_nd_childWith) (maxL := 3) (ws := w_nd_childWith) (rm := { frames := 0, cells := 0, slots := 0, locals := 0 }) (own := R_tr) (index := 35) (ret := (Option.some (Jvm.ClassFile.FieldType.object "HyphenBook$Node"))) (C := R_nd) 1 hts hG1 rfl rfl rfl (by decide +kernel) ⟨Nat.le_of_ble_eq_true rfl, Nat.le_of_ble_eq_true rfl⟩) (hm_preV gk_w gk_s hH hg hK (htr1.2.1 a haL) rfl [.int (f i)]) rfl rfl hl.1 rfl (lv_room (Nat.le_of_ble_eq_true rfl)) d_tr_enter_21 ⟨(by show _ ≤ 66; omega), (by show _ ≤ 326; omega)⟩) hH (fun r1 M1 H1 locs1 hq1 hH1 => ?_)
        obtain ⟨rfl, e1⟩ := hq1
        replace hH := hH1; rw [e1] at hH; clear hH1 e1; generalize H1 = H at hH ⊢; generalize locs1 = locs at hH ⊢
        refine ho_astore (lv' := [(4, va_rf (tst τ1 a (f i))), (3, .int (nI i)), (2, .ref a), (0, .ref t), (1, .ref r)]) hx hb d_tr_enter_24 hl (by decide) rfl (fun ls hl => ?_)
        refine ho_aload hx hb d_tr_enter_26 (lv_at hl 0 rfl) ?_
        refine hm_ifnonnull (tgt := 52) hx hb d_tr_enter_28 (by decide) (fun y hnn => ?_) (fun hnn => ?_)
        · skip
          have hl : lv_has ls 5 [(4, .ref y), (3, .int (nI i)), (2, .ref a), (0, .ref t), (1, .ref r)] := by rw [hnn] at hl; exact hl
          refine lv_aload hx hb d_tr_enter_52 (lv_at hl 0 rfl) ?_
          skip
          refine lv_astore_n (lv' := [(2, .ref y), (4, .ref y), (3, .int (nI i)), (0, .ref t), (1, .ref r)]) hx hb d_tr_enter_54 rfl hl (by decide) rfl (fun ls hl => ?_)
          refine lv_iinc (v := nI (i + 1)) (lv' := [(3, .int (nI (i + 1))), (2, .ref y), (4, .ref y), (0, .ref t), (1, .ref r)]) hx hb d_tr_enter_55 hl (k := 2) rfl (by first | exact nI_add _ 1 | (show nI _ + nI _ = _; rw [nI_add])) (by decide) rfl (fun ls hl => ?_)
          refine lv_goto (tgt := 7) hx hb d_tr_enter_58 (by decide) ?_
          refine W.widen (k := i + 1) (n := 4 * (i + 1)) (by omega) (by omega) ?_
          exact ih (i + 1) y bgi τ1 M _ _ _ (by omega) (by omega) (by rw [twk_succ hwk]; exact hnn) htr1 (en_ext hI1 (by rw [twk_succ hwk]; exact hnn)) hC1 (by have := en_f (sz := sz) hI hI1 (by rw [twk_succ hwk]; exact hnn) (by omega) hd2; omega) hLs hsub hnus hw hk hH (lv_sub hl [0, 1, 3, 4] rfl)
        · skip
          refine lv_aload_n hx hb d_tr_enter_31 rfl (lv_at hl 2 rfl) ?_
          refine lv_aload_n hx hb d_tr_enter_32 rfl (lv_at hl 4 rfl) ?_
          refine lv_iload_n hx hb d_tr_enter_33 rfl (lv_at hl 1 rfl) ?_
          have hM1 := c_rw_signAt l G r sg nm sz f i M (hw.sub (ws' := [(r, cRw sg nm sz), (sg, aI G 65 f)]) [1, 2] rfl rfl) hsz (by omega) H.size
          have hG1 : GoodIn w_tr_enter (wsV R_tr 31 R_rw y_rw_signAt w_rw_signAt) := gB_V wm_259 wm_180 wm_181 wm_4 wm_182
          refine hm_call (va_runV (y := y_rw_signAt) (bytes := b_rw_signAt) (maxL := 2) (ws := w_rw_signAt) (rm := { frames := 1, cells := 0, slots := 0, locals := 21 }) (own := R_tr) (index := 31) (ret := (Option.some Jvm.ClassFile.FieldType.int)) (C := R_rw) (As := [.int (nI i)]) (rest := [.ref a]) E hM1 (cwV (y := y_rw_signAt) (bytes := b_rw_signAt) (maxL := 2) (ws := w_rw_signAt) (rm := { frames := 1, cells := 0, slots := 0, locals := 21 }) (own := R_tr) (index := 31) (ret := (Option.some Jvm.ClassFile.FieldType.int)) (C := R_rw) 1 hts hG1 rfl rfl rfl (by decide +kernel) ⟨Nat.le_of_ble_eq_true rfl, Nat.le_of_ble_eq_true rfl⟩) (hm_preV gk_w gk_s hH hg hK (hw.at 1 rfl) rfl [.int (nI i)]) rfl rfl hl.1 rfl (lv_room (Nat.le_of_ble_eq_true rfl)) d_tr_enter_34 ⟨(by show _ ≤ 66; omega), (by show _ ≤ 326; omega)⟩) hH (fun r1 M1 H1 locs1 hq1 hH1 => ?_)
          obtain ⟨rfl, e1⟩ := hq1
          replace hH := hH1; rw [e1] at hH; clear hH1 e1; generalize H1 = H at hH ⊢; generalize locs1 = locs at hH ⊢
          refine hm_top (w := .int (f i)) (by rw [if_pos h12]) ?_
          have hM1 := c_nd_newChild l G a (tsg τ1 a) (tcs τ1 a).head? (tnx τ1 a) (tnu τ1 a) (f i) M ⟨by simp, by simp only [List.mem_singleton, forall_eq]; exact htr1.2.1 a haL⟩ H.size
          have hG1 : GoodIn w_tr_enter (wsV R_tr 43 R_nd y_nd_newChild w_nd_newChild) := gB_V wm_291 wm_292 wm_293 wm_3 wm_294
          refine hm_call (va_runV (y := y_nd_newChild) (bytes := b_nd_newChild) (maxL := 3) (ws := w_nd_newChild) (rm := { frames := 2, cells := 1, slots := 4, locals := 33 }) (own := R_tr) (index := 43) (ret := (Option.some (Jvm.ClassFile.FieldType.object "HyphenBook$Node"))) (C := R_nd) (As := [.int (f i)]) (rest := []) E hM1 (cwV (y := y_nd_newChild) (bytes := b_nd_newChild) (maxL := 3) (ws := w_nd_newChild) (rm := { frames := 2, cells := 1, slots := 4, locals := 33 }) (own := R_tr) (index := 43) (ret := (Option.some (Jvm.ClassFile.FieldType.object "HyphenBook$Node"))) (C := R_nd) 1 hts hG1 rfl rfl rfl (by decide +kernel) ⟨Nat.le_of_ble_eq_true rfl, Nat.le_of_ble_eq_true rfl⟩) (hm_preV gk_w gk_s hH hg hK (htr1.2.1 a haL) rfl [.int (f i)]) rfl rfl hl.1 rfl (lv_room (Nat.le_of_ble_eq_true rfl)) d_tr_enter_37 ⟨(by show _ ≤ 66; omega), (by show _ ≤ 326; omega)⟩) hH (fun r1 M1 H1 locs1 hq1 hH1 => ?_)
          replace hH := hH1; clear hH1; generalize H1 = H at hH ⊢; generalize locs1 = locs at hH ⊢
          obtain ⟨q, rfl, hqn, hwa, hka⟩ := hq1
          have hq0 : M0 q = none := by
            cases hm9 : M0 q with
            | none => rfl
            | some x9 =>
              by_cases hs9 : q = t ∨ q ∈ tL τ
              · rcases hs9 with z | z
                · rw [z, hw.at 0 rfl] at hqn; cases hqn
                · rw [htr1.2.1 q (hsub q z)] at hqn; cases hqn
              · rw [hk q x9 hm9 hs9] at hqn; cases hqn
          have htr2 := htr1.new haL hqn hwa hka
          obtain ⟨hI2, hC2, hwk2⟩ := en_new htr1 hqn hI1 hC1 hSE hwk hnn
          have hw := hw.keptA hka (htr1.2.1 a haL) (by simp)
          have hk := hk.trN hka (fun b hb => by
            have hb : b = a := by simpa using hb
            rw [hb]
            exact (hLs a haL).imp (fun z => Or.inr z) id)
          generalize M1 = M at hH hw hk htr2
          refine lv_astore (lv' := [(4, .ref q), (3, .int (nI i)), (2, .ref a), (0, .ref t), (1, .ref r)]) hx hb d_tr_enter_40 hl (by decide) rfl (fun ls hl => ?_)
          refine lv_aload_n hx hb d_tr_enter_42 rfl (lv_at hl 3 rfl) ?_
          refine lv_dup hx hb d_tr_enter_43 rfl ?_
          refine hm_get E (tB in_tr) hK hH (hw.at 0 rfl) rfl 2 (by decide) (tC wm_49) rfl d_tr_enter_44 ?_
          refine lv_iconst (v := 1) hx hb d_tr_enter_47 (by decide) ?_
          refine hn_iadd hx hb (a := bgi) (b := 1) d_tr_enter_48 ?_
          refine hm_put E (tB in_tr) t_tr tk_tr nm_tr hK hH (hw.at 0 rfl) rfl 2 (by decide) (tC wm_49) rfl rfl rfl (Nat.le_of_ble_eq_true rfl) (fs' := [.ref root, .int (nI en), .int (nI (bgi + 1))]) rfl d_tr_enter_49 (fun H locs hH => ?_)
          have htr2 := htr2.upT (v := (some (.inr (2, [.ref root, .int (nI en), .int (nI (bgi + 1))])))) (hw.at 0 rfl)
          have hw := hw.set (ws' := [(t, .inr (2, [.ref root, .int (nI en), .int (nI (bgi + 1))])), (r, .inr (1, [.ref sg, .ref nm, .int (nI sz)])), (sg, aI G 65 f), (nm, aI G 66 g)]) (k := 0) rfl rfl
          have hk := hk.wr (a := t) (v := some (.inr (2, [.ref root, .int (nI en), .int (nI (bgi + 1))]))) (by first | (right; assumption) | (left; simp; done))
          generalize va_up M t (some (.inr (2, [.ref root, .int (nI en), .int (nI (bgi + 1))]))) = M at hH hw hk htr2 ⊢
          refine lv_aload hx hb d_tr_enter_52 (lv_at hl 0 rfl) ?_
          skip
          refine lv_astore_n (lv' := [(2, .ref q), (4, .ref q), (3, .int (nI i)), (0, .ref t), (1, .ref r)]) hx hb d_tr_enter_54 rfl hl (by decide) rfl (fun ls hl => ?_)
          refine lv_iinc (v := nI (i + 1)) (lv' := [(3, .int (nI (i + 1))), (2, .ref q), (4, .ref q), (0, .ref t), (1, .ref r)]) hx hb d_tr_enter_55 hl (k := 2) rfl (by first | exact nI_add _ 1 | (show nI _ + nI _ = _; rw [nI_add])) (by decide) rfl (fun ls hl => ?_)
          refine lv_goto (tgt := 7) hx hb d_tr_enter_58 (by decide) ?_
          refine W.widen (k := i + 1) (n := 4 * (i + 1)) (by omega) (by omega) ?_
          exact ih (i + 1) q (bgi + 1) (tnew τ1 a q (f i)) M _ _ _ (by omega) (by omega) hwk2 htr2 hI2 hC2 (by have := en_n hI hI1 (by rw [twk_succ hwk]; exact hnn) hd1; omega)
            (fun b hb => (List.mem_append.mp hb).elim (hLs b) (fun z => Or.inr (by rw [List.mem_singleton.mp z]; exact hq0)))
            (fun b hb => List.mem_append_left _ (hsub b hb))
            (fun b hb x hx => by
              rw [tn_nu] at hx
              by_cases hbq : b = q
              · rw [if_pos hbq] at hx; cases hx
              · rw [if_neg hbq] at hx
                exact hnus b ((List.mem_append.mp hb).elim id (fun z => absurd (List.mem_singleton.mp z) hbq)) x hx) hw hk hH (lv_sub hl [0, 1, 3, 4] rfl)
  refine lv_aload_n hx hb d_tr_enter_0 rfl (lv_at hl 0 rfl) ?_
  refine hm_get E (tB in_tr) hK hH (hw.at 0 rfl) rfl 0 (by decide) (tC wm_47) rfl d_tr_enter_1 ?_
  refine lv_astore_n (lv' := [(2, .ref root), (0, .ref t), (1, .ref r)]) hx hb d_tr_enter_4 rfl hl (by decide) rfl (fun ls hl => ?_)
  refine lv_iconst (v := 0) hx hb d_tr_enter_5 (by decide) ?_
  refine lv_istore_n (lv' := [(3, .int 0), (2, .ref root), (0, .ref t), (1, .ref r)]) hx hb d_tr_enter_6 rfl hl (by decide) rfl (fun ls hl => ?_)
  exact L7 (sz + 1) 0 root bg τ M _ _ _ (by omega) (by omega) rfl htr (en_0 hI) hC (by omega) (fun b hb => Or.inl hb) (fun b hb => hb) (fun b hb q hq => ⟨b, hb, hq⟩) hw hk hH (lv_sub hl [0, 1, 2, 3] rfl)
end
section
abbrev q_tr_raiseBetween (G : hG) (st en q r sg nm sz : Nat) (v g : Nat → Int32) (M : hM) : Option Value → hM → Prop := fun rv M' => rv = none ∧ hm_has M' [(r, .inr (1, [.ref sg, .ref nm, .int (nI sz)])), (nm, aI G 66 (rzB v g st (en + 1 - st))), (q, aI G 66 g)] ∧ hm_kp (fun a => a ∈ [nm]) M M'
set_option maxHeartbeats 4000000 in
set_option maxRecDepth 100000 in
theorem c_tr_raiseBetween (l : Launch) (G : hG) (st en q r sg nm sz : Nat) (v g : Nat → Int32) (M : hM) (hw : hm_has M [(r, .inr (1, [.ref sg, .ref nm, .int (nI sz)])), (nm, aI G 66 v), (q, aI G 66 g)]) (hen : en ≤ 65) (hst : st ≤ en) : Ct (gk G) l G.1 vwC y_tr_raiseBetween w_tr_raiseBetween { frames := 3, cells := 0, slots := 0, locals := 64 } ([.int (nI st), .int (nI en), .ref q, .ref r] : List Value) M (q_tr_raiseBetween G st en q r sg nm sz v g M) 0 0 := by
  refine Ct.ofW (cc := b_tr_raiseBetween) (maxL := 5) (ret := (Option.none : Option Jvm.ClassFile.FieldType)) (by decide) rfl (Nat.le_of_ble_eq_true rfl) (fun p e s m below meth c A ls E hr hlk hin hg hH hl => ?_)
  have hl : lv_has ls 5 [(0, .int (nI st)), (1, .int (nI en)), (2, .ref q), (3, .ref r)] := hl
  have hx := E.1; have hb := E.2.1; have hml := E.2.2.1; have hown := E.2.2.2.1; have hts := E.2.2.2.2; have hK := hg.1
  obtain ⟨M0, hM0⟩ : ∃ M0 : hM, M0 = M := ⟨M, rfl⟩
  rw [show q_tr_raiseBetween G st en q r sg nm sz v g M = q_tr_raiseBetween G st en q r sg nm sz v g M0 by rw [hM0]]
  have hk : hm_kp (fun a => a ∈ [nm]) M0 M := by rw [hM0]; exact hm_kp.rf
  have L3 : ∀ (k : Nat) (j : Nat) (M : hM) (H : Heap) (locs : List Loc) (ls : Array Slot), en + 2 ≤ st + j + k → st + j ≤ en + 1 → hm_has M [(r, .inr (1, [.ref sg, .ref nm, .int (nI sz)])), (nm, aI G 66 (rzB v g st j)), (q, aI G 66 g)] → hm_kp (fun a => a ∈ [nm]) M0 M → hm_I G.1 vwC A s.heap M H locs → lv_has ls 5 [(4, .int (nI (st + j))), (0, .int (nI st)), (1, .int (nI en)), (2, .ref q), (3, .ref r)] → W p l e { frames := 3, cells := 0, slots := 0, locals := 64 } s m ([.int (nI st), .int (nI en), .ref q, .ref r] : List Value).toArray below meth c H locs 0 0 (MQ below (hm_Q G.1 vwC (q_tr_raiseBetween G st en q r sg nm sz v g M0) A) ([.int (nI st), .int (nI en), .ref q, .ref r] : List Value).toArray s 0 0 A) (F0 m 3 ls []) := by
    intro k
    induction k with
    | zero => intro j M H locs ls hfu hj; exact absurd hfu (by omega)
    | succ k ih =>
      intro j M H locs ls hfu hj hw hk hH hl
      refine lv_iload hx hb d_tr_raiseBetween_3 (lv_at hl 0 rfl) ?_
      refine lv_iload_n hx hb d_tr_raiseBetween_5 rfl (lv_at hl 2 rfl) ?_
      refine hn_icmp_gt (a := st + j) (b := en) hx hb (by omega) (by omega) (tgt := 29) d_tr_raiseBetween_6 (by decide) (fun h6 => ?_) (fun h6 => ?_)
      · skip
        have hje : j = en + 1 - st := by omega
        exact hm_vret E hr hlk hH (⟨rfl, by rw [← hje]; exact hw, hk⟩) (by omega) (by omega) d_tr_raiseBetween_29
      · skip
        refine lv_aload_n hx hb d_tr_raiseBetween_9 rfl (lv_at hl 4 rfl) ?_
        refine lv_iload hx hb d_tr_raiseBetween_10 (lv_at hl 0 rfl) ?_
        refine lv_aload_n hx hb d_tr_raiseBetween_12 rfl (lv_at hl 3 rfl) ?_
        refine lv_iload hx hb d_tr_raiseBetween_13 (lv_at hl 0 rfl) ?_
        refine lv_iload_n hx hb d_tr_raiseBetween_15 rfl (lv_at hl 1 rfl) ?_
        refine hn_isub hx hb (a := st + j) (b := st) (by omega) d_tr_raiseBetween_16 ?_
        refine hm_top (w := .int (nI j)) (by rw [Nat.add_sub_cancel_left]) ?_
        have hM1 := c_bk_elementAt l G q 66 g j M (hw.sub (ws' := [(q, aI G 66 g)]) [2] rfl rfl) (by decide) (by omega) H.size
        have hG1 : GoodIn w_tr_raiseBetween w_bk_elementAt := gB_0 wm_127
        refine hm_call (va_runSN (y := y_bk_elementAt) (bytes := b_bk_elementAt) (maxL := 2) (ws := w_bk_elementAt) (rm := { frames := 0, cells := 0, slots := 0, locals := 0 }) (own := R_tr) (index := 58) (ret := (Option.some Jvm.ClassFile.FieldType.int)) (host := R_bk) (As := [.ref q, .int (nI j)]) (rest := [.int (nI (st + j)), .ref r]) E hM1 ⟨va_cnB (y := y_bk_elementAt) (bytes := b_bk_elementAt) (maxL := 2) (ws := w_bk_elementAt) (rm := { frames := 0, cells := 0, slots := 0, locals := 0 }) (own := R_tr) (index := 58) (host := R_bk) (ret := (Option.some Jvm.ClassFile.FieldType.int)) 2 hts hG1 rfl rfl rfl hg.2.2.2.2.2.1 (hts _ (tC wm_1)) (by decide +kernel) ⟨Nat.le_of_ble_eq_true rfl, Nat.le_of_ble_eq_true rfl⟩, hts _ (tC wm_126), trivial⟩ (hm_preS gk_w gk_s hH hg [.ref q, .int (nI j)]) rfl rfl hl.1 rfl (lv_room (Nat.le_of_ble_eq_true rfl)) d_tr_raiseBetween_17 ⟨(by show _ ≤ 0; omega), (by show _ ≤ 0; omega)⟩) hH (fun r1 M1 H1 locs1 hq1 hH1 => ?_)
        obtain ⟨rfl, e1⟩ := hq1
        replace hH := hH1; rw [e1] at hH; clear hH1 e1; generalize H1 = H at hH ⊢; generalize locs1 = locs at hH ⊢
        refine hm_top (w := .int (g j)) (by rw [if_pos (by omega)]) ?_
        have hM1 := c_rw_raiseNumber l G r sg nm sz (rzB v g st j) (st + j) (g j) M (hw.sub (ws' := [(r, cRw sg nm sz), (nm, aI G 66 (rzB v g st j))]) [0, 1] rfl rfl) (by omega) H.size
        have hG1 : GoodIn w_tr_raiseBetween (wsV R_tr 64 R_rw y_rw_raiseNumber w_rw_raiseNumber) := gB_V wm_349 wm_350 wm_351 wm_4 wm_352
        refine hm_call (va_runV (y := y_rw_raiseNumber) (bytes := b_rw_raiseNumber) (maxL := 3) (ws := w_rw_raiseNumber) (rm := { frames := 2, cells := 0, slots := 0, locals := 42 }) (own := R_tr) (index := 64) (ret := (Option.none : Option Jvm.ClassFile.FieldType)) (C := R_rw) (As := [.int (nI (st + j)), .int (g j)]) (rest := []) E hM1 (cwV (y := y_rw_raiseNumber) (bytes := b_rw_raiseNumber) (maxL := 3) (ws := w_rw_raiseNumber) (rm := { frames := 2, cells := 0, slots := 0, locals := 42 }) (own := R_tr) (index := 64) (ret := (Option.none : Option Jvm.ClassFile.FieldType)) (C := R_rw) 2 hts hG1 rfl rfl rfl (by decide +kernel) ⟨Nat.le_of_ble_eq_true rfl, Nat.le_of_ble_eq_true rfl⟩) (hm_preV gk_w gk_s hH hg hK (hw.at 0 rfl) rfl [.int (nI (st + j)), .int (g j)]) rfl rfl hl.1 rfl (lv_room (Nat.le_of_ble_eq_true rfl)) d_tr_raiseBetween_20 ⟨(by show _ ≤ 0; omega), (by show _ ≤ 0; omega)⟩) hH (fun r1 M1 H1 locs1 hq1 hH1 => ?_)
        replace hH := hH1; clear hH1; generalize H1 = H at hH ⊢; generalize locs1 = locs at hH ⊢
        obtain ⟨rfl, hw1, hk1⟩ := hq1
        have hw := hm_join (ws' := [(r, .inr (1, [.ref sg, .ref nm, .int (nI sz)])), (nm, aI G 66 (rzB v g st (j + 1))), (q, aI G 66 g)]) (wc := [(r, .inr (1, [.ref sg, .ref nm, .int (nI sz)])), (nm, aI G 66 (rzB v g st j))]) hw hw1 hk1 [0, 1] rfl rfl (fun a h => by simp at h; simp [h]) rfl (by
          intro k9 h9
          match k9, h9 with
          | 0, _ => exact Or.inr ⟨0, rfl, rfl⟩
          | 1, _ => exact Or.inr ⟨1, rfl, rfl⟩
          | 2, _ => exact Or.inl ⟨by decide, rfl⟩
          | k9 + 3, h9 => exact absurd h9 (Nat.not_lt_of_le (Nat.le_add_left _ _)))
        have hk := hk.tr hk1 (fun _ h => h)
        generalize M1 = M at hH hw hk
        refine lv_iinc (v := nI (st + j + 1)) (lv' := [(4, .int (nI (st + j + 1))), (0, .int (nI st)), (1, .int (nI en)), (2, .ref q), (3, .ref r)]) hx hb d_tr_raiseBetween_23 hl (k := 0) rfl (by first | exact nI_add _ 1 | (show nI _ + nI _ = _; rw [nI_add])) (by decide) rfl (fun ls hl => ?_)
        refine lv_goto (tgt := 3) hx hb d_tr_raiseBetween_26 (by decide) ?_
        exact ih (j + 1) M _ _ _ (by omega) (by omega) hw hk hH (lv_sub hl [0, 1, 2, 3, 4] rfl)
  refine lv_iload_n hx hb d_tr_raiseBetween_0 rfl (lv_at hl 0 rfl) ?_
  refine lv_istore (lv' := [(4, .int (nI st)), (0, .int (nI st)), (1, .int (nI en)), (2, .ref q), (3, .ref r)]) hx hb d_tr_raiseBetween_1 hl (by decide) rfl (fun ls hl => ?_)
  exact L3 (en + 2) 0 M _ _ _ (by omega) (by omega) hw hk hH (lv_sub hl [0, 1, 2, 3, 4] rfl)

abbrev q_tr_raiseNumbersFrom (G : hG) (t root en bg r sg nm sz : Nat) (f : Nat → Int32) (τ : tau) (v : Nat → Int32) (S0 : (Nat → Int32) → Nat → Prop) (Es : List rwT) (S : Nat → Int32 → Prop) (st : Nat) (M : hM) : Option Value → hM → Prop := fun rv M' => rv = none ∧ ∃ v', hm_has M' [(t, .inr (2, [.ref root, .int (nI en), .int (nI bg)])), (r, .inr (1, [.ref sg, .ref nm, .int (nI sz)])), (sg, aI G 65 f), (nm, aI G 66 v')] ∧ vMax (fun pl x => S pl x ∨ ctr Es f sz st sz pl x) sz v' ∧ hm_kp (fun a => a ∈ [nm]) M M'
set_option maxHeartbeats 4000000 in
set_option maxRecDepth 100000 in
theorem c_tr_raiseNumbersFrom (l : Launch) (G : hG) (t root en bg r sg nm sz : Nat) (f : Nat → Int32) (τ : tau) (v : Nat → Int32) (S0 : (Nat → Int32) → Nat → Prop) (Es : List rwT) (S : Nat → Int32 → Prop) (st : Nat) (M : hM) (hw : hm_has M [(t, .inr (2, [.ref root, .int (nI en), .int (nI bg)])), (r, .inr (1, [.ref sg, .ref nm, .int (nI sz)])), (sg, aI G 65 f), (nm, aI G 66 v)]) (htr : trH G M root τ) (hsz : sz ≤ 65) (hI : trI (tst τ) root S0) (hC : trC (tst τ) root (tnu τ) (tnv τ) Es) (hSE : ∀ x k, sE Es x k → S0 x k) (hU : unE Es) (hnn : nnE Es) (hnm : ∀ a ∈ tL τ, ∀ q, tnu τ a = some q → q ≠ nm) (hvm : vMax S sz v) (hst : st ≤ sz) : Ct (gk G) l G.1 vwC y_tr_raiseNumbersFrom w_tr_raiseNumbersFrom { frames := 4, cells := 0, slots := 0, locals := 88 } ([.ref t, .int (nI st), .ref r] : List Value) M (q_tr_raiseNumbersFrom G t root en bg r sg nm sz f τ v S0 Es S st M) 0 0 := by
  refine Ct.ofW (cc := b_tr_raiseNumbersFrom) (maxL := 5) (ret := (Option.none : Option Jvm.ClassFile.FieldType)) (by decide) rfl (Nat.le_of_ble_eq_true rfl) (fun p e s m below meth c A ls E hr hlk hin hg hH hl => ?_)
  have hl : lv_has ls 5 [(0, .ref t), (1, .int (nI st)), (2, .ref r)] := hl
  have hx := E.1; have hb := E.2.1; have hml := E.2.2.1; have hown := E.2.2.2.1; have hts := E.2.2.2.2; have hK := hg.1
  obtain ⟨M0, hM0⟩ : ∃ M0 : hM, M0 = M := ⟨M, rfl⟩
  rw [show q_tr_raiseNumbersFrom G t root en bg r sg nm sz f τ v S0 Es S st M = q_tr_raiseNumbersFrom G t root en bg r sg nm sz f τ v S0 Es S st M0 by rw [hM0]]
  have hk : hm_kp (fun a => a ∈ [nm]) M0 M := by rw [hM0]; exact hm_kp.rf
  have L8 : ∀ (k : Nat) (j a : Nat) (w : Nat → Int32) (M : hM) (H : Heap) (locs : List Loc) (ls : Array Slot), sz + 1 ≤ st + j + k → st + j ≤ sz → twk (tst τ) root (fun j9 => f (st + j9)) j = some a → trH G M root τ → vMax (fun pl x => S pl x ∨ ctr Es f sz st j pl x) sz w → hm_has M [(t, .inr (2, [.ref root, .int (nI en), .int (nI bg)])), (r, .inr (1, [.ref sg, .ref nm, .int (nI sz)])), (sg, aI G 65 f), (nm, aI G 66 w)] → hm_kp (fun a => a ∈ [nm]) M0 M → hm_I G.1 vwC A s.heap M H locs → lv_has ls 5 [(4, .int (nI (st + j))), (3, .ref a), (0, .ref t), (1, .int (nI st)), (2, .ref r)] → W p l e { frames := 4, cells := 0, slots := 0, locals := 88 } s m ([.ref t, .int (nI st), .ref r] : List Value).toArray below meth c H locs 0 0 (MQ below (hm_Q G.1 vwC (q_tr_raiseNumbersFrom G t root en bg r sg nm sz f τ v S0 Es S st M0) A) ([.ref t, .int (nI st), .ref r] : List Value).toArray s 0 0 A) (F0 m 8 ls []) := by
    intro k
    induction k with
    | zero => intro j a w M H locs ls hfu hj hwk htr hvm; exact absurd hfu (by omega)
    | succ k ih =>
      intro j a w M H locs ls hfu hj hwk htr hvm hw hk hH hl
      have haL := twk_in htr hwk
      refine lv_iload hx hb d_tr_raiseNumbersFrom_8 (lv_at hl 0 rfl) ?_
      refine lv_aload_n hx hb d_tr_raiseNumbersFrom_10 rfl (lv_at hl 4 rfl) ?_
      have hM1 := c_rw_size l G r sg nm sz M (hw.sub (ws' := [(r, cRw sg nm sz)]) [1] rfl rfl) H.size
      have hG1 : GoodIn w_tr_raiseNumbersFrom (wsV R_tr 25 R_rw y_rw_size w_rw_size) := gB_V wm_258 wm_115 wm_116 wm_4 wm_117
      refine hm_call (va_runV (y := y_rw_size) (bytes := b_rw_size) (maxL := 1) (ws := w_rw_size) (rm := { frames := 0, cells := 0, slots := 0, locals := 0 }) (own := R_tr) (index := 25) (ret := (Option.some Jvm.ClassFile.FieldType.int)) (C := R_rw) (As := []) (rest := [.int (nI (st + j))]) E hM1 (cwV (y := y_rw_size) (bytes := b_rw_size) (maxL := 1) (ws := w_rw_size) (rm := { frames := 0, cells := 0, slots := 0, locals := 0 }) (own := R_tr) (index := 25) (ret := (Option.some Jvm.ClassFile.FieldType.int)) (C := R_rw) 0 hts hG1 rfl rfl rfl (by decide +kernel) ⟨Nat.le_of_ble_eq_true rfl, Nat.le_of_ble_eq_true rfl⟩) (hm_preV gk_w gk_s hH hg hK (hw.at 1 rfl) rfl []) rfl rfl hl.1 rfl (lv_room (Nat.le_of_ble_eq_true rfl)) d_tr_raiseNumbersFrom_11 ⟨(by show _ ≤ 0; omega), (by show _ ≤ 0; omega)⟩) hH (fun r1 M1 H1 locs1 hq1 hH1 => ?_)
      obtain ⟨rfl, e1⟩ := hq1
      replace hH := hH1; rw [e1] at hH; clear hH1 e1; generalize H1 = H at hH ⊢; generalize locs1 = locs at hH ⊢
      refine hn_icmp_ge (a := st + j) (b := sz) hx hb (by omega) (by omega) (tgt := 59) d_tr_raiseNumbersFrom_14 (by decide) (fun h14 => ?_) (fun h14 => ?_)
      · skip
        exact hm_vret E hr hlk hH (⟨rfl, w, hw, vMax_ext hvm (fun pl x _ => or_congr Iff.rfl ⟨fun ⟨r9, a1, a2, a3, a4, a5⟩ => ⟨r9, a1, a2, by omega, a4, a5⟩, fun ⟨r9, a1, a2, a3, a4, a5⟩ => ⟨r9, a1, a2, by omega, a4, a5⟩⟩), hk⟩) (by omega) (by omega) d_tr_raiseNumbersFrom_59
      · skip
        refine lv_aload_n hx hb d_tr_raiseNumbersFrom_17 rfl (lv_at hl 1 rfl) ?_
        refine lv_aload_n hx hb d_tr_raiseNumbersFrom_18 rfl (lv_at hl 4 rfl) ?_
        refine lv_iload hx hb d_tr_raiseNumbersFrom_19 (lv_at hl 0 rfl) ?_
        have hM1 := c_rw_signAt l G r sg nm sz f (st + j) M (hw.sub (ws' := [(r, cRw sg nm sz), (sg, aI G 65 f)]) [1, 2] rfl rfl) hsz (by omega) H.size
        have hG1 : GoodIn w_tr_raiseNumbersFrom (wsV R_tr 31 R_rw y_rw_signAt w_rw_signAt) := gB_V wm_259 wm_180 wm_181 wm_4 wm_182
        refine hm_call (va_runV (y := y_rw_signAt) (bytes := b_rw_signAt) (maxL := 2) (ws := w_rw_signAt) (rm := { frames := 1, cells := 0, slots := 0, locals := 21 }) (own := R_tr) (index := 31) (ret := (Option.some Jvm.ClassFile.FieldType.int)) (C := R_rw) (As := [.int (nI (st + j))]) (rest := [.ref a]) E hM1 (cwV (y := y_rw_signAt) (bytes := b_rw_signAt) (maxL := 2) (ws := w_rw_signAt) (rm := { frames := 1, cells := 0, slots := 0, locals := 21 }) (own := R_tr) (index := 31) (ret := (Option.some Jvm.ClassFile.FieldType.int)) (C := R_rw) 1 hts hG1 rfl rfl rfl (by decide +kernel) ⟨Nat.le_of_ble_eq_true rfl, Nat.le_of_ble_eq_true rfl⟩) (hm_preV gk_w gk_s hH hg hK (hw.at 1 rfl) rfl [.int (nI (st + j))]) rfl rfl hl.1 rfl (lv_room (Nat.le_of_ble_eq_true rfl)) d_tr_raiseNumbersFrom_21 ⟨(by show _ ≤ 0; omega), (by show _ ≤ 0; omega)⟩) hH (fun r1 M1 H1 locs1 hq1 hH1 => ?_)
        obtain ⟨rfl, e1⟩ := hq1
        replace hH := hH1; rw [e1] at hH; clear hH1 e1; generalize H1 = H at hH ⊢; generalize locs1 = locs at hH ⊢
        refine hm_top (w := .int (f (st + j))) (by rw [if_pos h14]) ?_
        have hM1 := c_nd_childWith l G a (tsg τ a) (tnx τ a) (tnu τ a) (tcs τ a) (tsg τ) (f (st + j)) M (htr.2.1 a haL) (htr.ch haL) H.size
        have hG1 : GoodIn w_tr_raiseNumbersFrom (wsV R_tr 35 R_nd y_nd_childWith w_nd_childWith) := gB_V wm_260 wm_261 wm_262 wm_3 wm_263
        refine hm_call (va_runV (y := y_nd_childWith) (bytes := b_nd_childWith) (maxL := 3) (ws := w_nd_childWith) (rm := { frames := 0, cells := 0, slots := 0, locals := 0 }) (own := R_tr) (index := 35) (ret := (Option.some (Jvm.ClassFile.FieldType.object "HyphenBook$Node"))) (C := R_nd) (As := [.int (f (st + j))]) (rest := []) E hM1 (cwV (y := y_nd_childWith) (bytes := b_nd_childWith) (maxL := 3) (ws := w_nd_childWith) (rm := { frames := 0, cells := 0, slots := 0, locals := 0 }) (own := R_tr) (index := 35) (ret := (Option.some (Jvm.ClassFile.FieldType.object "HyphenBook$Node"))) (C := R_nd) 1 hts hG1 rfl rfl rfl (by decide +kernel) ⟨Nat.le_of_ble_eq_true rfl, Nat.le_of_ble_eq_true rfl⟩) (hm_preV gk_w gk_s hH hg hK (htr.2.1 a haL) rfl [.int (f (st + j))]) rfl rfl hl.1 rfl (lv_room (Nat.le_of_ble_eq_true rfl)) d_tr_raiseNumbersFrom_24 ⟨(by show _ ≤ 0; omega), (by show _ ≤ 0; omega)⟩) hH (fun r1 M1 H1 locs1 hq1 hH1 => ?_)
        obtain ⟨rfl, e1⟩ := hq1
        replace hH := hH1; rw [e1] at hH; clear hH1 e1; generalize H1 = H at hH ⊢; generalize locs1 = locs at hH ⊢
        refine ho_astore_n (lv' := [(3, va_rf (tst τ a (f (st + j)))), (4, .int (nI (st + j))), (0, .ref t), (1, .int (nI st)), (2, .ref r)]) hx hb d_tr_raiseNumbersFrom_27 rfl hl (by decide) rfl (fun ls hl => ?_)
        refine ho_aload_n hx hb d_tr_raiseNumbersFrom_28 rfl (lv_at hl 0 rfl) ?_
        refine hm_ifnonnull (tgt := 33) hx hb d_tr_raiseNumbersFrom_29 (by decide) (fun y hny => ?_) (fun hny => ?_)
        · skip
          have hl : lv_has ls 5 [(3, .ref y), (4, .int (nI (st + j))), (0, .ref t), (1, .int (nI st)), (2, .ref r)] := by rw [hny] at hl; exact hl
          have hwk2 : twk (tst τ) root (fun j9 => f (st + j9)) (j + 1) = some y := by rw [twk_succ hwk]; exact hny
          have hyL := twk_in htr hwk2
          refine lv_aload_n hx hb d_tr_raiseNumbersFrom_33 rfl (lv_at hl 0 rfl) ?_
          refine hm_getN E (tB in_nd) hK hH (htr.2.1 y hyL) rfl 3 (by decide) hg.2.1 rfl d_tr_raiseNumbersFrom_34 ?_
          refine hm_ifnull (tgt := 53) hx hb d_tr_raiseNumbersFrom_37 (by decide) (fun hnu => ?_) (fun q hnu => ?_)
          · skip
            have hno : ∀ r9 ∈ Es, ¬ sm r9 (j + 1) (fun j9 => f (st + j9)) := by
              rcases hC _ _ y hwk2 with ⟨-, z⟩ | ⟨q2, r0, z1, -⟩
              · exact z
              · rw [hnu] at z1; cases z1
            refine lv_iinc (v := nI (st + j + 1)) (lv' := [(4, .int (nI (st + j + 1))), (3, .ref y), (0, .ref t), (1, .int (nI st)), (2, .ref r)]) hx hb d_tr_raiseNumbersFrom_53 hl (k := 1) rfl (by first | exact nI_add _ 1 | (show nI _ + nI _ = _; rw [nI_add])) (by decide) rfl (fun ls hl => ?_)
            refine lv_goto (tgt := 8) hx hb d_tr_raiseNumbersFrom_56 (by decide) ?_
            exact ih (j + 1) y w M _ _ _ (by omega) (by omega) hwk2 htr (vMax_ext hvm (fun pl x _ => or_congr Iff.rfl (ctr_no hno))) hw hk hH (lv_sub hl [0, 1, 2, 3, 4] rfl)
          · skip
            have hqn := hnm y hyL q hnu
            have hqc := htr.2.2.2.2 y hyL q hnu
            obtain ⟨r0, hr0, hs0, hg0⟩ : ∃ r0, r0 ∈ Es ∧ sm r0 (j + 1) (fun j9 => f (st + j9)) ∧ g66 (tnv τ q) r0.2.2 := by
              rcases hC _ _ y hwk2 with ⟨z, -⟩ | ⟨q2, r0, z1, z2, z3, z4⟩
              · rw [hnu] at z; cases z
              · rw [hnu] at z1; cases z1; exact ⟨r0, z2, z3, z4⟩
            refine lv_iload_n hx hb d_tr_raiseNumbersFrom_40 rfl (lv_at hl 3 rfl) ?_
            refine lv_iload hx hb d_tr_raiseNumbersFrom_41 (lv_at hl 1 rfl) ?_
            refine lv_iconst (v := 1) hx hb d_tr_raiseNumbersFrom_43 (by decide) ?_
            refine hn_iadd hx hb (a := st + j) (b := 1) d_tr_raiseNumbersFrom_44 ?_
            refine lv_aload_n hx hb d_tr_raiseNumbersFrom_45 rfl (lv_at hl 0 rfl) ?_
            refine hm_getN E (tB in_nd) hK hH (htr.2.1 y hyL) rfl 3 (by decide) hg.2.1 rfl d_tr_raiseNumbersFrom_46 ?_
            refine lv_aload_n hx hb d_tr_raiseNumbersFrom_49 rfl (lv_at hl 4 rfl) ?_
            refine W.eq (g2 := F0 m 50 ls [.ref r, .ref q, .int (nI (st + j + 1)), .int (nI st)]) (by rw [show va_rf (tnu τ y) = Value.ref q by rw [hnu]; rfl]; rfl) ?_
            have hwn := hw.at 3 rfl
            have hM1 := c_tr_raiseBetween l G st (st + j + 1) q r sg nm sz w (tnv τ q) M (hm_has3 hw hqc hqn (by simp)) (by omega) (by omega) H.size
            have hG1 : GoodIn w_tr_raiseNumbersFrom (wsS R_tr 54 y_tr_raiseBetween w_tr_raiseBetween) := gB_S wm_345 wm_346 wm_2 wm_347
            refine hm_call (va_runS (y := y_tr_raiseBetween) (bytes := b_tr_raiseBetween) (maxL := 5) (ws := w_tr_raiseBetween) (rm := { frames := 3, cells := 0, slots := 0, locals := 64 }) (own := R_tr) (index := 54) (ret := (Option.none : Option Jvm.ClassFile.FieldType)) (As := [.int (nI st), .int (nI (st + j + 1)), .ref q, .ref r]) (rest := []) E hM1 (cwS (y := y_tr_raiseBetween) (bytes := b_tr_raiseBetween) (maxL := 5) (ws := w_tr_raiseBetween) (rm := { frames := 3, cells := 0, slots := 0, locals := 64 }) (own := R_tr) (index := 54) (ret := (Option.none : Option Jvm.ClassFile.FieldType)) 4 hts hG1 rfl rfl rfl (by decide +kernel) ⟨Nat.le_of_ble_eq_true rfl, Nat.le_of_ble_eq_true rfl⟩) (hm_preS gk_w gk_s hH hg [.int (nI st), .int (nI (st + j + 1)), .ref q, .ref r]) rfl rfl hl.1 rfl (lv_room (Nat.le_of_ble_eq_true rfl)) d_tr_raiseNumbersFrom_50 ⟨(by show _ ≤ 0; omega), (by show _ ≤ 0; omega)⟩) hH (fun r1 M1 H1 locs1 hq1 hH1 => ?_)
            replace hH := hH1; clear hH1; generalize H1 = H at hH ⊢; generalize locs1 = locs at hH ⊢
            obtain ⟨rfl, hw1, hk1⟩ := hq1
            have hw := hm_join3 hw hw1 hk1
            rw [show st + j + 1 + 1 - st = j + 2 by omega] at hw
            have hvm2 := vMax_ext (T := fun pl x => S pl x ∨ ctr Es f sz st (j + 1) pl x) (rz_max (st := st) (g := tnv τ q) hvm (j + 2) (fun j9 h9 => by rw [hg0 j9 (by omega)]; exact hnn r0 hr0 j9 (by omega))) (fun pl x _ => by rw [ctr_yes hU hr0 hs0 hg0 (by omega) hsz, or_assoc])
            have hk := hk.tr hk1 (fun _ h => h)
            have htr := htr.kept hk1 (fun b hb z => by
              have z : b = nm := by simpa using z
              have h1 := htr.2.1 b hb
              rw [z, hwn] at h1
              simp at h1) (fun b hb x hx z => hnm b hb x hx (by simpa using z))
            generalize M1 = M at hH hw hk htr
            refine lv_iinc (v := nI (st + j + 1)) (lv' := [(4, .int (nI (st + j + 1))), (3, .ref y), (0, .ref t), (1, .int (nI st)), (2, .ref r)]) hx hb d_tr_raiseNumbersFrom_53 hl (k := 1) rfl (by first | exact nI_add _ 1 | (show nI _ + nI _ = _; rw [nI_add])) (by decide) rfl (fun ls hl => ?_)
            refine lv_goto (tgt := 8) hx hb d_tr_raiseNumbersFrom_56 (by decide) ?_
            exact ih (j + 1) y _ M _ _ _ (by omega) (by omega) hwk2 htr hvm2 hw hk hH (lv_sub hl [0, 1, 2, 3, 4] rfl)
        · skip
          exact hm_vret E hr hlk hH (⟨rfl, w, hw, vMax_ext hvm (fun pl x _ => or_congr Iff.rfl (ctr_end hI hSE (by rw [twk_succ hwk]; exact hny) (by omega))), hk⟩) (by omega) (by omega) d_tr_raiseNumbersFrom_32
  refine lv_aload_n hx hb d_tr_raiseNumbersFrom_0 rfl (lv_at hl 0 rfl) ?_
  refine hm_get E (tB in_tr) hK hH (hw.at 0 rfl) rfl 0 (by decide) (tC wm_47) rfl d_tr_raiseNumbersFrom_1 ?_
  refine lv_astore_n (lv' := [(3, .ref root), (0, .ref t), (1, .int (nI st)), (2, .ref r)]) hx hb d_tr_raiseNumbersFrom_4 rfl hl (by decide) rfl (fun ls hl => ?_)
  refine lv_iload_n hx hb d_tr_raiseNumbersFrom_5 rfl (lv_at hl 2 rfl) ?_
  refine lv_istore (lv' := [(4, .int (nI st)), (3, .ref root), (0, .ref t), (1, .int (nI st)), (2, .ref r)]) hx hb d_tr_raiseNumbersFrom_6 hl (by decide) rfl (fun ls hl => ?_)
  exact L8 (sz + 1) 0 root v M _ _ _ (by omega) (by omega) rfl htr (vMax_ext hvm (fun pl x _ => ⟨fun z => z.elim id (fun y => absurd y ctr_0), Or.inl⟩)) hw hk hH (lv_sub hl [0, 1, 2, 3, 4] rfl)

abbrev q_tr_raiseNumbers (G : hG) (t root en bg r sg nm sz : Nat) (f : Nat → Int32) (τ : tau) (v : Nat → Int32) (S0 : (Nat → Int32) → Nat → Prop) (Es : List rwT) (S : Nat → Int32 → Prop) (M : hM) : Option Value → hM → Prop := fun rv M' => rv = none ∧ ∃ v', hm_has M' [(t, .inr (2, [.ref root, .int (nI en), .int (nI bg)])), (r, .inr (1, [.ref sg, .ref nm, .int (nI sz)])), (sg, aI G 65 f), (nm, aI G 66 v')] ∧ vMax (fun pl x => S pl x ∨ ∃ i, i < sz ∧ ctr Es f sz i sz pl x) sz v' ∧ hm_kp (fun a => a ∈ [nm]) M M'
set_option maxHeartbeats 4000000 in
set_option maxRecDepth 100000 in
theorem c_tr_raiseNumbers (l : Launch) (G : hG) (t root en bg r sg nm sz : Nat) (f : Nat → Int32) (τ : tau) (v : Nat → Int32) (S0 : (Nat → Int32) → Nat → Prop) (Es : List rwT) (S : Nat → Int32 → Prop) (M : hM) (hw : hm_has M [(t, .inr (2, [.ref root, .int (nI en), .int (nI bg)])), (r, .inr (1, [.ref sg, .ref nm, .int (nI sz)])), (sg, aI G 65 f), (nm, aI G 66 v)]) (htr : trH G M root τ) (hsz : sz ≤ 65) (hI : trI (tst τ) root S0) (hC : trC (tst τ) root (tnu τ) (tnv τ) Es) (hSE : ∀ x k, sE Es x k → S0 x k) (hU : unE Es) (hnn : nnE Es) (hnm : ∀ a ∈ tL τ, ∀ q, tnu τ a = some q → q ≠ nm) (hvm : vMax S sz v) : Ct (gk G) l G.1 vwC y_tr_raiseNumbers w_tr_raiseNumbers { frames := 5, cells := 0, slots := 0, locals := 112 } ([.ref t, .ref r] : List Value) M (q_tr_raiseNumbers G t root en bg r sg nm sz f τ v S0 Es S M) 0 0 := by
  refine Ct.ofW (cc := b_tr_raiseNumbers) (maxL := 3) (ret := (Option.none : Option Jvm.ClassFile.FieldType)) (by decide) rfl (Nat.le_of_ble_eq_true rfl) (fun p e s m below meth c A ls E hr hlk hin hg hH hl => ?_)
  have hl : lv_has ls 3 [(0, .ref t), (1, .ref r)] := hl
  have hx := E.1; have hb := E.2.1; have hml := E.2.2.1; have hown := E.2.2.2.1; have hts := E.2.2.2.2; have hK := hg.1
  obtain ⟨M0, hM0⟩ : ∃ M0 : hM, M0 = M := ⟨M, rfl⟩
  rw [show q_tr_raiseNumbers G t root en bg r sg nm sz f τ v S0 Es S M = q_tr_raiseNumbers G t root en bg r sg nm sz f τ v S0 Es S M0 by rw [hM0]]
  have hk : hm_kp (fun a => a ∈ [nm]) M0 M := by rw [hM0]; exact hm_kp.rf
  have L2 : ∀ (k : Nat) (st : Nat) (w : Nat → Int32) (M : hM) (H : Heap) (locs : List Loc) (ls : Array Slot), sz + 1 ≤ st + k → st ≤ sz → trH G M root τ → vMax (fun pl x => S pl x ∨ ∃ i, i < st ∧ ctr Es f sz i sz pl x) sz w → hm_has M [(t, .inr (2, [.ref root, .int (nI en), .int (nI bg)])), (r, .inr (1, [.ref sg, .ref nm, .int (nI sz)])), (sg, aI G 65 f), (nm, aI G 66 w)] → hm_kp (fun a => a ∈ [nm]) M0 M → hm_I G.1 vwC A s.heap M H locs → lv_has ls 3 [(2, .int (nI st)), (0, .ref t), (1, .ref r)] → W p l e { frames := 5, cells := 0, slots := 0, locals := 112 } s m ([.ref t, .ref r] : List Value).toArray below meth c H locs 0 0 (MQ below (hm_Q G.1 vwC (q_tr_raiseNumbers G t root en bg r sg nm sz f τ v S0 Es S M0) A) ([.ref t, .ref r] : List Value).toArray s 0 0 A) (F0 m 2 ls []) := by
    intro k
    induction k with
    | zero => intro st w M H locs ls hfu hst htr hvm; exact absurd hfu (by omega)
    | succ k ih =>
      intro st w M H locs ls hfu hst htr hvm hw hk hH hl
      refine lv_iload_n hx hb d_tr_raiseNumbers_2 rfl (lv_at hl 0 rfl) ?_
      refine lv_aload_n hx hb d_tr_raiseNumbers_3 rfl (lv_at hl 2 rfl) ?_
      have hM1 := c_rw_size l G r sg nm sz M (hw.sub (ws' := [(r, cRw sg nm sz)]) [1] rfl rfl) H.size
      have hG1 : GoodIn w_tr_raiseNumbers (wsV R_tr 25 R_rw y_rw_size w_rw_size) := gB_V wm_258 wm_115 wm_116 wm_4 wm_117
      refine hm_call (va_runV (y := y_rw_size) (bytes := b_rw_size) (maxL := 1) (ws := w_rw_size) (rm := { frames := 0, cells := 0, slots := 0, locals := 0 }) (own := R_tr) (index := 25) (ret := (Option.some Jvm.ClassFile.FieldType.int)) (C := R_rw) (As := []) (rest := [.int (nI st)]) E hM1 (cwV (y := y_rw_size) (bytes := b_rw_size) (maxL := 1) (ws := w_rw_size) (rm := { frames := 0, cells := 0, slots := 0, locals := 0 }) (own := R_tr) (index := 25) (ret := (Option.some Jvm.ClassFile.FieldType.int)) (C := R_rw) 0 hts hG1 rfl rfl rfl (by decide +kernel) ⟨Nat.le_of_ble_eq_true rfl, Nat.le_of_ble_eq_true rfl⟩) (hm_preV gk_w gk_s hH hg hK (hw.at 1 rfl) rfl []) rfl rfl hl.1 rfl (lv_room (Nat.le_of_ble_eq_true rfl)) d_tr_raiseNumbers_4 ⟨(by show _ ≤ 0; omega), (by show _ ≤ 0; omega)⟩) hH (fun r1 M1 H1 locs1 hq1 hH1 => ?_)
      obtain ⟨rfl, e1⟩ := hq1
      replace hH := hH1; rw [e1] at hH; clear hH1 e1; generalize H1 = H at hH ⊢; generalize locs1 = locs at hH ⊢
      refine hn_icmp_ge (a := st) (b := sz) hx hb (by omega) (by omega) (tgt := 22) d_tr_raiseNumbers_7 (by decide) (fun h7 => ?_) (fun h7 => ?_)
      · skip
        have hse : st = sz := by omega
        rw [hse] at hvm
        exact hm_vret E hr hlk hH (⟨rfl, w, hw, hvm, hk⟩) (by omega) (by omega) d_tr_raiseNumbers_22
      · skip
        refine lv_aload_n hx hb d_tr_raiseNumbers_10 rfl (lv_at hl 1 rfl) ?_
        refine lv_iload_n hx hb d_tr_raiseNumbers_11 rfl (lv_at hl 0 rfl) ?_
        refine lv_aload_n hx hb d_tr_raiseNumbers_12 rfl (lv_at hl 2 rfl) ?_
        have hM1 := c_tr_raiseNumbersFrom l G t root en bg r sg nm sz f τ w S0 Es (fun pl x => S pl x ∨ ∃ i, i < st ∧ ctr Es f sz i sz pl x) st M hw htr hsz hI hC hSE hU hnn hnm hvm hst H.size
        have hG1 : GoodIn w_tr_raiseNumbers (wsV R_tr 50 R_tr y_tr_raiseNumbersFrom w_tr_raiseNumbersFrom) := gB_V wm_341 wm_343 wp_8 wm_2 wm_344
        refine hm_call (va_runV (y := y_tr_raiseNumbersFrom) (bytes := b_tr_raiseNumbersFrom) (maxL := 5) (ws := w_tr_raiseNumbersFrom) (rm := { frames := 4, cells := 0, slots := 0, locals := 88 }) (own := R_tr) (index := 50) (ret := (Option.none : Option Jvm.ClassFile.FieldType)) (C := R_tr) (As := [.int (nI st), .ref r]) (rest := []) E hM1 (cwV (y := y_tr_raiseNumbersFrom) (bytes := b_tr_raiseNumbersFrom) (maxL := 5) (ws := w_tr_raiseNumbersFrom) (rm := { frames := 4, cells := 0, slots := 0, locals := 88 }) (own := R_tr) (index := 50) (ret := (Option.none : Option Jvm.ClassFile.FieldType)) (C := R_tr) 2 hts hG1 rfl rfl rfl (by decide +kernel) ⟨Nat.le_of_ble_eq_true rfl, Nat.le_of_ble_eq_true rfl⟩) (hm_preV gk_w gk_s hH hg hK (hw.at 0 rfl) rfl [.int (nI st), .ref r]) rfl rfl hl.1 rfl (lv_room (Nat.le_of_ble_eq_true rfl)) d_tr_raiseNumbers_13 ⟨(by show _ ≤ 0; omega), (by show _ ≤ 0; omega)⟩) hH (fun r1 M1 H1 locs1 hq1 hH1 => ?_)
        replace hH := hH1; clear hH1; generalize H1 = H at hH ⊢; generalize locs1 = locs at hH ⊢
        have hwn := hw.at 3 rfl
        obtain ⟨rfl, w2, hw, hvm1, hk1⟩ := hq1
        have hvm2 := vMax_ext (T := fun pl x => S pl x ∨ ∃ i, i < st + 1 ∧ ctr Es f sz i sz pl x) hvm1 (fun pl x _ => rz_or)
        have hk := hk.tr hk1 (fun _ h => h)
        have htr := htr.kept hk1 (fun b hb z => by
          have z : b = nm := by simpa using z
          have h1 := htr.2.1 b hb
          rw [z, hwn] at h1
          simp at h1) (fun b hb x hx z => hnm b hb x hx (by simpa using z))
        generalize M1 = M at hH hw hk htr
        refine lv_iinc (v := nI (st + 1)) (lv' := [(2, .int (nI (st + 1))), (0, .ref t), (1, .ref r)]) hx hb d_tr_raiseNumbers_16 hl (k := 0) rfl (by first | exact nI_add _ 1 | (show nI _ + nI _ = _; rw [nI_add])) (by decide) rfl (fun ls hl => ?_)
        refine lv_goto (tgt := 2) hx hb d_tr_raiseNumbers_19 (by decide) ?_
        exact ih (st + 1) w2 M _ _ _ (by omega) (by omega) htr hvm2 hw hk hH (lv_sub hl [0, 1, 2] rfl)
  refine lv_iconst (v := 0) hx hb d_tr_raiseNumbers_0 (by decide) ?_
  refine lv_istore_n (lv' := [(2, .int 0), (0, .ref t), (1, .ref r)]) hx hb d_tr_raiseNumbers_1 rfl hl (by decide) rfl (fun ls hl => ?_)
  exact L2 (sz + 1) 0 v M _ _ _ (by omega) (by omega) htr (vMax_ext hvm (fun pl x _ => ⟨fun z => z.elim id (fun ⟨i, h9, _⟩ => absurd h9 (by omega)), Or.inl⟩)) hw hk hH (lv_sub hl [0, 1, 2] rfl)
end
section
abbrev q_bk_lettersOfAsked (G : hG) (x d dn lf rt pt xt rr ar : Nat) (asg anm asz : Nat) (M : hM) : Option Value → hM → Prop := fun rv M' => rv = some (.int (nI asz - 2)) ∧ M' = M
set_option maxHeartbeats 4000000 in
set_option maxRecDepth 100000 in
theorem c_bk_lettersOfAsked (l : Launch) (G : hG) (x d dn lf rt pt xt rr ar : Nat) (asg anm asz : Nat) (M : hM) (hw : hm_has M [(x, .inr (3, [.ref d, .int (nI dn), .int (nI lf), .int (nI rt), .ref pt, .ref xt, .ref rr, .ref ar])), (ar, .inr (1, [.ref asg, .ref anm, .int (nI asz)]))]) : Ct (gk G) l G.1 vwC y_bk_lettersOfAsked w_bk_lettersOfAsked { frames := 1, cells := 0, slots := 0, locals := 20 } ([.ref x] : List Value) M (q_bk_lettersOfAsked G x d dn lf rt pt xt rr ar asg anm asz M) 0 0 := by
  refine Ct.ofW (cc := b_bk_lettersOfAsked) (maxL := 1) (ret := (Option.some Jvm.ClassFile.FieldType.int)) (by decide) rfl (Nat.le_of_ble_eq_true rfl) (fun p e s m below meth c A ls E hr hlk hin hg hH hl => ?_)
  have hl : lv_has ls 1 [(0, .ref x)] := hl
  have hx := E.1; have hb := E.2.1; have hml := E.2.2.1; have hown := E.2.2.2.1; have hts := E.2.2.2.2; have hK := hg.1
  obtain ⟨M0, hM0⟩ : ∃ M0 : hM, M0 = M := ⟨M, rfl⟩
  rw [show q_bk_lettersOfAsked G x d dn lf rt pt xt rr ar asg anm asz M = q_bk_lettersOfAsked G x d dn lf rt pt xt rr ar asg anm asz M0 by rw [hM0]]
  refine lv_aload_n hx hb d_bk_lettersOfAsked_0 rfl (lv_at hl 0 rfl) ?_
  refine hm_get E (tB in_bk) hK hH (hw.at 0 rfl) rfl 7 (by decide) (tC wm_80) rfl d_bk_lettersOfAsked_1 ?_
  have hM1 := c_rw_size l G ar asg anm asz M (hw.sub (ws' := [(ar, cRw asg anm asz)]) [1] rfl rfl) s.heap.size
  have hG1 : GoodIn w_bk_lettersOfAsked (wsV R_bk 126 R_rw y_rw_size w_rw_size) := gB_V wm_114 wm_115 wm_116 wm_4 wm_117
  refine hm_call (va_runV (y := y_rw_size) (bytes := b_rw_size) (maxL := 1) (ws := w_rw_size) (rm := { frames := 0, cells := 0, slots := 0, locals := 0 }) (own := R_bk) (index := 126) (ret := (Option.some Jvm.ClassFile.FieldType.int)) (C := R_rw) (As := []) (rest := []) E hM1 (cwV (y := y_rw_size) (bytes := b_rw_size) (maxL := 1) (ws := w_rw_size) (rm := { frames := 0, cells := 0, slots := 0, locals := 0 }) (own := R_bk) (index := 126) (ret := (Option.some Jvm.ClassFile.FieldType.int)) (C := R_rw) 0 hts hG1 rfl rfl rfl (by decide +kernel) ⟨Nat.le_of_ble_eq_true rfl, Nat.le_of_ble_eq_true rfl⟩) (hm_preV gk_w gk_s hH hg hK (hw.at 1 rfl) rfl []) rfl rfl hl.1 rfl (lv_room (Nat.le_of_ble_eq_true rfl)) d_bk_lettersOfAsked_4 ⟨(by show _ ≤ 0; omega), (by show _ ≤ 0; omega)⟩) hH (fun r1 M1 H1 locs1 hq1 hH1 => ?_)
  obtain ⟨rfl, e1⟩ := hq1
  replace hH := hH1; rw [e1] at hH; clear hH1 e1; generalize H1 = H at hH ⊢; generalize locs1 = locs at hH ⊢
  refine lv_iconst (v := 2) hx hb d_bk_lettersOfAsked_7 (by decide) ?_
  refine lv_isub hx hb d_bk_lettersOfAsked_8 ?_
  exact hm_iret E hr hlk hH (⟨rfl, hM0.symm⟩) (by omega) (by omega) d_bk_lettersOfAsked_9

abbrev q_bk_value (G : hG) (x d dn lf rt pt xt rr ar : Nat) (asg anm asz : Nat) (g : Nat → Int32) (k : Int32) (M : hM) : Option Value → hM → Prop := fun rv M' => ((1 ≤ k.toInt ∧ k.toInt < (asz : Int) - 2 ∧ rv = some (.int (g (k.toInt.toNat + 1)))) ∨ (¬ (1 ≤ k.toInt ∧ k.toInt < (asz : Int) - 2) ∧ rv = some (.int (-1)))) ∧ M' = M
set_option maxHeartbeats 4000000 in
set_option maxRecDepth 100000 in
theorem c_bk_value (l : Launch) (G : hG) (x d dn lf rt pt xt rr ar : Nat) (asg anm asz : Nat) (g : Nat → Int32) (k : Int32) (M : hM) (hw : hm_has M [(x, .inr (3, [.ref d, .int (nI dn), .int (nI lf), .int (nI rt), .ref pt, .ref xt, .ref rr, .ref ar])), (ar, .inr (1, [.ref asg, .ref anm, .int (nI asz)])), (anm, aI G 66 g)]) (hasz : asz ≤ 65) : Ct (gk G) l G.1 vwC y_bk_value w_bk_value { frames := 2, cells := 0, slots := 0, locals := 42 } ([.ref x, .int k] : List Value) M (q_bk_value G x d dn lf rt pt xt rr ar asg anm asz g k M) 0 0 := by
  refine Ct.ofW (cc := b_bk_value) (maxL := 2) (ret := (Option.some Jvm.ClassFile.FieldType.int)) (by decide) rfl (Nat.le_of_ble_eq_true rfl) (fun p e s m below meth c A ls E hr hlk hin hg hH hl => ?_)
  have hl : lv_has ls 2 [(0, .ref x), (1, .int k)] := hl
  have hx := E.1; have hb := E.2.1; have hml := E.2.2.1; have hown := E.2.2.2.1; have hts := E.2.2.2.2; have hK := hg.1
  obtain ⟨M0, hM0⟩ : ∃ M0 : hM, M0 = M := ⟨M, rfl⟩
  rw [show q_bk_value G x d dn lf rt pt xt rr ar asg anm asz g k M = q_bk_value G x d dn lf rt pt xt rr ar asg anm asz g k M0 by rw [hM0]]
  refine lv_iload_n hx hb d_bk_value_0 rfl (lv_at hl 1 rfl) ?_
  refine lv_iconst (v := 1) hx hb d_bk_value_1 (by decide) ?_
  refine hr_icmp_lt (x := k) (y := 1) (c9 := 1) hx hb (by decide) (tgt := 13) d_bk_value_2 (by decide) (fun h2 => ?_) (fun h2 => ?_)
  · skip
    refine lv_iconst (v := (-1)) hx hb d_bk_value_13 (by decide) ?_
    exact hm_iret E hr hlk hH (⟨Or.inr ⟨by omega, rfl⟩, hM0.symm⟩) (by omega) (by omega) d_bk_value_14
  · skip
    refine lv_iload_n hx hb d_bk_value_5 rfl (lv_at hl 1 rfl) ?_
    refine lv_aload_n hx hb d_bk_value_6 rfl (lv_at hl 0 rfl) ?_
    have hM1 := c_bk_lettersOfAsked l G x d dn lf rt pt xt rr ar asg anm asz M (hw.sub (ws' := [(x, .inr (3, [.ref d, .int (nI dn), .int (nI lf), .int (nI rt), .ref pt, .ref xt, .ref rr, .ref ar])), (ar, .inr (1, [.ref asg, .ref anm, .int (nI asz)]))]) [0, 1] rfl rfl) s.heap.size
    have hG1 : GoodIn w_bk_value (wsV R_bk 102 R_bk y_bk_lettersOfAsked w_bk_lettersOfAsked) := gB_V wm_110 wm_112 wp_0 wm_1 wm_113
    refine hm_call (va_runV (y := y_bk_lettersOfAsked) (bytes := b_bk_lettersOfAsked) (maxL := 1) (ws := w_bk_lettersOfAsked) (rm := { frames := 1, cells := 0, slots := 0, locals := 20 }) (own := R_bk) (index := 102) (ret := (Option.some Jvm.ClassFile.FieldType.int)) (C := R_bk) (As := []) (rest := [.int k]) E hM1 (cwV (y := y_bk_lettersOfAsked) (bytes := b_bk_lettersOfAsked) (maxL := 1) (ws := w_bk_lettersOfAsked) (rm := { frames := 1, cells := 0, slots := 0, locals := 20 }) (own := R_bk) (index := 102) (ret := (Option.some Jvm.ClassFile.FieldType.int)) (C := R_bk) 0 hts hG1 rfl rfl rfl (by decide +kernel) ⟨Nat.le_of_ble_eq_true rfl, Nat.le_of_ble_eq_true rfl⟩) (hm_preV gk_w gk_s hH hg hK (hw.at 0 rfl) rfl []) rfl rfl hl.1 rfl (lv_room (Nat.le_of_ble_eq_true rfl)) d_bk_value_7 ⟨(by show _ ≤ 0; omega), (by show _ ≤ 0; omega)⟩) hH (fun r1 M1 H1 locs1 hq1 hH1 => ?_)
    obtain ⟨rfl, e1⟩ := hq1
    replace hH := hH1; rw [e1] at hH; clear hH1 e1; generalize H1 = H at hH ⊢; generalize locs1 = locs at hH ⊢
    refine hr_icmp_lt (x := k) (y := nI asz - 2) (c9 := (asz : Int) - 2) hx hb (sub2_toInt (by omega)) (tgt := 15) d_bk_value_10 (by decide) (fun h10 => ?_) (fun h10 => ?_)
    · skip
      obtain ⟨j, hj31, rfl⟩ := nI_ex (z := k) (by omega)
      rw [nI_toInt hj31] at h2 h10
      refine lv_aload_n hx hb d_bk_value_15 rfl (lv_at hl 0 rfl) ?_
      refine hm_get E (tB in_bk) hK hH (hw.at 0 rfl) rfl 7 (by decide) (tC wm_80) rfl d_bk_value_16 ?_
      refine lv_iload_n hx hb d_bk_value_19 rfl (lv_at hl 1 rfl) ?_
      have hM1 := c_bk_placeBehind l G j M H.size
      have hG1 : GoodIn w_bk_value (wsS R_bk 105 y_bk_placeBehind w_bk_placeBehind) := gB_S wm_118 wm_119 wm_1 wm_120
      refine hm_call (va_runS (y := y_bk_placeBehind) (bytes := b_bk_placeBehind) (maxL := 1) (ws := w_bk_placeBehind) (rm := { frames := 0, cells := 0, slots := 0, locals := 0 }) (own := R_bk) (index := 105) (ret := (Option.some Jvm.ClassFile.FieldType.int)) (As := [.int (nI j)]) (rest := [.ref ar]) E hM1 (cwS (y := y_bk_placeBehind) (bytes := b_bk_placeBehind) (maxL := 1) (ws := w_bk_placeBehind) (rm := { frames := 0, cells := 0, slots := 0, locals := 0 }) (own := R_bk) (index := 105) (ret := (Option.some Jvm.ClassFile.FieldType.int)) 1 hts hG1 rfl rfl rfl (by decide +kernel) ⟨Nat.le_of_ble_eq_true rfl, Nat.le_of_ble_eq_true rfl⟩) (hm_preS gk_w gk_s hH hg [.int (nI j)]) rfl rfl hl.1 rfl (lv_room (Nat.le_of_ble_eq_true rfl)) d_bk_value_20 ⟨(by show _ ≤ 0; omega), (by show _ ≤ 0; omega)⟩) hH (fun r1 M1 H1 locs1 hq1 hH1 => ?_)
      obtain ⟨rfl, e1⟩ := hq1
      replace hH := hH1; rw [e1] at hH; clear hH1 e1; generalize H1 = H at hH ⊢; generalize locs1 = locs at hH ⊢
      have hM1 := c_rw_numberAt l G ar asg anm asz g (j + 1) M (hw.sub (ws' := [(ar, cRw asg anm asz), (anm, aI G 66 g)]) [1, 2] rfl rfl) (by omega) H.size
      have hG1 : GoodIn w_bk_value (wsV R_bk 109 R_rw y_rw_numberAt w_rw_numberAt) := gB_V wm_121 wm_122 wm_123 wm_4 wm_124
      refine hm_call (va_runV (y := y_rw_numberAt) (bytes := b_rw_numberAt) (maxL := 2) (ws := w_rw_numberAt) (rm := { frames := 1, cells := 0, slots := 0, locals := 21 }) (own := R_bk) (index := 109) (ret := (Option.some Jvm.ClassFile.FieldType.int)) (C := R_rw) (As := [.int (nI (j + 1))]) (rest := []) E hM1 (cwV (y := y_rw_numberAt) (bytes := b_rw_numberAt) (maxL := 2) (ws := w_rw_numberAt) (rm := { frames := 1, cells := 0, slots := 0, locals := 21 }) (own := R_bk) (index := 109) (ret := (Option.some Jvm.ClassFile.FieldType.int)) (C := R_rw) 1 hts hG1 rfl rfl rfl (by decide +kernel) ⟨Nat.le_of_ble_eq_true rfl, Nat.le_of_ble_eq_true rfl⟩) (hm_preV gk_w gk_s hH hg hK (hw.at 1 rfl) rfl [.int (nI (j + 1))]) rfl rfl hl.1 rfl (lv_room (Nat.le_of_ble_eq_true rfl)) d_bk_value_23 ⟨(by show _ ≤ 0; omega), (by show _ ≤ 0; omega)⟩) hH (fun r1 M1 H1 locs1 hq1 hH1 => ?_)
      obtain ⟨rfl, e1⟩ := hq1
      replace hH := hH1; rw [e1] at hH; clear hH1 e1; generalize H1 = H at hH ⊢; generalize locs1 = locs at hH ⊢
      exact hm_iret E hr hlk hH (⟨Or.inl ⟨by rw [nI_toInt hj31]; exact h2, by rw [nI_toInt hj31]; exact h10, by rw [nI_toInt hj31, if_pos (by omega)]; rfl⟩, hM0.symm⟩) (by omega) (by omega) d_bk_value_26
    · skip
      refine lv_iconst (v := (-1)) hx hb d_bk_value_13 (by decide) ?_
      exact hm_iret E hr hlk hH (⟨Or.inr ⟨by omega, rfl⟩, hM0.symm⟩) (by omega) (by omega) d_bk_value_14

abbrev q_bk_least (G : hG) (x d dn lf rt pt xt rr ar : Nat) (a1 a2 : Int32) (M : hM) : Option Value → hM → Prop := fun rv M' => (∃ jl jr : Nat, a1 = nI jl ∧ a2 = nI jr ∧ 1 ≤ jl ∧ jl ≤ 63 ∧ 1 ≤ jr ∧ jr ≤ 63 ∧ rv = some (.int 1) ∧ hm_has M' [(x, .inr (3, [.ref d, .int (nI dn), .int (nI jl), .int (nI jr), .ref pt, .ref xt, .ref rr, .ref ar]))] ∧ hm_kp (fun a => a ∈ [x]) M M') ∨ (¬ (1 ≤ a1.toInt ∧ a1.toInt ≤ 63 ∧ 1 ≤ a2.toInt ∧ a2.toInt ≤ 63) ∧ rv = some (.int 0) ∧ M' = M)
set_option maxHeartbeats 4000000 in
set_option maxRecDepth 100000 in
theorem c_bk_least (l : Launch) (G : hG) (x d dn lf rt pt xt rr ar : Nat) (a1 a2 : Int32) (M : hM) (hw : hm_has M [(x, .inr (3, [.ref d, .int (nI dn), .int (nI lf), .int (nI rt), .ref pt, .ref xt, .ref rr, .ref ar]))]) : Ct (gk G) l G.1 vwC y_bk_least w_bk_least { frames := 0, cells := 0, slots := 0, locals := 0 } ([.ref x, .int a1, .int a2] : List Value) M (q_bk_least G x d dn lf rt pt xt rr ar a1 a2 M) 0 0 := by
  refine Ct.ofW (cc := b_bk_least) (maxL := 3) (ret := (Option.some Jvm.ClassFile.FieldType.boolean)) (by decide) rfl (Nat.le_of_ble_eq_true rfl) (fun p e s m below meth c A ls E hr hlk hin hg hH hl => ?_)
  have hl : lv_has ls 3 [(0, .ref x), (1, .int a1), (2, .int a2)] := hl
  have hx := E.1; have hb := E.2.1; have hml := E.2.2.1; have hown := E.2.2.2.1; have hts := E.2.2.2.2; have hK := hg.1
  obtain ⟨M0, hM0⟩ : ∃ M0 : hM, M0 = M := ⟨M, rfl⟩
  rw [show q_bk_least G x d dn lf rt pt xt rr ar a1 a2 M = q_bk_least G x d dn lf rt pt xt rr ar a1 a2 M0 by rw [hM0]]
  have hk : hm_kp (fun a => a ∈ [x]) M0 M := by rw [hM0]; exact hm_kp.rf
  refine lv_iload_n hx hb d_bk_least_0 rfl (lv_at hl 1 rfl) ?_
  refine lv_iconst (v := 1) hx hb d_bk_least_1 (by decide) ?_
  refine hr_icmp_lt (x := a1) (y := 1) (c9 := 1) hx hb (by decide) (tgt := 22) d_bk_least_2 (by decide) (fun h2 => ?_) (fun h2 => ?_)
  · skip
    refine lv_iconst (v := 0) hx hb d_bk_least_22 (by decide) ?_
    exact hm_zret E hr hlk hH (by decide) (Or.inr ⟨by omega, rfl, hM0.symm⟩) (by omega) (by omega) d_bk_least_23
  · skip
    refine lv_iload_n hx hb d_bk_least_5 rfl (lv_at hl 1 rfl) ?_
    refine lv_bipush (v := 63) hx hb d_bk_least_6 (by decide) ?_
    refine hr_icmp_gt (x := a1) (y := 63) (c9 := 63) hx hb (by decide) (tgt := 22) d_bk_least_8 (by decide) (fun h8 => ?_) (fun h8 => ?_)
    · skip
      refine lv_iconst (v := 0) hx hb d_bk_least_22 (by decide) ?_
      exact hm_zret E hr hlk hH (by decide) (Or.inr ⟨by omega, rfl, hM0.symm⟩) (by omega) (by omega) d_bk_least_23
    · skip
      refine lv_iload_n hx hb d_bk_least_11 rfl (lv_at hl 2 rfl) ?_
      refine lv_iconst (v := 1) hx hb d_bk_least_12 (by decide) ?_
      refine hr_icmp_lt (x := a2) (y := 1) (c9 := 1) hx hb (by decide) (tgt := 22) d_bk_least_13 (by decide) (fun h13 => ?_) (fun h13 => ?_)
      · skip
        refine lv_iconst (v := 0) hx hb d_bk_least_22 (by decide) ?_
        exact hm_zret E hr hlk hH (by decide) (Or.inr ⟨by omega, rfl, hM0.symm⟩) (by omega) (by omega) d_bk_least_23
      · skip
        refine lv_iload_n hx hb d_bk_least_16 rfl (lv_at hl 2 rfl) ?_
        refine lv_bipush (v := 63) hx hb d_bk_least_17 (by decide) ?_
        refine hr_icmp_le (x := a2) (y := 63) (c9 := 63) hx hb (by decide) (tgt := 24) d_bk_least_19 (by decide) (fun h19 => ?_) (fun h19 => ?_)
        · skip
          obtain ⟨jl, hjl, rfl⟩ := nI_ex (z := a1) (by omega)
          obtain ⟨jr, hjr, rfl⟩ := nI_ex (z := a2) (by omega)
          rw [nI_toInt hjl] at h2 h8
          rw [nI_toInt hjr] at h13 h19
          refine lv_aload_n hx hb d_bk_least_24 rfl (lv_at hl 0 rfl) ?_
          refine lv_iload_n hx hb d_bk_least_25 rfl (lv_at hl 1 rfl) ?_
          refine hm_put E (tB in_bk) t_bk tk_bk nm_bk hK hH (hw.at 0 rfl) rfl 2 (by decide) (tC wm_75) rfl rfl rfl (Nat.le_of_ble_eq_true rfl) (fs' := [.ref d, .int (nI dn), .int (nI jl), .int (nI rt), .ref pt, .ref xt, .ref rr, .ref ar]) rfl d_bk_least_26 (fun H locs hH => ?_)
          have hw := hw.set (ws' := [(x, .inr (3, [.ref d, .int (nI dn), .int (nI jl), .int (nI rt), .ref pt, .ref xt, .ref rr, .ref ar]))]) (k := 0) rfl rfl
          have hk := hk.wr (a := x) (v := some (.inr (3, [.ref d, .int (nI dn), .int (nI jl), .int (nI rt), .ref pt, .ref xt, .ref rr, .ref ar]))) (by first | (right; assumption) | (left; simp; done))
          generalize va_up M x (some (.inr (3, [.ref d, .int (nI dn), .int (nI jl), .int (nI rt), .ref pt, .ref xt, .ref rr, .ref ar]))) = M at hH hw hk ⊢
          refine lv_aload_n hx hb d_bk_least_29 rfl (lv_at hl 0 rfl) ?_
          refine lv_iload_n hx hb d_bk_least_30 rfl (lv_at hl 2 rfl) ?_
          refine hm_put E (tB in_bk) t_bk tk_bk nm_bk hK hH (hw.at 0 rfl) rfl 3 (by decide) (tC wm_76) rfl rfl rfl (Nat.le_of_ble_eq_true rfl) (fs' := [.ref d, .int (nI dn), .int (nI jl), .int (nI jr), .ref pt, .ref xt, .ref rr, .ref ar]) rfl d_bk_least_31 (fun H locs hH => ?_)
          have hw := hw.set (ws' := [(x, .inr (3, [.ref d, .int (nI dn), .int (nI jl), .int (nI jr), .ref pt, .ref xt, .ref rr, .ref ar]))]) (k := 0) rfl rfl
          have hk := hk.wr (a := x) (v := some (.inr (3, [.ref d, .int (nI dn), .int (nI jl), .int (nI jr), .ref pt, .ref xt, .ref rr, .ref ar]))) (by first | (right; assumption) | (left; simp; done))
          generalize va_up M x (some (.inr (3, [.ref d, .int (nI dn), .int (nI jl), .int (nI jr), .ref pt, .ref xt, .ref rr, .ref ar]))) = M at hH hw hk ⊢
          refine lv_iconst (v := 1) hx hb d_bk_least_34 (by decide) ?_
          exact hm_zret E hr hlk hH (by decide) (Or.inl ⟨jl, jr, rfl, rfl, by omega, by omega, by omega, by omega, rfl, hw, hk⟩) (by omega) (by omega) d_bk_least_35
        · skip
          refine lv_iconst (v := 0) hx hb d_bk_least_22 (by decide) ?_
          exact hm_zret E hr hlk hH (by decide) (Or.inr ⟨by omega, rfl, hM0.symm⟩) (by omega) (by omega) d_bk_least_23

abbrev q_bk_count (G : hG) (x d dn lf rt pt xt rr ar : Nat) (ro1 en1 bg1 ro2 en2 bg2 : Nat) (k : Int32) (M : hM) : Option Value → hM → Prop := fun rv M' => rv = some (.int (if k = 0 then nI en1 else if k = 1 then nI en2 else if k = 2 then nI bg1 else if k = 3 then nI dn else -1)) ∧ M' = M
set_option maxHeartbeats 4000000 in
set_option maxRecDepth 100000 in
theorem c_bk_count (l : Launch) (G : hG) (x d dn lf rt pt xt rr ar : Nat) (ro1 en1 bg1 ro2 en2 bg2 : Nat) (k : Int32) (M : hM) (hw : hm_has M [(x, .inr (3, [.ref d, .int (nI dn), .int (nI lf), .int (nI rt), .ref pt, .ref xt, .ref rr, .ref ar])), (pt, .inr (2, [.ref ro1, .int (nI en1), .int (nI bg1)])), (xt, .inr (2, [.ref ro2, .int (nI en2), .int (nI bg2)]))]) : Ct (gk G) l G.1 vwC y_bk_count w_bk_count { frames := 1, cells := 0, slots := 0, locals := 20 } ([.ref x, .int k] : List Value) M (q_bk_count G x d dn lf rt pt xt rr ar ro1 en1 bg1 ro2 en2 bg2 k M) 0 0 := by
  refine Ct.ofW (cc := b_bk_count) (maxL := 2) (ret := (Option.some Jvm.ClassFile.FieldType.int)) (by decide) rfl (Nat.le_of_ble_eq_true rfl) (fun p e s m below meth c A ls E hr hlk hin hg hH hl => ?_)
  have hl : lv_has ls 2 [(0, .ref x), (1, .int k)] := hl
  have hx := E.1; have hb := E.2.1; have hml := E.2.2.1; have hown := E.2.2.2.1; have hts := E.2.2.2.2; have hK := hg.1
  obtain ⟨M0, hM0⟩ : ∃ M0 : hM, M0 = M := ⟨M, rfl⟩
  rw [show q_bk_count G x d dn lf rt pt xt rr ar ro1 en1 bg1 ro2 en2 bg2 k M = q_bk_count G x d dn lf rt pt xt rr ar ro1 en1 bg1 ro2 en2 bg2 k M0 by rw [hM0]]
  refine lv_iload_n hx hb d_bk_count_0 rfl (lv_at hl 1 rfl) ?_
  by_cases k0 : k = 0
  · subst k0
    refine lv_tableIn (x := 0) (off := 31) (tgt := 32) hx hb d_bk_count_1 (by decide) (by decide) (by decide) (by decide) ?_
    refine lv_aload_n hx hb d_bk_count_32 rfl (lv_at hl 0 rfl) ?_
    refine hm_get E (tB in_bk) hK hH (hw.at 0 rfl) rfl 4 (by decide) (tC wm_77) rfl d_bk_count_33 ?_
    have hM1 := c_tr_entries l G pt ro1 en1 bg1 M (hw.at 1 rfl) s.heap.size
    have hG1 : GoodIn w_bk_count (wsV R_bk 63 R_tr y_tr_entries w_tr_entries) := gB_V wm_132 wm_133 wm_134 wm_2 wm_135
    refine hm_call (va_runV (y := y_tr_entries) (bytes := b_tr_entries) (maxL := 1) (ws := w_tr_entries) (rm := { frames := 0, cells := 0, slots := 0, locals := 0 }) (own := R_bk) (index := 63) (ret := (Option.some Jvm.ClassFile.FieldType.int)) (C := R_tr) (As := []) (rest := []) E hM1 (cwV (y := y_tr_entries) (bytes := b_tr_entries) (maxL := 1) (ws := w_tr_entries) (rm := { frames := 0, cells := 0, slots := 0, locals := 0 }) (own := R_bk) (index := 63) (ret := (Option.some Jvm.ClassFile.FieldType.int)) (C := R_tr) 0 hts hG1 rfl rfl rfl (by decide +kernel) ⟨Nat.le_of_ble_eq_true rfl, Nat.le_of_ble_eq_true rfl⟩) (hm_preV gk_w gk_s hH hg hK (hw.at 1 rfl) rfl []) rfl rfl hl.1 rfl (lv_room (Nat.le_of_ble_eq_true rfl)) d_bk_count_36 ⟨(by show _ ≤ 0; omega), (by show _ ≤ 0; omega)⟩) hH (fun r1 M1 H1 locs1 hq1 hH1 => ?_)
    obtain ⟨rfl, e1⟩ := hq1
    replace hH := hH1; rw [e1] at hH; clear hH1 e1; generalize H1 = H at hH ⊢; generalize locs1 = locs at hH ⊢
    exact hm_iret E hr hlk hH (⟨by simp, hM0.symm⟩) (by omega) (by omega) d_bk_count_39
  · skip
    by_cases k1 : k = 1
    · subst k1
      refine lv_tableIn (x := 1) (off := 39) (tgt := 40) hx hb d_bk_count_1 (by decide) (by decide) (by decide) (by decide) ?_
      refine lv_aload_n hx hb d_bk_count_40 rfl (lv_at hl 0 rfl) ?_
      refine hm_get E (tB in_bk) hK hH (hw.at 0 rfl) rfl 5 (by decide) (tC wm_78) rfl d_bk_count_41 ?_
      have hM1 := c_tr_entries l G xt ro2 en2 bg2 M (hw.at 2 rfl) s.heap.size
      have hG1 : GoodIn w_bk_count (wsV R_bk 63 R_tr y_tr_entries w_tr_entries) := gB_V wm_132 wm_133 wm_134 wm_2 wm_135
      refine hm_call (va_runV (y := y_tr_entries) (bytes := b_tr_entries) (maxL := 1) (ws := w_tr_entries) (rm := { frames := 0, cells := 0, slots := 0, locals := 0 }) (own := R_bk) (index := 63) (ret := (Option.some Jvm.ClassFile.FieldType.int)) (C := R_tr) (As := []) (rest := []) E hM1 (cwV (y := y_tr_entries) (bytes := b_tr_entries) (maxL := 1) (ws := w_tr_entries) (rm := { frames := 0, cells := 0, slots := 0, locals := 0 }) (own := R_bk) (index := 63) (ret := (Option.some Jvm.ClassFile.FieldType.int)) (C := R_tr) 0 hts hG1 rfl rfl rfl (by decide +kernel) ⟨Nat.le_of_ble_eq_true rfl, Nat.le_of_ble_eq_true rfl⟩) (hm_preV gk_w gk_s hH hg hK (hw.at 2 rfl) rfl []) rfl rfl hl.1 rfl (lv_room (Nat.le_of_ble_eq_true rfl)) d_bk_count_44 ⟨(by show _ ≤ 0; omega), (by show _ ≤ 0; omega)⟩) hH (fun r1 M1 H1 locs1 hq1 hH1 => ?_)
      obtain ⟨rfl, e1⟩ := hq1
      replace hH := hH1; rw [e1] at hH; clear hH1 e1; generalize H1 = H at hH ⊢; generalize locs1 = locs at hH ⊢
      exact hm_iret E hr hlk hH (⟨by simp, hM0.symm⟩) (by omega) (by omega) d_bk_count_47
    · skip
      by_cases k2 : k = 2
      · subst k2
        refine lv_tableIn (x := 2) (off := 47) (tgt := 48) hx hb d_bk_count_1 (by decide) (by decide) (by decide) (by decide) ?_
        refine lv_aload_n hx hb d_bk_count_48 rfl (lv_at hl 0 rfl) ?_
        refine hm_get E (tB in_bk) hK hH (hw.at 0 rfl) rfl 4 (by decide) (tC wm_77) rfl d_bk_count_49 ?_
        have hM1 := c_tr_beginnings l G pt ro1 en1 bg1 M (hw.at 1 rfl) s.heap.size
        have hG1 : GoodIn w_bk_count (wsV R_bk 112 R_tr y_tr_beginnings w_tr_beginnings) := gB_V wm_136 wm_137 wm_138 wm_2 wm_139
        refine hm_call (va_runV (y := y_tr_beginnings) (bytes := b_tr_beginnings) (maxL := 1) (ws := w_tr_beginnings) (rm := { frames := 0, cells := 0, slots := 0, locals := 0 }) (own := R_bk) (index := 112) (ret := (Option.some Jvm.ClassFile.FieldType.int)) (C := R_tr) (As := []) (rest := []) E hM1 (cwV (y := y_tr_beginnings) (bytes := b_tr_beginnings) (maxL := 1) (ws := w_tr_beginnings) (rm := { frames := 0, cells := 0, slots := 0, locals := 0 }) (own := R_bk) (index := 112) (ret := (Option.some Jvm.ClassFile.FieldType.int)) (C := R_tr) 0 hts hG1 rfl rfl rfl (by decide +kernel) ⟨Nat.le_of_ble_eq_true rfl, Nat.le_of_ble_eq_true rfl⟩) (hm_preV gk_w gk_s hH hg hK (hw.at 1 rfl) rfl []) rfl rfl hl.1 rfl (lv_room (Nat.le_of_ble_eq_true rfl)) d_bk_count_52 ⟨(by show _ ≤ 0; omega), (by show _ ≤ 0; omega)⟩) hH (fun r1 M1 H1 locs1 hq1 hH1 => ?_)
        obtain ⟨rfl, e1⟩ := hq1
        replace hH := hH1; rw [e1] at hH; clear hH1 e1; generalize H1 = H at hH ⊢; generalize locs1 = locs at hH ⊢
        exact hm_iret E hr hlk hH (⟨by simp, hM0.symm⟩) (by omega) (by omega) d_bk_count_55
      · skip
        by_cases k3 : k = 3
        · subst k3
          refine lv_tableIn (x := 3) (off := 55) (tgt := 56) hx hb d_bk_count_1 (by decide) (by decide) (by decide) (by decide) ?_
          refine lv_aload_n hx hb d_bk_count_56 rfl (lv_at hl 0 rfl) ?_
          refine hm_get E (tB in_bk) hK hH (hw.at 0 rfl) rfl 1 (by decide) (tC wm_74) rfl d_bk_count_57 ?_
          exact hm_iret E hr hlk hH (⟨by simp, hM0.symm⟩) (by omega) (by omega) d_bk_count_60
        · skip
          have q0 : (k).toInt ≠ 0 := fun h => k0 (i32_eq.mpr (by rw [h]; decide))
          have q1 : (k).toInt ≠ 1 := fun h => k1 (i32_eq.mpr (by rw [h]; decide))
          have q2 : (k).toInt ≠ 2 := fun h => k2 (i32_eq.mpr (by rw [h]; decide))
          have q3 : (k).toInt ≠ 3 := fun h => k3 (i32_eq.mpr (by rw [h]; decide))
          refine lv_tableOut (tgt := 61) hx hb d_bk_count_1 (by omega) (by decide) ?_
          refine lv_iconst (v := (-1)) hx hb d_bk_count_61 (by decide) ?_
          exact hm_iret E hr hlk hH (⟨by rw [if_neg k0, if_neg k1, if_neg k2, if_neg k3], hM0.symm⟩) (by omega) (by omega) d_bk_count_62

abbrev q_bk_put (G : hG) (x d dn lf rt pt xt rr ar : Nat) (dr : Nat → Int32) (v : Int64) (n0 : Int32) (M : hM) : Option Value → hM → Prop := fun rv M' => (∃ n : Nat, n0 = nI n ∧ 1 ≤ n ∧ n ≤ 8 ∧ dn + n ≤ 200 ∧ rv = some (.int 1) ∧ hm_has M' [(x, .inr (3, [.ref d, .int (nI (dn + n)), .int (nI lf), .int (nI rt), .ref pt, .ref xt, .ref rr, .ref ar])), (d, aI G 200 (drF dr dn v n n))] ∧ hm_kp (fun a => a ∈ [x, d]) M M') ∨ (¬ (1 ≤ n0.toInt ∧ n0.toInt ≤ 8 ∧ (dn : Int) + n0.toInt ≤ 200) ∧ rv = some (.int 0) ∧ M' = M)
set_option maxHeartbeats 4000000 in
set_option maxRecDepth 100000 in
theorem c_bk_put (l : Launch) (G : hG) (x d dn lf rt pt xt rr ar : Nat) (dr : Nat → Int32) (v : Int64) (n0 : Int32) (M : hM) (hw : hm_has M [(x, .inr (3, [.ref d, .int (nI dn), .int (nI lf), .int (nI rt), .ref pt, .ref xt, .ref rr, .ref ar])), (d, aI G 200 dr)]) (hdn : dn ≤ 200) : Ct (gk G) l G.1 vwC y_bk_put w_bk_put { frames := 0, cells := 0, slots := 0, locals := 0 } ([.ref x, .long v, .int n0] : List Value) M (q_bk_put G x d dn lf rt pt xt rr ar dr v n0 M) 0 0 := by
  refine Ct.ofW (cc := b_bk_put) (maxL := 5) (ret := (Option.some Jvm.ClassFile.FieldType.boolean)) (by decide) rfl (Nat.le_of_ble_eq_true rfl) (fun p e s m below meth c A ls E hr hlk hin hg hH hl => ?_)
  have hl : lv_has ls 5 [(0, .ref x), (1, .long v), (3, .int n0)] := hl
  have hx := E.1; have hb := E.2.1; have hml := E.2.2.1; have hown := E.2.2.2.1; have hts := E.2.2.2.2; have hK := hg.1
  obtain ⟨M0, hM0⟩ : ∃ M0 : hM, M0 = M := ⟨M, rfl⟩
  rw [show q_bk_put G x d dn lf rt pt xt rr ar dr v n0 M = q_bk_put G x d dn lf rt pt xt rr ar dr v n0 M0 by rw [hM0]]
  have hk : hm_kp (fun a => a ∈ [x, d]) M0 M := by rw [hM0]; exact hm_kp.rf
  refine lv_iload_n hx hb d_bk_put_0 rfl (lv_at hl 2 rfl) ?_
  refine lv_iconst (v := 1) hx hb d_bk_put_1 (by decide) ?_
  refine hr_icmp_lt (x := n0) (y := 1) (c9 := 1) hx hb (by decide) (tgt := 25) d_bk_put_2 (by decide) (fun h2 => ?_) (fun h2 => ?_)
  · skip
    refine lv_iconst (v := 0) hx hb d_bk_put_25 (by decide) ?_
    exact hm_zret E hr hlk hH (by decide) (Or.inr ⟨by first | omega | (rw [hn0, nI_toInt hn31]; omega), rfl, hM0.symm⟩) (by omega) (by omega) d_bk_put_26
  · skip
    refine lv_iload_n hx hb d_bk_put_5 rfl (lv_at hl 2 rfl) ?_
    refine lv_bipush (v := 8) hx hb d_bk_put_6 (by decide) ?_
    refine hr_icmp_gt (x := n0) (y := 8) (c9 := 8) hx hb (by decide) (tgt := 25) d_bk_put_8 (by decide) (fun h8 => ?_) (fun h8 => ?_)
    · skip
      refine lv_iconst (v := 0) hx hb d_bk_put_25 (by decide) ?_
      exact hm_zret E hr hlk hH (by decide) (Or.inr ⟨by first | omega | (rw [hn0, nI_toInt hn31]; omega), rfl, hM0.symm⟩) (by omega) (by omega) d_bk_put_26
    · skip
      obtain ⟨n, hn31, hn0⟩ := nI_ex (z := n0) (by omega)
      rw [hn0, nI_toInt hn31] at h2 h8
      have hl : lv_has ls 5 [(0, .ref x), (1, .long v), (3, .int (nI n))] := by rw [← hn0]; exact hl
      refine lv_aload_n hx hb d_bk_put_11 rfl (lv_at hl 0 rfl) ?_
      refine hm_get E (tB in_bk) hK hH (hw.at 0 rfl) rfl 1 (by decide) (tC wm_74) rfl d_bk_put_12 ?_
      refine lv_iload_n hx hb d_bk_put_15 rfl (lv_at hl 2 rfl) ?_
      refine hn_iadd hx hb (a := dn) (b := n) d_bk_put_16 ?_
      refine lv_aload_n hx hb d_bk_put_17 rfl (lv_at hl 0 rfl) ?_
      refine hm_get E (tB in_bk) hK hH (hw.at 0 rfl) rfl 0 (by decide) (tC wm_73) rfl d_bk_put_18 ?_
      refine hm_alen E hK hH 0 (hw.at 1 rfl) rfl d_bk_put_21 ?_
      refine hn_icmp_le (a := dn + n) (b := 200) hx hb (by omega) (by omega) (tgt := 27) d_bk_put_22 (by decide) (fun h22 => ?_) (fun h22 => ?_)
      · skip
        refine lv_iload_n hx hb d_bk_put_27 rfl (lv_at hl 2 rfl) ?_
        refine lv_iconst (v := 1) hx hb d_bk_put_28 (by decide) ?_
        refine hn_isub hx hb (a := n) (b := 1) (by omega) d_bk_put_29 ?_
        refine lv_istore (lv' := [(4, .int (nI (n - 1))), (0, .ref x), (1, .long v), (3, .int (nI n))]) hx hb d_bk_put_30 hl (by decide) rfl (fun ls hl => ?_)
        have L32 : ∀ (k : Nat) (c9 : Nat) (z : Int32) (M : hM) (H : Heap) (locs : List Loc) (ls : Array Slot), n + 1 ≤ c9 + k → c9 ≤ n → z.toInt = (n : Int) - 1 - c9 → hm_has M [(x, .inr (3, [.ref d, .int (nI (dn + c9)), .int (nI lf), .int (nI rt), .ref pt, .ref xt, .ref rr, .ref ar])), (d, aI G 200 (drF dr dn v n c9))] → hm_kp (fun a => a ∈ [x, d]) M0 M → hm_I G.1 vwC A s.heap M H locs → lv_has ls 5 [(4, .int z), (0, .ref x), (1, .long v), (3, .int (nI n))] → W p l e { frames := 0, cells := 0, slots := 0, locals := 0 } s m ([.ref x, .long v, .int n0] : List Value).toArray below meth c H locs 0 0 (MQ below (hm_Q G.1 vwC (q_bk_put G x d dn lf rt pt xt rr ar dr v n0 M0) A) ([.ref x, .long v, .int n0] : List Value).toArray s 0 0 A) (F0 m 32 ls []) := by
          intro k
          induction k with
          | zero => intro c9 z M H locs ls hfu hcn hz; exact absurd hfu (by omega)
          | succ k ih =>
            intro c9 z M H locs ls hfu hcn hz hw hk hH hl
            refine lv_iload hx hb d_bk_put_32 (lv_at hl 0 rfl) ?_
            refine hr_if_lt (x := z) hx hb (tgt := 74) d_bk_put_34 (by decide) (fun h34 => ?_) (fun h34 => ?_)
            · skip
              refine lv_iconst (v := 1) hx hb d_bk_put_74 (by decide) ?_
              have hce : c9 = n := by omega
              exact hm_zret E hr hlk hH (by decide) (Or.inl ⟨n, hn0, by omega, by omega, by omega, rfl, by rw [hce] at hw; exact hw, hk⟩) (by omega) (by omega) d_bk_put_75
            · skip
              have hz2 : z = nI (n - 1 - c9) := nI_toI (by omega) (by omega)
              have hc9 : c9 < n := by omega
              subst hz2
              refine lv_aload_n hx hb d_bk_put_37 rfl (lv_at hl 1 rfl) ?_
              refine hm_get E (tB in_bk) hK hH (hw.at 0 rfl) rfl 0 (by decide) (tC wm_73) rfl d_bk_put_38 ?_
              refine lv_aload_n hx hb d_bk_put_41 rfl (lv_at hl 1 rfl) ?_
              refine hm_get E (tB in_bk) hK hH (hw.at 0 rfl) rfl 1 (by decide) (tC wm_74) rfl d_bk_put_42 ?_
              refine lv_lload_n hx hb d_bk_put_45 rfl (lv_at hl 2 rfl) ?_
              refine lv_bipush (v := 8) hx hb d_bk_put_46 (by decide) ?_
              refine lv_iload hx hb d_bk_put_48 (lv_at hl 0 rfl) ?_
              refine hn_imul hx hb (a := 8) (b := n - 1 - c9) d_bk_put_50 ?_
              refine lv_lushr hx hb d_bk_put_51 rfl ?_
              refine lv_l2i hx hb d_bk_put_52 rfl ?_
              refine lv_sipush (v := 255) hx hb d_bk_put_53 (by decide) ?_
              refine lv_iand hx hb d_bk_put_56 ?_
              refine hm_top (w := .int (byt v (n - 1 - c9))) (rfl) ?_
              refine hm_iast E hK hH 0 (hw.at 1 rfl) rfl (i := dn + c9) (by omega) (by decide) d_bk_put_57 (fun H locs hH => ?_)
              have hw := hw.set (ws' := [(x, .inr (3, [.ref d, .int (nI (dn + c9)), .int (nI lf), .int (nI rt), .ref pt, .ref xt, .ref rr, .ref ar])), (d, aI G 200 (upd (drF dr dn v n c9) (dn + c9) (byt v (n - 1 - c9))))]) (k := 1) rfl rfl
              have hk := hk.wr (a := d) (v := some (aI G 200 (upd (drF dr dn v n c9) (dn + c9) (byt v (n - 1 - c9))))) (by first | (right; assumption) | (left; simp; done))
              generalize va_up M d (some (aI G 200 (upd (drF dr dn v n c9) (dn + c9) (byt v (n - 1 - c9))))) = M at hH hw hk ⊢
              refine lv_aload_n hx hb d_bk_put_58 rfl (lv_at hl 1 rfl) ?_
              refine lv_dup hx hb d_bk_put_59 rfl ?_
              refine hm_get E (tB in_bk) hK hH (hw.at 0 rfl) rfl 1 (by decide) (tC wm_74) rfl d_bk_put_60 ?_
              refine lv_iconst (v := 1) hx hb d_bk_put_63 (by decide) ?_
              refine hn_iadd hx hb (a := dn + c9) (b := 1) d_bk_put_64 ?_
              refine hm_put E (tB in_bk) t_bk tk_bk nm_bk hK hH (hw.at 0 rfl) rfl 1 (by decide) (tC wm_74) rfl rfl rfl (Nat.le_of_ble_eq_true rfl) (fs' := [.ref d, .int (nI (dn + c9 + 1)), .int (nI lf), .int (nI rt), .ref pt, .ref xt, .ref rr, .ref ar]) rfl d_bk_put_65 (fun H locs hH => ?_)
              have hw := hw.set (ws' := [(x, .inr (3, [.ref d, .int (nI (dn + c9 + 1)), .int (nI lf), .int (nI rt), .ref pt, .ref xt, .ref rr, .ref ar])), (d, aI G 200 (upd (drF dr dn v n c9) (dn + c9) (byt v (n - 1 - c9))))]) (k := 0) rfl rfl
              have hk := hk.wr (a := x) (v := some (.inr (3, [.ref d, .int (nI (dn + c9 + 1)), .int (nI lf), .int (nI rt), .ref pt, .ref xt, .ref rr, .ref ar]))) (by first | (right; assumption) | (left; simp; done))
              generalize va_up M x (some (.inr (3, [.ref d, .int (nI (dn + c9 + 1)), .int (nI lf), .int (nI rt), .ref pt, .ref xt, .ref rr, .ref ar]))) = M at hH hw hk ⊢
              refine lv_iinc (v := nI (n - 1 - c9) + (-1)) (lv' := [(4, .int (nI (n - 1 - c9) + (-1))), (0, .ref x), (1, .long v), (3, .int (nI n))]) hx hb d_bk_put_68 hl (k := 0) rfl rfl (by decide) rfl (fun ls hl => ?_)
              refine lv_goto (tgt := 32) hx hb d_bk_put_71 (by decide) ?_
              exact ih (c9 + 1) _ M _ _ _ (by omega) (by omega) (by rw [m1_toInt (by rw [nI_toInt (by omega)]; omega), nI_toInt (by omega)]; omega) hw hk hH (lv_sub hl [0, 1, 2, 3] rfl)
        exact L32 (n + 1) 0 _ M _ _ _ (by omega) (by omega) (by rw [nI_toInt (by omega)]; omega) hw hk hH (lv_sub hl [0, 1, 2, 3] rfl)
      · skip
        refine lv_iconst (v := 0) hx hb d_bk_put_25 (by decide) ?_
        exact hm_zret E hr hlk hH (by decide) (Or.inr ⟨by first | omega | (rw [hn0, nI_toInt hn31]; omega), rfl, hM0.symm⟩) (by omega) (by omega) d_bk_put_26
end
section
abbrev q_bk_drop1 (G : hG) (x d dn lf rt pt xt rr ar : Nat) (rsg rnm sz : Nat) (f g : Nat → Int32) (M : hM) : Option Value → hM → Prop := fun rv M' => rv = none ∧ hm_has M' [(x, .inr (3, [.ref d, .int (nI dn), .int (nI lf), .int (nI rt), .ref pt, .ref xt, .ref rr, .ref ar])), (rr, .inr (1, [.ref rsg, .ref rnm, .int (nI sz)])), (rsg, aI G 65 f), (rnm, aI G 66 (drp f sz g))] ∧ hm_kp (fun a => a ∈ [rnm]) M M'
set_option maxHeartbeats 4000000 in
set_option maxRecDepth 100000 in
theorem c_bk_drop1 (l : Launch) (G : hG) (x d dn lf rt pt xt rr ar : Nat) (rsg rnm sz : Nat) (f g : Nat → Int32) (M : hM) (hw : hm_has M [(x, .inr (3, [.ref d, .int (nI dn), .int (nI lf), .int (nI rt), .ref pt, .ref xt, .ref rr, .ref ar])), (rr, .inr (1, [.ref rsg, .ref rnm, .int (nI sz)])), (rsg, aI G 65 f), (rnm, aI G 66 g)]) (hsz : sz ≤ 65) (hs1 : 1 ≤ sz) : Ct (gk G) l G.1 vwC y_bk_dropNumbersOutsideEdges w_bk_dropNumbersOutsideEdges { frames := 2, cells := 0, slots := 0, locals := 42 } ([.ref x] : List Value) M (q_bk_drop1 G x d dn lf rt pt xt rr ar rsg rnm sz f g M) 0 0 := by
  refine Ct.ofW (cc := b_bk_dropNumbersOutsideEdges) (maxL := 1) (ret := (Option.none : Option Jvm.ClassFile.FieldType)) (by decide) rfl (Nat.le_of_ble_eq_true rfl) (fun p e s m below meth c A ls E hr hlk hin hg hH hl => ?_)
  have hl : lv_has ls 1 [(0, .ref x)] := hl
  have hx := E.1; have hb := E.2.1; have hml := E.2.2.1; have hown := E.2.2.2.1; have hts := E.2.2.2.2; have hK := hg.1
  obtain ⟨M0, hM0⟩ : ∃ M0 : hM, M0 = M := ⟨M, rfl⟩
  rw [show q_bk_drop1 G x d dn lf rt pt xt rr ar rsg rnm sz f g M = q_bk_drop1 G x d dn lf rt pt xt rr ar rsg rnm sz f g M0 by rw [hM0]]
  have hk : hm_kp (fun a => a ∈ [rnm]) M0 M := by rw [hM0]; exact hm_kp.rf
  refine lv_aload_n hx hb d_bk_dropNumbersOutsideEdges_0 rfl (lv_at hl 0 rfl) ?_
  refine hm_get E (tB in_bk) hK hH (hw.at 0 rfl) rfl 6 (by decide) (tC wm_79) rfl d_bk_dropNumbersOutsideEdges_1 ?_
  refine lv_iconst (v := 0) hx hb d_bk_dropNumbersOutsideEdges_4 (by decide) ?_
  have hM1 := c_rw_signAt l G rr rsg rnm sz f 0 M (hw.sub (ws' := [(rr, .inr (1, [.ref rsg, .ref rnm, .int (nI sz)])), (rsg, aI G 65 f)]) [1, 2] rfl rfl) (by omega) (by omega) s.heap.size
  have hG1 : GoodIn w_bk_dropNumbersOutsideEdges (wsV R_bk 145 R_rw y_rw_signAt w_rw_signAt) := gB_V wm_179 wm_180 wm_181 wm_4 wm_182
  refine hm_call (va_runV (y := y_rw_signAt) (bytes := b_rw_signAt) (maxL := 2) (ws := w_rw_signAt) (rm := { frames := 1, cells := 0, slots := 0, locals := 21 }) (own := R_bk) (index := 145) (ret := (Option.some Jvm.ClassFile.FieldType.int)) (C := R_rw) (As := [.int 0]) (rest := []) E hM1 (cwV (y := y_rw_signAt) (bytes := b_rw_signAt) (maxL := 2) (ws := w_rw_signAt) (rm := { frames := 1, cells := 0, slots := 0, locals := 21 }) (own := R_bk) (index := 145) (ret := (Option.some Jvm.ClassFile.FieldType.int)) (C := R_rw) 1 hts hG1 rfl rfl rfl (by decide +kernel) ⟨Nat.le_of_ble_eq_true rfl, Nat.le_of_ble_eq_true rfl⟩) (hm_preV gk_w gk_s hH hg hK (hw.at 1 rfl) rfl [.int 0]) rfl rfl hl.1 rfl (lv_room (Nat.le_of_ble_eq_true rfl)) d_bk_dropNumbersOutsideEdges_5 ⟨(by show _ ≤ 0; omega), (by show _ ≤ 0; omega)⟩) hH (fun r1 M1 H1 locs1 hq1 hH1 => ?_)
  obtain ⟨rfl, e1⟩ := hq1
  replace hH := hH1; rw [e1] at hH; clear hH1 e1; generalize H1 = H at hH ⊢; generalize locs1 = locs at hH ⊢
  refine hm_top (w := .int (f 0)) (by rw [if_pos (by omega)]) ?_
  refine lv_bipush (v := 46) hx hb d_bk_dropNumbersOutsideEdges_8 (by decide) ?_
  refine hc_icmp_ne (x := f 0) (y := 46) (c9 := 46) hx hb (by decide) (tgt := 22) d_bk_dropNumbersOutsideEdges_10 (by decide) (fun h10 => ?_) (fun h10 => ?_)
  · skip
    refine lv_aload_n hx hb d_bk_dropNumbersOutsideEdges_22 rfl (lv_at hl 0 rfl) ?_
    refine hm_get E (tB in_bk) hK hH (hw.at 0 rfl) rfl 6 (by decide) (tC wm_79) rfl d_bk_dropNumbersOutsideEdges_23 ?_
    refine lv_aload_n hx hb d_bk_dropNumbersOutsideEdges_26 rfl (lv_at hl 0 rfl) ?_
    refine hm_get E (tB in_bk) hK hH (hw.at 0 rfl) rfl 6 (by decide) (tC wm_79) rfl d_bk_dropNumbersOutsideEdges_27 ?_
    have hM1 := c_rw_size l G rr rsg rnm sz M (hw.sub (ws' := [(rr, .inr (1, [.ref rsg, .ref rnm, .int (nI sz)]))]) [1] rfl rfl) H.size
    have hG1 : GoodIn w_bk_dropNumbersOutsideEdges (wsV R_bk 126 R_rw y_rw_size w_rw_size) := gB_V wm_114 wm_115 wm_116 wm_4 wm_117
    refine hm_call (va_runV (y := y_rw_size) (bytes := b_rw_size) (maxL := 1) (ws := w_rw_size) (rm := { frames := 0, cells := 0, slots := 0, locals := 0 }) (own := R_bk) (index := 126) (ret := (Option.some Jvm.ClassFile.FieldType.int)) (C := R_rw) (As := []) (rest := [.ref rr]) E hM1 (cwV (y := y_rw_size) (bytes := b_rw_size) (maxL := 1) (ws := w_rw_size) (rm := { frames := 0, cells := 0, slots := 0, locals := 0 }) (own := R_bk) (index := 126) (ret := (Option.some Jvm.ClassFile.FieldType.int)) (C := R_rw) 0 hts hG1 rfl rfl rfl (by decide +kernel) ⟨Nat.le_of_ble_eq_true rfl, Nat.le_of_ble_eq_true rfl⟩) (hm_preV gk_w gk_s hH hg hK (hw.at 1 rfl) rfl []) rfl rfl hl.1 rfl (lv_room (Nat.le_of_ble_eq_true rfl)) d_bk_dropNumbersOutsideEdges_30 ⟨(by show _ ≤ 0; omega), (by show _ ≤ 0; omega)⟩) hH (fun r1 M1 H1 locs1 hq1 hH1 => ?_)
    obtain ⟨rfl, e1⟩ := hq1
    replace hH := hH1; rw [e1] at hH; clear hH1 e1; generalize H1 = H at hH ⊢; generalize locs1 = locs at hH ⊢
    refine lv_iconst (v := 1) hx hb d_bk_dropNumbersOutsideEdges_33 (by decide) ?_
    refine hn_isub hx hb (a := sz) (b := 1) (by omega) d_bk_dropNumbersOutsideEdges_34 ?_
    have hM1 := c_rw_signAt l G rr rsg rnm sz f (sz - 1) M (hw.sub (ws' := [(rr, .inr (1, [.ref rsg, .ref rnm, .int (nI sz)])), (rsg, aI G 65 f)]) [1, 2] rfl rfl) (by omega) (by omega) H.size
    have hG1 : GoodIn w_bk_dropNumbersOutsideEdges (wsV R_bk 145 R_rw y_rw_signAt w_rw_signAt) := gB_V wm_179 wm_180 wm_181 wm_4 wm_182
    refine hm_call (va_runV (y := y_rw_signAt) (bytes := b_rw_signAt) (maxL := 2) (ws := w_rw_signAt) (rm := { frames := 1, cells := 0, slots := 0, locals := 21 }) (own := R_bk) (index := 145) (ret := (Option.some Jvm.ClassFile.FieldType.int)) (C := R_rw) (As := [.int (nI (sz - 1))]) (rest := []) E hM1 (cwV (y := y_rw_signAt) (bytes := b_rw_signAt) (maxL := 2) (ws := w_rw_signAt) (rm := { frames := 1, cells := 0, slots := 0, locals := 21 }) (own := R_bk) (index := 145) (ret := (Option.some Jvm.ClassFile.FieldType.int)) (C := R_rw) 1 hts hG1 rfl rfl rfl (by decide +kernel) ⟨Nat.le_of_ble_eq_true rfl, Nat.le_of_ble_eq_true rfl⟩) (hm_preV gk_w gk_s hH hg hK (hw.at 1 rfl) rfl [.int (nI (sz - 1))]) rfl rfl hl.1 rfl (lv_room (Nat.le_of_ble_eq_true rfl)) d_bk_dropNumbersOutsideEdges_35 ⟨(by show _ ≤ 0; omega), (by show _ ≤ 0; omega)⟩) hH (fun r1 M1 H1 locs1 hq1 hH1 => ?_)
    obtain ⟨rfl, e1⟩ := hq1
    replace hH := hH1; rw [e1] at hH; clear hH1 e1; generalize H1 = H at hH ⊢; generalize locs1 = locs at hH ⊢
    refine hm_top (w := .int (f (sz - 1))) (by rw [if_pos (by omega)]) ?_
    refine lv_bipush (v := 46) hx hb d_bk_dropNumbersOutsideEdges_38 (by decide) ?_
    refine hc_icmp_ne (x := f (sz - 1)) (y := 46) (c9 := 46) hx hb (by decide) (tgt := 58) d_bk_dropNumbersOutsideEdges_40 (by decide) (fun h40 => ?_) (fun h40 => ?_)
    · skip
      have q1 : f 0 = 46 ↔ (f 0).toInt = 46 := eq46_iff
      have q2 : f (sz - 1) = 46 ↔ (f (sz - 1)).toInt = 46 := eq46_iff
      exact hm_vret E hr hlk hH (⟨rfl, by unfold drp; rw [if_neg (by omega)]; first | (rw [if_pos (q2.mpr h40), if_pos (q1.mpr h10)]; exact hw) | (rw [if_pos (q2.mpr h40), if_neg (fun z => h10 (q1.mp z))]; exact hw) | (rw [if_neg (fun z => h40 (q2.mp z)), if_pos (q1.mpr h10)]; exact hw) | (rw [if_neg (fun z => h40 (q2.mp z)), if_neg (fun z => h10 (q1.mp z))]; exact hw), hk⟩) (by omega) (by omega) d_bk_dropNumbersOutsideEdges_58
    · skip
      refine lv_aload_n hx hb d_bk_dropNumbersOutsideEdges_43 rfl (lv_at hl 0 rfl) ?_
      refine hm_get E (tB in_bk) hK hH (hw.at 0 rfl) rfl 6 (by decide) (tC wm_79) rfl d_bk_dropNumbersOutsideEdges_44 ?_
      refine lv_aload_n hx hb d_bk_dropNumbersOutsideEdges_47 rfl (lv_at hl 0 rfl) ?_
      refine hm_get E (tB in_bk) hK hH (hw.at 0 rfl) rfl 6 (by decide) (tC wm_79) rfl d_bk_dropNumbersOutsideEdges_48 ?_
      have hM1 := c_rw_size l G rr rsg rnm sz M (hw.sub (ws' := [(rr, .inr (1, [.ref rsg, .ref rnm, .int (nI sz)]))]) [1] rfl rfl) H.size
      have hG1 : GoodIn w_bk_dropNumbersOutsideEdges (wsV R_bk 126 R_rw y_rw_size w_rw_size) := gB_V wm_114 wm_115 wm_116 wm_4 wm_117
      refine hm_call (va_runV (y := y_rw_size) (bytes := b_rw_size) (maxL := 1) (ws := w_rw_size) (rm := { frames := 0, cells := 0, slots := 0, locals := 0 }) (own := R_bk) (index := 126) (ret := (Option.some Jvm.ClassFile.FieldType.int)) (C := R_rw) (As := []) (rest := [.ref rr]) E hM1 (cwV (y := y_rw_size) (bytes := b_rw_size) (maxL := 1) (ws := w_rw_size) (rm := { frames := 0, cells := 0, slots := 0, locals := 0 }) (own := R_bk) (index := 126) (ret := (Option.some Jvm.ClassFile.FieldType.int)) (C := R_rw) 0 hts hG1 rfl rfl rfl (by decide +kernel) ⟨Nat.le_of_ble_eq_true rfl, Nat.le_of_ble_eq_true rfl⟩) (hm_preV gk_w gk_s hH hg hK (hw.at 1 rfl) rfl []) rfl rfl hl.1 rfl (lv_room (Nat.le_of_ble_eq_true rfl)) d_bk_dropNumbersOutsideEdges_51 ⟨(by show _ ≤ 0; omega), (by show _ ≤ 0; omega)⟩) hH (fun r1 M1 H1 locs1 hq1 hH1 => ?_)
      obtain ⟨rfl, e1⟩ := hq1
      replace hH := hH1; rw [e1] at hH; clear hH1 e1; generalize H1 = H at hH ⊢; generalize locs1 = locs at hH ⊢
      refine lv_iconst (v := 0) hx hb d_bk_dropNumbersOutsideEdges_54 (by decide) ?_
      have hM1 := c_rw_setNumber l G rr rsg rnm sz g sz 0 M (hw.sub (ws' := [(rr, .inr (1, [.ref rsg, .ref rnm, .int (nI sz)])), (rnm, aI G 66 g)]) [1, 3] rfl rfl) (by omega) H.size
      have hG1 : GoodIn w_bk_dropNumbersOutsideEdges (wsV R_bk 129 R_rw y_rw_setNumber w_rw_setNumber) := gB_V wm_164 wm_165 wm_166 wm_4 wm_167
      refine hm_call (va_runV (y := y_rw_setNumber) (bytes := b_rw_setNumber) (maxL := 3) (ws := w_rw_setNumber) (rm := { frames := 0, cells := 0, slots := 0, locals := 0 }) (own := R_bk) (index := 129) (ret := (Option.none : Option Jvm.ClassFile.FieldType)) (C := R_rw) (As := [.int (nI sz), .int 0]) (rest := []) E hM1 (cwV (y := y_rw_setNumber) (bytes := b_rw_setNumber) (maxL := 3) (ws := w_rw_setNumber) (rm := { frames := 0, cells := 0, slots := 0, locals := 0 }) (own := R_bk) (index := 129) (ret := (Option.none : Option Jvm.ClassFile.FieldType)) (C := R_rw) 2 hts hG1 rfl rfl rfl (by decide +kernel) ⟨Nat.le_of_ble_eq_true rfl, Nat.le_of_ble_eq_true rfl⟩) (hm_preV gk_w gk_s hH hg hK (hw.at 1 rfl) rfl [.int (nI sz), .int 0]) rfl rfl hl.1 rfl (lv_room (Nat.le_of_ble_eq_true rfl)) d_bk_dropNumbersOutsideEdges_55 ⟨(by show _ ≤ 0; omega), (by show _ ≤ 0; omega)⟩) hH (fun r1 M1 H1 locs1 hq1 hH1 => ?_)
      replace hH := hH1; clear hH1; generalize H1 = H at hH ⊢; generalize locs1 = locs at hH ⊢
      obtain ⟨rfl, hw1, hk1⟩ := hq1
      have hw := hm_join (ws' := [(x, .inr (3, [.ref d, .int (nI dn), .int (nI lf), .int (nI rt), .ref pt, .ref xt, .ref rr, .ref ar])), (rr, .inr (1, [.ref rsg, .ref rnm, .int (nI sz)])), (rsg, aI G 65 f), (rnm, aI G 66 (upd (g) sz 0))]) (wc := [(rr, .inr (1, [.ref rsg, .ref rnm, .int (nI sz)])), (rnm, aI G 66 g)]) hw hw1 hk1 [1, 3] rfl rfl (fun a h => by simp at h; simp [h]) rfl (by
        intro k9 h9
        match k9, h9 with
        | 0, _ => exact Or.inl ⟨by decide, rfl⟩
        | 1, _ => exact Or.inr ⟨0, rfl, rfl⟩
        | 2, _ => exact Or.inl ⟨by decide, rfl⟩
        | 3, _ => exact Or.inr ⟨1, rfl, rfl⟩
        | k9 + 4, h9 => exact absurd h9 (Nat.not_lt_of_le (Nat.le_add_left _ _)))
      have hk := hk.tr hk1 (fun _ h => h)
      generalize M1 = M at hH hw hk
      have q1 : f 0 = 46 ↔ (f 0).toInt = 46 := eq46_iff
      have q2 : f (sz - 1) = 46 ↔ (f (sz - 1)).toInt = 46 := eq46_iff
      exact hm_vret E hr hlk hH (⟨rfl, by unfold drp; rw [if_neg (by omega)]; first | (rw [if_pos (q2.mpr h40), if_pos (q1.mpr h10)]; exact hw) | (rw [if_pos (q2.mpr h40), if_neg (fun z => h10 (q1.mp z))]; exact hw) | (rw [if_neg (fun z => h40 (q2.mp z)), if_pos (q1.mpr h10)]; exact hw) | (rw [if_neg (fun z => h40 (q2.mp z)), if_neg (fun z => h10 (q1.mp z))]; exact hw), hk⟩) (by omega) (by omega) d_bk_dropNumbersOutsideEdges_58
  · skip
    refine lv_aload_n hx hb d_bk_dropNumbersOutsideEdges_13 rfl (lv_at hl 0 rfl) ?_
    refine hm_get E (tB in_bk) hK hH (hw.at 0 rfl) rfl 6 (by decide) (tC wm_79) rfl d_bk_dropNumbersOutsideEdges_14 ?_
    refine lv_iconst (v := 0) hx hb d_bk_dropNumbersOutsideEdges_17 (by decide) ?_
    refine lv_iconst (v := 0) hx hb d_bk_dropNumbersOutsideEdges_18 (by decide) ?_
    have hM1 := c_rw_setNumber l G rr rsg rnm sz g 0 0 M (hw.sub (ws' := [(rr, .inr (1, [.ref rsg, .ref rnm, .int (nI sz)])), (rnm, aI G 66 g)]) [1, 3] rfl rfl) (by omega) H.size
    have hG1 : GoodIn w_bk_dropNumbersOutsideEdges (wsV R_bk 129 R_rw y_rw_setNumber w_rw_setNumber) := gB_V wm_164 wm_165 wm_166 wm_4 wm_167
    refine hm_call (va_runV (y := y_rw_setNumber) (bytes := b_rw_setNumber) (maxL := 3) (ws := w_rw_setNumber) (rm := { frames := 0, cells := 0, slots := 0, locals := 0 }) (own := R_bk) (index := 129) (ret := (Option.none : Option Jvm.ClassFile.FieldType)) (C := R_rw) (As := [.int 0, .int 0]) (rest := []) E hM1 (cwV (y := y_rw_setNumber) (bytes := b_rw_setNumber) (maxL := 3) (ws := w_rw_setNumber) (rm := { frames := 0, cells := 0, slots := 0, locals := 0 }) (own := R_bk) (index := 129) (ret := (Option.none : Option Jvm.ClassFile.FieldType)) (C := R_rw) 2 hts hG1 rfl rfl rfl (by decide +kernel) ⟨Nat.le_of_ble_eq_true rfl, Nat.le_of_ble_eq_true rfl⟩) (hm_preV gk_w gk_s hH hg hK (hw.at 1 rfl) rfl [.int 0, .int 0]) rfl rfl hl.1 rfl (lv_room (Nat.le_of_ble_eq_true rfl)) d_bk_dropNumbersOutsideEdges_19 ⟨(by show _ ≤ 0; omega), (by show _ ≤ 0; omega)⟩) hH (fun r1 M1 H1 locs1 hq1 hH1 => ?_)
    replace hH := hH1; clear hH1; generalize H1 = H at hH ⊢; generalize locs1 = locs at hH ⊢
    obtain ⟨rfl, hw1, hk1⟩ := hq1
    have hw := hm_join (ws' := [(x, .inr (3, [.ref d, .int (nI dn), .int (nI lf), .int (nI rt), .ref pt, .ref xt, .ref rr, .ref ar])), (rr, .inr (1, [.ref rsg, .ref rnm, .int (nI sz)])), (rsg, aI G 65 f), (rnm, aI G 66 (upd g 0 0))]) (wc := [(rr, .inr (1, [.ref rsg, .ref rnm, .int (nI sz)])), (rnm, aI G 66 g)]) hw hw1 hk1 [1, 3] rfl rfl (fun a h => by simp at h; simp [h]) rfl (by
      intro k9 h9
      match k9, h9 with
      | 0, _ => exact Or.inl ⟨by decide, rfl⟩
      | 1, _ => exact Or.inr ⟨0, rfl, rfl⟩
      | 2, _ => exact Or.inl ⟨by decide, rfl⟩
      | 3, _ => exact Or.inr ⟨1, rfl, rfl⟩
      | k9 + 4, h9 => exact absurd h9 (Nat.not_lt_of_le (Nat.le_add_left _ _)))
    have hk := hk.tr hk1 (fun _ h => h)
    generalize M1 = M at hH hw hk
    refine lv_aload_n hx hb d_bk_dropNumbersOutsideEdges_22 rfl (lv_at hl 0 rfl) ?_
    refine hm_get E (tB in_bk) hK hH (hw.at 0 rfl) rfl 6 (by decide) (tC wm_79) rfl d_bk_dropNumbersOutsideEdges_23 ?_
    refine lv_aload_n hx hb d_bk_dropNumbersOutsideEdges_26 rfl (lv_at hl 0 rfl) ?_
    refine hm_get E (tB in_bk) hK hH (hw.at 0 rfl) rfl 6 (by decide) (tC wm_79) rfl d_bk_dropNumbersOutsideEdges_27 ?_
    have hM1 := c_rw_size l G rr rsg rnm sz M (hw.sub (ws' := [(rr, .inr (1, [.ref rsg, .ref rnm, .int (nI sz)]))]) [1] rfl rfl) H.size
    have hG1 : GoodIn w_bk_dropNumbersOutsideEdges (wsV R_bk 126 R_rw y_rw_size w_rw_size) := gB_V wm_114 wm_115 wm_116 wm_4 wm_117
    refine hm_call (va_runV (y := y_rw_size) (bytes := b_rw_size) (maxL := 1) (ws := w_rw_size) (rm := { frames := 0, cells := 0, slots := 0, locals := 0 }) (own := R_bk) (index := 126) (ret := (Option.some Jvm.ClassFile.FieldType.int)) (C := R_rw) (As := []) (rest := [.ref rr]) E hM1 (cwV (y := y_rw_size) (bytes := b_rw_size) (maxL := 1) (ws := w_rw_size) (rm := { frames := 0, cells := 0, slots := 0, locals := 0 }) (own := R_bk) (index := 126) (ret := (Option.some Jvm.ClassFile.FieldType.int)) (C := R_rw) 0 hts hG1 rfl rfl rfl (by decide +kernel) ⟨Nat.le_of_ble_eq_true rfl, Nat.le_of_ble_eq_true rfl⟩) (hm_preV gk_w gk_s hH hg hK (hw.at 1 rfl) rfl []) rfl rfl hl.1 rfl (lv_room (Nat.le_of_ble_eq_true rfl)) d_bk_dropNumbersOutsideEdges_30 ⟨(by show _ ≤ 0; omega), (by show _ ≤ 0; omega)⟩) hH (fun r1 M1 H1 locs1 hq1 hH1 => ?_)
    obtain ⟨rfl, e1⟩ := hq1
    replace hH := hH1; rw [e1] at hH; clear hH1 e1; generalize H1 = H at hH ⊢; generalize locs1 = locs at hH ⊢
    refine lv_iconst (v := 1) hx hb d_bk_dropNumbersOutsideEdges_33 (by decide) ?_
    refine hn_isub hx hb (a := sz) (b := 1) (by omega) d_bk_dropNumbersOutsideEdges_34 ?_
    have hM1 := c_rw_signAt l G rr rsg rnm sz f (sz - 1) M (hw.sub (ws' := [(rr, .inr (1, [.ref rsg, .ref rnm, .int (nI sz)])), (rsg, aI G 65 f)]) [1, 2] rfl rfl) (by omega) (by omega) H.size
    have hG1 : GoodIn w_bk_dropNumbersOutsideEdges (wsV R_bk 145 R_rw y_rw_signAt w_rw_signAt) := gB_V wm_179 wm_180 wm_181 wm_4 wm_182
    refine hm_call (va_runV (y := y_rw_signAt) (bytes := b_rw_signAt) (maxL := 2) (ws := w_rw_signAt) (rm := { frames := 1, cells := 0, slots := 0, locals := 21 }) (own := R_bk) (index := 145) (ret := (Option.some Jvm.ClassFile.FieldType.int)) (C := R_rw) (As := [.int (nI (sz - 1))]) (rest := []) E hM1 (cwV (y := y_rw_signAt) (bytes := b_rw_signAt) (maxL := 2) (ws := w_rw_signAt) (rm := { frames := 1, cells := 0, slots := 0, locals := 21 }) (own := R_bk) (index := 145) (ret := (Option.some Jvm.ClassFile.FieldType.int)) (C := R_rw) 1 hts hG1 rfl rfl rfl (by decide +kernel) ⟨Nat.le_of_ble_eq_true rfl, Nat.le_of_ble_eq_true rfl⟩) (hm_preV gk_w gk_s hH hg hK (hw.at 1 rfl) rfl [.int (nI (sz - 1))]) rfl rfl hl.1 rfl (lv_room (Nat.le_of_ble_eq_true rfl)) d_bk_dropNumbersOutsideEdges_35 ⟨(by show _ ≤ 0; omega), (by show _ ≤ 0; omega)⟩) hH (fun r1 M1 H1 locs1 hq1 hH1 => ?_)
    obtain ⟨rfl, e1⟩ := hq1
    replace hH := hH1; rw [e1] at hH; clear hH1 e1; generalize H1 = H at hH ⊢; generalize locs1 = locs at hH ⊢
    refine hm_top (w := .int (f (sz - 1))) (by rw [if_pos (by omega)]) ?_
    refine lv_bipush (v := 46) hx hb d_bk_dropNumbersOutsideEdges_38 (by decide) ?_
    refine hc_icmp_ne (x := f (sz - 1)) (y := 46) (c9 := 46) hx hb (by decide) (tgt := 58) d_bk_dropNumbersOutsideEdges_40 (by decide) (fun h40 => ?_) (fun h40 => ?_)
    · skip
      have q1 : f 0 = 46 ↔ (f 0).toInt = 46 := eq46_iff
      have q2 : f (sz - 1) = 46 ↔ (f (sz - 1)).toInt = 46 := eq46_iff
      exact hm_vret E hr hlk hH (⟨rfl, by unfold drp; rw [if_neg (by omega)]; first | (rw [if_pos (q2.mpr h40), if_pos (q1.mpr h10)]; exact hw) | (rw [if_pos (q2.mpr h40), if_neg (fun z => h10 (q1.mp z))]; exact hw) | (rw [if_neg (fun z => h40 (q2.mp z)), if_pos (q1.mpr h10)]; exact hw) | (rw [if_neg (fun z => h40 (q2.mp z)), if_neg (fun z => h10 (q1.mp z))]; exact hw), hk⟩) (by omega) (by omega) d_bk_dropNumbersOutsideEdges_58
    · skip
      refine lv_aload_n hx hb d_bk_dropNumbersOutsideEdges_43 rfl (lv_at hl 0 rfl) ?_
      refine hm_get E (tB in_bk) hK hH (hw.at 0 rfl) rfl 6 (by decide) (tC wm_79) rfl d_bk_dropNumbersOutsideEdges_44 ?_
      refine lv_aload_n hx hb d_bk_dropNumbersOutsideEdges_47 rfl (lv_at hl 0 rfl) ?_
      refine hm_get E (tB in_bk) hK hH (hw.at 0 rfl) rfl 6 (by decide) (tC wm_79) rfl d_bk_dropNumbersOutsideEdges_48 ?_
      have hM1 := c_rw_size l G rr rsg rnm sz M (hw.sub (ws' := [(rr, .inr (1, [.ref rsg, .ref rnm, .int (nI sz)]))]) [1] rfl rfl) H.size
      have hG1 : GoodIn w_bk_dropNumbersOutsideEdges (wsV R_bk 126 R_rw y_rw_size w_rw_size) := gB_V wm_114 wm_115 wm_116 wm_4 wm_117
      refine hm_call (va_runV (y := y_rw_size) (bytes := b_rw_size) (maxL := 1) (ws := w_rw_size) (rm := { frames := 0, cells := 0, slots := 0, locals := 0 }) (own := R_bk) (index := 126) (ret := (Option.some Jvm.ClassFile.FieldType.int)) (C := R_rw) (As := []) (rest := [.ref rr]) E hM1 (cwV (y := y_rw_size) (bytes := b_rw_size) (maxL := 1) (ws := w_rw_size) (rm := { frames := 0, cells := 0, slots := 0, locals := 0 }) (own := R_bk) (index := 126) (ret := (Option.some Jvm.ClassFile.FieldType.int)) (C := R_rw) 0 hts hG1 rfl rfl rfl (by decide +kernel) ⟨Nat.le_of_ble_eq_true rfl, Nat.le_of_ble_eq_true rfl⟩) (hm_preV gk_w gk_s hH hg hK (hw.at 1 rfl) rfl []) rfl rfl hl.1 rfl (lv_room (Nat.le_of_ble_eq_true rfl)) d_bk_dropNumbersOutsideEdges_51 ⟨(by show _ ≤ 0; omega), (by show _ ≤ 0; omega)⟩) hH (fun r1 M1 H1 locs1 hq1 hH1 => ?_)
      obtain ⟨rfl, e1⟩ := hq1
      replace hH := hH1; rw [e1] at hH; clear hH1 e1; generalize H1 = H at hH ⊢; generalize locs1 = locs at hH ⊢
      refine lv_iconst (v := 0) hx hb d_bk_dropNumbersOutsideEdges_54 (by decide) ?_
      have hM1 := c_rw_setNumber l G rr rsg rnm sz (upd g 0 0) sz 0 M (hw.sub (ws' := [(rr, .inr (1, [.ref rsg, .ref rnm, .int (nI sz)])), (rnm, aI G 66 (upd g 0 0))]) [1, 3] rfl rfl) (by omega) H.size
      have hG1 : GoodIn w_bk_dropNumbersOutsideEdges (wsV R_bk 129 R_rw y_rw_setNumber w_rw_setNumber) := gB_V wm_164 wm_165 wm_166 wm_4 wm_167
      refine hm_call (va_runV (y := y_rw_setNumber) (bytes := b_rw_setNumber) (maxL := 3) (ws := w_rw_setNumber) (rm := { frames := 0, cells := 0, slots := 0, locals := 0 }) (own := R_bk) (index := 129) (ret := (Option.none : Option Jvm.ClassFile.FieldType)) (C := R_rw) (As := [.int (nI sz), .int 0]) (rest := []) E hM1 (cwV (y := y_rw_setNumber) (bytes := b_rw_setNumber) (maxL := 3) (ws := w_rw_setNumber) (rm := { frames := 0, cells := 0, slots := 0, locals := 0 }) (own := R_bk) (index := 129) (ret := (Option.none : Option Jvm.ClassFile.FieldType)) (C := R_rw) 2 hts hG1 rfl rfl rfl (by decide +kernel) ⟨Nat.le_of_ble_eq_true rfl, Nat.le_of_ble_eq_true rfl⟩) (hm_preV gk_w gk_s hH hg hK (hw.at 1 rfl) rfl [.int (nI sz), .int 0]) rfl rfl hl.1 rfl (lv_room (Nat.le_of_ble_eq_true rfl)) d_bk_dropNumbersOutsideEdges_55 ⟨(by show _ ≤ 0; omega), (by show _ ≤ 0; omega)⟩) hH (fun r1 M1 H1 locs1 hq1 hH1 => ?_)
      replace hH := hH1; clear hH1; generalize H1 = H at hH ⊢; generalize locs1 = locs at hH ⊢
      obtain ⟨rfl, hw1, hk1⟩ := hq1
      have hw := hm_join (ws' := [(x, .inr (3, [.ref d, .int (nI dn), .int (nI lf), .int (nI rt), .ref pt, .ref xt, .ref rr, .ref ar])), (rr, .inr (1, [.ref rsg, .ref rnm, .int (nI sz)])), (rsg, aI G 65 f), (rnm, aI G 66 (upd (upd g 0 0) sz 0))]) (wc := [(rr, .inr (1, [.ref rsg, .ref rnm, .int (nI sz)])), (rnm, aI G 66 (upd g 0 0))]) hw hw1 hk1 [1, 3] rfl rfl (fun a h => by simp at h; simp [h]) rfl (by
        intro k9 h9
        match k9, h9 with
        | 0, _ => exact Or.inl ⟨by decide, rfl⟩
        | 1, _ => exact Or.inr ⟨0, rfl, rfl⟩
        | 2, _ => exact Or.inl ⟨by decide, rfl⟩
        | 3, _ => exact Or.inr ⟨1, rfl, rfl⟩
        | k9 + 4, h9 => exact absurd h9 (Nat.not_lt_of_le (Nat.le_add_left _ _)))
      have hk := hk.tr hk1 (fun _ h => h)
      generalize M1 = M at hH hw hk
      have q1 : f 0 = 46 ↔ (f 0).toInt = 46 := eq46_iff
      have q2 : f (sz - 1) = 46 ↔ (f (sz - 1)).toInt = 46 := eq46_iff
      exact hm_vret E hr hlk hH (⟨rfl, by unfold drp; rw [if_neg (by omega)]; first | (rw [if_pos (q2.mpr h40), if_pos (q1.mpr h10)]; exact hw) | (rw [if_pos (q2.mpr h40), if_neg (fun z => h10 (q1.mp z))]; exact hw) | (rw [if_neg (fun z => h40 (q2.mp z)), if_pos (q1.mpr h10)]; exact hw) | (rw [if_neg (fun z => h40 (q2.mp z)), if_neg (fun z => h10 (q1.mp z))]; exact hw), hk⟩) (by omega) (by omega) d_bk_dropNumbersOutsideEdges_58

abbrev q_bk_drop0 (G : hG) (x d dn lf rt pt xt rr ar : Nat) (rsg rnm sz : Nat) (f g : Nat → Int32) (M : hM) : Option Value → hM → Prop := fun rv M' => rv = none ∧ hm_has M' [(x, .inr (3, [.ref d, .int (nI dn), .int (nI lf), .int (nI rt), .ref pt, .ref xt, .ref rr, .ref ar])), (rr, .inr (1, [.ref rsg, .ref rnm, .int (nI sz)])), (rsg, aI G 65 f), (rnm, aI G 66 (drp f sz g))] ∧ hm_kp (fun a => a ∈ [rnm]) M M'
set_option maxHeartbeats 4000000 in
set_option maxRecDepth 100000 in
theorem c_bk_drop0 (l : Launch) (G : hG) (x d dn lf rt pt xt rr ar : Nat) (rsg rnm sz : Nat) (f g : Nat → Int32) (M : hM) (hw : hm_has M [(x, .inr (3, [.ref d, .int (nI dn), .int (nI lf), .int (nI rt), .ref pt, .ref xt, .ref rr, .ref ar])), (rr, .inr (1, [.ref rsg, .ref rnm, .int (nI sz)])), (rsg, aI G 65 f), (rnm, aI G 66 g)]) (hs0 : sz = 0) : Ct (gk G) l G.1 vwC y_bk_dropNumbersOutsideEdges w_bk_dropNumbersOutsideEdges { frames := 2, cells := 0, slots := 0, locals := 42 } ([.ref x] : List Value) M (q_bk_drop0 G x d dn lf rt pt xt rr ar rsg rnm sz f g M) 0 0 := by
  refine Ct.ofW (cc := b_bk_dropNumbersOutsideEdges) (maxL := 1) (ret := (Option.none : Option Jvm.ClassFile.FieldType)) (by decide) rfl (Nat.le_of_ble_eq_true rfl) (fun p e s m below meth c A ls E hr hlk hin hg hH hl => ?_)
  have hl : lv_has ls 1 [(0, .ref x)] := hl
  have hx := E.1; have hb := E.2.1; have hml := E.2.2.1; have hown := E.2.2.2.1; have hts := E.2.2.2.2; have hK := hg.1
  obtain ⟨M0, hM0⟩ : ∃ M0 : hM, M0 = M := ⟨M, rfl⟩
  rw [show q_bk_drop0 G x d dn lf rt pt xt rr ar rsg rnm sz f g M = q_bk_drop0 G x d dn lf rt pt xt rr ar rsg rnm sz f g M0 by rw [hM0]]
  have hk : hm_kp (fun a => a ∈ [rnm]) M0 M := by rw [hM0]; exact hm_kp.rf
  refine lv_aload_n hx hb d_bk_dropNumbersOutsideEdges_0 rfl (lv_at hl 0 rfl) ?_
  refine hm_get E (tB in_bk) hK hH (hw.at 0 rfl) rfl 6 (by decide) (tC wm_79) rfl d_bk_dropNumbersOutsideEdges_1 ?_
  refine lv_iconst (v := 0) hx hb d_bk_dropNumbersOutsideEdges_4 (by decide) ?_
  have hM1 := c_rw_signAt l G rr rsg rnm sz f 0 M (hw.sub (ws' := [(rr, .inr (1, [.ref rsg, .ref rnm, .int (nI sz)])), (rsg, aI G 65 f)]) [1, 2] rfl rfl) (by omega) (by omega) s.heap.size
  have hG1 : GoodIn w_bk_dropNumbersOutsideEdges (wsV R_bk 145 R_rw y_rw_signAt w_rw_signAt) := gB_V wm_179 wm_180 wm_181 wm_4 wm_182
  refine hm_call (va_runV (y := y_rw_signAt) (bytes := b_rw_signAt) (maxL := 2) (ws := w_rw_signAt) (rm := { frames := 1, cells := 0, slots := 0, locals := 21 }) (own := R_bk) (index := 145) (ret := (Option.some Jvm.ClassFile.FieldType.int)) (C := R_rw) (As := [.int 0]) (rest := []) E hM1 (cwV (y := y_rw_signAt) (bytes := b_rw_signAt) (maxL := 2) (ws := w_rw_signAt) (rm := { frames := 1, cells := 0, slots := 0, locals := 21 }) (own := R_bk) (index := 145) (ret := (Option.some Jvm.ClassFile.FieldType.int)) (C := R_rw) 1 hts hG1 rfl rfl rfl (by decide +kernel) ⟨Nat.le_of_ble_eq_true rfl, Nat.le_of_ble_eq_true rfl⟩) (hm_preV gk_w gk_s hH hg hK (hw.at 1 rfl) rfl [.int 0]) rfl rfl hl.1 rfl (lv_room (Nat.le_of_ble_eq_true rfl)) d_bk_dropNumbersOutsideEdges_5 ⟨(by show _ ≤ 0; omega), (by show _ ≤ 0; omega)⟩) hH (fun r1 M1 H1 locs1 hq1 hH1 => ?_)
  obtain ⟨rfl, e1⟩ := hq1
  replace hH := hH1; rw [e1] at hH; clear hH1 e1; generalize H1 = H at hH ⊢; generalize locs1 = locs at hH ⊢
  refine hm_top (w := .int 0) (by rw [if_neg (by omega)]) ?_
  refine lv_bipush (v := 46) hx hb d_bk_dropNumbersOutsideEdges_8 (by decide) ?_
  refine hc_icmp_ne (x := 0) (y := 46) (c9 := 46) hx hb (by decide) (tgt := 22) d_bk_dropNumbersOutsideEdges_10 (by decide) (fun h10 => ?_) (fun h10 => ?_)
  · skip
    refine lv_aload_n hx hb d_bk_dropNumbersOutsideEdges_22 rfl (lv_at hl 0 rfl) ?_
    refine hm_get E (tB in_bk) hK hH (hw.at 0 rfl) rfl 6 (by decide) (tC wm_79) rfl d_bk_dropNumbersOutsideEdges_23 ?_
    refine lv_aload_n hx hb d_bk_dropNumbersOutsideEdges_26 rfl (lv_at hl 0 rfl) ?_
    refine hm_get E (tB in_bk) hK hH (hw.at 0 rfl) rfl 6 (by decide) (tC wm_79) rfl d_bk_dropNumbersOutsideEdges_27 ?_
    have hM1 := c_rw_size l G rr rsg rnm sz M (hw.sub (ws' := [(rr, .inr (1, [.ref rsg, .ref rnm, .int (nI sz)]))]) [1] rfl rfl) H.size
    have hG1 : GoodIn w_bk_dropNumbersOutsideEdges (wsV R_bk 126 R_rw y_rw_size w_rw_size) := gB_V wm_114 wm_115 wm_116 wm_4 wm_117
    refine hm_call (va_runV (y := y_rw_size) (bytes := b_rw_size) (maxL := 1) (ws := w_rw_size) (rm := { frames := 0, cells := 0, slots := 0, locals := 0 }) (own := R_bk) (index := 126) (ret := (Option.some Jvm.ClassFile.FieldType.int)) (C := R_rw) (As := []) (rest := [.ref rr]) E hM1 (cwV (y := y_rw_size) (bytes := b_rw_size) (maxL := 1) (ws := w_rw_size) (rm := { frames := 0, cells := 0, slots := 0, locals := 0 }) (own := R_bk) (index := 126) (ret := (Option.some Jvm.ClassFile.FieldType.int)) (C := R_rw) 0 hts hG1 rfl rfl rfl (by decide +kernel) ⟨Nat.le_of_ble_eq_true rfl, Nat.le_of_ble_eq_true rfl⟩) (hm_preV gk_w gk_s hH hg hK (hw.at 1 rfl) rfl []) rfl rfl hl.1 rfl (lv_room (Nat.le_of_ble_eq_true rfl)) d_bk_dropNumbersOutsideEdges_30 ⟨(by show _ ≤ 0; omega), (by show _ ≤ 0; omega)⟩) hH (fun r1 M1 H1 locs1 hq1 hH1 => ?_)
    obtain ⟨rfl, e1⟩ := hq1
    replace hH := hH1; rw [e1] at hH; clear hH1 e1; generalize H1 = H at hH ⊢; generalize locs1 = locs at hH ⊢
    refine lv_iconst (v := 1) hx hb d_bk_dropNumbersOutsideEdges_33 (by decide) ?_
    refine lv_isub hx hb d_bk_dropNumbersOutsideEdges_34 ?_
    refine hm_top (w := .int (-1)) (by rw [hs0]; decide) ?_
    have hM1 := c_rw_signAtN l G rr rsg rnm sz f (-1) M (hw.sub (ws' := [(rr, .inr (1, [.ref rsg, .ref rnm, .int (nI sz)])), (rsg, aI G 65 f)]) [1, 2] rfl rfl) (by omega) (by decide) H.size
    have hG1 : GoodIn w_bk_dropNumbersOutsideEdges (wsV R_bk 145 R_rw y_rw_signAt w_rw_signAt) := gB_V wm_179 wm_180 wm_181 wm_4 wm_182
    refine hm_call (va_runV (y := y_rw_signAt) (bytes := b_rw_signAt) (maxL := 2) (ws := w_rw_signAt) (rm := { frames := 1, cells := 0, slots := 0, locals := 21 }) (own := R_bk) (index := 145) (ret := (Option.some Jvm.ClassFile.FieldType.int)) (C := R_rw) (As := [.int (-1)]) (rest := []) E hM1 (cwV (y := y_rw_signAt) (bytes := b_rw_signAt) (maxL := 2) (ws := w_rw_signAt) (rm := { frames := 1, cells := 0, slots := 0, locals := 21 }) (own := R_bk) (index := 145) (ret := (Option.some Jvm.ClassFile.FieldType.int)) (C := R_rw) 1 hts hG1 rfl rfl rfl (by decide +kernel) ⟨Nat.le_of_ble_eq_true rfl, Nat.le_of_ble_eq_true rfl⟩) (hm_preV gk_w gk_s hH hg hK (hw.at 1 rfl) rfl [.int (-1)]) rfl rfl hl.1 rfl (lv_room (Nat.le_of_ble_eq_true rfl)) d_bk_dropNumbersOutsideEdges_35 ⟨(by show _ ≤ 0; omega), (by show _ ≤ 0; omega)⟩) hH (fun r1 M1 H1 locs1 hq1 hH1 => ?_)
    obtain ⟨rfl, e1⟩ := hq1
    replace hH := hH1; rw [e1] at hH; clear hH1 e1; generalize H1 = H at hH ⊢; generalize locs1 = locs at hH ⊢
    refine lv_bipush (v := 46) hx hb d_bk_dropNumbersOutsideEdges_38 (by decide) ?_
    refine hc_icmp_ne (x := 0) (y := 46) (c9 := 46) hx hb (by decide) (tgt := 58) d_bk_dropNumbersOutsideEdges_40 (by decide) (fun h40 => ?_) (fun h40 => ?_)
    · skip
      exact hm_vret E hr hlk hH (⟨rfl, by unfold drp; rw [if_pos hs0]; exact hw, hk⟩) (by omega) (by omega) d_bk_dropNumbersOutsideEdges_58
    · skip
      rw [k_0] at h40; omega
  · skip
    rw [k_0] at h10; omega

theorem c_bk_drop (l : Launch) (G : hG) (x d dn lf rt pt xt rr ar : Nat) (rsg rnm sz : Nat) (f g : Nat → Int32) (M : hM) (hw : hm_has M [(x, .inr (3, [.ref d, .int (nI dn), .int (nI lf), .int (nI rt), .ref pt, .ref xt, .ref rr, .ref ar])), (rr, .inr (1, [.ref rsg, .ref rnm, .int (nI sz)])), (rsg, aI G 65 f), (rnm, aI G 66 g)]) (hsz : sz ≤ 65) : Ct (gk G) l G.1 vwC y_bk_dropNumbersOutsideEdges w_bk_dropNumbersOutsideEdges { frames := 2, cells := 0, slots := 0, locals := 42 } ([.ref x] : List Value) M (q_bk_drop1 G x d dn lf rt pt xt rr ar rsg rnm sz f g M) 0 0 := by
  rcases Nat.eq_zero_or_pos sz with h | h
  · exact c_bk_drop0 l G x d dn lf rt pt xt rr ar rsg rnm sz f g M hw h
  · exact c_bk_drop1 l G x d dn lf rt pt xt rr ar rsg rnm sz f g M hw hsz h

abbrev q_bk_signsReadMakeAPattern (G : hG) (x d dn lf rt pt xt rr ar : Nat) (rsg rnm sz : Nat) (f : Nat → Int32) (M : hM) : Option Value → hM → Prop := fun rv M' => ∃ b : Bool, rv = some (.int (bI b)) ∧ (b = true ↔ (∀ j, j < sz → f j = 46 → j = 0 ∨ j + 1 = sz) ∧ 1 ≤ sgl f sz ∧ sgl f sz ≤ 63) ∧ M' = M
set_option maxHeartbeats 4000000 in
set_option maxRecDepth 100000 in
theorem c_bk_signsReadMakeAPattern (l : Launch) (G : hG) (x d dn lf rt pt xt rr ar : Nat) (rsg rnm sz : Nat) (f : Nat → Int32) (M : hM) (hw : hm_has M [(x, .inr (3, [.ref d, .int (nI dn), .int (nI lf), .int (nI rt), .ref pt, .ref xt, .ref rr, .ref ar])), (rr, .inr (1, [.ref rsg, .ref rnm, .int (nI sz)])), (rsg, aI G 65 f)]) (hsz : sz ≤ 65) : Ct (gk G) l G.1 vwC y_bk_signsReadMakeAPattern w_bk_signsReadMakeAPattern { frames := 2, cells := 0, slots := 0, locals := 42 } ([.ref x] : List Value) M (q_bk_signsReadMakeAPattern G x d dn lf rt pt xt rr ar rsg rnm sz f M) 0 0 := by
  refine Ct.ofW (cc := b_bk_signsReadMakeAPattern) (maxL := 3) (ret := (Option.some Jvm.ClassFile.FieldType.boolean)) (by decide) rfl (Nat.le_of_ble_eq_true rfl) (fun p e s m below meth c A ls E hr hlk hin hg hH hl => ?_)
  have hl : lv_has ls 3 [(0, .ref x)] := hl
  have hx := E.1; have hb := E.2.1; have hml := E.2.2.1; have hown := E.2.2.2.1; have hts := E.2.2.2.2; have hK := hg.1
  obtain ⟨M0, hM0⟩ : ∃ M0 : hM, M0 = M := ⟨M, rfl⟩
  rw [show q_bk_signsReadMakeAPattern G x d dn lf rt pt xt rr ar rsg rnm sz f M = q_bk_signsReadMakeAPattern G x d dn lf rt pt xt rr ar rsg rnm sz f M0 by rw [hM0]]
  have L4 : ∀ (k : Nat) (i : Nat) (H : Heap) (locs : List Loc) (ls : Array Slot), sz + 1 ≤ i + k → i ≤ sz → (∀ j, j < i → f j = 46 → j = 0 ∨ j + 1 = sz) → hm_I G.1 vwC A s.heap M H locs → lv_has ls 3 [(2, .int (nI i)), (1, .int (nI (sgl f i))), (0, .ref x)] → W p l e { frames := 2, cells := 0, slots := 0, locals := 42 } s m ([.ref x] : List Value).toArray below meth c H locs 0 0 (MQ below (hm_Q G.1 vwC (q_bk_signsReadMakeAPattern G x d dn lf rt pt xt rr ar rsg rnm sz f M0) A) ([.ref x] : List Value).toArray s 0 0 A) (F0 m 4 ls []) := by
    intro k
    induction k with
    | zero => intro i H locs ls hfu hi hed; exact absurd hfu (by omega)
    | succ k ih =>
      intro i H locs ls hfu hi hed hH hl
      refine lv_iload_n hx hb d_bk_signsReadMakeAPattern_4 rfl (lv_at hl 0 rfl) ?_
      refine lv_aload_n hx hb d_bk_signsReadMakeAPattern_5 rfl (lv_at hl 2 rfl) ?_
      refine hm_get E (tB in_bk) hK hH (hw.at 0 rfl) rfl 6 (by decide) (tC wm_79) rfl d_bk_signsReadMakeAPattern_6 ?_
      have hM1 := c_rw_size l G rr rsg rnm sz M (hw.sub (ws' := [(rr, .inr (1, [.ref rsg, .ref rnm, .int (nI sz)]))]) [1] rfl rfl) H.size
      have hG1 : GoodIn w_bk_signsReadMakeAPattern (wsV R_bk 126 R_rw y_rw_size w_rw_size) := gB_V wm_114 wm_115 wm_116 wm_4 wm_117
      refine hm_call (va_runV (y := y_rw_size) (bytes := b_rw_size) (maxL := 1) (ws := w_rw_size) (rm := { frames := 0, cells := 0, slots := 0, locals := 0 }) (own := R_bk) (index := 126) (ret := (Option.some Jvm.ClassFile.FieldType.int)) (C := R_rw) (As := []) (rest := [.int (nI i)]) E hM1 (cwV (y := y_rw_size) (bytes := b_rw_size) (maxL := 1) (ws := w_rw_size) (rm := { frames := 0, cells := 0, slots := 0, locals := 0 }) (own := R_bk) (index := 126) (ret := (Option.some Jvm.ClassFile.FieldType.int)) (C := R_rw) 0 hts hG1 rfl rfl rfl (by decide +kernel) ⟨Nat.le_of_ble_eq_true rfl, Nat.le_of_ble_eq_true rfl⟩) (hm_preV gk_w gk_s hH hg hK (hw.at 1 rfl) rfl []) rfl rfl hl.1 rfl (lv_room (Nat.le_of_ble_eq_true rfl)) d_bk_signsReadMakeAPattern_9 ⟨(by show _ ≤ 0; omega), (by show _ ≤ 0; omega)⟩) hH (fun r1 M1 H1 locs1 hq1 hH1 => ?_)
      obtain ⟨rfl, e1⟩ := hq1
      replace hH := hH1; rw [e1] at hH; clear hH1 e1; generalize H1 = H at hH ⊢; generalize locs1 = locs at hH ⊢
      refine hn_icmp_ge (a := i) (b := sz) hx hb (by omega) (by omega) (tgt := 59) d_bk_signsReadMakeAPattern_12 (by decide) (fun h12 => ?_) (fun h12 => ?_)
      · skip
        have hle := sgl_le f i
        have hie : i = sz := by omega
        refine lv_iload_n hx hb d_bk_signsReadMakeAPattern_59 rfl (lv_at hl 1 rfl) ?_
        refine lv_iconst (v := 1) hx hb d_bk_signsReadMakeAPattern_60 (by decide) ?_
        refine hn_icmp_lt (a := sgl f i) (b := 1) hx hb (by omega) (by omega) (tgt := 74) d_bk_signsReadMakeAPattern_61 (by decide) (fun h61 => ?_) (fun h61 => ?_)
        · skip
          refine lv_iconst (v := 0) hx hb d_bk_signsReadMakeAPattern_74 (by decide) ?_
          rw [hie] at h61 hed
          try rw [hie] at h67
          exact hm_zret E hr hlk hH (by decide) (by first | exact ⟨true, rfl, ⟨fun _ => ⟨hed, by omega, by omega⟩, fun _ => rfl⟩, hM0.symm⟩ | exact ⟨false, rfl, ⟨fun z => (by cases z), fun z => (by omega)⟩, hM0.symm⟩) (by omega) (by omega) d_bk_signsReadMakeAPattern_75
        · skip
          refine lv_iload_n hx hb d_bk_signsReadMakeAPattern_64 rfl (lv_at hl 1 rfl) ?_
          refine lv_bipush (v := 63) hx hb d_bk_signsReadMakeAPattern_65 (by decide) ?_
          refine hn_icmp_gt (a := sgl f i) (b := 63) hx hb (by omega) (by omega) (tgt := 74) d_bk_signsReadMakeAPattern_67 (by decide) (fun h67 => ?_) (fun h67 => ?_)
          · skip
            refine lv_iconst (v := 0) hx hb d_bk_signsReadMakeAPattern_74 (by decide) ?_
            rw [hie] at h61 hed
            try rw [hie] at h67
            exact hm_zret E hr hlk hH (by decide) (by first | exact ⟨true, rfl, ⟨fun _ => ⟨hed, by omega, by omega⟩, fun _ => rfl⟩, hM0.symm⟩ | exact ⟨false, rfl, ⟨fun z => (by cases z), fun z => (by omega)⟩, hM0.symm⟩) (by omega) (by omega) d_bk_signsReadMakeAPattern_75
          · skip
            refine lv_iconst (v := 1) hx hb d_bk_signsReadMakeAPattern_70 (by decide) ?_
            refine lv_goto (tgt := 75) hx hb d_bk_signsReadMakeAPattern_71 (by decide) ?_
            rw [hie] at h61 hed
            try rw [hie] at h67
            exact hm_zret E hr hlk hH (by decide) (by first | exact ⟨true, rfl, ⟨fun _ => ⟨hed, by omega, by omega⟩, fun _ => rfl⟩, hM0.symm⟩ | exact ⟨false, rfl, ⟨fun z => (by cases z), fun z => (by omega)⟩, hM0.symm⟩) (by omega) (by omega) d_bk_signsReadMakeAPattern_75
      · skip
        refine lv_aload_n hx hb d_bk_signsReadMakeAPattern_15 rfl (lv_at hl 2 rfl) ?_
        refine hm_get E (tB in_bk) hK hH (hw.at 0 rfl) rfl 6 (by decide) (tC wm_79) rfl d_bk_signsReadMakeAPattern_16 ?_
        refine lv_iload_n hx hb d_bk_signsReadMakeAPattern_19 rfl (lv_at hl 0 rfl) ?_
        have hM1 := c_rw_signAt l G rr rsg rnm sz f i M (hw.sub (ws' := [(rr, .inr (1, [.ref rsg, .ref rnm, .int (nI sz)])), (rsg, aI G 65 f)]) [1, 2] rfl rfl) (by omega) (by omega) H.size
        have hG1 : GoodIn w_bk_signsReadMakeAPattern (wsV R_bk 145 R_rw y_rw_signAt w_rw_signAt) := gB_V wm_179 wm_180 wm_181 wm_4 wm_182
        refine hm_call (va_runV (y := y_rw_signAt) (bytes := b_rw_signAt) (maxL := 2) (ws := w_rw_signAt) (rm := { frames := 1, cells := 0, slots := 0, locals := 21 }) (own := R_bk) (index := 145) (ret := (Option.some Jvm.ClassFile.FieldType.int)) (C := R_rw) (As := [.int (nI i)]) (rest := []) E hM1 (cwV (y := y_rw_signAt) (bytes := b_rw_signAt) (maxL := 2) (ws := w_rw_signAt) (rm := { frames := 1, cells := 0, slots := 0, locals := 21 }) (own := R_bk) (index := 145) (ret := (Option.some Jvm.ClassFile.FieldType.int)) (C := R_rw) 1 hts hG1 rfl rfl rfl (by decide +kernel) ⟨Nat.le_of_ble_eq_true rfl, Nat.le_of_ble_eq_true rfl⟩) (hm_preV gk_w gk_s hH hg hK (hw.at 1 rfl) rfl [.int (nI i)]) rfl rfl hl.1 rfl (lv_room (Nat.le_of_ble_eq_true rfl)) d_bk_signsReadMakeAPattern_20 ⟨(by show _ ≤ 0; omega), (by show _ ≤ 0; omega)⟩) hH (fun r1 M1 H1 locs1 hq1 hH1 => ?_)
        obtain ⟨rfl, e1⟩ := hq1
        replace hH := hH1; rw [e1] at hH; clear hH1 e1; generalize H1 = H at hH ⊢; generalize locs1 = locs at hH ⊢
        refine hm_top (w := .int (f i)) (by rw [if_pos (by omega)]) ?_
        refine lv_bipush (v := 46) hx hb d_bk_signsReadMakeAPattern_23 (by decide) ?_
        refine hc_icmp_eq (x := f i) (y := 46) (c9 := 46) hx hb (by decide) (tgt := 34) d_bk_signsReadMakeAPattern_25 (by decide) (fun h25 => ?_) (fun h25 => ?_)
        · skip
          refine lv_iload_n hx hb d_bk_signsReadMakeAPattern_34 rfl (lv_at hl 0 rfl) ?_
          refine hn_if_eq (a := i) hx hb (by omega) (tgt := 53) d_bk_signsReadMakeAPattern_35 (by decide) (fun h35 => ?_) (fun h35 => ?_)
          · skip
            refine lv_iinc (v := nI (i + 1)) (lv' := [(2, .int (nI (i + 1))), (1, .int (nI (sgl f i))), (0, .ref x)]) hx hb d_bk_signsReadMakeAPattern_53 hl (k := 0) rfl (by first | exact nI_add _ 1 | (show nI _ + nI _ = _; rw [nI_add])) (by decide) rfl (fun ls hl => ?_)
            refine lv_goto (tgt := 4) hx hb d_bk_signsReadMakeAPattern_56 (by decide) ?_
            exact ih (i + 1) _ _ _ (by omega) (by omega) (lt_46y hed (by omega)) hH (lv_sub (sgl_hl hl (sgl_y (eq46_iff.mpr h25))) [0, 1, 2] rfl)
          · skip
            refine lv_iload_n hx hb d_bk_signsReadMakeAPattern_38 rfl (lv_at hl 0 rfl) ?_
            refine lv_aload_n hx hb d_bk_signsReadMakeAPattern_39 rfl (lv_at hl 2 rfl) ?_
            refine hm_get E (tB in_bk) hK hH (hw.at 0 rfl) rfl 6 (by decide) (tC wm_79) rfl d_bk_signsReadMakeAPattern_40 ?_
            have hM1 := c_rw_size l G rr rsg rnm sz M (hw.sub (ws' := [(rr, .inr (1, [.ref rsg, .ref rnm, .int (nI sz)]))]) [1] rfl rfl) H.size
            have hG1 : GoodIn w_bk_signsReadMakeAPattern (wsV R_bk 126 R_rw y_rw_size w_rw_size) := gB_V wm_114 wm_115 wm_116 wm_4 wm_117
            refine hm_call (va_runV (y := y_rw_size) (bytes := b_rw_size) (maxL := 1) (ws := w_rw_size) (rm := { frames := 0, cells := 0, slots := 0, locals := 0 }) (own := R_bk) (index := 126) (ret := (Option.some Jvm.ClassFile.FieldType.int)) (C := R_rw) (As := []) (rest := [.int (nI i)]) E hM1 (cwV (y := y_rw_size) (bytes := b_rw_size) (maxL := 1) (ws := w_rw_size) (rm := { frames := 0, cells := 0, slots := 0, locals := 0 }) (own := R_bk) (index := 126) (ret := (Option.some Jvm.ClassFile.FieldType.int)) (C := R_rw) 0 hts hG1 rfl rfl rfl (by decide +kernel) ⟨Nat.le_of_ble_eq_true rfl, Nat.le_of_ble_eq_true rfl⟩) (hm_preV gk_w gk_s hH hg hK (hw.at 1 rfl) rfl []) rfl rfl hl.1 rfl (lv_room (Nat.le_of_ble_eq_true rfl)) d_bk_signsReadMakeAPattern_43 ⟨(by show _ ≤ 0; omega), (by show _ ≤ 0; omega)⟩) hH (fun r1 M1 H1 locs1 hq1 hH1 => ?_)
            obtain ⟨rfl, e1⟩ := hq1
            replace hH := hH1; rw [e1] at hH; clear hH1 e1; generalize H1 = H at hH ⊢; generalize locs1 = locs at hH ⊢
            refine lv_iconst (v := 1) hx hb d_bk_signsReadMakeAPattern_46 (by decide) ?_
            refine hn_isub hx hb (a := sz) (b := 1) (by omega) d_bk_signsReadMakeAPattern_47 ?_
            refine hn_icmp_eq (a := i) (b := sz - 1) hx hb (by omega) (by omega) (tgt := 53) d_bk_signsReadMakeAPattern_48 (by decide) (fun h48 => ?_) (fun h48 => ?_)
            · skip
              refine lv_iinc (v := nI (i + 1)) (lv' := [(2, .int (nI (i + 1))), (1, .int (nI (sgl f i))), (0, .ref x)]) hx hb d_bk_signsReadMakeAPattern_53 hl (k := 0) rfl (by first | exact nI_add _ 1 | (show nI _ + nI _ = _; rw [nI_add])) (by decide) rfl (fun ls hl => ?_)
              refine lv_goto (tgt := 4) hx hb d_bk_signsReadMakeAPattern_56 (by decide) ?_
              exact ih (i + 1) _ _ _ (by omega) (by omega) (lt_46y hed (by omega)) hH (lv_sub (sgl_hl hl (sgl_y (eq46_iff.mpr h25))) [0, 1, 2] rfl)
            · skip
              refine lv_iconst (v := 0) hx hb d_bk_signsReadMakeAPattern_51 (by decide) ?_
              exact hm_zret E hr hlk hH (by decide) (⟨false, rfl, ⟨fun z => (by cases z), fun z => absurd (z.1 i (by omega) (eq46_iff.mpr h25)) (by omega)⟩, hM0.symm⟩) (by omega) (by omega) d_bk_signsReadMakeAPattern_52
        · skip
          refine lv_iinc (v := nI (sgl f i + 1)) (lv' := [(1, .int (nI (sgl f i + 1))), (2, .int (nI i)), (0, .ref x)]) hx hb d_bk_signsReadMakeAPattern_28 hl (k := 1) rfl (by first | exact nI_add _ 1 | (show nI _ + nI _ = _; rw [nI_add])) (by decide) rfl (fun ls hl => ?_)
          refine lv_goto (tgt := 53) hx hb d_bk_signsReadMakeAPattern_31 (by decide) ?_
          refine lv_iinc (v := nI (i + 1)) (lv' := [(2, .int (nI (i + 1))), (1, .int (nI (sgl f i + 1))), (0, .ref x)]) hx hb d_bk_signsReadMakeAPattern_53 hl (k := 1) rfl (by first | exact nI_add _ 1 | (show nI _ + nI _ = _; rw [nI_add])) (by decide) rfl (fun ls hl => ?_)
          refine lv_goto (tgt := 4) hx hb d_bk_signsReadMakeAPattern_56 (by decide) ?_
          exact ih (i + 1) _ _ _ (by omega) (by omega) (lt_46n hed (fun z => h25 (eq46_iff.mp z))) hH (lv_sub (sgl_hl hl (sgl_n (fun z => h25 (eq46_iff.mp z)))) [0, 1, 2] rfl)
  refine lv_iconst (v := 0) hx hb d_bk_signsReadMakeAPattern_0 (by decide) ?_
  refine lv_istore_n (lv' := [(1, .int 0), (0, .ref x)]) hx hb d_bk_signsReadMakeAPattern_1 rfl hl (by decide) rfl (fun ls hl => ?_)
  refine lv_iconst (v := 0) hx hb d_bk_signsReadMakeAPattern_2 (by decide) ?_
  refine lv_istore_n (lv' := [(2, .int 0), (1, .int 0), (0, .ref x)]) hx hb d_bk_signsReadMakeAPattern_3 rfl hl (by decide) rfl (fun ls hl => ?_)
  exact L4 (sz + 1) 0 _ _ _ (by omega) (by omega) (fun j hj => absurd hj (by omega)) hH (lv_sub hl [0, 1, 2] rfl)
end
section
/-! reading a pattern -/
theorem lv_cv {ls : Array Slot} {n : Nat} {L L' : List (Nat × Value)} (hl : lv_has ls n L) (h : L = L') : lv_has ls n L' := h ▸ hl
theorem ap_ex {G : hG} {r sg nm sz : Nat} {f : Nat → Int32} {v : Int32} {M M' : hM} {rv : Option Value} (h : q_rw_append G r sg nm sz f v M rv M') : ∃ b : Bool, rv = some (.int (bI b)) ∧ (b = true → sz < 65 ∧ hm_has M' [(r, cRw sg nm (sz + 1)), (sg, aI G 65 (upd f sz v))] ∧ hm_kp (fun a => a ∈ [r, sg]) M M') ∧ (b = false → 65 ≤ sz ∧ M' = M) := by
  rcases h with ⟨h1, h2, h3, h4⟩ | ⟨h1, h2, h3⟩
  · exact ⟨true, h2, fun _ => ⟨h1, h3, h4⟩, fun z => (by cases z)⟩
  · exact ⟨false, h2, fun z => (by cases z), fun _ => ⟨h1, h3⟩⟩
theorem sgl_ag {f g : Nat → Int32} {i : Nat} (h : ∀ j, j < i → f j = g j) : sgl f i = sgl g i := by
  induction i with
  | zero => rfl
  | succ i ih => simp only [sgl, h i (by omega), ih (fun j hj => h j (by omega))]
theorem rp_iff {d f : Nat → Int32} {n : Nat} (hf : ∀ j, j < pz d n → f j = psg d n j) (hok : ∀ k, k < n → isL (d k) = true ∨ isDg (d k) = true ∨ d k = 46) (hadj : ∀ k, k + 1 < n → ¬ (isDg (d k) = true ∧ isDg (d (k + 1)) = true)) :
    ((∀ j, j < pz d n → f j = 46 → j = 0 ∨ j + 1 = pz d n) ∧ 1 ≤ sgl f (pz d n) ∧ sgl f (pz d n) ≤ 63) ↔ pOk d n := by
  rw [sgl_ag hf, sgl_psg hok]
  constructor
  · rintro ⟨h1, h2, h3⟩
    exact ⟨hok, hadj, h2, h3, psg_edge.mpr (fun i hi h46 => h1 i hi (by rw [hf i hi]; exact h46))⟩
  · rintro ⟨-, -, h2, h3, h4⟩
    exact ⟨fun j hj h46 => psg_edge.mp h4 j hj (by rw [← hf j hj]; exact h46), h2, h3⟩
theorem rp_drp {d f : Nat → Int32} {n : Nat} (hf : ∀ j, j < pz d n → f j = psg d n j) (h : 1 ≤ pz d n) : drp f (pz d n) (pnm d n) = pN d n := by
  unfold drp pN pN1
  rw [if_neg (by omega), hf 0 (by omega), hf (pz d n - 1) (by omega)]
theorem rp_adj {d : Nat → Int32} {n i : Nat} (hi : i < n) (h1 : isDg (d i) = true) (h2 : bdg d i = true) : ¬ pOk d n := by
  rintro ⟨-, h, -⟩
  simp only [bdg, Bool.and_eq_true, decide_eq_true_eq] at h2
  exact h (i - 1) (by omega) ⟨h2.2, by rw [Nat.sub_add_cancel h2.1]; exact h1⟩
theorem rp_bad {d : Nat → Int32} {n i : Nat} (hi : i < n) (h1 : isDg (d i) = false) (h2 : isL (d i) = false) (h3 : (d i).toInt ≠ 46) : ¬ pOk d n := by
  rintro ⟨h, -⟩
  rcases h i hi with z | z | z
  · rw [h2] at z; cases z
  · rw [h1] at z; cases z
  · exact h3 (eq46_iff.mp z)
theorem rp_long {d : Nat → Int32} {n i : Nat} (hi : i < n) (h1 : isDg (d i) = false) (h2 : 65 ≤ pz d i) : ¬ pOk d n := by
  intro h
  have h3 := (pOk_len h).2
  have h4 : pz d (i + 1) ≤ pz d n := pz_mono hi
  have h5 : pz d (i + 1) = pz d i + 1 := by simp [pz, h1]
  omega
theorem rp_ok {d : Nat → Int32} {i : Nat} {p : Int32 → Prop} (h : ∀ k, k < i → p (d k)) (hi : p (d i)) : ∀ k, k < i + 1 → p (d k) := by
  intro k hk
  by_cases hki : k = i
  · subst hki; exact hi
  · exact h k (by omega)
theorem rp_adjS {d : Nat → Int32} {i : Nat} (h : ∀ k, k + 1 < i → ¬ (isDg (d k) = true ∧ isDg (d (k + 1)) = true)) (hi : bdg d i = false ∨ isDg (d i) = false) : ∀ k, k + 1 < i + 1 → ¬ (isDg (d k) = true ∧ isDg (d (k + 1)) = true) := by
  intro k hk
  by_cases hki : k + 1 = i
  · subst hki
    rintro ⟨z1, z2⟩
    rcases hi with q | q
    · rw [bdg_s, z1] at q; cases q
    · rw [z2] at q; cases q
  · exact h k (by omega)
theorem rp_app {d f : Nat → Int32} {i : Nat} (hf : ∀ j, j < pz d i → f j = psg d i j) (h1 : isDg (d i) = false) : ∀ j, j < pz d (i + 1) → upd f (pz d i) (d i) j = psg d (i + 1) j := by
  intro j hj
  have h5 : pz d (i + 1) = pz d i + 1 := by simp [pz, h1]
  simp only [psg, h1, Bool.false_eq_true, if_false]
  by_cases hji : j = pz d i
  · subst hji; rw [upd_self, upd_self]
  · rw [upd_ne hji, upd_ne hji]; exact hf j (by omega)
end
section
abbrev q_bk_readPattern (G : hG) (x d dn lf rt pt xt rr ar : Nat) (rsg rnm sz : Nat) (f g dr : Nat → Int32) (M : hM) : Option Value → hM → Prop := fun rv M' => ∃ (b : Bool) (sz9 : Nat) (f9 g9 : Nat → Int32), rv = some (.int (bI b)) ∧ (b = true ↔ pOk dr dn) ∧ sz9 ≤ 65 ∧ hm_has M' [(x, .inr (3, [.ref d, .int (nI dn), .int (nI lf), .int (nI rt), .ref pt, .ref xt, .ref rr, .ref ar])), (rr, .inr (1, [.ref rsg, .ref rnm, .int (nI sz9)])), (rsg, aI G 65 f9), (rnm, aI G 66 g9), (d, aI G 200 dr)] ∧ (pOk dr dn → sz9 = pz dr dn ∧ (∀ j, j < sz9 → f9 j = psg dr dn j) ∧ g9 = pN dr dn) ∧ hm_kp (fun a => a ∈ [rr, rsg, rnm]) M M'
set_option maxHeartbeats 4000000 in
set_option maxRecDepth 100000 in
theorem c_bk_readPattern (l : Launch) (G : hG) (x d dn lf rt pt xt rr ar : Nat) (rsg rnm sz : Nat) (f g dr : Nat → Int32) (M : hM) (hw : hm_has M [(x, .inr (3, [.ref d, .int (nI dn), .int (nI lf), .int (nI rt), .ref pt, .ref xt, .ref rr, .ref ar])), (rr, .inr (1, [.ref rsg, .ref rnm, .int (nI sz)])), (rsg, aI G 65 f), (rnm, aI G 66 g), (d, aI G 200 dr)]) (hdn : dn ≤ 200) : Ct (gk G) l G.1 vwC y_bk_readPattern w_bk_readPattern { frames := 3, cells := 0, slots := 0, locals := 64 } ([.ref x] : List Value) M (q_bk_readPattern G x d dn lf rt pt xt rr ar rsg rnm sz f g dr M) 0 0 := by
  refine Ct.ofW (cc := b_bk_readPattern) (maxL := 4) (ret := (Option.some Jvm.ClassFile.FieldType.boolean)) (by decide) rfl (Nat.le_of_ble_eq_true rfl) (fun p e s m below meth c A ls E hr hlk hin hg hH hl => ?_)
  have hl : lv_has ls 4 [(0, .ref x)] := hl
  have hx := E.1; have hb := E.2.1; have hml := E.2.2.1; have hown := E.2.2.2.1; have hts := E.2.2.2.2; have hK := hg.1
  obtain ⟨M0, hM0⟩ : ∃ M0 : hM, M0 = M := ⟨M, rfl⟩
  rw [show q_bk_readPattern G x d dn lf rt pt xt rr ar rsg rnm sz f g dr M = q_bk_readPattern G x d dn lf rt pt xt rr ar rsg rnm sz f g dr M0 by rw [hM0]]
  have hk : hm_kp (fun a => a ∈ [rr, rsg, rnm]) M0 M := by rw [hM0]; exact hm_kp.rf
  have L11 : ∀ (k : Nat) (i : Nat) (f : Nat → Int32) (M : hM) (H : Heap) (locs : List Loc) (ls : Array Slot), dn + 1 ≤ i + k → i ≤ dn → pz dr i ≤ 65 → (∀ j, j < pz dr i → f j = psg dr i j) → (∀ k9, k9 < i → isL (dr k9) = true ∨ isDg (dr k9) = true ∨ dr k9 = 46) → (∀ k9, k9 + 1 < i → ¬ (isDg (dr k9) = true ∧ isDg (dr (k9 + 1)) = true)) → hm_has M [(x, .inr (3, [.ref d, .int (nI dn), .int (nI lf), .int (nI rt), .ref pt, .ref xt, .ref rr, .ref ar])), (rr, .inr (1, [.ref rsg, .ref rnm, .int (nI (pz dr i))])), (rsg, aI G 65 f), (rnm, aI G 66 (pnm dr i)), (d, aI G 200 dr)] → hm_kp (fun a => a ∈ [rr, rsg, rnm]) M0 M → hm_I G.1 vwC A s.heap M H locs → lv_has ls 4 [(2, .int (nI i)), (1, .int (bI (bdg dr i))), (0, .ref x)] → W p l e { frames := 3, cells := 0, slots := 0, locals := 64 } s m ([.ref x] : List Value).toArray below meth c H locs 0 0 (MQ below (hm_Q G.1 vwC (q_bk_readPattern G x d dn lf rt pt xt rr ar rsg rnm sz f g dr M0) A) ([.ref x] : List Value).toArray s 0 0 A) (F0 m 11 ls []) := by
    intro k
    induction k with
    | zero => intro i f M H locs ls hfu hi hp hf hok hadj; exact absurd hfu (by omega)
    | succ k ih =>
      intro i f M H locs ls hfu hi hp hf hok hadj hw hk hH hl
      refine lv_iload_n hx hb d_bk_readPattern_11 rfl (lv_at hl 0 rfl) ?_
      refine lv_aload_n hx hb d_bk_readPattern_12 rfl (lv_at hl 2 rfl) ?_
      refine hm_get E (tB in_bk) hK hH (hw.at 0 rfl) rfl 1 (by decide) (tC wm_74) rfl d_bk_readPattern_13 ?_
      refine hn_icmp_ge (a := i) (b := dn) hx hb (by omega) (by omega) (tgt := 98) d_bk_readPattern_16 (by decide) (fun h16 => ?_) (fun h16 => ?_)
      · skip
        have hie : i = dn := by omega
        rw [hie] at hp hf hok hadj hw
        refine lv_aload_n hx hb d_bk_readPattern_98 rfl (lv_at hl 2 rfl) ?_
        have hM1 := c_bk_drop l G x d dn lf rt pt xt rr ar rsg rnm (pz dr dn) f (pnm dr dn) M (hw.sub (ws' := [(x, .inr (3, [.ref d, .int (nI dn), .int (nI lf), .int (nI rt), .ref pt, .ref xt, .ref rr, .ref ar])), (rr, .inr (1, [.ref rsg, .ref rnm, .int (nI (pz dr dn))])), (rsg, aI G 65 f), (rnm, aI G 66 (pnm dr dn))]) [0, 1, 2, 3] rfl rfl) hp H.size
        have hG1 : GoodIn w_bk_readPattern (wsV R_bk 139 R_bk y_bk_dropNumbersOutsideEdges w_bk_dropNumbersOutsideEdges) := gB_V wm_175 wm_177 wp_2 wm_1 wm_178
        refine hm_call (va_runV (y := y_bk_dropNumbersOutsideEdges) (bytes := b_bk_dropNumbersOutsideEdges) (maxL := 1) (ws := w_bk_dropNumbersOutsideEdges) (rm := { frames := 2, cells := 0, slots := 0, locals := 42 }) (own := R_bk) (index := 139) (ret := (Option.none : Option Jvm.ClassFile.FieldType)) (C := R_bk) (As := []) (rest := []) E hM1 (cwV (y := y_bk_dropNumbersOutsideEdges) (bytes := b_bk_dropNumbersOutsideEdges) (maxL := 1) (ws := w_bk_dropNumbersOutsideEdges) (rm := { frames := 2, cells := 0, slots := 0, locals := 42 }) (own := R_bk) (index := 139) (ret := (Option.none : Option Jvm.ClassFile.FieldType)) (C := R_bk) 0 hts hG1 rfl rfl rfl (by decide +kernel) ⟨Nat.le_of_ble_eq_true rfl, Nat.le_of_ble_eq_true rfl⟩) (hm_preV gk_w gk_s hH hg hK (hw.at 0 rfl) rfl []) rfl rfl hl.1 rfl (lv_room (Nat.le_of_ble_eq_true rfl)) d_bk_readPattern_99 ⟨(by show _ ≤ 0; omega), (by show _ ≤ 0; omega)⟩) hH (fun r1 M1 H1 locs1 hq1 hH1 => ?_)
        replace hH := hH1; clear hH1; generalize H1 = H at hH ⊢; generalize locs1 = locs at hH ⊢
        obtain ⟨rfl, hw1, hk1⟩ := hq1
        have hw := hm_join (ws' := [(x, .inr (3, [.ref d, .int (nI dn), .int (nI lf), .int (nI rt), .ref pt, .ref xt, .ref rr, .ref ar])), (rr, .inr (1, [.ref rsg, .ref rnm, .int (nI (pz dr dn))])), (rsg, aI G 65 f), (rnm, aI G 66 (drp f (pz dr dn) (pnm dr dn))), (d, aI G 200 dr)]) (wc := [(x, .inr (3, [.ref d, .int (nI dn), .int (nI lf), .int (nI rt), .ref pt, .ref xt, .ref rr, .ref ar])), (rr, .inr (1, [.ref rsg, .ref rnm, .int (nI (pz dr dn))])), (rsg, aI G 65 f), (rnm, aI G 66 (pnm dr dn))]) hw hw1 hk1 [0, 1, 2, 3] rfl rfl (fun a h => by simp at h; simp [h]) rfl (by
          intro k9 h9
          match k9, h9 with
          | 0, _ => exact Or.inr ⟨0, rfl, rfl⟩
          | 1, _ => exact Or.inr ⟨1, rfl, rfl⟩
          | 2, _ => exact Or.inr ⟨2, rfl, rfl⟩
          | 3, _ => exact Or.inr ⟨3, rfl, rfl⟩
          | 4, _ => exact Or.inl ⟨by decide, rfl⟩
          | k9 + 5, h9 => exact absurd h9 (Nat.not_lt_of_le (Nat.le_add_left _ _)))
        have hk := hk.tr hk1 (fun a h => by simp at h; simp [h])
        generalize M1 = M at hH hw hk
        refine lv_aload_n hx hb d_bk_readPattern_102 rfl (lv_at hl 2 rfl) ?_
        have hM1 := c_bk_signsReadMakeAPattern l G x d dn lf rt pt xt rr ar rsg rnm (pz dr dn) f M (hw.sub (ws' := [(x, .inr (3, [.ref d, .int (nI dn), .int (nI lf), .int (nI rt), .ref pt, .ref xt, .ref rr, .ref ar])), (rr, .inr (1, [.ref rsg, .ref rnm, .int (nI (pz dr dn))])), (rsg, aI G 65 f)]) [0, 1, 2] rfl rfl) hp H.size
        have hG1 : GoodIn w_bk_readPattern (wsV R_bk 142 R_bk y_bk_signsReadMakeAPattern w_bk_signsReadMakeAPattern) := gB_V wm_183 wm_185 wp_3 wm_1 wm_186
        refine hm_call (va_runV (y := y_bk_signsReadMakeAPattern) (bytes := b_bk_signsReadMakeAPattern) (maxL := 3) (ws := w_bk_signsReadMakeAPattern) (rm := { frames := 2, cells := 0, slots := 0, locals := 42 }) (own := R_bk) (index := 142) (ret := (Option.some Jvm.ClassFile.FieldType.boolean)) (C := R_bk) (As := []) (rest := []) E hM1 (cwV (y := y_bk_signsReadMakeAPattern) (bytes := b_bk_signsReadMakeAPattern) (maxL := 3) (ws := w_bk_signsReadMakeAPattern) (rm := { frames := 2, cells := 0, slots := 0, locals := 42 }) (own := R_bk) (index := 142) (ret := (Option.some Jvm.ClassFile.FieldType.boolean)) (C := R_bk) 0 hts hG1 rfl rfl rfl (by decide +kernel) ⟨Nat.le_of_ble_eq_true rfl, Nat.le_of_ble_eq_true rfl⟩) (hm_preV gk_w gk_s hH hg hK (hw.at 0 rfl) rfl []) rfl rfl hl.1 rfl (lv_room (Nat.le_of_ble_eq_true rfl)) d_bk_readPattern_103 ⟨(by show _ ≤ 0; omega), (by show _ ≤ 0; omega)⟩) hH (fun r1 M1 H1 locs1 hq1 hH1 => ?_)
        replace hH := hH1; clear hH1; generalize H1 = H at hH ⊢; generalize locs1 = locs at hH ⊢
        obtain ⟨b9, rfl, hbi, e9⟩ := hq1
        rw [e9] at hH
        exact hm_zret E hr hlk hH (bI_n _) (⟨b9, pz dr dn, f, drp f (pz dr dn) (pnm dr dn), rfl, hbi.trans (rp_iff hf hok hadj), hp, hw, fun z => ⟨rfl, hf, rp_drp hf (pOk_len z).1⟩, hk⟩) (by omega) (by omega) d_bk_readPattern_106
      · skip
        refine lv_aload_n hx hb d_bk_readPattern_19 rfl (lv_at hl 2 rfl) ?_
        refine hm_get E (tB in_bk) hK hH (hw.at 0 rfl) rfl 0 (by decide) (tC wm_73) rfl d_bk_readPattern_20 ?_
        refine lv_iload_n hx hb d_bk_readPattern_23 rfl (lv_at hl 0 rfl) ?_
        have hM1 := c_bk_elementAt l G d 200 dr i M (hw.sub (ws' := [(d, aI G 200 dr)]) [4] rfl rfl) (by decide) (by omega) H.size
        have hG1 : GoodIn w_bk_readPattern (wsS R_bk 118 y_bk_elementAt w_bk_elementAt) := gB_S wm_160 wm_126 wm_1 wm_127
        refine hm_call (va_runS (y := y_bk_elementAt) (bytes := b_bk_elementAt) (maxL := 2) (ws := w_bk_elementAt) (rm := { frames := 0, cells := 0, slots := 0, locals := 0 }) (own := R_bk) (index := 118) (ret := (Option.some Jvm.ClassFile.FieldType.int)) (As := [.ref d, .int (nI i)]) (rest := []) E hM1 (cwS (y := y_bk_elementAt) (bytes := b_bk_elementAt) (maxL := 2) (ws := w_bk_elementAt) (rm := { frames := 0, cells := 0, slots := 0, locals := 0 }) (own := R_bk) (index := 118) (ret := (Option.some Jvm.ClassFile.FieldType.int)) 2 hts hG1 rfl rfl rfl (by decide +kernel) ⟨Nat.le_of_ble_eq_true rfl, Nat.le_of_ble_eq_true rfl⟩) (hm_preS gk_w gk_s hH hg [.ref d, .int (nI i)]) rfl rfl hl.1 rfl (lv_room (Nat.le_of_ble_eq_true rfl)) d_bk_readPattern_24 ⟨(by show _ ≤ 0; omega), (by show _ ≤ 0; omega)⟩) hH (fun r1 M1 H1 locs1 hq1 hH1 => ?_)
        obtain ⟨rfl, e1⟩ := hq1
        replace hH := hH1; rw [e1] at hH; clear hH1 e1; generalize H1 = H at hH ⊢; generalize locs1 = locs at hH ⊢
        refine hm_top (w := .int (dr i)) (by rw [if_pos (by omega)]) ?_
        refine lv_istore_n (lv' := [(3, .int (dr i)), (2, .int (nI i)), (1, .int (bI (bdg dr i))), (0, .ref x)]) hx hb d_bk_readPattern_27 rfl hl (by decide) rfl (fun ls hl => ?_)
        refine lv_iload_n hx hb d_bk_readPattern_28 rfl (lv_at hl 0 rfl) ?_
        have hM1 := c_bk_isDigit l G (dr i) M H.size
        have hG1 : GoodIn w_bk_readPattern (wsS R_bk 122 y_bk_isDigit w_bk_isDigit) := gB_S wm_161 wm_162 wm_1 wm_163
        refine hm_call (va_runS (y := y_bk_isDigit) (bytes := b_bk_isDigit) (maxL := 1) (ws := w_bk_isDigit) (rm := { frames := 0, cells := 0, slots := 0, locals := 0 }) (own := R_bk) (index := 122) (ret := (Option.some Jvm.ClassFile.FieldType.boolean)) (As := [.int (dr i)]) (rest := []) E hM1 (cwS (y := y_bk_isDigit) (bytes := b_bk_isDigit) (maxL := 1) (ws := w_bk_isDigit) (rm := { frames := 0, cells := 0, slots := 0, locals := 0 }) (own := R_bk) (index := 122) (ret := (Option.some Jvm.ClassFile.FieldType.boolean)) 1 hts hG1 rfl rfl rfl (by decide +kernel) ⟨Nat.le_of_ble_eq_true rfl, Nat.le_of_ble_eq_true rfl⟩) (hm_preS gk_w gk_s hH hg [.int (dr i)]) rfl rfl hl.1 rfl (lv_room (Nat.le_of_ble_eq_true rfl)) d_bk_readPattern_29 ⟨(by show _ ≤ 0; omega), (by show _ ≤ 0; omega)⟩) hH (fun r1 M1 H1 locs1 hq1 hH1 => ?_)
        obtain ⟨rfl, e1⟩ := hq1
        replace hH := hH1; rw [e1] at hH; clear hH1 e1; generalize H1 = H at hH ⊢; generalize locs1 = locs at hH ⊢
        refine hb_if_eq (b := isDg (dr i)) hx hb (tgt := 64) d_bk_readPattern_32 (by decide) (fun h32 => ?_) (fun h32 => ?_)
        · skip
          refine lv_iload_n hx hb d_bk_readPattern_64 rfl (lv_at hl 0 rfl) ?_
          have hM1 := c_bk_isLetter l G (dr i) M H.size
          have hG1 : GoodIn w_bk_readPattern (wsS R_bk 133 y_bk_isLetter w_bk_isLetter) := gB_S wm_168 wm_169 wm_1 wm_170
          refine hm_call (va_runS (y := y_bk_isLetter) (bytes := b_bk_isLetter) (maxL := 1) (ws := w_bk_isLetter) (rm := { frames := 0, cells := 0, slots := 0, locals := 0 }) (own := R_bk) (index := 133) (ret := (Option.some Jvm.ClassFile.FieldType.boolean)) (As := [.int (dr i)]) (rest := []) E hM1 (cwS (y := y_bk_isLetter) (bytes := b_bk_isLetter) (maxL := 1) (ws := w_bk_isLetter) (rm := { frames := 0, cells := 0, slots := 0, locals := 0 }) (own := R_bk) (index := 133) (ret := (Option.some Jvm.ClassFile.FieldType.boolean)) 1 hts hG1 rfl rfl rfl (by decide +kernel) ⟨Nat.le_of_ble_eq_true rfl, Nat.le_of_ble_eq_true rfl⟩) (hm_preS gk_w gk_s hH hg [.int (dr i)]) rfl rfl hl.1 rfl (lv_room (Nat.le_of_ble_eq_true rfl)) d_bk_readPattern_65 ⟨(by show _ ≤ 0; omega), (by show _ ≤ 0; omega)⟩) hH (fun r1 M1 H1 locs1 hq1 hH1 => ?_)
          obtain ⟨rfl, e1⟩ := hq1
          replace hH := hH1; rw [e1] at hH; clear hH1 e1; generalize H1 = H at hH ⊢; generalize locs1 = locs at hH ⊢
          refine hb_if_ne (b := isL (dr i)) hx hb (tgt := 77) d_bk_readPattern_68 (by decide) (fun h68 => ?_) (fun h68 => ?_)
          · skip
            refine lv_aload_n hx hb d_bk_readPattern_77 rfl (lv_at hl 3 rfl) ?_
            refine hm_get E (tB in_bk) hK hH (hw.at 0 rfl) rfl 6 (by decide) (tC wm_79) rfl d_bk_readPattern_78 ?_
            refine lv_iload_n hx hb d_bk_readPattern_81 rfl (lv_at hl 0 rfl) ?_
            have hM1 := c_rw_append l G rr rsg rnm (pz dr i) f (dr i) M (hw.sub (ws' := [(rr, .inr (1, [.ref rsg, .ref rnm, .int (nI (pz dr i))])), (rsg, aI G 65 f)]) [1, 2] rfl rfl) (by omega) H.size
            have hG1 : GoodIn w_bk_readPattern (wsV R_bk 136 R_rw y_rw_append w_rw_append) := gB_V wm_171 wm_172 wm_173 wm_4 wm_174
            refine hm_call (va_runV (y := y_rw_append) (bytes := b_rw_append) (maxL := 2) (ws := w_rw_append) (rm := { frames := 0, cells := 0, slots := 0, locals := 0 }) (own := R_bk) (index := 136) (ret := (Option.some Jvm.ClassFile.FieldType.boolean)) (C := R_rw) (As := [.int (dr i)]) (rest := []) E hM1 (cwV (y := y_rw_append) (bytes := b_rw_append) (maxL := 2) (ws := w_rw_append) (rm := { frames := 0, cells := 0, slots := 0, locals := 0 }) (own := R_bk) (index := 136) (ret := (Option.some Jvm.ClassFile.FieldType.boolean)) (C := R_rw) 1 hts hG1 rfl rfl rfl (by decide +kernel) ⟨Nat.le_of_ble_eq_true rfl, Nat.le_of_ble_eq_true rfl⟩) (hm_preV gk_w gk_s hH hg hK (hw.at 1 rfl) rfl [.int (dr i)]) rfl rfl hl.1 rfl (lv_room (Nat.le_of_ble_eq_true rfl)) d_bk_readPattern_82 ⟨(by show _ ≤ 0; omega), (by show _ ≤ 0; omega)⟩) hH (fun r1 M1 H1 locs1 hq1 hH1 => ?_)
            replace hH := hH1; clear hH1; generalize H1 = H at hH ⊢; generalize locs1 = locs at hH ⊢
            obtain ⟨b9, rfl, hbt, hbf⟩ := ap_ex hq1
            refine hb_if_ne (b := b9) hx hb (tgt := 90) d_bk_readPattern_85 (by decide) (fun h85 => ?_) (fun h85 => ?_)
            · skip
              obtain ⟨hlt, hw1, hk1⟩ := hbt h85
              have hw := hm_join (ws' := [(x, .inr (3, [.ref d, .int (nI dn), .int (nI lf), .int (nI rt), .ref pt, .ref xt, .ref rr, .ref ar])), (rr, .inr (1, [.ref rsg, .ref rnm, .int (nI (pz dr i + 1))])), (rsg, aI G 65 (upd f (pz dr i) (dr i))), (rnm, aI G 66 (pnm dr i)), (d, aI G 200 dr)]) (wc := [(rr, .inr (1, [.ref rsg, .ref rnm, .int (nI (pz dr i))])), (rsg, aI G 65 f)]) hw hw1 hk1 [1, 2] rfl rfl (fun _ h => h) rfl (by
                intro k9 h9
                match k9, h9 with
                | 0, _ => exact Or.inl ⟨by decide, rfl⟩
                | 1, _ => exact Or.inr ⟨0, rfl, rfl⟩
                | 2, _ => exact Or.inr ⟨1, rfl, rfl⟩
                | 3, _ => exact Or.inl ⟨by decide, rfl⟩
                | 4, _ => exact Or.inl ⟨by decide, rfl⟩
                | k9 + 5, h9 => exact absurd h9 (Nat.not_lt_of_le (Nat.le_add_left _ _)))
              have hk := hk.tr hk1 (fun a h => by simp at h; rcases h with rfl | rfl <;> simp)
              generalize M1 = M at hH hw hk
              have e1 : pnm dr (i + 1) = pnm dr i := by simp [pnm, h32]
              have e2 : pz dr (i + 1) = pz dr i + 1 := by simp [pz, h32]
              refine lv_iconst (v := 0) hx hb d_bk_readPattern_90 (by decide) ?_
              refine lv_istore_n (lv' := [(1, .int 0), (3, .int (dr i)), (2, .int (nI i)), (0, .ref x)]) hx hb d_bk_readPattern_91 rfl hl (by decide) rfl (fun ls hl => ?_)
              refine lv_iinc (v := nI (i + 1)) (lv' := [(2, .int (nI (i + 1))), (1, .int 0), (3, .int (dr i)), (0, .ref x)]) hx hb d_bk_readPattern_92 hl (k := 2) rfl (by first | exact nI_add _ 1 | (show nI _ + nI _ = _; rw [nI_add])) (by decide) rfl (fun ls hl => ?_)
              refine lv_goto (tgt := 11) hx hb d_bk_readPattern_95 (by decide) ?_
              exact ih (i + 1) (upd f (pz dr i) (dr i)) M _ _ _ (by omega) (by omega) (by rw [e2]; omega) (rp_app hf h32) (rp_ok (p := fun b => isL b = true ∨ isDg b = true ∨ b = 46) hok (by first | exact Or.inl h68 | exact Or.inr (Or.inr (eq46_iff.mpr h74)))) (rp_adjS hadj (Or.inr h32)) (by rw [e1, e2]; exact hw) hk hH (lv_cv (lv_sub hl [0, 1, 3] rfl) (by rw [bdg_s, h32, bI_f]; rfl))
            · skip
              obtain ⟨hge, hMe⟩ := hbf h85
              subst hMe
              refine lv_iconst (v := 0) hx hb d_bk_readPattern_88 (by decide) ?_
              exact hm_zret E hr hlk hH (by decide) (by first | exact ⟨false, pz dr i, f, pnm dr i, rfl, ⟨fun z => (by cases z), fun z => absurd z (rp_bad (by omega) h32 h68 h74)⟩, by omega, hw, fun z => absurd z (rp_bad (by omega) h32 h68 h74), hk⟩ | exact ⟨false, pz dr i, f, pnm dr i, rfl, ⟨fun z => (by cases z), fun z => absurd z (rp_long (by omega) h32 hge)⟩, by omega, hw, fun z => absurd z (rp_long (by omega) h32 hge), hk⟩) (by omega) (by omega) d_bk_readPattern_89
          · skip
            refine lv_iload_n hx hb d_bk_readPattern_71 rfl (lv_at hl 0 rfl) ?_
            refine lv_bipush (v := 46) hx hb d_bk_readPattern_72 (by decide) ?_
            refine hc_icmp_ne (x := dr i) (y := 46) (c9 := 46) hx hb (by decide) (tgt := 88) d_bk_readPattern_74 (by decide) (fun h74 => ?_) (fun h74 => ?_)
            · skip
              refine lv_iconst (v := 0) hx hb d_bk_readPattern_88 (by decide) ?_
              exact hm_zret E hr hlk hH (by decide) (by first | exact ⟨false, pz dr i, f, pnm dr i, rfl, ⟨fun z => (by cases z), fun z => absurd z (rp_bad (by omega) h32 h68 h74)⟩, by omega, hw, fun z => absurd z (rp_bad (by omega) h32 h68 h74), hk⟩ | exact ⟨false, pz dr i, f, pnm dr i, rfl, ⟨fun z => (by cases z), fun z => absurd z (rp_long (by omega) h32 hge)⟩, by omega, hw, fun z => absurd z (rp_long (by omega) h32 hge), hk⟩) (by omega) (by omega) d_bk_readPattern_89
            · skip
              refine lv_aload_n hx hb d_bk_readPattern_77 rfl (lv_at hl 3 rfl) ?_
              refine hm_get E (tB in_bk) hK hH (hw.at 0 rfl) rfl 6 (by decide) (tC wm_79) rfl d_bk_readPattern_78 ?_
              refine lv_iload_n hx hb d_bk_readPattern_81 rfl (lv_at hl 0 rfl) ?_
              have hM1 := c_rw_append l G rr rsg rnm (pz dr i) f (dr i) M (hw.sub (ws' := [(rr, .inr (1, [.ref rsg, .ref rnm, .int (nI (pz dr i))])), (rsg, aI G 65 f)]) [1, 2] rfl rfl) (by omega) H.size
              have hG1 : GoodIn w_bk_readPattern (wsV R_bk 136 R_rw y_rw_append w_rw_append) := gB_V wm_171 wm_172 wm_173 wm_4 wm_174
              refine hm_call (va_runV (y := y_rw_append) (bytes := b_rw_append) (maxL := 2) (ws := w_rw_append) (rm := { frames := 0, cells := 0, slots := 0, locals := 0 }) (own := R_bk) (index := 136) (ret := (Option.some Jvm.ClassFile.FieldType.boolean)) (C := R_rw) (As := [.int (dr i)]) (rest := []) E hM1 (cwV (y := y_rw_append) (bytes := b_rw_append) (maxL := 2) (ws := w_rw_append) (rm := { frames := 0, cells := 0, slots := 0, locals := 0 }) (own := R_bk) (index := 136) (ret := (Option.some Jvm.ClassFile.FieldType.boolean)) (C := R_rw) 1 hts hG1 rfl rfl rfl (by decide +kernel) ⟨Nat.le_of_ble_eq_true rfl, Nat.le_of_ble_eq_true rfl⟩) (hm_preV gk_w gk_s hH hg hK (hw.at 1 rfl) rfl [.int (dr i)]) rfl rfl hl.1 rfl (lv_room (Nat.le_of_ble_eq_true rfl)) d_bk_readPattern_82 ⟨(by show _ ≤ 0; omega), (by show _ ≤ 0; omega)⟩) hH (fun r1 M1 H1 locs1 hq1 hH1 => ?_)
              replace hH := hH1; clear hH1; generalize H1 = H at hH ⊢; generalize locs1 = locs at hH ⊢
              obtain ⟨b9, rfl, hbt, hbf⟩ := ap_ex hq1
              refine hb_if_ne (b := b9) hx hb (tgt := 90) d_bk_readPattern_85 (by decide) (fun h85 => ?_) (fun h85 => ?_)
              · skip
                obtain ⟨hlt, hw1, hk1⟩ := hbt h85
                have hw := hm_join (ws' := [(x, .inr (3, [.ref d, .int (nI dn), .int (nI lf), .int (nI rt), .ref pt, .ref xt, .ref rr, .ref ar])), (rr, .inr (1, [.ref rsg, .ref rnm, .int (nI (pz dr i + 1))])), (rsg, aI G 65 (upd f (pz dr i) (dr i))), (rnm, aI G 66 (pnm dr i)), (d, aI G 200 dr)]) (wc := [(rr, .inr (1, [.ref rsg, .ref rnm, .int (nI (pz dr i))])), (rsg, aI G 65 f)]) hw hw1 hk1 [1, 2] rfl rfl (fun _ h => h) rfl (by
                  intro k9 h9
                  match k9, h9 with
                  | 0, _ => exact Or.inl ⟨by decide, rfl⟩
                  | 1, _ => exact Or.inr ⟨0, rfl, rfl⟩
                  | 2, _ => exact Or.inr ⟨1, rfl, rfl⟩
                  | 3, _ => exact Or.inl ⟨by decide, rfl⟩
                  | 4, _ => exact Or.inl ⟨by decide, rfl⟩
                  | k9 + 5, h9 => exact absurd h9 (Nat.not_lt_of_le (Nat.le_add_left _ _)))
                have hk := hk.tr hk1 (fun a h => by simp at h; rcases h with rfl | rfl <;> simp)
                generalize M1 = M at hH hw hk
                have e1 : pnm dr (i + 1) = pnm dr i := by simp [pnm, h32]
                have e2 : pz dr (i + 1) = pz dr i + 1 := by simp [pz, h32]
                refine lv_iconst (v := 0) hx hb d_bk_readPattern_90 (by decide) ?_
                refine lv_istore_n (lv' := [(1, .int 0), (3, .int (dr i)), (2, .int (nI i)), (0, .ref x)]) hx hb d_bk_readPattern_91 rfl hl (by decide) rfl (fun ls hl => ?_)
                refine lv_iinc (v := nI (i + 1)) (lv' := [(2, .int (nI (i + 1))), (1, .int 0), (3, .int (dr i)), (0, .ref x)]) hx hb d_bk_readPattern_92 hl (k := 2) rfl (by first | exact nI_add _ 1 | (show nI _ + nI _ = _; rw [nI_add])) (by decide) rfl (fun ls hl => ?_)
                refine lv_goto (tgt := 11) hx hb d_bk_readPattern_95 (by decide) ?_
                exact ih (i + 1) (upd f (pz dr i) (dr i)) M _ _ _ (by omega) (by omega) (by rw [e2]; omega) (rp_app hf h32) (rp_ok (p := fun b => isL b = true ∨ isDg b = true ∨ b = 46) hok (by first | exact Or.inl h68 | exact Or.inr (Or.inr (eq46_iff.mpr h74)))) (rp_adjS hadj (Or.inr h32)) (by rw [e1, e2]; exact hw) hk hH (lv_cv (lv_sub hl [0, 1, 3] rfl) (by rw [bdg_s, h32, bI_f]; rfl))
              · skip
                obtain ⟨hge, hMe⟩ := hbf h85
                subst hMe
                refine lv_iconst (v := 0) hx hb d_bk_readPattern_88 (by decide) ?_
                exact hm_zret E hr hlk hH (by decide) (by first | exact ⟨false, pz dr i, f, pnm dr i, rfl, ⟨fun z => (by cases z), fun z => absurd z (rp_bad (by omega) h32 h68 h74)⟩, by omega, hw, fun z => absurd z (rp_bad (by omega) h32 h68 h74), hk⟩ | exact ⟨false, pz dr i, f, pnm dr i, rfl, ⟨fun z => (by cases z), fun z => absurd z (rp_long (by omega) h32 hge)⟩, by omega, hw, fun z => absurd z (rp_long (by omega) h32 hge), hk⟩) (by omega) (by omega) d_bk_readPattern_89
        · skip
          refine lv_iload_n hx hb d_bk_readPattern_35 rfl (lv_at hl 2 rfl) ?_
          refine hb_if_eq (b := bdg dr i) hx hb (tgt := 41) d_bk_readPattern_36 (by decide) (fun h36 => ?_) (fun h36 => ?_)
          · skip
            refine lv_aload_n hx hb d_bk_readPattern_41 rfl (lv_at hl 3 rfl) ?_
            refine hm_get E (tB in_bk) hK hH (hw.at 0 rfl) rfl 6 (by decide) (tC wm_79) rfl d_bk_readPattern_42 ?_
            refine lv_aload_n hx hb d_bk_readPattern_45 rfl (lv_at hl 3 rfl) ?_
            refine hm_get E (tB in_bk) hK hH (hw.at 0 rfl) rfl 6 (by decide) (tC wm_79) rfl d_bk_readPattern_46 ?_
            have hM1 := c_rw_size l G rr rsg rnm (pz dr i) M (hw.sub (ws' := [(rr, .inr (1, [.ref rsg, .ref rnm, .int (nI (pz dr i))]))]) [1] rfl rfl) H.size
            have hG1 : GoodIn w_bk_readPattern (wsV R_bk 126 R_rw y_rw_size w_rw_size) := gB_V wm_114 wm_115 wm_116 wm_4 wm_117
            refine hm_call (va_runV (y := y_rw_size) (bytes := b_rw_size) (maxL := 1) (ws := w_rw_size) (rm := { frames := 0, cells := 0, slots := 0, locals := 0 }) (own := R_bk) (index := 126) (ret := (Option.some Jvm.ClassFile.FieldType.int)) (C := R_rw) (As := []) (rest := [.ref rr]) E hM1 (cwV (y := y_rw_size) (bytes := b_rw_size) (maxL := 1) (ws := w_rw_size) (rm := { frames := 0, cells := 0, slots := 0, locals := 0 }) (own := R_bk) (index := 126) (ret := (Option.some Jvm.ClassFile.FieldType.int)) (C := R_rw) 0 hts hG1 rfl rfl rfl (by decide +kernel) ⟨Nat.le_of_ble_eq_true rfl, Nat.le_of_ble_eq_true rfl⟩) (hm_preV gk_w gk_s hH hg hK (hw.at 1 rfl) rfl []) rfl rfl hl.1 rfl (lv_room (Nat.le_of_ble_eq_true rfl)) d_bk_readPattern_49 ⟨(by show _ ≤ 0; omega), (by show _ ≤ 0; omega)⟩) hH (fun r1 M1 H1 locs1 hq1 hH1 => ?_)
            obtain ⟨rfl, e1⟩ := hq1
            replace hH := hH1; rw [e1] at hH; clear hH1 e1; generalize H1 = H at hH ⊢; generalize locs1 = locs at hH ⊢
            refine lv_iload_n hx hb d_bk_readPattern_52 rfl (lv_at hl 0 rfl) ?_
            refine lv_bipush (v := 48) hx hb d_bk_readPattern_53 (by decide) ?_
            refine lv_isub hx hb d_bk_readPattern_55 ?_
            have hM1 := c_rw_setNumber l G rr rsg rnm (pz dr i) (pnm dr i) (pz dr i) (dr i - 48) M (hw.sub (ws' := [(rr, .inr (1, [.ref rsg, .ref rnm, .int (nI (pz dr i))])), (rnm, aI G 66 (pnm dr i))]) [1, 3] rfl rfl) (by omega) H.size
            have hG1 : GoodIn w_bk_readPattern (wsV R_bk 129 R_rw y_rw_setNumber w_rw_setNumber) := gB_V wm_164 wm_165 wm_166 wm_4 wm_167
            refine hm_call (va_runV (y := y_rw_setNumber) (bytes := b_rw_setNumber) (maxL := 3) (ws := w_rw_setNumber) (rm := { frames := 0, cells := 0, slots := 0, locals := 0 }) (own := R_bk) (index := 129) (ret := (Option.none : Option Jvm.ClassFile.FieldType)) (C := R_rw) (As := [.int (nI (pz dr i)), .int ((dr i) - 48)]) (rest := []) E hM1 (cwV (y := y_rw_setNumber) (bytes := b_rw_setNumber) (maxL := 3) (ws := w_rw_setNumber) (rm := { frames := 0, cells := 0, slots := 0, locals := 0 }) (own := R_bk) (index := 129) (ret := (Option.none : Option Jvm.ClassFile.FieldType)) (C := R_rw) 2 hts hG1 rfl rfl rfl (by decide +kernel) ⟨Nat.le_of_ble_eq_true rfl, Nat.le_of_ble_eq_true rfl⟩) (hm_preV gk_w gk_s hH hg hK (hw.at 1 rfl) rfl [.int (nI (pz dr i)), .int ((dr i) - 48)]) rfl rfl hl.1 rfl (lv_room (Nat.le_of_ble_eq_true rfl)) d_bk_readPattern_56 ⟨(by show _ ≤ 0; omega), (by show _ ≤ 0; omega)⟩) hH (fun r1 M1 H1 locs1 hq1 hH1 => ?_)
            replace hH := hH1; clear hH1; generalize H1 = H at hH ⊢; generalize locs1 = locs at hH ⊢
            obtain ⟨rfl, hw1, hk1⟩ := hq1
            have hw := hm_join (ws' := [(x, .inr (3, [.ref d, .int (nI dn), .int (nI lf), .int (nI rt), .ref pt, .ref xt, .ref rr, .ref ar])), (rr, .inr (1, [.ref rsg, .ref rnm, .int (nI (pz dr i))])), (rsg, aI G 65 f), (rnm, aI G 66 (upd (pnm dr i) (pz dr i) (dr i - 48))), (d, aI G 200 dr)]) (wc := [(rr, .inr (1, [.ref rsg, .ref rnm, .int (nI (pz dr i))])), (rnm, aI G 66 (pnm dr i))]) hw hw1 hk1 [1, 3] rfl rfl (fun a h => by simp at h; simp [h]) rfl (by
              intro k9 h9
              match k9, h9 with
              | 0, _ => exact Or.inl ⟨by decide, rfl⟩
              | 1, _ => exact Or.inr ⟨0, rfl, rfl⟩
              | 2, _ => exact Or.inl ⟨by decide, rfl⟩
              | 3, _ => exact Or.inr ⟨1, rfl, rfl⟩
              | 4, _ => exact Or.inl ⟨by decide, rfl⟩
              | k9 + 5, h9 => exact absurd h9 (Nat.not_lt_of_le (Nat.le_add_left _ _)))
            have hk := hk.tr hk1 (fun a h => by simp at h; simp [h])
            generalize M1 = M at hH hw hk
            have e1 : pnm dr (i + 1) = upd (pnm dr i) (pz dr i) (dr i - 48) := by simp [pnm, h32]
            have e2 : pz dr (i + 1) = pz dr i := by simp [pz, h32]
            refine lv_iconst (v := 1) hx hb d_bk_readPattern_59 (by decide) ?_
            refine lv_istore_n (lv' := [(1, .int 1), (3, .int (dr i)), (2, .int (nI i)), (0, .ref x)]) hx hb d_bk_readPattern_60 rfl hl (by decide) rfl (fun ls hl => ?_)
            refine lv_goto (tgt := 92) hx hb d_bk_readPattern_61 (by decide) ?_
            refine lv_iinc (v := nI (i + 1)) (lv' := [(2, .int (nI (i + 1))), (1, .int 1), (3, .int (dr i)), (0, .ref x)]) hx hb d_bk_readPattern_92 hl (k := 2) rfl (by first | exact nI_add _ 1 | (show nI _ + nI _ = _; rw [nI_add])) (by decide) rfl (fun ls hl => ?_)
            refine lv_goto (tgt := 11) hx hb d_bk_readPattern_95 (by decide) ?_
            exact ih (i + 1) f M _ _ _ (by omega) (by omega) (by rw [e2]; exact hp) (by rw [e2]; intro j hj; rw [hf j hj]; simp [psg, h32]) (rp_ok (p := fun b => isL b = true ∨ isDg b = true ∨ b = 46) hok (Or.inr (Or.inl h32))) (rp_adjS hadj (Or.inl h36)) (by rw [e1, e2]; exact hw) hk hH (lv_cv (lv_sub hl [0, 1, 3] rfl) (by rw [bdg_s, h32, bI_t]; rfl))
          · skip
            refine lv_iconst (v := 0) hx hb d_bk_readPattern_39 (by decide) ?_
            exact hm_zret E hr hlk hH (by decide) (⟨false, pz dr i, f, pnm dr i, rfl, ⟨fun z => (by cases z), fun z => absurd z (rp_adj (by omega) h32 h36)⟩, by omega, hw, fun z => absurd z (rp_adj (by omega) h32 h36), hk⟩) (by omega) (by omega) d_bk_readPattern_40
  refine lv_aload_n hx hb d_bk_readPattern_0 rfl (lv_at hl 0 rfl) ?_
  refine hm_get E (tB in_bk) hK hH (hw.at 0 rfl) rfl 6 (by decide) (tC wm_79) rfl d_bk_readPattern_1 ?_
  have hM1 := c_rw_clear l G rr rsg rnm sz g M (hw.sub (ws' := [(rr, .inr (1, [.ref rsg, .ref rnm, .int (nI sz)])), (rnm, aI G 66 g)]) [1, 3] rfl rfl) s.heap.size
  have hG1 : GoodIn w_bk_readPattern (wsV R_bk 115 R_rw y_rw_clear w_rw_clear) := gB_V wm_153 wm_154 wm_155 wm_4 wm_156
  refine hm_call (va_runV (y := y_rw_clear) (bytes := b_rw_clear) (maxL := 1) (ws := w_rw_clear) (rm := { frames := 1, cells := 0, slots := 0, locals := 23 }) (own := R_bk) (index := 115) (ret := (Option.none : Option Jvm.ClassFile.FieldType)) (C := R_rw) (As := []) (rest := []) E hM1 (cwV (y := y_rw_clear) (bytes := b_rw_clear) (maxL := 1) (ws := w_rw_clear) (rm := { frames := 1, cells := 0, slots := 0, locals := 23 }) (own := R_bk) (index := 115) (ret := (Option.none : Option Jvm.ClassFile.FieldType)) (C := R_rw) 0 hts hG1 rfl rfl rfl (by decide +kernel) ⟨Nat.le_of_ble_eq_true rfl, Nat.le_of_ble_eq_true rfl⟩) (hm_preV gk_w gk_s hH hg hK (hw.at 1 rfl) rfl []) rfl rfl hl.1 rfl (lv_room (Nat.le_of_ble_eq_true rfl)) d_bk_readPattern_4 ⟨(by show _ ≤ 0; omega), (by show _ ≤ 0; omega)⟩) hH (fun r1 M1 H1 locs1 hq1 hH1 => ?_)
  replace hH := hH1; clear hH1; generalize H1 = H at hH ⊢; generalize locs1 = locs at hH ⊢
  obtain ⟨rfl, hw1, hk1⟩ := hq1
  have hw := hm_join (ws' := [(x, .inr (3, [.ref d, .int (nI dn), .int (nI lf), .int (nI rt), .ref pt, .ref xt, .ref rr, .ref ar])), (rr, .inr (1, [.ref rsg, .ref rnm, .int (nI 0)])), (rsg, aI G 65 f), (rnm, aI G 66 (fun _ => 0)), (d, aI G 200 dr)]) (wc := [(rr, .inr (1, [.ref rsg, .ref rnm, .int (nI sz)])), (rnm, aI G 66 g)]) hw hw1 hk1 [1, 3] rfl rfl (fun a h => h) rfl (by
    intro k9 h9
    match k9, h9 with
    | 0, _ => exact Or.inl ⟨by decide, rfl⟩
    | 1, _ => exact Or.inr ⟨0, rfl, rfl⟩
    | 2, _ => exact Or.inl ⟨by decide, rfl⟩
    | 3, _ => exact Or.inr ⟨1, rfl, rfl⟩
    | 4, _ => exact Or.inl ⟨by decide, rfl⟩
    | k9 + 5, h9 => exact absurd h9 (Nat.not_lt_of_le (Nat.le_add_left _ _)))
  have hk := hk.tr hk1 (fun a h => by simp at h; rcases h with rfl | rfl <;> simp)
  generalize M1 = M at hH hw hk
  refine lv_iconst (v := 0) hx hb d_bk_readPattern_7 (by decide) ?_
  refine lv_istore_n (lv' := [(1, .int 0), (0, .ref x)]) hx hb d_bk_readPattern_8 rfl hl (by decide) rfl (fun ls hl => ?_)
  refine lv_iconst (v := 0) hx hb d_bk_readPattern_9 (by decide) ?_
  refine lv_istore_n (lv' := [(2, .int 0), (1, .int 0), (0, .ref x)]) hx hb d_bk_readPattern_10 rfl hl (by decide) rfl (fun ls hl => ?_)
  exact L11 (dn + 1) 0 f M _ _ _ (by omega) (by omega) (by simp [pz]) (fun j hj => by simp [pz] at hj) (fun k9 h9 => absurd h9 (by omega)) (fun k9 h9 => absurd h9 (by omega)) hw hk hH (lv_cv (lv_sub hl [0, 1, 2] rfl) (by rw [bdg_0, bI_f]; rfl))
end
section
/-! reading an exception, a word -/
def blt (d : Nat → Int32) (i : Nat) : Bool := decide (0 < i) && isL (d (i - 1))
theorem blt_s (d : Nat → Int32) (i : Nat) : blt d (i + 1) = isL (d i) := by simp [blt]
theorem blt_0 (d : Nat → Int32) : blt d 0 = false := by simp [blt]
/-- 1 at each place that a hyphen stands at -/
def xnm (d : Nat → Int32) : Nat → Nat → Int32
  | 0 => fun _ => 0
  | k + 1 => if isL (d k) then xnm d k else upd (xnm d k) (1 + xz d k) 1
theorem xnm_hy (d : Nat → Int32) (n j : Nat) : xnm d n (j + 1) = if xhy d n j then 1 else 0 := by
  induction n with
  | zero => simp [xnm, xhy]
  | succ n ih =>
    simp only [xnm, xhy]
    by_cases hl : isL (d n) = true
    · simp only [hl, if_true]; exact ih
    · have hl : isL (d n) = false := by simpa using hl
      simp only [hl, Bool.false_eq_true, if_false]
      by_cases hj : j = xz d n
      · subst hj
        rw [show xz d n + 1 = 1 + xz d n by omega, upd_self]
        simp
      · rw [upd_ne (by omega), ih]
        simp [hj]
def xPc (d : Nat → Int32) (k : Nat) : Prop := isL (d k) = true ∨ (d k = 45 ∧ 0 < k ∧ isL (d (k - 1)) = true)
theorem rx_S {d : Nat → Int32} {i : Nat} (h : ∀ k, k < i → xPc d k) (hi : xPc d i) : ∀ k, k < i + 1 → xPc d k := by
  intro k hk
  by_cases hki : k = i
  · subst hki; exact hi
  · exact h k (by omega)
theorem blt_iff {d : Nat → Int32} {i : Nat} : blt d i = true ↔ 0 < i ∧ isL (d (i - 1)) = true := by simp [blt]
theorem rx_bad {d : Nat → Int32} {n i : Nat} (hi : i < n) (h1 : isL (d i) = false) (h2 : (d i).toInt ≠ 45 ∨ blt d i = false) : ¬ xOk d n := by
  intro h
  obtain ⟨-, h3, -⟩ := xOk_iff.mp h
  rcases h3 i hi with z | ⟨z1, z2⟩
  · rw [h1] at z; cases z
  · rcases h2 with q | q
    · exact q (eq45_iff.mp z1)
    · rw [blt_iff.mpr z2] at q; cases q
theorem rx_long {d : Nat → Int32} {n i : Nat} (hi : i < n) (h1 : isL (d i) = true) (h2 : 65 ≤ xz d i + 1) : ¬ xOk d n := by
  intro h
  have h3 := h.2.2.2
  have h4 : xz d (i + 1) ≤ xz d n := xz_mono hi
  have h5 : xz d (i + 1) = xz d i + 1 := by simp [xz, h1]
  omega
theorem rx_end {d : Nat → Int32} {n : Nat} (h : blt d n = false) : ¬ xOk d n := by
  intro h1
  obtain ⟨h2, -, h3, -⟩ := xOk_iff.mp h1
  rw [blt_iff.mpr ⟨h2, h3⟩] at h
  cases h
theorem rx_ok {d : Nat → Int32} {n : Nat} (h : ∀ k, k < n → xPc d k) (h1 : blt d n = true) (h2 : xz d n ≤ 63) : xOk d n := xOk_iff.mpr ⟨(blt_iff.mp h1).1, h, (blt_iff.mp h1).2, h2⟩
/-- what was read: an edge, and the letters so far -/
def rxf (d : Nat → Int32) (i : Nat) (f : Nat → Int32) : Prop := f 0 = 46 ∧ ∀ j, j < xz d i → f (j + 1) = xsg d i j
theorem rx_app {d f : Nat → Int32} {i : Nat} (hf : rxf d i f) (h1 : isL (d i) = true) : rxf d (i + 1) (upd f (xz d i + 1) (d i)) := by
  refine ⟨by rw [upd_ne (by omega)]; exact hf.1, fun j hj => ?_⟩
  have h5 : xz d (i + 1) = xz d i + 1 := by simp [xz, h1]
  simp only [xsg, h1, if_true]
  by_cases hji : j = xz d i
  · subst hji; rw [upd_self, upd_self]
  · rw [upd_ne (by omega), upd_ne hji]; exact hf.2 j (by omega)
theorem rx_hy {d f : Nat → Int32} {i : Nat} (hf : rxf d i f) (h1 : isL (d i) = false) : rxf d (i + 1) f := by
  refine ⟨hf.1, fun j hj => ?_⟩
  have h5 : xz d (i + 1) = xz d i := by simp [xz, h1]
  simp only [xsg, h1, Bool.false_eq_true, if_false]
  exact hf.2 j (by omega)
theorem rx_row {d f : Nat → Int32} {n : Nat} (hf : rxf d n f) : ag (upd f (xz d n + 1) 46) (wrow (xsg d n) (xz d n)) (xz d n + 2) := by
  intro j hj
  unfold wrow
  by_cases h0 : j = 0
  · subst h0; rw [upd_ne (by omega), if_pos rfl]; exact hf.1
  · rw [if_neg h0]
    by_cases h1 : j ≤ xz d n
    · rw [if_pos h1, upd_ne (by omega)]
      have := hf.2 (j - 1) (by omega)
      rw [Nat.sub_add_cancel (by omega)] at this
      exact this
    · have e : j = xz d n + 1 := by omega
      rw [if_neg h1, if_pos e, e, upd_self]
theorem ap_t {b : Bool} {sz : Nat} {P : Prop} {Q : Prop} (hbt : b = true → P) (hbf : b = false → 65 ≤ sz ∧ Q) (h : sz < 65) : P := hbt (by
  cases b with
  | true => rfl
  | false => have := (hbf rfl).1; omega)
/-- a word's row as it is copied -/
def wcf (d : Nat → Int32) (i : Nat) (f : Nat → Int32) : Prop := f 0 = 46 ∧ ∀ j, j < i → f (j + 1) = d j
theorem wc_app {d f : Nat → Int32} {i : Nat} (hf : wcf d i f) : wcf d (i + 1) (upd f (i + 1) (d i)) := by
  refine ⟨by rw [upd_ne (by omega)]; exact hf.1, fun j hj => ?_⟩
  by_cases hji : j = i
  · subst hji; rw [upd_self]
  · rw [upd_ne (by omega)]; exact hf.2 j (by omega)
theorem wc_row {d f : Nat → Int32} {n : Nat} (hf : wcf d n f) : ag (upd f (n + 1) 46) (wrow d n) (n + 2) := by
  intro j hj
  unfold wrow
  by_cases h0 : j = 0
  · subst h0; rw [upd_ne (by omega), if_pos rfl]; exact hf.1
  · rw [if_neg h0]
    by_cases h1 : j ≤ n
    · rw [if_pos h1, upd_ne (by omega)]
      have := hf.2 (j - 1) (by omega)
      rw [Nat.sub_add_cancel (by omega)] at this
      exact this
    · have e : j = n + 1 := by omega
      rw [if_neg h1, if_pos e, e, upd_self]
end
section
abbrev q_bk_readException (G : hG) (x d dn lf rt pt xt rr ar : Nat) (rsg rnm sz : Nat) (f g dr : Nat → Int32) (M : hM) : Option Value → hM → Prop := fun rv M' => ∃ (b : Bool) (sz9 : Nat) (f9 g9 : Nat → Int32), rv = some (.int (bI b)) ∧ (b = true ↔ xOk dr dn) ∧ sz9 ≤ 65 ∧ hm_has M' [(x, .inr (3, [.ref d, .int (nI dn), .int (nI lf), .int (nI rt), .ref pt, .ref xt, .ref rr, .ref ar])), (rr, .inr (1, [.ref rsg, .ref rnm, .int (nI sz9)])), (rsg, aI G 65 f9), (rnm, aI G 66 g9), (d, aI G 200 dr)] ∧ (xOk dr dn → sz9 = xz dr dn + 2 ∧ ag f9 (wrow (xsg dr dn) (xz dr dn)) sz9 ∧ g9 = xnm dr dn) ∧ hm_kp (fun a => a ∈ [rr, rsg, rnm]) M M'
set_option maxHeartbeats 4000000 in
set_option maxRecDepth 100000 in
theorem c_bk_readException (l : Launch) (G : hG) (x d dn lf rt pt xt rr ar : Nat) (rsg rnm sz : Nat) (f g dr : Nat → Int32) (M : hM) (hw : hm_has M [(x, .inr (3, [.ref d, .int (nI dn), .int (nI lf), .int (nI rt), .ref pt, .ref xt, .ref rr, .ref ar])), (rr, .inr (1, [.ref rsg, .ref rnm, .int (nI sz)])), (rsg, aI G 65 f), (rnm, aI G 66 g), (d, aI G 200 dr)]) (hdn : dn ≤ 200) : Ct (gk G) l G.1 vwC y_bk_readException w_bk_readException { frames := 2, cells := 0, slots := 0, locals := 43 } ([.ref x] : List Value) M (q_bk_readException G x d dn lf rt pt xt rr ar rsg rnm sz f g dr M) 0 0 := by
  refine Ct.ofW (cc := b_bk_readException) (maxL := 4) (ret := (Option.some Jvm.ClassFile.FieldType.boolean)) (by decide) rfl (Nat.le_of_ble_eq_true rfl) (fun p e s m below meth c A ls E hr hlk hin hg hH hl => ?_)
  have hl : lv_has ls 4 [(0, .ref x)] := hl
  have hx := E.1; have hb := E.2.1; have hml := E.2.2.1; have hown := E.2.2.2.1; have hts := E.2.2.2.2; have hK := hg.1
  obtain ⟨M0, hM0⟩ : ∃ M0 : hM, M0 = M := ⟨M, rfl⟩
  rw [show q_bk_readException G x d dn lf rt pt xt rr ar rsg rnm sz f g dr M = q_bk_readException G x d dn lf rt pt xt rr ar rsg rnm sz f g dr M0 by rw [hM0]]
  have hk : hm_kp (fun a => a ∈ [rr, rsg, rnm]) M0 M := by rw [hM0]; exact hm_kp.rf
  have L21 : ∀ (k : Nat) (i : Nat) (f : Nat → Int32) (M : hM) (H : Heap) (locs : List Loc) (ls : Array Slot), dn + 1 ≤ i + k → i ≤ dn → xz dr i + 1 ≤ 65 → rxf dr i f → (∀ k9, k9 < i → xPc dr k9) → hm_has M [(x, .inr (3, [.ref d, .int (nI dn), .int (nI lf), .int (nI rt), .ref pt, .ref xt, .ref rr, .ref ar])), (rr, .inr (1, [.ref rsg, .ref rnm, .int (nI (xz dr i + 1))])), (rsg, aI G 65 f), (rnm, aI G 66 (xnm dr i)), (d, aI G 200 dr)] → hm_kp (fun a => a ∈ [rr, rsg, rnm]) M0 M → hm_I G.1 vwC A s.heap M H locs → lv_has ls 4 [(2, .int (nI i)), (1, .int (bI (blt dr i))), (0, .ref x)] → W p l e { frames := 2, cells := 0, slots := 0, locals := 43 } s m ([.ref x] : List Value).toArray below meth c H locs 0 0 (MQ below (hm_Q G.1 vwC (q_bk_readException G x d dn lf rt pt xt rr ar rsg rnm sz f g dr M0) A) ([.ref x] : List Value).toArray s 0 0 A) (F0 m 21 ls []) := by
    intro k
    induction k with
    | zero => intro i f M H locs ls hfu hi hp hf hok; exact absurd hfu (by omega)
    | succ k ih =>
      intro i f M H locs ls hfu hi hp hf hok hw hk hH hl
      refine lv_iload_n hx hb d_bk_readException_21 rfl (lv_at hl 0 rfl) ?_
      refine lv_aload_n hx hb d_bk_readException_22 rfl (lv_at hl 2 rfl) ?_
      refine hm_get E (tB in_bk) hK hH (hw.at 0 rfl) rfl 1 (by decide) (tC wm_74) rfl d_bk_readException_23 ?_
      refine hn_icmp_ge (a := i) (b := dn) hx hb (by omega) (by omega) (tgt := 96) d_bk_readException_26 (by decide) (fun h26 => ?_) (fun h26 => ?_)
      · skip
        have hie : i = dn := by omega
        rw [hie] at hp hf hok hw hl
        refine lv_iload_n hx hb d_bk_readException_96 rfl (lv_at hl 1 rfl) ?_
        refine hb_if_eq (b := blt dr dn) hx hb (tgt := 116) d_bk_readException_97 (by decide) (fun h97 => ?_) (fun h97 => ?_)
        · skip
          refine lv_iconst (v := 0) hx hb d_bk_readException_116 (by decide) ?_
          exact hm_zret E hr hlk hH (by decide) (by first | exact ⟨true, xz dr dn + 1 + 1, upd f (xz dr dn + 1) 46, xnm dr dn, rfl, ⟨fun _ => rx_ok hok h97 (by omega), fun _ => rfl⟩, by omega, hw, fun _ => ⟨rfl, rx_row hf, rfl⟩, hk⟩ | exact ⟨false, xz dr dn + 1, f, xnm dr dn, rfl, ⟨fun z => (by cases z), fun z => absurd z (rx_end h97)⟩, by omega, hw, fun z => absurd z (rx_end h97), hk⟩ | exact ⟨false, xz dr dn + 1, f, xnm dr dn, rfl, ⟨fun z => (by cases z), fun z => absurd z (fun z9 => absurd z9.2.2.2 (by omega))⟩, by omega, hw, fun z => absurd z (fun z9 => absurd z9.2.2.2 (by omega)), hk⟩) (by omega) (by omega) d_bk_readException_117
        · skip
          refine lv_aload_n hx hb d_bk_readException_100 rfl (lv_at hl 2 rfl) ?_
          refine hm_get E (tB in_bk) hK hH (hw.at 0 rfl) rfl 6 (by decide) (tC wm_79) rfl d_bk_readException_101 ?_
          refine lv_bipush (v := 46) hx hb d_bk_readException_104 (by decide) ?_
          have hM1 := c_rw_append l G rr rsg rnm (xz dr dn + 1) f 46 M (hw.sub (ws' := [(rr, .inr (1, [.ref rsg, .ref rnm, .int (nI (xz dr dn + 1))])), (rsg, aI G 65 f)]) [1, 2] rfl rfl) (by omega) H.size
          have hG1 : GoodIn w_bk_readException (wsV R_bk 136 R_rw y_rw_append w_rw_append) := gB_V wm_171 wm_172 wm_173 wm_4 wm_174
          refine hm_call (va_runV (y := y_rw_append) (bytes := b_rw_append) (maxL := 2) (ws := w_rw_append) (rm := { frames := 0, cells := 0, slots := 0, locals := 0 }) (own := R_bk) (index := 136) (ret := (Option.some Jvm.ClassFile.FieldType.boolean)) (C := R_rw) (As := [.int 46]) (rest := []) E hM1 (cwV (y := y_rw_append) (bytes := b_rw_append) (maxL := 2) (ws := w_rw_append) (rm := { frames := 0, cells := 0, slots := 0, locals := 0 }) (own := R_bk) (index := 136) (ret := (Option.some Jvm.ClassFile.FieldType.boolean)) (C := R_rw) 1 hts hG1 rfl rfl rfl (by decide +kernel) ⟨Nat.le_of_ble_eq_true rfl, Nat.le_of_ble_eq_true rfl⟩) (hm_preV gk_w gk_s hH hg hK (hw.at 1 rfl) rfl [.int 46]) rfl rfl hl.1 rfl (lv_room (Nat.le_of_ble_eq_true rfl)) d_bk_readException_106 ⟨(by show _ ≤ 0; omega), (by show _ ≤ 0; omega)⟩) hH (fun r1 M1 H1 locs1 hq1 hH1 => ?_)
          replace hH := hH1; clear hH1; generalize H1 = H at hH ⊢; generalize locs1 = locs at hH ⊢
          obtain ⟨b9, rfl, hbt, hbf⟩ := ap_ex hq1
          refine hb_if_eq (b := b9) hx hb (tgt := 116) d_bk_readException_109 (by decide) (fun h109 => ?_) (fun h109 => ?_)
          · skip
            obtain ⟨hge, hMe⟩ := hbf h109
            subst hMe
            refine lv_iconst (v := 0) hx hb d_bk_readException_116 (by decide) ?_
            exact hm_zret E hr hlk hH (by decide) (by first | exact ⟨true, xz dr dn + 1 + 1, upd f (xz dr dn + 1) 46, xnm dr dn, rfl, ⟨fun _ => rx_ok hok h97 (by omega), fun _ => rfl⟩, by omega, hw, fun _ => ⟨rfl, rx_row hf, rfl⟩, hk⟩ | exact ⟨false, xz dr dn + 1, f, xnm dr dn, rfl, ⟨fun z => (by cases z), fun z => absurd z (rx_end h97)⟩, by omega, hw, fun z => absurd z (rx_end h97), hk⟩ | exact ⟨false, xz dr dn + 1, f, xnm dr dn, rfl, ⟨fun z => (by cases z), fun z => absurd z (fun z9 => absurd z9.2.2.2 (by omega))⟩, by omega, hw, fun z => absurd z (fun z9 => absurd z9.2.2.2 (by omega)), hk⟩) (by omega) (by omega) d_bk_readException_117
          · skip
            obtain ⟨hlt, hw1, hk1⟩ := hbt h109
            have hw := hm_join (ws' := [(x, .inr (3, [.ref d, .int (nI dn), .int (nI lf), .int (nI rt), .ref pt, .ref xt, .ref rr, .ref ar])), (rr, .inr (1, [.ref rsg, .ref rnm, .int (nI (xz dr dn + 1 + 1))])), (rsg, aI G 65 (upd f (xz dr dn + 1) 46)), (rnm, aI G 66 (xnm dr dn)), (d, aI G 200 dr)]) (wc := [(rr, .inr (1, [.ref rsg, .ref rnm, .int (nI (xz dr dn + 1))])), (rsg, aI G 65 f)]) hw hw1 hk1 [1, 2] rfl rfl (fun _ h => h) rfl (by
              intro k9 h9
              match k9, h9 with
              | 0, _ => exact Or.inl ⟨by decide, rfl⟩
              | 1, _ => exact Or.inr ⟨0, rfl, rfl⟩
              | 2, _ => exact Or.inr ⟨1, rfl, rfl⟩
              | 3, _ => exact Or.inl ⟨by decide, rfl⟩
              | 4, _ => exact Or.inl ⟨by decide, rfl⟩
              | k9 + 5, h9 => exact absurd h9 (Nat.not_lt_of_le (Nat.le_add_left _ _)))
            have hk := hk.tr hk1 (fun a h => by simp at h; rcases h with rfl | rfl <;> simp)
            generalize M1 = M at hH hw hk
            refine lv_iconst (v := 1) hx hb d_bk_readException_112 (by decide) ?_
            refine lv_goto (tgt := 117) hx hb d_bk_readException_113 (by decide) ?_
            exact hm_zret E hr hlk hH (by decide) (by first | exact ⟨true, xz dr dn + 1 + 1, upd f (xz dr dn + 1) 46, xnm dr dn, rfl, ⟨fun _ => rx_ok hok h97 (by omega), fun _ => rfl⟩, by omega, hw, fun _ => ⟨rfl, rx_row hf, rfl⟩, hk⟩ | exact ⟨false, xz dr dn + 1, f, xnm dr dn, rfl, ⟨fun z => (by cases z), fun z => absurd z (rx_end h97)⟩, by omega, hw, fun z => absurd z (rx_end h97), hk⟩ | exact ⟨false, xz dr dn + 1, f, xnm dr dn, rfl, ⟨fun z => (by cases z), fun z => absurd z (fun z9 => absurd z9.2.2.2 (by omega))⟩, by omega, hw, fun z => absurd z (fun z9 => absurd z9.2.2.2 (by omega)), hk⟩) (by omega) (by omega) d_bk_readException_117
      · skip
        refine lv_aload_n hx hb d_bk_readException_29 rfl (lv_at hl 2 rfl) ?_
        refine hm_get E (tB in_bk) hK hH (hw.at 0 rfl) rfl 0 (by decide) (tC wm_73) rfl d_bk_readException_30 ?_
        refine lv_iload_n hx hb d_bk_readException_33 rfl (lv_at hl 0 rfl) ?_
        have hM1 := c_bk_elementAt l G d 200 dr i M (hw.sub (ws' := [(d, aI G 200 dr)]) [4] rfl rfl) (by decide) (by omega) H.size
        have hG1 : GoodIn w_bk_readException (wsS R_bk 118 y_bk_elementAt w_bk_elementAt) := gB_S wm_160 wm_126 wm_1 wm_127
        refine hm_call (va_runS (y := y_bk_elementAt) (bytes := b_bk_elementAt) (maxL := 2) (ws := w_bk_elementAt) (rm := { frames := 0, cells := 0, slots := 0, locals := 0 }) (own := R_bk) (index := 118) (ret := (Option.some Jvm.ClassFile.FieldType.int)) (As := [.ref d, .int (nI i)]) (rest := []) E hM1 (cwS (y := y_bk_elementAt) (bytes := b_bk_elementAt) (maxL := 2) (ws := w_bk_elementAt) (rm := { frames := 0, cells := 0, slots := 0, locals := 0 }) (own := R_bk) (index := 118) (ret := (Option.some Jvm.ClassFile.FieldType.int)) 2 hts hG1 rfl rfl rfl (by decide +kernel) ⟨Nat.le_of_ble_eq_true rfl, Nat.le_of_ble_eq_true rfl⟩) (hm_preS gk_w gk_s hH hg [.ref d, .int (nI i)]) rfl rfl hl.1 rfl (lv_room (Nat.le_of_ble_eq_true rfl)) d_bk_readException_34 ⟨(by show _ ≤ 0; omega), (by show _ ≤ 0; omega)⟩) hH (fun r1 M1 H1 locs1 hq1 hH1 => ?_)
        obtain ⟨rfl, e1⟩ := hq1
        replace hH := hH1; rw [e1] at hH; clear hH1 e1; generalize H1 = H at hH ⊢; generalize locs1 = locs at hH ⊢
        refine hm_top (w := .int (dr i)) (by rw [if_pos (by omega)]) ?_
        refine lv_istore_n (lv' := [(3, .int (dr i)), (2, .int (nI i)), (1, .int (bI (blt dr i))), (0, .ref x)]) hx hb d_bk_readException_37 rfl hl (by decide) rfl (fun ls hl => ?_)
        refine lv_iload_n hx hb d_bk_readException_38 rfl (lv_at hl 0 rfl) ?_
        refine lv_bipush (v := 45) hx hb d_bk_readException_39 (by decide) ?_
        refine hc_icmp_ne (x := dr i) (y := 45) (c9 := 45) hx hb (by decide) (tgt := 68) d_bk_readException_41 (by decide) (fun h41 => ?_) (fun h41 => ?_)
        · skip
          refine lv_iload_n hx hb d_bk_readException_68 rfl (lv_at hl 0 rfl) ?_
          have hM1 := c_bk_isLetter l G (dr i) M H.size
          have hG1 : GoodIn w_bk_readException (wsS R_bk 133 y_bk_isLetter w_bk_isLetter) := gB_S wm_168 wm_169 wm_1 wm_170
          refine hm_call (va_runS (y := y_bk_isLetter) (bytes := b_bk_isLetter) (maxL := 1) (ws := w_bk_isLetter) (rm := { frames := 0, cells := 0, slots := 0, locals := 0 }) (own := R_bk) (index := 133) (ret := (Option.some Jvm.ClassFile.FieldType.boolean)) (As := [.int (dr i)]) (rest := []) E hM1 (cwS (y := y_bk_isLetter) (bytes := b_bk_isLetter) (maxL := 1) (ws := w_bk_isLetter) (rm := { frames := 0, cells := 0, slots := 0, locals := 0 }) (own := R_bk) (index := 133) (ret := (Option.some Jvm.ClassFile.FieldType.boolean)) 1 hts hG1 rfl rfl rfl (by decide +kernel) ⟨Nat.le_of_ble_eq_true rfl, Nat.le_of_ble_eq_true rfl⟩) (hm_preS gk_w gk_s hH hg [.int (dr i)]) rfl rfl hl.1 rfl (lv_room (Nat.le_of_ble_eq_true rfl)) d_bk_readException_69 ⟨(by show _ ≤ 0; omega), (by show _ ≤ 0; omega)⟩) hH (fun r1 M1 H1 locs1 hq1 hH1 => ?_)
          obtain ⟨rfl, e1⟩ := hq1
          replace hH := hH1; rw [e1] at hH; clear hH1 e1; generalize H1 = H at hH ⊢; generalize locs1 = locs at hH ⊢
          refine hb_if_eq (b := isL (dr i)) hx hb (tgt := 86) d_bk_readException_72 (by decide) (fun h72 => ?_) (fun h72 => ?_)
          · skip
            refine lv_iconst (v := 0) hx hb d_bk_readException_86 (by decide) ?_
            exact hm_zret E hr hlk hH (by decide) (by first | exact ⟨false, xz dr i + 1, f, xnm dr i, rfl, ⟨fun z => (by cases z), fun z => absurd z (rx_bad (by omega) h72 (Or.inl h41))⟩, by omega, hw, fun z => absurd z (rx_bad (by omega) h72 (Or.inl h41)), hk⟩ | exact ⟨false, xz dr i + 1, f, xnm dr i, rfl, ⟨fun z => (by cases z), fun z => absurd z (rx_bad (by omega) h72 (Or.inr h45))⟩, by omega, hw, fun z => absurd z (rx_bad (by omega) h72 (Or.inr h45)), hk⟩ | exact ⟨false, xz dr i + 1, f, xnm dr i, rfl, ⟨fun z => (by cases z), fun z => absurd z (rx_long (by omega) h72 hge)⟩, by omega, hw, fun z => absurd z (rx_long (by omega) h72 hge), hk⟩) (by omega) (by omega) d_bk_readException_87
          · skip
            refine lv_aload_n hx hb d_bk_readException_75 rfl (lv_at hl 3 rfl) ?_
            refine hm_get E (tB in_bk) hK hH (hw.at 0 rfl) rfl 6 (by decide) (tC wm_79) rfl d_bk_readException_76 ?_
            refine lv_iload_n hx hb d_bk_readException_79 rfl (lv_at hl 0 rfl) ?_
            have hM1 := c_rw_append l G rr rsg rnm (xz dr i + 1) f (dr i) M (hw.sub (ws' := [(rr, .inr (1, [.ref rsg, .ref rnm, .int (nI (xz dr i + 1))])), (rsg, aI G 65 f)]) [1, 2] rfl rfl) (by omega) H.size
            have hG1 : GoodIn w_bk_readException (wsV R_bk 136 R_rw y_rw_append w_rw_append) := gB_V wm_171 wm_172 wm_173 wm_4 wm_174
            refine hm_call (va_runV (y := y_rw_append) (bytes := b_rw_append) (maxL := 2) (ws := w_rw_append) (rm := { frames := 0, cells := 0, slots := 0, locals := 0 }) (own := R_bk) (index := 136) (ret := (Option.some Jvm.ClassFile.FieldType.boolean)) (C := R_rw) (As := [.int (dr i)]) (rest := []) E hM1 (cwV (y := y_rw_append) (bytes := b_rw_append) (maxL := 2) (ws := w_rw_append) (rm := { frames := 0, cells := 0, slots := 0, locals := 0 }) (own := R_bk) (index := 136) (ret := (Option.some Jvm.ClassFile.FieldType.boolean)) (C := R_rw) 1 hts hG1 rfl rfl rfl (by decide +kernel) ⟨Nat.le_of_ble_eq_true rfl, Nat.le_of_ble_eq_true rfl⟩) (hm_preV gk_w gk_s hH hg hK (hw.at 1 rfl) rfl [.int (dr i)]) rfl rfl hl.1 rfl (lv_room (Nat.le_of_ble_eq_true rfl)) d_bk_readException_80 ⟨(by show _ ≤ 0; omega), (by show _ ≤ 0; omega)⟩) hH (fun r1 M1 H1 locs1 hq1 hH1 => ?_)
            replace hH := hH1; clear hH1; generalize H1 = H at hH ⊢; generalize locs1 = locs at hH ⊢
            obtain ⟨b9, rfl, hbt, hbf⟩ := ap_ex hq1
            refine hb_if_ne (b := b9) hx hb (tgt := 88) d_bk_readException_83 (by decide) (fun h83 => ?_) (fun h83 => ?_)
            · skip
              obtain ⟨hlt, hw1, hk1⟩ := hbt h83
              have hw := hm_join (ws' := [(x, .inr (3, [.ref d, .int (nI dn), .int (nI lf), .int (nI rt), .ref pt, .ref xt, .ref rr, .ref ar])), (rr, .inr (1, [.ref rsg, .ref rnm, .int (nI (xz dr i + 1 + 1))])), (rsg, aI G 65 (upd f (xz dr i + 1) (dr i))), (rnm, aI G 66 (xnm dr i)), (d, aI G 200 dr)]) (wc := [(rr, .inr (1, [.ref rsg, .ref rnm, .int (nI (xz dr i + 1))])), (rsg, aI G 65 f)]) hw hw1 hk1 [1, 2] rfl rfl (fun _ h => h) rfl (by
                intro k9 h9
                match k9, h9 with
                | 0, _ => exact Or.inl ⟨by decide, rfl⟩
                | 1, _ => exact Or.inr ⟨0, rfl, rfl⟩
                | 2, _ => exact Or.inr ⟨1, rfl, rfl⟩
                | 3, _ => exact Or.inl ⟨by decide, rfl⟩
                | 4, _ => exact Or.inl ⟨by decide, rfl⟩
                | k9 + 5, h9 => exact absurd h9 (Nat.not_lt_of_le (Nat.le_add_left _ _)))
              have hk := hk.tr hk1 (fun a h => by simp at h; rcases h with rfl | rfl <;> simp)
              generalize M1 = M at hH hw hk
              have e1 : xnm dr (i + 1) = xnm dr i := by simp [xnm, h72]
              have e2 : xz dr (i + 1) = xz dr i + 1 := by simp [xz, h72]
              refine lv_iconst (v := 1) hx hb d_bk_readException_88 (by decide) ?_
              refine lv_istore_n (lv' := [(1, .int 1), (3, .int (dr i)), (2, .int (nI i)), (0, .ref x)]) hx hb d_bk_readException_89 rfl hl (by decide) rfl (fun ls hl => ?_)
              refine lv_iinc (v := nI (i + 1)) (lv' := [(2, .int (nI (i + 1))), (1, .int 1), (3, .int (dr i)), (0, .ref x)]) hx hb d_bk_readException_90 hl (k := 2) rfl (by first | exact nI_add _ 1 | (show nI _ + nI _ = _; rw [nI_add])) (by decide) rfl (fun ls hl => ?_)
              refine lv_goto (tgt := 21) hx hb d_bk_readException_93 (by decide) ?_
              exact ih (i + 1) (upd f (xz dr i + 1) (dr i)) M _ _ _ (by omega) (by omega) (by rw [e2]; omega) (rx_app hf h72) (rx_S hok (Or.inl h72)) (by rw [e1, e2]; exact hw) hk hH (lv_cv (lv_sub hl [0, 1, 3] rfl) (by rw [blt_s, h72, bI_t]; rfl))
            · skip
              obtain ⟨hge, hMe⟩ := hbf h83
              subst hMe
              refine lv_iconst (v := 0) hx hb d_bk_readException_86 (by decide) ?_
              exact hm_zret E hr hlk hH (by decide) (by first | exact ⟨false, xz dr i + 1, f, xnm dr i, rfl, ⟨fun z => (by cases z), fun z => absurd z (rx_bad (by omega) h72 (Or.inl h41))⟩, by omega, hw, fun z => absurd z (rx_bad (by omega) h72 (Or.inl h41)), hk⟩ | exact ⟨false, xz dr i + 1, f, xnm dr i, rfl, ⟨fun z => (by cases z), fun z => absurd z (rx_bad (by omega) h72 (Or.inr h45))⟩, by omega, hw, fun z => absurd z (rx_bad (by omega) h72 (Or.inr h45)), hk⟩ | exact ⟨false, xz dr i + 1, f, xnm dr i, rfl, ⟨fun z => (by cases z), fun z => absurd z (rx_long (by omega) h72 hge)⟩, by omega, hw, fun z => absurd z (rx_long (by omega) h72 hge), hk⟩) (by omega) (by omega) d_bk_readException_87
        · skip
          refine lv_iload_n hx hb d_bk_readException_44 rfl (lv_at hl 2 rfl) ?_
          refine hb_if_eq (b := blt dr i) hx hb (tgt := 68) d_bk_readException_45 (by decide) (fun h45 => ?_) (fun h45 => ?_)
          · skip
            refine lv_iload_n hx hb d_bk_readException_68 rfl (lv_at hl 0 rfl) ?_
            have hM1 := c_bk_isLetter l G (dr i) M H.size
            have hG1 : GoodIn w_bk_readException (wsS R_bk 133 y_bk_isLetter w_bk_isLetter) := gB_S wm_168 wm_169 wm_1 wm_170
            refine hm_call (va_runS (y := y_bk_isLetter) (bytes := b_bk_isLetter) (maxL := 1) (ws := w_bk_isLetter) (rm := { frames := 0, cells := 0, slots := 0, locals := 0 }) (own := R_bk) (index := 133) (ret := (Option.some Jvm.ClassFile.FieldType.boolean)) (As := [.int (dr i)]) (rest := []) E hM1 (cwS (y := y_bk_isLetter) (bytes := b_bk_isLetter) (maxL := 1) (ws := w_bk_isLetter) (rm := { frames := 0, cells := 0, slots := 0, locals := 0 }) (own := R_bk) (index := 133) (ret := (Option.some Jvm.ClassFile.FieldType.boolean)) 1 hts hG1 rfl rfl rfl (by decide +kernel) ⟨Nat.le_of_ble_eq_true rfl, Nat.le_of_ble_eq_true rfl⟩) (hm_preS gk_w gk_s hH hg [.int (dr i)]) rfl rfl hl.1 rfl (lv_room (Nat.le_of_ble_eq_true rfl)) d_bk_readException_69 ⟨(by show _ ≤ 0; omega), (by show _ ≤ 0; omega)⟩) hH (fun r1 M1 H1 locs1 hq1 hH1 => ?_)
            obtain ⟨rfl, e1⟩ := hq1
            replace hH := hH1; rw [e1] at hH; clear hH1 e1; generalize H1 = H at hH ⊢; generalize locs1 = locs at hH ⊢
            refine hb_if_eq (b := isL (dr i)) hx hb (tgt := 86) d_bk_readException_72 (by decide) (fun h72 => ?_) (fun h72 => ?_)
            · skip
              refine lv_iconst (v := 0) hx hb d_bk_readException_86 (by decide) ?_
              exact hm_zret E hr hlk hH (by decide) (by first | exact ⟨false, xz dr i + 1, f, xnm dr i, rfl, ⟨fun z => (by cases z), fun z => absurd z (rx_bad (by omega) h72 (Or.inl h41))⟩, by omega, hw, fun z => absurd z (rx_bad (by omega) h72 (Or.inl h41)), hk⟩ | exact ⟨false, xz dr i + 1, f, xnm dr i, rfl, ⟨fun z => (by cases z), fun z => absurd z (rx_bad (by omega) h72 (Or.inr h45))⟩, by omega, hw, fun z => absurd z (rx_bad (by omega) h72 (Or.inr h45)), hk⟩ | exact ⟨false, xz dr i + 1, f, xnm dr i, rfl, ⟨fun z => (by cases z), fun z => absurd z (rx_long (by omega) h72 hge)⟩, by omega, hw, fun z => absurd z (rx_long (by omega) h72 hge), hk⟩) (by omega) (by omega) d_bk_readException_87
            · skip
              refine lv_aload_n hx hb d_bk_readException_75 rfl (lv_at hl 3 rfl) ?_
              refine hm_get E (tB in_bk) hK hH (hw.at 0 rfl) rfl 6 (by decide) (tC wm_79) rfl d_bk_readException_76 ?_
              refine lv_iload_n hx hb d_bk_readException_79 rfl (lv_at hl 0 rfl) ?_
              have hM1 := c_rw_append l G rr rsg rnm (xz dr i + 1) f (dr i) M (hw.sub (ws' := [(rr, .inr (1, [.ref rsg, .ref rnm, .int (nI (xz dr i + 1))])), (rsg, aI G 65 f)]) [1, 2] rfl rfl) (by omega) H.size
              have hG1 : GoodIn w_bk_readException (wsV R_bk 136 R_rw y_rw_append w_rw_append) := gB_V wm_171 wm_172 wm_173 wm_4 wm_174
              refine hm_call (va_runV (y := y_rw_append) (bytes := b_rw_append) (maxL := 2) (ws := w_rw_append) (rm := { frames := 0, cells := 0, slots := 0, locals := 0 }) (own := R_bk) (index := 136) (ret := (Option.some Jvm.ClassFile.FieldType.boolean)) (C := R_rw) (As := [.int (dr i)]) (rest := []) E hM1 (cwV (y := y_rw_append) (bytes := b_rw_append) (maxL := 2) (ws := w_rw_append) (rm := { frames := 0, cells := 0, slots := 0, locals := 0 }) (own := R_bk) (index := 136) (ret := (Option.some Jvm.ClassFile.FieldType.boolean)) (C := R_rw) 1 hts hG1 rfl rfl rfl (by decide +kernel) ⟨Nat.le_of_ble_eq_true rfl, Nat.le_of_ble_eq_true rfl⟩) (hm_preV gk_w gk_s hH hg hK (hw.at 1 rfl) rfl [.int (dr i)]) rfl rfl hl.1 rfl (lv_room (Nat.le_of_ble_eq_true rfl)) d_bk_readException_80 ⟨(by show _ ≤ 0; omega), (by show _ ≤ 0; omega)⟩) hH (fun r1 M1 H1 locs1 hq1 hH1 => ?_)
              replace hH := hH1; clear hH1; generalize H1 = H at hH ⊢; generalize locs1 = locs at hH ⊢
              obtain ⟨b9, rfl, hbt, hbf⟩ := ap_ex hq1
              refine hb_if_ne (b := b9) hx hb (tgt := 88) d_bk_readException_83 (by decide) (fun h83 => ?_) (fun h83 => ?_)
              · skip
                obtain ⟨hlt, hw1, hk1⟩ := hbt h83
                have hw := hm_join (ws' := [(x, .inr (3, [.ref d, .int (nI dn), .int (nI lf), .int (nI rt), .ref pt, .ref xt, .ref rr, .ref ar])), (rr, .inr (1, [.ref rsg, .ref rnm, .int (nI (xz dr i + 1 + 1))])), (rsg, aI G 65 (upd f (xz dr i + 1) (dr i))), (rnm, aI G 66 (xnm dr i)), (d, aI G 200 dr)]) (wc := [(rr, .inr (1, [.ref rsg, .ref rnm, .int (nI (xz dr i + 1))])), (rsg, aI G 65 f)]) hw hw1 hk1 [1, 2] rfl rfl (fun _ h => h) rfl (by
                  intro k9 h9
                  match k9, h9 with
                  | 0, _ => exact Or.inl ⟨by decide, rfl⟩
                  | 1, _ => exact Or.inr ⟨0, rfl, rfl⟩
                  | 2, _ => exact Or.inr ⟨1, rfl, rfl⟩
                  | 3, _ => exact Or.inl ⟨by decide, rfl⟩
                  | 4, _ => exact Or.inl ⟨by decide, rfl⟩
                  | k9 + 5, h9 => exact absurd h9 (Nat.not_lt_of_le (Nat.le_add_left _ _)))
                have hk := hk.tr hk1 (fun a h => by simp at h; rcases h with rfl | rfl <;> simp)
                generalize M1 = M at hH hw hk
                have e1 : xnm dr (i + 1) = xnm dr i := by simp [xnm, h72]
                have e2 : xz dr (i + 1) = xz dr i + 1 := by simp [xz, h72]
                refine lv_iconst (v := 1) hx hb d_bk_readException_88 (by decide) ?_
                refine lv_istore_n (lv' := [(1, .int 1), (3, .int (dr i)), (2, .int (nI i)), (0, .ref x)]) hx hb d_bk_readException_89 rfl hl (by decide) rfl (fun ls hl => ?_)
                refine lv_iinc (v := nI (i + 1)) (lv' := [(2, .int (nI (i + 1))), (1, .int 1), (3, .int (dr i)), (0, .ref x)]) hx hb d_bk_readException_90 hl (k := 2) rfl (by first | exact nI_add _ 1 | (show nI _ + nI _ = _; rw [nI_add])) (by decide) rfl (fun ls hl => ?_)
                refine lv_goto (tgt := 21) hx hb d_bk_readException_93 (by decide) ?_
                exact ih (i + 1) (upd f (xz dr i + 1) (dr i)) M _ _ _ (by omega) (by omega) (by rw [e2]; omega) (rx_app hf h72) (rx_S hok (Or.inl h72)) (by rw [e1, e2]; exact hw) hk hH (lv_cv (lv_sub hl [0, 1, 3] rfl) (by rw [blt_s, h72, bI_t]; rfl))
              · skip
                obtain ⟨hge, hMe⟩ := hbf h83
                subst hMe
                refine lv_iconst (v := 0) hx hb d_bk_readException_86 (by decide) ?_
                exact hm_zret E hr hlk hH (by decide) (by first | exact ⟨false, xz dr i + 1, f, xnm dr i, rfl, ⟨fun z => (by cases z), fun z => absurd z (rx_bad (by omega) h72 (Or.inl h41))⟩, by omega, hw, fun z => absurd z (rx_bad (by omega) h72 (Or.inl h41)), hk⟩ | exact ⟨false, xz dr i + 1, f, xnm dr i, rfl, ⟨fun z => (by cases z), fun z => absurd z (rx_bad (by omega) h72 (Or.inr h45))⟩, by omega, hw, fun z => absurd z (rx_bad (by omega) h72 (Or.inr h45)), hk⟩ | exact ⟨false, xz dr i + 1, f, xnm dr i, rfl, ⟨fun z => (by cases z), fun z => absurd z (rx_long (by omega) h72 hge)⟩, by omega, hw, fun z => absurd z (rx_long (by omega) h72 hge), hk⟩) (by omega) (by omega) d_bk_readException_87
          · skip
            refine lv_aload_n hx hb d_bk_readException_48 rfl (lv_at hl 3 rfl) ?_
            refine hm_get E (tB in_bk) hK hH (hw.at 0 rfl) rfl 6 (by decide) (tC wm_79) rfl d_bk_readException_49 ?_
            refine lv_aload_n hx hb d_bk_readException_52 rfl (lv_at hl 3 rfl) ?_
            refine hm_get E (tB in_bk) hK hH (hw.at 0 rfl) rfl 6 (by decide) (tC wm_79) rfl d_bk_readException_53 ?_
            have hM1 := c_rw_size l G rr rsg rnm (xz dr i + 1) M (hw.sub (ws' := [(rr, .inr (1, [.ref rsg, .ref rnm, .int (nI (xz dr i + 1))]))]) [1] rfl rfl) H.size
            have hG1 : GoodIn w_bk_readException (wsV R_bk 126 R_rw y_rw_size w_rw_size) := gB_V wm_114 wm_115 wm_116 wm_4 wm_117
            refine hm_call (va_runV (y := y_rw_size) (bytes := b_rw_size) (maxL := 1) (ws := w_rw_size) (rm := { frames := 0, cells := 0, slots := 0, locals := 0 }) (own := R_bk) (index := 126) (ret := (Option.some Jvm.ClassFile.FieldType.int)) (C := R_rw) (As := []) (rest := [.ref rr]) E hM1 (cwV (y := y_rw_size) (bytes := b_rw_size) (maxL := 1) (ws := w_rw_size) (rm := { frames := 0, cells := 0, slots := 0, locals := 0 }) (own := R_bk) (index := 126) (ret := (Option.some Jvm.ClassFile.FieldType.int)) (C := R_rw) 0 hts hG1 rfl rfl rfl (by decide +kernel) ⟨Nat.le_of_ble_eq_true rfl, Nat.le_of_ble_eq_true rfl⟩) (hm_preV gk_w gk_s hH hg hK (hw.at 1 rfl) rfl []) rfl rfl hl.1 rfl (lv_room (Nat.le_of_ble_eq_true rfl)) d_bk_readException_56 ⟨(by show _ ≤ 0; omega), (by show _ ≤ 0; omega)⟩) hH (fun r1 M1 H1 locs1 hq1 hH1 => ?_)
            obtain ⟨rfl, e1⟩ := hq1
            replace hH := hH1; rw [e1] at hH; clear hH1 e1; generalize H1 = H at hH ⊢; generalize locs1 = locs at hH ⊢
            refine lv_iconst (v := 1) hx hb d_bk_readException_59 (by decide) ?_
            have hM1 := c_rw_setNumber l G rr rsg rnm (xz dr i + 1) (xnm dr i) (xz dr i + 1) 1 M (hw.sub (ws' := [(rr, .inr (1, [.ref rsg, .ref rnm, .int (nI (xz dr i + 1))])), (rnm, aI G 66 (xnm dr i))]) [1, 3] rfl rfl) (by omega) H.size
            have hG1 : GoodIn w_bk_readException (wsV R_bk 129 R_rw y_rw_setNumber w_rw_setNumber) := gB_V wm_164 wm_165 wm_166 wm_4 wm_167
            refine hm_call (va_runV (y := y_rw_setNumber) (bytes := b_rw_setNumber) (maxL := 3) (ws := w_rw_setNumber) (rm := { frames := 0, cells := 0, slots := 0, locals := 0 }) (own := R_bk) (index := 129) (ret := (Option.none : Option Jvm.ClassFile.FieldType)) (C := R_rw) (As := [.int (nI (xz dr i + 1)), .int 1]) (rest := []) E hM1 (cwV (y := y_rw_setNumber) (bytes := b_rw_setNumber) (maxL := 3) (ws := w_rw_setNumber) (rm := { frames := 0, cells := 0, slots := 0, locals := 0 }) (own := R_bk) (index := 129) (ret := (Option.none : Option Jvm.ClassFile.FieldType)) (C := R_rw) 2 hts hG1 rfl rfl rfl (by decide +kernel) ⟨Nat.le_of_ble_eq_true rfl, Nat.le_of_ble_eq_true rfl⟩) (hm_preV gk_w gk_s hH hg hK (hw.at 1 rfl) rfl [.int (nI (xz dr i + 1)), .int 1]) rfl rfl hl.1 rfl (lv_room (Nat.le_of_ble_eq_true rfl)) d_bk_readException_60 ⟨(by show _ ≤ 0; omega), (by show _ ≤ 0; omega)⟩) hH (fun r1 M1 H1 locs1 hq1 hH1 => ?_)
            replace hH := hH1; clear hH1; generalize H1 = H at hH ⊢; generalize locs1 = locs at hH ⊢
            obtain ⟨rfl, hw1, hk1⟩ := hq1
            have hw := hm_join (ws' := [(x, .inr (3, [.ref d, .int (nI dn), .int (nI lf), .int (nI rt), .ref pt, .ref xt, .ref rr, .ref ar])), (rr, .inr (1, [.ref rsg, .ref rnm, .int (nI (xz dr i + 1))])), (rsg, aI G 65 f), (rnm, aI G 66 (upd (xnm dr i) (xz dr i + 1) 1)), (d, aI G 200 dr)]) (wc := [(rr, .inr (1, [.ref rsg, .ref rnm, .int (nI (xz dr i + 1))])), (rnm, aI G 66 (xnm dr i))]) hw hw1 hk1 [1, 3] rfl rfl (fun a h => by simp at h; simp [h]) rfl (by
              intro k9 h9
              match k9, h9 with
              | 0, _ => exact Or.inl ⟨by decide, rfl⟩
              | 1, _ => exact Or.inr ⟨0, rfl, rfl⟩
              | 2, _ => exact Or.inl ⟨by decide, rfl⟩
              | 3, _ => exact Or.inr ⟨1, rfl, rfl⟩
              | 4, _ => exact Or.inl ⟨by decide, rfl⟩
              | k9 + 5, h9 => exact absurd h9 (Nat.not_lt_of_le (Nat.le_add_left _ _)))
            have hk := hk.tr hk1 (fun a h => by simp at h; simp [h])
            generalize M1 = M at hH hw hk
            have hnl : isL (dr i) = false := by rw [eq45_iff.mpr h41]; exact isL_45
            have e1 : xnm dr (i + 1) = upd (xnm dr i) (xz dr i + 1) 1 := by rw [Nat.add_comm (xz dr i) 1]; simp [xnm, hnl]
            have e2 : xz dr (i + 1) = xz dr i := by simp [xz, hnl]
            refine lv_iconst (v := 0) hx hb d_bk_readException_63 (by decide) ?_
            refine lv_istore_n (lv' := [(1, .int 0), (3, .int (dr i)), (2, .int (nI i)), (0, .ref x)]) hx hb d_bk_readException_64 rfl hl (by decide) rfl (fun ls hl => ?_)
            refine lv_goto (tgt := 90) hx hb d_bk_readException_65 (by decide) ?_
            refine lv_iinc (v := nI (i + 1)) (lv' := [(2, .int (nI (i + 1))), (1, .int 0), (3, .int (dr i)), (0, .ref x)]) hx hb d_bk_readException_90 hl (k := 2) rfl (by first | exact nI_add _ 1 | (show nI _ + nI _ = _; rw [nI_add])) (by decide) rfl (fun ls hl => ?_)
            refine lv_goto (tgt := 21) hx hb d_bk_readException_93 (by decide) ?_
            exact ih (i + 1) f M _ _ _ (by omega) (by omega) (by rw [e2]; exact hp) (rx_hy hf hnl) (rx_S hok (Or.inr ⟨eq45_iff.mpr h41, blt_iff.mp h45⟩)) (by rw [e1, e2]; exact hw) hk hH (lv_cv (lv_sub hl [0, 1, 3] rfl) (by rw [blt_s, hnl, bI_f]; rfl))
  refine lv_aload_n hx hb d_bk_readException_0 rfl (lv_at hl 0 rfl) ?_
  refine hm_get E (tB in_bk) hK hH (hw.at 0 rfl) rfl 6 (by decide) (tC wm_79) rfl d_bk_readException_1 ?_
  have hM1 := c_rw_clear l G rr rsg rnm sz g M (hw.sub (ws' := [(rr, .inr (1, [.ref rsg, .ref rnm, .int (nI sz)])), (rnm, aI G 66 g)]) [1, 3] rfl rfl) s.heap.size
  have hG1 : GoodIn w_bk_readException (wsV R_bk 115 R_rw y_rw_clear w_rw_clear) := gB_V wm_153 wm_154 wm_155 wm_4 wm_156
  refine hm_call (va_runV (y := y_rw_clear) (bytes := b_rw_clear) (maxL := 1) (ws := w_rw_clear) (rm := { frames := 1, cells := 0, slots := 0, locals := 23 }) (own := R_bk) (index := 115) (ret := (Option.none : Option Jvm.ClassFile.FieldType)) (C := R_rw) (As := []) (rest := []) E hM1 (cwV (y := y_rw_clear) (bytes := b_rw_clear) (maxL := 1) (ws := w_rw_clear) (rm := { frames := 1, cells := 0, slots := 0, locals := 23 }) (own := R_bk) (index := 115) (ret := (Option.none : Option Jvm.ClassFile.FieldType)) (C := R_rw) 0 hts hG1 rfl rfl rfl (by decide +kernel) ⟨Nat.le_of_ble_eq_true rfl, Nat.le_of_ble_eq_true rfl⟩) (hm_preV gk_w gk_s hH hg hK (hw.at 1 rfl) rfl []) rfl rfl hl.1 rfl (lv_room (Nat.le_of_ble_eq_true rfl)) d_bk_readException_4 ⟨(by show _ ≤ 0; omega), (by show _ ≤ 0; omega)⟩) hH (fun r1 M1 H1 locs1 hq1 hH1 => ?_)
  replace hH := hH1; clear hH1; generalize H1 = H at hH ⊢; generalize locs1 = locs at hH ⊢
  obtain ⟨rfl, hw1, hk1⟩ := hq1
  have hw := hm_join (ws' := [(x, .inr (3, [.ref d, .int (nI dn), .int (nI lf), .int (nI rt), .ref pt, .ref xt, .ref rr, .ref ar])), (rr, .inr (1, [.ref rsg, .ref rnm, .int (nI 0)])), (rsg, aI G 65 f), (rnm, aI G 66 (fun _ => 0)), (d, aI G 200 dr)]) (wc := [(rr, .inr (1, [.ref rsg, .ref rnm, .int (nI sz)])), (rnm, aI G 66 g)]) hw hw1 hk1 [1, 3] rfl rfl (fun a h => h) rfl (by
    intro k9 h9
    match k9, h9 with
    | 0, _ => exact Or.inl ⟨by decide, rfl⟩
    | 1, _ => exact Or.inr ⟨0, rfl, rfl⟩
    | 2, _ => exact Or.inl ⟨by decide, rfl⟩
    | 3, _ => exact Or.inr ⟨1, rfl, rfl⟩
    | 4, _ => exact Or.inl ⟨by decide, rfl⟩
    | k9 + 5, h9 => exact absurd h9 (Nat.not_lt_of_le (Nat.le_add_left _ _)))
  have hk := hk.tr hk1 (fun a h => by simp at h; rcases h with rfl | rfl <;> simp)
  generalize M1 = M at hH hw hk
  refine lv_aload_n hx hb d_bk_readException_7 rfl (lv_at hl 0 rfl) ?_
  refine hm_get E (tB in_bk) hK hH (hw.at 0 rfl) rfl 6 (by decide) (tC wm_79) rfl d_bk_readException_8 ?_
  refine lv_bipush (v := 46) hx hb d_bk_readException_11 (by decide) ?_
  have hM1 := c_rw_append l G rr rsg rnm 0 f 46 M (hw.sub (ws' := [(rr, .inr (1, [.ref rsg, .ref rnm, .int (nI 0)])), (rsg, aI G 65 f)]) [1, 2] rfl rfl) (by omega) H.size
  have hG1 : GoodIn w_bk_readException (wsV R_bk 136 R_rw y_rw_append w_rw_append) := gB_V wm_171 wm_172 wm_173 wm_4 wm_174
  refine hm_call (va_runV (y := y_rw_append) (bytes := b_rw_append) (maxL := 2) (ws := w_rw_append) (rm := { frames := 0, cells := 0, slots := 0, locals := 0 }) (own := R_bk) (index := 136) (ret := (Option.some Jvm.ClassFile.FieldType.boolean)) (C := R_rw) (As := [.int 46]) (rest := []) E hM1 (cwV (y := y_rw_append) (bytes := b_rw_append) (maxL := 2) (ws := w_rw_append) (rm := { frames := 0, cells := 0, slots := 0, locals := 0 }) (own := R_bk) (index := 136) (ret := (Option.some Jvm.ClassFile.FieldType.boolean)) (C := R_rw) 1 hts hG1 rfl rfl rfl (by decide +kernel) ⟨Nat.le_of_ble_eq_true rfl, Nat.le_of_ble_eq_true rfl⟩) (hm_preV gk_w gk_s hH hg hK (hw.at 1 rfl) rfl [.int 46]) rfl rfl hl.1 rfl (lv_room (Nat.le_of_ble_eq_true rfl)) d_bk_readException_13 ⟨(by show _ ≤ 0; omega), (by show _ ≤ 0; omega)⟩) hH (fun r1 M1 H1 locs1 hq1 hH1 => ?_)
  replace hH := hH1; clear hH1; generalize H1 = H at hH ⊢; generalize locs1 = locs at hH ⊢
  obtain ⟨b9, rfl, hbt, hbf⟩ := ap_ex hq1
  obtain ⟨hlt, hw1, hk1⟩ := ap_t hbt hbf (by omega)
  have hw := hm_join (ws' := [(x, .inr (3, [.ref d, .int (nI dn), .int (nI lf), .int (nI rt), .ref pt, .ref xt, .ref rr, .ref ar])), (rr, .inr (1, [.ref rsg, .ref rnm, .int (nI (0 + 1))])), (rsg, aI G 65 (upd f 0 46)), (rnm, aI G 66 (fun _ => 0)), (d, aI G 200 dr)]) (wc := [(rr, .inr (1, [.ref rsg, .ref rnm, .int (nI 0)])), (rsg, aI G 65 f)]) hw hw1 hk1 [1, 2] rfl rfl (fun _ h => h) rfl (by
    intro k9 h9
    match k9, h9 with
    | 0, _ => exact Or.inl ⟨by decide, rfl⟩
    | 1, _ => exact Or.inr ⟨0, rfl, rfl⟩
    | 2, _ => exact Or.inr ⟨1, rfl, rfl⟩
    | 3, _ => exact Or.inl ⟨by decide, rfl⟩
    | 4, _ => exact Or.inl ⟨by decide, rfl⟩
    | k9 + 5, h9 => exact absurd h9 (Nat.not_lt_of_le (Nat.le_add_left _ _)))
  have hk := hk.tr hk1 (fun a h => by simp at h; rcases h with rfl | rfl <;> simp)
  generalize M1 = M at hH hw hk
  refine lv_pop hx hb d_bk_readException_16 rfl ?_
  refine lv_iconst (v := 0) hx hb d_bk_readException_17 (by decide) ?_
  refine lv_istore_n (lv' := [(1, .int 0), (0, .ref x)]) hx hb d_bk_readException_18 rfl hl (by decide) rfl (fun ls hl => ?_)
  refine lv_iconst (v := 0) hx hb d_bk_readException_19 (by decide) ?_
  refine lv_istore_n (lv' := [(2, .int 0), (1, .int 0), (0, .ref x)]) hx hb d_bk_readException_20 rfl hl (by decide) rfl (fun ls hl => ?_)
  exact L21 (dn + 1) 0 (upd f 0 46) M _ _ _ (by omega) (by omega) (by simp [xz]) ⟨upd_self, fun j hj => by simp [xz] at hj⟩ (fun k9 h9 => absurd h9 (by omega)) hw hk hH (lv_cv (lv_sub hl [0, 1, 2] rfl) (by rw [blt_0, bI_f]; rfl))

abbrev q_bk_draftIsWord (G : hG) (x d dn lf rt pt xt rr ar : Nat) (dr : Nat → Int32) (M : hM) : Option Value → hM → Prop := fun rv M' => ∃ b : Bool, rv = some (.int (bI b)) ∧ (b = true ↔ wOk dr dn) ∧ M' = M
set_option maxHeartbeats 4000000 in
set_option maxRecDepth 100000 in
theorem c_bk_draftIsWord (l : Launch) (G : hG) (x d dn lf rt pt xt rr ar : Nat) (dr : Nat → Int32) (M : hM) (hw : hm_has M [(x, .inr (3, [.ref d, .int (nI dn), .int (nI lf), .int (nI rt), .ref pt, .ref xt, .ref rr, .ref ar])), (d, aI G 200 dr)]) (hdn : dn ≤ 200) : Ct (gk G) l G.1 vwC y_bk_draftIsWord w_bk_draftIsWord { frames := 1, cells := 0, slots := 0, locals := 21 } ([.ref x] : List Value) M (q_bk_draftIsWord G x d dn lf rt pt xt rr ar dr M) 0 0 := by
  refine Ct.ofW (cc := b_bk_draftIsWord) (maxL := 2) (ret := (Option.some Jvm.ClassFile.FieldType.boolean)) (by decide) rfl (Nat.le_of_ble_eq_true rfl) (fun p e s m below meth c A ls E hr hlk hin hg hH hl => ?_)
  have hl : lv_has ls 2 [(0, .ref x)] := hl
  have hx := E.1; have hb := E.2.1; have hml := E.2.2.1; have hown := E.2.2.2.1; have hts := E.2.2.2.2; have hK := hg.1
  obtain ⟨M0, hM0⟩ : ∃ M0 : hM, M0 = M := ⟨M, rfl⟩
  rw [show q_bk_draftIsWord G x d dn lf rt pt xt rr ar dr M = q_bk_draftIsWord G x d dn lf rt pt xt rr ar dr M0 by rw [hM0]]
  refine lv_aload_n hx hb d_bk_draftIsWord_0 rfl (lv_at hl 0 rfl) ?_
  refine hm_get E (tB in_bk) hK hH (hw.at 0 rfl) rfl 1 (by decide) (tC wm_74) rfl d_bk_draftIsWord_1 ?_
  refine lv_iconst (v := 1) hx hb d_bk_draftIsWord_4 (by decide) ?_
  refine hn_icmp_lt (a := dn) (b := 1) hx hb (by omega) (by omega) (tgt := 17) d_bk_draftIsWord_5 (by decide) (fun h5 => ?_) (fun h5 => ?_)
  · skip
    refine lv_iconst (v := 0) hx hb d_bk_draftIsWord_17 (by decide) ?_
    exact hm_zret E hr hlk hH (by decide) (⟨false, rfl, ⟨fun z => (by cases z), fun z => (by have q1 := z.1; have q2 := z.2.1; omega)⟩, hM0.symm⟩) (by omega) (by omega) d_bk_draftIsWord_18
  · skip
    refine lv_aload_n hx hb d_bk_draftIsWord_8 rfl (lv_at hl 0 rfl) ?_
    refine hm_get E (tB in_bk) hK hH (hw.at 0 rfl) rfl 1 (by decide) (tC wm_74) rfl d_bk_draftIsWord_9 ?_
    refine lv_bipush (v := 63) hx hb d_bk_draftIsWord_12 (by decide) ?_
    refine hn_icmp_le (a := dn) (b := 63) hx hb (by omega) (by omega) (tgt := 19) d_bk_draftIsWord_14 (by decide) (fun h14 => ?_) (fun h14 => ?_)
    · skip
      refine lv_iconst (v := 0) hx hb d_bk_draftIsWord_19 (by decide) ?_
      refine lv_istore_n (lv' := [(1, .int 0), (0, .ref x)]) hx hb d_bk_draftIsWord_20 rfl hl (by decide) rfl (fun ls hl => ?_)
      have L21 : ∀ (k : Nat) (i : Nat) (H : Heap) (locs : List Loc) (ls : Array Slot), dn + 1 ≤ i + k → i ≤ dn → (∀ k9, k9 < i → isL (dr k9) = true) → hm_I G.1 vwC A s.heap M H locs → lv_has ls 2 [(1, .int (nI i)), (0, .ref x)] → W p l e { frames := 1, cells := 0, slots := 0, locals := 21 } s m ([.ref x] : List Value).toArray below meth c H locs 0 0 (MQ below (hm_Q G.1 vwC (q_bk_draftIsWord G x d dn lf rt pt xt rr ar dr M0) A) ([.ref x] : List Value).toArray s 0 0 A) (F0 m 21 ls []) := by
        intro k
        induction k with
        | zero => intro i H locs ls hfu hi hok; exact absurd hfu (by omega)
        | succ k ih =>
          intro i H locs ls hfu hi hok hH hl
          refine lv_iload_n hx hb d_bk_draftIsWord_21 rfl (lv_at hl 0 rfl) ?_
          refine lv_aload_n hx hb d_bk_draftIsWord_22 rfl (lv_at hl 1 rfl) ?_
          refine hm_get E (tB in_bk) hK hH (hw.at 0 rfl) rfl 1 (by decide) (tC wm_74) rfl d_bk_draftIsWord_23 ?_
          refine hn_icmp_ge (a := i) (b := dn) hx hb (by omega) (by omega) (tgt := 51) d_bk_draftIsWord_26 (by decide) (fun h26 => ?_) (fun h26 => ?_)
          · skip
            refine lv_iconst (v := 1) hx hb d_bk_draftIsWord_51 (by decide) ?_
            have hie : i = dn := by omega
            rw [hie] at hok
            exact hm_zret E hr hlk hH (by decide) (⟨true, rfl, ⟨fun _ => ⟨by omega, by omega, hok⟩, fun _ => rfl⟩, hM0.symm⟩) (by omega) (by omega) d_bk_draftIsWord_52
          · skip
            refine lv_aload_n hx hb d_bk_draftIsWord_29 rfl (lv_at hl 1 rfl) ?_
            refine hm_get E (tB in_bk) hK hH (hw.at 0 rfl) rfl 0 (by decide) (tC wm_73) rfl d_bk_draftIsWord_30 ?_
            refine lv_iload_n hx hb d_bk_draftIsWord_33 rfl (lv_at hl 0 rfl) ?_
            have hM1 := c_bk_elementAt l G d 200 dr i M (hw.sub (ws' := [(d, aI G 200 dr)]) [1] rfl rfl) (by decide) (by omega) H.size
            have hG1 : GoodIn w_bk_draftIsWord (wsS R_bk 118 y_bk_elementAt w_bk_elementAt) := gB_S wm_160 wm_126 wm_1 wm_127
            refine hm_call (va_runS (y := y_bk_elementAt) (bytes := b_bk_elementAt) (maxL := 2) (ws := w_bk_elementAt) (rm := { frames := 0, cells := 0, slots := 0, locals := 0 }) (own := R_bk) (index := 118) (ret := (Option.some Jvm.ClassFile.FieldType.int)) (As := [.ref d, .int (nI i)]) (rest := []) E hM1 (cwS (y := y_bk_elementAt) (bytes := b_bk_elementAt) (maxL := 2) (ws := w_bk_elementAt) (rm := { frames := 0, cells := 0, slots := 0, locals := 0 }) (own := R_bk) (index := 118) (ret := (Option.some Jvm.ClassFile.FieldType.int)) 2 hts hG1 rfl rfl rfl (by decide +kernel) ⟨Nat.le_of_ble_eq_true rfl, Nat.le_of_ble_eq_true rfl⟩) (hm_preS gk_w gk_s hH hg [.ref d, .int (nI i)]) rfl rfl hl.1 rfl (lv_room (Nat.le_of_ble_eq_true rfl)) d_bk_draftIsWord_34 ⟨(by show _ ≤ 0; omega), (by show _ ≤ 0; omega)⟩) hH (fun r1 M1 H1 locs1 hq1 hH1 => ?_)
            obtain ⟨rfl, e1⟩ := hq1
            replace hH := hH1; rw [e1] at hH; clear hH1 e1; generalize H1 = H at hH ⊢; generalize locs1 = locs at hH ⊢
            refine hm_top (w := .int (dr i)) (by rw [if_pos (by omega)]) ?_
            have hM1 := c_bk_isLetter l G (dr i) M H.size
            have hG1 : GoodIn w_bk_draftIsWord (wsS R_bk 133 y_bk_isLetter w_bk_isLetter) := gB_S wm_168 wm_169 wm_1 wm_170
            refine hm_call (va_runS (y := y_bk_isLetter) (bytes := b_bk_isLetter) (maxL := 1) (ws := w_bk_isLetter) (rm := { frames := 0, cells := 0, slots := 0, locals := 0 }) (own := R_bk) (index := 133) (ret := (Option.some Jvm.ClassFile.FieldType.boolean)) (As := [.int (dr i)]) (rest := []) E hM1 (cwS (y := y_bk_isLetter) (bytes := b_bk_isLetter) (maxL := 1) (ws := w_bk_isLetter) (rm := { frames := 0, cells := 0, slots := 0, locals := 0 }) (own := R_bk) (index := 133) (ret := (Option.some Jvm.ClassFile.FieldType.boolean)) 1 hts hG1 rfl rfl rfl (by decide +kernel) ⟨Nat.le_of_ble_eq_true rfl, Nat.le_of_ble_eq_true rfl⟩) (hm_preS gk_w gk_s hH hg [.int (dr i)]) rfl rfl hl.1 rfl (lv_room (Nat.le_of_ble_eq_true rfl)) d_bk_draftIsWord_37 ⟨(by show _ ≤ 0; omega), (by show _ ≤ 0; omega)⟩) hH (fun r1 M1 H1 locs1 hq1 hH1 => ?_)
            obtain ⟨rfl, e1⟩ := hq1
            replace hH := hH1; rw [e1] at hH; clear hH1 e1; generalize H1 = H at hH ⊢; generalize locs1 = locs at hH ⊢
            refine hb_if_ne (b := isL (dr i)) hx hb (tgt := 45) d_bk_draftIsWord_40 (by decide) (fun h40 => ?_) (fun h40 => ?_)
            · skip
              refine lv_iinc (v := nI (i + 1)) (lv' := [(1, .int (nI (i + 1))), (0, .ref x)]) hx hb d_bk_draftIsWord_45 hl (k := 0) rfl (by first | exact nI_add _ 1 | (show nI _ + nI _ = _; rw [nI_add])) (by decide) rfl (fun ls hl => ?_)
              refine lv_goto (tgt := 21) hx hb d_bk_draftIsWord_48 (by decide) ?_
              exact ih (i + 1) _ _ _ (by omega) (by omega) (rp_ok (p := fun b => isL b = true) hok h40) hH (lv_sub hl [0, 1] rfl)
            · skip
              refine lv_iconst (v := 0) hx hb d_bk_draftIsWord_43 (by decide) ?_
              exact hm_zret E hr hlk hH (by decide) (⟨false, rfl, ⟨fun z => (by cases z), fun z => (by have q1 := z.2.2 i (by omega); rw [h40] at q1; cases q1)⟩, hM0.symm⟩) (by omega) (by omega) d_bk_draftIsWord_44
      exact L21 (dn + 1) 0 _ _ _ (by omega) (by omega) (fun k9 h9 => absurd h9 (by omega)) hH (lv_sub hl [0, 1] rfl)
    · skip
      refine lv_iconst (v := 0) hx hb d_bk_draftIsWord_17 (by decide) ?_
      exact hm_zret E hr hlk hH (by decide) (⟨false, rfl, ⟨fun z => (by cases z), fun z => (by have q1 := z.1; have q2 := z.2.1; omega)⟩, hM0.symm⟩) (by omega) (by omega) d_bk_draftIsWord_18

abbrev q_bk_copyDraftToAsked (G : hG) (x d dn lf rt pt xt rr ar : Nat) (asg anm asz : Nat) (f g dr : Nat → Int32) (M : hM) : Option Value → hM → Prop := fun rv M' => rv = none ∧ ∃ f9, hm_has M' [(x, .inr (3, [.ref d, .int (nI dn), .int (nI lf), .int (nI rt), .ref pt, .ref xt, .ref rr, .ref ar])), (ar, .inr (1, [.ref asg, .ref anm, .int (nI (dn + 2))])), (asg, aI G 65 f9), (anm, aI G 66 (fun _ => 0)), (d, aI G 200 dr)] ∧ ag f9 (wrow dr dn) (dn + 2) ∧ hm_kp (fun a => a ∈ [ar, asg, anm]) M M'
set_option maxHeartbeats 4000000 in
set_option maxRecDepth 100000 in
theorem c_bk_copyDraftToAsked (l : Launch) (G : hG) (x d dn lf rt pt xt rr ar : Nat) (asg anm asz : Nat) (f g dr : Nat → Int32) (M : hM) (hw : hm_has M [(x, .inr (3, [.ref d, .int (nI dn), .int (nI lf), .int (nI rt), .ref pt, .ref xt, .ref rr, .ref ar])), (ar, .inr (1, [.ref asg, .ref anm, .int (nI asz)])), (asg, aI G 65 f), (anm, aI G 66 g), (d, aI G 200 dr)]) (hdn : dn ≤ 63) : Ct (gk G) l G.1 vwC y_bk_copyDraftToAsked w_bk_copyDraftToAsked { frames := 2, cells := 0, slots := 0, locals := 43 } ([.ref x] : List Value) M (q_bk_copyDraftToAsked G x d dn lf rt pt xt rr ar asg anm asz f g dr M) 0 0 := by
  refine Ct.ofW (cc := b_bk_copyDraftToAsked) (maxL := 2) (ret := (Option.none : Option Jvm.ClassFile.FieldType)) (by decide) rfl (Nat.le_of_ble_eq_true rfl) (fun p e s m below meth c A ls E hr hlk hin hg hH hl => ?_)
  have hl : lv_has ls 2 [(0, .ref x)] := hl
  have hx := E.1; have hb := E.2.1; have hml := E.2.2.1; have hown := E.2.2.2.1; have hts := E.2.2.2.2; have hK := hg.1
  obtain ⟨M0, hM0⟩ : ∃ M0 : hM, M0 = M := ⟨M, rfl⟩
  rw [show q_bk_copyDraftToAsked G x d dn lf rt pt xt rr ar asg anm asz f g dr M = q_bk_copyDraftToAsked G x d dn lf rt pt xt rr ar asg anm asz f g dr M0 by rw [hM0]]
  have hk : hm_kp (fun a => a ∈ [ar, asg, anm]) M0 M := by rw [hM0]; exact hm_kp.rf
  have L19 : ∀ (k : Nat) (i : Nat) (f : Nat → Int32) (M : hM) (H : Heap) (locs : List Loc) (ls : Array Slot), dn + 1 ≤ i + k → i ≤ dn → wcf dr i f → hm_has M [(x, .inr (3, [.ref d, .int (nI dn), .int (nI lf), .int (nI rt), .ref pt, .ref xt, .ref rr, .ref ar])), (ar, .inr (1, [.ref asg, .ref anm, .int (nI (i + 1))])), (asg, aI G 65 f), (anm, aI G 66 (fun _ => 0)), (d, aI G 200 dr)] → hm_kp (fun a => a ∈ [ar, asg, anm]) M0 M → hm_I G.1 vwC A s.heap M H locs → lv_has ls 2 [(1, .int (nI i)), (0, .ref x)] → W p l e { frames := 2, cells := 0, slots := 0, locals := 43 } s m ([.ref x] : List Value).toArray below meth c H locs 0 0 (MQ below (hm_Q G.1 vwC (q_bk_copyDraftToAsked G x d dn lf rt pt xt rr ar asg anm asz f g dr M0) A) ([.ref x] : List Value).toArray s 0 0 A) (F0 m 19 ls []) := by
    intro k
    induction k with
    | zero => intro i f M H locs ls hfu hi hf; exact absurd hfu (by omega)
    | succ k ih =>
      intro i f M H locs ls hfu hi hf hw hk hH hl
      refine lv_iload_n hx hb d_bk_copyDraftToAsked_19 rfl (lv_at hl 0 rfl) ?_
      refine lv_aload_n hx hb d_bk_copyDraftToAsked_20 rfl (lv_at hl 1 rfl) ?_
      refine hm_get E (tB in_bk) hK hH (hw.at 0 rfl) rfl 1 (by decide) (tC wm_74) rfl d_bk_copyDraftToAsked_21 ?_
      refine hn_icmp_ge (a := i) (b := dn) hx hb (by omega) (by omega) (tgt := 49) d_bk_copyDraftToAsked_24 (by decide) (fun h24 => ?_) (fun h24 => ?_)
      · skip
        have hie : i = dn := by omega
        rw [hie] at hf hw
        refine lv_aload_n hx hb d_bk_copyDraftToAsked_49 rfl (lv_at hl 1 rfl) ?_
        refine hm_get E (tB in_bk) hK hH (hw.at 0 rfl) rfl 7 (by decide) (tC wm_80) rfl d_bk_copyDraftToAsked_50 ?_
        refine lv_bipush (v := 46) hx hb d_bk_copyDraftToAsked_53 (by decide) ?_
        have hM1 := c_rw_append l G ar asg anm (dn + 1) f 46 M (hw.sub (ws' := [(ar, .inr (1, [.ref asg, .ref anm, .int (nI (dn + 1))])), (asg, aI G 65 f)]) [1, 2] rfl rfl) (by omega) H.size
        have hG1 : GoodIn w_bk_copyDraftToAsked (wsV R_bk 136 R_rw y_rw_append w_rw_append) := gB_V wm_171 wm_172 wm_173 wm_4 wm_174
        refine hm_call (va_runV (y := y_rw_append) (bytes := b_rw_append) (maxL := 2) (ws := w_rw_append) (rm := { frames := 0, cells := 0, slots := 0, locals := 0 }) (own := R_bk) (index := 136) (ret := (Option.some Jvm.ClassFile.FieldType.boolean)) (C := R_rw) (As := [.int 46]) (rest := []) E hM1 (cwV (y := y_rw_append) (bytes := b_rw_append) (maxL := 2) (ws := w_rw_append) (rm := { frames := 0, cells := 0, slots := 0, locals := 0 }) (own := R_bk) (index := 136) (ret := (Option.some Jvm.ClassFile.FieldType.boolean)) (C := R_rw) 1 hts hG1 rfl rfl rfl (by decide +kernel) ⟨Nat.le_of_ble_eq_true rfl, Nat.le_of_ble_eq_true rfl⟩) (hm_preV gk_w gk_s hH hg hK (hw.at 1 rfl) rfl [.int 46]) rfl rfl hl.1 rfl (lv_room (Nat.le_of_ble_eq_true rfl)) d_bk_copyDraftToAsked_55 ⟨(by show _ ≤ 0; omega), (by show _ ≤ 0; omega)⟩) hH (fun r1 M1 H1 locs1 hq1 hH1 => ?_)
        replace hH := hH1; clear hH1; generalize H1 = H at hH ⊢; generalize locs1 = locs at hH ⊢
        obtain ⟨b9, rfl, hbt, hbf⟩ := ap_ex hq1
        obtain ⟨hlt, hw1, hk1⟩ := ap_t hbt hbf (by omega)
        have hw := hm_join (ws' := [(x, .inr (3, [.ref d, .int (nI dn), .int (nI lf), .int (nI rt), .ref pt, .ref xt, .ref rr, .ref ar])), (ar, .inr (1, [.ref asg, .ref anm, .int (nI (dn + 1 + 1))])), (asg, aI G 65 (upd f (dn + 1) 46)), (anm, aI G 66 (fun _ => 0)), (d, aI G 200 dr)]) (wc := [(ar, .inr (1, [.ref asg, .ref anm, .int (nI (dn + 1))])), (asg, aI G 65 f)]) hw hw1 hk1 [1, 2] rfl rfl (fun _ h => h) rfl (by
          intro k9 h9
          match k9, h9 with
          | 0, _ => exact Or.inl ⟨by decide, rfl⟩
          | 1, _ => exact Or.inr ⟨0, rfl, rfl⟩
          | 2, _ => exact Or.inr ⟨1, rfl, rfl⟩
          | 3, _ => exact Or.inl ⟨by decide, rfl⟩
          | 4, _ => exact Or.inl ⟨by decide, rfl⟩
          | k9 + 5, h9 => exact absurd h9 (Nat.not_lt_of_le (Nat.le_add_left _ _)))
        have hk := hk.tr hk1 (fun a h => by simp at h; rcases h with rfl | rfl <;> simp)
        generalize M1 = M at hH hw hk
        refine lv_pop hx hb d_bk_copyDraftToAsked_58 rfl ?_
        exact hm_vret E hr hlk hH (⟨rfl, upd f (dn + 1) 46, hw, wc_row hf, hk⟩) (by omega) (by omega) d_bk_copyDraftToAsked_59
      · skip
        refine lv_aload_n hx hb d_bk_copyDraftToAsked_27 rfl (lv_at hl 1 rfl) ?_
        refine hm_get E (tB in_bk) hK hH (hw.at 0 rfl) rfl 7 (by decide) (tC wm_80) rfl d_bk_copyDraftToAsked_28 ?_
        refine lv_aload_n hx hb d_bk_copyDraftToAsked_31 rfl (lv_at hl 1 rfl) ?_
        refine hm_get E (tB in_bk) hK hH (hw.at 0 rfl) rfl 0 (by decide) (tC wm_73) rfl d_bk_copyDraftToAsked_32 ?_
        refine lv_iload_n hx hb d_bk_copyDraftToAsked_35 rfl (lv_at hl 0 rfl) ?_
        have hM1 := c_bk_elementAt l G d 200 dr i M (hw.sub (ws' := [(d, aI G 200 dr)]) [4] rfl rfl) (by decide) (by omega) H.size
        have hG1 : GoodIn w_bk_copyDraftToAsked (wsS R_bk 118 y_bk_elementAt w_bk_elementAt) := gB_S wm_160 wm_126 wm_1 wm_127
        refine hm_call (va_runS (y := y_bk_elementAt) (bytes := b_bk_elementAt) (maxL := 2) (ws := w_bk_elementAt) (rm := { frames := 0, cells := 0, slots := 0, locals := 0 }) (own := R_bk) (index := 118) (ret := (Option.some Jvm.ClassFile.FieldType.int)) (As := [.ref d, .int (nI i)]) (rest := [.ref ar]) E hM1 (cwS (y := y_bk_elementAt) (bytes := b_bk_elementAt) (maxL := 2) (ws := w_bk_elementAt) (rm := { frames := 0, cells := 0, slots := 0, locals := 0 }) (own := R_bk) (index := 118) (ret := (Option.some Jvm.ClassFile.FieldType.int)) 2 hts hG1 rfl rfl rfl (by decide +kernel) ⟨Nat.le_of_ble_eq_true rfl, Nat.le_of_ble_eq_true rfl⟩) (hm_preS gk_w gk_s hH hg [.ref d, .int (nI i)]) rfl rfl hl.1 rfl (lv_room (Nat.le_of_ble_eq_true rfl)) d_bk_copyDraftToAsked_36 ⟨(by show _ ≤ 0; omega), (by show _ ≤ 0; omega)⟩) hH (fun r1 M1 H1 locs1 hq1 hH1 => ?_)
        obtain ⟨rfl, e1⟩ := hq1
        replace hH := hH1; rw [e1] at hH; clear hH1 e1; generalize H1 = H at hH ⊢; generalize locs1 = locs at hH ⊢
        refine hm_top (w := .int (dr i)) (by rw [if_pos (by omega)]) ?_
        have hM1 := c_rw_append l G ar asg anm (i + 1) f (dr i) M (hw.sub (ws' := [(ar, .inr (1, [.ref asg, .ref anm, .int (nI (i + 1))])), (asg, aI G 65 f)]) [1, 2] rfl rfl) (by omega) H.size
        have hG1 : GoodIn w_bk_copyDraftToAsked (wsV R_bk 136 R_rw y_rw_append w_rw_append) := gB_V wm_171 wm_172 wm_173 wm_4 wm_174
        refine hm_call (va_runV (y := y_rw_append) (bytes := b_rw_append) (maxL := 2) (ws := w_rw_append) (rm := { frames := 0, cells := 0, slots := 0, locals := 0 }) (own := R_bk) (index := 136) (ret := (Option.some Jvm.ClassFile.FieldType.boolean)) (C := R_rw) (As := [.int (dr i)]) (rest := []) E hM1 (cwV (y := y_rw_append) (bytes := b_rw_append) (maxL := 2) (ws := w_rw_append) (rm := { frames := 0, cells := 0, slots := 0, locals := 0 }) (own := R_bk) (index := 136) (ret := (Option.some Jvm.ClassFile.FieldType.boolean)) (C := R_rw) 1 hts hG1 rfl rfl rfl (by decide +kernel) ⟨Nat.le_of_ble_eq_true rfl, Nat.le_of_ble_eq_true rfl⟩) (hm_preV gk_w gk_s hH hg hK (hw.at 1 rfl) rfl [.int (dr i)]) rfl rfl hl.1 rfl (lv_room (Nat.le_of_ble_eq_true rfl)) d_bk_copyDraftToAsked_39 ⟨(by show _ ≤ 0; omega), (by show _ ≤ 0; omega)⟩) hH (fun r1 M1 H1 locs1 hq1 hH1 => ?_)
        replace hH := hH1; clear hH1; generalize H1 = H at hH ⊢; generalize locs1 = locs at hH ⊢
        obtain ⟨b9, rfl, hbt, hbf⟩ := ap_ex hq1
        obtain ⟨hlt, hw1, hk1⟩ := ap_t hbt hbf (by omega)
        have hw := hm_join (ws' := [(x, .inr (3, [.ref d, .int (nI dn), .int (nI lf), .int (nI rt), .ref pt, .ref xt, .ref rr, .ref ar])), (ar, .inr (1, [.ref asg, .ref anm, .int (nI (i + 1 + 1))])), (asg, aI G 65 (upd f (i + 1) (dr i))), (anm, aI G 66 (fun _ => 0)), (d, aI G 200 dr)]) (wc := [(ar, .inr (1, [.ref asg, .ref anm, .int (nI (i + 1))])), (asg, aI G 65 f)]) hw hw1 hk1 [1, 2] rfl rfl (fun _ h => h) rfl (by
          intro k9 h9
          match k9, h9 with
          | 0, _ => exact Or.inl ⟨by decide, rfl⟩
          | 1, _ => exact Or.inr ⟨0, rfl, rfl⟩
          | 2, _ => exact Or.inr ⟨1, rfl, rfl⟩
          | 3, _ => exact Or.inl ⟨by decide, rfl⟩
          | 4, _ => exact Or.inl ⟨by decide, rfl⟩
          | k9 + 5, h9 => exact absurd h9 (Nat.not_lt_of_le (Nat.le_add_left _ _)))
        have hk := hk.tr hk1 (fun a h => by simp at h; rcases h with rfl | rfl <;> simp)
        generalize M1 = M at hH hw hk
        refine lv_pop hx hb d_bk_copyDraftToAsked_42 rfl ?_
        refine lv_iinc (v := nI (i + 1)) (lv' := [(1, .int (nI (i + 1))), (0, .ref x)]) hx hb d_bk_copyDraftToAsked_43 hl (k := 0) rfl (by first | exact nI_add _ 1 | (show nI _ + nI _ = _; rw [nI_add])) (by decide) rfl (fun ls hl => ?_)
        refine lv_goto (tgt := 19) hx hb d_bk_copyDraftToAsked_46 (by decide) ?_
        exact ih (i + 1) (upd f (i + 1) (dr i)) M _ _ _ (by omega) (by omega) (wc_app hf) hw hk hH (lv_sub hl [0, 1] rfl)
  refine lv_aload_n hx hb d_bk_copyDraftToAsked_0 rfl (lv_at hl 0 rfl) ?_
  refine hm_get E (tB in_bk) hK hH (hw.at 0 rfl) rfl 7 (by decide) (tC wm_80) rfl d_bk_copyDraftToAsked_1 ?_
  have hM1 := c_rw_clear l G ar asg anm asz g M (hw.sub (ws' := [(ar, .inr (1, [.ref asg, .ref anm, .int (nI asz)])), (anm, aI G 66 g)]) [1, 3] rfl rfl) s.heap.size
  have hG1 : GoodIn w_bk_copyDraftToAsked (wsV R_bk 115 R_rw y_rw_clear w_rw_clear) := gB_V wm_153 wm_154 wm_155 wm_4 wm_156
  refine hm_call (va_runV (y := y_rw_clear) (bytes := b_rw_clear) (maxL := 1) (ws := w_rw_clear) (rm := { frames := 1, cells := 0, slots := 0, locals := 23 }) (own := R_bk) (index := 115) (ret := (Option.none : Option Jvm.ClassFile.FieldType)) (C := R_rw) (As := []) (rest := []) E hM1 (cwV (y := y_rw_clear) (bytes := b_rw_clear) (maxL := 1) (ws := w_rw_clear) (rm := { frames := 1, cells := 0, slots := 0, locals := 23 }) (own := R_bk) (index := 115) (ret := (Option.none : Option Jvm.ClassFile.FieldType)) (C := R_rw) 0 hts hG1 rfl rfl rfl (by decide +kernel) ⟨Nat.le_of_ble_eq_true rfl, Nat.le_of_ble_eq_true rfl⟩) (hm_preV gk_w gk_s hH hg hK (hw.at 1 rfl) rfl []) rfl rfl hl.1 rfl (lv_room (Nat.le_of_ble_eq_true rfl)) d_bk_copyDraftToAsked_4 ⟨(by show _ ≤ 0; omega), (by show _ ≤ 0; omega)⟩) hH (fun r1 M1 H1 locs1 hq1 hH1 => ?_)
  replace hH := hH1; clear hH1; generalize H1 = H at hH ⊢; generalize locs1 = locs at hH ⊢
  obtain ⟨rfl, hw1, hk1⟩ := hq1
  have hw := hm_join (ws' := [(x, .inr (3, [.ref d, .int (nI dn), .int (nI lf), .int (nI rt), .ref pt, .ref xt, .ref rr, .ref ar])), (ar, .inr (1, [.ref asg, .ref anm, .int (nI 0)])), (asg, aI G 65 f), (anm, aI G 66 (fun _ => 0)), (d, aI G 200 dr)]) (wc := [(ar, .inr (1, [.ref asg, .ref anm, .int (nI asz)])), (anm, aI G 66 g)]) hw hw1 hk1 [1, 3] rfl rfl (fun _ h => h) rfl (by
    intro k9 h9
    match k9, h9 with
    | 0, _ => exact Or.inl ⟨by decide, rfl⟩
    | 1, _ => exact Or.inr ⟨0, rfl, rfl⟩
    | 2, _ => exact Or.inl ⟨by decide, rfl⟩
    | 3, _ => exact Or.inr ⟨1, rfl, rfl⟩
    | 4, _ => exact Or.inl ⟨by decide, rfl⟩
    | k9 + 5, h9 => exact absurd h9 (Nat.not_lt_of_le (Nat.le_add_left _ _)))
  have hk := hk.tr hk1 (fun a h => by simp at h; rcases h with rfl | rfl <;> simp)
  generalize M1 = M at hH hw hk
  refine lv_aload_n hx hb d_bk_copyDraftToAsked_7 rfl (lv_at hl 0 rfl) ?_
  refine hm_get E (tB in_bk) hK hH (hw.at 0 rfl) rfl 7 (by decide) (tC wm_80) rfl d_bk_copyDraftToAsked_8 ?_
  refine lv_bipush (v := 46) hx hb d_bk_copyDraftToAsked_11 (by decide) ?_
  have hM1 := c_rw_append l G ar asg anm 0 f 46 M (hw.sub (ws' := [(ar, .inr (1, [.ref asg, .ref anm, .int (nI 0)])), (asg, aI G 65 f)]) [1, 2] rfl rfl) (by omega) H.size
  have hG1 : GoodIn w_bk_copyDraftToAsked (wsV R_bk 136 R_rw y_rw_append w_rw_append) := gB_V wm_171 wm_172 wm_173 wm_4 wm_174
  refine hm_call (va_runV (y := y_rw_append) (bytes := b_rw_append) (maxL := 2) (ws := w_rw_append) (rm := { frames := 0, cells := 0, slots := 0, locals := 0 }) (own := R_bk) (index := 136) (ret := (Option.some Jvm.ClassFile.FieldType.boolean)) (C := R_rw) (As := [.int 46]) (rest := []) E hM1 (cwV (y := y_rw_append) (bytes := b_rw_append) (maxL := 2) (ws := w_rw_append) (rm := { frames := 0, cells := 0, slots := 0, locals := 0 }) (own := R_bk) (index := 136) (ret := (Option.some Jvm.ClassFile.FieldType.boolean)) (C := R_rw) 1 hts hG1 rfl rfl rfl (by decide +kernel) ⟨Nat.le_of_ble_eq_true rfl, Nat.le_of_ble_eq_true rfl⟩) (hm_preV gk_w gk_s hH hg hK (hw.at 1 rfl) rfl [.int 46]) rfl rfl hl.1 rfl (lv_room (Nat.le_of_ble_eq_true rfl)) d_bk_copyDraftToAsked_13 ⟨(by show _ ≤ 0; omega), (by show _ ≤ 0; omega)⟩) hH (fun r1 M1 H1 locs1 hq1 hH1 => ?_)
  replace hH := hH1; clear hH1; generalize H1 = H at hH ⊢; generalize locs1 = locs at hH ⊢
  obtain ⟨b9, rfl, hbt, hbf⟩ := ap_ex hq1
  obtain ⟨hlt, hw1, hk1⟩ := ap_t hbt hbf (by omega)
  have hw := hm_join (ws' := [(x, .inr (3, [.ref d, .int (nI dn), .int (nI lf), .int (nI rt), .ref pt, .ref xt, .ref rr, .ref ar])), (ar, .inr (1, [.ref asg, .ref anm, .int (nI (0 + 1))])), (asg, aI G 65 (upd f 0 46)), (anm, aI G 66 (fun _ => 0)), (d, aI G 200 dr)]) (wc := [(ar, .inr (1, [.ref asg, .ref anm, .int (nI 0)])), (asg, aI G 65 f)]) hw hw1 hk1 [1, 2] rfl rfl (fun _ h => h) rfl (by
    intro k9 h9
    match k9, h9 with
    | 0, _ => exact Or.inl ⟨by decide, rfl⟩
    | 1, _ => exact Or.inr ⟨0, rfl, rfl⟩
    | 2, _ => exact Or.inr ⟨1, rfl, rfl⟩
    | 3, _ => exact Or.inl ⟨by decide, rfl⟩
    | 4, _ => exact Or.inl ⟨by decide, rfl⟩
    | k9 + 5, h9 => exact absurd h9 (Nat.not_lt_of_le (Nat.le_add_left _ _)))
  have hk := hk.tr hk1 (fun a h => by simp at h; rcases h with rfl | rfl <;> simp)
  generalize M1 = M at hH hw hk
  refine lv_pop hx hb d_bk_copyDraftToAsked_16 rfl ?_
  refine lv_iconst (v := 0) hx hb d_bk_copyDraftToAsked_17 (by decide) ?_
  refine lv_istore_n (lv' := [(1, .int 0), (0, .ref x)]) hx hb d_bk_copyDraftToAsked_18 rfl hl (by decide) rfl (fun ls hl => ?_)
  exact L19 (dn + 1) 0 (upd f 0 46) M _ _ _ (by omega) (by omega) ⟨upd_self, fun j hj => absurd hj (by omega)⟩ hw hk hH (lv_sub hl [0, 1] rfl)
end
section
/-! where a word may be cut -/
def nmF (td : Option Nat) (v : Nat → Int32) (nv : Nat → Nat → Int32) : Nat → Int32 := match td with
  | none => v
  | some q => nv q
def cutQ (lf rt n : Nat) (w : Nat → Int32) (j : Nat) : Bool := decide (lf ≤ j) && (decide (j + rt ≤ n) && decide ((w (j + 1) &&& 1).toInt = 1))
theorem cq_0 {lf rt n : Nat} {w : Nat → Int32} : cutN (cutQ lf rt n w) lf = 0 := cutN_none (fun j hj => by simp [cutQ, Nat.not_le.mpr hj])
theorem cq_y {lf rt n k : Nat} {w : Nat → Int32} (h1 : lf ≤ k) (h2 : k + rt ≤ n) (h3 : (w (k + 1) &&& 1).toInt = 1) : cutN (cutQ lf rt n w) (k + 1) = cutN (cutQ lf rt n w) k ||| (1 <<< ((nI k).toInt64 &&& 63)) := by simp [cutN, cutQ, h1, h2, h3]
theorem cq_n {lf rt n k : Nat} {w : Nat → Int32} (h3 : (w (k + 1) &&& 1).toInt ≠ 1) : cutN (cutQ lf rt n w) (k + 1) = cutN (cutQ lf rt n w) k := by simp [cutN, cutQ, h3]
theorem cq_e {lf rt n k : Nat} {w : Nat → Int32} (h : n < k + rt) (hk : k ≤ 64) : cutN (cutQ lf rt n w) k = cutN (cutQ lf rt n w) 64 := (cutN_more hk (fun j h1 _ => by simp [cutQ, show ¬ (j + rt ≤ n) by omega])).symm
theorem nb_some {st : Nat → Int32 → Option Nat} {root sz y : Nat} {f : Nat → Int32} {nu : Nat → Option Nat} (h : (twk st root f sz).bind nu = some y) : ∃ a, twk st root f sz = some a ∧ nu a = some y := by
  cases ha : twk st root f sz with
  | none => rw [ha] at h; cases h
  | some a => rw [ha] at h; exact ⟨a, rfl, h⟩
theorem n2_n {n : Nat} : nI (n + 2) - 2 = nI n := by
  have := pk_sub (a := n + 2) (b := 2) (by omega)
  rw [Nat.add_sub_cancel] at this
  exact this
theorem hm_kp.nq {S : Nat → Prop} {M0 M : hM} {q : Nat} (h : hm_kp S M0 M) (hq : M q = none) (hS : ∀ a, S a → ∃ e, M a = some e) : M0 q = none := by
  cases hm : M0 q with
  | none => rfl
  | some e =>
    by_cases hs : S q
    · obtain ⟨x, hx⟩ := hS q hs
      rw [hq] at hx; cases hx
    · rw [h q e hm hs] at hq; cases hq
end
section
abbrev q_bk_cutsOfAsked (G : hG) (x d dn lf rt pt xt rr ar : Nat) (xro xen xbg asg anm n : Nat) (f v : Nat → Int32) (τ : tau) (M : hM) : Option Value → hM → Prop := fun rv M' => rv = some (.long (cutN (cutQ lf rt n (nmF ((twk (tst τ) xro f (n + 2)).bind (tnu τ)) v (tnv τ))) 64)) ∧ M' = M
set_option maxHeartbeats 4000000 in
set_option maxRecDepth 100000 in
theorem c_bk_cutsOfAsked (l : Launch) (G : hG) (x d dn lf rt pt xt rr ar : Nat) (xro xen xbg asg anm n : Nat) (f v : Nat → Int32) (τ : tau) (M : hM) (hw : hm_has M [(x, .inr (3, [.ref d, .int (nI dn), .int (nI lf), .int (nI rt), .ref pt, .ref xt, .ref rr, .ref ar])), (xt, .inr (2, [.ref xro, .int (nI xen), .int (nI xbg)])), (ar, .inr (1, [.ref asg, .ref anm, .int (nI (n + 2))])), (asg, aI G 65 f), (anm, aI G 66 v)]) (htr : trH G M xro τ) (hn : n ≤ 63) (hlf : lf ≤ 63) (hrt : rt ≤ 63) (hr1 : 1 ≤ rt) : Ct (gk G) l G.1 vwC y_bk_cutsOfAsked w_bk_cutsOfAsked { frames := 3, cells := 0, slots := 0, locals := 65 } ([.ref x] : List Value) M (q_bk_cutsOfAsked G x d dn lf rt pt xt rr ar xro xen xbg asg anm n f v τ M) 0 0 := by
  refine Ct.ofW (cc := b_bk_cutsOfAsked) (maxL := 7) (ret := (Option.some Jvm.ClassFile.FieldType.long)) (by decide) rfl (Nat.le_of_ble_eq_true rfl) (fun p e s m below meth c A ls E hr hlk hin hg hH hl => ?_)
  have hl : lv_has ls 7 [(0, .ref x)] := hl
  have hx := E.1; have hb := E.2.1; have hml := E.2.2.1; have hown := E.2.2.2.1; have hts := E.2.2.2.2; have hK := hg.1
  obtain ⟨M0, hM0⟩ : ∃ M0 : hM, M0 = M := ⟨M, rfl⟩
  rw [show q_bk_cutsOfAsked G x d dn lf rt pt xt rr ar xro xen xbg asg anm n f v τ M = q_bk_cutsOfAsked G x d dn lf rt pt xt rr ar xro xen xbg asg anm n f v τ M0 by rw [hM0]]
  refine lv_aload_n hx hb d_bk_cutsOfAsked_0 rfl (lv_at hl 0 rfl) ?_
  refine hm_get E (tB in_bk) hK hH (hw.at 0 rfl) rfl 5 (by decide) (tC wm_78) rfl d_bk_cutsOfAsked_1 ?_
  refine lv_aload_n hx hb d_bk_cutsOfAsked_4 rfl (lv_at hl 0 rfl) ?_
  refine hm_get E (tB in_bk) hK hH (hw.at 0 rfl) rfl 7 (by decide) (tC wm_80) rfl d_bk_cutsOfAsked_5 ?_
  have hM1 := c_tr_numbersOf l G xt xro xen xbg ar asg anm (n + 2) f τ M (hw.sub (ws' := [(xt, .inr (2, [.ref xro, .int (nI xen), .int (nI xbg)])), (ar, .inr (1, [.ref asg, .ref anm, .int (nI (n + 2))])), (asg, aI G 65 f)]) [1, 2, 3] rfl rfl) htr (by omega) s.heap.size
  have hG1 : GoodIn w_bk_cutsOfAsked (wsV R_bk 54 R_tr y_tr_numbersOf w_tr_numbersOf) := gB_V wm_254 wm_255 wm_256 wm_2 wm_257
  refine hm_call (va_runV (y := y_tr_numbersOf) (bytes := b_tr_numbersOf) (maxL := 4) (ws := w_tr_numbersOf) (rm := { frames := 2, cells := 0, slots := 0, locals := 42 }) (own := R_bk) (index := 54) (ret := (Option.some (Jvm.ClassFile.FieldType.array Jvm.ClassFile.FieldType.int))) (C := R_tr) (As := [.ref ar]) (rest := []) E hM1 (cwV (y := y_tr_numbersOf) (bytes := b_tr_numbersOf) (maxL := 4) (ws := w_tr_numbersOf) (rm := { frames := 2, cells := 0, slots := 0, locals := 42 }) (own := R_bk) (index := 54) (ret := (Option.some (Jvm.ClassFile.FieldType.array Jvm.ClassFile.FieldType.int))) (C := R_tr) 1 hts hG1 rfl rfl rfl (by decide +kernel) ⟨Nat.le_of_ble_eq_true rfl, Nat.le_of_ble_eq_true rfl⟩) (hm_preV gk_w gk_s hH hg hK (hw.at 1 rfl) rfl [.ref ar]) rfl rfl hl.1 rfl (lv_room (Nat.le_of_ble_eq_true rfl)) d_bk_cutsOfAsked_8 ⟨(by show _ ≤ 0; omega), (by show _ ≤ 0; omega)⟩) hH (fun r1 M1 H1 locs1 hq1 hH1 => ?_)
  obtain ⟨rfl, e1⟩ := hq1
  replace hH := hH1; rw [e1] at hH; clear hH1 e1; generalize H1 = H at hH ⊢; generalize locs1 = locs at hH ⊢
  obtain ⟨td, htd⟩ : ∃ td, td = ((twk (tst τ) xro f (n + 2)).bind (tnu τ)) := ⟨_, rfl⟩
  rw [← htd]
  refine ho_astore_n (lv' := [(1, va_rf td), (0, .ref x)]) hx hb d_bk_cutsOfAsked_11 rfl hl (by decide) rfl (fun ls hl => ?_)
  refine lv_lconst (v := 0) hx hb d_bk_cutsOfAsked_12 (by decide) ?_
  refine lv_lstore_n (lv' := [(2, .long 0), (1, va_rf td), (0, .ref x)]) hx hb d_bk_cutsOfAsked_13 rfl hl (by decide) (by simp [List.filter, hm_rfcat]) (fun ls hl => ?_)
  refine lv_aload_n hx hb d_bk_cutsOfAsked_14 rfl (lv_at hl 2 rfl) ?_
  refine hm_get E (tB in_bk) hK hH (hw.at 0 rfl) rfl 2 (by decide) (tC wm_75) rfl d_bk_cutsOfAsked_15 ?_
  refine lv_istore (lv' := [(4, .int (nI lf)), (2, .long 0), (1, va_rf td), (0, .ref x)]) hx hb d_bk_cutsOfAsked_18 hl (by decide) rfl (fun ls hl => ?_)
  have L20 : ∀ (k : Nat) (j : Nat) (cu : Int64) (H : Heap) (locs : List Loc) (ls : Array Slot), 66 ≤ j + k → j ≤ 64 → lf ≤ j → cu = cutN (cutQ lf rt n (nmF td v (tnv τ))) j → hm_I G.1 vwC A s.heap M H locs → lv_has ls 7 [(4, .int (nI j)), (2, .long cu), (1, va_rf td), (0, .ref x)] → W p l e { frames := 3, cells := 0, slots := 0, locals := 65 } s m ([.ref x] : List Value).toArray below meth c H locs 0 0 (MQ below (hm_Q G.1 vwC (q_bk_cutsOfAsked G x d dn lf rt pt xt rr ar xro xen xbg asg anm n f v τ M0) A) ([.ref x] : List Value).toArray s 0 0 A) (F0 m 20 ls []) := by
    intro k
    induction k with
    | zero => intro j cu H locs ls hfu hj hlj hcu; exact absurd hfu (by omega)
    | succ k ih =>
      intro j cu H locs ls hfu hj hlj hcu hH hl
      refine lv_iload hx hb d_bk_cutsOfAsked_20 (lv_at hl 0 rfl) ?_
      refine lv_aload_n hx hb d_bk_cutsOfAsked_22 rfl (lv_at hl 3 rfl) ?_
      have hM1 := c_bk_lettersOfAsked l G x d dn lf rt pt xt rr ar asg anm (n + 2) M (hw.sub (ws' := [(x, .inr (3, [.ref d, .int (nI dn), .int (nI lf), .int (nI rt), .ref pt, .ref xt, .ref rr, .ref ar])), (ar, .inr (1, [.ref asg, .ref anm, .int (nI (n + 2))]))]) [0, 2] rfl rfl) H.size
      have hG1 : GoodIn w_bk_cutsOfAsked (wsV R_bk 102 R_bk y_bk_lettersOfAsked w_bk_lettersOfAsked) := gB_V wm_110 wm_112 wp_0 wm_1 wm_113
      refine hm_call (va_runV (y := y_bk_lettersOfAsked) (bytes := b_bk_lettersOfAsked) (maxL := 1) (ws := w_bk_lettersOfAsked) (rm := { frames := 1, cells := 0, slots := 0, locals := 20 }) (own := R_bk) (index := 102) (ret := (Option.some Jvm.ClassFile.FieldType.int)) (C := R_bk) (As := []) (rest := [.int (nI j)]) E hM1 (cwV (y := y_bk_lettersOfAsked) (bytes := b_bk_lettersOfAsked) (maxL := 1) (ws := w_bk_lettersOfAsked) (rm := { frames := 1, cells := 0, slots := 0, locals := 20 }) (own := R_bk) (index := 102) (ret := (Option.some Jvm.ClassFile.FieldType.int)) (C := R_bk) 0 hts hG1 rfl rfl rfl (by decide +kernel) ⟨Nat.le_of_ble_eq_true rfl, Nat.le_of_ble_eq_true rfl⟩) (hm_preV gk_w gk_s hH hg hK (hw.at 0 rfl) rfl []) rfl rfl hl.1 rfl (lv_room (Nat.le_of_ble_eq_true rfl)) d_bk_cutsOfAsked_23 ⟨(by show _ ≤ 0; omega), (by show _ ≤ 0; omega)⟩) hH (fun r1 M1 H1 locs1 hq1 hH1 => ?_)
      obtain ⟨rfl, e1⟩ := hq1
      replace hH := hH1; rw [e1] at hH; clear hH1 e1; generalize H1 = H at hH ⊢; generalize locs1 = locs at hH ⊢
      refine hm_top (w := .int (nI n)) (by rw [n2_n]) ?_
      refine lv_aload_n hx hb d_bk_cutsOfAsked_26 rfl (lv_at hl 3 rfl) ?_
      refine hm_get E (tB in_bk) hK hH (hw.at 0 rfl) rfl 3 (by decide) (tC wm_76) rfl d_bk_cutsOfAsked_27 ?_
      refine lv_isub hx hb d_bk_cutsOfAsked_30 ?_
      refine hr_icmp_gt (x := nI j) (y := (nI n) - (nI rt)) (c9 := (n : Int) - rt) hx hb (pk_sub_toInt (by omega) (by omega)) (tgt := 86) d_bk_cutsOfAsked_31 (by decide) (fun h31 => ?_) (fun h31 => ?_)
      · skip
        rw [nI_toInt (by omega)] at h31
        refine lv_lload_n hx hb d_bk_cutsOfAsked_86 rfl (lv_at hl 1 rfl) ?_
        exact hm_lret E hr hlk hH (⟨by rw [hcu, cq_e (by omega) hj, htd], hM0.symm⟩) (by omega) (by omega) d_bk_cutsOfAsked_87
      · skip
        rw [nI_toInt (by omega)] at h31
        refine lv_iload hx hb d_bk_cutsOfAsked_34 (lv_at hl 0 rfl) ?_
        have hM1 := c_bk_placeBehind l G j M H.size
        have hG1 : GoodIn w_bk_cutsOfAsked (wsS R_bk 105 y_bk_placeBehind w_bk_placeBehind) := gB_S wm_118 wm_119 wm_1 wm_120
        refine hm_call (va_runS (y := y_bk_placeBehind) (bytes := b_bk_placeBehind) (maxL := 1) (ws := w_bk_placeBehind) (rm := { frames := 0, cells := 0, slots := 0, locals := 0 }) (own := R_bk) (index := 105) (ret := (Option.some Jvm.ClassFile.FieldType.int)) (As := [.int (nI j)]) (rest := []) E hM1 (cwS (y := y_bk_placeBehind) (bytes := b_bk_placeBehind) (maxL := 1) (ws := w_bk_placeBehind) (rm := { frames := 0, cells := 0, slots := 0, locals := 0 }) (own := R_bk) (index := 105) (ret := (Option.some Jvm.ClassFile.FieldType.int)) 1 hts hG1 rfl rfl rfl (by decide +kernel) ⟨Nat.le_of_ble_eq_true rfl, Nat.le_of_ble_eq_true rfl⟩) (hm_preS gk_w gk_s hH hg [.int (nI j)]) rfl rfl hl.1 rfl (lv_room (Nat.le_of_ble_eq_true rfl)) d_bk_cutsOfAsked_36 ⟨(by show _ ≤ 0; omega), (by show _ ≤ 0; omega)⟩) hH (fun r1 M1 H1 locs1 hq1 hH1 => ?_)
        obtain ⟨rfl, e1⟩ := hq1
        replace hH := hH1; rw [e1] at hH; clear hH1 e1; generalize H1 = H at hH ⊢; generalize locs1 = locs at hH ⊢
        refine lv_istore (lv' := [(5, .int (nI (j + 1))), (4, .int (nI j)), (2, .long cu), (1, va_rf td), (0, .ref x)]) hx hb d_bk_cutsOfAsked_39 hl (by decide) rfl (fun ls hl => ?_)
        refine ho_aload_n hx hb d_bk_cutsOfAsked_41 rfl (lv_at hl 3 rfl) ?_
        refine hm_ifnonnull (tgt := 57) hx hb d_bk_cutsOfAsked_42 (by decide) (fun y hnn => ?_) (fun hnn => ?_)
        · skip
          have hl : lv_has ls 7 [(5, .int (nI (j + 1))), (4, .int (nI j)), (2, .long cu), (1, .ref y), (0, .ref x)] := by rw [hnn] at hl; exact hl
          obtain ⟨a9, ha9, hn9⟩ := nb_some (htd.symm.trans hnn)
          have hy := htr.2.2.2.2 a9 (twk_in htr ha9) y hn9
          refine lv_aload_n hx hb d_bk_cutsOfAsked_57 rfl (lv_at hl 3 rfl) ?_
          refine lv_iload hx hb d_bk_cutsOfAsked_58 (lv_at hl 0 rfl) ?_
          have hM1 := c_bk_elementAt l G y 66 (tnv τ y) (j + 1) M ⟨by simp, by simp only [List.mem_singleton, forall_eq]; exact hy⟩ (by decide) (by omega) H.size
          have hG1 : GoodIn w_bk_cutsOfAsked (wsS R_bk 118 y_bk_elementAt w_bk_elementAt) := gB_S wm_160 wm_126 wm_1 wm_127
          refine hm_call (va_runS (y := y_bk_elementAt) (bytes := b_bk_elementAt) (maxL := 2) (ws := w_bk_elementAt) (rm := { frames := 0, cells := 0, slots := 0, locals := 0 }) (own := R_bk) (index := 118) (ret := (Option.some Jvm.ClassFile.FieldType.int)) (As := [.ref y, .int (nI (j + 1))]) (rest := []) E hM1 (cwS (y := y_bk_elementAt) (bytes := b_bk_elementAt) (maxL := 2) (ws := w_bk_elementAt) (rm := { frames := 0, cells := 0, slots := 0, locals := 0 }) (own := R_bk) (index := 118) (ret := (Option.some Jvm.ClassFile.FieldType.int)) 2 hts hG1 rfl rfl rfl (by decide +kernel) ⟨Nat.le_of_ble_eq_true rfl, Nat.le_of_ble_eq_true rfl⟩) (hm_preS gk_w gk_s hH hg [.ref y, .int (nI (j + 1))]) rfl rfl hl.1 rfl (lv_room (Nat.le_of_ble_eq_true rfl)) d_bk_cutsOfAsked_60 ⟨(by show _ ≤ 0; omega), (by show _ ≤ 0; omega)⟩) hH (fun r1 M1 H1 locs1 hq1 hH1 => ?_)
          obtain ⟨rfl, e1⟩ := hq1
          replace hH := hH1; rw [e1] at hH; clear hH1 e1; generalize H1 = H at hH ⊢; generalize locs1 = locs at hH ⊢
          refine hm_top (w := .int ((nmF td v (tnv τ)) (j + 1))) (by rw [hnn, if_pos (by omega)]; rfl) ?_
          refine lv_istore (lv' := [(6, .int ((nmF td v (tnv τ)) (j + 1))), (5, .int (nI (j + 1))), (4, .int (nI j)), (2, .long cu), (1, .ref y), (0, .ref x)]) hx hb d_bk_cutsOfAsked_63 hl (by decide) rfl (fun ls hl => ?_)
          refine lv_iload hx hb d_bk_cutsOfAsked_65 (lv_at hl 0 rfl) ?_
          refine lv_iconst (v := 1) hx hb d_bk_cutsOfAsked_67 (by decide) ?_
          refine lv_iand hx hb d_bk_cutsOfAsked_68 ?_
          refine lv_iconst (v := 1) hx hb d_bk_cutsOfAsked_69 (by decide) ?_
          refine hc_icmp_ne (x := ((nmF td v (tnv τ)) (j + 1)) &&& 1) (y := 1) (c9 := 1) hx hb (by decide) (tgt := 80) d_bk_cutsOfAsked_70 (by decide) (fun h70 => ?_) (fun h70 => ?_)
          · skip
            refine lv_iinc (v := nI (j + 1)) (lv' := [(4, .int (nI (j + 1))), (6, .int ((nmF td v (tnv τ)) (j + 1))), (5, .int (nI (j + 1))), (2, .long cu), (1, .ref y), (0, .ref x)]) hx hb d_bk_cutsOfAsked_80 hl (k := 2) rfl (by first | exact nI_add _ 1 | (show nI _ + nI _ = _; rw [nI_add])) (by decide) rfl (fun ls hl => ?_)
            refine lv_goto (tgt := 20) hx hb d_bk_cutsOfAsked_83 (by decide) ?_
            exact ih (j + 1) (cu) _ _ _ (by omega) (by omega) (by omega) (by rw [cq_n h70]; exact hcu) hH (lv_cv (lv_sub hl [0, 3, 4, 5] rfl) (by rw [hnn]; rfl))
          · skip
            refine lv_lload_n hx hb d_bk_cutsOfAsked_73 rfl (lv_at hl 3 rfl) ?_
            refine lv_lconst (v := 1) hx hb d_bk_cutsOfAsked_74 (by decide) ?_
            refine lv_iload hx hb d_bk_cutsOfAsked_75 (lv_at hl 2 rfl) ?_
            refine lv_lshl hx hb d_bk_cutsOfAsked_77 rfl ?_
            refine lv_lor hx hb d_bk_cutsOfAsked_78 ?_
            refine lv_lstore_n (lv' := [(2, .long (cu ||| (1 <<< ((nI j).toInt64 &&& 63)))), (6, .int ((nmF td v (tnv τ)) (j + 1))), (5, .int (nI (j + 1))), (4, .int (nI j)), (1, .ref y), (0, .ref x)]) hx hb d_bk_cutsOfAsked_79 rfl hl (by decide) rfl (fun ls hl => ?_)
            refine lv_iinc (v := nI (j + 1)) (lv' := [(4, .int (nI (j + 1))), (2, .long (cu ||| (1 <<< ((nI j).toInt64 &&& 63)))), (6, .int ((nmF td v (tnv τ)) (j + 1))), (5, .int (nI (j + 1))), (1, .ref y), (0, .ref x)]) hx hb d_bk_cutsOfAsked_80 hl (k := 3) rfl (by first | exact nI_add _ 1 | (show nI _ + nI _ = _; rw [nI_add])) (by decide) rfl (fun ls hl => ?_)
            refine lv_goto (tgt := 20) hx hb d_bk_cutsOfAsked_83 (by decide) ?_
            exact ih (j + 1) (cu ||| (1 <<< ((nI j).toInt64 &&& 63))) _ _ _ (by omega) (by omega) (by omega) (by rw [cq_y hlj (by omega) h70, hcu]) hH (lv_cv (lv_sub hl [0, 1, 4, 5] rfl) (by rw [hnn]; rfl))
        · skip
          refine lv_aload_n hx hb d_bk_cutsOfAsked_45 rfl (lv_at hl 4 rfl) ?_
          refine hm_get E (tB in_bk) hK hH (hw.at 0 rfl) rfl 7 (by decide) (tC wm_80) rfl d_bk_cutsOfAsked_46 ?_
          refine lv_iload hx hb d_bk_cutsOfAsked_49 (lv_at hl 0 rfl) ?_
          have hM1 := c_rw_numberAt l G ar asg anm (n + 2) v (j + 1) M (hw.sub (ws' := [(ar, .inr (1, [.ref asg, .ref anm, .int (nI (n + 2))])), (anm, aI G 66 v)]) [2, 4] rfl rfl) (by omega) H.size
          have hG1 : GoodIn w_bk_cutsOfAsked (wsV R_bk 109 R_rw y_rw_numberAt w_rw_numberAt) := gB_V wm_121 wm_122 wm_123 wm_4 wm_124
          refine hm_call (va_runV (y := y_rw_numberAt) (bytes := b_rw_numberAt) (maxL := 2) (ws := w_rw_numberAt) (rm := { frames := 1, cells := 0, slots := 0, locals := 21 }) (own := R_bk) (index := 109) (ret := (Option.some Jvm.ClassFile.FieldType.int)) (C := R_rw) (As := [.int (nI (j + 1))]) (rest := []) E hM1 (cwV (y := y_rw_numberAt) (bytes := b_rw_numberAt) (maxL := 2) (ws := w_rw_numberAt) (rm := { frames := 1, cells := 0, slots := 0, locals := 21 }) (own := R_bk) (index := 109) (ret := (Option.some Jvm.ClassFile.FieldType.int)) (C := R_rw) 1 hts hG1 rfl rfl rfl (by decide +kernel) ⟨Nat.le_of_ble_eq_true rfl, Nat.le_of_ble_eq_true rfl⟩) (hm_preV gk_w gk_s hH hg hK (hw.at 2 rfl) rfl [.int (nI (j + 1))]) rfl rfl hl.1 rfl (lv_room (Nat.le_of_ble_eq_true rfl)) d_bk_cutsOfAsked_51 ⟨(by show _ ≤ 0; omega), (by show _ ≤ 0; omega)⟩) hH (fun r1 M1 H1 locs1 hq1 hH1 => ?_)
          obtain ⟨rfl, e1⟩ := hq1
          replace hH := hH1; rw [e1] at hH; clear hH1 e1; generalize H1 = H at hH ⊢; generalize locs1 = locs at hH ⊢
          refine lv_goto (tgt := 63) hx hb d_bk_cutsOfAsked_54 (by decide) ?_
          refine hm_top (w := .int ((nmF td v (tnv τ)) (j + 1))) (by rw [hnn, if_pos (by omega)]; rfl) ?_
          refine lv_istore (lv' := [(6, .int ((nmF td v (tnv τ)) (j + 1))), (5, .int (nI (j + 1))), (4, .int (nI j)), (2, .long cu), (1, va_rf td), (0, .ref x)]) hx hb d_bk_cutsOfAsked_63 hl (by decide) rfl (fun ls hl => ?_)
          refine lv_iload hx hb d_bk_cutsOfAsked_65 (lv_at hl 0 rfl) ?_
          refine lv_iconst (v := 1) hx hb d_bk_cutsOfAsked_67 (by decide) ?_
          refine lv_iand hx hb d_bk_cutsOfAsked_68 ?_
          refine lv_iconst (v := 1) hx hb d_bk_cutsOfAsked_69 (by decide) ?_
          refine hc_icmp_ne (x := ((nmF td v (tnv τ)) (j + 1)) &&& 1) (y := 1) (c9 := 1) hx hb (by decide) (tgt := 80) d_bk_cutsOfAsked_70 (by decide) (fun h70 => ?_) (fun h70 => ?_)
          · skip
            refine lv_iinc (v := nI (j + 1)) (lv' := [(4, .int (nI (j + 1))), (6, .int ((nmF td v (tnv τ)) (j + 1))), (5, .int (nI (j + 1))), (2, .long cu), (1, va_rf td), (0, .ref x)]) hx hb d_bk_cutsOfAsked_80 hl (k := 2) rfl (by first | exact nI_add _ 1 | (show nI _ + nI _ = _; rw [nI_add])) (by decide) rfl (fun ls hl => ?_)
            refine lv_goto (tgt := 20) hx hb d_bk_cutsOfAsked_83 (by decide) ?_
            exact ih (j + 1) (cu) _ _ _ (by omega) (by omega) (by omega) (by rw [cq_n h70]; exact hcu) hH (lv_sub hl [0, 3, 4, 5] rfl)
          · skip
            refine lv_lload_n hx hb d_bk_cutsOfAsked_73 rfl (lv_at hl 3 rfl) ?_
            refine lv_lconst (v := 1) hx hb d_bk_cutsOfAsked_74 (by decide) ?_
            refine lv_iload hx hb d_bk_cutsOfAsked_75 (lv_at hl 2 rfl) ?_
            refine lv_lshl hx hb d_bk_cutsOfAsked_77 rfl ?_
            refine lv_lor hx hb d_bk_cutsOfAsked_78 ?_
            refine lv_lstore_n (lv' := [(2, .long (cu ||| (1 <<< ((nI j).toInt64 &&& 63)))), (6, .int ((nmF td v (tnv τ)) (j + 1))), (5, .int (nI (j + 1))), (4, .int (nI j)), (1, va_rf td), (0, .ref x)]) hx hb d_bk_cutsOfAsked_79 rfl hl (by decide) (by simp [List.filter, hm_rfcat]) (fun ls hl => ?_)
            refine lv_iinc (v := nI (j + 1)) (lv' := [(4, .int (nI (j + 1))), (2, .long (cu ||| (1 <<< ((nI j).toInt64 &&& 63)))), (6, .int ((nmF td v (tnv τ)) (j + 1))), (5, .int (nI (j + 1))), (1, va_rf td), (0, .ref x)]) hx hb d_bk_cutsOfAsked_80 hl (k := 3) rfl (by first | exact nI_add _ 1 | (show nI _ + nI _ = _; rw [nI_add])) (by decide) rfl (fun ls hl => ?_)
            refine lv_goto (tgt := 20) hx hb d_bk_cutsOfAsked_83 (by decide) ?_
            exact ih (j + 1) (cu ||| (1 <<< ((nI j).toInt64 &&& 63))) _ _ _ (by omega) (by omega) (by omega) (by rw [cq_y hlj (by omega) h70, hcu]) hH (lv_sub hl [0, 1, 4, 5] rfl)
  exact L20 66 lf 0 _ _ _ (by omega) (by omega) (by omega) cq_0.symm hH (lv_sub hl [0, 1, 2, 3] rfl)

abbrev q_rw_init (G : hG) (r : Nat) (M : hM) : Option Value → hM → Prop := fun rv M' => rv = none ∧ ∃ sg nm, M sg = none ∧ M nm = none ∧ hm_has M' [(r, cRw sg nm 0), (sg, aI G 65 (fun _ => 0)), (nm, aI G 66 (fun _ => 0))] ∧ hm_kp (fun a => a ∈ [r]) M M'
set_option maxHeartbeats 4000000 in
set_option maxRecDepth 100000 in
theorem c_rw_init (l : Launch) (G : hG) (r : Nat) (M : hM) (hw : hm_has M [(r, .inr (1, [.null, .null, .int 0]))]) : Ct (gk G) l G.1 vwC y_rw_init w_rw_init { frames := 1, cells := 2, slots := 131, locals := 12 } ([.ref r] : List Value) M (q_rw_init G r M) 2 131 := by
  refine Ct.ofW (cc := b_rw_init) (maxL := 1) (ret := (Option.none : Option Jvm.ClassFile.FieldType)) (by decide) rfl (Nat.le_of_ble_eq_true rfl) (fun p e s m below meth c A ls E hr hlk hin hg hH hl => ?_)
  have hl : lv_has ls 1 [(0, .ref r)] := hl
  have hx := E.1; have hb := E.2.1; have hml := E.2.2.1; have hown := E.2.2.2.1; have hts := E.2.2.2.2; have hK := hg.1
  obtain ⟨M0, hM0⟩ : ∃ M0 : hM, M0 = M := ⟨M, rfl⟩
  rw [show q_rw_init G r M = q_rw_init G r M0 by rw [hM0]]
  have hk : hm_kp (fun a => a ∈ [r]) M0 M := by rw [hM0]; exact hm_kp.rf
  refine lv_aload_n hx hb d_rw_init_0 rfl (lv_at hl 0 rfl) ?_
  refine W.objInit hx hb hown (hts _ (tC wm_62)) (hts _ (tC wm_18)) (hts _ (tC wm_19)) rfl (by rw [hml]; exact hl.1) rfl d_rw_init_1 (Nat.le_of_ble_eq_true rfl) (Nat.le_of_ble_eq_true rfl) ?_
  refine W.eq (g2 := F0 m 4 ls []) rfl ?_
  refine lv_aload_n hx hb d_rw_init_4 rfl (lv_at hl 0 rfl) ?_
  refine lv_bipush (v := 65) hx hb d_rw_init_5 (by decide) ?_
  refine hm_newaI E (tC wm_46) hK hH 0 rfl (n := 65) (by decide) (by show _ ≤ 2; omega) (by show _ ≤ 131; omega) d_rw_init_7 (fun sg H hqsg hH => ?_)
  have hw := hw.push (ws' := [(r, .inr (1, [.null, .null, .int 0])), (sg, aI G 65 (fun _ => 0))]) hqsg rfl
  have hk := hk.tr (hm_kp.new (S := fun a => a ∈ [r]) (v := some (aI G 65 (fun _ => 0))) hqsg) (fun _ h => h)
  generalize va_up M sg (some (aI G 65 (fun _ => 0))) = M at hH hw hk ⊢
  have hq9 : M0 sg = none := by rw [hM0]; exact hqsg
  refine hm_putF E (tB in_rw) t_rw tk_rw nm_rw hK hH (hw.at 0 rfl) rfl 0 (by decide) (tC wm_63) rfl hin rfl rfl rfl (Nat.le_of_ble_eq_true rfl) (fs' := [.ref sg, .null, .int 0]) rfl d_rw_init_9 (fun H locs hH => ?_)
  have hw := hw.set (ws' := [(r, .inr (1, [.ref sg, .null, .int 0])), (sg, aI G 65 (fun _ => 0))]) (k := 0) rfl rfl
  have hk := hk.wr (a := r) (v := some (.inr (1, [.ref sg, .null, .int 0]))) (by first | (right; assumption) | (left; simp; done))
  generalize va_up M r (some (.inr (1, [.ref sg, .null, .int 0]))) = M at hH hw hk ⊢
  refine lv_aload_n hx hb d_rw_init_12 rfl (lv_at hl 0 rfl) ?_
  refine lv_bipush (v := 66) hx hb d_rw_init_13 (by decide) ?_
  refine hm_newaI E (tC wm_46) hK hH 0 rfl (n := 66) (by decide) (by show _ ≤ 2; omega) (by show _ ≤ 131; omega) d_rw_init_15 (fun nm H hqnm hH => ?_)
  have hq8 : M0 nm = none := hk.nq hqnm (fun a h => by simp at h; subst h; exact ⟨_, hw.at 0 rfl⟩)
  have hw := hw.push (ws' := [(r, .inr (1, [.ref sg, .null, .int 0])), (sg, aI G 65 (fun _ => 0)), (nm, aI G 66 (fun _ => 0))]) hqnm rfl
  have hk := hk.tr (hm_kp.new (S := fun a => a ∈ [r]) (v := some (aI G 66 (fun _ => 0))) hqnm) (fun _ h => h)
  generalize va_up M nm (some (aI G 66 (fun _ => 0))) = M at hH hw hk ⊢
  refine hm_putF E (tB in_rw) t_rw tk_rw nm_rw hK hH (hw.at 0 rfl) rfl 1 (by decide) (tC wm_64) rfl hin rfl rfl rfl (Nat.le_of_ble_eq_true rfl) (fs' := [.ref sg, .ref nm, .int 0]) rfl d_rw_init_17 (fun H locs hH => ?_)
  have hw := hw.set (ws' := [(r, .inr (1, [.ref sg, .ref nm, .int 0])), (sg, aI G 65 (fun _ => 0)), (nm, aI G 66 (fun _ => 0))]) (k := 0) rfl rfl
  have hk := hk.wr (a := r) (v := some (.inr (1, [.ref sg, .ref nm, .int 0]))) (by first | (right; assumption) | (left; simp; done))
  generalize va_up M r (some (.inr (1, [.ref sg, .ref nm, .int 0]))) = M at hH hw hk ⊢
  refine lv_aload_n hx hb d_rw_init_20 rfl (lv_at hl 0 rfl) ?_
  refine lv_iconst (v := 0) hx hb d_rw_init_21 (by decide) ?_
  refine hm_put E (tB in_rw) t_rw tk_rw nm_rw hK hH (hw.at 0 rfl) rfl 2 (by decide) (tC wm_65) rfl rfl rfl (Nat.le_of_ble_eq_true rfl) (fs' := [.ref sg, .ref nm, .int 0]) rfl d_rw_init_22 (fun H locs hH => ?_)
  have hw := hw.set (ws' := [(r, .inr (1, [.ref sg, .ref nm, .int 0])), (sg, aI G 65 (fun _ => 0)), (nm, aI G 66 (fun _ => 0))]) (k := 0) rfl rfl
  have hk := hk.wr (a := r) (v := some (.inr (1, [.ref sg, .ref nm, .int 0]))) (by first | (right; assumption) | (left; simp; done))
  generalize va_up M r (some (.inr (1, [.ref sg, .ref nm, .int 0]))) = M at hH hw hk ⊢
  exact hm_vret E hr hlk hH (⟨rfl, sg, nm, hq9, hq8, hw, hk⟩) (by omega) (by omega) d_rw_init_25

abbrev q_tr_init (G : hG) (t : Nat) (M : hM) : Option Value → hM → Prop := fun rv M' => rv = none ∧ ∃ q, M q = none ∧ hm_has M' [(t, cTr q 0 0), (q, cNd 0 none none none)] ∧ hm_kp (fun a => a ∈ [t]) M M'
set_option maxHeartbeats 4000000 in
set_option maxRecDepth 100000 in
theorem c_tr_init (l : Launch) (G : hG) (t : Nat) (M : hM) (hw : hm_has M [(t, .inr (2, [.null, .int 0, .int 0]))]) : Ct (gk G) l G.1 vwC y_tr_init w_tr_init { frames := 2, cells := 1, slots := 4, locals := 33 } ([.ref t] : List Value) M (q_tr_init G t M) 1 4 := by
  refine Ct.ofW (cc := b_tr_init) (maxL := 1) (ret := (Option.none : Option Jvm.ClassFile.FieldType)) (by decide) rfl (Nat.le_of_ble_eq_true rfl) (fun p e s m below meth c A ls E hr hlk hin hg hH hl => ?_)
  have hl : lv_has ls 1 [(0, .ref t)] := hl
  have hx := E.1; have hb := E.2.1; have hml := E.2.2.1; have hown := E.2.2.2.1; have hts := E.2.2.2.2; have hK := hg.1
  obtain ⟨M0, hM0⟩ : ∃ M0 : hM, M0 = M := ⟨M, rfl⟩
  rw [show q_tr_init G t M = q_tr_init G t M0 by rw [hM0]]
  have hk : hm_kp (fun a => a ∈ [t]) M0 M := by rw [hM0]; exact hm_kp.rf
  refine lv_aload_n hx hb d_tr_init_0 rfl (lv_at hl 0 rfl) ?_
  refine W.objInit hx hb hown (hts _ (tC wm_25)) (hts _ (tC wm_18)) (hts _ (tC wm_19)) rfl (by rw [hml]; exact hl.1) rfl d_tr_init_1 (Nat.le_of_ble_eq_true rfl) (Nat.le_of_ble_eq_true rfl) ?_
  refine W.eq (g2 := F0 m 4 ls []) rfl ?_
  refine lv_aload_n hx hb d_tr_init_4 rfl (lv_at hl 0 rfl) ?_
  refine hm_new E (tB in_nd) t_nd tk_nd (tC wm_26) (tC wm_27) (tC wm_3) (ci := 0) hK hH rfl (fs := [.int 0, .null, .null, .null]) (by decide) (by show _ ≤ 1; omega) (by show _ ≤ 4; omega) d_tr_init_5 (fun q H hqq hH => ?_)
  have hw := hw.push (ws' := [(t, .inr (2, [.null, .int 0, .int 0])), (q, .inr (0, [.int 0, .null, .null, .null]))]) hqq rfl
  have hk := hk.tr (hm_kp.new (S := fun a => a ∈ [t]) (v := some (.inr (0, [.int 0, .null, .null, .null]))) hqq) (fun _ h => h)
  generalize va_up M q (some (.inr (0, [.int 0, .null, .null, .null]))) = M at hH hw hk ⊢
  have hq9 : M0 q = none := by rw [hM0]; exact hqq
  refine lv_dup hx hb d_tr_init_8 rfl ?_
  refine lv_iconst (v := 0) hx hb d_tr_init_9 (by decide) ?_
  have hM1 := c_nd_init l G q 0 M (hw.sub (ws' := [(q, .inr (0, [.int 0, .null, .null, .null]))]) [1] rfl rfl) H.size
  have hG1 : GoodIn w_tr_init w_nd_init := gB_0 wm_30
  refine hm_call (va_runI (y := y_nd_init) (bytes := b_nd_init) (maxL := 2) (ws := w_nd_init) (rm := { frames := 1, cells := 0, slots := 0, locals := 12 }) (own := R_tr) (index := 9) (As := [.int 0]) (rest := [.ref q, .ref t]) E hM1 (cwI (y := y_nd_init) (bytes := b_nd_init) (maxL := 2) (ws := w_nd_init) (rm := { frames := 1, cells := 0, slots := 0, locals := 12 }) (own := R_tr) (index := 9) 1 hts hG1 rfl rfl rfl (hts _ (tC wm_3)) (hts _ (tC wm_28)) (hts _ (tC wm_29)) rfl (by decide +kernel) ⟨Nat.le_of_ble_eq_true rfl, Nat.le_of_ble_eq_true rfl⟩) (hm_preS gk_w gk_s hH hg (.ref q :: [.int 0])) rfl rfl hl.1 rfl (lv_room (Nat.le_of_ble_eq_true rfl)) d_tr_init_10 ⟨(by show _ ≤ 1; omega), (by show _ ≤ 4; omega)⟩) hH (fun r1 M1 H1 locs1 hq1 hH1 => ?_)
  replace hH := hH1; clear hH1; generalize H1 = H at hH ⊢; generalize locs1 = locs at hH ⊢
  obtain ⟨rfl, hw1, hk1⟩ := hq1
  have hw := hm_join (ws' := [(t, .inr (2, [.null, .int 0, .int 0])), (q, .inr (0, [.int 0, .null, .null, .null]))]) (wc := [(q, .inr (0, [.int 0, .null, .null, .null]))]) hw hw1 hk1 [1] rfl rfl (fun _ h => h) rfl (by
    intro k9 h9
    match k9, h9 with
    | 0, _ => exact Or.inl ⟨by decide, rfl⟩
    | 1, _ => exact Or.inr ⟨0, rfl, rfl⟩
    | k9 + 2, h9 => exact absurd h9 (Nat.not_lt_of_le (Nat.le_add_left _ _)))
  have hk := hk.tr9 hk1 hq9
  generalize M1 = M at hH hw hk
  refine hm_putF E (tB in_tr) t_tr tk_tr nm_tr hK hH (hw.at 0 rfl) rfl 0 (by decide) (tC wm_47) rfl hin rfl rfl rfl (Nat.le_of_ble_eq_true rfl) (fs' := [.ref q, .int 0, .int 0]) rfl d_tr_init_13 (fun H locs hH => ?_)
  have hw := hw.set (ws' := [(t, .inr (2, [.ref q, .int 0, .int 0])), (q, .inr (0, [.int 0, .null, .null, .null]))]) (k := 0) rfl rfl
  have hk := hk.wr (a := t) (v := some (.inr (2, [.ref q, .int 0, .int 0]))) (by first | (right; assumption) | (left; simp; done))
  generalize va_up M t (some (.inr (2, [.ref q, .int 0, .int 0]))) = M at hH hw hk ⊢
  refine lv_aload_n hx hb d_tr_init_16 rfl (lv_at hl 0 rfl) ?_
  refine lv_iconst (v := 0) hx hb d_tr_init_17 (by decide) ?_
  refine hm_put E (tB in_tr) t_tr tk_tr nm_tr hK hH (hw.at 0 rfl) rfl 1 (by decide) (tC wm_48) rfl rfl rfl (Nat.le_of_ble_eq_true rfl) (fs' := [.ref q, .int 0, .int 0]) rfl d_tr_init_18 (fun H locs hH => ?_)
  have hw := hw.set (ws' := [(t, .inr (2, [.ref q, .int 0, .int 0])), (q, .inr (0, [.int 0, .null, .null, .null]))]) (k := 0) rfl rfl
  have hk := hk.wr (a := t) (v := some (.inr (2, [.ref q, .int 0, .int 0]))) (by first | (right; assumption) | (left; simp; done))
  generalize va_up M t (some (.inr (2, [.ref q, .int 0, .int 0]))) = M at hH hw hk ⊢
  refine lv_aload_n hx hb d_tr_init_21 rfl (lv_at hl 0 rfl) ?_
  refine lv_iconst (v := 0) hx hb d_tr_init_22 (by decide) ?_
  refine hm_put E (tB in_tr) t_tr tk_tr nm_tr hK hH (hw.at 0 rfl) rfl 2 (by decide) (tC wm_49) rfl rfl rfl (Nat.le_of_ble_eq_true rfl) (fs' := [.ref q, .int 0, .int 0]) rfl d_tr_init_23 (fun H locs hH => ?_)
  have hw := hw.set (ws' := [(t, .inr (2, [.ref q, .int 0, .int 0])), (q, .inr (0, [.int 0, .null, .null, .null]))]) (k := 0) rfl rfl
  have hk := hk.wr (a := t) (v := some (.inr (2, [.ref q, .int 0, .int 0]))) (by first | (right; assumption) | (left; simp; done))
  generalize va_up M t (some (.inr (2, [.ref q, .int 0, .int 0]))) = M at hH hw hk ⊢
  exact hm_vret E hr hlk hH (⟨rfl, q, hq9, hw, hk⟩) (by omega) (by omega) d_tr_init_26
end
section
/-! METHODS THAT MAY THROW -/
abbrev IAE : String := "java/lang/IllegalArgumentException"
abbrev ISE : String := "java/lang/IllegalStateException"
abbrev exN : List String := ["java/lang/RuntimeException", "java/lang/Exception"]
abbrev wXA : List Cond := vx_atS R_bk 51 IAE exN
abbrev wXS : List Cond := vx_atS R_bk 62 ISE exN
/-- the words of a throw that don't last by themselves -/
abbrev wXB : List Cond := [.declares ⟨"java/lang/RuntimeException", "<init>", "(Ljava/lang/String;)V"⟩, .declares ⟨"java/lang/Exception", "<init>", "(Ljava/lang/String;)V"⟩, .declares ⟨"java/lang/Throwable", "<init>", "(Ljava/lang/String;)V"⟩, .castable IAE IAE, .castable ISE ISE]
theorem wXA_g : ∀ w ∈ wXA.filter goodWord, w ∈ lw_tbl := by decide +kernel
theorem wXS_g : ∀ w ∈ wXS.filter goodWord, w ∈ lw_tbl := by decide +kernel
theorem wXA_b : ∀ w ∈ wXA.filter (fun w => !goodWord w), w ∈ wXB := by decide +kernel
theorem wXS_b : ∀ w ∈ wXS.filter (fun w => !goodWord w), w ∈ wXB := by decide +kernel
theorem wXA_o : ∀ w ∈ Cond.classLink R_bk 47 IAE :: Cond.initialized IAE :: wXA, vx_ot w = true := by decide +kernel
theorem wXS_o : ∀ w ∈ Cond.classLink R_bk 58 ISE :: Cond.initialized ISE :: wXS, vx_ot w = true := by decide +kernel
end
