/-! THE CLAIM OUT OF ONE WALK OF THE LAW'S BODY. Your part is whole_start (and what it stands on); all else here is the same for every law, but numbers. -/
def R_law : String := "HyphenBookLaw"
def lw_P (b : Addr) (xs : List Int32) (args : Array Value) (s : State) : Prop := args = #[.ref b] ∧ s.IntsAt b xs ∧ xs.length ≤ 2048 ∧ (Jvm.Cond.and given_1 narrow_1).before args s = true
def lw_Q (_ : Array Value) (s : State) (o : Outcome) (t : State) : Prop := o = .returned (some (.int 1)) ∧ Framed s o t [] 601024 7293034
def lw_Z (below : List Frame) (a : Array Value) (s : State) : State → Prop := fun t => ∃ o, t.status = .running ∧ Ended t below o ∧ lw_Q a s o t
/-- the law's own end, with 1 on the stack, nothing written that was there before, its room as the claim has it -/
theorem lw_ret {p : Program} {l : Launch} {e : Env} {s : State} {m : MethodId} {below : List Frame} {meth : Method} {c : Code} {b : Nat} (hx : p.tables.exec = Jvm.exec) (hb : c.code = code) (hr : meth.sig.returnType = ret) (hlocks : meth.locks = false) {pc : Nat} {H : Heap} {ls : Array Slot} (hdg : decode code pc = .ok (.ireturn, 1)) : W p l e room_1 s m #[Value.ref b] below meth c H [] 601024 7293034 (lw_Z below #[Value.ref b] s) (F0 m pc ls [.int 1]) := by
  intro T hT X
  obtain ⟨fs, hret, hrun, hended, hW, hframe⟩ := X.leave (v := some (.int 1)) (hlocks := hlocks) (fun h => by rw [hr] at h; cases h)
  have hmeth' : T.vm.method? m = some meth := X.method'
  refine ⟨T.setFrames fs, ?_, .returned (some (.int 1)), hrun, hended, rfl, ⟨_, rfl⟩, hW, hframe⟩
  jvm_step X.here [X.here.top, hx, hb, hdg, hmeth', hr, ret, narrow_b1]
  (try refine ⟨rfl, ?_⟩); (try refine ⟨rfl, ?_⟩)
  first | (intro acts; rw [hret _ acts rfl rfl rfl]) | rw [hret _ _ rfl rfl rfl]
  exact Steps.refl _
/-- what holds at the law's entry: the machine, the code, the tables' words (any of lw_tbl by 'hts w (by decide +kernel)'), the script of L ints xs at the cell b, what the Statement gives of the start (any of its parts by flat_of_before) -/
def lw_At (p : Program) (s : State) (m : MethodId) (meth : Method) (c : Code) (b L : Nat) (xs : Nat → Int32) : Prop :=
  p.tables.exec = Jvm.exec ∧ c.code = code ∧ meth.sig.returnType = ret ∧ c.maxLocals = 8 ∧ s.vm.findClass R_law = some m.cls ∧ (∀ w ∈ lw_tbl, w.before #[Value.ref b] s = true) ∧ va_X b L xs s s.heap ∧ b < s.heap.size ∧ meth.locks = false ∧ (Jvm.Cond.and given_1 narrow_1).before #[Value.ref b] s = true
theorem tbl_i {w : Cond} (i : Nat) (h : tables_1[i]? = some w) : w ∈ lw_tbl := List.mem_append_right _ (List.mem_of_getElem? h)
def w_lw_law : List Cond := Cond.initialized "HyphenBook" :: lwB
set_option maxHeartbeats 4000000 in
set_option maxRecDepth 100000 in
/-- what the tables and the Statement give at the law's start -/
theorem lw_gy {p : Program} {s : State} {m : MethodId} {meth : Method} {c : Code} {b L : Nat} {xs : Nat → Int32} (C0 : lw_At p s m meth c b L xs) : ∃ G : hG, gy G s ∧ zqs (fun q : Nat => s.heap.size ≤ q) s s.heap := by
  obtain ⟨hx, hb, hr, hml, hown, hts, hX, hbl, hlocks, hgv⟩ := C0
  have hs := flat_of_before _ hgv
  obtain ⟨c0, iS0, hKn0⟩ := u_known (C := R_nd) (T := F_nd) (N := 4) (n := 4) hts (fun w h => lwB_in w (in_nd w h)) (hts _ (lwB_in _ wm_27))
  obtain ⟨c1, iS1, hKn1⟩ := u_known (C := R_rw) (T := F_rw) (N := 3) (n := 3) hts (fun w h => lwB_in w (in_rw w h)) (hts _ (lwB_in _ wm_58))
  obtain ⟨c2, iS2, hKn2⟩ := u_known (C := R_tr) (T := F_tr) (N := 3) (n := 3) hts (fun w h => lwB_in w (in_tr w h)) (hts _ (lwB_in _ wm_21))
  obtain ⟨c3, iS3, hKn3⟩ := u_known (C := R_bk) (T := F_bk) (N := 8) (n := 8) hts (fun w h => lwB_in w (in_bk w h)) (hts _ (lwB_in _ wm_13))
  obtain ⟨c4, iS4, hKn4⟩ := u_known (C := R_md) (T := F_md) (N := 18) (n := 18) hts (fun w h => lwB_in w (in_md w h)) (hts _ (lwB_in _ wm_360))
  obtain ⟨cI, kI, pI, i1, i2, i3⟩ := Cond.arrayClass_spec (hts _ (lwB_in _ wm_46))
  obtain ⟨cJ, kJ, pJ, j1, j2, j3⟩ := Cond.arrayClass_spec (hts _ (lwB_in _ wm_422))
  have hKc : ∀ (k : Nat) (q : vw_C), vwC[k]? = some q → u_Kn s q.1 q.2.1 q.2.2 ((fun k => if k = 0 then c0 else if k = 1 then c1 else if k = 2 then c2 else if k = 3 then c3 else c4) k) ((fun k => if k = 0 then iS0 else if k = 1 then iS1 else if k = 2 then iS2 else if k = 3 then iS3 else iS4) k) := by
    intro k q hq
    match k, hq with
    | 0, hq => cases hq; exact hKn0
    | 1, hq => cases hq; exact hKn1
    | 2, hq => cases hq; exact hKn2
    | 3, hq => cases hq; exact hKn3
    | 4, hq => cases hq; exact hKn4
    | k + 5, hq => exact absurd hq (by simp)
  have hA : ∀ a : Nat, a < s.heap.size → ¬ (fun q : Nat => s.heap.size ≤ q) a := fun a h z => absurd z (Nat.not_le.mpr h)
  have str : ∀ {k : Nat} {tx : String}, (Cond.exactly (.string R_bk k) "java/lang/String").before #[Value.ref b] s = true → (Cond.stringRef R_bk k tx).before #[Value.ref b] s = true → ∃ a, vk_R R_bk k tx a s := fun h1 h2 => by
    obtain ⟨a, c, cA, kA, q1, -⟩ := Cond.exactly_spec h1
    exact ⟨a, vk_R.of h2 q1⟩
  refine ⟨(((fun k => if k = 0 then c0 else if k = 1 then c1 else if k = 2 then c2 else if k = 3 then c3 else c4), (fun k => if k = 0 then iS0 else if k = 1 then iS1 else if k = 2 then iS2 else if k = 3 then iS3 else iS4)), cI, cJ), ⟨⟨⟨⟨hKc, ?_⟩, ?_, ?_, ?_, ?_, ?_, ?_⟩, ?_, ?_, ?_, ?_, ?_⟩, ?_⟩, ?_, ?_⟩
  · intro k q hq
    match k, hq with
    | 0, hq => cases hq; exact ⟨fun n z => ⟨fun k h => (by cases h), kI, i2, pI, i3⟩, i1⟩
    | 1, hq => cases hq; exact ⟨fun n z => ⟨fun k h => (by cases h), kJ, j2, pJ, j3⟩, j1⟩
    | k + 2, hq => exact absurd hq (by simp)
  · exact va_Nw.of rfl (hts _ (tbl_i 36 (by decide +kernel)))
  · exact va_Nw.of rfl (hts _ (tbl_i 22 (by decide +kernel)))
  · exact va_Nw.of rfl (hts _ (tbl_i 59 (by decide +kernel)))
  · exact va_Nw.of rfl (hts _ (tbl_i 125 (by decide +kernel)))
  · exact va_Nw.of rfl (hts _ (tbl_i 348 (by decide +kernel)))
  · exact va_Nw.of rfl (hts _ (tbl_i 306 (by decide +kernel)))
  · have hd : ∀ w ∈ wXB, w ∈ lw_tbl ∧ w.onTables = true := by decide +kernel
    exact fun w hw => va_Nw.of (hd w hw).2 (hts w (hd w hw).1)
  · exact str (hs _ (by decide +kernel)) (hts _ (tbl_i 227 (by decide +kernel)))
  · exact str (hs _ (by decide +kernel)) (hts _ (tbl_i 273 (by decide +kernel)))
  · exact str (hs _ (by decide +kernel)) (hts _ (tbl_i 319 (by decide +kernel)))
  · exact str (hs _ (by decide +kernel)) (hts _ (tbl_i 336 (by decide +kernel)))
  · exact va_Nc.of (hs _ (by decide +kernel))
  · exact vx_Zqof (hts _ (tbl_i 214 (by decide +kernel))) (hts _ (lwB_in _ wm_7)) (hs _ (by decide +kernel)) hA
  · exact vx_Zqof (hts _ (tbl_i 216 (by decide +kernel))) (hts _ (lwB_in _ wm_7)) (hs _ (by decide +kernel)) hA
section SWR
variable {p : Program} {l : Launch} {e : Env} {R : Room} {s : State} {m : MethodId} {args : Array Value} {below : List Frame} {meth : Method} {c : Code} {H : Heap} {locs : List Loc} {cells slots : Nat} {Q : State → Prop}
variable {cc : ByteArray} {pc nL : Nat} {ls : Array Slot} {rest : List Value} {D : va_G} {cl : List vw_C} {M : hM} {Ts : List Cond} {own : String} {b L : Nat} {xs : Nat → Int32}
/-- the script is read -/
theorem sw_ld (E : CallFix p m c cc nL s args Ts own) (hX : va_X b L xs s s.heap) (hbl : b < s.heap.size) (hL : L ≤ 2048) (hH : hm_I D cl (fun q : Nat => s.heap.size ≤ q) s.heap M H locs) {k : Nat} (hk : k < L) (hdg : decode cc pc = .ok (.iaload, 1))
    (kk : W p l e R s m args below meth c H locs cells slots Q (F0 m (pc + 1) ls (.int (xs k) :: rest))) : W p l e R s m args below meth c H locs cells slots Q (F0 m pc ls (.int (nI k) :: .ref b :: rest)) := by
  refine va_sld E.1 E.2.1 hX hbl (A := fun q : Nat => s.heap.size ≤ q) (Nat.not_le.mpr hbl) hH.2.2.1 (vp_in_nI hk (by omega)) hdg ?_
  rw [nI_clamp (by omega)]
  exact kk
theorem sw_len (E : CallFix p m c cc nL s args Ts own) (hX : va_X b L xs s s.heap) (hbl : b < s.heap.size) (hH : hm_I D cl (fun q : Nat => s.heap.size ≤ q) s.heap M H locs) (hdg : decode cc pc = .ok (.arraylength, 1))
    (kk : W p l e R s m args below meth c H locs cells slots Q (F0 m (pc + 1) ls (.int (nI L) :: rest))) : W p l e R s m args below meth c H locs cells slots Q (F0 m pc ls (.ref b :: rest)) :=
  va_slen E.1 E.2.1 hX hbl (A := fun q : Nat => s.heap.size ≤ q) (Nat.not_le.mpr hbl) hH.2.2.1 hdg kk
end SWR
