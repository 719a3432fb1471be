abbrev q_tr_entries (G : hG) (t root en bg : Nat) (M : hM) : Option Value → hM → Prop := fun rv M' => rv = some (.int (nI en)) ∧ M' = M
set_option maxHeartbeats 4000000 in
set_option maxRecDepth 100000 in
theorem c_tr_entries (l : Launch) (G : hG) (t root en bg : Nat) (M : hM) (ht : M t = some (cTr root en bg)) : Ct (gk G) l G.1 vwC y_tr_entries w_tr_entries { frames := 0, cells := 0, slots := 0, locals := 0 } ([.ref t] : List Value) M (q_tr_entries G t root en bg M) 0 0 := by
  refine Ct.ofW (cc := b_tr_entries) (maxL := 1) (ret := (Option.some Jvm.ClassFile.FieldType.int)) (by decide) rfl (Nat.le_of_ble_eq_true rfl) (fun p e s m below meth c A ls E hr hlk hin hg hH hl => ?_)
  have hl : lv_has ls 1 [(0, .ref t)] := hl
  have hx := E.1; have hb := E.2.1; have hml := E.2.2.1; have hown := E.2.2.2.1; have hts := E.2.2.2.2; have hK := hg.1
  obtain ⟨M0, hM0⟩ : ∃ M0 : hM, M0 = M := ⟨M, rfl⟩
  rw [show q_tr_entries G t root en bg M = q_tr_entries G t root en bg M0 by rw [hM0]]
  refine lv_aload_n hx hb d_tr_entries_0 rfl (lv_at hl 0 rfl) ?_
  refine hm_get E (tB in_tr) hK hH ht rfl 1 (by decide) (tC wm_48) rfl d_tr_entries_1 ?_
  exact hm_iret E hr hlk hH (⟨rfl, hM0.symm⟩) (by omega) (by omega) d_tr_entries_4

abbrev q_tr_beginnings (G : hG) (t root en bg : Nat) (M : hM) : Option Value → hM → Prop := fun rv M' => rv = some (.int (nI bg)) ∧ M' = M
set_option maxHeartbeats 4000000 in
set_option maxRecDepth 100000 in
theorem c_tr_beginnings (l : Launch) (G : hG) (t root en bg : Nat) (M : hM) (ht : M t = some (cTr root en bg)) : Ct (gk G) l G.1 vwC y_tr_beginnings w_tr_beginnings { frames := 0, cells := 0, slots := 0, locals := 0 } ([.ref t] : List Value) M (q_tr_beginnings G t root en bg M) 0 0 := by
  refine Ct.ofW (cc := b_tr_beginnings) (maxL := 1) (ret := (Option.some Jvm.ClassFile.FieldType.int)) (by decide) rfl (Nat.le_of_ble_eq_true rfl) (fun p e s m below meth c A ls E hr hlk hin hg hH hl => ?_)
  have hl : lv_has ls 1 [(0, .ref t)] := hl
  have hx := E.1; have hb := E.2.1; have hml := E.2.2.1; have hown := E.2.2.2.1; have hts := E.2.2.2.2; have hK := hg.1
  obtain ⟨M0, hM0⟩ : ∃ M0 : hM, M0 = M := ⟨M, rfl⟩
  rw [show q_tr_beginnings G t root en bg M = q_tr_beginnings G t root en bg M0 by rw [hM0]]
  refine lv_aload_n hx hb d_tr_beginnings_0 rfl (lv_at hl 0 rfl) ?_
  refine hm_get E (tB in_tr) hK hH ht rfl 2 (by decide) (tC wm_49) rfl d_tr_beginnings_1 ?_
  exact hm_iret E hr hlk hH (⟨rfl, hM0.symm⟩) (by omega) (by omega) d_tr_beginnings_4

abbrev q_tr_numbersOf (G : hG) (t root en bg r sg nm sz : Nat) (f : Nat → Int32) (τ : tau) (M : hM) : Option Value → hM → Prop := fun rv M' => rv = some (va_rf ((twk (tst τ) root f sz).bind (tnu τ))) ∧ M' = M
set_option maxHeartbeats 4000000 in
set_option maxRecDepth 100000 in
theorem c_tr_numbersOf (l : Launch) (G : hG) (t root en bg r sg nm sz : Nat) (f : Nat → Int32) (τ : tau) (M : hM) (hw : hm_has M [(t, .inr (2, [.ref root, .int (nI en), .int (nI bg)])), (r, .inr (1, [.ref sg, .ref nm, .int (nI sz)])), (sg, aI G 65 f)]) (htr : trH G M root τ) (hsz : sz ≤ 65) : Ct (gk G) l G.1 vwC y_tr_numbersOf w_tr_numbersOf { frames := 2, cells := 0, slots := 0, locals := 42 } ([.ref t, .ref r] : List Value) M (q_tr_numbersOf G t root en bg r sg nm sz f τ M) 0 0 := by
  refine Ct.ofW (cc := b_tr_numbersOf) (maxL := 4) (ret := (Option.some (Jvm.ClassFile.FieldType.array Jvm.ClassFile.FieldType.int))) (by decide) rfl (Nat.le_of_ble_eq_true rfl) (fun p e s m below meth c A ls E hr hlk hin hg hH hl => ?_)
  have hl : lv_has ls 4 [(0, .ref t), (1, .ref r)] := hl
  have hx := E.1; have hb := E.2.1; have hml := E.2.2.1; have hown := E.2.2.2.1; have hts := E.2.2.2.2; have hK := hg.1
  obtain ⟨M0, hM0⟩ : ∃ M0 : hM, M0 = M := ⟨M, rfl⟩
  rw [show q_tr_numbersOf G t root en bg r sg nm sz f τ M = q_tr_numbersOf G t root en bg r sg nm sz f τ M0 by rw [hM0]]
  have L7 : ∀ (k : Nat) (i a : Nat) (H : Heap) (locs : List Loc) (ls : Array Slot), sz + 1 ≤ i + k → i ≤ sz → twk (tst τ) root f i = some a → a ∈ tL τ → hm_I G.1 vwC A s.heap M H locs → lv_has ls 4 [(3, .int (nI i)), (2, .ref a), (0, .ref t), (1, .ref r)] → W p l e { frames := 2, cells := 0, slots := 0, locals := 42 } s m ([.ref t, .ref r] : List Value).toArray below meth c H locs 0 0 (MQ below (hm_Q G.1 vwC (q_tr_numbersOf G t root en bg r sg nm sz f τ M0) A) ([.ref t, .ref r] : List Value).toArray s 0 0 A) (F0 m 7 ls []) := by
    intro k
    induction k with
    | zero => intro i a H locs ls hfu hi hwk haL; exact absurd hfu (by omega)
    | succ k ih =>
      intro i a H locs ls hfu hi hwk haL hH hl
      refine lv_iload_n hx hb d_tr_numbersOf_7 rfl (lv_at hl 0 rfl) ?_
      refine lv_aload_n hx hb d_tr_numbersOf_8 rfl (lv_at hl 3 rfl) ?_
      have hM1 := c_rw_size l G r sg nm sz M (hw.sub (ws' := [(r, cRw sg nm sz)]) [1] rfl rfl) H.size
      have hG1 : GoodIn w_tr_numbersOf (wsV R_tr 25 R_rw y_rw_size w_rw_size) := gB_V wm_258 wm_115 wm_116 wm_4 wm_117
      refine hm_call (va_runV (y := y_rw_size) (bytes := b_rw_size) (maxL := 1) (ws := w_rw_size) (rm := { frames := 0, cells := 0, slots := 0, locals := 0 }) (own := R_tr) (index := 25) (ret := (Option.some Jvm.ClassFile.FieldType.int)) (C := R_rw) (As := []) (rest := [.int (nI i)]) E hM1 (cwV (y := y_rw_size) (bytes := b_rw_size) (maxL := 1) (ws := w_rw_size) (rm := { frames := 0, cells := 0, slots := 0, locals := 0 }) (own := R_tr) (index := 25) (ret := (Option.some Jvm.ClassFile.FieldType.int)) (C := R_rw) 0 hts hG1 rfl rfl rfl (by decide +kernel) ⟨Nat.le_of_ble_eq_true rfl, Nat.le_of_ble_eq_true rfl⟩) (hm_preV gk_w gk_s hH hg hK (hw.at 1 rfl) rfl []) rfl rfl hl.1 rfl (lv_room (Nat.le_of_ble_eq_true rfl)) d_tr_numbersOf_9 ⟨(by show _ ≤ 0; omega), (by show _ ≤ 0; omega)⟩) hH (fun r1 M1 H1 locs1 hq1 hH1 => ?_)
      obtain ⟨rfl, e1⟩ := hq1
      replace hH := hH1; rw [e1] at hH; clear hH1 e1; generalize H1 = H at hH ⊢; generalize locs1 = locs at hH ⊢
      refine hn_icmp_ge (a := i) (b := sz) hx hb (by omega) (by omega) (tgt := 37) d_tr_numbersOf_12 (by decide) (fun h12 => ?_) (fun h12 => ?_)
      · skip
        refine lv_aload_n hx hb d_tr_numbersOf_37 rfl (lv_at hl 1 rfl) ?_
        refine hm_getN E (tB in_nd) hK hH (htr.2.1 a haL) rfl 3 (by decide) hg.2.1 rfl d_tr_numbersOf_38 ?_
        obtain rfl : i = sz := by omega
        exact hm_aret (x := tnu τ a) E hr (Or.inr ⟨_, rfl⟩) hlk hH (⟨by rw [hwk]; rfl, hM0.symm⟩) (by omega) (by omega) d_tr_numbersOf_41
      · skip
        refine lv_aload_n hx hb d_tr_numbersOf_15 rfl (lv_at hl 1 rfl) ?_
        refine lv_aload_n hx hb d_tr_numbersOf_16 rfl (lv_at hl 3 rfl) ?_
        refine lv_iload_n hx hb d_tr_numbersOf_17 rfl (lv_at hl 0 rfl) ?_
        have hM1 := c_rw_signAt l G r sg nm sz f i M (hw.sub (ws' := [(r, cRw sg nm sz), (sg, aI G 65 f)]) [1, 2] rfl rfl) hsz (by omega) H.size
        have hG1 : GoodIn w_tr_numbersOf (wsV R_tr 31 R_rw y_rw_signAt w_rw_signAt) := gB_V wm_259 wm_180 wm_181 wm_4 wm_182
        refine hm_call (va_runV (y := y_rw_signAt) (bytes := b_rw_signAt) (maxL := 2) (ws := w_rw_signAt) (rm := { frames := 1, cells := 0, slots := 0, locals := 21 }) (own := R_tr) (index := 31) (ret := (Option.some Jvm.ClassFile.FieldType.int)) (C := R_rw) (As := [.int (nI i)]) (rest := [.ref a]) E hM1 (cwV (y := y_rw_signAt) (bytes := b_rw_signAt) (maxL := 2) (ws := w_rw_signAt) (rm := { frames := 1, cells := 0, slots := 0, locals := 21 }) (own := R_tr) (index := 31) (ret := (Option.some Jvm.ClassFile.FieldType.int)) (C := R_rw) 1 hts hG1 rfl rfl rfl (by decide +kernel) ⟨Nat.le_of_ble_eq_true rfl, Nat.le_of_ble_eq_true rfl⟩) (hm_preV gk_w gk_s hH hg hK (hw.at 1 rfl) rfl [.int (nI i)]) rfl rfl hl.1 rfl (lv_room (Nat.le_of_ble_eq_true rfl)) d_tr_numbersOf_18 ⟨(by show _ ≤ 0; omega), (by show _ ≤ 0; omega)⟩) hH (fun r1 M1 H1 locs1 hq1 hH1 => ?_)
        obtain ⟨rfl, e1⟩ := hq1
        replace hH := hH1; rw [e1] at hH; clear hH1 e1; generalize H1 = H at hH ⊢; generalize locs1 = locs at hH ⊢
        refine hm_top (w := .int (f i)) (by rw [if_pos h12]) ?_
        have hM1 := c_nd_childWith l G a (tsg τ a) (tnx τ a) (tnu τ a) (tcs τ a) (tsg τ) (f i) M (htr.2.1 a haL) (htr.ch haL) H.size
        have hG1 : GoodIn w_tr_numbersOf (wsV R_tr 35 R_nd y_nd_childWith w_nd_childWith) := gB_V wm_260 wm_261 wm_262 wm_3 wm_263
        refine hm_call (va_runV (y := y_nd_childWith) (bytes := b_nd_childWith) (maxL := 3) (ws := w_nd_childWith) (rm := { frames := 0, cells := 0, slots := 0, locals := 0 }) (own := R_tr) (index := 35) (ret := (Option.some (Jvm.ClassFile.FieldType.object "HyphenBook$Node"))) (C := R_nd) (As := [.int (f i)]) (rest := []) E hM1 (cwV (y := y_nd_childWith) (bytes := b_nd_childWith) (maxL := 3) (ws := w_nd_childWith) (rm := { frames := 0, cells := 0, slots := 0, locals := 0 }) (own := R_tr) (index := 35) (ret := (Option.some (Jvm.ClassFile.FieldType.object "HyphenBook$Node"))) (C := R_nd) 1 hts hG1 rfl rfl rfl (by decide +kernel) ⟨Nat.le_of_ble_eq_true rfl, Nat.le_of_ble_eq_true rfl⟩) (hm_preV gk_w gk_s hH hg hK (htr.2.1 a haL) rfl [.int (f i)]) rfl rfl hl.1 rfl (lv_room (Nat.le_of_ble_eq_true rfl)) d_tr_numbersOf_21 ⟨(by show _ ≤ 0; omega), (by show _ ≤ 0; omega)⟩) hH (fun r1 M1 H1 locs1 hq1 hH1 => ?_)
        obtain ⟨rfl, e1⟩ := hq1
        replace hH := hH1; rw [e1] at hH; clear hH1 e1; generalize H1 = H at hH ⊢; generalize locs1 = locs at hH ⊢
        refine ho_astore_n (lv' := [(2, va_rf (tst τ a (f i))), (3, .int (nI i)), (0, .ref t), (1, .ref r)]) hx hb d_tr_numbersOf_24 rfl hl (by decide) rfl (fun ls hl => ?_)
        refine ho_aload_n hx hb d_tr_numbersOf_25 rfl (lv_at hl 0 rfl) ?_
        refine hm_ifnonnull (tgt := 31) hx hb d_tr_numbersOf_26 (by decide) (fun y hnn => ?_) (fun hnn => ?_)
        · skip
          have hl : lv_has ls 4 [(2, .ref y), (3, .int (nI i)), (0, .ref t), (1, .ref r)] := by rw [hnn] at hl; exact hl
          refine lv_iinc (v := nI (i + 1)) (lv' := [(3, .int (nI (i + 1))), (2, .ref y), (0, .ref t), (1, .ref r)]) hx hb d_tr_numbersOf_31 hl (k := 1) rfl (by first | exact nI_add _ 1 | (show nI _ + nI _ = _; rw [nI_add])) (by decide) rfl (fun ls hl => ?_)
          refine lv_goto (tgt := 7) hx hb d_tr_numbersOf_34 (by decide) ?_
          exact ih (i + 1) y _ _ _ (by omega) (by omega) (by rw [twk_succ hwk]; exact hnn) (tst_in htr haL hnn) hH (lv_sub hl [0, 1, 2, 3] rfl)
        · skip
          refine lv_null hx hb d_tr_numbersOf_29 ?_
          exact hm_aret (x := none) E hr (Or.inr ⟨_, rfl⟩) hlk hH (⟨by rw [twk_none (k := sz) (by rw [twk_succ hwk]; exact hnn) (by omega)]; rfl, hM0.symm⟩) (by omega) (by omega) d_tr_numbersOf_30
  refine lv_aload_n hx hb d_tr_numbersOf_0 rfl (lv_at hl 0 rfl) ?_
  refine hm_get E (tB in_tr) hK hH (hw.at 0 rfl) rfl 0 (by decide) (tC wm_47) rfl d_tr_numbersOf_1 ?_
  refine lv_astore_n (lv' := [(2, .ref root), (0, .ref t), (1, .ref r)]) hx hb d_tr_numbersOf_4 rfl hl (by decide) rfl (fun ls hl => ?_)
  refine lv_iconst (v := 0) hx hb d_tr_numbersOf_5 (by decide) ?_
  refine lv_istore_n (lv' := [(3, .int 0), (2, .ref root), (0, .ref t), (1, .ref r)]) hx hb d_tr_numbersOf_6 rfl hl (by decide) rfl (fun ls hl => ?_)
  exact L7 (sz + 1) 0 root _ _ _ (by omega) (by omega) rfl htr.1 hH (lv_sub hl [0, 1, 2, 3] rfl)

abbrev q_tr_beginningsWith (G : hG) (t root en bg r sg nm sz : Nat) (f : Nat → Int32) (τ : tau) (dp : Nat) (M : hM) : Option Value → hM → Prop := fun rv M' => rv = some (.int (nI (bg + sz - dp))) ∧ M' = M
set_option maxHeartbeats 4000000 in
set_option maxRecDepth 100000 in
theorem c_tr_beginningsWith (l : Launch) (G : hG) (t root en bg r sg nm sz : Nat) (f : Nat → Int32) (τ : tau) (dp : Nat) (M : hM) (hw : hm_has M [(t, .inr (2, [.ref root, .int (nI en), .int (nI bg)])), (r, .inr (1, [.ref sg, .ref nm, .int (nI sz)])), (sg, aI G 65 f)]) (htr : trH G M root τ) (hsz : sz ≤ 65) (hbg : bg < 2 ^ 20) (hdp : dp ≤ sz) (hd1 : ∃ a, twk (tst τ) root f dp = some a) (hd2 : dp = sz ∨ twk (tst τ) root f (dp + 1) = none) : Ct (gk G) l G.1 vwC y_tr_beginningsWith w_tr_beginningsWith { frames := 2, cells := 0, slots := 0, locals := 42 } ([.ref t, .ref r] : List Value) M (q_tr_beginningsWith G t root en bg r sg nm sz f τ dp M) 0 0 := by
  refine Ct.ofW (cc := b_tr_beginningsWith) (maxL := 4) (ret := (Option.some Jvm.ClassFile.FieldType.int)) (by decide) rfl (Nat.le_of_ble_eq_true rfl) (fun p e s m below meth c A ls E hr hlk hin hg hH hl => ?_)
  have hl : lv_has ls 4 [(0, .ref t), (1, .ref r)] := hl
  have hx := E.1; have hb := E.2.1; have hml := E.2.2.1; have hown := E.2.2.2.1; have hts := E.2.2.2.2; have hK := hg.1
  obtain ⟨M0, hM0⟩ : ∃ M0 : hM, M0 = M := ⟨M, rfl⟩
  rw [show q_tr_beginningsWith G t root en bg r sg nm sz f τ dp M = q_tr_beginningsWith G t root en bg r sg nm sz f τ dp M0 by rw [hM0]]
  have L7 : ∀ (k : Nat) (i a : Nat) (H : Heap) (locs : List Loc) (ls : Array Slot), sz + 1 ≤ i + k → i ≤ sz → twk (tst τ) root f i = some a → a ∈ tL τ → hm_I G.1 vwC A s.heap M H locs → lv_has ls 4 [(3, .int (nI i)), (2, .ref a), (0, .ref t), (1, .ref r)] → W p l e { frames := 2, cells := 0, slots := 0, locals := 42 } s m ([.ref t, .ref r] : List Value).toArray below meth c H locs 0 0 (MQ below (hm_Q G.1 vwC (q_tr_beginningsWith G t root en bg r sg nm sz f τ dp M0) A) ([.ref t, .ref r] : List Value).toArray s 0 0 A) (F0 m 7 ls []) := by
    intro k
    induction k with
    | zero => intro i a H locs ls hfu hi hwk haL; exact absurd hfu (by omega)
    | succ k ih =>
      intro i a H locs ls hfu hi hwk haL hH hl
      refine lv_iload_n hx hb d_tr_beginningsWith_7 rfl (lv_at hl 0 rfl) ?_
      refine lv_aload_n hx hb d_tr_beginningsWith_8 rfl (lv_at hl 3 rfl) ?_
      have hM1 := c_rw_size l G r sg nm sz M (hw.sub (ws' := [(r, cRw sg nm sz)]) [1] rfl rfl) H.size
      have hG1 : GoodIn w_tr_beginningsWith (wsV R_tr 25 R_rw y_rw_size w_rw_size) := gB_V wm_258 wm_115 wm_116 wm_4 wm_117
      refine hm_call (va_runV (y := y_rw_size) (bytes := b_rw_size) (maxL := 1) (ws := w_rw_size) (rm := { frames := 0, cells := 0, slots := 0, locals := 0 }) (own := R_tr) (index := 25) (ret := (Option.some Jvm.ClassFile.FieldType.int)) (C := R_rw) (As := []) (rest := [.int (nI i)]) E hM1 (cwV (y := y_rw_size) (bytes := b_rw_size) (maxL := 1) (ws := w_rw_size) (rm := { frames := 0, cells := 0, slots := 0, locals := 0 }) (own := R_tr) (index := 25) (ret := (Option.some Jvm.ClassFile.FieldType.int)) (C := R_rw) 0 hts hG1 rfl rfl rfl (by decide +kernel) ⟨Nat.le_of_ble_eq_true rfl, Nat.le_of_ble_eq_true rfl⟩) (hm_preV gk_w gk_s hH hg hK (hw.at 1 rfl) rfl []) rfl rfl hl.1 rfl (lv_room (Nat.le_of_ble_eq_true rfl)) d_tr_beginningsWith_9 ⟨(by show _ ≤ 0; omega), (by show _ ≤ 0; omega)⟩) hH (fun r1 M1 H1 locs1 hq1 hH1 => ?_)
      obtain ⟨rfl, e1⟩ := hq1
      replace hH := hH1; rw [e1] at hH; clear hH1 e1; generalize H1 = H at hH ⊢; generalize locs1 = locs at hH ⊢
      refine hn_icmp_ge (a := i) (b := sz) hx hb (by omega) (by omega) (tgt := 47) d_tr_beginningsWith_12 (by decide) (fun h12 => ?_) (fun h12 => ?_)
      · skip
        refine lv_aload_n hx hb d_tr_beginningsWith_47 rfl (lv_at hl 2 rfl) ?_
        refine hm_get E (tB in_tr) hK hH (hw.at 0 rfl) rfl 2 (by decide) (tC wm_49) rfl d_tr_beginningsWith_48 ?_
        obtain rfl : i = sz := by omega
        have hde : dp = i := by
          rcases hd2 with z | z
          · exact z
          · rcases Nat.lt_or_ge dp i with q | q
            · obtain ⟨b9, hb9⟩ := twk_down (k := dp + 1) (by omega) hwk; rw [z] at hb9; cases hb9
            · omega
        exact hm_iret E hr hlk hH (⟨by rw [hde, Nat.add_sub_cancel], hM0.symm⟩) (by omega) (by omega) d_tr_beginningsWith_51
      · skip
        refine lv_aload_n hx hb d_tr_beginningsWith_15 rfl (lv_at hl 1 rfl) ?_
        refine lv_aload_n hx hb d_tr_beginningsWith_16 rfl (lv_at hl 3 rfl) ?_
        refine lv_iload_n hx hb d_tr_beginningsWith_17 rfl (lv_at hl 0 rfl) ?_
        have hM1 := c_rw_signAt l G r sg nm sz f i M (hw.sub (ws' := [(r, cRw sg nm sz), (sg, aI G 65 f)]) [1, 2] rfl rfl) hsz (by omega) H.size
        have hG1 : GoodIn w_tr_beginningsWith (wsV R_tr 31 R_rw y_rw_signAt w_rw_signAt) := gB_V wm_259 wm_180 wm_181 wm_4 wm_182
        refine hm_call (va_runV (y := y_rw_signAt) (bytes := b_rw_signAt) (maxL := 2) (ws := w_rw_signAt) (rm := { frames := 1, cells := 0, slots := 0, locals := 21 }) (own := R_tr) (index := 31) (ret := (Option.some Jvm.ClassFile.FieldType.int)) (C := R_rw) (As := [.int (nI i)]) (rest := [.ref a]) E hM1 (cwV (y := y_rw_signAt) (bytes := b_rw_signAt) (maxL := 2) (ws := w_rw_signAt) (rm := { frames := 1, cells := 0, slots := 0, locals := 21 }) (own := R_tr) (index := 31) (ret := (Option.some Jvm.ClassFile.FieldType.int)) (C := R_rw) 1 hts hG1 rfl rfl rfl (by decide +kernel) ⟨Nat.le_of_ble_eq_true rfl, Nat.le_of_ble_eq_true rfl⟩) (hm_preV gk_w gk_s hH hg hK (hw.at 1 rfl) rfl [.int (nI i)]) rfl rfl hl.1 rfl (lv_room (Nat.le_of_ble_eq_true rfl)) d_tr_beginningsWith_18 ⟨(by show _ ≤ 0; omega), (by show _ ≤ 0; omega)⟩) hH (fun r1 M1 H1 locs1 hq1 hH1 => ?_)
        obtain ⟨rfl, e1⟩ := hq1
        replace hH := hH1; rw [e1] at hH; clear hH1 e1; generalize H1 = H at hH ⊢; generalize locs1 = locs at hH ⊢
        refine hm_top (w := .int (f i)) (by rw [if_pos h12]) ?_
        have hM1 := c_nd_childWith l G a (tsg τ a) (tnx τ a) (tnu τ a) (tcs τ a) (tsg τ) (f i) M (htr.2.1 a haL) (htr.ch haL) H.size
        have hG1 : GoodIn w_tr_beginningsWith (wsV R_tr 35 R_nd y_nd_childWith w_nd_childWith) := gB_V wm_260 wm_261 wm_262 wm_3 wm_263
        refine hm_call (va_runV (y := y_nd_childWith) (bytes := b_nd_childWith) (maxL := 3) (ws := w_nd_childWith) (rm := { frames := 0, cells := 0, slots := 0, locals := 0 }) (own := R_tr) (index := 35) (ret := (Option.some (Jvm.ClassFile.FieldType.object "HyphenBook$Node"))) (C := R_nd) (As := [.int (f i)]) (rest := []) E hM1 (cwV (y := y_nd_childWith) (bytes := b_nd_childWith) (maxL := 3) (ws := w_nd_childWith) (rm := { frames := 0, cells := 0, slots := 0, locals := 0 }) (own := R_tr) (index := 35) (ret := (Option.some (Jvm.ClassFile.FieldType.object "HyphenBook$Node"))) (C := R_nd) 1 hts hG1 rfl rfl rfl (by decide +kernel) ⟨Nat.le_of_ble_eq_true rfl, Nat.le_of_ble_eq_true rfl⟩) (hm_preV gk_w gk_s hH hg hK (htr.2.1 a haL) rfl [.int (f i)]) rfl rfl hl.1 rfl (lv_room (Nat.le_of_ble_eq_true rfl)) d_tr_beginningsWith_21 ⟨(by show _ ≤ 0; omega), (by show _ ≤ 0; omega)⟩) hH (fun r1 M1 H1 locs1 hq1 hH1 => ?_)
        obtain ⟨rfl, e1⟩ := hq1
        replace hH := hH1; rw [e1] at hH; clear hH1 e1; generalize H1 = H at hH ⊢; generalize locs1 = locs at hH ⊢
        refine ho_astore_n (lv' := [(2, va_rf (tst τ a (f i))), (3, .int (nI i)), (0, .ref t), (1, .ref r)]) hx hb d_tr_beginningsWith_24 rfl hl (by decide) rfl (fun ls hl => ?_)
        refine ho_aload_n hx hb d_tr_beginningsWith_25 rfl (lv_at hl 0 rfl) ?_
        refine hm_ifnonnull (tgt := 41) hx hb d_tr_beginningsWith_26 (by decide) (fun y hnn => ?_) (fun hnn => ?_)
        · skip
          have hl : lv_has ls 4 [(2, .ref y), (3, .int (nI i)), (0, .ref t), (1, .ref r)] := by rw [hnn] at hl; exact hl
          refine lv_iinc (v := nI (i + 1)) (lv' := [(3, .int (nI (i + 1))), (2, .ref y), (0, .ref t), (1, .ref r)]) hx hb d_tr_beginningsWith_41 hl (k := 1) rfl (by first | exact nI_add _ 1 | (show nI _ + nI _ = _; rw [nI_add])) (by decide) rfl (fun ls hl => ?_)
          refine lv_goto (tgt := 7) hx hb d_tr_beginningsWith_44 (by decide) ?_
          exact ih (i + 1) y _ _ _ (by omega) (by omega) (by rw [twk_succ hwk]; exact hnn) (tst_in htr haL hnn) hH (lv_sub hl [0, 1, 2, 3] rfl)
        · skip
          refine lv_aload_n hx hb d_tr_beginningsWith_29 rfl (lv_at hl 2 rfl) ?_
          refine hm_get E (tB in_tr) hK hH (hw.at 0 rfl) rfl 2 (by decide) (tC wm_49) rfl d_tr_beginningsWith_30 ?_
          refine lv_aload_n hx hb d_tr_beginningsWith_33 rfl (lv_at hl 3 rfl) ?_
          have hM1 := c_rw_size l G r sg nm sz M (hw.sub (ws' := [(r, cRw sg nm sz)]) [1] rfl rfl) H.size
          have hG1 : GoodIn w_tr_beginningsWith (wsV R_tr 25 R_rw y_rw_size w_rw_size) := gB_V wm_258 wm_115 wm_116 wm_4 wm_117
          refine hm_call (va_runV (y := y_rw_size) (bytes := b_rw_size) (maxL := 1) (ws := w_rw_size) (rm := { frames := 0, cells := 0, slots := 0, locals := 0 }) (own := R_tr) (index := 25) (ret := (Option.some Jvm.ClassFile.FieldType.int)) (C := R_rw) (As := []) (rest := [.int (nI bg)]) E hM1 (cwV (y := y_rw_size) (bytes := b_rw_size) (maxL := 1) (ws := w_rw_size) (rm := { frames := 0, cells := 0, slots := 0, locals := 0 }) (own := R_tr) (index := 25) (ret := (Option.some Jvm.ClassFile.FieldType.int)) (C := R_rw) 0 hts hG1 rfl rfl rfl (by decide +kernel) ⟨Nat.le_of_ble_eq_true rfl, Nat.le_of_ble_eq_true rfl⟩) (hm_preV gk_w gk_s hH hg hK (hw.at 1 rfl) rfl []) rfl rfl hl.1 rfl (lv_room (Nat.le_of_ble_eq_true rfl)) d_tr_beginningsWith_34 ⟨(by show _ ≤ 0; omega), (by show _ ≤ 0; omega)⟩) hH (fun r1 M1 H1 locs1 hq1 hH1 => ?_)
          obtain ⟨rfl, e1⟩ := hq1
          replace hH := hH1; rw [e1] at hH; clear hH1 e1; generalize H1 = H at hH ⊢; generalize locs1 = locs at hH ⊢
          refine hn_iadd hx hb (a := bg) (b := sz) d_tr_beginningsWith_37 ?_
          refine lv_iload_n hx hb d_tr_beginningsWith_38 rfl (lv_at hl 1 rfl) ?_
          refine hn_isub hx hb (a := bg + sz) (b := i) (by omega) d_tr_beginningsWith_39 ?_
          have hde : i = dp := twk_dp hdp hd1 hd2 (by omega) hwk (by rw [twk_succ hwk]; exact hnn)
          exact hm_iret E hr hlk hH (⟨by rw [hde], hM0.symm⟩) (by omega) (by omega) d_tr_beginningsWith_40
  refine lv_aload_n hx hb d_tr_beginningsWith_0 rfl (lv_at hl 0 rfl) ?_
  refine hm_get E (tB in_tr) hK hH (hw.at 0 rfl) rfl 0 (by decide) (tC wm_47) rfl d_tr_beginningsWith_1 ?_
  refine lv_astore_n (lv' := [(2, .ref root), (0, .ref t), (1, .ref r)]) hx hb d_tr_beginningsWith_4 rfl hl (by decide) rfl (fun ls hl => ?_)
  refine lv_iconst (v := 0) hx hb d_tr_beginningsWith_5 (by decide) ?_
  refine lv_istore_n (lv' := [(3, .int 0), (2, .ref root), (0, .ref t), (1, .ref r)]) hx hb d_tr_beginningsWith_6 rfl hl (by decide) rfl (fun ls hl => ?_)
  exact L7 (sz + 1) 0 root _ _ _ (by omega) (by omega) rfl htr.1 hH (lv_sub hl [0, 1, 2, 3] rfl)
