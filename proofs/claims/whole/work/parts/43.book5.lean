abbrev q_bk_cutsOfAsked (G : hG) (x d dn lf rt pt xt rr ar : Nat) (xro xen xbg asg anm n : Nat) (f v : Nat → Int32) (τ : tau) (M : hM) : Option Value → hM → Prop := fun rv M' => rv = some (.long (cutN (cutQ lf rt n (nmF ((twk (tst τ) xro f (n + 2)).bind (tnu τ)) v (tnv τ))) 64)) ∧ M' = M
set_option maxHeartbeats 4000000 in
set_option maxRecDepth 100000 in
theorem c_bk_cutsOfAsked (l : Launch) (G : hG) (x d dn lf rt pt xt rr ar : Nat) (xro xen xbg asg anm n : Nat) (f v : Nat → Int32) (τ : tau) (M : hM) (hw : hm_has M [(x, .inr (3, [.ref d, .int (nI dn), .int (nI lf), .int (nI rt), .ref pt, .ref xt, .ref rr, .ref ar])), (xt, .inr (2, [.ref xro, .int (nI xen), .int (nI xbg)])), (ar, .inr (1, [.ref asg, .ref anm, .int (nI (n + 2))])), (asg, aI G 65 f), (anm, aI G 66 v)]) (htr : trH G M xro τ) (hn : n ≤ 63) (hlf : lf ≤ 63) (hrt : rt ≤ 63) (hr1 : 1 ≤ rt) : Ct (gk G) l G.1 vwC y_bk_cutsOfAsked w_bk_cutsOfAsked { frames := 3, cells := 0, slots := 0, locals := 65 } ([.ref x] : List Value) M (q_bk_cutsOfAsked G x d dn lf rt pt xt rr ar xro xen xbg asg anm n f v τ M) 0 0 := by
  refine Ct.ofW (cc := b_bk_cutsOfAsked) (maxL := 7) (ret := (Option.some Jvm.ClassFile.FieldType.long)) (by decide) rfl (Nat.le_of_ble_eq_true rfl) (fun p e s m below meth c A ls E hr hlk hin hg hH hl => ?_)
  have hl : lv_has ls 7 [(0, .ref x)] := hl
  have hx := E.1; have hb := E.2.1; have hml := E.2.2.1; have hown := E.2.2.2.1; have hts := E.2.2.2.2; have hK := hg.1
  obtain ⟨M0, hM0⟩ : ∃ M0 : hM, M0 = M := ⟨M, rfl⟩
  rw [show q_bk_cutsOfAsked G x d dn lf rt pt xt rr ar xro xen xbg asg anm n f v τ M = q_bk_cutsOfAsked G x d dn lf rt pt xt rr ar xro xen xbg asg anm n f v τ M0 by rw [hM0]]
  refine lv_aload_n hx hb d_bk_cutsOfAsked_0 rfl (lv_at hl 0 rfl) ?_
  refine hm_get E (tB in_bk) hK hH (hw.at 0 rfl) rfl 5 (by decide) (tC wm_78) rfl d_bk_cutsOfAsked_1 ?_
  refine lv_aload_n hx hb d_bk_cutsOfAsked_4 rfl (lv_at hl 0 rfl) ?_
  refine hm_get E (tB in_bk) hK hH (hw.at 0 rfl) rfl 7 (by decide) (tC wm_80) rfl d_bk_cutsOfAsked_5 ?_
  have hM1 := c_tr_numbersOf l G xt xro xen xbg ar asg anm (n + 2) f τ M (hw.sub (ws' := [(xt, .inr (2, [.ref xro, .int (nI xen), .int (nI xbg)])), (ar, .inr (1, [.ref asg, .ref anm, .int (nI (n + 2))])), (asg, aI G 65 f)]) [1, 2, 3] rfl rfl) htr (by omega) s.heap.size
  have hG1 : GoodIn w_bk_cutsOfAsked (wsV R_bk 54 R_tr y_tr_numbersOf w_tr_numbersOf) := gB_V wm_254 wm_255 wm_256 wm_2 wm_257
  refine hm_call (va_runV (y := y_tr_numbersOf) (bytes := b_tr_numbersOf) (maxL := 4) (ws := w_tr_numbersOf) (rm := { frames := 2, cells := 0, slots := 0, locals := 42 }) (own := R_bk) (index := 54) (ret := (Option.some (Jvm.ClassFile.FieldType.array Jvm.ClassFile.FieldType.int))) (C := R_tr) (As := [.ref ar]) (rest := []) E hM1 (cwV (y := y_tr_numbersOf) (bytes := b_tr_numbersOf) (maxL := 4) (ws := w_tr_numbersOf) (rm := { frames := 2, cells := 0, slots := 0, locals := 42 }) (own := R_bk) (index := 54) (ret := (Option.some (Jvm.ClassFile.FieldType.array Jvm.ClassFile.FieldType.int))) (C := R_tr) 1 hts hG1 rfl rfl rfl (by decide +kernel) ⟨Nat.le_of_ble_eq_true rfl, Nat.le_of_ble_eq_true rfl⟩) (hm_preV gk_w gk_s hH hg hK (hw.at 1 rfl) rfl [.ref ar]) rfl rfl hl.1 rfl (lv_room (Nat.le_of_ble_eq_true rfl)) d_bk_cutsOfAsked_8 ⟨(by show _ ≤ 0; omega), (by show _ ≤ 0; omega)⟩) hH (fun r1 M1 H1 locs1 hq1 hH1 => ?_)
  obtain ⟨rfl, e1⟩ := hq1
  replace hH := hH1; rw [e1] at hH; clear hH1 e1; generalize H1 = H at hH ⊢; generalize locs1 = locs at hH ⊢
  obtain ⟨td, htd⟩ : ∃ td, td = ((twk (tst τ) xro f (n + 2)).bind (tnu τ)) := ⟨_, rfl⟩
  rw [← htd]
  refine ho_astore_n (lv' := [(1, va_rf td), (0, .ref x)]) hx hb d_bk_cutsOfAsked_11 rfl hl (by decide) rfl (fun ls hl => ?_)
  refine lv_lconst (v := 0) hx hb d_bk_cutsOfAsked_12 (by decide) ?_
  refine lv_lstore_n (lv' := [(2, .long 0), (1, va_rf td), (0, .ref x)]) hx hb d_bk_cutsOfAsked_13 rfl hl (by decide) (by simp [List.filter, hm_rfcat]) (fun ls hl => ?_)
  refine lv_aload_n hx hb d_bk_cutsOfAsked_14 rfl (lv_at hl 2 rfl) ?_
  refine hm_get E (tB in_bk) hK hH (hw.at 0 rfl) rfl 2 (by decide) (tC wm_75) rfl d_bk_cutsOfAsked_15 ?_
  refine lv_istore (lv' := [(4, .int (nI lf)), (2, .long 0), (1, va_rf td), (0, .ref x)]) hx hb d_bk_cutsOfAsked_18 hl (by decide) rfl (fun ls hl => ?_)
  have L20 : ∀ (k : Nat) (j : Nat) (cu : Int64) (H : Heap) (locs : List Loc) (ls : Array Slot), 66 ≤ j + k → j ≤ 64 → lf ≤ j → cu = cutN (cutQ lf rt n (nmF td v (tnv τ))) j → hm_I G.1 vwC A s.heap M H locs → lv_has ls 7 [(4, .int (nI j)), (2, .long cu), (1, va_rf td), (0, .ref x)] → W p l e { frames := 3, cells := 0, slots := 0, locals := 65 } s m ([.ref x] : List Value).toArray below meth c H locs 0 0 (MQ below (hm_Q G.1 vwC (q_bk_cutsOfAsked G x d dn lf rt pt xt rr ar xro xen xbg asg anm n f v τ M0) A) ([.ref x] : List Value).toArray s 0 0 A) (F0 m 20 ls []) := by
    intro k
    induction k with
    | zero => intro j cu H locs ls hfu hj hlj hcu; exact absurd hfu (by omega)
    | succ k ih =>
      intro j cu H locs ls hfu hj hlj hcu hH hl
      refine lv_iload hx hb d_bk_cutsOfAsked_20 (lv_at hl 0 rfl) ?_
      refine lv_aload_n hx hb d_bk_cutsOfAsked_22 rfl (lv_at hl 3 rfl) ?_
      have hM1 := c_bk_lettersOfAsked l G x d dn lf rt pt xt rr ar asg anm (n + 2) M (hw.sub (ws' := [(x, .inr (3, [.ref d, .int (nI dn), .int (nI lf), .int (nI rt), .ref pt, .ref xt, .ref rr, .ref ar])), (ar, .inr (1, [.ref asg, .ref anm, .int (nI (n + 2))]))]) [0, 2] rfl rfl) H.size
      have hG1 : GoodIn w_bk_cutsOfAsked (wsV R_bk 102 R_bk y_bk_lettersOfAsked w_bk_lettersOfAsked) := gB_V wm_110 wm_112 wp_0 wm_1 wm_113
      refine hm_call (va_runV (y := y_bk_lettersOfAsked) (bytes := b_bk_lettersOfAsked) (maxL := 1) (ws := w_bk_lettersOfAsked) (rm := { frames := 1, cells := 0, slots := 0, locals := 20 }) (own := R_bk) (index := 102) (ret := (Option.some Jvm.ClassFile.FieldType.int)) (C := R_bk) (As := []) (rest := [.int (nI j)]) E hM1 (cwV (y := y_bk_lettersOfAsked) (bytes := b_bk_lettersOfAsked) (maxL := 1) (ws := w_bk_lettersOfAsked) (rm := { frames := 1, cells := 0, slots := 0, locals := 20 }) (own := R_bk) (index := 102) (ret := (Option.some Jvm.ClassFile.FieldType.int)) (C := R_bk) 0 hts hG1 rfl rfl rfl (by decide +kernel) ⟨Nat.le_of_ble_eq_true rfl, Nat.le_of_ble_eq_true rfl⟩) (hm_preV gk_w gk_s hH hg hK (hw.at 0 rfl) rfl []) rfl rfl hl.1 rfl (lv_room (Nat.le_of_ble_eq_true rfl)) d_bk_cutsOfAsked_23 ⟨(by show _ ≤ 0; omega), (by show _ ≤ 0; omega)⟩) hH (fun r1 M1 H1 locs1 hq1 hH1 => ?_)
      obtain ⟨rfl, e1⟩ := hq1
      replace hH := hH1; rw [e1] at hH; clear hH1 e1; generalize H1 = H at hH ⊢; generalize locs1 = locs at hH ⊢
      refine hm_top (w := .int (nI n)) (by rw [n2_n]) ?_
      refine lv_aload_n hx hb d_bk_cutsOfAsked_26 rfl (lv_at hl 3 rfl) ?_
      refine hm_get E (tB in_bk) hK hH (hw.at 0 rfl) rfl 3 (by decide) (tC wm_76) rfl d_bk_cutsOfAsked_27 ?_
      refine lv_isub hx hb d_bk_cutsOfAsked_30 ?_
      refine hr_icmp_gt (x := nI j) (y := (nI n) - (nI rt)) (c9 := (n : Int) - rt) hx hb (pk_sub_toInt (by omega) (by omega)) (tgt := 86) d_bk_cutsOfAsked_31 (by decide) (fun h31 => ?_) (fun h31 => ?_)
      · skip
        rw [nI_toInt (by omega)] at h31
        refine lv_lload_n hx hb d_bk_cutsOfAsked_86 rfl (lv_at hl 1 rfl) ?_
        exact hm_lret E hr hlk hH (⟨by rw [hcu, cq_e (by omega) hj, htd], hM0.symm⟩) (by omega) (by omega) d_bk_cutsOfAsked_87
      · skip
        rw [nI_toInt (by omega)] at h31
        refine lv_iload hx hb d_bk_cutsOfAsked_34 (lv_at hl 0 rfl) ?_
        have hM1 := c_bk_placeBehind l G j M H.size
        have hG1 : GoodIn w_bk_cutsOfAsked (wsS R_bk 105 y_bk_placeBehind w_bk_placeBehind) := gB_S wm_118 wm_119 wm_1 wm_120
        refine hm_call (va_runS (y := y_bk_placeBehind) (bytes := b_bk_placeBehind) (maxL := 1) (ws := w_bk_placeBehind) (rm := { frames := 0, cells := 0, slots := 0, locals := 0 }) (own := R_bk) (index := 105) (ret := (Option.some Jvm.ClassFile.FieldType.int)) (As := [.int (nI j)]) (rest := []) E hM1 (cwS (y := y_bk_placeBehind) (bytes := b_bk_placeBehind) (maxL := 1) (ws := w_bk_placeBehind) (rm := { frames := 0, cells := 0, slots := 0, locals := 0 }) (own := R_bk) (index := 105) (ret := (Option.some Jvm.ClassFile.FieldType.int)) 1 hts hG1 rfl rfl rfl (by decide +kernel) ⟨Nat.le_of_ble_eq_true rfl, Nat.le_of_ble_eq_true rfl⟩) (hm_preS gk_w gk_s hH hg [.int (nI j)]) rfl rfl hl.1 rfl (lv_room (Nat.le_of_ble_eq_true rfl)) d_bk_cutsOfAsked_36 ⟨(by show _ ≤ 0; omega), (by show _ ≤ 0; omega)⟩) hH (fun r1 M1 H1 locs1 hq1 hH1 => ?_)
        obtain ⟨rfl, e1⟩ := hq1
        replace hH := hH1; rw [e1] at hH; clear hH1 e1; generalize H1 = H at hH ⊢; generalize locs1 = locs at hH ⊢
        refine lv_istore (lv' := [(5, .int (nI (j + 1))), (4, .int (nI j)), (2, .long cu), (1, va_rf td), (0, .ref x)]) hx hb d_bk_cutsOfAsked_39 hl (by decide) rfl (fun ls hl => ?_)
        refine ho_aload_n hx hb d_bk_cutsOfAsked_41 rfl (lv_at hl 3 rfl) ?_
        refine hm_ifnonnull (tgt := 57) hx hb d_bk_cutsOfAsked_42 (by decide) (fun y hnn => ?_) (fun hnn => ?_)
        · skip
          have hl : lv_has ls 7 [(5, .int (nI (j + 1))), (4, .int (nI j)), (2, .long cu), (1, .ref y), (0, .ref x)] := by rw [hnn] at hl; exact hl
          obtain ⟨a9, ha9, hn9⟩ := nb_some (htd.symm.trans hnn)
          have hy := htr.2.2.2.2 a9 (twk_in htr ha9) y hn9
          refine lv_aload_n hx hb d_bk_cutsOfAsked_57 rfl (lv_at hl 3 rfl) ?_
          refine lv_iload hx hb d_bk_cutsOfAsked_58 (lv_at hl 0 rfl) ?_
          have hM1 := c_bk_elementAt l G y 66 (tnv τ y) (j + 1) M ⟨by simp, by simp only [List.mem_singleton, forall_eq]; exact hy⟩ (by decide) (by omega) H.size
          have hG1 : GoodIn w_bk_cutsOfAsked (wsS R_bk 118 y_bk_elementAt w_bk_elementAt) := gB_S wm_160 wm_126 wm_1 wm_127
          refine hm_call (va_runS (y := y_bk_elementAt) (bytes := b_bk_elementAt) (maxL := 2) (ws := w_bk_elementAt) (rm := { frames := 0, cells := 0, slots := 0, locals := 0 }) (own := R_bk) (index := 118) (ret := (Option.some Jvm.ClassFile.FieldType.int)) (As := [.ref y, .int (nI (j + 1))]) (rest := []) E hM1 (cwS (y := y_bk_elementAt) (bytes := b_bk_elementAt) (maxL := 2) (ws := w_bk_elementAt) (rm := { frames := 0, cells := 0, slots := 0, locals := 0 }) (own := R_bk) (index := 118) (ret := (Option.some Jvm.ClassFile.FieldType.int)) 2 hts hG1 rfl rfl rfl (by decide +kernel) ⟨Nat.le_of_ble_eq_true rfl, Nat.le_of_ble_eq_true rfl⟩) (hm_preS gk_w gk_s hH hg [.ref y, .int (nI (j + 1))]) rfl rfl hl.1 rfl (lv_room (Nat.le_of_ble_eq_true rfl)) d_bk_cutsOfAsked_60 ⟨(by show _ ≤ 0; omega), (by show _ ≤ 0; omega)⟩) hH (fun r1 M1 H1 locs1 hq1 hH1 => ?_)
          obtain ⟨rfl, e1⟩ := hq1
          replace hH := hH1; rw [e1] at hH; clear hH1 e1; generalize H1 = H at hH ⊢; generalize locs1 = locs at hH ⊢
          refine hm_top (w := .int ((nmF td v (tnv τ)) (j + 1))) (by rw [hnn, if_pos (by omega)]; rfl) ?_
          refine lv_istore (lv' := [(6, .int ((nmF td v (tnv τ)) (j + 1))), (5, .int (nI (j + 1))), (4, .int (nI j)), (2, .long cu), (1, .ref y), (0, .ref x)]) hx hb d_bk_cutsOfAsked_63 hl (by decide) rfl (fun ls hl => ?_)
          refine lv_iload hx hb d_bk_cutsOfAsked_65 (lv_at hl 0 rfl) ?_
          refine lv_iconst (v := 1) hx hb d_bk_cutsOfAsked_67 (by decide) ?_
          refine lv_iand hx hb d_bk_cutsOfAsked_68 ?_
          refine lv_iconst (v := 1) hx hb d_bk_cutsOfAsked_69 (by decide) ?_
          refine hc_icmp_ne (x := ((nmF td v (tnv τ)) (j + 1)) &&& 1) (y := 1) (c9 := 1) hx hb (by decide) (tgt := 80) d_bk_cutsOfAsked_70 (by decide) (fun h70 => ?_) (fun h70 => ?_)
          · skip
            refine lv_iinc (v := nI (j + 1)) (lv' := [(4, .int (nI (j + 1))), (6, .int ((nmF td v (tnv τ)) (j + 1))), (5, .int (nI (j + 1))), (2, .long cu), (1, .ref y), (0, .ref x)]) hx hb d_bk_cutsOfAsked_80 hl (k := 2) rfl (by first | exact nI_add _ 1 | (show nI _ + nI _ = _; rw [nI_add])) (by decide) rfl (fun ls hl => ?_)
            refine lv_goto (tgt := 20) hx hb d_bk_cutsOfAsked_83 (by decide) ?_
            exact ih (j + 1) (cu) _ _ _ (by omega) (by omega) (by omega) (by rw [cq_n h70]; exact hcu) hH (lv_cv (lv_sub hl [0, 3, 4, 5] rfl) (by rw [hnn]; rfl))
          · skip
            refine lv_lload_n hx hb d_bk_cutsOfAsked_73 rfl (lv_at hl 3 rfl) ?_
            refine lv_lconst (v := 1) hx hb d_bk_cutsOfAsked_74 (by decide) ?_
            refine lv_iload hx hb d_bk_cutsOfAsked_75 (lv_at hl 2 rfl) ?_
            refine lv_lshl hx hb d_bk_cutsOfAsked_77 rfl ?_
            refine lv_lor hx hb d_bk_cutsOfAsked_78 ?_
            refine lv_lstore_n (lv' := [(2, .long (cu ||| (1 <<< ((nI j).toInt64 &&& 63)))), (6, .int ((nmF td v (tnv τ)) (j + 1))), (5, .int (nI (j + 1))), (4, .int (nI j)), (1, .ref y), (0, .ref x)]) hx hb d_bk_cutsOfAsked_79 rfl hl (by decide) rfl (fun ls hl => ?_)
            refine lv_iinc (v := nI (j + 1)) (lv' := [(4, .int (nI (j + 1))), (2, .long (cu ||| (1 <<< ((nI j).toInt64 &&& 63)))), (6, .int ((nmF td v (tnv τ)) (j + 1))), (5, .int (nI (j + 1))), (1, .ref y), (0, .ref x)]) hx hb d_bk_cutsOfAsked_80 hl (k := 3) rfl (by first | exact nI_add _ 1 | (show nI _ + nI _ = _; rw [nI_add])) (by decide) rfl (fun ls hl => ?_)
            refine lv_goto (tgt := 20) hx hb d_bk_cutsOfAsked_83 (by decide) ?_
            exact ih (j + 1) (cu ||| (1 <<< ((nI j).toInt64 &&& 63))) _ _ _ (by omega) (by omega) (by omega) (by rw [cq_y hlj (by omega) h70, hcu]) hH (lv_cv (lv_sub hl [0, 1, 4, 5] rfl) (by rw [hnn]; rfl))
        · skip
          refine lv_aload_n hx hb d_bk_cutsOfAsked_45 rfl (lv_at hl 4 rfl) ?_
          refine hm_get E (tB in_bk) hK hH (hw.at 0 rfl) rfl 7 (by decide) (tC wm_80) rfl d_bk_cutsOfAsked_46 ?_
          refine lv_iload hx hb d_bk_cutsOfAsked_49 (lv_at hl 0 rfl) ?_
          have hM1 := c_rw_numberAt l G ar asg anm (n + 2) v (j + 1) M (hw.sub (ws' := [(ar, .inr (1, [.ref asg, .ref anm, .int (nI (n + 2))])), (anm, aI G 66 v)]) [2, 4] rfl rfl) (by omega) H.size
          have hG1 : GoodIn w_bk_cutsOfAsked (wsV R_bk 109 R_rw y_rw_numberAt w_rw_numberAt) := gB_V wm_121 wm_122 wm_123 wm_4 wm_124
          refine hm_call (va_runV (y := y_rw_numberAt) (bytes := b_rw_numberAt) (maxL := 2) (ws := w_rw_numberAt) (rm := { frames := 1, cells := 0, slots := 0, locals := 21 }) (own := R_bk) (index := 109) (ret := (Option.some Jvm.ClassFile.FieldType.int)) (C := R_rw) (As := [.int (nI (j + 1))]) (rest := []) E hM1 (cwV (y := y_rw_numberAt) (bytes := b_rw_numberAt) (maxL := 2) (ws := w_rw_numberAt) (rm := { frames := 1, cells := 0, slots := 0, locals := 21 }) (own := R_bk) (index := 109) (ret := (Option.some Jvm.ClassFile.FieldType.int)) (C := R_rw) 1 hts hG1 rfl rfl rfl (by decide +kernel) ⟨Nat.le_of_ble_eq_true rfl, Nat.le_of_ble_eq_true rfl⟩) (hm_preV gk_w gk_s hH hg hK (hw.at 2 rfl) rfl [.int (nI (j + 1))]) rfl rfl hl.1 rfl (lv_room (Nat.le_of_ble_eq_true rfl)) d_bk_cutsOfAsked_51 ⟨(by show _ ≤ 0; omega), (by show _ ≤ 0; omega)⟩) hH (fun r1 M1 H1 locs1 hq1 hH1 => ?_)
          obtain ⟨rfl, e1⟩ := hq1
          replace hH := hH1; rw [e1] at hH; clear hH1 e1; generalize H1 = H at hH ⊢; generalize locs1 = locs at hH ⊢
          refine lv_goto (tgt := 63) hx hb d_bk_cutsOfAsked_54 (by decide) ?_
          refine hm_top (w := .int ((nmF td v (tnv τ)) (j + 1))) (by rw [hnn, if_pos (by omega)]; rfl) ?_
          refine lv_istore (lv' := [(6, .int ((nmF td v (tnv τ)) (j + 1))), (5, .int (nI (j + 1))), (4, .int (nI j)), (2, .long cu), (1, va_rf td), (0, .ref x)]) hx hb d_bk_cutsOfAsked_63 hl (by decide) rfl (fun ls hl => ?_)
          refine lv_iload hx hb d_bk_cutsOfAsked_65 (lv_at hl 0 rfl) ?_
          refine lv_iconst (v := 1) hx hb d_bk_cutsOfAsked_67 (by decide) ?_
          refine lv_iand hx hb d_bk_cutsOfAsked_68 ?_
          refine lv_iconst (v := 1) hx hb d_bk_cutsOfAsked_69 (by decide) ?_
          refine hc_icmp_ne (x := ((nmF td v (tnv τ)) (j + 1)) &&& 1) (y := 1) (c9 := 1) hx hb (by decide) (tgt := 80) d_bk_cutsOfAsked_70 (by decide) (fun h70 => ?_) (fun h70 => ?_)
          · skip
            refine lv_iinc (v := nI (j + 1)) (lv' := [(4, .int (nI (j + 1))), (6, .int ((nmF td v (tnv τ)) (j + 1))), (5, .int (nI (j + 1))), (2, .long cu), (1, va_rf td), (0, .ref x)]) hx hb d_bk_cutsOfAsked_80 hl (k := 2) rfl (by first | exact nI_add _ 1 | (show nI _ + nI _ = _; rw [nI_add])) (by decide) rfl (fun ls hl => ?_)
            refine lv_goto (tgt := 20) hx hb d_bk_cutsOfAsked_83 (by decide) ?_
            exact ih (j + 1) (cu) _ _ _ (by omega) (by omega) (by omega) (by rw [cq_n h70]; exact hcu) hH (lv_sub hl [0, 3, 4, 5] rfl)
          · skip
            refine lv_lload_n hx hb d_bk_cutsOfAsked_73 rfl (lv_at hl 3 rfl) ?_
            refine lv_lconst (v := 1) hx hb d_bk_cutsOfAsked_74 (by decide) ?_
            refine lv_iload hx hb d_bk_cutsOfAsked_75 (lv_at hl 2 rfl) ?_
            refine lv_lshl hx hb d_bk_cutsOfAsked_77 rfl ?_
            refine lv_lor hx hb d_bk_cutsOfAsked_78 ?_
            refine lv_lstore_n (lv' := [(2, .long (cu ||| (1 <<< ((nI j).toInt64 &&& 63)))), (6, .int ((nmF td v (tnv τ)) (j + 1))), (5, .int (nI (j + 1))), (4, .int (nI j)), (1, va_rf td), (0, .ref x)]) hx hb d_bk_cutsOfAsked_79 rfl hl (by decide) (by simp [List.filter, hm_rfcat]) (fun ls hl => ?_)
            refine lv_iinc (v := nI (j + 1)) (lv' := [(4, .int (nI (j + 1))), (2, .long (cu ||| (1 <<< ((nI j).toInt64 &&& 63)))), (6, .int ((nmF td v (tnv τ)) (j + 1))), (5, .int (nI (j + 1))), (1, va_rf td), (0, .ref x)]) hx hb d_bk_cutsOfAsked_80 hl (k := 3) rfl (by first | exact nI_add _ 1 | (show nI _ + nI _ = _; rw [nI_add])) (by decide) rfl (fun ls hl => ?_)
            refine lv_goto (tgt := 20) hx hb d_bk_cutsOfAsked_83 (by decide) ?_
            exact ih (j + 1) (cu ||| (1 <<< ((nI j).toInt64 &&& 63))) _ _ _ (by omega) (by omega) (by omega) (by rw [cq_y hlj (by omega) h70, hcu]) hH (lv_sub hl [0, 1, 4, 5] rfl)
  exact L20 66 lf 0 _ _ _ (by omega) (by omega) (by omega) cq_0.symm hH (lv_sub hl [0, 1, 2, 3] rfl)

abbrev q_rw_init (G : hG) (r : Nat) (M : hM) : Option Value → hM → Prop := fun rv M' => rv = none ∧ ∃ sg nm, M sg = none ∧ M nm = none ∧ hm_has M' [(r, cRw sg nm 0), (sg, aI G 65 (fun _ => 0)), (nm, aI G 66 (fun _ => 0))] ∧ hm_kp (fun a => a ∈ [r]) M M'
set_option maxHeartbeats 4000000 in
set_option maxRecDepth 100000 in
theorem c_rw_init (l : Launch) (G : hG) (r : Nat) (M : hM) (hw : hm_has M [(r, .inr (1, [.null, .null, .int 0]))]) : Ct (gk G) l G.1 vwC y_rw_init w_rw_init { frames := 1, cells := 2, slots := 131, locals := 12 } ([.ref r] : List Value) M (q_rw_init G r M) 2 131 := by
  refine Ct.ofW (cc := b_rw_init) (maxL := 1) (ret := (Option.none : Option Jvm.ClassFile.FieldType)) (by decide) rfl (Nat.le_of_ble_eq_true rfl) (fun p e s m below meth c A ls E hr hlk hin hg hH hl => ?_)
  have hl : lv_has ls 1 [(0, .ref r)] := hl
  have hx := E.1; have hb := E.2.1; have hml := E.2.2.1; have hown := E.2.2.2.1; have hts := E.2.2.2.2; have hK := hg.1
  obtain ⟨M0, hM0⟩ : ∃ M0 : hM, M0 = M := ⟨M, rfl⟩
  rw [show q_rw_init G r M = q_rw_init G r M0 by rw [hM0]]
  have hk : hm_kp (fun a => a ∈ [r]) M0 M := by rw [hM0]; exact hm_kp.rf
  refine lv_aload_n hx hb d_rw_init_0 rfl (lv_at hl 0 rfl) ?_
  refine W.objInit hx hb hown (hts _ (tC wm_62)) (hts _ (tC wm_18)) (hts _ (tC wm_19)) rfl (by rw [hml]; exact hl.1) rfl d_rw_init_1 (Nat.le_of_ble_eq_true rfl) (Nat.le_of_ble_eq_true rfl) ?_
  refine W.eq (g2 := F0 m 4 ls []) rfl ?_
  refine lv_aload_n hx hb d_rw_init_4 rfl (lv_at hl 0 rfl) ?_
  refine lv_bipush (v := 65) hx hb d_rw_init_5 (by decide) ?_
  refine hm_newaI E (tC wm_46) hK hH 0 rfl (n := 65) (by decide) (by show _ ≤ 2; omega) (by show _ ≤ 131; omega) d_rw_init_7 (fun sg H hqsg hH => ?_)
  have hw := hw.push (ws' := [(r, .inr (1, [.null, .null, .int 0])), (sg, aI G 65 (fun _ => 0))]) hqsg rfl
  have hk := hk.tr (hm_kp.new (S := fun a => a ∈ [r]) (v := some (aI G 65 (fun _ => 0))) hqsg) (fun _ h => h)
  generalize va_up M sg (some (aI G 65 (fun _ => 0))) = M at hH hw hk ⊢
  have hq9 : M0 sg = none := by rw [hM0]; exact hqsg
  refine hm_putF E (tB in_rw) t_rw tk_rw nm_rw hK hH (hw.at 0 rfl) rfl 0 (by decide) (tC wm_63) rfl hin rfl rfl rfl (Nat.le_of_ble_eq_true rfl) (fs' := [.ref sg, .null, .int 0]) rfl d_rw_init_9 (fun H locs hH => ?_)
  have hw := hw.set (ws' := [(r, .inr (1, [.ref sg, .null, .int 0])), (sg, aI G 65 (fun _ => 0))]) (k := 0) rfl rfl
  have hk := hk.wr (a := r) (v := some (.inr (1, [.ref sg, .null, .int 0]))) (by first | (right; assumption) | (left; simp; done))
  generalize va_up M r (some (.inr (1, [.ref sg, .null, .int 0]))) = M at hH hw hk ⊢
  refine lv_aload_n hx hb d_rw_init_12 rfl (lv_at hl 0 rfl) ?_
  refine lv_bipush (v := 66) hx hb d_rw_init_13 (by decide) ?_
  refine hm_newaI E (tC wm_46) hK hH 0 rfl (n := 66) (by decide) (by show _ ≤ 2; omega) (by show _ ≤ 131; omega) d_rw_init_15 (fun nm H hqnm hH => ?_)
  have hq8 : M0 nm = none := hk.nq hqnm (fun a h => by simp at h; subst h; exact ⟨_, hw.at 0 rfl⟩)
  have hw := hw.push (ws' := [(r, .inr (1, [.ref sg, .null, .int 0])), (sg, aI G 65 (fun _ => 0)), (nm, aI G 66 (fun _ => 0))]) hqnm rfl
  have hk := hk.tr (hm_kp.new (S := fun a => a ∈ [r]) (v := some (aI G 66 (fun _ => 0))) hqnm) (fun _ h => h)
  generalize va_up M nm (some (aI G 66 (fun _ => 0))) = M at hH hw hk ⊢
  refine hm_putF E (tB in_rw) t_rw tk_rw nm_rw hK hH (hw.at 0 rfl) rfl 1 (by decide) (tC wm_64) rfl hin rfl rfl rfl (Nat.le_of_ble_eq_true rfl) (fs' := [.ref sg, .ref nm, .int 0]) rfl d_rw_init_17 (fun H locs hH => ?_)
  have hw := hw.set (ws' := [(r, .inr (1, [.ref sg, .ref nm, .int 0])), (sg, aI G 65 (fun _ => 0)), (nm, aI G 66 (fun _ => 0))]) (k := 0) rfl rfl
  have hk := hk.wr (a := r) (v := some (.inr (1, [.ref sg, .ref nm, .int 0]))) (by first | (right; assumption) | (left; simp; done))
  generalize va_up M r (some (.inr (1, [.ref sg, .ref nm, .int 0]))) = M at hH hw hk ⊢
  refine lv_aload_n hx hb d_rw_init_20 rfl (lv_at hl 0 rfl) ?_
  refine lv_iconst (v := 0) hx hb d_rw_init_21 (by decide) ?_
  refine hm_put E (tB in_rw) t_rw tk_rw nm_rw hK hH (hw.at 0 rfl) rfl 2 (by decide) (tC wm_65) rfl rfl rfl (Nat.le_of_ble_eq_true rfl) (fs' := [.ref sg, .ref nm, .int 0]) rfl d_rw_init_22 (fun H locs hH => ?_)
  have hw := hw.set (ws' := [(r, .inr (1, [.ref sg, .ref nm, .int 0])), (sg, aI G 65 (fun _ => 0)), (nm, aI G 66 (fun _ => 0))]) (k := 0) rfl rfl
  have hk := hk.wr (a := r) (v := some (.inr (1, [.ref sg, .ref nm, .int 0]))) (by first | (right; assumption) | (left; simp; done))
  generalize va_up M r (some (.inr (1, [.ref sg, .ref nm, .int 0]))) = M at hH hw hk ⊢
  exact hm_vret E hr hlk hH (⟨rfl, sg, nm, hq9, hq8, hw, hk⟩) (by omega) (by omega) d_rw_init_25

abbrev q_tr_init (G : hG) (t : Nat) (M : hM) : Option Value → hM → Prop := fun rv M' => rv = none ∧ ∃ q, M q = none ∧ hm_has M' [(t, cTr q 0 0), (q, cNd 0 none none none)] ∧ hm_kp (fun a => a ∈ [t]) M M'
set_option maxHeartbeats 4000000 in
set_option maxRecDepth 100000 in
theorem c_tr_init (l : Launch) (G : hG) (t : Nat) (M : hM) (hw : hm_has M [(t, .inr (2, [.null, .int 0, .int 0]))]) : Ct (gk G) l G.1 vwC y_tr_init w_tr_init { frames := 2, cells := 1, slots := 4, locals := 33 } ([.ref t] : List Value) M (q_tr_init G t M) 1 4 := by
  refine Ct.ofW (cc := b_tr_init) (maxL := 1) (ret := (Option.none : Option Jvm.ClassFile.FieldType)) (by decide) rfl (Nat.le_of_ble_eq_true rfl) (fun p e s m below meth c A ls E hr hlk hin hg hH hl => ?_)
  have hl : lv_has ls 1 [(0, .ref t)] := hl
  have hx := E.1; have hb := E.2.1; have hml := E.2.2.1; have hown := E.2.2.2.1; have hts := E.2.2.2.2; have hK := hg.1
  obtain ⟨M0, hM0⟩ : ∃ M0 : hM, M0 = M := ⟨M, rfl⟩
  rw [show q_tr_init G t M = q_tr_init G t M0 by rw [hM0]]
  have hk : hm_kp (fun a => a ∈ [t]) M0 M := by rw [hM0]; exact hm_kp.rf
  refine lv_aload_n hx hb d_tr_init_0 rfl (lv_at hl 0 rfl) ?_
  refine W.objInit hx hb hown (hts _ (tC wm_25)) (hts _ (tC wm_18)) (hts _ (tC wm_19)) rfl (by rw [hml]; exact hl.1) rfl d_tr_init_1 (Nat.le_of_ble_eq_true rfl) (Nat.le_of_ble_eq_true rfl) ?_
  refine W.eq (g2 := F0 m 4 ls []) rfl ?_
  refine lv_aload_n hx hb d_tr_init_4 rfl (lv_at hl 0 rfl) ?_
  refine hm_new E (tB in_nd) t_nd tk_nd (tC wm_26) (tC wm_27) (tC wm_3) (ci := 0) hK hH rfl (fs := [.int 0, .null, .null, .null]) (by decide) (by show _ ≤ 1; omega) (by show _ ≤ 4; omega) d_tr_init_5 (fun q H hqq hH => ?_)
  have hw := hw.push (ws' := [(t, .inr (2, [.null, .int 0, .int 0])), (q, .inr (0, [.int 0, .null, .null, .null]))]) hqq rfl
  have hk := hk.tr (hm_kp.new (S := fun a => a ∈ [t]) (v := some (.inr (0, [.int 0, .null, .null, .null]))) hqq) (fun _ h => h)
  generalize va_up M q (some (.inr (0, [.int 0, .null, .null, .null]))) = M at hH hw hk ⊢
  have hq9 : M0 q = none := by rw [hM0]; exact hqq
  refine lv_dup hx hb d_tr_init_8 rfl ?_
  refine lv_iconst (v := 0) hx hb d_tr_init_9 (by decide) ?_
  have hM1 := c_nd_init l G q 0 M (hw.sub (ws' := [(q, .inr (0, [.int 0, .null, .null, .null]))]) [1] rfl rfl) H.size
  have hG1 : GoodIn w_tr_init w_nd_init := gB_0 wm_30
  refine hm_call (va_runI (y := y_nd_init) (bytes := b_nd_init) (maxL := 2) (ws := w_nd_init) (rm := { frames := 1, cells := 0, slots := 0, locals := 12 }) (own := R_tr) (index := 9) (As := [.int 0]) (rest := [.ref q, .ref t]) E hM1 (cwI (y := y_nd_init) (bytes := b_nd_init) (maxL := 2) (ws := w_nd_init) (rm := { frames := 1, cells := 0, slots := 0, locals := 12 }) (own := R_tr) (index := 9) 1 hts hG1 rfl rfl rfl (hts _ (tC wm_3)) (hts _ (tC wm_28)) (hts _ (tC wm_29)) rfl (by decide +kernel) ⟨Nat.le_of_ble_eq_true rfl, Nat.le_of_ble_eq_true rfl⟩) (hm_preS gk_w gk_s hH hg (.ref q :: [.int 0])) rfl rfl hl.1 rfl (lv_room (Nat.le_of_ble_eq_true rfl)) d_tr_init_10 ⟨(by show _ ≤ 1; omega), (by show _ ≤ 4; omega)⟩) hH (fun r1 M1 H1 locs1 hq1 hH1 => ?_)
  replace hH := hH1; clear hH1; generalize H1 = H at hH ⊢; generalize locs1 = locs at hH ⊢
  obtain ⟨rfl, hw1, hk1⟩ := hq1
  have hw := hm_join (ws' := [(t, .inr (2, [.null, .int 0, .int 0])), (q, .inr (0, [.int 0, .null, .null, .null]))]) (wc := [(q, .inr (0, [.int 0, .null, .null, .null]))]) hw hw1 hk1 [1] rfl rfl (fun _ h => h) rfl (by
    intro k9 h9
    match k9, h9 with
    | 0, _ => exact Or.inl ⟨by decide, rfl⟩
    | 1, _ => exact Or.inr ⟨0, rfl, rfl⟩
    | k9 + 2, h9 => exact absurd h9 (Nat.not_lt_of_le (Nat.le_add_left _ _)))
  have hk := hk.tr9 hk1 hq9
  generalize M1 = M at hH hw hk
  refine hm_putF E (tB in_tr) t_tr tk_tr nm_tr hK hH (hw.at 0 rfl) rfl 0 (by decide) (tC wm_47) rfl hin rfl rfl rfl (Nat.le_of_ble_eq_true rfl) (fs' := [.ref q, .int 0, .int 0]) rfl d_tr_init_13 (fun H locs hH => ?_)
  have hw := hw.set (ws' := [(t, .inr (2, [.ref q, .int 0, .int 0])), (q, .inr (0, [.int 0, .null, .null, .null]))]) (k := 0) rfl rfl
  have hk := hk.wr (a := t) (v := some (.inr (2, [.ref q, .int 0, .int 0]))) (by first | (right; assumption) | (left; simp; done))
  generalize va_up M t (some (.inr (2, [.ref q, .int 0, .int 0]))) = M at hH hw hk ⊢
  refine lv_aload_n hx hb d_tr_init_16 rfl (lv_at hl 0 rfl) ?_
  refine lv_iconst (v := 0) hx hb d_tr_init_17 (by decide) ?_
  refine hm_put E (tB in_tr) t_tr tk_tr nm_tr hK hH (hw.at 0 rfl) rfl 1 (by decide) (tC wm_48) rfl rfl rfl (Nat.le_of_ble_eq_true rfl) (fs' := [.ref q, .int 0, .int 0]) rfl d_tr_init_18 (fun H locs hH => ?_)
  have hw := hw.set (ws' := [(t, .inr (2, [.ref q, .int 0, .int 0])), (q, .inr (0, [.int 0, .null, .null, .null]))]) (k := 0) rfl rfl
  have hk := hk.wr (a := t) (v := some (.inr (2, [.ref q, .int 0, .int 0]))) (by first | (right; assumption) | (left; simp; done))
  generalize va_up M t (some (.inr (2, [.ref q, .int 0, .int 0]))) = M at hH hw hk ⊢
  refine lv_aload_n hx hb d_tr_init_21 rfl (lv_at hl 0 rfl) ?_
  refine lv_iconst (v := 0) hx hb d_tr_init_22 (by decide) ?_
  refine hm_put E (tB in_tr) t_tr tk_tr nm_tr hK hH (hw.at 0 rfl) rfl 2 (by decide) (tC wm_49) rfl rfl rfl (Nat.le_of_ble_eq_true rfl) (fs' := [.ref q, .int 0, .int 0]) rfl d_tr_init_23 (fun H locs hH => ?_)
  have hw := hw.set (ws' := [(t, .inr (2, [.ref q, .int 0, .int 0])), (q, .inr (0, [.int 0, .null, .null, .null]))]) (k := 0) rfl rfl
  have hk := hk.wr (a := t) (v := some (.inr (2, [.ref q, .int 0, .int 0]))) (by first | (right; assumption) | (left; simp; done))
  generalize va_up M t (some (.inr (2, [.ref q, .int 0, .int 0]))) = M at hH hw hk ⊢
  exact hm_vret E hr hlk hH (⟨rfl, q, hq9, hw, hk⟩) (by omega) (by omega) d_tr_init_26
