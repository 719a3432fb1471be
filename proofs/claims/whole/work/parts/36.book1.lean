abbrev q_bk_lettersOfAsked (G : hG) (x d dn lf rt pt xt rr ar : Nat) (asg anm asz : Nat) (M : hM) : Option Value → hM → Prop := fun rv M' => rv = some (.int (nI asz - 2)) ∧ M' = M
set_option maxHeartbeats 4000000 in
set_option maxRecDepth 100000 in
theorem c_bk_lettersOfAsked (l : Launch) (G : hG) (x d dn lf rt pt xt rr ar : Nat) (asg anm asz : Nat) (M : hM) (hw : hm_has M [(x, .inr (3, [.ref d, .int (nI dn), .int (nI lf), .int (nI rt), .ref pt, .ref xt, .ref rr, .ref ar])), (ar, .inr (1, [.ref asg, .ref anm, .int (nI asz)]))]) : Ct (gk G) l G.1 vwC y_bk_lettersOfAsked w_bk_lettersOfAsked { frames := 1, cells := 0, slots := 0, locals := 20 } ([.ref x] : List Value) M (q_bk_lettersOfAsked G x d dn lf rt pt xt rr ar asg anm asz M) 0 0 := by
  refine Ct.ofW (cc := b_bk_lettersOfAsked) (maxL := 1) (ret := (Option.some Jvm.ClassFile.FieldType.int)) (by decide) rfl (Nat.le_of_ble_eq_true rfl) (fun p e s m below meth c A ls E hr hlk hin hg hH hl => ?_)
  have hl : lv_has ls 1 [(0, .ref x)] := hl
  have hx := E.1; have hb := E.2.1; have hml := E.2.2.1; have hown := E.2.2.2.1; have hts := E.2.2.2.2; have hK := hg.1
  obtain ⟨M0, hM0⟩ : ∃ M0 : hM, M0 = M := ⟨M, rfl⟩
  rw [show q_bk_lettersOfAsked G x d dn lf rt pt xt rr ar asg anm asz M = q_bk_lettersOfAsked G x d dn lf rt pt xt rr ar asg anm asz M0 by rw [hM0]]
  refine lv_aload_n hx hb d_bk_lettersOfAsked_0 rfl (lv_at hl 0 rfl) ?_
  refine hm_get E (tB in_bk) hK hH (hw.at 0 rfl) rfl 7 (by decide) (tC wm_80) rfl d_bk_lettersOfAsked_1 ?_
  have hM1 := c_rw_size l G ar asg anm asz M (hw.sub (ws' := [(ar, cRw asg anm asz)]) [1] rfl rfl) s.heap.size
  have hG1 : GoodIn w_bk_lettersOfAsked (wsV R_bk 126 R_rw y_rw_size w_rw_size) := gB_V wm_114 wm_115 wm_116 wm_4 wm_117
  refine hm_call (va_runV (y := y_rw_size) (bytes := b_rw_size) (maxL := 1) (ws := w_rw_size) (rm := { frames := 0, cells := 0, slots := 0, locals := 0 }) (own := R_bk) (index := 126) (ret := (Option.some Jvm.ClassFile.FieldType.int)) (C := R_rw) (As := []) (rest := []) E hM1 (cwV (y := y_rw_size) (bytes := b_rw_size) (maxL := 1) (ws := w_rw_size) (rm := { frames := 0, cells := 0, slots := 0, locals := 0 }) (own := R_bk) (index := 126) (ret := (Option.some Jvm.ClassFile.FieldType.int)) (C := R_rw) 0 hts hG1 rfl rfl rfl (by decide +kernel) ⟨Nat.le_of_ble_eq_true rfl, Nat.le_of_ble_eq_true rfl⟩) (hm_preV gk_w gk_s hH hg hK (hw.at 1 rfl) rfl []) rfl rfl hl.1 rfl (lv_room (Nat.le_of_ble_eq_true rfl)) d_bk_lettersOfAsked_4 ⟨(by show _ ≤ 0; omega), (by show _ ≤ 0; omega)⟩) hH (fun r1 M1 H1 locs1 hq1 hH1 => ?_)
  obtain ⟨rfl, e1⟩ := hq1
  replace hH := hH1; rw [e1] at hH; clear hH1 e1; generalize H1 = H at hH ⊢; generalize locs1 = locs at hH ⊢
  refine lv_iconst (v := 2) hx hb d_bk_lettersOfAsked_7 (by decide) ?_
  refine lv_isub hx hb d_bk_lettersOfAsked_8 ?_
  exact hm_iret E hr hlk hH (⟨rfl, hM0.symm⟩) (by omega) (by omega) d_bk_lettersOfAsked_9

abbrev q_bk_value (G : hG) (x d dn lf rt pt xt rr ar : Nat) (asg anm asz : Nat) (g : Nat → Int32) (k : Int32) (M : hM) : Option Value → hM → Prop := fun rv M' => ((1 ≤ k.toInt ∧ k.toInt < (asz : Int) - 2 ∧ rv = some (.int (g (k.toInt.toNat + 1)))) ∨ (¬ (1 ≤ k.toInt ∧ k.toInt < (asz : Int) - 2) ∧ rv = some (.int (-1)))) ∧ M' = M
set_option maxHeartbeats 4000000 in
set_option maxRecDepth 100000 in
theorem c_bk_value (l : Launch) (G : hG) (x d dn lf rt pt xt rr ar : Nat) (asg anm asz : Nat) (g : Nat → Int32) (k : Int32) (M : hM) (hw : hm_has M [(x, .inr (3, [.ref d, .int (nI dn), .int (nI lf), .int (nI rt), .ref pt, .ref xt, .ref rr, .ref ar])), (ar, .inr (1, [.ref asg, .ref anm, .int (nI asz)])), (anm, aI G 66 g)]) (hasz : asz ≤ 65) : Ct (gk G) l G.1 vwC y_bk_value w_bk_value { frames := 2, cells := 0, slots := 0, locals := 42 } ([.ref x, .int k] : List Value) M (q_bk_value G x d dn lf rt pt xt rr ar asg anm asz g k M) 0 0 := by
  refine Ct.ofW (cc := b_bk_value) (maxL := 2) (ret := (Option.some Jvm.ClassFile.FieldType.int)) (by decide) rfl (Nat.le_of_ble_eq_true rfl) (fun p e s m below meth c A ls E hr hlk hin hg hH hl => ?_)
  have hl : lv_has ls 2 [(0, .ref x), (1, .int k)] := hl
  have hx := E.1; have hb := E.2.1; have hml := E.2.2.1; have hown := E.2.2.2.1; have hts := E.2.2.2.2; have hK := hg.1
  obtain ⟨M0, hM0⟩ : ∃ M0 : hM, M0 = M := ⟨M, rfl⟩
  rw [show q_bk_value G x d dn lf rt pt xt rr ar asg anm asz g k M = q_bk_value G x d dn lf rt pt xt rr ar asg anm asz g k M0 by rw [hM0]]
  refine lv_iload_n hx hb d_bk_value_0 rfl (lv_at hl 1 rfl) ?_
  refine lv_iconst (v := 1) hx hb d_bk_value_1 (by decide) ?_
  refine hr_icmp_lt (x := k) (y := 1) (c9 := 1) hx hb (by decide) (tgt := 13) d_bk_value_2 (by decide) (fun h2 => ?_) (fun h2 => ?_)
  · skip
    refine lv_iconst (v := (-1)) hx hb d_bk_value_13 (by decide) ?_
    exact hm_iret E hr hlk hH (⟨Or.inr ⟨by omega, rfl⟩, hM0.symm⟩) (by omega) (by omega) d_bk_value_14
  · skip
    refine lv_iload_n hx hb d_bk_value_5 rfl (lv_at hl 1 rfl) ?_
    refine lv_aload_n hx hb d_bk_value_6 rfl (lv_at hl 0 rfl) ?_
    have hM1 := c_bk_lettersOfAsked l G x d dn lf rt pt xt rr ar asg anm asz M (hw.sub (ws' := [(x, .inr (3, [.ref d, .int (nI dn), .int (nI lf), .int (nI rt), .ref pt, .ref xt, .ref rr, .ref ar])), (ar, .inr (1, [.ref asg, .ref anm, .int (nI asz)]))]) [0, 1] rfl rfl) s.heap.size
    have hG1 : GoodIn w_bk_value (wsV R_bk 102 R_bk y_bk_lettersOfAsked w_bk_lettersOfAsked) := gB_V wm_110 wm_112 wp_0 wm_1 wm_113
    refine hm_call (va_runV (y := y_bk_lettersOfAsked) (bytes := b_bk_lettersOfAsked) (maxL := 1) (ws := w_bk_lettersOfAsked) (rm := { frames := 1, cells := 0, slots := 0, locals := 20 }) (own := R_bk) (index := 102) (ret := (Option.some Jvm.ClassFile.FieldType.int)) (C := R_bk) (As := []) (rest := [.int k]) E hM1 (cwV (y := y_bk_lettersOfAsked) (bytes := b_bk_lettersOfAsked) (maxL := 1) (ws := w_bk_lettersOfAsked) (rm := { frames := 1, cells := 0, slots := 0, locals := 20 }) (own := R_bk) (index := 102) (ret := (Option.some Jvm.ClassFile.FieldType.int)) (C := R_bk) 0 hts hG1 rfl rfl rfl (by decide +kernel) ⟨Nat.le_of_ble_eq_true rfl, Nat.le_of_ble_eq_true rfl⟩) (hm_preV gk_w gk_s hH hg hK (hw.at 0 rfl) rfl []) rfl rfl hl.1 rfl (lv_room (Nat.le_of_ble_eq_true rfl)) d_bk_value_7 ⟨(by show _ ≤ 0; omega), (by show _ ≤ 0; omega)⟩) hH (fun r1 M1 H1 locs1 hq1 hH1 => ?_)
    obtain ⟨rfl, e1⟩ := hq1
    replace hH := hH1; rw [e1] at hH; clear hH1 e1; generalize H1 = H at hH ⊢; generalize locs1 = locs at hH ⊢
    refine hr_icmp_lt (x := k) (y := nI asz - 2) (c9 := (asz : Int) - 2) hx hb (sub2_toInt (by omega)) (tgt := 15) d_bk_value_10 (by decide) (fun h10 => ?_) (fun h10 => ?_)
    · skip
      obtain ⟨j, hj31, rfl⟩ := nI_ex (z := k) (by omega)
      rw [nI_toInt hj31] at h2 h10
      refine lv_aload_n hx hb d_bk_value_15 rfl (lv_at hl 0 rfl) ?_
      refine hm_get E (tB in_bk) hK hH (hw.at 0 rfl) rfl 7 (by decide) (tC wm_80) rfl d_bk_value_16 ?_
      refine lv_iload_n hx hb d_bk_value_19 rfl (lv_at hl 1 rfl) ?_
      have hM1 := c_bk_placeBehind l G j M H.size
      have hG1 : GoodIn w_bk_value (wsS R_bk 105 y_bk_placeBehind w_bk_placeBehind) := gB_S wm_118 wm_119 wm_1 wm_120
      refine hm_call (va_runS (y := y_bk_placeBehind) (bytes := b_bk_placeBehind) (maxL := 1) (ws := w_bk_placeBehind) (rm := { frames := 0, cells := 0, slots := 0, locals := 0 }) (own := R_bk) (index := 105) (ret := (Option.some Jvm.ClassFile.FieldType.int)) (As := [.int (nI j)]) (rest := [.ref ar]) E hM1 (cwS (y := y_bk_placeBehind) (bytes := b_bk_placeBehind) (maxL := 1) (ws := w_bk_placeBehind) (rm := { frames := 0, cells := 0, slots := 0, locals := 0 }) (own := R_bk) (index := 105) (ret := (Option.some Jvm.ClassFile.FieldType.int)) 1 hts hG1 rfl rfl rfl (by decide +kernel) ⟨Nat.le_of_ble_eq_true rfl, Nat.le_of_ble_eq_true rfl⟩) (hm_preS gk_w gk_s hH hg [.int (nI j)]) rfl rfl hl.1 rfl (lv_room (Nat.le_of_ble_eq_true rfl)) d_bk_value_20 ⟨(by show _ ≤ 0; omega), (by show _ ≤ 0; omega)⟩) hH (fun r1 M1 H1 locs1 hq1 hH1 => ?_)
      obtain ⟨rfl, e1⟩ := hq1
      replace hH := hH1; rw [e1] at hH; clear hH1 e1; generalize H1 = H at hH ⊢; generalize locs1 = locs at hH ⊢
      have hM1 := c_rw_numberAt l G ar asg anm asz g (j + 1) M (hw.sub (ws' := [(ar, cRw asg anm asz), (anm, aI G 66 g)]) [1, 2] rfl rfl) (by omega) H.size
      have hG1 : GoodIn w_bk_value (wsV R_bk 109 R_rw y_rw_numberAt w_rw_numberAt) := gB_V wm_121 wm_122 wm_123 wm_4 wm_124
      refine hm_call (va_runV (y := y_rw_numberAt) (bytes := b_rw_numberAt) (maxL := 2) (ws := w_rw_numberAt) (rm := { frames := 1, cells := 0, slots := 0, locals := 21 }) (own := R_bk) (index := 109) (ret := (Option.some Jvm.ClassFile.FieldType.int)) (C := R_rw) (As := [.int (nI (j + 1))]) (rest := []) E hM1 (cwV (y := y_rw_numberAt) (bytes := b_rw_numberAt) (maxL := 2) (ws := w_rw_numberAt) (rm := { frames := 1, cells := 0, slots := 0, locals := 21 }) (own := R_bk) (index := 109) (ret := (Option.some Jvm.ClassFile.FieldType.int)) (C := R_rw) 1 hts hG1 rfl rfl rfl (by decide +kernel) ⟨Nat.le_of_ble_eq_true rfl, Nat.le_of_ble_eq_true rfl⟩) (hm_preV gk_w gk_s hH hg hK (hw.at 1 rfl) rfl [.int (nI (j + 1))]) rfl rfl hl.1 rfl (lv_room (Nat.le_of_ble_eq_true rfl)) d_bk_value_23 ⟨(by show _ ≤ 0; omega), (by show _ ≤ 0; omega)⟩) hH (fun r1 M1 H1 locs1 hq1 hH1 => ?_)
      obtain ⟨rfl, e1⟩ := hq1
      replace hH := hH1; rw [e1] at hH; clear hH1 e1; generalize H1 = H at hH ⊢; generalize locs1 = locs at hH ⊢
      exact hm_iret E hr hlk hH (⟨Or.inl ⟨by rw [nI_toInt hj31]; exact h2, by rw [nI_toInt hj31]; exact h10, by rw [nI_toInt hj31, if_pos (by omega)]; rfl⟩, hM0.symm⟩) (by omega) (by omega) d_bk_value_26
    · skip
      refine lv_iconst (v := (-1)) hx hb d_bk_value_13 (by decide) ?_
      exact hm_iret E hr hlk hH (⟨Or.inr ⟨by omega, rfl⟩, hM0.symm⟩) (by omega) (by omega) d_bk_value_14

abbrev q_bk_least (G : hG) (x d dn lf rt pt xt rr ar : Nat) (a1 a2 : Int32) (M : hM) : Option Value → hM → Prop := fun rv M' => (∃ jl jr : Nat, a1 = nI jl ∧ a2 = nI jr ∧ 1 ≤ jl ∧ jl ≤ 63 ∧ 1 ≤ jr ∧ jr ≤ 63 ∧ rv = some (.int 1) ∧ hm_has M' [(x, .inr (3, [.ref d, .int (nI dn), .int (nI jl), .int (nI jr), .ref pt, .ref xt, .ref rr, .ref ar]))] ∧ hm_kp (fun a => a ∈ [x]) M M') ∨ (¬ (1 ≤ a1.toInt ∧ a1.toInt ≤ 63 ∧ 1 ≤ a2.toInt ∧ a2.toInt ≤ 63) ∧ rv = some (.int 0) ∧ M' = M)
set_option maxHeartbeats 4000000 in
set_option maxRecDepth 100000 in
theorem c_bk_least (l : Launch) (G : hG) (x d dn lf rt pt xt rr ar : Nat) (a1 a2 : Int32) (M : hM) (hw : hm_has M [(x, .inr (3, [.ref d, .int (nI dn), .int (nI lf), .int (nI rt), .ref pt, .ref xt, .ref rr, .ref ar]))]) : Ct (gk G) l G.1 vwC y_bk_least w_bk_least { frames := 0, cells := 0, slots := 0, locals := 0 } ([.ref x, .int a1, .int a2] : List Value) M (q_bk_least G x d dn lf rt pt xt rr ar a1 a2 M) 0 0 := by
  refine Ct.ofW (cc := b_bk_least) (maxL := 3) (ret := (Option.some Jvm.ClassFile.FieldType.boolean)) (by decide) rfl (Nat.le_of_ble_eq_true rfl) (fun p e s m below meth c A ls E hr hlk hin hg hH hl => ?_)
  have hl : lv_has ls 3 [(0, .ref x), (1, .int a1), (2, .int a2)] := hl
  have hx := E.1; have hb := E.2.1; have hml := E.2.2.1; have hown := E.2.2.2.1; have hts := E.2.2.2.2; have hK := hg.1
  obtain ⟨M0, hM0⟩ : ∃ M0 : hM, M0 = M := ⟨M, rfl⟩
  rw [show q_bk_least G x d dn lf rt pt xt rr ar a1 a2 M = q_bk_least G x d dn lf rt pt xt rr ar a1 a2 M0 by rw [hM0]]
  have hk : hm_kp (fun a => a ∈ [x]) M0 M := by rw [hM0]; exact hm_kp.rf
  refine lv_iload_n hx hb d_bk_least_0 rfl (lv_at hl 1 rfl) ?_
  refine lv_iconst (v := 1) hx hb d_bk_least_1 (by decide) ?_
  refine hr_icmp_lt (x := a1) (y := 1) (c9 := 1) hx hb (by decide) (tgt := 22) d_bk_least_2 (by decide) (fun h2 => ?_) (fun h2 => ?_)
  · skip
    refine lv_iconst (v := 0) hx hb d_bk_least_22 (by decide) ?_
    exact hm_zret E hr hlk hH (by decide) (Or.inr ⟨by omega, rfl, hM0.symm⟩) (by omega) (by omega) d_bk_least_23
  · skip
    refine lv_iload_n hx hb d_bk_least_5 rfl (lv_at hl 1 rfl) ?_
    refine lv_bipush (v := 63) hx hb d_bk_least_6 (by decide) ?_
    refine hr_icmp_gt (x := a1) (y := 63) (c9 := 63) hx hb (by decide) (tgt := 22) d_bk_least_8 (by decide) (fun h8 => ?_) (fun h8 => ?_)
    · skip
      refine lv_iconst (v := 0) hx hb d_bk_least_22 (by decide) ?_
      exact hm_zret E hr hlk hH (by decide) (Or.inr ⟨by omega, rfl, hM0.symm⟩) (by omega) (by omega) d_bk_least_23
    · skip
      refine lv_iload_n hx hb d_bk_least_11 rfl (lv_at hl 2 rfl) ?_
      refine lv_iconst (v := 1) hx hb d_bk_least_12 (by decide) ?_
      refine hr_icmp_lt (x := a2) (y := 1) (c9 := 1) hx hb (by decide) (tgt := 22) d_bk_least_13 (by decide) (fun h13 => ?_) (fun h13 => ?_)
      · skip
        refine lv_iconst (v := 0) hx hb d_bk_least_22 (by decide) ?_
        exact hm_zret E hr hlk hH (by decide) (Or.inr ⟨by omega, rfl, hM0.symm⟩) (by omega) (by omega) d_bk_least_23
      · skip
        refine lv_iload_n hx hb d_bk_least_16 rfl (lv_at hl 2 rfl) ?_
        refine lv_bipush (v := 63) hx hb d_bk_least_17 (by decide) ?_
        refine hr_icmp_le (x := a2) (y := 63) (c9 := 63) hx hb (by decide) (tgt := 24) d_bk_least_19 (by decide) (fun h19 => ?_) (fun h19 => ?_)
        · skip
          obtain ⟨jl, hjl, rfl⟩ := nI_ex (z := a1) (by omega)
          obtain ⟨jr, hjr, rfl⟩ := nI_ex (z := a2) (by omega)
          rw [nI_toInt hjl] at h2 h8
          rw [nI_toInt hjr] at h13 h19
          refine lv_aload_n hx hb d_bk_least_24 rfl (lv_at hl 0 rfl) ?_
          refine lv_iload_n hx hb d_bk_least_25 rfl (lv_at hl 1 rfl) ?_
          refine hm_put E (tB in_bk) t_bk tk_bk nm_bk hK hH (hw.at 0 rfl) rfl 2 (by decide) (tC wm_75) rfl rfl rfl (Nat.le_of_ble_eq_true rfl) (fs' := [.ref d, .int (nI dn), .int (nI jl), .int (nI rt), .ref pt, .ref xt, .ref rr, .ref ar]) rfl d_bk_least_26 (fun H locs hH => ?_)
          have hw := hw.set (ws' := [(x, .inr (3, [.ref d, .int (nI dn), .int (nI jl), .int (nI rt), .ref pt, .ref xt, .ref rr, .ref ar]))]) (k := 0) rfl rfl
          have hk := hk.wr (a := x) (v := some (.inr (3, [.ref d, .int (nI dn), .int (nI jl), .int (nI rt), .ref pt, .ref xt, .ref rr, .ref ar]))) (by first | (right; assumption) | (left; simp; done))
          generalize va_up M x (some (.inr (3, [.ref d, .int (nI dn), .int (nI jl), .int (nI rt), .ref pt, .ref xt, .ref rr, .ref ar]))) = M at hH hw hk ⊢
          refine lv_aload_n hx hb d_bk_least_29 rfl (lv_at hl 0 rfl) ?_
          refine lv_iload_n hx hb d_bk_least_30 rfl (lv_at hl 2 rfl) ?_
          refine hm_put E (tB in_bk) t_bk tk_bk nm_bk hK hH (hw.at 0 rfl) rfl 3 (by decide) (tC wm_76) rfl rfl rfl (Nat.le_of_ble_eq_true rfl) (fs' := [.ref d, .int (nI dn), .int (nI jl), .int (nI jr), .ref pt, .ref xt, .ref rr, .ref ar]) rfl d_bk_least_31 (fun H locs hH => ?_)
          have hw := hw.set (ws' := [(x, .inr (3, [.ref d, .int (nI dn), .int (nI jl), .int (nI jr), .ref pt, .ref xt, .ref rr, .ref ar]))]) (k := 0) rfl rfl
          have hk := hk.wr (a := x) (v := some (.inr (3, [.ref d, .int (nI dn), .int (nI jl), .int (nI jr), .ref pt, .ref xt, .ref rr, .ref ar]))) (by first | (right; assumption) | (left; simp; done))
          generalize va_up M x (some (.inr (3, [.ref d, .int (nI dn), .int (nI jl), .int (nI jr), .ref pt, .ref xt, .ref rr, .ref ar]))) = M at hH hw hk ⊢
          refine lv_iconst (v := 1) hx hb d_bk_least_34 (by decide) ?_
          exact hm_zret E hr hlk hH (by decide) (Or.inl ⟨jl, jr, rfl, rfl, by omega, by omega, by omega, by omega, rfl, hw, hk⟩) (by omega) (by omega) d_bk_least_35
        · skip
          refine lv_iconst (v := 0) hx hb d_bk_least_22 (by decide) ?_
          exact hm_zret E hr hlk hH (by decide) (Or.inr ⟨by omega, rfl, hM0.symm⟩) (by omega) (by omega) d_bk_least_23

abbrev q_bk_count (G : hG) (x d dn lf rt pt xt rr ar : Nat) (ro1 en1 bg1 ro2 en2 bg2 : Nat) (k : Int32) (M : hM) : Option Value → hM → Prop := fun rv M' => rv = some (.int (if k = 0 then nI en1 else if k = 1 then nI en2 else if k = 2 then nI bg1 else if k = 3 then nI dn else -1)) ∧ M' = M
set_option maxHeartbeats 4000000 in
set_option maxRecDepth 100000 in
theorem c_bk_count (l : Launch) (G : hG) (x d dn lf rt pt xt rr ar : Nat) (ro1 en1 bg1 ro2 en2 bg2 : Nat) (k : Int32) (M : hM) (hw : hm_has M [(x, .inr (3, [.ref d, .int (nI dn), .int (nI lf), .int (nI rt), .ref pt, .ref xt, .ref rr, .ref ar])), (pt, .inr (2, [.ref ro1, .int (nI en1), .int (nI bg1)])), (xt, .inr (2, [.ref ro2, .int (nI en2), .int (nI bg2)]))]) : Ct (gk G) l G.1 vwC y_bk_count w_bk_count { frames := 1, cells := 0, slots := 0, locals := 20 } ([.ref x, .int k] : List Value) M (q_bk_count G x d dn lf rt pt xt rr ar ro1 en1 bg1 ro2 en2 bg2 k M) 0 0 := by
  refine Ct.ofW (cc := b_bk_count) (maxL := 2) (ret := (Option.some Jvm.ClassFile.FieldType.int)) (by decide) rfl (Nat.le_of_ble_eq_true rfl) (fun p e s m below meth c A ls E hr hlk hin hg hH hl => ?_)
  have hl : lv_has ls 2 [(0, .ref x), (1, .int k)] := hl
  have hx := E.1; have hb := E.2.1; have hml := E.2.2.1; have hown := E.2.2.2.1; have hts := E.2.2.2.2; have hK := hg.1
  obtain ⟨M0, hM0⟩ : ∃ M0 : hM, M0 = M := ⟨M, rfl⟩
  rw [show q_bk_count G x d dn lf rt pt xt rr ar ro1 en1 bg1 ro2 en2 bg2 k M = q_bk_count G x d dn lf rt pt xt rr ar ro1 en1 bg1 ro2 en2 bg2 k M0 by rw [hM0]]
  refine lv_iload_n hx hb d_bk_count_0 rfl (lv_at hl 1 rfl) ?_
  by_cases k0 : k = 0
  · subst k0
    refine lv_tableIn (x := 0) (off := 31) (tgt := 32) hx hb d_bk_count_1 (by decide) (by decide) (by decide) (by decide) ?_
    refine lv_aload_n hx hb d_bk_count_32 rfl (lv_at hl 0 rfl) ?_
    refine hm_get E (tB in_bk) hK hH (hw.at 0 rfl) rfl 4 (by decide) (tC wm_77) rfl d_bk_count_33 ?_
    have hM1 := c_tr_entries l G pt ro1 en1 bg1 M (hw.at 1 rfl) s.heap.size
    have hG1 : GoodIn w_bk_count (wsV R_bk 63 R_tr y_tr_entries w_tr_entries) := gB_V wm_132 wm_133 wm_134 wm_2 wm_135
    refine hm_call (va_runV (y := y_tr_entries) (bytes := b_tr_entries) (maxL := 1) (ws := w_tr_entries) (rm := { frames := 0, cells := 0, slots := 0, locals := 0 }) (own := R_bk) (index := 63) (ret := (Option.some Jvm.ClassFile.FieldType.int)) (C := R_tr) (As := []) (rest := []) E hM1 (cwV (y := y_tr_entries) (bytes := b_tr_entries) (maxL := 1) (ws := w_tr_entries) (rm := { frames := 0, cells := 0, slots := 0, locals := 0 }) (own := R_bk) (index := 63) (ret := (Option.some Jvm.ClassFile.FieldType.int)) (C := R_tr) 0 hts hG1 rfl rfl rfl (by decide +kernel) ⟨Nat.le_of_ble_eq_true rfl, Nat.le_of_ble_eq_true rfl⟩) (hm_preV gk_w gk_s hH hg hK (hw.at 1 rfl) rfl []) rfl rfl hl.1 rfl (lv_room (Nat.le_of_ble_eq_true rfl)) d_bk_count_36 ⟨(by show _ ≤ 0; omega), (by show _ ≤ 0; omega)⟩) hH (fun r1 M1 H1 locs1 hq1 hH1 => ?_)
    obtain ⟨rfl, e1⟩ := hq1
    replace hH := hH1; rw [e1] at hH; clear hH1 e1; generalize H1 = H at hH ⊢; generalize locs1 = locs at hH ⊢
    exact hm_iret E hr hlk hH (⟨by simp, hM0.symm⟩) (by omega) (by omega) d_bk_count_39
  · skip
    by_cases k1 : k = 1
    · subst k1
      refine lv_tableIn (x := 1) (off := 39) (tgt := 40) hx hb d_bk_count_1 (by decide) (by decide) (by decide) (by decide) ?_
      refine lv_aload_n hx hb d_bk_count_40 rfl (lv_at hl 0 rfl) ?_
      refine hm_get E (tB in_bk) hK hH (hw.at 0 rfl) rfl 5 (by decide) (tC wm_78) rfl d_bk_count_41 ?_
      have hM1 := c_tr_entries l G xt ro2 en2 bg2 M (hw.at 2 rfl) s.heap.size
      have hG1 : GoodIn w_bk_count (wsV R_bk 63 R_tr y_tr_entries w_tr_entries) := gB_V wm_132 wm_133 wm_134 wm_2 wm_135
      refine hm_call (va_runV (y := y_tr_entries) (bytes := b_tr_entries) (maxL := 1) (ws := w_tr_entries) (rm := { frames := 0, cells := 0, slots := 0, locals := 0 }) (own := R_bk) (index := 63) (ret := (Option.some Jvm.ClassFile.FieldType.int)) (C := R_tr) (As := []) (rest := []) E hM1 (cwV (y := y_tr_entries) (bytes := b_tr_entries) (maxL := 1) (ws := w_tr_entries) (rm := { frames := 0, cells := 0, slots := 0, locals := 0 }) (own := R_bk) (index := 63) (ret := (Option.some Jvm.ClassFile.FieldType.int)) (C := R_tr) 0 hts hG1 rfl rfl rfl (by decide +kernel) ⟨Nat.le_of_ble_eq_true rfl, Nat.le_of_ble_eq_true rfl⟩) (hm_preV gk_w gk_s hH hg hK (hw.at 2 rfl) rfl []) rfl rfl hl.1 rfl (lv_room (Nat.le_of_ble_eq_true rfl)) d_bk_count_44 ⟨(by show _ ≤ 0; omega), (by show _ ≤ 0; omega)⟩) hH (fun r1 M1 H1 locs1 hq1 hH1 => ?_)
      obtain ⟨rfl, e1⟩ := hq1
      replace hH := hH1; rw [e1] at hH; clear hH1 e1; generalize H1 = H at hH ⊢; generalize locs1 = locs at hH ⊢
      exact hm_iret E hr hlk hH (⟨by simp, hM0.symm⟩) (by omega) (by omega) d_bk_count_47
    · skip
      by_cases k2 : k = 2
      · subst k2
        refine lv_tableIn (x := 2) (off := 47) (tgt := 48) hx hb d_bk_count_1 (by decide) (by decide) (by decide) (by decide) ?_
        refine lv_aload_n hx hb d_bk_count_48 rfl (lv_at hl 0 rfl) ?_
        refine hm_get E (tB in_bk) hK hH (hw.at 0 rfl) rfl 4 (by decide) (tC wm_77) rfl d_bk_count_49 ?_
        have hM1 := c_tr_beginnings l G pt ro1 en1 bg1 M (hw.at 1 rfl) s.heap.size
        have hG1 : GoodIn w_bk_count (wsV R_bk 112 R_tr y_tr_beginnings w_tr_beginnings) := gB_V wm_136 wm_137 wm_138 wm_2 wm_139
        refine hm_call (va_runV (y := y_tr_beginnings) (bytes := b_tr_beginnings) (maxL := 1) (ws := w_tr_beginnings) (rm := { frames := 0, cells := 0, slots := 0, locals := 0 }) (own := R_bk) (index := 112) (ret := (Option.some Jvm.ClassFile.FieldType.int)) (C := R_tr) (As := []) (rest := []) E hM1 (cwV (y := y_tr_beginnings) (bytes := b_tr_beginnings) (maxL := 1) (ws := w_tr_beginnings) (rm := { frames := 0, cells := 0, slots := 0, locals := 0 }) (own := R_bk) (index := 112) (ret := (Option.some Jvm.ClassFile.FieldType.int)) (C := R_tr) 0 hts hG1 rfl rfl rfl (by decide +kernel) ⟨Nat.le_of_ble_eq_true rfl, Nat.le_of_ble_eq_true rfl⟩) (hm_preV gk_w gk_s hH hg hK (hw.at 1 rfl) rfl []) rfl rfl hl.1 rfl (lv_room (Nat.le_of_ble_eq_true rfl)) d_bk_count_52 ⟨(by show _ ≤ 0; omega), (by show _ ≤ 0; omega)⟩) hH (fun r1 M1 H1 locs1 hq1 hH1 => ?_)
        obtain ⟨rfl, e1⟩ := hq1
        replace hH := hH1; rw [e1] at hH; clear hH1 e1; generalize H1 = H at hH ⊢; generalize locs1 = locs at hH ⊢
        exact hm_iret E hr hlk hH (⟨by simp, hM0.symm⟩) (by omega) (by omega) d_bk_count_55
      · skip
        by_cases k3 : k = 3
        · subst k3
          refine lv_tableIn (x := 3) (off := 55) (tgt := 56) hx hb d_bk_count_1 (by decide) (by decide) (by decide) (by decide) ?_
          refine lv_aload_n hx hb d_bk_count_56 rfl (lv_at hl 0 rfl) ?_
          refine hm_get E (tB in_bk) hK hH (hw.at 0 rfl) rfl 1 (by decide) (tC wm_74) rfl d_bk_count_57 ?_
          exact hm_iret E hr hlk hH (⟨by simp, hM0.symm⟩) (by omega) (by omega) d_bk_count_60
        · skip
          have q0 : (k).toInt ≠ 0 := fun h => k0 (i32_eq.mpr (by rw [h]; decide))
          have q1 : (k).toInt ≠ 1 := fun h => k1 (i32_eq.mpr (by rw [h]; decide))
          have q2 : (k).toInt ≠ 2 := fun h => k2 (i32_eq.mpr (by rw [h]; decide))
          have q3 : (k).toInt ≠ 3 := fun h => k3 (i32_eq.mpr (by rw [h]; decide))
          refine lv_tableOut (tgt := 61) hx hb d_bk_count_1 (by omega) (by decide) ?_
          refine lv_iconst (v := (-1)) hx hb d_bk_count_61 (by decide) ?_
          exact hm_iret E hr hlk hH (⟨by rw [if_neg k0, if_neg k1, if_neg k2, if_neg k3], hM0.symm⟩) (by omega) (by omega) d_bk_count_62

abbrev q_bk_put (G : hG) (x d dn lf rt pt xt rr ar : Nat) (dr : Nat → Int32) (v : Int64) (n0 : Int32) (M : hM) : Option Value → hM → Prop := fun rv M' => (∃ n : Nat, n0 = nI n ∧ 1 ≤ n ∧ n ≤ 8 ∧ dn + n ≤ 200 ∧ rv = some (.int 1) ∧ hm_has M' [(x, .inr (3, [.ref d, .int (nI (dn + n)), .int (nI lf), .int (nI rt), .ref pt, .ref xt, .ref rr, .ref ar])), (d, aI G 200 (drF dr dn v n n))] ∧ hm_kp (fun a => a ∈ [x, d]) M M') ∨ (¬ (1 ≤ n0.toInt ∧ n0.toInt ≤ 8 ∧ (dn : Int) + n0.toInt ≤ 200) ∧ rv = some (.int 0) ∧ M' = M)
set_option maxHeartbeats 4000000 in
set_option maxRecDepth 100000 in
theorem c_bk_put (l : Launch) (G : hG) (x d dn lf rt pt xt rr ar : Nat) (dr : Nat → Int32) (v : Int64) (n0 : Int32) (M : hM) (hw : hm_has M [(x, .inr (3, [.ref d, .int (nI dn), .int (nI lf), .int (nI rt), .ref pt, .ref xt, .ref rr, .ref ar])), (d, aI G 200 dr)]) (hdn : dn ≤ 200) : Ct (gk G) l G.1 vwC y_bk_put w_bk_put { frames := 0, cells := 0, slots := 0, locals := 0 } ([.ref x, .long v, .int n0] : List Value) M (q_bk_put G x d dn lf rt pt xt rr ar dr v n0 M) 0 0 := by
  refine Ct.ofW (cc := b_bk_put) (maxL := 5) (ret := (Option.some Jvm.ClassFile.FieldType.boolean)) (by decide) rfl (Nat.le_of_ble_eq_true rfl) (fun p e s m below meth c A ls E hr hlk hin hg hH hl => ?_)
  have hl : lv_has ls 5 [(0, .ref x), (1, .long v), (3, .int n0)] := hl
  have hx := E.1; have hb := E.2.1; have hml := E.2.2.1; have hown := E.2.2.2.1; have hts := E.2.2.2.2; have hK := hg.1
  obtain ⟨M0, hM0⟩ : ∃ M0 : hM, M0 = M := ⟨M, rfl⟩
  rw [show q_bk_put G x d dn lf rt pt xt rr ar dr v n0 M = q_bk_put G x d dn lf rt pt xt rr ar dr v n0 M0 by rw [hM0]]
  have hk : hm_kp (fun a => a ∈ [x, d]) M0 M := by rw [hM0]; exact hm_kp.rf
  refine lv_iload_n hx hb d_bk_put_0 rfl (lv_at hl 2 rfl) ?_
  refine lv_iconst (v := 1) hx hb d_bk_put_1 (by decide) ?_
  refine hr_icmp_lt (x := n0) (y := 1) (c9 := 1) hx hb (by decide) (tgt := 25) d_bk_put_2 (by decide) (fun h2 => ?_) (fun h2 => ?_)
  · skip
    refine lv_iconst (v := 0) hx hb d_bk_put_25 (by decide) ?_
    exact hm_zret E hr hlk hH (by decide) (Or.inr ⟨by first | omega | (rw [hn0, nI_toInt hn31]; omega), rfl, hM0.symm⟩) (by omega) (by omega) d_bk_put_26
  · skip
    refine lv_iload_n hx hb d_bk_put_5 rfl (lv_at hl 2 rfl) ?_
    refine lv_bipush (v := 8) hx hb d_bk_put_6 (by decide) ?_
    refine hr_icmp_gt (x := n0) (y := 8) (c9 := 8) hx hb (by decide) (tgt := 25) d_bk_put_8 (by decide) (fun h8 => ?_) (fun h8 => ?_)
    · skip
      refine lv_iconst (v := 0) hx hb d_bk_put_25 (by decide) ?_
      exact hm_zret E hr hlk hH (by decide) (Or.inr ⟨by first | omega | (rw [hn0, nI_toInt hn31]; omega), rfl, hM0.symm⟩) (by omega) (by omega) d_bk_put_26
    · skip
      obtain ⟨n, hn31, hn0⟩ := nI_ex (z := n0) (by omega)
      rw [hn0, nI_toInt hn31] at h2 h8
      have hl : lv_has ls 5 [(0, .ref x), (1, .long v), (3, .int (nI n))] := by rw [← hn0]; exact hl
      refine lv_aload_n hx hb d_bk_put_11 rfl (lv_at hl 0 rfl) ?_
      refine hm_get E (tB in_bk) hK hH (hw.at 0 rfl) rfl 1 (by decide) (tC wm_74) rfl d_bk_put_12 ?_
      refine lv_iload_n hx hb d_bk_put_15 rfl (lv_at hl 2 rfl) ?_
      refine hn_iadd hx hb (a := dn) (b := n) d_bk_put_16 ?_
      refine lv_aload_n hx hb d_bk_put_17 rfl (lv_at hl 0 rfl) ?_
      refine hm_get E (tB in_bk) hK hH (hw.at 0 rfl) rfl 0 (by decide) (tC wm_73) rfl d_bk_put_18 ?_
      refine hm_alen E hK hH 0 (hw.at 1 rfl) rfl d_bk_put_21 ?_
      refine hn_icmp_le (a := dn + n) (b := 200) hx hb (by omega) (by omega) (tgt := 27) d_bk_put_22 (by decide) (fun h22 => ?_) (fun h22 => ?_)
      · skip
        refine lv_iload_n hx hb d_bk_put_27 rfl (lv_at hl 2 rfl) ?_
        refine lv_iconst (v := 1) hx hb d_bk_put_28 (by decide) ?_
        refine hn_isub hx hb (a := n) (b := 1) (by omega) d_bk_put_29 ?_
        refine lv_istore (lv' := [(4, .int (nI (n - 1))), (0, .ref x), (1, .long v), (3, .int (nI n))]) hx hb d_bk_put_30 hl (by decide) rfl (fun ls hl => ?_)
        have L32 : ∀ (k : Nat) (c9 : Nat) (z : Int32) (M : hM) (H : Heap) (locs : List Loc) (ls : Array Slot), n + 1 ≤ c9 + k → c9 ≤ n → z.toInt = (n : Int) - 1 - c9 → hm_has M [(x, .inr (3, [.ref d, .int (nI (dn + c9)), .int (nI lf), .int (nI rt), .ref pt, .ref xt, .ref rr, .ref ar])), (d, aI G 200 (drF dr dn v n c9))] → hm_kp (fun a => a ∈ [x, d]) M0 M → hm_I G.1 vwC A s.heap M H locs → lv_has ls 5 [(4, .int z), (0, .ref x), (1, .long v), (3, .int (nI n))] → W p l e { frames := 0, cells := 0, slots := 0, locals := 0 } s m ([.ref x, .long v, .int n0] : List Value).toArray below meth c H locs 0 0 (MQ below (hm_Q G.1 vwC (q_bk_put G x d dn lf rt pt xt rr ar dr v n0 M0) A) ([.ref x, .long v, .int n0] : List Value).toArray s 0 0 A) (F0 m 32 ls []) := by
          intro k
          induction k with
          | zero => intro c9 z M H locs ls hfu hcn hz; exact absurd hfu (by omega)
          | succ k ih =>
            intro c9 z M H locs ls hfu hcn hz hw hk hH hl
            refine lv_iload hx hb d_bk_put_32 (lv_at hl 0 rfl) ?_
            refine hr_if_lt (x := z) hx hb (tgt := 74) d_bk_put_34 (by decide) (fun h34 => ?_) (fun h34 => ?_)
            · skip
              refine lv_iconst (v := 1) hx hb d_bk_put_74 (by decide) ?_
              have hce : c9 = n := by omega
              exact hm_zret E hr hlk hH (by decide) (Or.inl ⟨n, hn0, by omega, by omega, by omega, rfl, by rw [hce] at hw; exact hw, hk⟩) (by omega) (by omega) d_bk_put_75
            · skip
              have hz2 : z = nI (n - 1 - c9) := nI_toI (by omega) (by omega)
              have hc9 : c9 < n := by omega
              subst hz2
              refine lv_aload_n hx hb d_bk_put_37 rfl (lv_at hl 1 rfl) ?_
              refine hm_get E (tB in_bk) hK hH (hw.at 0 rfl) rfl 0 (by decide) (tC wm_73) rfl d_bk_put_38 ?_
              refine lv_aload_n hx hb d_bk_put_41 rfl (lv_at hl 1 rfl) ?_
              refine hm_get E (tB in_bk) hK hH (hw.at 0 rfl) rfl 1 (by decide) (tC wm_74) rfl d_bk_put_42 ?_
              refine lv_lload_n hx hb d_bk_put_45 rfl (lv_at hl 2 rfl) ?_
              refine lv_bipush (v := 8) hx hb d_bk_put_46 (by decide) ?_
              refine lv_iload hx hb d_bk_put_48 (lv_at hl 0 rfl) ?_
              refine hn_imul hx hb (a := 8) (b := n - 1 - c9) d_bk_put_50 ?_
              refine lv_lushr hx hb d_bk_put_51 rfl ?_
              refine lv_l2i hx hb d_bk_put_52 rfl ?_
              refine lv_sipush (v := 255) hx hb d_bk_put_53 (by decide) ?_
              refine lv_iand hx hb d_bk_put_56 ?_
              refine hm_top (w := .int (byt v (n - 1 - c9))) (rfl) ?_
              refine hm_iast E hK hH 0 (hw.at 1 rfl) rfl (i := dn + c9) (by omega) (by decide) d_bk_put_57 (fun H locs hH => ?_)
              have hw := hw.set (ws' := [(x, .inr (3, [.ref d, .int (nI (dn + c9)), .int (nI lf), .int (nI rt), .ref pt, .ref xt, .ref rr, .ref ar])), (d, aI G 200 (upd (drF dr dn v n c9) (dn + c9) (byt v (n - 1 - c9))))]) (k := 1) rfl rfl
              have hk := hk.wr (a := d) (v := some (aI G 200 (upd (drF dr dn v n c9) (dn + c9) (byt v (n - 1 - c9))))) (by first | (right; assumption) | (left; simp; done))
              generalize va_up M d (some (aI G 200 (upd (drF dr dn v n c9) (dn + c9) (byt v (n - 1 - c9))))) = M at hH hw hk ⊢
              refine lv_aload_n hx hb d_bk_put_58 rfl (lv_at hl 1 rfl) ?_
              refine lv_dup hx hb d_bk_put_59 rfl ?_
              refine hm_get E (tB in_bk) hK hH (hw.at 0 rfl) rfl 1 (by decide) (tC wm_74) rfl d_bk_put_60 ?_
              refine lv_iconst (v := 1) hx hb d_bk_put_63 (by decide) ?_
              refine hn_iadd hx hb (a := dn + c9) (b := 1) d_bk_put_64 ?_
              refine hm_put E (tB in_bk) t_bk tk_bk nm_bk hK hH (hw.at 0 rfl) rfl 1 (by decide) (tC wm_74) rfl rfl rfl (Nat.le_of_ble_eq_true rfl) (fs' := [.ref d, .int (nI (dn + c9 + 1)), .int (nI lf), .int (nI rt), .ref pt, .ref xt, .ref rr, .ref ar]) rfl d_bk_put_65 (fun H locs hH => ?_)
              have hw := hw.set (ws' := [(x, .inr (3, [.ref d, .int (nI (dn + c9 + 1)), .int (nI lf), .int (nI rt), .ref pt, .ref xt, .ref rr, .ref ar])), (d, aI G 200 (upd (drF dr dn v n c9) (dn + c9) (byt v (n - 1 - c9))))]) (k := 0) rfl rfl
              have hk := hk.wr (a := x) (v := some (.inr (3, [.ref d, .int (nI (dn + c9 + 1)), .int (nI lf), .int (nI rt), .ref pt, .ref xt, .ref rr, .ref ar]))) (by first | (right; assumption) | (left; simp; done))
              generalize va_up M x (some (.inr (3, [.ref d, .int (nI (dn + c9 + 1)), .int (nI lf), .int (nI rt), .ref pt, .ref xt, .ref rr, .ref ar]))) = M at hH hw hk ⊢
              refine lv_iinc (v := nI (n - 1 - c9) + (-1)) (lv' := [(4, .int (nI (n - 1 - c9) + (-1))), (0, .ref x), (1, .long v), (3, .int (nI n))]) hx hb d_bk_put_68 hl (k := 0) rfl rfl (by decide) rfl (fun ls hl => ?_)
              refine lv_goto (tgt := 32) hx hb d_bk_put_71 (by decide) ?_
              exact ih (c9 + 1) _ M _ _ _ (by omega) (by omega) (by rw [m1_toInt (by rw [nI_toInt (by omega)]; omega), nI_toInt (by omega)]; omega) hw hk hH (lv_sub hl [0, 1, 2, 3] rfl)
        exact L32 (n + 1) 0 _ M _ _ _ (by omega) (by omega) (by rw [nI_toInt (by omega)]; omega) hw hk hH (lv_sub hl [0, 1, 2, 3] rfl)
      · skip
        refine lv_iconst (v := 0) hx hb d_bk_put_25 (by decide) ?_
        exact hm_zret E hr hlk hH (by decide) (Or.inr ⟨by first | omega | (rw [hn0, nI_toInt hn31]; omega), rfl, hM0.symm⟩) (by omega) (by omega) d_bk_put_26
