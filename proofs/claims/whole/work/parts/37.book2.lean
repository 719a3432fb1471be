abbrev q_bk_drop1 (G : hG) (x d dn lf rt pt xt rr ar : Nat) (rsg rnm sz : Nat) (f g : Nat → Int32) (M : hM) : Option Value → hM → Prop := fun rv M' => rv = none ∧ hm_has M' [(x, .inr (3, [.ref d, .int (nI dn), .int (nI lf), .int (nI rt), .ref pt, .ref xt, .ref rr, .ref ar])), (rr, .inr (1, [.ref rsg, .ref rnm, .int (nI sz)])), (rsg, aI G 65 f), (rnm, aI G 66 (drp f sz g))] ∧ hm_kp (fun a => a ∈ [rnm]) M M'
set_option maxHeartbeats 4000000 in
set_option maxRecDepth 100000 in
theorem c_bk_drop1 (l : Launch) (G : hG) (x d dn lf rt pt xt rr ar : Nat) (rsg rnm sz : Nat) (f g : Nat → Int32) (M : hM) (hw : hm_has M [(x, .inr (3, [.ref d, .int (nI dn), .int (nI lf), .int (nI rt), .ref pt, .ref xt, .ref rr, .ref ar])), (rr, .inr (1, [.ref rsg, .ref rnm, .int (nI sz)])), (rsg, aI G 65 f), (rnm, aI G 66 g)]) (hsz : sz ≤ 65) (hs1 : 1 ≤ sz) : Ct (gk G) l G.1 vwC y_bk_dropNumbersOutsideEdges w_bk_dropNumbersOutsideEdges { frames := 2, cells := 0, slots := 0, locals := 42 } ([.ref x] : List Value) M (q_bk_drop1 G x d dn lf rt pt xt rr ar rsg rnm sz f g M) 0 0 := by
  refine Ct.ofW (cc := b_bk_dropNumbersOutsideEdges) (maxL := 1) (ret := (Option.none : Option Jvm.ClassFile.FieldType)) (by decide) rfl (Nat.le_of_ble_eq_true rfl) (fun p e s m below meth c A ls E hr hlk hin hg hH hl => ?_)
  have hl : lv_has ls 1 [(0, .ref x)] := hl
  have hx := E.1; have hb := E.2.1; have hml := E.2.2.1; have hown := E.2.2.2.1; have hts := E.2.2.2.2; have hK := hg.1
  obtain ⟨M0, hM0⟩ : ∃ M0 : hM, M0 = M := ⟨M, rfl⟩
  rw [show q_bk_drop1 G x d dn lf rt pt xt rr ar rsg rnm sz f g M = q_bk_drop1 G x d dn lf rt pt xt rr ar rsg rnm sz f g M0 by rw [hM0]]
  have hk : hm_kp (fun a => a ∈ [rnm]) M0 M := by rw [hM0]; exact hm_kp.rf
  refine lv_aload_n hx hb d_bk_dropNumbersOutsideEdges_0 rfl (lv_at hl 0 rfl) ?_
  refine hm_get E (tB in_bk) hK hH (hw.at 0 rfl) rfl 6 (by decide) (tC wm_79) rfl d_bk_dropNumbersOutsideEdges_1 ?_
  refine lv_iconst (v := 0) hx hb d_bk_dropNumbersOutsideEdges_4 (by decide) ?_
  have hM1 := c_rw_signAt l G rr rsg rnm sz f 0 M (hw.sub (ws' := [(rr, .inr (1, [.ref rsg, .ref rnm, .int (nI sz)])), (rsg, aI G 65 f)]) [1, 2] rfl rfl) (by omega) (by omega) s.heap.size
  have hG1 : GoodIn w_bk_dropNumbersOutsideEdges (wsV R_bk 145 R_rw y_rw_signAt w_rw_signAt) := gB_V wm_179 wm_180 wm_181 wm_4 wm_182
  refine hm_call (va_runV (y := y_rw_signAt) (bytes := b_rw_signAt) (maxL := 2) (ws := w_rw_signAt) (rm := { frames := 1, cells := 0, slots := 0, locals := 21 }) (own := R_bk) (index := 145) (ret := (Option.some Jvm.ClassFile.FieldType.int)) (C := R_rw) (As := [.int 0]) (rest := []) E hM1 (cwV (y := y_rw_signAt) (bytes := b_rw_signAt) (maxL := 2) (ws := w_rw_signAt) (rm := { frames := 1, cells := 0, slots := 0, locals := 21 }) (own := R_bk) (index := 145) (ret := (Option.some Jvm.ClassFile.FieldType.int)) (C := R_rw) 1 hts hG1 rfl rfl rfl (by decide +kernel) ⟨Nat.le_of_ble_eq_true rfl, Nat.le_of_ble_eq_true rfl⟩) (hm_preV gk_w gk_s hH hg hK (hw.at 1 rfl) rfl [.int 0]) rfl rfl hl.1 rfl (lv_room (Nat.le_of_ble_eq_true rfl)) d_bk_dropNumbersOutsideEdges_5 ⟨(by show _ ≤ 0; omega), (by show _ ≤ 0; omega)⟩) hH (fun r1 M1 H1 locs1 hq1 hH1 => ?_)
  obtain ⟨rfl, e1⟩ := hq1
  replace hH := hH1; rw [e1] at hH; clear hH1 e1; generalize H1 = H at hH ⊢; generalize locs1 = locs at hH ⊢
  refine hm_top (w := .int (f 0)) (by rw [if_pos (by omega)]) ?_
  refine lv_bipush (v := 46) hx hb d_bk_dropNumbersOutsideEdges_8 (by decide) ?_
  refine hc_icmp_ne (x := f 0) (y := 46) (c9 := 46) hx hb (by decide) (tgt := 22) d_bk_dropNumbersOutsideEdges_10 (by decide) (fun h10 => ?_) (fun h10 => ?_)
  · skip
    refine lv_aload_n hx hb d_bk_dropNumbersOutsideEdges_22 rfl (lv_at hl 0 rfl) ?_
    refine hm_get E (tB in_bk) hK hH (hw.at 0 rfl) rfl 6 (by decide) (tC wm_79) rfl d_bk_dropNumbersOutsideEdges_23 ?_
    refine lv_aload_n hx hb d_bk_dropNumbersOutsideEdges_26 rfl (lv_at hl 0 rfl) ?_
    refine hm_get E (tB in_bk) hK hH (hw.at 0 rfl) rfl 6 (by decide) (tC wm_79) rfl d_bk_dropNumbersOutsideEdges_27 ?_
    have hM1 := c_rw_size l G rr rsg rnm sz M (hw.sub (ws' := [(rr, .inr (1, [.ref rsg, .ref rnm, .int (nI sz)]))]) [1] rfl rfl) H.size
    have hG1 : GoodIn w_bk_dropNumbersOutsideEdges (wsV R_bk 126 R_rw y_rw_size w_rw_size) := gB_V wm_114 wm_115 wm_116 wm_4 wm_117
    refine hm_call (va_runV (y := y_rw_size) (bytes := b_rw_size) (maxL := 1) (ws := w_rw_size) (rm := { frames := 0, cells := 0, slots := 0, locals := 0 }) (own := R_bk) (index := 126) (ret := (Option.some Jvm.ClassFile.FieldType.int)) (C := R_rw) (As := []) (rest := [.ref rr]) E hM1 (cwV (y := y_rw_size) (bytes := b_rw_size) (maxL := 1) (ws := w_rw_size) (rm := { frames := 0, cells := 0, slots := 0, locals := 0 }) (own := R_bk) (index := 126) (ret := (Option.some Jvm.ClassFile.FieldType.int)) (C := R_rw) 0 hts hG1 rfl rfl rfl (by decide +kernel) ⟨Nat.le_of_ble_eq_true rfl, Nat.le_of_ble_eq_true rfl⟩) (hm_preV gk_w gk_s hH hg hK (hw.at 1 rfl) rfl []) rfl rfl hl.1 rfl (lv_room (Nat.le_of_ble_eq_true rfl)) d_bk_dropNumbersOutsideEdges_30 ⟨(by show _ ≤ 0; omega), (by show _ ≤ 0; omega)⟩) hH (fun r1 M1 H1 locs1 hq1 hH1 => ?_)
    obtain ⟨rfl, e1⟩ := hq1
    replace hH := hH1; rw [e1] at hH; clear hH1 e1; generalize H1 = H at hH ⊢; generalize locs1 = locs at hH ⊢
    refine lv_iconst (v := 1) hx hb d_bk_dropNumbersOutsideEdges_33 (by decide) ?_
    refine hn_isub hx hb (a := sz) (b := 1) (by omega) d_bk_dropNumbersOutsideEdges_34 ?_
    have hM1 := c_rw_signAt l G rr rsg rnm sz f (sz - 1) M (hw.sub (ws' := [(rr, .inr (1, [.ref rsg, .ref rnm, .int (nI sz)])), (rsg, aI G 65 f)]) [1, 2] rfl rfl) (by omega) (by omega) H.size
    have hG1 : GoodIn w_bk_dropNumbersOutsideEdges (wsV R_bk 145 R_rw y_rw_signAt w_rw_signAt) := gB_V wm_179 wm_180 wm_181 wm_4 wm_182
    refine hm_call (va_runV (y := y_rw_signAt) (bytes := b_rw_signAt) (maxL := 2) (ws := w_rw_signAt) (rm := { frames := 1, cells := 0, slots := 0, locals := 21 }) (own := R_bk) (index := 145) (ret := (Option.some Jvm.ClassFile.FieldType.int)) (C := R_rw) (As := [.int (nI (sz - 1))]) (rest := []) E hM1 (cwV (y := y_rw_signAt) (bytes := b_rw_signAt) (maxL := 2) (ws := w_rw_signAt) (rm := { frames := 1, cells := 0, slots := 0, locals := 21 }) (own := R_bk) (index := 145) (ret := (Option.some Jvm.ClassFile.FieldType.int)) (C := R_rw) 1 hts hG1 rfl rfl rfl (by decide +kernel) ⟨Nat.le_of_ble_eq_true rfl, Nat.le_of_ble_eq_true rfl⟩) (hm_preV gk_w gk_s hH hg hK (hw.at 1 rfl) rfl [.int (nI (sz - 1))]) rfl rfl hl.1 rfl (lv_room (Nat.le_of_ble_eq_true rfl)) d_bk_dropNumbersOutsideEdges_35 ⟨(by show _ ≤ 0; omega), (by show _ ≤ 0; omega)⟩) hH (fun r1 M1 H1 locs1 hq1 hH1 => ?_)
    obtain ⟨rfl, e1⟩ := hq1
    replace hH := hH1; rw [e1] at hH; clear hH1 e1; generalize H1 = H at hH ⊢; generalize locs1 = locs at hH ⊢
    refine hm_top (w := .int (f (sz - 1))) (by rw [if_pos (by omega)]) ?_
    refine lv_bipush (v := 46) hx hb d_bk_dropNumbersOutsideEdges_38 (by decide) ?_
    refine hc_icmp_ne (x := f (sz - 1)) (y := 46) (c9 := 46) hx hb (by decide) (tgt := 58) d_bk_dropNumbersOutsideEdges_40 (by decide) (fun h40 => ?_) (fun h40 => ?_)
    · skip
      have q1 : f 0 = 46 ↔ (f 0).toInt = 46 := eq46_iff
      have q2 : f (sz - 1) = 46 ↔ (f (sz - 1)).toInt = 46 := eq46_iff
      exact hm_vret E hr hlk hH (⟨rfl, by unfold drp; rw [if_neg (by omega)]; first | (rw [if_pos (q2.mpr h40), if_pos (q1.mpr h10)]; exact hw) | (rw [if_pos (q2.mpr h40), if_neg (fun z => h10 (q1.mp z))]; exact hw) | (rw [if_neg (fun z => h40 (q2.mp z)), if_pos (q1.mpr h10)]; exact hw) | (rw [if_neg (fun z => h40 (q2.mp z)), if_neg (fun z => h10 (q1.mp z))]; exact hw), hk⟩) (by omega) (by omega) d_bk_dropNumbersOutsideEdges_58
    · skip
      refine lv_aload_n hx hb d_bk_dropNumbersOutsideEdges_43 rfl (lv_at hl 0 rfl) ?_
      refine hm_get E (tB in_bk) hK hH (hw.at 0 rfl) rfl 6 (by decide) (tC wm_79) rfl d_bk_dropNumbersOutsideEdges_44 ?_
      refine lv_aload_n hx hb d_bk_dropNumbersOutsideEdges_47 rfl (lv_at hl 0 rfl) ?_
      refine hm_get E (tB in_bk) hK hH (hw.at 0 rfl) rfl 6 (by decide) (tC wm_79) rfl d_bk_dropNumbersOutsideEdges_48 ?_
      have hM1 := c_rw_size l G rr rsg rnm sz M (hw.sub (ws' := [(rr, .inr (1, [.ref rsg, .ref rnm, .int (nI sz)]))]) [1] rfl rfl) H.size
      have hG1 : GoodIn w_bk_dropNumbersOutsideEdges (wsV R_bk 126 R_rw y_rw_size w_rw_size) := gB_V wm_114 wm_115 wm_116 wm_4 wm_117
      refine hm_call (va_runV (y := y_rw_size) (bytes := b_rw_size) (maxL := 1) (ws := w_rw_size) (rm := { frames := 0, cells := 0, slots := 0, locals := 0 }) (own := R_bk) (index := 126) (ret := (Option.some Jvm.ClassFile.FieldType.int)) (C := R_rw) (As := []) (rest := [.ref rr]) E hM1 (cwV (y := y_rw_size) (bytes := b_rw_size) (maxL := 1) (ws := w_rw_size) (rm := { frames := 0, cells := 0, slots := 0, locals := 0 }) (own := R_bk) (index := 126) (ret := (Option.some Jvm.ClassFile.FieldType.int)) (C := R_rw) 0 hts hG1 rfl rfl rfl (by decide +kernel) ⟨Nat.le_of_ble_eq_true rfl, Nat.le_of_ble_eq_true rfl⟩) (hm_preV gk_w gk_s hH hg hK (hw.at 1 rfl) rfl []) rfl rfl hl.1 rfl (lv_room (Nat.le_of_ble_eq_true rfl)) d_bk_dropNumbersOutsideEdges_51 ⟨(by show _ ≤ 0; omega), (by show _ ≤ 0; omega)⟩) hH (fun r1 M1 H1 locs1 hq1 hH1 => ?_)
      obtain ⟨rfl, e1⟩ := hq1
      replace hH := hH1; rw [e1] at hH; clear hH1 e1; generalize H1 = H at hH ⊢; generalize locs1 = locs at hH ⊢
      refine lv_iconst (v := 0) hx hb d_bk_dropNumbersOutsideEdges_54 (by decide) ?_
      have hM1 := c_rw_setNumber l G rr rsg rnm sz g sz 0 M (hw.sub (ws' := [(rr, .inr (1, [.ref rsg, .ref rnm, .int (nI sz)])), (rnm, aI G 66 g)]) [1, 3] rfl rfl) (by omega) H.size
      have hG1 : GoodIn w_bk_dropNumbersOutsideEdges (wsV R_bk 129 R_rw y_rw_setNumber w_rw_setNumber) := gB_V wm_164 wm_165 wm_166 wm_4 wm_167
      refine hm_call (va_runV (y := y_rw_setNumber) (bytes := b_rw_setNumber) (maxL := 3) (ws := w_rw_setNumber) (rm := { frames := 0, cells := 0, slots := 0, locals := 0 }) (own := R_bk) (index := 129) (ret := (Option.none : Option Jvm.ClassFile.FieldType)) (C := R_rw) (As := [.int (nI sz), .int 0]) (rest := []) E hM1 (cwV (y := y_rw_setNumber) (bytes := b_rw_setNumber) (maxL := 3) (ws := w_rw_setNumber) (rm := { frames := 0, cells := 0, slots := 0, locals := 0 }) (own := R_bk) (index := 129) (ret := (Option.none : Option Jvm.ClassFile.FieldType)) (C := R_rw) 2 hts hG1 rfl rfl rfl (by decide +kernel) ⟨Nat.le_of_ble_eq_true rfl, Nat.le_of_ble_eq_true rfl⟩) (hm_preV gk_w gk_s hH hg hK (hw.at 1 rfl) rfl [.int (nI sz), .int 0]) rfl rfl hl.1 rfl (lv_room (Nat.le_of_ble_eq_true rfl)) d_bk_dropNumbersOutsideEdges_55 ⟨(by show _ ≤ 0; omega), (by show _ ≤ 0; omega)⟩) hH (fun r1 M1 H1 locs1 hq1 hH1 => ?_)
      replace hH := hH1; clear hH1; generalize H1 = H at hH ⊢; generalize locs1 = locs at hH ⊢
      obtain ⟨rfl, hw1, hk1⟩ := hq1
      have hw := hm_join (ws' := [(x, .inr (3, [.ref d, .int (nI dn), .int (nI lf), .int (nI rt), .ref pt, .ref xt, .ref rr, .ref ar])), (rr, .inr (1, [.ref rsg, .ref rnm, .int (nI sz)])), (rsg, aI G 65 f), (rnm, aI G 66 (upd (g) sz 0))]) (wc := [(rr, .inr (1, [.ref rsg, .ref rnm, .int (nI sz)])), (rnm, aI G 66 g)]) hw hw1 hk1 [1, 3] rfl rfl (fun a h => by simp at h; simp [h]) rfl (by
        intro k9 h9
        match k9, h9 with
        | 0, _ => exact Or.inl ⟨by decide, rfl⟩
        | 1, _ => exact Or.inr ⟨0, rfl, rfl⟩
        | 2, _ => exact Or.inl ⟨by decide, rfl⟩
        | 3, _ => exact Or.inr ⟨1, rfl, rfl⟩
        | k9 + 4, h9 => exact absurd h9 (Nat.not_lt_of_le (Nat.le_add_left _ _)))
      have hk := hk.tr hk1 (fun _ h => h)
      generalize M1 = M at hH hw hk
      have q1 : f 0 = 46 ↔ (f 0).toInt = 46 := eq46_iff
      have q2 : f (sz - 1) = 46 ↔ (f (sz - 1)).toInt = 46 := eq46_iff
      exact hm_vret E hr hlk hH (⟨rfl, by unfold drp; rw [if_neg (by omega)]; first | (rw [if_pos (q2.mpr h40), if_pos (q1.mpr h10)]; exact hw) | (rw [if_pos (q2.mpr h40), if_neg (fun z => h10 (q1.mp z))]; exact hw) | (rw [if_neg (fun z => h40 (q2.mp z)), if_pos (q1.mpr h10)]; exact hw) | (rw [if_neg (fun z => h40 (q2.mp z)), if_neg (fun z => h10 (q1.mp z))]; exact hw), hk⟩) (by omega) (by omega) d_bk_dropNumbersOutsideEdges_58
  · skip
    refine lv_aload_n hx hb d_bk_dropNumbersOutsideEdges_13 rfl (lv_at hl 0 rfl) ?_
    refine hm_get E (tB in_bk) hK hH (hw.at 0 rfl) rfl 6 (by decide) (tC wm_79) rfl d_bk_dropNumbersOutsideEdges_14 ?_
    refine lv_iconst (v := 0) hx hb d_bk_dropNumbersOutsideEdges_17 (by decide) ?_
    refine lv_iconst (v := 0) hx hb d_bk_dropNumbersOutsideEdges_18 (by decide) ?_
    have hM1 := c_rw_setNumber l G rr rsg rnm sz g 0 0 M (hw.sub (ws' := [(rr, .inr (1, [.ref rsg, .ref rnm, .int (nI sz)])), (rnm, aI G 66 g)]) [1, 3] rfl rfl) (by omega) H.size
    have hG1 : GoodIn w_bk_dropNumbersOutsideEdges (wsV R_bk 129 R_rw y_rw_setNumber w_rw_setNumber) := gB_V wm_164 wm_165 wm_166 wm_4 wm_167
    refine hm_call (va_runV (y := y_rw_setNumber) (bytes := b_rw_setNumber) (maxL := 3) (ws := w_rw_setNumber) (rm := { frames := 0, cells := 0, slots := 0, locals := 0 }) (own := R_bk) (index := 129) (ret := (Option.none : Option Jvm.ClassFile.FieldType)) (C := R_rw) (As := [.int 0, .int 0]) (rest := []) E hM1 (cwV (y := y_rw_setNumber) (bytes := b_rw_setNumber) (maxL := 3) (ws := w_rw_setNumber) (rm := { frames := 0, cells := 0, slots := 0, locals := 0 }) (own := R_bk) (index := 129) (ret := (Option.none : Option Jvm.ClassFile.FieldType)) (C := R_rw) 2 hts hG1 rfl rfl rfl (by decide +kernel) ⟨Nat.le_of_ble_eq_true rfl, Nat.le_of_ble_eq_true rfl⟩) (hm_preV gk_w gk_s hH hg hK (hw.at 1 rfl) rfl [.int 0, .int 0]) rfl rfl hl.1 rfl (lv_room (Nat.le_of_ble_eq_true rfl)) d_bk_dropNumbersOutsideEdges_19 ⟨(by show _ ≤ 0; omega), (by show _ ≤ 0; omega)⟩) hH (fun r1 M1 H1 locs1 hq1 hH1 => ?_)
    replace hH := hH1; clear hH1; generalize H1 = H at hH ⊢; generalize locs1 = locs at hH ⊢
    obtain ⟨rfl, hw1, hk1⟩ := hq1
    have hw := hm_join (ws' := [(x, .inr (3, [.ref d, .int (nI dn), .int (nI lf), .int (nI rt), .ref pt, .ref xt, .ref rr, .ref ar])), (rr, .inr (1, [.ref rsg, .ref rnm, .int (nI sz)])), (rsg, aI G 65 f), (rnm, aI G 66 (upd g 0 0))]) (wc := [(rr, .inr (1, [.ref rsg, .ref rnm, .int (nI sz)])), (rnm, aI G 66 g)]) hw hw1 hk1 [1, 3] rfl rfl (fun a h => by simp at h; simp [h]) rfl (by
      intro k9 h9
      match k9, h9 with
      | 0, _ => exact Or.inl ⟨by decide, rfl⟩
      | 1, _ => exact Or.inr ⟨0, rfl, rfl⟩
      | 2, _ => exact Or.inl ⟨by decide, rfl⟩
      | 3, _ => exact Or.inr ⟨1, rfl, rfl⟩
      | k9 + 4, h9 => exact absurd h9 (Nat.not_lt_of_le (Nat.le_add_left _ _)))
    have hk := hk.tr hk1 (fun _ h => h)
    generalize M1 = M at hH hw hk
    refine lv_aload_n hx hb d_bk_dropNumbersOutsideEdges_22 rfl (lv_at hl 0 rfl) ?_
    refine hm_get E (tB in_bk) hK hH (hw.at 0 rfl) rfl 6 (by decide) (tC wm_79) rfl d_bk_dropNumbersOutsideEdges_23 ?_
    refine lv_aload_n hx hb d_bk_dropNumbersOutsideEdges_26 rfl (lv_at hl 0 rfl) ?_
    refine hm_get E (tB in_bk) hK hH (hw.at 0 rfl) rfl 6 (by decide) (tC wm_79) rfl d_bk_dropNumbersOutsideEdges_27 ?_
    have hM1 := c_rw_size l G rr rsg rnm sz M (hw.sub (ws' := [(rr, .inr (1, [.ref rsg, .ref rnm, .int (nI sz)]))]) [1] rfl rfl) H.size
    have hG1 : GoodIn w_bk_dropNumbersOutsideEdges (wsV R_bk 126 R_rw y_rw_size w_rw_size) := gB_V wm_114 wm_115 wm_116 wm_4 wm_117
    refine hm_call (va_runV (y := y_rw_size) (bytes := b_rw_size) (maxL := 1) (ws := w_rw_size) (rm := { frames := 0, cells := 0, slots := 0, locals := 0 }) (own := R_bk) (index := 126) (ret := (Option.some Jvm.ClassFile.FieldType.int)) (C := R_rw) (As := []) (rest := [.ref rr]) E hM1 (cwV (y := y_rw_size) (bytes := b_rw_size) (maxL := 1) (ws := w_rw_size) (rm := { frames := 0, cells := 0, slots := 0, locals := 0 }) (own := R_bk) (index := 126) (ret := (Option.some Jvm.ClassFile.FieldType.int)) (C := R_rw) 0 hts hG1 rfl rfl rfl (by decide +kernel) ⟨Nat.le_of_ble_eq_true rfl, Nat.le_of_ble_eq_true rfl⟩) (hm_preV gk_w gk_s hH hg hK (hw.at 1 rfl) rfl []) rfl rfl hl.1 rfl (lv_room (Nat.le_of_ble_eq_true rfl)) d_bk_dropNumbersOutsideEdges_30 ⟨(by show _ ≤ 0; omega), (by show _ ≤ 0; omega)⟩) hH (fun r1 M1 H1 locs1 hq1 hH1 => ?_)
    obtain ⟨rfl, e1⟩ := hq1
    replace hH := hH1; rw [e1] at hH; clear hH1 e1; generalize H1 = H at hH ⊢; generalize locs1 = locs at hH ⊢
    refine lv_iconst (v := 1) hx hb d_bk_dropNumbersOutsideEdges_33 (by decide) ?_
    refine hn_isub hx hb (a := sz) (b := 1) (by omega) d_bk_dropNumbersOutsideEdges_34 ?_
    have hM1 := c_rw_signAt l G rr rsg rnm sz f (sz - 1) M (hw.sub (ws' := [(rr, .inr (1, [.ref rsg, .ref rnm, .int (nI sz)])), (rsg, aI G 65 f)]) [1, 2] rfl rfl) (by omega) (by omega) H.size
    have hG1 : GoodIn w_bk_dropNumbersOutsideEdges (wsV R_bk 145 R_rw y_rw_signAt w_rw_signAt) := gB_V wm_179 wm_180 wm_181 wm_4 wm_182
    refine hm_call (va_runV (y := y_rw_signAt) (bytes := b_rw_signAt) (maxL := 2) (ws := w_rw_signAt) (rm := { frames := 1, cells := 0, slots := 0, locals := 21 }) (own := R_bk) (index := 145) (ret := (Option.some Jvm.ClassFile.FieldType.int)) (C := R_rw) (As := [.int (nI (sz - 1))]) (rest := []) E hM1 (cwV (y := y_rw_signAt) (bytes := b_rw_signAt) (maxL := 2) (ws := w_rw_signAt) (rm := { frames := 1, cells := 0, slots := 0, locals := 21 }) (own := R_bk) (index := 145) (ret := (Option.some Jvm.ClassFile.FieldType.int)) (C := R_rw) 1 hts hG1 rfl rfl rfl (by decide +kernel) ⟨Nat.le_of_ble_eq_true rfl, Nat.le_of_ble_eq_true rfl⟩) (hm_preV gk_w gk_s hH hg hK (hw.at 1 rfl) rfl [.int (nI (sz - 1))]) rfl rfl hl.1 rfl (lv_room (Nat.le_of_ble_eq_true rfl)) d_bk_dropNumbersOutsideEdges_35 ⟨(by show _ ≤ 0; omega), (by show _ ≤ 0; omega)⟩) hH (fun r1 M1 H1 locs1 hq1 hH1 => ?_)
    obtain ⟨rfl, e1⟩ := hq1
    replace hH := hH1; rw [e1] at hH; clear hH1 e1; generalize H1 = H at hH ⊢; generalize locs1 = locs at hH ⊢
    refine hm_top (w := .int (f (sz - 1))) (by rw [if_pos (by omega)]) ?_
    refine lv_bipush (v := 46) hx hb d_bk_dropNumbersOutsideEdges_38 (by decide) ?_
    refine hc_icmp_ne (x := f (sz - 1)) (y := 46) (c9 := 46) hx hb (by decide) (tgt := 58) d_bk_dropNumbersOutsideEdges_40 (by decide) (fun h40 => ?_) (fun h40 => ?_)
    · skip
      have q1 : f 0 = 46 ↔ (f 0).toInt = 46 := eq46_iff
      have q2 : f (sz - 1) = 46 ↔ (f (sz - 1)).toInt = 46 := eq46_iff
      exact hm_vret E hr hlk hH (⟨rfl, by unfold drp; rw [if_neg (by omega)]; first | (rw [if_pos (q2.mpr h40), if_pos (q1.mpr h10)]; exact hw) | (rw [if_pos (q2.mpr h40), if_neg (fun z => h10 (q1.mp z))]; exact hw) | (rw [if_neg (fun z => h40 (q2.mp z)), if_pos (q1.mpr h10)]; exact hw) | (rw [if_neg (fun z => h40 (q2.mp z)), if_neg (fun z => h10 (q1.mp z))]; exact hw), hk⟩) (by omega) (by omega) d_bk_dropNumbersOutsideEdges_58
    · skip
      refine lv_aload_n hx hb d_bk_dropNumbersOutsideEdges_43 rfl (lv_at hl 0 rfl) ?_
      refine hm_get E (tB in_bk) hK hH (hw.at 0 rfl) rfl 6 (by decide) (tC wm_79) rfl d_bk_dropNumbersOutsideEdges_44 ?_
      refine lv_aload_n hx hb d_bk_dropNumbersOutsideEdges_47 rfl (lv_at hl 0 rfl) ?_
      refine hm_get E (tB in_bk) hK hH (hw.at 0 rfl) rfl 6 (by decide) (tC wm_79) rfl d_bk_dropNumbersOutsideEdges_48 ?_
      have hM1 := c_rw_size l G rr rsg rnm sz M (hw.sub (ws' := [(rr, .inr (1, [.ref rsg, .ref rnm, .int (nI sz)]))]) [1] rfl rfl) H.size
      have hG1 : GoodIn w_bk_dropNumbersOutsideEdges (wsV R_bk 126 R_rw y_rw_size w_rw_size) := gB_V wm_114 wm_115 wm_116 wm_4 wm_117
      refine hm_call (va_runV (y := y_rw_size) (bytes := b_rw_size) (maxL := 1) (ws := w_rw_size) (rm := { frames := 0, cells := 0, slots := 0, locals := 0 }) (own := R_bk) (index := 126) (ret := (Option.some Jvm.ClassFile.FieldType.int)) (C := R_rw) (As := []) (rest := [.ref rr]) E hM1 (cwV (y := y_rw_size) (bytes := b_rw_size) (maxL := 1) (ws := w_rw_size) (rm := { frames := 0, cells := 0, slots := 0, locals := 0 }) (own := R_bk) (index := 126) (ret := (Option.some Jvm.ClassFile.FieldType.int)) (C := R_rw) 0 hts hG1 rfl rfl rfl (by decide +kernel) ⟨Nat.le_of_ble_eq_true rfl, Nat.le_of_ble_eq_true rfl⟩) (hm_preV gk_w gk_s hH hg hK (hw.at 1 rfl) rfl []) rfl rfl hl.1 rfl (lv_room (Nat.le_of_ble_eq_true rfl)) d_bk_dropNumbersOutsideEdges_51 ⟨(by show _ ≤ 0; omega), (by show _ ≤ 0; omega)⟩) hH (fun r1 M1 H1 locs1 hq1 hH1 => ?_)
      obtain ⟨rfl, e1⟩ := hq1
      replace hH := hH1; rw [e1] at hH; clear hH1 e1; generalize H1 = H at hH ⊢; generalize locs1 = locs at hH ⊢
      refine lv_iconst (v := 0) hx hb d_bk_dropNumbersOutsideEdges_54 (by decide) ?_
      have hM1 := c_rw_setNumber l G rr rsg rnm sz (upd g 0 0) sz 0 M (hw.sub (ws' := [(rr, .inr (1, [.ref rsg, .ref rnm, .int (nI sz)])), (rnm, aI G 66 (upd g 0 0))]) [1, 3] rfl rfl) (by omega) H.size
      have hG1 : GoodIn w_bk_dropNumbersOutsideEdges (wsV R_bk 129 R_rw y_rw_setNumber w_rw_setNumber) := gB_V wm_164 wm_165 wm_166 wm_4 wm_167
      refine hm_call (va_runV (y := y_rw_setNumber) (bytes := b_rw_setNumber) (maxL := 3) (ws := w_rw_setNumber) (rm := { frames := 0, cells := 0, slots := 0, locals := 0 }) (own := R_bk) (index := 129) (ret := (Option.none : Option Jvm.ClassFile.FieldType)) (C := R_rw) (As := [.int (nI sz), .int 0]) (rest := []) E hM1 (cwV (y := y_rw_setNumber) (bytes := b_rw_setNumber) (maxL := 3) (ws := w_rw_setNumber) (rm := { frames := 0, cells := 0, slots := 0, locals := 0 }) (own := R_bk) (index := 129) (ret := (Option.none : Option Jvm.ClassFile.FieldType)) (C := R_rw) 2 hts hG1 rfl rfl rfl (by decide +kernel) ⟨Nat.le_of_ble_eq_true rfl, Nat.le_of_ble_eq_true rfl⟩) (hm_preV gk_w gk_s hH hg hK (hw.at 1 rfl) rfl [.int (nI sz), .int 0]) rfl rfl hl.1 rfl (lv_room (Nat.le_of_ble_eq_true rfl)) d_bk_dropNumbersOutsideEdges_55 ⟨(by show _ ≤ 0; omega), (by show _ ≤ 0; omega)⟩) hH (fun r1 M1 H1 locs1 hq1 hH1 => ?_)
      replace hH := hH1; clear hH1; generalize H1 = H at hH ⊢; generalize locs1 = locs at hH ⊢
      obtain ⟨rfl, hw1, hk1⟩ := hq1
      have hw := hm_join (ws' := [(x, .inr (3, [.ref d, .int (nI dn), .int (nI lf), .int (nI rt), .ref pt, .ref xt, .ref rr, .ref ar])), (rr, .inr (1, [.ref rsg, .ref rnm, .int (nI sz)])), (rsg, aI G 65 f), (rnm, aI G 66 (upd (upd g 0 0) sz 0))]) (wc := [(rr, .inr (1, [.ref rsg, .ref rnm, .int (nI sz)])), (rnm, aI G 66 (upd g 0 0))]) hw hw1 hk1 [1, 3] rfl rfl (fun a h => by simp at h; simp [h]) rfl (by
        intro k9 h9
        match k9, h9 with
        | 0, _ => exact Or.inl ⟨by decide, rfl⟩
        | 1, _ => exact Or.inr ⟨0, rfl, rfl⟩
        | 2, _ => exact Or.inl ⟨by decide, rfl⟩
        | 3, _ => exact Or.inr ⟨1, rfl, rfl⟩
        | k9 + 4, h9 => exact absurd h9 (Nat.not_lt_of_le (Nat.le_add_left _ _)))
      have hk := hk.tr hk1 (fun _ h => h)
      generalize M1 = M at hH hw hk
      have q1 : f 0 = 46 ↔ (f 0).toInt = 46 := eq46_iff
      have q2 : f (sz - 1) = 46 ↔ (f (sz - 1)).toInt = 46 := eq46_iff
      exact hm_vret E hr hlk hH (⟨rfl, by unfold drp; rw [if_neg (by omega)]; first | (rw [if_pos (q2.mpr h40), if_pos (q1.mpr h10)]; exact hw) | (rw [if_pos (q2.mpr h40), if_neg (fun z => h10 (q1.mp z))]; exact hw) | (rw [if_neg (fun z => h40 (q2.mp z)), if_pos (q1.mpr h10)]; exact hw) | (rw [if_neg (fun z => h40 (q2.mp z)), if_neg (fun z => h10 (q1.mp z))]; exact hw), hk⟩) (by omega) (by omega) d_bk_dropNumbersOutsideEdges_58

abbrev q_bk_drop0 (G : hG) (x d dn lf rt pt xt rr ar : Nat) (rsg rnm sz : Nat) (f g : Nat → Int32) (M : hM) : Option Value → hM → Prop := fun rv M' => rv = none ∧ hm_has M' [(x, .inr (3, [.ref d, .int (nI dn), .int (nI lf), .int (nI rt), .ref pt, .ref xt, .ref rr, .ref ar])), (rr, .inr (1, [.ref rsg, .ref rnm, .int (nI sz)])), (rsg, aI G 65 f), (rnm, aI G 66 (drp f sz g))] ∧ hm_kp (fun a => a ∈ [rnm]) M M'
set_option maxHeartbeats 4000000 in
set_option maxRecDepth 100000 in
theorem c_bk_drop0 (l : Launch) (G : hG) (x d dn lf rt pt xt rr ar : Nat) (rsg rnm sz : Nat) (f g : Nat → Int32) (M : hM) (hw : hm_has M [(x, .inr (3, [.ref d, .int (nI dn), .int (nI lf), .int (nI rt), .ref pt, .ref xt, .ref rr, .ref ar])), (rr, .inr (1, [.ref rsg, .ref rnm, .int (nI sz)])), (rsg, aI G 65 f), (rnm, aI G 66 g)]) (hs0 : sz = 0) : Ct (gk G) l G.1 vwC y_bk_dropNumbersOutsideEdges w_bk_dropNumbersOutsideEdges { frames := 2, cells := 0, slots := 0, locals := 42 } ([.ref x] : List Value) M (q_bk_drop0 G x d dn lf rt pt xt rr ar rsg rnm sz f g M) 0 0 := by
  refine Ct.ofW (cc := b_bk_dropNumbersOutsideEdges) (maxL := 1) (ret := (Option.none : Option Jvm.ClassFile.FieldType)) (by decide) rfl (Nat.le_of_ble_eq_true rfl) (fun p e s m below meth c A ls E hr hlk hin hg hH hl => ?_)
  have hl : lv_has ls 1 [(0, .ref x)] := hl
  have hx := E.1; have hb := E.2.1; have hml := E.2.2.1; have hown := E.2.2.2.1; have hts := E.2.2.2.2; have hK := hg.1
  obtain ⟨M0, hM0⟩ : ∃ M0 : hM, M0 = M := ⟨M, rfl⟩
  rw [show q_bk_drop0 G x d dn lf rt pt xt rr ar rsg rnm sz f g M = q_bk_drop0 G x d dn lf rt pt xt rr ar rsg rnm sz f g M0 by rw [hM0]]
  have hk : hm_kp (fun a => a ∈ [rnm]) M0 M := by rw [hM0]; exact hm_kp.rf
  refine lv_aload_n hx hb d_bk_dropNumbersOutsideEdges_0 rfl (lv_at hl 0 rfl) ?_
  refine hm_get E (tB in_bk) hK hH (hw.at 0 rfl) rfl 6 (by decide) (tC wm_79) rfl d_bk_dropNumbersOutsideEdges_1 ?_
  refine lv_iconst (v := 0) hx hb d_bk_dropNumbersOutsideEdges_4 (by decide) ?_
  have hM1 := c_rw_signAt l G rr rsg rnm sz f 0 M (hw.sub (ws' := [(rr, .inr (1, [.ref rsg, .ref rnm, .int (nI sz)])), (rsg, aI G 65 f)]) [1, 2] rfl rfl) (by omega) (by omega) s.heap.size
  have hG1 : GoodIn w_bk_dropNumbersOutsideEdges (wsV R_bk 145 R_rw y_rw_signAt w_rw_signAt) := gB_V wm_179 wm_180 wm_181 wm_4 wm_182
  refine hm_call (va_runV (y := y_rw_signAt) (bytes := b_rw_signAt) (maxL := 2) (ws := w_rw_signAt) (rm := { frames := 1, cells := 0, slots := 0, locals := 21 }) (own := R_bk) (index := 145) (ret := (Option.some Jvm.ClassFile.FieldType.int)) (C := R_rw) (As := [.int 0]) (rest := []) E hM1 (cwV (y := y_rw_signAt) (bytes := b_rw_signAt) (maxL := 2) (ws := w_rw_signAt) (rm := { frames := 1, cells := 0, slots := 0, locals := 21 }) (own := R_bk) (index := 145) (ret := (Option.some Jvm.ClassFile.FieldType.int)) (C := R_rw) 1 hts hG1 rfl rfl rfl (by decide +kernel) ⟨Nat.le_of_ble_eq_true rfl, Nat.le_of_ble_eq_true rfl⟩) (hm_preV gk_w gk_s hH hg hK (hw.at 1 rfl) rfl [.int 0]) rfl rfl hl.1 rfl (lv_room (Nat.le_of_ble_eq_true rfl)) d_bk_dropNumbersOutsideEdges_5 ⟨(by show _ ≤ 0; omega), (by show _ ≤ 0; omega)⟩) hH (fun r1 M1 H1 locs1 hq1 hH1 => ?_)
  obtain ⟨rfl, e1⟩ := hq1
  replace hH := hH1; rw [e1] at hH; clear hH1 e1; generalize H1 = H at hH ⊢; generalize locs1 = locs at hH ⊢
  refine hm_top (w := .int 0) (by rw [if_neg (by omega)]) ?_
  refine lv_bipush (v := 46) hx hb d_bk_dropNumbersOutsideEdges_8 (by decide) ?_
  refine hc_icmp_ne (x := 0) (y := 46) (c9 := 46) hx hb (by decide) (tgt := 22) d_bk_dropNumbersOutsideEdges_10 (by decide) (fun h10 => ?_) (fun h10 => ?_)
  · skip
    refine lv_aload_n hx hb d_bk_dropNumbersOutsideEdges_22 rfl (lv_at hl 0 rfl) ?_
    refine hm_get E (tB in_bk) hK hH (hw.at 0 rfl) rfl 6 (by decide) (tC wm_79) rfl d_bk_dropNumbersOutsideEdges_23 ?_
    refine lv_aload_n hx hb d_bk_dropNumbersOutsideEdges_26 rfl (lv_at hl 0 rfl) ?_
    refine hm_get E (tB in_bk) hK hH (hw.at 0 rfl) rfl 6 (by decide) (tC wm_79) rfl d_bk_dropNumbersOutsideEdges_27 ?_
    have hM1 := c_rw_size l G rr rsg rnm sz M (hw.sub (ws' := [(rr, .inr (1, [.ref rsg, .ref rnm, .int (nI sz)]))]) [1] rfl rfl) H.size
    have hG1 : GoodIn w_bk_dropNumbersOutsideEdges (wsV R_bk 126 R_rw y_rw_size w_rw_size) := gB_V wm_114 wm_115 wm_116 wm_4 wm_117
    refine hm_call (va_runV (y := y_rw_size) (bytes := b_rw_size) (maxL := 1) (ws := w_rw_size) (rm := { frames := 0, cells := 0, slots := 0, locals := 0 }) (own := R_bk) (index := 126) (ret := (Option.some Jvm.ClassFile.FieldType.int)) (C := R_rw) (As := []) (rest := [.ref rr]) E hM1 (cwV (y := y_rw_size) (bytes := b_rw_size) (maxL := 1) (ws := w_rw_size) (rm := { frames := 0, cells := 0, slots := 0, locals := 0 }) (own := R_bk) (index := 126) (ret := (Option.some Jvm.ClassFile.FieldType.int)) (C := R_rw) 0 hts hG1 rfl rfl rfl (by decide +kernel) ⟨Nat.le_of_ble_eq_true rfl, Nat.le_of_ble_eq_true rfl⟩) (hm_preV gk_w gk_s hH hg hK (hw.at 1 rfl) rfl []) rfl rfl hl.1 rfl (lv_room (Nat.le_of_ble_eq_true rfl)) d_bk_dropNumbersOutsideEdges_30 ⟨(by show _ ≤ 0; omega), (by show _ ≤ 0; omega)⟩) hH (fun r1 M1 H1 locs1 hq1 hH1 => ?_)
    obtain ⟨rfl, e1⟩ := hq1
    replace hH := hH1; rw [e1] at hH; clear hH1 e1; generalize H1 = H at hH ⊢; generalize locs1 = locs at hH ⊢
    refine lv_iconst (v := 1) hx hb d_bk_dropNumbersOutsideEdges_33 (by decide) ?_
    refine lv_isub hx hb d_bk_dropNumbersOutsideEdges_34 ?_
    refine hm_top (w := .int (-1)) (by rw [hs0]; decide) ?_
    have hM1 := c_rw_signAtN l G rr rsg rnm sz f (-1) M (hw.sub (ws' := [(rr, .inr (1, [.ref rsg, .ref rnm, .int (nI sz)])), (rsg, aI G 65 f)]) [1, 2] rfl rfl) (by omega) (by decide) H.size
    have hG1 : GoodIn w_bk_dropNumbersOutsideEdges (wsV R_bk 145 R_rw y_rw_signAt w_rw_signAt) := gB_V wm_179 wm_180 wm_181 wm_4 wm_182
    refine hm_call (va_runV (y := y_rw_signAt) (bytes := b_rw_signAt) (maxL := 2) (ws := w_rw_signAt) (rm := { frames := 1, cells := 0, slots := 0, locals := 21 }) (own := R_bk) (index := 145) (ret := (Option.some Jvm.ClassFile.FieldType.int)) (C := R_rw) (As := [.int (-1)]) (rest := []) E hM1 (cwV (y := y_rw_signAt) (bytes := b_rw_signAt) (maxL := 2) (ws := w_rw_signAt) (rm := { frames := 1, cells := 0, slots := 0, locals := 21 }) (own := R_bk) (index := 145) (ret := (Option.some Jvm.ClassFile.FieldType.int)) (C := R_rw) 1 hts hG1 rfl rfl rfl (by decide +kernel) ⟨Nat.le_of_ble_eq_true rfl, Nat.le_of_ble_eq_true rfl⟩) (hm_preV gk_w gk_s hH hg hK (hw.at 1 rfl) rfl [.int (-1)]) rfl rfl hl.1 rfl (lv_room (Nat.le_of_ble_eq_true rfl)) d_bk_dropNumbersOutsideEdges_35 ⟨(by show _ ≤ 0; omega), (by show _ ≤ 0; omega)⟩) hH (fun r1 M1 H1 locs1 hq1 hH1 => ?_)
    obtain ⟨rfl, e1⟩ := hq1
    replace hH := hH1; rw [e1] at hH; clear hH1 e1; generalize H1 = H at hH ⊢; generalize locs1 = locs at hH ⊢
    refine lv_bipush (v := 46) hx hb d_bk_dropNumbersOutsideEdges_38 (by decide) ?_
    refine hc_icmp_ne (x := 0) (y := 46) (c9 := 46) hx hb (by decide) (tgt := 58) d_bk_dropNumbersOutsideEdges_40 (by decide) (fun h40 => ?_) (fun h40 => ?_)
    · skip
      exact hm_vret E hr hlk hH (⟨rfl, by unfold drp; rw [if_pos hs0]; exact hw, hk⟩) (by omega) (by omega) d_bk_dropNumbersOutsideEdges_58
    · skip
      rw [k_0] at h40; omega
  · skip
    rw [k_0] at h10; omega

theorem c_bk_drop (l : Launch) (G : hG) (x d dn lf rt pt xt rr ar : Nat) (rsg rnm sz : Nat) (f g : Nat → Int32) (M : hM) (hw : hm_has M [(x, .inr (3, [.ref d, .int (nI dn), .int (nI lf), .int (nI rt), .ref pt, .ref xt, .ref rr, .ref ar])), (rr, .inr (1, [.ref rsg, .ref rnm, .int (nI sz)])), (rsg, aI G 65 f), (rnm, aI G 66 g)]) (hsz : sz ≤ 65) : Ct (gk G) l G.1 vwC y_bk_dropNumbersOutsideEdges w_bk_dropNumbersOutsideEdges { frames := 2, cells := 0, slots := 0, locals := 42 } ([.ref x] : List Value) M (q_bk_drop1 G x d dn lf rt pt xt rr ar rsg rnm sz f g M) 0 0 := by
  rcases Nat.eq_zero_or_pos sz with h | h
  · exact c_bk_drop0 l G x d dn lf rt pt xt rr ar rsg rnm sz f g M hw h
  · exact c_bk_drop1 l G x d dn lf rt pt xt rr ar rsg rnm sz f g M hw hsz h

abbrev q_bk_signsReadMakeAPattern (G : hG) (x d dn lf rt pt xt rr ar : Nat) (rsg rnm sz : Nat) (f : Nat → Int32) (M : hM) : Option Value → hM → Prop := fun rv M' => ∃ b : Bool, rv = some (.int (bI b)) ∧ (b = true ↔ (∀ j, j < sz → f j = 46 → j = 0 ∨ j + 1 = sz) ∧ 1 ≤ sgl f sz ∧ sgl f sz ≤ 63) ∧ M' = M
set_option maxHeartbeats 4000000 in
set_option maxRecDepth 100000 in
theorem c_bk_signsReadMakeAPattern (l : Launch) (G : hG) (x d dn lf rt pt xt rr ar : Nat) (rsg rnm sz : Nat) (f : Nat → Int32) (M : hM) (hw : hm_has M [(x, .inr (3, [.ref d, .int (nI dn), .int (nI lf), .int (nI rt), .ref pt, .ref xt, .ref rr, .ref ar])), (rr, .inr (1, [.ref rsg, .ref rnm, .int (nI sz)])), (rsg, aI G 65 f)]) (hsz : sz ≤ 65) : Ct (gk G) l G.1 vwC y_bk_signsReadMakeAPattern w_bk_signsReadMakeAPattern { frames := 2, cells := 0, slots := 0, locals := 42 } ([.ref x] : List Value) M (q_bk_signsReadMakeAPattern G x d dn lf rt pt xt rr ar rsg rnm sz f M) 0 0 := by
  refine Ct.ofW (cc := b_bk_signsReadMakeAPattern) (maxL := 3) (ret := (Option.some Jvm.ClassFile.FieldType.boolean)) (by decide) rfl (Nat.le_of_ble_eq_true rfl) (fun p e s m below meth c A ls E hr hlk hin hg hH hl => ?_)
  have hl : lv_has ls 3 [(0, .ref x)] := hl
  have hx := E.1; have hb := E.2.1; have hml := E.2.2.1; have hown := E.2.2.2.1; have hts := E.2.2.2.2; have hK := hg.1
  obtain ⟨M0, hM0⟩ : ∃ M0 : hM, M0 = M := ⟨M, rfl⟩
  rw [show q_bk_signsReadMakeAPattern G x d dn lf rt pt xt rr ar rsg rnm sz f M = q_bk_signsReadMakeAPattern G x d dn lf rt pt xt rr ar rsg rnm sz f M0 by rw [hM0]]
  have L4 : ∀ (k : Nat) (i : Nat) (H : Heap) (locs : List Loc) (ls : Array Slot), sz + 1 ≤ i + k → i ≤ sz → (∀ j, j < i → f j = 46 → j = 0 ∨ j + 1 = sz) → hm_I G.1 vwC A s.heap M H locs → lv_has ls 3 [(2, .int (nI i)), (1, .int (nI (sgl f i))), (0, .ref x)] → W p l e { frames := 2, cells := 0, slots := 0, locals := 42 } s m ([.ref x] : List Value).toArray below meth c H locs 0 0 (MQ below (hm_Q G.1 vwC (q_bk_signsReadMakeAPattern G x d dn lf rt pt xt rr ar rsg rnm sz f M0) A) ([.ref x] : List Value).toArray s 0 0 A) (F0 m 4 ls []) := by
    intro k
    induction k with
    | zero => intro i H locs ls hfu hi hed; exact absurd hfu (by omega)
    | succ k ih =>
      intro i H locs ls hfu hi hed hH hl
      refine lv_iload_n hx hb d_bk_signsReadMakeAPattern_4 rfl (lv_at hl 0 rfl) ?_
      refine lv_aload_n hx hb d_bk_signsReadMakeAPattern_5 rfl (lv_at hl 2 rfl) ?_
      refine hm_get E (tB in_bk) hK hH (hw.at 0 rfl) rfl 6 (by decide) (tC wm_79) rfl d_bk_signsReadMakeAPattern_6 ?_
      have hM1 := c_rw_size l G rr rsg rnm sz M (hw.sub (ws' := [(rr, .inr (1, [.ref rsg, .ref rnm, .int (nI sz)]))]) [1] rfl rfl) H.size
      have hG1 : GoodIn w_bk_signsReadMakeAPattern (wsV R_bk 126 R_rw y_rw_size w_rw_size) := gB_V wm_114 wm_115 wm_116 wm_4 wm_117
      refine hm_call (va_runV (y := y_rw_size) (bytes := b_rw_size) (maxL := 1) (ws := w_rw_size) (rm := { frames := 0, cells := 0, slots := 0, locals := 0 }) (own := R_bk) (index := 126) (ret := (Option.some Jvm.ClassFile.FieldType.int)) (C := R_rw) (As := []) (rest := [.int (nI i)]) E hM1 (cwV (y := y_rw_size) (bytes := b_rw_size) (maxL := 1) (ws := w_rw_size) (rm := { frames := 0, cells := 0, slots := 0, locals := 0 }) (own := R_bk) (index := 126) (ret := (Option.some Jvm.ClassFile.FieldType.int)) (C := R_rw) 0 hts hG1 rfl rfl rfl (by decide +kernel) ⟨Nat.le_of_ble_eq_true rfl, Nat.le_of_ble_eq_true rfl⟩) (hm_preV gk_w gk_s hH hg hK (hw.at 1 rfl) rfl []) rfl rfl hl.1 rfl (lv_room (Nat.le_of_ble_eq_true rfl)) d_bk_signsReadMakeAPattern_9 ⟨(by show _ ≤ 0; omega), (by show _ ≤ 0; omega)⟩) hH (fun r1 M1 H1 locs1 hq1 hH1 => ?_)
      obtain ⟨rfl, e1⟩ := hq1
      replace hH := hH1; rw [e1] at hH; clear hH1 e1; generalize H1 = H at hH ⊢; generalize locs1 = locs at hH ⊢
      refine hn_icmp_ge (a := i) (b := sz) hx hb (by omega) (by omega) (tgt := 59) d_bk_signsReadMakeAPattern_12 (by decide) (fun h12 => ?_) (fun h12 => ?_)
      · skip
        have hle := sgl_le f i
        have hie : i = sz := by omega
        refine lv_iload_n hx hb d_bk_signsReadMakeAPattern_59 rfl (lv_at hl 1 rfl) ?_
        refine lv_iconst (v := 1) hx hb d_bk_signsReadMakeAPattern_60 (by decide) ?_
        refine hn_icmp_lt (a := sgl f i) (b := 1) hx hb (by omega) (by omega) (tgt := 74) d_bk_signsReadMakeAPattern_61 (by decide) (fun h61 => ?_) (fun h61 => ?_)
        · skip
          refine lv_iconst (v := 0) hx hb d_bk_signsReadMakeAPattern_74 (by decide) ?_
          rw [hie] at h61 hed
          try rw [hie] at h67
          exact hm_zret E hr hlk hH (by decide) (by first | exact ⟨true, rfl, ⟨fun _ => ⟨hed, by omega, by omega⟩, fun _ => rfl⟩, hM0.symm⟩ | exact ⟨false, rfl, ⟨fun z => (by cases z), fun z => (by omega)⟩, hM0.symm⟩) (by omega) (by omega) d_bk_signsReadMakeAPattern_75
        · skip
          refine lv_iload_n hx hb d_bk_signsReadMakeAPattern_64 rfl (lv_at hl 1 rfl) ?_
          refine lv_bipush (v := 63) hx hb d_bk_signsReadMakeAPattern_65 (by decide) ?_
          refine hn_icmp_gt (a := sgl f i) (b := 63) hx hb (by omega) (by omega) (tgt := 74) d_bk_signsReadMakeAPattern_67 (by decide) (fun h67 => ?_) (fun h67 => ?_)
          · skip
            refine lv_iconst (v := 0) hx hb d_bk_signsReadMakeAPattern_74 (by decide) ?_
            rw [hie] at h61 hed
            try rw [hie] at h67
            exact hm_zret E hr hlk hH (by decide) (by first | exact ⟨true, rfl, ⟨fun _ => ⟨hed, by omega, by omega⟩, fun _ => rfl⟩, hM0.symm⟩ | exact ⟨false, rfl, ⟨fun z => (by cases z), fun z => (by omega)⟩, hM0.symm⟩) (by omega) (by omega) d_bk_signsReadMakeAPattern_75
          · skip
            refine lv_iconst (v := 1) hx hb d_bk_signsReadMakeAPattern_70 (by decide) ?_
            refine lv_goto (tgt := 75) hx hb d_bk_signsReadMakeAPattern_71 (by decide) ?_
            rw [hie] at h61 hed
            try rw [hie] at h67
            exact hm_zret E hr hlk hH (by decide) (by first | exact ⟨true, rfl, ⟨fun _ => ⟨hed, by omega, by omega⟩, fun _ => rfl⟩, hM0.symm⟩ | exact ⟨false, rfl, ⟨fun z => (by cases z), fun z => (by omega)⟩, hM0.symm⟩) (by omega) (by omega) d_bk_signsReadMakeAPattern_75
      · skip
        refine lv_aload_n hx hb d_bk_signsReadMakeAPattern_15 rfl (lv_at hl 2 rfl) ?_
        refine hm_get E (tB in_bk) hK hH (hw.at 0 rfl) rfl 6 (by decide) (tC wm_79) rfl d_bk_signsReadMakeAPattern_16 ?_
        refine lv_iload_n hx hb d_bk_signsReadMakeAPattern_19 rfl (lv_at hl 0 rfl) ?_
        have hM1 := c_rw_signAt l G rr rsg rnm sz f i M (hw.sub (ws' := [(rr, .inr (1, [.ref rsg, .ref rnm, .int (nI sz)])), (rsg, aI G 65 f)]) [1, 2] rfl rfl) (by omega) (by omega) H.size
        have hG1 : GoodIn w_bk_signsReadMakeAPattern (wsV R_bk 145 R_rw y_rw_signAt w_rw_signAt) := gB_V wm_179 wm_180 wm_181 wm_4 wm_182
        refine hm_call (va_runV (y := y_rw_signAt) (bytes := b_rw_signAt) (maxL := 2) (ws := w_rw_signAt) (rm := { frames := 1, cells := 0, slots := 0, locals := 21 }) (own := R_bk) (index := 145) (ret := (Option.some Jvm.ClassFile.FieldType.int)) (C := R_rw) (As := [.int (nI i)]) (rest := []) E hM1 (cwV (y := y_rw_signAt) (bytes := b_rw_signAt) (maxL := 2) (ws := w_rw_signAt) (rm := { frames := 1, cells := 0, slots := 0, locals := 21 }) (own := R_bk) (index := 145) (ret := (Option.some Jvm.ClassFile.FieldType.int)) (C := R_rw) 1 hts hG1 rfl rfl rfl (by decide +kernel) ⟨Nat.le_of_ble_eq_true rfl, Nat.le_of_ble_eq_true rfl⟩) (hm_preV gk_w gk_s hH hg hK (hw.at 1 rfl) rfl [.int (nI i)]) rfl rfl hl.1 rfl (lv_room (Nat.le_of_ble_eq_true rfl)) d_bk_signsReadMakeAPattern_20 ⟨(by show _ ≤ 0; omega), (by show _ ≤ 0; omega)⟩) hH (fun r1 M1 H1 locs1 hq1 hH1 => ?_)
        obtain ⟨rfl, e1⟩ := hq1
        replace hH := hH1; rw [e1] at hH; clear hH1 e1; generalize H1 = H at hH ⊢; generalize locs1 = locs at hH ⊢
        refine hm_top (w := .int (f i)) (by rw [if_pos (by omega)]) ?_
        refine lv_bipush (v := 46) hx hb d_bk_signsReadMakeAPattern_23 (by decide) ?_
        refine hc_icmp_eq (x := f i) (y := 46) (c9 := 46) hx hb (by decide) (tgt := 34) d_bk_signsReadMakeAPattern_25 (by decide) (fun h25 => ?_) (fun h25 => ?_)
        · skip
          refine lv_iload_n hx hb d_bk_signsReadMakeAPattern_34 rfl (lv_at hl 0 rfl) ?_
          refine hn_if_eq (a := i) hx hb (by omega) (tgt := 53) d_bk_signsReadMakeAPattern_35 (by decide) (fun h35 => ?_) (fun h35 => ?_)
          · skip
            refine lv_iinc (v := nI (i + 1)) (lv' := [(2, .int (nI (i + 1))), (1, .int (nI (sgl f i))), (0, .ref x)]) hx hb d_bk_signsReadMakeAPattern_53 hl (k := 0) rfl (by first | exact nI_add _ 1 | (show nI _ + nI _ = _; rw [nI_add])) (by decide) rfl (fun ls hl => ?_)
            refine lv_goto (tgt := 4) hx hb d_bk_signsReadMakeAPattern_56 (by decide) ?_
            exact ih (i + 1) _ _ _ (by omega) (by omega) (lt_46y hed (by omega)) hH (lv_sub (sgl_hl hl (sgl_y (eq46_iff.mpr h25))) [0, 1, 2] rfl)
          · skip
            refine lv_iload_n hx hb d_bk_signsReadMakeAPattern_38 rfl (lv_at hl 0 rfl) ?_
            refine lv_aload_n hx hb d_bk_signsReadMakeAPattern_39 rfl (lv_at hl 2 rfl) ?_
            refine hm_get E (tB in_bk) hK hH (hw.at 0 rfl) rfl 6 (by decide) (tC wm_79) rfl d_bk_signsReadMakeAPattern_40 ?_
            have hM1 := c_rw_size l G rr rsg rnm sz M (hw.sub (ws' := [(rr, .inr (1, [.ref rsg, .ref rnm, .int (nI sz)]))]) [1] rfl rfl) H.size
            have hG1 : GoodIn w_bk_signsReadMakeAPattern (wsV R_bk 126 R_rw y_rw_size w_rw_size) := gB_V wm_114 wm_115 wm_116 wm_4 wm_117
            refine hm_call (va_runV (y := y_rw_size) (bytes := b_rw_size) (maxL := 1) (ws := w_rw_size) (rm := { frames := 0, cells := 0, slots := 0, locals := 0 }) (own := R_bk) (index := 126) (ret := (Option.some Jvm.ClassFile.FieldType.int)) (C := R_rw) (As := []) (rest := [.int (nI i)]) E hM1 (cwV (y := y_rw_size) (bytes := b_rw_size) (maxL := 1) (ws := w_rw_size) (rm := { frames := 0, cells := 0, slots := 0, locals := 0 }) (own := R_bk) (index := 126) (ret := (Option.some Jvm.ClassFile.FieldType.int)) (C := R_rw) 0 hts hG1 rfl rfl rfl (by decide +kernel) ⟨Nat.le_of_ble_eq_true rfl, Nat.le_of_ble_eq_true rfl⟩) (hm_preV gk_w gk_s hH hg hK (hw.at 1 rfl) rfl []) rfl rfl hl.1 rfl (lv_room (Nat.le_of_ble_eq_true rfl)) d_bk_signsReadMakeAPattern_43 ⟨(by show _ ≤ 0; omega), (by show _ ≤ 0; omega)⟩) hH (fun r1 M1 H1 locs1 hq1 hH1 => ?_)
            obtain ⟨rfl, e1⟩ := hq1
            replace hH := hH1; rw [e1] at hH; clear hH1 e1; generalize H1 = H at hH ⊢; generalize locs1 = locs at hH ⊢
            refine lv_iconst (v := 1) hx hb d_bk_signsReadMakeAPattern_46 (by decide) ?_
            refine hn_isub hx hb (a := sz) (b := 1) (by omega) d_bk_signsReadMakeAPattern_47 ?_
            refine hn_icmp_eq (a := i) (b := sz - 1) hx hb (by omega) (by omega) (tgt := 53) d_bk_signsReadMakeAPattern_48 (by decide) (fun h48 => ?_) (fun h48 => ?_)
            · skip
              refine lv_iinc (v := nI (i + 1)) (lv' := [(2, .int (nI (i + 1))), (1, .int (nI (sgl f i))), (0, .ref x)]) hx hb d_bk_signsReadMakeAPattern_53 hl (k := 0) rfl (by first | exact nI_add _ 1 | (show nI _ + nI _ = _; rw [nI_add])) (by decide) rfl (fun ls hl => ?_)
              refine lv_goto (tgt := 4) hx hb d_bk_signsReadMakeAPattern_56 (by decide) ?_
              exact ih (i + 1) _ _ _ (by omega) (by omega) (lt_46y hed (by omega)) hH (lv_sub (sgl_hl hl (sgl_y (eq46_iff.mpr h25))) [0, 1, 2] rfl)
            · skip
              refine lv_iconst (v := 0) hx hb d_bk_signsReadMakeAPattern_51 (by decide) ?_
              exact hm_zret E hr hlk hH (by decide) (⟨false, rfl, ⟨fun z => (by cases z), fun z => absurd (z.1 i (by omega) (eq46_iff.mpr h25)) (by omega)⟩, hM0.symm⟩) (by omega) (by omega) d_bk_signsReadMakeAPattern_52
        · skip
          refine lv_iinc (v := nI (sgl f i + 1)) (lv' := [(1, .int (nI (sgl f i + 1))), (2, .int (nI i)), (0, .ref x)]) hx hb d_bk_signsReadMakeAPattern_28 hl (k := 1) rfl (by first | exact nI_add _ 1 | (show nI _ + nI _ = _; rw [nI_add])) (by decide) rfl (fun ls hl => ?_)
          refine lv_goto (tgt := 53) hx hb d_bk_signsReadMakeAPattern_31 (by decide) ?_
          refine lv_iinc (v := nI (i + 1)) (lv' := [(2, .int (nI (i + 1))), (1, .int (nI (sgl f i + 1))), (0, .ref x)]) hx hb d_bk_signsReadMakeAPattern_53 hl (k := 1) rfl (by first | exact nI_add _ 1 | (show nI _ + nI _ = _; rw [nI_add])) (by decide) rfl (fun ls hl => ?_)
          refine lv_goto (tgt := 4) hx hb d_bk_signsReadMakeAPattern_56 (by decide) ?_
          exact ih (i + 1) _ _ _ (by omega) (by omega) (lt_46n hed (fun z => h25 (eq46_iff.mp z))) hH (lv_sub (sgl_hl hl (sgl_n (fun z => h25 (eq46_iff.mp z)))) [0, 1, 2] rfl)
  refine lv_iconst (v := 0) hx hb d_bk_signsReadMakeAPattern_0 (by decide) ?_
  refine lv_istore_n (lv' := [(1, .int 0), (0, .ref x)]) hx hb d_bk_signsReadMakeAPattern_1 rfl hl (by decide) rfl (fun ls hl => ?_)
  refine lv_iconst (v := 0) hx hb d_bk_signsReadMakeAPattern_2 (by decide) ?_
  refine lv_istore_n (lv' := [(2, .int 0), (1, .int 0), (0, .ref x)]) hx hb d_bk_signsReadMakeAPattern_3 rfl hl (by decide) rfl (fun ls hl => ?_)
  exact L4 (sz + 1) 0 _ _ _ (by omega) (by omega) (fun j hj => absurd hj (by omega)) hH (lv_sub hl [0, 1, 2] rfl)
