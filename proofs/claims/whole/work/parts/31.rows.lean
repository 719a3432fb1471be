abbrev q_rw_clear (G : hG) (r sg nm sz : Nat) (g : Nat → Int32) (M : hM) : Option Value → hM → Prop := fun rv M' => rv = none ∧ hm_has M' [(r, .inr (1, [.ref sg, .ref nm, .int (nI 0)])), (nm, aI G 66 (fun _ => 0))] ∧ hm_kp (fun a => a ∈ [r, nm]) M M'
set_option maxHeartbeats 4000000 in
set_option maxRecDepth 100000 in
theorem c_rw_clear (l : Launch) (G : hG) (r sg nm sz : Nat) (g : Nat → Int32) (M : hM) (hw : hm_has M [(r, .inr (1, [.ref sg, .ref nm, .int (nI sz)])), (nm, aI G 66 g)]) : Ct (gk G) l G.1 vwC y_rw_clear w_rw_clear { frames := 1, cells := 0, slots := 0, locals := 23 } ([.ref r] : List Value) M (q_rw_clear G r sg nm sz g M) 0 0 := by
  refine Ct.ofW (cc := b_rw_clear) (maxL := 1) (ret := (Option.none : Option Jvm.ClassFile.FieldType)) (by decide) rfl (Nat.le_of_ble_eq_true rfl) (fun p e s m below meth c A ls E hr hlk hin hg hH hl => ?_)
  have hl : lv_has ls 1 [(0, .ref r)] := hl
  have hx := E.1; have hb := E.2.1; have hml := E.2.2.1; have hown := E.2.2.2.1; have hts := E.2.2.2.2; have hK := hg.1
  obtain ⟨M0, hM0⟩ : ∃ M0 : hM, M0 = M := ⟨M, rfl⟩
  rw [show q_rw_clear G r sg nm sz g M = q_rw_clear G r sg nm sz g M0 by rw [hM0]]
  have hk : hm_kp (fun a => a ∈ [r, nm]) M0 M := by rw [hM0]; exact hm_kp.rf
  refine lv_aload_n hx hb d_rw_clear_0 rfl (lv_at hl 0 rfl) ?_
  refine lv_iconst (v := 0) hx hb d_rw_clear_1 (by decide) ?_
  refine hm_put E (tB in_rw) t_rw tk_rw nm_rw hK hH (hw.at 0 rfl) rfl 2 (by decide) (tC wm_65) rfl rfl rfl (Nat.le_of_ble_eq_true rfl) (fs' := [.ref sg, .ref nm, .int 0]) rfl d_rw_clear_2 (fun H locs hH => ?_)
  have hw := hw.set (ws' := [(r, .inr (1, [.ref sg, .ref nm, .int 0])), (nm, aI G 66 g)]) (k := 0) rfl rfl
  have hk := hk.wr (a := r) (v := some (.inr (1, [.ref sg, .ref nm, .int 0]))) (by first | (right; assumption) | (left; simp; done))
  generalize va_up M r (some (.inr (1, [.ref sg, .ref nm, .int 0]))) = M at hH hw hk ⊢
  refine lv_aload_n hx hb d_rw_clear_5 rfl (lv_at hl 0 rfl) ?_
  refine hm_get E (tB in_rw) hK hH (hw.at 0 rfl) rfl 1 (by decide) (tC wm_64) rfl d_rw_clear_6 ?_
  refine lv_iconst (v := 0) hx hb d_rw_clear_9 (by decide) ?_
  have hM1 := c_ar_fill l G nm 66 g 0 M (hw.sub (ws' := [(nm, aI G 66 g)]) [1] rfl rfl) (by decide) H.size
  have hG1 : GoodIn w_rw_clear (va_wsS R_rw 22 y_ar_fill w_ar_fill) := gB_VS wm_157 wm_158 wm_6 wm_159
  refine hm_call (va_runS (y := y_ar_fill) (bytes := b_ar_fill) (maxL := 4) (ws := w_ar_fill) (rm := { frames := 0, cells := 0, slots := 0, locals := 0 }) (own := R_rw) (index := 22) (ret := (Option.none : Option Jvm.ClassFile.FieldType)) (As := [.ref nm, .int 0]) (rest := []) E hM1 (va_cwS (y := y_ar_fill) (bytes := b_ar_fill) (maxL := 4) (ws := w_ar_fill) (rm := { frames := 0, cells := 0, slots := 0, locals := 0 }) (own := R_rw) (index := 22) (ret := (Option.none : Option Jvm.ClassFile.FieldType)) 2 hts hG1 rfl rfl rfl (by decide +kernel) ⟨Nat.le_of_ble_eq_true rfl, Nat.le_of_ble_eq_true rfl⟩) (hm_preS gk_w gk_s hH hg [.ref nm, .int 0]) rfl rfl hl.1 rfl (lv_room (Nat.le_of_ble_eq_true rfl)) d_rw_clear_10 ⟨(by show _ ≤ 0; omega), (by show _ ≤ 0; omega)⟩) hH (fun r1 M1 H1 locs1 hq1 hH1 => ?_)
  replace hH := hH1; clear hH1; generalize H1 = H at hH ⊢; generalize locs1 = locs at hH ⊢
  obtain ⟨rfl, hw1, hk1⟩ := hq1
  have hw := hm_join (ws' := [(r, .inr (1, [.ref sg, .ref nm, .int (nI 0)])), (nm, aI G 66 (fun _ => 0))]) (wc := [(nm, aI G 66 g)]) hw hw1 hk1 [1] rfl rfl (fun _ h => h) rfl (by
    intro k9 h9
    match k9, h9 with
    | 0, _ => exact Or.inl ⟨by decide, rfl⟩
    | 1, _ => exact Or.inr ⟨0, rfl, rfl⟩
    | k9 + 2, h9 => exact absurd h9 (Nat.not_lt_of_le (Nat.le_add_left _ _)))
  have hk := hk.tr hk1 (by simp)
  generalize M1 = M at hH hw hk
  exact hm_vret E hr hlk hH (⟨rfl, hw, hk⟩) (by omega) (by omega) d_rw_clear_13

abbrev q_rw_signAt (G : hG) (r sg nm sz : Nat) (f : Nat → Int32) (i : Nat) (M : hM) : Option Value → hM → Prop := fun rv M' => rv = some (.int (if i < sz then f i else 0)) ∧ M' = M
set_option maxHeartbeats 4000000 in
set_option maxRecDepth 100000 in
theorem c_rw_signAt (l : Launch) (G : hG) (r sg nm sz : Nat) (f : Nat → Int32) (i : Nat) (M : hM) (hw : hm_has M [(r, .inr (1, [.ref sg, .ref nm, .int (nI sz)])), (sg, aI G 65 f)]) (hsz : sz ≤ 65) (hi : i < 2 ^ 31) : Ct (gk G) l G.1 vwC y_rw_signAt w_rw_signAt { frames := 1, cells := 0, slots := 0, locals := 21 } ([.ref r, .int (nI i)] : List Value) M (q_rw_signAt G r sg nm sz f i M) 0 0 := by
  refine Ct.ofW (cc := b_rw_signAt) (maxL := 2) (ret := (Option.some Jvm.ClassFile.FieldType.int)) (by decide) rfl (Nat.le_of_ble_eq_true rfl) (fun p e s m below meth c A ls E hr hlk hin hg hH hl => ?_)
  have hl : lv_has ls 2 [(0, .ref r), (1, .int (nI i))] := hl
  have hx := E.1; have hb := E.2.1; have hml := E.2.2.1; have hown := E.2.2.2.1; have hts := E.2.2.2.2; have hK := hg.1
  obtain ⟨M0, hM0⟩ : ∃ M0 : hM, M0 = M := ⟨M, rfl⟩
  rw [show q_rw_signAt G r sg nm sz f i M = q_rw_signAt G r sg nm sz f i M0 by rw [hM0]]
  refine lv_iload_n hx hb d_rw_signAt_0 rfl (lv_at hl 1 rfl) ?_
  refine lv_aload_n hx hb d_rw_signAt_1 rfl (lv_at hl 0 rfl) ?_
  refine hm_get E (tB in_rw) hK hH (hw.at 0 rfl) rfl 2 (by decide) (tC wm_65) rfl d_rw_signAt_2 ?_
  refine hn_icmp_ge (a := i) (b := sz) hx hb (by omega) (by omega) (tgt := 19) d_rw_signAt_5 (by decide) (fun h5 => ?_) (fun h5 => ?_)
  · skip
    refine lv_iconst (v := 0) hx hb d_rw_signAt_19 (by decide) ?_
    exact hm_iret E hr hlk hH (⟨by first | (rw [if_pos (by omega), if_pos (by omega)]; done) | (rw [if_neg (by omega)]; done), hM0.symm⟩) (by omega) (by omega) d_rw_signAt_20
  · skip
    refine lv_aload_n hx hb d_rw_signAt_8 rfl (lv_at hl 0 rfl) ?_
    refine hm_get E (tB in_rw) hK hH (hw.at 0 rfl) rfl 0 (by decide) (tC wm_63) rfl d_rw_signAt_9 ?_
    refine lv_iload_n hx hb d_rw_signAt_12 rfl (lv_at hl 1 rfl) ?_
    have hM1 := c_bk_elementAt l G sg 65 f i M (hw.sub (ws' := [(sg, aI G 65 f)]) [1] rfl rfl) (by decide) (by omega) s.heap.size
    have hG1 : GoodIn w_rw_signAt w_bk_elementAt := gB_0 wm_127
    refine hm_call (va_runSN (y := y_bk_elementAt) (bytes := b_bk_elementAt) (maxL := 2) (ws := w_bk_elementAt) (rm := { frames := 0, cells := 0, slots := 0, locals := 0 }) (own := R_rw) (index := 28) (ret := (Option.some Jvm.ClassFile.FieldType.int)) (host := R_bk) (As := [.ref sg, .int (nI i)]) (rest := []) E hM1 ⟨va_cnB (y := y_bk_elementAt) (bytes := b_bk_elementAt) (maxL := 2) (ws := w_bk_elementAt) (rm := { frames := 0, cells := 0, slots := 0, locals := 0 }) (own := R_rw) (index := 28) (host := R_bk) (ret := (Option.some Jvm.ClassFile.FieldType.int)) 2 hts hG1 rfl rfl rfl hg.2.2.2.2.1 (hts _ (tC wm_1)) (by decide +kernel) ⟨Nat.le_of_ble_eq_true rfl, Nat.le_of_ble_eq_true rfl⟩, hts _ (tC wm_126), trivial⟩ (hm_preS gk_w gk_s hH hg [.ref sg, .int (nI i)]) rfl rfl hl.1 rfl (lv_room (Nat.le_of_ble_eq_true rfl)) d_rw_signAt_13 ⟨(by show _ ≤ 0; omega), (by show _ ≤ 0; omega)⟩) hH (fun r1 M1 H1 locs1 hq1 hH1 => ?_)
    obtain ⟨rfl, e1⟩ := hq1
    replace hH := hH1; rw [e1] at hH; clear hH1 e1; generalize H1 = H at hH ⊢; generalize locs1 = locs at hH ⊢
    refine lv_goto (tgt := 20) hx hb d_rw_signAt_16 (by decide) ?_
    exact hm_iret E hr hlk hH (⟨by first | (rw [if_pos (by omega), if_pos (by omega)]; done) | (rw [if_neg (by omega)]; done), hM0.symm⟩) (by omega) (by omega) d_rw_signAt_20

abbrev q_rw_signAtN (G : hG) (r sg nm sz : Nat) (f : Nat → Int32) (i : Int32) (M : hM) : Option Value → hM → Prop := fun rv M' => rv = some (.int 0) ∧ M' = M
set_option maxHeartbeats 4000000 in
set_option maxRecDepth 100000 in
theorem c_rw_signAtN (l : Launch) (G : hG) (r sg nm sz : Nat) (f : Nat → Int32) (i : Int32) (M : hM) (hw : hm_has M [(r, .inr (1, [.ref sg, .ref nm, .int (nI sz)])), (sg, aI G 65 f)]) (hsz : sz ≤ 65) (hi : i.toInt < 0) : Ct (gk G) l G.1 vwC y_rw_signAt w_rw_signAt { frames := 1, cells := 0, slots := 0, locals := 21 } ([.ref r, .int i] : List Value) M (q_rw_signAtN G r sg nm sz f i M) 0 0 := by
  refine Ct.ofW (cc := b_rw_signAt) (maxL := 2) (ret := (Option.some Jvm.ClassFile.FieldType.int)) (by decide) rfl (Nat.le_of_ble_eq_true rfl) (fun p e s m below meth c A ls E hr hlk hin hg hH hl => ?_)
  have hl : lv_has ls 2 [(0, .ref r), (1, .int i)] := hl
  have hx := E.1; have hb := E.2.1; have hml := E.2.2.1; have hown := E.2.2.2.1; have hts := E.2.2.2.2; have hK := hg.1
  obtain ⟨M0, hM0⟩ : ∃ M0 : hM, M0 = M := ⟨M, rfl⟩
  rw [show q_rw_signAtN G r sg nm sz f i M = q_rw_signAtN G r sg nm sz f i M0 by rw [hM0]]
  refine lv_iload_n hx hb d_rw_signAt_0 rfl (lv_at hl 1 rfl) ?_
  refine lv_aload_n hx hb d_rw_signAt_1 rfl (lv_at hl 0 rfl) ?_
  refine hm_get E (tB in_rw) hK hH (hw.at 0 rfl) rfl 2 (by decide) (tC wm_65) rfl d_rw_signAt_2 ?_
  refine hr_icmp_ge (x := i) (y := nI sz) (c9 := (sz : Int)) hx hb (nI_toInt (by omega)) (tgt := 19) d_rw_signAt_5 (by decide) (fun h5 => ?_) (fun h5 => ?_)
  · skip
    omega
  · skip
    refine lv_aload_n hx hb d_rw_signAt_8 rfl (lv_at hl 0 rfl) ?_
    refine hm_get E (tB in_rw) hK hH (hw.at 0 rfl) rfl 0 (by decide) (tC wm_63) rfl d_rw_signAt_9 ?_
    refine lv_iload_n hx hb d_rw_signAt_12 rfl (lv_at hl 1 rfl) ?_
    have hM1 := c_bk_elementAtN l G sg 65 f i M (hw.sub (ws' := [(sg, aI G 65 f)]) [1] rfl rfl) hi s.heap.size
    have hG1 : GoodIn w_rw_signAt w_bk_elementAt := gB_0 wm_127
    refine hm_call (va_runSN (y := y_bk_elementAt) (bytes := b_bk_elementAt) (maxL := 2) (ws := w_bk_elementAt) (rm := { frames := 0, cells := 0, slots := 0, locals := 0 }) (own := R_rw) (index := 28) (ret := (Option.some Jvm.ClassFile.FieldType.int)) (host := R_bk) (As := [.ref sg, .int i]) (rest := []) E hM1 ⟨va_cnB (y := y_bk_elementAt) (bytes := b_bk_elementAt) (maxL := 2) (ws := w_bk_elementAt) (rm := { frames := 0, cells := 0, slots := 0, locals := 0 }) (own := R_rw) (index := 28) (host := R_bk) (ret := (Option.some Jvm.ClassFile.FieldType.int)) 2 hts hG1 rfl rfl rfl hg.2.2.2.2.1 (hts _ (tC wm_1)) (by decide +kernel) ⟨Nat.le_of_ble_eq_true rfl, Nat.le_of_ble_eq_true rfl⟩, hts _ (tC wm_126), trivial⟩ (hm_preS gk_w gk_s hH hg [.ref sg, .int i]) rfl rfl hl.1 rfl (lv_room (Nat.le_of_ble_eq_true rfl)) d_rw_signAt_13 ⟨(by show _ ≤ 0; omega), (by show _ ≤ 0; omega)⟩) hH (fun r1 M1 H1 locs1 hq1 hH1 => ?_)
    obtain ⟨rfl, e1⟩ := hq1
    replace hH := hH1; rw [e1] at hH; clear hH1 e1; generalize H1 = H at hH ⊢; generalize locs1 = locs at hH ⊢
    refine lv_goto (tgt := 20) hx hb d_rw_signAt_16 (by decide) ?_
    exact hm_iret E hr hlk hH (⟨rfl, hM0.symm⟩) (by omega) (by omega) d_rw_signAt_20

abbrev q_rw_numberAt (G : hG) (r sg nm sz : Nat) (g : Nat → Int32) (i : Nat) (M : hM) : Option Value → hM → Prop := fun rv M' => rv = some (.int (if i < 66 then g i else 0)) ∧ M' = M
set_option maxHeartbeats 4000000 in
set_option maxRecDepth 100000 in
theorem c_rw_numberAt (l : Launch) (G : hG) (r sg nm sz : Nat) (g : Nat → Int32) (i : Nat) (M : hM) (hw : hm_has M [(r, .inr (1, [.ref sg, .ref nm, .int (nI sz)])), (nm, aI G 66 g)]) (hi : i < 2 ^ 31) : Ct (gk G) l G.1 vwC y_rw_numberAt w_rw_numberAt { frames := 1, cells := 0, slots := 0, locals := 21 } ([.ref r, .int (nI i)] : List Value) M (q_rw_numberAt G r sg nm sz g i M) 0 0 := by
  refine Ct.ofW (cc := b_rw_numberAt) (maxL := 2) (ret := (Option.some Jvm.ClassFile.FieldType.int)) (by decide) rfl (Nat.le_of_ble_eq_true rfl) (fun p e s m below meth c A ls E hr hlk hin hg hH hl => ?_)
  have hl : lv_has ls 2 [(0, .ref r), (1, .int (nI i))] := hl
  have hx := E.1; have hb := E.2.1; have hml := E.2.2.1; have hown := E.2.2.2.1; have hts := E.2.2.2.2; have hK := hg.1
  obtain ⟨M0, hM0⟩ : ∃ M0 : hM, M0 = M := ⟨M, rfl⟩
  rw [show q_rw_numberAt G r sg nm sz g i M = q_rw_numberAt G r sg nm sz g i M0 by rw [hM0]]
  refine lv_aload_n hx hb d_rw_numberAt_0 rfl (lv_at hl 0 rfl) ?_
  refine hm_get E (tB in_rw) hK hH (hw.at 0 rfl) rfl 1 (by decide) (tC wm_64) rfl d_rw_numberAt_1 ?_
  refine lv_iload_n hx hb d_rw_numberAt_4 rfl (lv_at hl 1 rfl) ?_
  have hM1 := c_bk_elementAt l G nm 66 g i M (hw.sub (ws' := [(nm, aI G 66 g)]) [1] rfl rfl) (by decide) (by omega) s.heap.size
  have hG1 : GoodIn w_rw_numberAt w_bk_elementAt := gB_0 wm_127
  refine hm_call (va_runSN (y := y_bk_elementAt) (bytes := b_bk_elementAt) (maxL := 2) (ws := w_bk_elementAt) (rm := { frames := 0, cells := 0, slots := 0, locals := 0 }) (own := R_rw) (index := 28) (ret := (Option.some Jvm.ClassFile.FieldType.int)) (host := R_bk) (As := [.ref nm, .int (nI i)]) (rest := []) E hM1 ⟨va_cnB (y := y_bk_elementAt) (bytes := b_bk_elementAt) (maxL := 2) (ws := w_bk_elementAt) (rm := { frames := 0, cells := 0, slots := 0, locals := 0 }) (own := R_rw) (index := 28) (host := R_bk) (ret := (Option.some Jvm.ClassFile.FieldType.int)) 2 hts hG1 rfl rfl rfl hg.2.2.2.2.1 (hts _ (tC wm_1)) (by decide +kernel) ⟨Nat.le_of_ble_eq_true rfl, Nat.le_of_ble_eq_true rfl⟩, hts _ (tC wm_126), trivial⟩ (hm_preS gk_w gk_s hH hg [.ref nm, .int (nI i)]) rfl rfl hl.1 rfl (lv_room (Nat.le_of_ble_eq_true rfl)) d_rw_numberAt_5 ⟨(by show _ ≤ 0; omega), (by show _ ≤ 0; omega)⟩) hH (fun r1 M1 H1 locs1 hq1 hH1 => ?_)
  obtain ⟨rfl, e1⟩ := hq1
  replace hH := hH1; rw [e1] at hH; clear hH1 e1; generalize H1 = H at hH ⊢; generalize locs1 = locs at hH ⊢
  exact hm_iret E hr hlk hH (⟨rfl, hM0.symm⟩) (by omega) (by omega) d_rw_numberAt_8

abbrev q_rw_raiseNumber (G : hG) (r sg nm sz : Nat) (g : Nat → Int32) (i : Nat) (v : Int32) (M : hM) : Option Value → hM → Prop := fun rv M' => rv = none ∧ hm_has M' [(r, .inr (1, [.ref sg, .ref nm, .int (nI sz)])), (nm, aI G 66 (if g i < v then upd g i v else g))] ∧ hm_kp (fun a => a ∈ [nm]) M M'
set_option maxHeartbeats 4000000 in
set_option maxRecDepth 100000 in
theorem c_rw_raiseNumber (l : Launch) (G : hG) (r sg nm sz : Nat) (g : Nat → Int32) (i : Nat) (v : Int32) (M : hM) (hw : hm_has M [(r, .inr (1, [.ref sg, .ref nm, .int (nI sz)])), (nm, aI G 66 g)]) (hi : i < 66) : Ct (gk G) l G.1 vwC y_rw_raiseNumber w_rw_raiseNumber { frames := 2, cells := 0, slots := 0, locals := 42 } ([.ref r, .int (nI i), .int v] : List Value) M (q_rw_raiseNumber G r sg nm sz g i v M) 0 0 := by
  refine Ct.ofW (cc := b_rw_raiseNumber) (maxL := 3) (ret := (Option.none : Option Jvm.ClassFile.FieldType)) (by decide) rfl (Nat.le_of_ble_eq_true rfl) (fun p e s m below meth c A ls E hr hlk hin hg hH hl => ?_)
  have hl : lv_has ls 3 [(0, .ref r), (1, .int (nI i)), (2, .int v)] := hl
  have hx := E.1; have hb := E.2.1; have hml := E.2.2.1; have hown := E.2.2.2.1; have hts := E.2.2.2.2; have hK := hg.1
  obtain ⟨M0, hM0⟩ : ∃ M0 : hM, M0 = M := ⟨M, rfl⟩
  rw [show q_rw_raiseNumber G r sg nm sz g i v M = q_rw_raiseNumber G r sg nm sz g i v M0 by rw [hM0]]
  have hk : hm_kp (fun a => a ∈ [nm]) M0 M := by rw [hM0]; exact hm_kp.rf
  refine lv_iload_n hx hb d_rw_raiseNumber_0 rfl (lv_at hl 2 rfl) ?_
  refine lv_aload_n hx hb d_rw_raiseNumber_1 rfl (lv_at hl 0 rfl) ?_
  refine lv_iload_n hx hb d_rw_raiseNumber_2 rfl (lv_at hl 1 rfl) ?_
  have hM1 := c_rw_numberAt l G r sg nm sz g i M hw (by omega) s.heap.size
  have hG1 : GoodIn w_rw_raiseNumber (wsV R_rw 32 R_rw y_rw_numberAt w_rw_numberAt) := gB_V wm_353 wm_122 wm_123 wm_4 wm_124
  refine hm_call (va_runV (y := y_rw_numberAt) (bytes := b_rw_numberAt) (maxL := 2) (ws := w_rw_numberAt) (rm := { frames := 1, cells := 0, slots := 0, locals := 21 }) (own := R_rw) (index := 32) (ret := (Option.some Jvm.ClassFile.FieldType.int)) (C := R_rw) (As := [.int (nI i)]) (rest := [.int v]) E hM1 (cwV (y := y_rw_numberAt) (bytes := b_rw_numberAt) (maxL := 2) (ws := w_rw_numberAt) (rm := { frames := 1, cells := 0, slots := 0, locals := 21 }) (own := R_rw) (index := 32) (ret := (Option.some Jvm.ClassFile.FieldType.int)) (C := R_rw) 1 hts hG1 rfl rfl rfl (by decide +kernel) ⟨Nat.le_of_ble_eq_true rfl, Nat.le_of_ble_eq_true rfl⟩) (hm_preV gk_w gk_s hH hg hK (hw.at 0 rfl) rfl [.int (nI i)]) rfl rfl hl.1 rfl (lv_room (Nat.le_of_ble_eq_true rfl)) d_rw_raiseNumber_3 ⟨(by show _ ≤ 0; omega), (by show _ ≤ 0; omega)⟩) hH (fun r1 M1 H1 locs1 hq1 hH1 => ?_)
  obtain ⟨rfl, e1⟩ := hq1
  replace hH := hH1; rw [e1] at hH; clear hH1 e1; generalize H1 = H at hH ⊢; generalize locs1 = locs at hH ⊢
  refine hm_top (w := .int (g i)) (by rw [if_pos hi]) ?_
  refine hr_icmp_le (x := v) (y := g i) (c9 := (g i).toInt) hx hb rfl (tgt := 15) d_rw_raiseNumber_6 (by decide) (fun h6 => ?_) (fun h6 => ?_)
  · skip
    exact hm_vret E hr hlk hH (⟨rfl, by first | (rw [if_pos (by rw [i32_lt]; omega)]; exact hw) | (rw [if_neg (by rw [i32_lt]; omega)]; exact hw), hk⟩) (by omega) (by omega) d_rw_raiseNumber_15
  · skip
    refine lv_aload_n hx hb d_rw_raiseNumber_9 rfl (lv_at hl 0 rfl) ?_
    refine lv_iload_n hx hb d_rw_raiseNumber_10 rfl (lv_at hl 1 rfl) ?_
    refine lv_iload_n hx hb d_rw_raiseNumber_11 rfl (lv_at hl 2 rfl) ?_
    have hM1 := c_rw_setNumber l G r sg nm sz g i v M hw hi H.size
    have hG1 : GoodIn w_rw_raiseNumber (wsV R_rw 36 R_rw y_rw_setNumber w_rw_setNumber) := gB_V wm_354 wm_165 wm_166 wm_4 wm_167
    refine hm_call (va_runV (y := y_rw_setNumber) (bytes := b_rw_setNumber) (maxL := 3) (ws := w_rw_setNumber) (rm := { frames := 0, cells := 0, slots := 0, locals := 0 }) (own := R_rw) (index := 36) (ret := (Option.none : Option Jvm.ClassFile.FieldType)) (C := R_rw) (As := [.int (nI i), .int v]) (rest := []) E hM1 (cwV (y := y_rw_setNumber) (bytes := b_rw_setNumber) (maxL := 3) (ws := w_rw_setNumber) (rm := { frames := 0, cells := 0, slots := 0, locals := 0 }) (own := R_rw) (index := 36) (ret := (Option.none : Option Jvm.ClassFile.FieldType)) (C := R_rw) 2 hts hG1 rfl rfl rfl (by decide +kernel) ⟨Nat.le_of_ble_eq_true rfl, Nat.le_of_ble_eq_true rfl⟩) (hm_preV gk_w gk_s hH hg hK (hw.at 0 rfl) rfl [.int (nI i), .int v]) rfl rfl hl.1 rfl (lv_room (Nat.le_of_ble_eq_true rfl)) d_rw_raiseNumber_12 ⟨(by show _ ≤ 0; omega), (by show _ ≤ 0; omega)⟩) hH (fun r1 M1 H1 locs1 hq1 hH1 => ?_)
    replace hH := hH1; clear hH1; generalize H1 = H at hH ⊢; generalize locs1 = locs at hH ⊢
    obtain ⟨rfl, hw, hk1⟩ := hq1
    have hk := hk.tr hk1 (fun _ h => h)
    generalize M1 = M at hH hw hk
    exact hm_vret E hr hlk hH (⟨rfl, by first | (rw [if_pos (by rw [i32_lt]; omega)]; exact hw) | (rw [if_neg (by rw [i32_lt]; omega)]; exact hw), hk⟩) (by omega) (by omega) d_rw_raiseNumber_15

abbrev q_rw_copyOfNumbers (G : hG) (r sg nm sz : Nat) (g : Nat → Int32) (M : hM) : Option Value → hM → Prop := fun rv M' => ∃ q, rv = some (.ref q) ∧ M q = none ∧ M' = va_up M q (some (aI G 66 g))
set_option maxHeartbeats 4000000 in
set_option maxRecDepth 100000 in
theorem c_rw_copyOfNumbers (l : Launch) (G : hG) (r sg nm sz : Nat) (g : Nat → Int32) (M : hM) (hw : hm_has M [(r, .inr (1, [.ref sg, .ref nm, .int (nI sz)])), (nm, aI G 66 g)]) : Ct (gk G) l G.1 vwC y_rw_copyOfNumbers w_rw_copyOfNumbers { frames := 1, cells := 1, slots := 66, locals := 22 } ([.ref r] : List Value) M (q_rw_copyOfNumbers G r sg nm sz g M) 1 66 := by
  refine Ct.ofW (cc := b_rw_copyOfNumbers) (maxL := 1) (ret := (Option.some (Jvm.ClassFile.FieldType.array Jvm.ClassFile.FieldType.int))) (by decide) rfl (Nat.le_of_ble_eq_true rfl) (fun p e s m below meth c A ls E hr hlk hin hg hH hl => ?_)
  have hl : lv_has ls 1 [(0, .ref r)] := hl
  have hx := E.1; have hb := E.2.1; have hml := E.2.2.1; have hown := E.2.2.2.1; have hts := E.2.2.2.2; have hK := hg.1
  obtain ⟨M0, hM0⟩ : ∃ M0 : hM, M0 = M := ⟨M, rfl⟩
  rw [show q_rw_copyOfNumbers G r sg nm sz g M = q_rw_copyOfNumbers G r sg nm sz g M0 by rw [hM0]]
  refine lv_aload_n hx hb d_rw_copyOfNumbers_0 rfl (lv_at hl 0 rfl) ?_
  refine hm_get E (tB in_rw) hK hH (hw.at 0 rfl) rfl 1 (by decide) (tC wm_64) rfl d_rw_copyOfNumbers_1 ?_
  refine hm_clone E hl.1 (tC wm_301) (tC wm_302) (tC wm_303) (tC wm_304) (tC wm_305) hg.2.2.2.2.2.2 hK hH 0 (hw.at 1 rfl) rfl (Nat.le_of_ble_eq_true rfl) (Nat.le_of_ble_eq_true rfl) (by show _ ≤ 1; omega) (by show _ ≤ 66; omega) d_rw_copyOfNumbers_4 (fun q H hqq hH => ?_)
  have hw := hw.push (ws' := [(r, .inr (1, [.ref sg, .ref nm, .int (nI sz)])), (nm, aI G 66 g), (q, aI G 66 g)]) hqq rfl
  refine hm_castI E (tC wm_307) hK hH 0 (hw.at 2 rfl) rfl d_rw_copyOfNumbers_7 ?_
  exact hm_aret (x := some q) E hr (Or.inr ⟨_, rfl⟩) hlk hH (⟨q, rfl, by rw [hM0]; exact hqq, by rw [hM0]⟩) (by omega) (by omega) d_rw_copyOfNumbers_10
