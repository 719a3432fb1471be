abbrev q_bk_readPattern (G : hG) (x d dn lf rt pt xt rr ar : Nat) (rsg rnm sz : Nat) (f g dr : Nat → Int32) (M : hM) : Option Value → hM → Prop := fun rv M' => ∃ (b : Bool) (sz9 : Nat) (f9 g9 : Nat → Int32), rv = some (.int (bI b)) ∧ (b = true ↔ pOk dr dn) ∧ sz9 ≤ 65 ∧ hm_has M' [(x, .inr (3, [.ref d, .int (nI dn), .int (nI lf), .int (nI rt), .ref pt, .ref xt, .ref rr, .ref ar])), (rr, .inr (1, [.ref rsg, .ref rnm, .int (nI sz9)])), (rsg, aI G 65 f9), (rnm, aI G 66 g9), (d, aI G 200 dr)] ∧ (pOk dr dn → sz9 = pz dr dn ∧ (∀ j, j < sz9 → f9 j = psg dr dn j) ∧ g9 = pN dr dn) ∧ hm_kp (fun a => a ∈ [rr, rsg, rnm]) M M'
set_option maxHeartbeats 4000000 in
set_option maxRecDepth 100000 in
theorem c_bk_readPattern (l : Launch) (G : hG) (x d dn lf rt pt xt rr ar : Nat) (rsg rnm sz : Nat) (f g dr : Nat → Int32) (M : hM) (hw : hm_has M [(x, .inr (3, [.ref d, .int (nI dn), .int (nI lf), .int (nI rt), .ref pt, .ref xt, .ref rr, .ref ar])), (rr, .inr (1, [.ref rsg, .ref rnm, .int (nI sz)])), (rsg, aI G 65 f), (rnm, aI G 66 g), (d, aI G 200 dr)]) (hdn : dn ≤ 200) : Ct (gk G) l G.1 vwC y_bk_readPattern w_bk_readPattern { frames := 3, cells := 0, slots := 0, locals := 64 } ([.ref x] : List Value) M (q_bk_readPattern G x d dn lf rt pt xt rr ar rsg rnm sz f g dr M) 0 0 := by
  refine Ct.ofW (cc := b_bk_readPattern) (maxL := 4) (ret := (Option.some Jvm.ClassFile.FieldType.boolean)) (by decide) rfl (Nat.le_of_ble_eq_true rfl) (fun p e s m below meth c A ls E hr hlk hin hg hH hl => ?_)
  have hl : lv_has ls 4 [(0, .ref x)] := hl
  have hx := E.1; have hb := E.2.1; have hml := E.2.2.1; have hown := E.2.2.2.1; have hts := E.2.2.2.2; have hK := hg.1
  obtain ⟨M0, hM0⟩ : ∃ M0 : hM, M0 = M := ⟨M, rfl⟩
  rw [show q_bk_readPattern G x d dn lf rt pt xt rr ar rsg rnm sz f g dr M = q_bk_readPattern G x d dn lf rt pt xt rr ar rsg rnm sz f g dr M0 by rw [hM0]]
  have hk : hm_kp (fun a => a ∈ [rr, rsg, rnm]) M0 M := by rw [hM0]; exact hm_kp.rf
  have L11 : ∀ (k : Nat) (i : Nat) (f : Nat → Int32) (M : hM) (H : Heap) (locs : List Loc) (ls : Array Slot), dn + 1 ≤ i + k → i ≤ dn → pz dr i ≤ 65 → (∀ j, j < pz dr i → f j = psg dr i j) → (∀ k9, k9 < i → isL (dr k9) = true ∨ isDg (dr k9) = true ∨ dr k9 = 46) → (∀ k9, k9 + 1 < i → ¬ (isDg (dr k9) = true ∧ isDg (dr (k9 + 1)) = true)) → hm_has M [(x, .inr (3, [.ref d, .int (nI dn), .int (nI lf), .int (nI rt), .ref pt, .ref xt, .ref rr, .ref ar])), (rr, .inr (1, [.ref rsg, .ref rnm, .int (nI (pz dr i))])), (rsg, aI G 65 f), (rnm, aI G 66 (pnm dr i)), (d, aI G 200 dr)] → hm_kp (fun a => a ∈ [rr, rsg, rnm]) M0 M → hm_I G.1 vwC A s.heap M H locs → lv_has ls 4 [(2, .int (nI i)), (1, .int (bI (bdg dr i))), (0, .ref x)] → W p l e { frames := 3, cells := 0, slots := 0, locals := 64 } s m ([.ref x] : List Value).toArray below meth c H locs 0 0 (MQ below (hm_Q G.1 vwC (q_bk_readPattern G x d dn lf rt pt xt rr ar rsg rnm sz f g dr M0) A) ([.ref x] : List Value).toArray s 0 0 A) (F0 m 11 ls []) := by
    intro k
    induction k with
    | zero => intro i f M H locs ls hfu hi hp hf hok hadj; exact absurd hfu (by omega)
    | succ k ih =>
      intro i f M H locs ls hfu hi hp hf hok hadj hw hk hH hl
      refine lv_iload_n hx hb d_bk_readPattern_11 rfl (lv_at hl 0 rfl) ?_
      refine lv_aload_n hx hb d_bk_readPattern_12 rfl (lv_at hl 2 rfl) ?_
      refine hm_get E (tB in_bk) hK hH (hw.at 0 rfl) rfl 1 (by decide) (tC wm_74) rfl d_bk_readPattern_13 ?_
      refine hn_icmp_ge (a := i) (b := dn) hx hb (by omega) (by omega) (tgt := 98) d_bk_readPattern_16 (by decide) (fun h16 => ?_) (fun h16 => ?_)
      · skip
        have hie : i = dn := by omega
        rw [hie] at hp hf hok hadj hw
        refine lv_aload_n hx hb d_bk_readPattern_98 rfl (lv_at hl 2 rfl) ?_
        have hM1 := c_bk_drop l G x d dn lf rt pt xt rr ar rsg rnm (pz dr dn) f (pnm dr dn) M (hw.sub (ws' := [(x, .inr (3, [.ref d, .int (nI dn), .int (nI lf), .int (nI rt), .ref pt, .ref xt, .ref rr, .ref ar])), (rr, .inr (1, [.ref rsg, .ref rnm, .int (nI (pz dr dn))])), (rsg, aI G 65 f), (rnm, aI G 66 (pnm dr dn))]) [0, 1, 2, 3] rfl rfl) hp H.size
        have hG1 : GoodIn w_bk_readPattern (wsV R_bk 139 R_bk y_bk_dropNumbersOutsideEdges w_bk_dropNumbersOutsideEdges) := gB_V wm_175 wm_177 wp_2 wm_1 wm_178
        refine hm_call (va_runV (y := y_bk_dropNumbersOutsideEdges) (bytes := b_bk_dropNumbersOutsideEdges) (maxL := 1) (ws := w_bk_dropNumbersOutsideEdges) (rm := { frames := 2, cells := 0, slots := 0, locals := 42 }) (own := R_bk) (index := 139) (ret := (Option.none : Option Jvm.ClassFile.FieldType)) (C := R_bk) (As := []) (rest := []) E hM1 (cwV (y := y_bk_dropNumbersOutsideEdges) (bytes := b_bk_dropNumbersOutsideEdges) (maxL := 1) (ws := w_bk_dropNumbersOutsideEdges) (rm := { frames := 2, cells := 0, slots := 0, locals := 42 }) (own := R_bk) (index := 139) (ret := (Option.none : Option Jvm.ClassFile.FieldType)) (C := R_bk) 0 hts hG1 rfl rfl rfl (by decide +kernel) ⟨Nat.le_of_ble_eq_true rfl, Nat.le_of_ble_eq_true rfl⟩) (hm_preV gk_w gk_s hH hg hK (hw.at 0 rfl) rfl []) rfl rfl hl.1 rfl (lv_room (Nat.le_of_ble_eq_true rfl)) d_bk_readPattern_99 ⟨(by show _ ≤ 0; omega), (by show _ ≤ 0; omega)⟩) hH (fun r1 M1 H1 locs1 hq1 hH1 => ?_)
        replace hH := hH1; clear hH1; generalize H1 = H at hH ⊢; generalize locs1 = locs at hH ⊢
        obtain ⟨rfl, hw1, hk1⟩ := hq1
        have hw := hm_join (ws' := [(x, .inr (3, [.ref d, .int (nI dn), .int (nI lf), .int (nI rt), .ref pt, .ref xt, .ref rr, .ref ar])), (rr, .inr (1, [.ref rsg, .ref rnm, .int (nI (pz dr dn))])), (rsg, aI G 65 f), (rnm, aI G 66 (drp f (pz dr dn) (pnm dr dn))), (d, aI G 200 dr)]) (wc := [(x, .inr (3, [.ref d, .int (nI dn), .int (nI lf), .int (nI rt), .ref pt, .ref xt, .ref rr, .ref ar])), (rr, .inr (1, [.ref rsg, .ref rnm, .int (nI (pz dr dn))])), (rsg, aI G 65 f), (rnm, aI G 66 (pnm dr dn))]) hw hw1 hk1 [0, 1, 2, 3] rfl rfl (fun a h => by simp at h; simp [h]) rfl (by
          intro k9 h9
          match k9, h9 with
          | 0, _ => exact Or.inr ⟨0, rfl, rfl⟩
          | 1, _ => exact Or.inr ⟨1, rfl, rfl⟩
          | 2, _ => exact Or.inr ⟨2, rfl, rfl⟩
          | 3, _ => exact Or.inr ⟨3, rfl, rfl⟩
          | 4, _ => exact Or.inl ⟨by decide, rfl⟩
          | k9 + 5, h9 => exact absurd h9 (Nat.not_lt_of_le (Nat.le_add_left _ _)))
        have hk := hk.tr hk1 (fun a h => by simp at h; simp [h])
        generalize M1 = M at hH hw hk
        refine lv_aload_n hx hb d_bk_readPattern_102 rfl (lv_at hl 2 rfl) ?_
        have hM1 := c_bk_signsReadMakeAPattern l G x d dn lf rt pt xt rr ar rsg rnm (pz dr dn) f M (hw.sub (ws' := [(x, .inr (3, [.ref d, .int (nI dn), .int (nI lf), .int (nI rt), .ref pt, .ref xt, .ref rr, .ref ar])), (rr, .inr (1, [.ref rsg, .ref rnm, .int (nI (pz dr dn))])), (rsg, aI G 65 f)]) [0, 1, 2] rfl rfl) hp H.size
        have hG1 : GoodIn w_bk_readPattern (wsV R_bk 142 R_bk y_bk_signsReadMakeAPattern w_bk_signsReadMakeAPattern) := gB_V wm_183 wm_185 wp_3 wm_1 wm_186
        refine hm_call (va_runV (y := y_bk_signsReadMakeAPattern) (bytes := b_bk_signsReadMakeAPattern) (maxL := 3) (ws := w_bk_signsReadMakeAPattern) (rm := { frames := 2, cells := 0, slots := 0, locals := 42 }) (own := R_bk) (index := 142) (ret := (Option.some Jvm.ClassFile.FieldType.boolean)) (C := R_bk) (As := []) (rest := []) E hM1 (cwV (y := y_bk_signsReadMakeAPattern) (bytes := b_bk_signsReadMakeAPattern) (maxL := 3) (ws := w_bk_signsReadMakeAPattern) (rm := { frames := 2, cells := 0, slots := 0, locals := 42 }) (own := R_bk) (index := 142) (ret := (Option.some Jvm.ClassFile.FieldType.boolean)) (C := R_bk) 0 hts hG1 rfl rfl rfl (by decide +kernel) ⟨Nat.le_of_ble_eq_true rfl, Nat.le_of_ble_eq_true rfl⟩) (hm_preV gk_w gk_s hH hg hK (hw.at 0 rfl) rfl []) rfl rfl hl.1 rfl (lv_room (Nat.le_of_ble_eq_true rfl)) d_bk_readPattern_103 ⟨(by show _ ≤ 0; omega), (by show _ ≤ 0; omega)⟩) hH (fun r1 M1 H1 locs1 hq1 hH1 => ?_)
        replace hH := hH1; clear hH1; generalize H1 = H at hH ⊢; generalize locs1 = locs at hH ⊢
        obtain ⟨b9, rfl, hbi, e9⟩ := hq1
        rw [e9] at hH
        exact hm_zret E hr hlk hH (bI_n _) (⟨b9, pz dr dn, f, drp f (pz dr dn) (pnm dr dn), rfl, hbi.trans (rp_iff hf hok hadj), hp, hw, fun z => ⟨rfl, hf, rp_drp hf (pOk_len z).1⟩, hk⟩) (by omega) (by omega) d_bk_readPattern_106
      · skip
        refine lv_aload_n hx hb d_bk_readPattern_19 rfl (lv_at hl 2 rfl) ?_
        refine hm_get E (tB in_bk) hK hH (hw.at 0 rfl) rfl 0 (by decide) (tC wm_73) rfl d_bk_readPattern_20 ?_
        refine lv_iload_n hx hb d_bk_readPattern_23 rfl (lv_at hl 0 rfl) ?_
        have hM1 := c_bk_elementAt l G d 200 dr i M (hw.sub (ws' := [(d, aI G 200 dr)]) [4] rfl rfl) (by decide) (by omega) H.size
        have hG1 : GoodIn w_bk_readPattern (wsS R_bk 118 y_bk_elementAt w_bk_elementAt) := gB_S wm_160 wm_126 wm_1 wm_127
        refine hm_call (va_runS (y := y_bk_elementAt) (bytes := b_bk_elementAt) (maxL := 2) (ws := w_bk_elementAt) (rm := { frames := 0, cells := 0, slots := 0, locals := 0 }) (own := R_bk) (index := 118) (ret := (Option.some Jvm.ClassFile.FieldType.int)) (As := [.ref d, .int (nI i)]) (rest := []) E hM1 (cwS (y := y_bk_elementAt) (bytes := b_bk_elementAt) (maxL := 2) (ws := w_bk_elementAt) (rm := { frames := 0, cells := 0, slots := 0, locals := 0 }) (own := R_bk) (index := 118) (ret := (Option.some Jvm.ClassFile.FieldType.int)) 2 hts hG1 rfl rfl rfl (by decide +kernel) ⟨Nat.le_of_ble_eq_true rfl, Nat.le_of_ble_eq_true rfl⟩) (hm_preS gk_w gk_s hH hg [.ref d, .int (nI i)]) rfl rfl hl.1 rfl (lv_room (Nat.le_of_ble_eq_true rfl)) d_bk_readPattern_24 ⟨(by show _ ≤ 0; omega), (by show _ ≤ 0; omega)⟩) hH (fun r1 M1 H1 locs1 hq1 hH1 => ?_)
        obtain ⟨rfl, e1⟩ := hq1
        replace hH := hH1; rw [e1] at hH; clear hH1 e1; generalize H1 = H at hH ⊢; generalize locs1 = locs at hH ⊢
        refine hm_top (w := .int (dr i)) (by rw [if_pos (by omega)]) ?_
        refine lv_istore_n (lv' := [(3, .int (dr i)), (2, .int (nI i)), (1, .int (bI (bdg dr i))), (0, .ref x)]) hx hb d_bk_readPattern_27 rfl hl (by decide) rfl (fun ls hl => ?_)
        refine lv_iload_n hx hb d_bk_readPattern_28 rfl (lv_at hl 0 rfl) ?_
        have hM1 := c_bk_isDigit l G (dr i) M H.size
        have hG1 : GoodIn w_bk_readPattern (wsS R_bk 122 y_bk_isDigit w_bk_isDigit) := gB_S wm_161 wm_162 wm_1 wm_163
        refine hm_call (va_runS (y := y_bk_isDigit) (bytes := b_bk_isDigit) (maxL := 1) (ws := w_bk_isDigit) (rm := { frames := 0, cells := 0, slots := 0, locals := 0 }) (own := R_bk) (index := 122) (ret := (Option.some Jvm.ClassFile.FieldType.boolean)) (As := [.int (dr i)]) (rest := []) E hM1 (cwS (y := y_bk_isDigit) (bytes := b_bk_isDigit) (maxL := 1) (ws := w_bk_isDigit) (rm := { frames := 0, cells := 0, slots := 0, locals := 0 }) (own := R_bk) (index := 122) (ret := (Option.some Jvm.ClassFile.FieldType.boolean)) 1 hts hG1 rfl rfl rfl (by decide +kernel) ⟨Nat.le_of_ble_eq_true rfl, Nat.le_of_ble_eq_true rfl⟩) (hm_preS gk_w gk_s hH hg [.int (dr i)]) rfl rfl hl.1 rfl (lv_room (Nat.le_of_ble_eq_true rfl)) d_bk_readPattern_29 ⟨(by show _ ≤ 0; omega), (by show _ ≤ 0; omega)⟩) hH (fun r1 M1 H1 locs1 hq1 hH1 => ?_)
        obtain ⟨rfl, e1⟩ := hq1
        replace hH := hH1; rw [e1] at hH; clear hH1 e1; generalize H1 = H at hH ⊢; generalize locs1 = locs at hH ⊢
        refine hb_if_eq (b := isDg (dr i)) hx hb (tgt := 64) d_bk_readPattern_32 (by decide) (fun h32 => ?_) (fun h32 => ?_)
        · skip
          refine lv_iload_n hx hb d_bk_readPattern_64 rfl (lv_at hl 0 rfl) ?_
          have hM1 := c_bk_isLetter l G (dr i) M H.size
          have hG1 : GoodIn w_bk_readPattern (wsS R_bk 133 y_bk_isLetter w_bk_isLetter) := gB_S wm_168 wm_169 wm_1 wm_170
          refine hm_call (va_runS (y := y_bk_isLetter) (bytes := b_bk_isLetter) (maxL := 1) (ws := w_bk_isLetter) (rm := { frames := 0, cells := 0, slots := 0, locals := 0 }) (own := R_bk) (index := 133) (ret := (Option.some Jvm.ClassFile.FieldType.boolean)) (As := [.int (dr i)]) (rest := []) E hM1 (cwS (y := y_bk_isLetter) (bytes := b_bk_isLetter) (maxL := 1) (ws := w_bk_isLetter) (rm := { frames := 0, cells := 0, slots := 0, locals := 0 }) (own := R_bk) (index := 133) (ret := (Option.some Jvm.ClassFile.FieldType.boolean)) 1 hts hG1 rfl rfl rfl (by decide +kernel) ⟨Nat.le_of_ble_eq_true rfl, Nat.le_of_ble_eq_true rfl⟩) (hm_preS gk_w gk_s hH hg [.int (dr i)]) rfl rfl hl.1 rfl (lv_room (Nat.le_of_ble_eq_true rfl)) d_bk_readPattern_65 ⟨(by show _ ≤ 0; omega), (by show _ ≤ 0; omega)⟩) hH (fun r1 M1 H1 locs1 hq1 hH1 => ?_)
          obtain ⟨rfl, e1⟩ := hq1
          replace hH := hH1; rw [e1] at hH; clear hH1 e1; generalize H1 = H at hH ⊢; generalize locs1 = locs at hH ⊢
          refine hb_if_ne (b := isL (dr i)) hx hb (tgt := 77) d_bk_readPattern_68 (by decide) (fun h68 => ?_) (fun h68 => ?_)
          · skip
            refine lv_aload_n hx hb d_bk_readPattern_77 rfl (lv_at hl 3 rfl) ?_
            refine hm_get E (tB in_bk) hK hH (hw.at 0 rfl) rfl 6 (by decide) (tC wm_79) rfl d_bk_readPattern_78 ?_
            refine lv_iload_n hx hb d_bk_readPattern_81 rfl (lv_at hl 0 rfl) ?_
            have hM1 := c_rw_append l G rr rsg rnm (pz dr i) f (dr i) M (hw.sub (ws' := [(rr, .inr (1, [.ref rsg, .ref rnm, .int (nI (pz dr i))])), (rsg, aI G 65 f)]) [1, 2] rfl rfl) (by omega) H.size
            have hG1 : GoodIn w_bk_readPattern (wsV R_bk 136 R_rw y_rw_append w_rw_append) := gB_V wm_171 wm_172 wm_173 wm_4 wm_174
            refine hm_call (va_runV (y := y_rw_append) (bytes := b_rw_append) (maxL := 2) (ws := w_rw_append) (rm := { frames := 0, cells := 0, slots := 0, locals := 0 }) (own := R_bk) (index := 136) (ret := (Option.some Jvm.ClassFile.FieldType.boolean)) (C := R_rw) (As := [.int (dr i)]) (rest := []) E hM1 (cwV (y := y_rw_append) (bytes := b_rw_append) (maxL := 2) (ws := w_rw_append) (rm := { frames := 0, cells := 0, slots := 0, locals := 0 }) (own := R_bk) (index := 136) (ret := (Option.some Jvm.ClassFile.FieldType.boolean)) (C := R_rw) 1 hts hG1 rfl rfl rfl (by decide +kernel) ⟨Nat.le_of_ble_eq_true rfl, Nat.le_of_ble_eq_true rfl⟩) (hm_preV gk_w gk_s hH hg hK (hw.at 1 rfl) rfl [.int (dr i)]) rfl rfl hl.1 rfl (lv_room (Nat.le_of_ble_eq_true rfl)) d_bk_readPattern_82 ⟨(by show _ ≤ 0; omega), (by show _ ≤ 0; omega)⟩) hH (fun r1 M1 H1 locs1 hq1 hH1 => ?_)
            replace hH := hH1; clear hH1; generalize H1 = H at hH ⊢; generalize locs1 = locs at hH ⊢
            obtain ⟨b9, rfl, hbt, hbf⟩ := ap_ex hq1
            refine hb_if_ne (b := b9) hx hb (tgt := 90) d_bk_readPattern_85 (by decide) (fun h85 => ?_) (fun h85 => ?_)
            · skip
              obtain ⟨hlt, hw1, hk1⟩ := hbt h85
              have hw := hm_join (ws' := [(x, .inr (3, [.ref d, .int (nI dn), .int (nI lf), .int (nI rt), .ref pt, .ref xt, .ref rr, .ref ar])), (rr, .inr (1, [.ref rsg, .ref rnm, .int (nI (pz dr i + 1))])), (rsg, aI G 65 (upd f (pz dr i) (dr i))), (rnm, aI G 66 (pnm dr i)), (d, aI G 200 dr)]) (wc := [(rr, .inr (1, [.ref rsg, .ref rnm, .int (nI (pz dr i))])), (rsg, aI G 65 f)]) hw hw1 hk1 [1, 2] rfl rfl (fun _ h => h) rfl (by
                intro k9 h9
                match k9, h9 with
                | 0, _ => exact Or.inl ⟨by decide, rfl⟩
                | 1, _ => exact Or.inr ⟨0, rfl, rfl⟩
                | 2, _ => exact Or.inr ⟨1, rfl, rfl⟩
                | 3, _ => exact Or.inl ⟨by decide, rfl⟩
                | 4, _ => exact Or.inl ⟨by decide, rfl⟩
                | k9 + 5, h9 => exact absurd h9 (Nat.not_lt_of_le (Nat.le_add_left _ _)))
              have hk := hk.tr hk1 (fun a h => by simp at h; rcases h with rfl | rfl <;> simp)
              generalize M1 = M at hH hw hk
              have e1 : pnm dr (i + 1) = pnm dr i := by simp [pnm, h32]
              have e2 : pz dr (i + 1) = pz dr i + 1 := by simp [pz, h32]
              refine lv_iconst (v := 0) hx hb d_bk_readPattern_90 (by decide) ?_
              refine lv_istore_n (lv' := [(1, .int 0), (3, .int (dr i)), (2, .int (nI i)), (0, .ref x)]) hx hb d_bk_readPattern_91 rfl hl (by decide) rfl (fun ls hl => ?_)
              refine lv_iinc (v := nI (i + 1)) (lv' := [(2, .int (nI (i + 1))), (1, .int 0), (3, .int (dr i)), (0, .ref x)]) hx hb d_bk_readPattern_92 hl (k := 2) rfl (by first | exact nI_add _ 1 | (show nI _ + nI _ = _; rw [nI_add])) (by decide) rfl (fun ls hl => ?_)
              refine lv_goto (tgt := 11) hx hb d_bk_readPattern_95 (by decide) ?_
              exact ih (i + 1) (upd f (pz dr i) (dr i)) M _ _ _ (by omega) (by omega) (by rw [e2]; omega) (rp_app hf h32) (rp_ok (p := fun b => isL b = true ∨ isDg b = true ∨ b = 46) hok (by first | exact Or.inl h68 | exact Or.inr (Or.inr (eq46_iff.mpr h74)))) (rp_adjS hadj (Or.inr h32)) (by rw [e1, e2]; exact hw) hk hH (lv_cv (lv_sub hl [0, 1, 3] rfl) (by rw [bdg_s, h32, bI_f]; rfl))
            · skip
              obtain ⟨hge, hMe⟩ := hbf h85
              subst hMe
              refine lv_iconst (v := 0) hx hb d_bk_readPattern_88 (by decide) ?_
              exact hm_zret E hr hlk hH (by decide) (by first | exact ⟨false, pz dr i, f, pnm dr i, rfl, ⟨fun z => (by cases z), fun z => absurd z (rp_bad (by omega) h32 h68 h74)⟩, by omega, hw, fun z => absurd z (rp_bad (by omega) h32 h68 h74), hk⟩ | exact ⟨false, pz dr i, f, pnm dr i, rfl, ⟨fun z => (by cases z), fun z => absurd z (rp_long (by omega) h32 hge)⟩, by omega, hw, fun z => absurd z (rp_long (by omega) h32 hge), hk⟩) (by omega) (by omega) d_bk_readPattern_89
          · skip
            refine lv_iload_n hx hb d_bk_readPattern_71 rfl (lv_at hl 0 rfl) ?_
            refine lv_bipush (v := 46) hx hb d_bk_readPattern_72 (by decide) ?_
            refine hc_icmp_ne (x := dr i) (y := 46) (c9 := 46) hx hb (by decide) (tgt := 88) d_bk_readPattern_74 (by decide) (fun h74 => ?_) (fun h74 => ?_)
            · skip
              refine lv_iconst (v := 0) hx hb d_bk_readPattern_88 (by decide) ?_
              exact hm_zret E hr hlk hH (by decide) (by first | exact ⟨false, pz dr i, f, pnm dr i, rfl, ⟨fun z => (by cases z), fun z => absurd z (rp_bad (by omega) h32 h68 h74)⟩, by omega, hw, fun z => absurd z (rp_bad (by omega) h32 h68 h74), hk⟩ | exact ⟨false, pz dr i, f, pnm dr i, rfl, ⟨fun z => (by cases z), fun z => absurd z (rp_long (by omega) h32 hge)⟩, by omega, hw, fun z => absurd z (rp_long (by omega) h32 hge), hk⟩) (by omega) (by omega) d_bk_readPattern_89
            · skip
              refine lv_aload_n hx hb d_bk_readPattern_77 rfl (lv_at hl 3 rfl) ?_
              refine hm_get E (tB in_bk) hK hH (hw.at 0 rfl) rfl 6 (by decide) (tC wm_79) rfl d_bk_readPattern_78 ?_
              refine lv_iload_n hx hb d_bk_readPattern_81 rfl (lv_at hl 0 rfl) ?_
              have hM1 := c_rw_append l G rr rsg rnm (pz dr i) f (dr i) M (hw.sub (ws' := [(rr, .inr (1, [.ref rsg, .ref rnm, .int (nI (pz dr i))])), (rsg, aI G 65 f)]) [1, 2] rfl rfl) (by omega) H.size
              have hG1 : GoodIn w_bk_readPattern (wsV R_bk 136 R_rw y_rw_append w_rw_append) := gB_V wm_171 wm_172 wm_173 wm_4 wm_174
              refine hm_call (va_runV (y := y_rw_append) (bytes := b_rw_append) (maxL := 2) (ws := w_rw_append) (rm := { frames := 0, cells := 0, slots := 0, locals := 0 }) (own := R_bk) (index := 136) (ret := (Option.some Jvm.ClassFile.FieldType.boolean)) (C := R_rw) (As := [.int (dr i)]) (rest := []) E hM1 (cwV (y := y_rw_append) (bytes := b_rw_append) (maxL := 2) (ws := w_rw_append) (rm := { frames := 0, cells := 0, slots := 0, locals := 0 }) (own := R_bk) (index := 136) (ret := (Option.some Jvm.ClassFile.FieldType.boolean)) (C := R_rw) 1 hts hG1 rfl rfl rfl (by decide +kernel) ⟨Nat.le_of_ble_eq_true rfl, Nat.le_of_ble_eq_true rfl⟩) (hm_preV gk_w gk_s hH hg hK (hw.at 1 rfl) rfl [.int (dr i)]) rfl rfl hl.1 rfl (lv_room (Nat.le_of_ble_eq_true rfl)) d_bk_readPattern_82 ⟨(by show _ ≤ 0; omega), (by show _ ≤ 0; omega)⟩) hH (fun r1 M1 H1 locs1 hq1 hH1 => ?_)
              replace hH := hH1; clear hH1; generalize H1 = H at hH ⊢; generalize locs1 = locs at hH ⊢
              obtain ⟨b9, rfl, hbt, hbf⟩ := ap_ex hq1
              refine hb_if_ne (b := b9) hx hb (tgt := 90) d_bk_readPattern_85 (by decide) (fun h85 => ?_) (fun h85 => ?_)
              · skip
                obtain ⟨hlt, hw1, hk1⟩ := hbt h85
                have hw := hm_join (ws' := [(x, .inr (3, [.ref d, .int (nI dn), .int (nI lf), .int (nI rt), .ref pt, .ref xt, .ref rr, .ref ar])), (rr, .inr (1, [.ref rsg, .ref rnm, .int (nI (pz dr i + 1))])), (rsg, aI G 65 (upd f (pz dr i) (dr i))), (rnm, aI G 66 (pnm dr i)), (d, aI G 200 dr)]) (wc := [(rr, .inr (1, [.ref rsg, .ref rnm, .int (nI (pz dr i))])), (rsg, aI G 65 f)]) hw hw1 hk1 [1, 2] rfl rfl (fun _ h => h) rfl (by
                  intro k9 h9
                  match k9, h9 with
                  | 0, _ => exact Or.inl ⟨by decide, rfl⟩
                  | 1, _ => exact Or.inr ⟨0, rfl, rfl⟩
                  | 2, _ => exact Or.inr ⟨1, rfl, rfl⟩
                  | 3, _ => exact Or.inl ⟨by decide, rfl⟩
                  | 4, _ => exact Or.inl ⟨by decide, rfl⟩
                  | k9 + 5, h9 => exact absurd h9 (Nat.not_lt_of_le (Nat.le_add_left _ _)))
                have hk := hk.tr hk1 (fun a h => by simp at h; rcases h with rfl | rfl <;> simp)
                generalize M1 = M at hH hw hk
                have e1 : pnm dr (i + 1) = pnm dr i := by simp [pnm, h32]
                have e2 : pz dr (i + 1) = pz dr i + 1 := by simp [pz, h32]
                refine lv_iconst (v := 0) hx hb d_bk_readPattern_90 (by decide) ?_
                refine lv_istore_n (lv' := [(1, .int 0), (3, .int (dr i)), (2, .int (nI i)), (0, .ref x)]) hx hb d_bk_readPattern_91 rfl hl (by decide) rfl (fun ls hl => ?_)
                refine lv_iinc (v := nI (i + 1)) (lv' := [(2, .int (nI (i + 1))), (1, .int 0), (3, .int (dr i)), (0, .ref x)]) hx hb d_bk_readPattern_92 hl (k := 2) rfl (by first | exact nI_add _ 1 | (show nI _ + nI _ = _; rw [nI_add])) (by decide) rfl (fun ls hl => ?_)
                refine lv_goto (tgt := 11) hx hb d_bk_readPattern_95 (by decide) ?_
                exact ih (i + 1) (upd f (pz dr i) (dr i)) M _ _ _ (by omega) (by omega) (by rw [e2]; omega) (rp_app hf h32) (rp_ok (p := fun b => isL b = true ∨ isDg b = true ∨ b = 46) hok (by first | exact Or.inl h68 | exact Or.inr (Or.inr (eq46_iff.mpr h74)))) (rp_adjS hadj (Or.inr h32)) (by rw [e1, e2]; exact hw) hk hH (lv_cv (lv_sub hl [0, 1, 3] rfl) (by rw [bdg_s, h32, bI_f]; rfl))
              · skip
                obtain ⟨hge, hMe⟩ := hbf h85
                subst hMe
                refine lv_iconst (v := 0) hx hb d_bk_readPattern_88 (by decide) ?_
                exact hm_zret E hr hlk hH (by decide) (by first | exact ⟨false, pz dr i, f, pnm dr i, rfl, ⟨fun z => (by cases z), fun z => absurd z (rp_bad (by omega) h32 h68 h74)⟩, by omega, hw, fun z => absurd z (rp_bad (by omega) h32 h68 h74), hk⟩ | exact ⟨false, pz dr i, f, pnm dr i, rfl, ⟨fun z => (by cases z), fun z => absurd z (rp_long (by omega) h32 hge)⟩, by omega, hw, fun z => absurd z (rp_long (by omega) h32 hge), hk⟩) (by omega) (by omega) d_bk_readPattern_89
        · skip
          refine lv_iload_n hx hb d_bk_readPattern_35 rfl (lv_at hl 2 rfl) ?_
          refine hb_if_eq (b := bdg dr i) hx hb (tgt := 41) d_bk_readPattern_36 (by decide) (fun h36 => ?_) (fun h36 => ?_)
          · skip
            refine lv_aload_n hx hb d_bk_readPattern_41 rfl (lv_at hl 3 rfl) ?_
            refine hm_get E (tB in_bk) hK hH (hw.at 0 rfl) rfl 6 (by decide) (tC wm_79) rfl d_bk_readPattern_42 ?_
            refine lv_aload_n hx hb d_bk_readPattern_45 rfl (lv_at hl 3 rfl) ?_
            refine hm_get E (tB in_bk) hK hH (hw.at 0 rfl) rfl 6 (by decide) (tC wm_79) rfl d_bk_readPattern_46 ?_
            have hM1 := c_rw_size l G rr rsg rnm (pz dr i) M (hw.sub (ws' := [(rr, .inr (1, [.ref rsg, .ref rnm, .int (nI (pz dr i))]))]) [1] rfl rfl) H.size
            have hG1 : GoodIn w_bk_readPattern (wsV R_bk 126 R_rw y_rw_size w_rw_size) := gB_V wm_114 wm_115 wm_116 wm_4 wm_117
            refine hm_call (va_runV (y := y_rw_size) (bytes := b_rw_size) (maxL := 1) (ws := w_rw_size) (rm := { frames := 0, cells := 0, slots := 0, locals := 0 }) (own := R_bk) (index := 126) (ret := (Option.some Jvm.ClassFile.FieldType.int)) (C := R_rw) (As := []) (rest := [.ref rr]) E hM1 (cwV (y := y_rw_size) (bytes := b_rw_size) (maxL := 1) (ws := w_rw_size) (rm := { frames := 0, cells := 0, slots := 0, locals := 0 }) (own := R_bk) (index := 126) (ret := (Option.some Jvm.ClassFile.FieldType.int)) (C := R_rw) 0 hts hG1 rfl rfl rfl (by decide +kernel) ⟨Nat.le_of_ble_eq_true rfl, Nat.le_of_ble_eq_true rfl⟩) (hm_preV gk_w gk_s hH hg hK (hw.at 1 rfl) rfl []) rfl rfl hl.1 rfl (lv_room (Nat.le_of_ble_eq_true rfl)) d_bk_readPattern_49 ⟨(by show _ ≤ 0; omega), (by show _ ≤ 0; omega)⟩) hH (fun r1 M1 H1 locs1 hq1 hH1 => ?_)
            obtain ⟨rfl, e1⟩ := hq1
            replace hH := hH1; rw [e1] at hH; clear hH1 e1; generalize H1 = H at hH ⊢; generalize locs1 = locs at hH ⊢
            refine lv_iload_n hx hb d_bk_readPattern_52 rfl (lv_at hl 0 rfl) ?_
            refine lv_bipush (v := 48) hx hb d_bk_readPattern_53 (by decide) ?_
            refine lv_isub hx hb d_bk_readPattern_55 ?_
            have hM1 := c_rw_setNumber l G rr rsg rnm (pz dr i) (pnm dr i) (pz dr i) (dr i - 48) M (hw.sub (ws' := [(rr, .inr (1, [.ref rsg, .ref rnm, .int (nI (pz dr i))])), (rnm, aI G 66 (pnm dr i))]) [1, 3] rfl rfl) (by omega) H.size
            have hG1 : GoodIn w_bk_readPattern (wsV R_bk 129 R_rw y_rw_setNumber w_rw_setNumber) := gB_V wm_164 wm_165 wm_166 wm_4 wm_167
            refine hm_call (va_runV (y := y_rw_setNumber) (bytes := b_rw_setNumber) (maxL := 3) (ws := w_rw_setNumber) (rm := { frames := 0, cells := 0, slots := 0, locals := 0 }) (own := R_bk) (index := 129) (ret := (Option.none : Option Jvm.ClassFile.FieldType)) (C := R_rw) (As := [.int (nI (pz dr i)), .int ((dr i) - 48)]) (rest := []) E hM1 (cwV (y := y_rw_setNumber) (bytes := b_rw_setNumber) (maxL := 3) (ws := w_rw_setNumber) (rm := { frames := 0, cells := 0, slots := 0, locals := 0 }) (own := R_bk) (index := 129) (ret := (Option.none : Option Jvm.ClassFile.FieldType)) (C := R_rw) 2 hts hG1 rfl rfl rfl (by decide +kernel) ⟨Nat.le_of_ble_eq_true rfl, Nat.le_of_ble_eq_true rfl⟩) (hm_preV gk_w gk_s hH hg hK (hw.at 1 rfl) rfl [.int (nI (pz dr i)), .int ((dr i) - 48)]) rfl rfl hl.1 rfl (lv_room (Nat.le_of_ble_eq_true rfl)) d_bk_readPattern_56 ⟨(by show _ ≤ 0; omega), (by show _ ≤ 0; omega)⟩) hH (fun r1 M1 H1 locs1 hq1 hH1 => ?_)
            replace hH := hH1; clear hH1; generalize H1 = H at hH ⊢; generalize locs1 = locs at hH ⊢
            obtain ⟨rfl, hw1, hk1⟩ := hq1
            have hw := hm_join (ws' := [(x, .inr (3, [.ref d, .int (nI dn), .int (nI lf), .int (nI rt), .ref pt, .ref xt, .ref rr, .ref ar])), (rr, .inr (1, [.ref rsg, .ref rnm, .int (nI (pz dr i))])), (rsg, aI G 65 f), (rnm, aI G 66 (upd (pnm dr i) (pz dr i) (dr i - 48))), (d, aI G 200 dr)]) (wc := [(rr, .inr (1, [.ref rsg, .ref rnm, .int (nI (pz dr i))])), (rnm, aI G 66 (pnm dr i))]) hw hw1 hk1 [1, 3] rfl rfl (fun a h => by simp at h; simp [h]) rfl (by
              intro k9 h9
              match k9, h9 with
              | 0, _ => exact Or.inl ⟨by decide, rfl⟩
              | 1, _ => exact Or.inr ⟨0, rfl, rfl⟩
              | 2, _ => exact Or.inl ⟨by decide, rfl⟩
              | 3, _ => exact Or.inr ⟨1, rfl, rfl⟩
              | 4, _ => exact Or.inl ⟨by decide, rfl⟩
              | k9 + 5, h9 => exact absurd h9 (Nat.not_lt_of_le (Nat.le_add_left _ _)))
            have hk := hk.tr hk1 (fun a h => by simp at h; simp [h])
            generalize M1 = M at hH hw hk
            have e1 : pnm dr (i + 1) = upd (pnm dr i) (pz dr i) (dr i - 48) := by simp [pnm, h32]
            have e2 : pz dr (i + 1) = pz dr i := by simp [pz, h32]
            refine lv_iconst (v := 1) hx hb d_bk_readPattern_59 (by decide) ?_
            refine lv_istore_n (lv' := [(1, .int 1), (3, .int (dr i)), (2, .int (nI i)), (0, .ref x)]) hx hb d_bk_readPattern_60 rfl hl (by decide) rfl (fun ls hl => ?_)
            refine lv_goto (tgt := 92) hx hb d_bk_readPattern_61 (by decide) ?_
            refine lv_iinc (v := nI (i + 1)) (lv' := [(2, .int (nI (i + 1))), (1, .int 1), (3, .int (dr i)), (0, .ref x)]) hx hb d_bk_readPattern_92 hl (k := 2) rfl (by first | exact nI_add _ 1 | (show nI _ + nI _ = _; rw [nI_add])) (by decide) rfl (fun ls hl => ?_)
            refine lv_goto (tgt := 11) hx hb d_bk_readPattern_95 (by decide) ?_
            exact ih (i + 1) f M _ _ _ (by omega) (by omega) (by rw [e2]; exact hp) (by rw [e2]; intro j hj; rw [hf j hj]; simp [psg, h32]) (rp_ok (p := fun b => isL b = true ∨ isDg b = true ∨ b = 46) hok (Or.inr (Or.inl h32))) (rp_adjS hadj (Or.inl h36)) (by rw [e1, e2]; exact hw) hk hH (lv_cv (lv_sub hl [0, 1, 3] rfl) (by rw [bdg_s, h32, bI_t]; rfl))
          · skip
            refine lv_iconst (v := 0) hx hb d_bk_readPattern_39 (by decide) ?_
            exact hm_zret E hr hlk hH (by decide) (⟨false, pz dr i, f, pnm dr i, rfl, ⟨fun z => (by cases z), fun z => absurd z (rp_adj (by omega) h32 h36)⟩, by omega, hw, fun z => absurd z (rp_adj (by omega) h32 h36), hk⟩) (by omega) (by omega) d_bk_readPattern_40
  refine lv_aload_n hx hb d_bk_readPattern_0 rfl (lv_at hl 0 rfl) ?_
  refine hm_get E (tB in_bk) hK hH (hw.at 0 rfl) rfl 6 (by decide) (tC wm_79) rfl d_bk_readPattern_1 ?_
  have hM1 := c_rw_clear l G rr rsg rnm sz g M (hw.sub (ws' := [(rr, .inr (1, [.ref rsg, .ref rnm, .int (nI sz)])), (rnm, aI G 66 g)]) [1, 3] rfl rfl) s.heap.size
  have hG1 : GoodIn w_bk_readPattern (wsV R_bk 115 R_rw y_rw_clear w_rw_clear) := gB_V wm_153 wm_154 wm_155 wm_4 wm_156
  refine hm_call (va_runV (y := y_rw_clear) (bytes := b_rw_clear) (maxL := 1) (ws := w_rw_clear) (rm := { frames := 1, cells := 0, slots := 0, locals := 23 }) (own := R_bk) (index := 115) (ret := (Option.none : Option Jvm.ClassFile.FieldType)) (C := R_rw) (As := []) (rest := []) E hM1 (cwV (y := y_rw_clear) (bytes := b_rw_clear) (maxL := 1) (ws := w_rw_clear) (rm := { frames := 1, cells := 0, slots := 0, locals := 23 }) (own := R_bk) (index := 115) (ret := (Option.none : Option Jvm.ClassFile.FieldType)) (C := R_rw) 0 hts hG1 rfl rfl rfl (by decide +kernel) ⟨Nat.le_of_ble_eq_true rfl, Nat.le_of_ble_eq_true rfl⟩) (hm_preV gk_w gk_s hH hg hK (hw.at 1 rfl) rfl []) rfl rfl hl.1 rfl (lv_room (Nat.le_of_ble_eq_true rfl)) d_bk_readPattern_4 ⟨(by show _ ≤ 0; omega), (by show _ ≤ 0; omega)⟩) hH (fun r1 M1 H1 locs1 hq1 hH1 => ?_)
  replace hH := hH1; clear hH1; generalize H1 = H at hH ⊢; generalize locs1 = locs at hH ⊢
  obtain ⟨rfl, hw1, hk1⟩ := hq1
  have hw := hm_join (ws' := [(x, .inr (3, [.ref d, .int (nI dn), .int (nI lf), .int (nI rt), .ref pt, .ref xt, .ref rr, .ref ar])), (rr, .inr (1, [.ref rsg, .ref rnm, .int (nI 0)])), (rsg, aI G 65 f), (rnm, aI G 66 (fun _ => 0)), (d, aI G 200 dr)]) (wc := [(rr, .inr (1, [.ref rsg, .ref rnm, .int (nI sz)])), (rnm, aI G 66 g)]) hw hw1 hk1 [1, 3] rfl rfl (fun a h => h) rfl (by
    intro k9 h9
    match k9, h9 with
    | 0, _ => exact Or.inl ⟨by decide, rfl⟩
    | 1, _ => exact Or.inr ⟨0, rfl, rfl⟩
    | 2, _ => exact Or.inl ⟨by decide, rfl⟩
    | 3, _ => exact Or.inr ⟨1, rfl, rfl⟩
    | 4, _ => exact Or.inl ⟨by decide, rfl⟩
    | k9 + 5, h9 => exact absurd h9 (Nat.not_lt_of_le (Nat.le_add_left _ _)))
  have hk := hk.tr hk1 (fun a h => by simp at h; rcases h with rfl | rfl <;> simp)
  generalize M1 = M at hH hw hk
  refine lv_iconst (v := 0) hx hb d_bk_readPattern_7 (by decide) ?_
  refine lv_istore_n (lv' := [(1, .int 0), (0, .ref x)]) hx hb d_bk_readPattern_8 rfl hl (by decide) rfl (fun ls hl => ?_)
  refine lv_iconst (v := 0) hx hb d_bk_readPattern_9 (by decide) ?_
  refine lv_istore_n (lv' := [(2, .int 0), (1, .int 0), (0, .ref x)]) hx hb d_bk_readPattern_10 rfl hl (by decide) rfl (fun ls hl => ?_)
  exact L11 (dn + 1) 0 f M _ _ _ (by omega) (by omega) (by simp [pz]) (fun j hj => by simp [pz] at hj) (fun k9 h9 => absurd h9 (by omega)) (fun k9 h9 => absurd h9 (by omega)) hw hk hH (lv_cv (lv_sub hl [0, 1, 2] rfl) (by rw [bdg_0, bI_f]; rfl))
