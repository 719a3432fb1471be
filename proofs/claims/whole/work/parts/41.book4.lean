abbrev q_bk_readException (G : hG) (x d dn lf rt pt xt rr ar : Nat) (rsg rnm sz : Nat) (f g dr : Nat → Int32) (M : hM) : Option Value → hM → Prop := fun rv M' => ∃ (b : Bool) (sz9 : Nat) (f9 g9 : Nat → Int32), rv = some (.int (bI b)) ∧ (b = true ↔ xOk dr dn) ∧ sz9 ≤ 65 ∧ hm_has M' [(x, .inr (3, [.ref d, .int (nI dn), .int (nI lf), .int (nI rt), .ref pt, .ref xt, .ref rr, .ref ar])), (rr, .inr (1, [.ref rsg, .ref rnm, .int (nI sz9)])), (rsg, aI G 65 f9), (rnm, aI G 66 g9), (d, aI G 200 dr)] ∧ (xOk dr dn → sz9 = xz dr dn + 2 ∧ ag f9 (wrow (xsg dr dn) (xz dr dn)) sz9 ∧ g9 = xnm dr dn) ∧ hm_kp (fun a => a ∈ [rr, rsg, rnm]) M M'
set_option maxHeartbeats 4000000 in
set_option maxRecDepth 100000 in
theorem c_bk_readException (l : Launch) (G : hG) (x d dn lf rt pt xt rr ar : Nat) (rsg rnm sz : Nat) (f g dr : Nat → Int32) (M : hM) (hw : hm_has M [(x, .inr (3, [.ref d, .int (nI dn), .int (nI lf), .int (nI rt), .ref pt, .ref xt, .ref rr, .ref ar])), (rr, .inr (1, [.ref rsg, .ref rnm, .int (nI sz)])), (rsg, aI G 65 f), (rnm, aI G 66 g), (d, aI G 200 dr)]) (hdn : dn ≤ 200) : Ct (gk G) l G.1 vwC y_bk_readException w_bk_readException { frames := 2, cells := 0, slots := 0, locals := 43 } ([.ref x] : List Value) M (q_bk_readException G x d dn lf rt pt xt rr ar rsg rnm sz f g dr M) 0 0 := by
  refine Ct.ofW (cc := b_bk_readException) (maxL := 4) (ret := (Option.some Jvm.ClassFile.FieldType.boolean)) (by decide) rfl (Nat.le_of_ble_eq_true rfl) (fun p e s m below meth c A ls E hr hlk hin hg hH hl => ?_)
  have hl : lv_has ls 4 [(0, .ref x)] := hl
  have hx := E.1; have hb := E.2.1; have hml := E.2.2.1; have hown := E.2.2.2.1; have hts := E.2.2.2.2; have hK := hg.1
  obtain ⟨M0, hM0⟩ : ∃ M0 : hM, M0 = M := ⟨M, rfl⟩
  rw [show q_bk_readException G x d dn lf rt pt xt rr ar rsg rnm sz f g dr M = q_bk_readException G x d dn lf rt pt xt rr ar rsg rnm sz f g dr M0 by rw [hM0]]
  have hk : hm_kp (fun a => a ∈ [rr, rsg, rnm]) M0 M := by rw [hM0]; exact hm_kp.rf
  have L21 : ∀ (k : Nat) (i : Nat) (f : Nat → Int32) (M : hM) (H : Heap) (locs : List Loc) (ls : Array Slot), dn + 1 ≤ i + k → i ≤ dn → xz dr i + 1 ≤ 65 → rxf dr i f → (∀ k9, k9 < i → xPc dr k9) → hm_has M [(x, .inr (3, [.ref d, .int (nI dn), .int (nI lf), .int (nI rt), .ref pt, .ref xt, .ref rr, .ref ar])), (rr, .inr (1, [.ref rsg, .ref rnm, .int (nI (xz dr i + 1))])), (rsg, aI G 65 f), (rnm, aI G 66 (xnm dr i)), (d, aI G 200 dr)] → hm_kp (fun a => a ∈ [rr, rsg, rnm]) M0 M → hm_I G.1 vwC A s.heap M H locs → lv_has ls 4 [(2, .int (nI i)), (1, .int (bI (blt dr i))), (0, .ref x)] → W p l e { frames := 2, cells := 0, slots := 0, locals := 43 } s m ([.ref x] : List Value).toArray below meth c H locs 0 0 (MQ below (hm_Q G.1 vwC (q_bk_readException G x d dn lf rt pt xt rr ar rsg rnm sz f g dr M0) A) ([.ref x] : List Value).toArray s 0 0 A) (F0 m 21 ls []) := by
    intro k
    induction k with
    | zero => intro i f M H locs ls hfu hi hp hf hok; exact absurd hfu (by omega)
    | succ k ih =>
      intro i f M H locs ls hfu hi hp hf hok hw hk hH hl
      refine lv_iload_n hx hb d_bk_readException_21 rfl (lv_at hl 0 rfl) ?_
      refine lv_aload_n hx hb d_bk_readException_22 rfl (lv_at hl 2 rfl) ?_
      refine hm_get E (tB in_bk) hK hH (hw.at 0 rfl) rfl 1 (by decide) (tC wm_74) rfl d_bk_readException_23 ?_
      refine hn_icmp_ge (a := i) (b := dn) hx hb (by omega) (by omega) (tgt := 96) d_bk_readException_26 (by decide) (fun h26 => ?_) (fun h26 => ?_)
      · skip
        have hie : i = dn := by omega
        rw [hie] at hp hf hok hw hl
        refine lv_iload_n hx hb d_bk_readException_96 rfl (lv_at hl 1 rfl) ?_
        refine hb_if_eq (b := blt dr dn) hx hb (tgt := 116) d_bk_readException_97 (by decide) (fun h97 => ?_) (fun h97 => ?_)
        · skip
          refine lv_iconst (v := 0) hx hb d_bk_readException_116 (by decide) ?_
          exact hm_zret E hr hlk hH (by decide) (by first | exact ⟨true, xz dr dn + 1 + 1, upd f (xz dr dn + 1) 46, xnm dr dn, rfl, ⟨fun _ => rx_ok hok h97 (by omega), fun _ => rfl⟩, by omega, hw, fun _ => ⟨rfl, rx_row hf, rfl⟩, hk⟩ | exact ⟨false, xz dr dn + 1, f, xnm dr dn, rfl, ⟨fun z => (by cases z), fun z => absurd z (rx_end h97)⟩, by omega, hw, fun z => absurd z (rx_end h97), hk⟩ | exact ⟨false, xz dr dn + 1, f, xnm dr dn, rfl, ⟨fun z => (by cases z), fun z => absurd z (fun z9 => absurd z9.2.2.2 (by omega))⟩, by omega, hw, fun z => absurd z (fun z9 => absurd z9.2.2.2 (by omega)), hk⟩) (by omega) (by omega) d_bk_readException_117
        · skip
          refine lv_aload_n hx hb d_bk_readException_100 rfl (lv_at hl 2 rfl) ?_
          refine hm_get E (tB in_bk) hK hH (hw.at 0 rfl) rfl 6 (by decide) (tC wm_79) rfl d_bk_readException_101 ?_
          refine lv_bipush (v := 46) hx hb d_bk_readException_104 (by decide) ?_
          have hM1 := c_rw_append l G rr rsg rnm (xz dr dn + 1) f 46 M (hw.sub (ws' := [(rr, .inr (1, [.ref rsg, .ref rnm, .int (nI (xz dr dn + 1))])), (rsg, aI G 65 f)]) [1, 2] rfl rfl) (by omega) H.size
          have hG1 : GoodIn w_bk_readException (wsV R_bk 136 R_rw y_rw_append w_rw_append) := gB_V wm_171 wm_172 wm_173 wm_4 wm_174
          refine hm_call (va_runV (y := y_rw_append) (bytes := b_rw_append) (maxL := 2) (ws := w_rw_append) (rm := { frames := 0, cells := 0, slots := 0, locals := 0 }) (own := R_bk) (index := 136) (ret := (Option.some Jvm.ClassFile.FieldType.boolean)) (C := R_rw) (As := [.int 46]) (rest := []) E hM1 (cwV (y := y_rw_append) (bytes := b_rw_append) (maxL := 2) (ws := w_rw_append) (rm := { frames := 0, cells := 0, slots := 0, locals := 0 }) (own := R_bk) (index := 136) (ret := (Option.some Jvm.ClassFile.FieldType.boolean)) (C := R_rw) 1 hts hG1 rfl rfl rfl (by decide +kernel) ⟨Nat.le_of_ble_eq_true rfl, Nat.le_of_ble_eq_true rfl⟩) (hm_preV gk_w gk_s hH hg hK (hw.at 1 rfl) rfl [.int 46]) rfl rfl hl.1 rfl (lv_room (Nat.le_of_ble_eq_true rfl)) d_bk_readException_106 ⟨(by show _ ≤ 0; omega), (by show _ ≤ 0; omega)⟩) hH (fun r1 M1 H1 locs1 hq1 hH1 => ?_)
          replace hH := hH1; clear hH1; generalize H1 = H at hH ⊢; generalize locs1 = locs at hH ⊢
          obtain ⟨b9, rfl, hbt, hbf⟩ := ap_ex hq1
          refine hb_if_eq (b := b9) hx hb (tgt := 116) d_bk_readException_109 (by decide) (fun h109 => ?_) (fun h109 => ?_)
          · skip
            obtain ⟨hge, hMe⟩ := hbf h109
            subst hMe
            refine lv_iconst (v := 0) hx hb d_bk_readException_116 (by decide) ?_
            exact hm_zret E hr hlk hH (by decide) (by first | exact ⟨true, xz dr dn + 1 + 1, upd f (xz dr dn + 1) 46, xnm dr dn, rfl, ⟨fun _ => rx_ok hok h97 (by omega), fun _ => rfl⟩, by omega, hw, fun _ => ⟨rfl, rx_row hf, rfl⟩, hk⟩ | exact ⟨false, xz dr dn + 1, f, xnm dr dn, rfl, ⟨fun z => (by cases z), fun z => absurd z (rx_end h97)⟩, by omega, hw, fun z => absurd z (rx_end h97), hk⟩ | exact ⟨false, xz dr dn + 1, f, xnm dr dn, rfl, ⟨fun z => (by cases z), fun z => absurd z (fun z9 => absurd z9.2.2.2 (by omega))⟩, by omega, hw, fun z => absurd z (fun z9 => absurd z9.2.2.2 (by omega)), hk⟩) (by omega) (by omega) d_bk_readException_117
          · skip
            obtain ⟨hlt, hw1, hk1⟩ := hbt h109
            have hw := hm_join (ws' := [(x, .inr (3, [.ref d, .int (nI dn), .int (nI lf), .int (nI rt), .ref pt, .ref xt, .ref rr, .ref ar])), (rr, .inr (1, [.ref rsg, .ref rnm, .int (nI (xz dr dn + 1 + 1))])), (rsg, aI G 65 (upd f (xz dr dn + 1) 46)), (rnm, aI G 66 (xnm dr dn)), (d, aI G 200 dr)]) (wc := [(rr, .inr (1, [.ref rsg, .ref rnm, .int (nI (xz dr dn + 1))])), (rsg, aI G 65 f)]) hw hw1 hk1 [1, 2] rfl rfl (fun _ h => h) rfl (by
              intro k9 h9
              match k9, h9 with
              | 0, _ => exact Or.inl ⟨by decide, rfl⟩
              | 1, _ => exact Or.inr ⟨0, rfl, rfl⟩
              | 2, _ => exact Or.inr ⟨1, rfl, rfl⟩
              | 3, _ => exact Or.inl ⟨by decide, rfl⟩
              | 4, _ => exact Or.inl ⟨by decide, rfl⟩
              | k9 + 5, h9 => exact absurd h9 (Nat.not_lt_of_le (Nat.le_add_left _ _)))
            have hk := hk.tr hk1 (fun a h => by simp at h; rcases h with rfl | rfl <;> simp)
            generalize M1 = M at hH hw hk
            refine lv_iconst (v := 1) hx hb d_bk_readException_112 (by decide) ?_
            refine lv_goto (tgt := 117) hx hb d_bk_readException_113 (by decide) ?_
            exact hm_zret E hr hlk hH (by decide) (by first | exact ⟨true, xz dr dn + 1 + 1, upd f (xz dr dn + 1) 46, xnm dr dn, rfl, ⟨fun _ => rx_ok hok h97 (by omega), fun _ => rfl⟩, by omega, hw, fun _ => ⟨rfl, rx_row hf, rfl⟩, hk⟩ | exact ⟨false, xz dr dn + 1, f, xnm dr dn, rfl, ⟨fun z => (by cases z), fun z => absurd z (rx_end h97)⟩, by omega, hw, fun z => absurd z (rx_end h97), hk⟩ | exact ⟨false, xz dr dn + 1, f, xnm dr dn, rfl, ⟨fun z => (by cases z), fun z => absurd z (fun z9 => absurd z9.2.2.2 (by omega))⟩, by omega, hw, fun z => absurd z (fun z9 => absurd z9.2.2.2 (by omega)), hk⟩) (by omega) (by omega) d_bk_readException_117
      · skip
        refine lv_aload_n hx hb d_bk_readException_29 rfl (lv_at hl 2 rfl) ?_
        refine hm_get E (tB in_bk) hK hH (hw.at 0 rfl) rfl 0 (by decide) (tC wm_73) rfl d_bk_readException_30 ?_
        refine lv_iload_n hx hb d_bk_readException_33 rfl (lv_at hl 0 rfl) ?_
        have hM1 := c_bk_elementAt l G d 200 dr i M (hw.sub (ws' := [(d, aI G 200 dr)]) [4] rfl rfl) (by decide) (by omega) H.size
        have hG1 : GoodIn w_bk_readException (wsS R_bk 118 y_bk_elementAt w_bk_elementAt) := gB_S wm_160 wm_126 wm_1 wm_127
        refine hm_call (va_runS (y := y_bk_elementAt) (bytes := b_bk_elementAt) (maxL := 2) (ws := w_bk_elementAt) (rm := { frames := 0, cells := 0, slots := 0, locals := 0 }) (own := R_bk) (index := 118) (ret := (Option.some Jvm.ClassFile.FieldType.int)) (As := [.ref d, .int (nI i)]) (rest := []) E hM1 (cwS (y := y_bk_elementAt) (bytes := b_bk_elementAt) (maxL := 2) (ws := w_bk_elementAt) (rm := { frames := 0, cells := 0, slots := 0, locals := 0 }) (own := R_bk) (index := 118) (ret := (Option.some Jvm.ClassFile.FieldType.int)) 2 hts hG1 rfl rfl rfl (by decide +kernel) ⟨Nat.le_of_ble_eq_true rfl, Nat.le_of_ble_eq_true rfl⟩) (hm_preS gk_w gk_s hH hg [.ref d, .int (nI i)]) rfl rfl hl.1 rfl (lv_room (Nat.le_of_ble_eq_true rfl)) d_bk_readException_34 ⟨(by show _ ≤ 0; omega), (by show _ ≤ 0; omega)⟩) hH (fun r1 M1 H1 locs1 hq1 hH1 => ?_)
        obtain ⟨rfl, e1⟩ := hq1
        replace hH := hH1; rw [e1] at hH; clear hH1 e1; generalize H1 = H at hH ⊢; generalize locs1 = locs at hH ⊢
        refine hm_top (w := .int (dr i)) (by rw [if_pos (by omega)]) ?_
        refine lv_istore_n (lv' := [(3, .int (dr i)), (2, .int (nI i)), (1, .int (bI (blt dr i))), (0, .ref x)]) hx hb d_bk_readException_37 rfl hl (by decide) rfl (fun ls hl => ?_)
        refine lv_iload_n hx hb d_bk_readException_38 rfl (lv_at hl 0 rfl) ?_
        refine lv_bipush (v := 45) hx hb d_bk_readException_39 (by decide) ?_
        refine hc_icmp_ne (x := dr i) (y := 45) (c9 := 45) hx hb (by decide) (tgt := 68) d_bk_readException_41 (by decide) (fun h41 => ?_) (fun h41 => ?_)
        · skip
          refine lv_iload_n hx hb d_bk_readException_68 rfl (lv_at hl 0 rfl) ?_
          have hM1 := c_bk_isLetter l G (dr i) M H.size
          have hG1 : GoodIn w_bk_readException (wsS R_bk 133 y_bk_isLetter w_bk_isLetter) := gB_S wm_168 wm_169 wm_1 wm_170
          refine hm_call (va_runS (y := y_bk_isLetter) (bytes := b_bk_isLetter) (maxL := 1) (ws := w_bk_isLetter) (rm := { frames := 0, cells := 0, slots := 0, locals := 0 }) (own := R_bk) (index := 133) (ret := (Option.some Jvm.ClassFile.FieldType.boolean)) (As := [.int (dr i)]) (rest := []) E hM1 (cwS (y := y_bk_isLetter) (bytes := b_bk_isLetter) (maxL := 1) (ws := w_bk_isLetter) (rm := { frames := 0, cells := 0, slots := 0, locals := 0 }) (own := R_bk) (index := 133) (ret := (Option.some Jvm.ClassFile.FieldType.boolean)) 1 hts hG1 rfl rfl rfl (by decide +kernel) ⟨Nat.le_of_ble_eq_true rfl, Nat.le_of_ble_eq_true rfl⟩) (hm_preS gk_w gk_s hH hg [.int (dr i)]) rfl rfl hl.1 rfl (lv_room (Nat.le_of_ble_eq_true rfl)) d_bk_readException_69 ⟨(by show _ ≤ 0; omega), (by show _ ≤ 0; omega)⟩) hH (fun r1 M1 H1 locs1 hq1 hH1 => ?_)
          obtain ⟨rfl, e1⟩ := hq1
          replace hH := hH1; rw [e1] at hH; clear hH1 e1; generalize H1 = H at hH ⊢; generalize locs1 = locs at hH ⊢
          refine hb_if_eq (b := isL (dr i)) hx hb (tgt := 86) d_bk_readException_72 (by decide) (fun h72 => ?_) (fun h72 => ?_)
          · skip
            refine lv_iconst (v := 0) hx hb d_bk_readException_86 (by decide) ?_
            exact hm_zret E hr hlk hH (by decide) (by first | exact ⟨false, xz dr i + 1, f, xnm dr i, rfl, ⟨fun z => (by cases z), fun z => absurd z (rx_bad (by omega) h72 (Or.inl h41))⟩, by omega, hw, fun z => absurd z (rx_bad (by omega) h72 (Or.inl h41)), hk⟩ | exact ⟨false, xz dr i + 1, f, xnm dr i, rfl, ⟨fun z => (by cases z), fun z => absurd z (rx_bad (by omega) h72 (Or.inr h45))⟩, by omega, hw, fun z => absurd z (rx_bad (by omega) h72 (Or.inr h45)), hk⟩ | exact ⟨false, xz dr i + 1, f, xnm dr i, rfl, ⟨fun z => (by cases z), fun z => absurd z (rx_long (by omega) h72 hge)⟩, by omega, hw, fun z => absurd z (rx_long (by omega) h72 hge), hk⟩) (by omega) (by omega) d_bk_readException_87
          · skip
            refine lv_aload_n hx hb d_bk_readException_75 rfl (lv_at hl 3 rfl) ?_
            refine hm_get E (tB in_bk) hK hH (hw.at 0 rfl) rfl 6 (by decide) (tC wm_79) rfl d_bk_readException_76 ?_
            refine lv_iload_n hx hb d_bk_readException_79 rfl (lv_at hl 0 rfl) ?_
            have hM1 := c_rw_append l G rr rsg rnm (xz dr i + 1) f (dr i) M (hw.sub (ws' := [(rr, .inr (1, [.ref rsg, .ref rnm, .int (nI (xz dr i + 1))])), (rsg, aI G 65 f)]) [1, 2] rfl rfl) (by omega) H.size
            have hG1 : GoodIn w_bk_readException (wsV R_bk 136 R_rw y_rw_append w_rw_append) := gB_V wm_171 wm_172 wm_173 wm_4 wm_174
            refine hm_call (va_runV (y := y_rw_append) (bytes := b_rw_append) (maxL := 2) (ws := w_rw_append) (rm := { frames := 0, cells := 0, slots := 0, locals := 0 }) (own := R_bk) (index := 136) (ret := (Option.some Jvm.ClassFile.FieldType.boolean)) (C := R_rw) (As := [.int (dr i)]) (rest := []) E hM1 (cwV (y := y_rw_append) (bytes := b_rw_append) (maxL := 2) (ws := w_rw_append) (rm := { frames := 0, cells := 0, slots := 0, locals := 0 }) (own := R_bk) (index := 136) (ret := (Option.some Jvm.ClassFile.FieldType.boolean)) (C := R_rw) 1 hts hG1 rfl rfl rfl (by decide +kernel) ⟨Nat.le_of_ble_eq_true rfl, Nat.le_of_ble_eq_true rfl⟩) (hm_preV gk_w gk_s hH hg hK (hw.at 1 rfl) rfl [.int (dr i)]) rfl rfl hl.1 rfl (lv_room (Nat.le_of_ble_eq_true rfl)) d_bk_readException_80 ⟨(by show _ ≤ 0; omega), (by show _ ≤ 0; omega)⟩) hH (fun r1 M1 H1 locs1 hq1 hH1 => ?_)
            replace hH := hH1; clear hH1; generalize H1 = H at hH ⊢; generalize locs1 = locs at hH ⊢
            obtain ⟨b9, rfl, hbt, hbf⟩ := ap_ex hq1
            refine hb_if_ne (b := b9) hx hb (tgt := 88) d_bk_readException_83 (by decide) (fun h83 => ?_) (fun h83 => ?_)
            · skip
              obtain ⟨hlt, hw1, hk1⟩ := hbt h83
              have hw := hm_join (ws' := [(x, .inr (3, [.ref d, .int (nI dn), .int (nI lf), .int (nI rt), .ref pt, .ref xt, .ref rr, .ref ar])), (rr, .inr (1, [.ref rsg, .ref rnm, .int (nI (xz dr i + 1 + 1))])), (rsg, aI G 65 (upd f (xz dr i + 1) (dr i))), (rnm, aI G 66 (xnm dr i)), (d, aI G 200 dr)]) (wc := [(rr, .inr (1, [.ref rsg, .ref rnm, .int (nI (xz dr i + 1))])), (rsg, aI G 65 f)]) hw hw1 hk1 [1, 2] rfl rfl (fun _ h => h) rfl (by
                intro k9 h9
                match k9, h9 with
                | 0, _ => exact Or.inl ⟨by decide, rfl⟩
                | 1, _ => exact Or.inr ⟨0, rfl, rfl⟩
                | 2, _ => exact Or.inr ⟨1, rfl, rfl⟩
                | 3, _ => exact Or.inl ⟨by decide, rfl⟩
                | 4, _ => exact Or.inl ⟨by decide, rfl⟩
                | k9 + 5, h9 => exact absurd h9 (Nat.not_lt_of_le (Nat.le_add_left _ _)))
              have hk := hk.tr hk1 (fun a h => by simp at h; rcases h with rfl | rfl <;> simp)
              generalize M1 = M at hH hw hk
              have e1 : xnm dr (i + 1) = xnm dr i := by simp [xnm, h72]
              have e2 : xz dr (i + 1) = xz dr i + 1 := by simp [xz, h72]
              refine lv_iconst (v := 1) hx hb d_bk_readException_88 (by decide) ?_
              refine lv_istore_n (lv' := [(1, .int 1), (3, .int (dr i)), (2, .int (nI i)), (0, .ref x)]) hx hb d_bk_readException_89 rfl hl (by decide) rfl (fun ls hl => ?_)
              refine lv_iinc (v := nI (i + 1)) (lv' := [(2, .int (nI (i + 1))), (1, .int 1), (3, .int (dr i)), (0, .ref x)]) hx hb d_bk_readException_90 hl (k := 2) rfl (by first | exact nI_add _ 1 | (show nI _ + nI _ = _; rw [nI_add])) (by decide) rfl (fun ls hl => ?_)
              refine lv_goto (tgt := 21) hx hb d_bk_readException_93 (by decide) ?_
              exact ih (i + 1) (upd f (xz dr i + 1) (dr i)) M _ _ _ (by omega) (by omega) (by rw [e2]; omega) (rx_app hf h72) (rx_S hok (Or.inl h72)) (by rw [e1, e2]; exact hw) hk hH (lv_cv (lv_sub hl [0, 1, 3] rfl) (by rw [blt_s, h72, bI_t]; rfl))
            · skip
              obtain ⟨hge, hMe⟩ := hbf h83
              subst hMe
              refine lv_iconst (v := 0) hx hb d_bk_readException_86 (by decide) ?_
              exact hm_zret E hr hlk hH (by decide) (by first | exact ⟨false, xz dr i + 1, f, xnm dr i, rfl, ⟨fun z => (by cases z), fun z => absurd z (rx_bad (by omega) h72 (Or.inl h41))⟩, by omega, hw, fun z => absurd z (rx_bad (by omega) h72 (Or.inl h41)), hk⟩ | exact ⟨false, xz dr i + 1, f, xnm dr i, rfl, ⟨fun z => (by cases z), fun z => absurd z (rx_bad (by omega) h72 (Or.inr h45))⟩, by omega, hw, fun z => absurd z (rx_bad (by omega) h72 (Or.inr h45)), hk⟩ | exact ⟨false, xz dr i + 1, f, xnm dr i, rfl, ⟨fun z => (by cases z), fun z => absurd z (rx_long (by omega) h72 hge)⟩, by omega, hw, fun z => absurd z (rx_long (by omega) h72 hge), hk⟩) (by omega) (by omega) d_bk_readException_87
        · skip
          refine lv_iload_n hx hb d_bk_readException_44 rfl (lv_at hl 2 rfl) ?_
          refine hb_if_eq (b := blt dr i) hx hb (tgt := 68) d_bk_readException_45 (by decide) (fun h45 => ?_) (fun h45 => ?_)
          · skip
            refine lv_iload_n hx hb d_bk_readException_68 rfl (lv_at hl 0 rfl) ?_
            have hM1 := c_bk_isLetter l G (dr i) M H.size
            have hG1 : GoodIn w_bk_readException (wsS R_bk 133 y_bk_isLetter w_bk_isLetter) := gB_S wm_168 wm_169 wm_1 wm_170
            refine hm_call (va_runS (y := y_bk_isLetter) (bytes := b_bk_isLetter) (maxL := 1) (ws := w_bk_isLetter) (rm := { frames := 0, cells := 0, slots := 0, locals := 0 }) (own := R_bk) (index := 133) (ret := (Option.some Jvm.ClassFile.FieldType.boolean)) (As := [.int (dr i)]) (rest := []) E hM1 (cwS (y := y_bk_isLetter) (bytes := b_bk_isLetter) (maxL := 1) (ws := w_bk_isLetter) (rm := { frames := 0, cells := 0, slots := 0, locals := 0 }) (own := R_bk) (index := 133) (ret := (Option.some Jvm.ClassFile.FieldType.boolean)) 1 hts hG1 rfl rfl rfl (by decide +kernel) ⟨Nat.le_of_ble_eq_true rfl, Nat.le_of_ble_eq_true rfl⟩) (hm_preS gk_w gk_s hH hg [.int (dr i)]) rfl rfl hl.1 rfl (lv_room (Nat.le_of_ble_eq_true rfl)) d_bk_readException_69 ⟨(by show _ ≤ 0; omega), (by show _ ≤ 0; omega)⟩) hH (fun r1 M1 H1 locs1 hq1 hH1 => ?_)
            obtain ⟨rfl, e1⟩ := hq1
            replace hH := hH1; rw [e1] at hH; clear hH1 e1; generalize H1 = H at hH ⊢; generalize locs1 = locs at hH ⊢
            refine hb_if_eq (b := isL (dr i)) hx hb (tgt := 86) d_bk_readException_72 (by decide) (fun h72 => ?_) (fun h72 => ?_)
            · skip
              refine lv_iconst (v := 0) hx hb d_bk_readException_86 (by decide) ?_
              exact hm_zret E hr hlk hH (by decide) (by first | exact ⟨false, xz dr i + 1, f, xnm dr i, rfl, ⟨fun z => (by cases z), fun z => absurd z (rx_bad (by omega) h72 (Or.inl h41))⟩, by omega, hw, fun z => absurd z (rx_bad (by omega) h72 (Or.inl h41)), hk⟩ | exact ⟨false, xz dr i + 1, f, xnm dr i, rfl, ⟨fun z => (by cases z), fun z => absurd z (rx_bad (by omega) h72 (Or.inr h45))⟩, by omega, hw, fun z => absurd z (rx_bad (by omega) h72 (Or.inr h45)), hk⟩ | exact ⟨false, xz dr i + 1, f, xnm dr i, rfl, ⟨fun z => (by cases z), fun z => absurd z (rx_long (by omega) h72 hge)⟩, by omega, hw, fun z => absurd z (rx_long (by omega) h72 hge), hk⟩) (by omega) (by omega) d_bk_readException_87
            · skip
              refine lv_aload_n hx hb d_bk_readException_75 rfl (lv_at hl 3 rfl) ?_
              refine hm_get E (tB in_bk) hK hH (hw.at 0 rfl) rfl 6 (by decide) (tC wm_79) rfl d_bk_readException_76 ?_
              refine lv_iload_n hx hb d_bk_readException_79 rfl (lv_at hl 0 rfl) ?_
              have hM1 := c_rw_append l G rr rsg rnm (xz dr i + 1) f (dr i) M (hw.sub (ws' := [(rr, .inr (1, [.ref rsg, .ref rnm, .int (nI (xz dr i + 1))])), (rsg, aI G 65 f)]) [1, 2] rfl rfl) (by omega) H.size
              have hG1 : GoodIn w_bk_readException (wsV R_bk 136 R_rw y_rw_append w_rw_append) := gB_V wm_171 wm_172 wm_173 wm_4 wm_174
              refine hm_call (va_runV (y := y_rw_append) (bytes := b_rw_append) (maxL := 2) (ws := w_rw_append) (rm := { frames := 0, cells := 0, slots := 0, locals := 0 }) (own := R_bk) (index := 136) (ret := (Option.some Jvm.ClassFile.FieldType.boolean)) (C := R_rw) (As := [.int (dr i)]) (rest := []) E hM1 (cwV (y := y_rw_append) (bytes := b_rw_append) (maxL := 2) (ws := w_rw_append) (rm := { frames := 0, cells := 0, slots := 0, locals := 0 }) (own := R_bk) (index := 136) (ret := (Option.some Jvm.ClassFile.FieldType.boolean)) (C := R_rw) 1 hts hG1 rfl rfl rfl (by decide +kernel) ⟨Nat.le_of_ble_eq_true rfl, Nat.le_of_ble_eq_true rfl⟩) (hm_preV gk_w gk_s hH hg hK (hw.at 1 rfl) rfl [.int (dr i)]) rfl rfl hl.1 rfl (lv_room (Nat.le_of_ble_eq_true rfl)) d_bk_readException_80 ⟨(by show _ ≤ 0; omega), (by show _ ≤ 0; omega)⟩) hH (fun r1 M1 H1 locs1 hq1 hH1 => ?_)
              replace hH := hH1; clear hH1; generalize H1 = H at hH ⊢; generalize locs1 = locs at hH ⊢
              obtain ⟨b9, rfl, hbt, hbf⟩ := ap_ex hq1
              refine hb_if_ne (b := b9) hx hb (tgt := 88) d_bk_readException_83 (by decide) (fun h83 => ?_) (fun h83 => ?_)
              · skip
                obtain ⟨hlt, hw1, hk1⟩ := hbt h83
                have hw := hm_join (ws' := [(x, .inr (3, [.ref d, .int (nI dn), .int (nI lf), .int (nI rt), .ref pt, .ref xt, .ref rr, .ref ar])), (rr, .inr (1, [.ref rsg, .ref rnm, .int (nI (xz dr i + 1 + 1))])), (rsg, aI G 65 (upd f (xz dr i + 1) (dr i))), (rnm, aI G 66 (xnm dr i)), (d, aI G 200 dr)]) (wc := [(rr, .inr (1, [.ref rsg, .ref rnm, .int (nI (xz dr i + 1))])), (rsg, aI G 65 f)]) hw hw1 hk1 [1, 2] rfl rfl (fun _ h => h) rfl (by
                  intro k9 h9
                  match k9, h9 with
                  | 0, _ => exact Or.inl ⟨by decide, rfl⟩
                  | 1, _ => exact Or.inr ⟨0, rfl, rfl⟩
                  | 2, _ => exact Or.inr ⟨1, rfl, rfl⟩
                  | 3, _ => exact Or.inl ⟨by decide, rfl⟩
                  | 4, _ => exact Or.inl ⟨by decide, rfl⟩
                  | k9 + 5, h9 => exact absurd h9 (Nat.not_lt_of_le (Nat.le_add_left _ _)))
                have hk := hk.tr hk1 (fun a h => by simp at h; rcases h with rfl | rfl <;> simp)
                generalize M1 = M at hH hw hk
                have e1 : xnm dr (i + 1) = xnm dr i := by simp [xnm, h72]
                have e2 : xz dr (i + 1) = xz dr i + 1 := by simp [xz, h72]
                refine lv_iconst (v := 1) hx hb d_bk_readException_88 (by decide) ?_
                refine lv_istore_n (lv' := [(1, .int 1), (3, .int (dr i)), (2, .int (nI i)), (0, .ref x)]) hx hb d_bk_readException_89 rfl hl (by decide) rfl (fun ls hl => ?_)
                refine lv_iinc (v := nI (i + 1)) (lv' := [(2, .int (nI (i + 1))), (1, .int 1), (3, .int (dr i)), (0, .ref x)]) hx hb d_bk_readException_90 hl (k := 2) rfl (by first | exact nI_add _ 1 | (show nI _ + nI _ = _; rw [nI_add])) (by decide) rfl (fun ls hl => ?_)
                refine lv_goto (tgt := 21) hx hb d_bk_readException_93 (by decide) ?_
                exact ih (i + 1) (upd f (xz dr i + 1) (dr i)) M _ _ _ (by omega) (by omega) (by rw [e2]; omega) (rx_app hf h72) (rx_S hok (Or.inl h72)) (by rw [e1, e2]; exact hw) hk hH (lv_cv (lv_sub hl [0, 1, 3] rfl) (by rw [blt_s, h72, bI_t]; rfl))
              · skip
                obtain ⟨hge, hMe⟩ := hbf h83
                subst hMe
                refine lv_iconst (v := 0) hx hb d_bk_readException_86 (by decide) ?_
                exact hm_zret E hr hlk hH (by decide) (by first | exact ⟨false, xz dr i + 1, f, xnm dr i, rfl, ⟨fun z => (by cases z), fun z => absurd z (rx_bad (by omega) h72 (Or.inl h41))⟩, by omega, hw, fun z => absurd z (rx_bad (by omega) h72 (Or.inl h41)), hk⟩ | exact ⟨false, xz dr i + 1, f, xnm dr i, rfl, ⟨fun z => (by cases z), fun z => absurd z (rx_bad (by omega) h72 (Or.inr h45))⟩, by omega, hw, fun z => absurd z (rx_bad (by omega) h72 (Or.inr h45)), hk⟩ | exact ⟨false, xz dr i + 1, f, xnm dr i, rfl, ⟨fun z => (by cases z), fun z => absurd z (rx_long (by omega) h72 hge)⟩, by omega, hw, fun z => absurd z (rx_long (by omega) h72 hge), hk⟩) (by omega) (by omega) d_bk_readException_87
          · skip
            refine lv_aload_n hx hb d_bk_readException_48 rfl (lv_at hl 3 rfl) ?_
            refine hm_get E (tB in_bk) hK hH (hw.at 0 rfl) rfl 6 (by decide) (tC wm_79) rfl d_bk_readException_49 ?_
            refine lv_aload_n hx hb d_bk_readException_52 rfl (lv_at hl 3 rfl) ?_
            refine hm_get E (tB in_bk) hK hH (hw.at 0 rfl) rfl 6 (by decide) (tC wm_79) rfl d_bk_readException_53 ?_
            have hM1 := c_rw_size l G rr rsg rnm (xz dr i + 1) M (hw.sub (ws' := [(rr, .inr (1, [.ref rsg, .ref rnm, .int (nI (xz dr i + 1))]))]) [1] rfl rfl) H.size
            have hG1 : GoodIn w_bk_readException (wsV R_bk 126 R_rw y_rw_size w_rw_size) := gB_V wm_114 wm_115 wm_116 wm_4 wm_117
            refine hm_call (va_runV (y := y_rw_size) (bytes := b_rw_size) (maxL := 1) (ws := w_rw_size) (rm := { frames := 0, cells := 0, slots := 0, locals := 0 }) (own := R_bk) (index := 126) (ret := (Option.some Jvm.ClassFile.FieldType.int)) (C := R_rw) (As := []) (rest := [.ref rr]) E hM1 (cwV (y := y_rw_size) (bytes := b_rw_size) (maxL := 1) (ws := w_rw_size) (rm := { frames := 0, cells := 0, slots := 0, locals := 0 }) (own := R_bk) (index := 126) (ret := (Option.some Jvm.ClassFile.FieldType.int)) (C := R_rw) 0 hts hG1 rfl rfl rfl (by decide +kernel) ⟨Nat.le_of_ble_eq_true rfl, Nat.le_of_ble_eq_true rfl⟩) (hm_preV gk_w gk_s hH hg hK (hw.at 1 rfl) rfl []) rfl rfl hl.1 rfl (lv_room (Nat.le_of_ble_eq_true rfl)) d_bk_readException_56 ⟨(by show _ ≤ 0; omega), (by show _ ≤ 0; omega)⟩) hH (fun r1 M1 H1 locs1 hq1 hH1 => ?_)
            obtain ⟨rfl, e1⟩ := hq1
            replace hH := hH1; rw [e1] at hH; clear hH1 e1; generalize H1 = H at hH ⊢; generalize locs1 = locs at hH ⊢
            refine lv_iconst (v := 1) hx hb d_bk_readException_59 (by decide) ?_
            have hM1 := c_rw_setNumber l G rr rsg rnm (xz dr i + 1) (xnm dr i) (xz dr i + 1) 1 M (hw.sub (ws' := [(rr, .inr (1, [.ref rsg, .ref rnm, .int (nI (xz dr i + 1))])), (rnm, aI G 66 (xnm dr i))]) [1, 3] rfl rfl) (by omega) H.size
            have hG1 : GoodIn w_bk_readException (wsV R_bk 129 R_rw y_rw_setNumber w_rw_setNumber) := gB_V wm_164 wm_165 wm_166 wm_4 wm_167
            refine hm_call (va_runV (y := y_rw_setNumber) (bytes := b_rw_setNumber) (maxL := 3) (ws := w_rw_setNumber) (rm := { frames := 0, cells := 0, slots := 0, locals := 0 }) (own := R_bk) (index := 129) (ret := (Option.none : Option Jvm.ClassFile.FieldType)) (C := R_rw) (As := [.int (nI (xz dr i + 1)), .int 1]) (rest := []) E hM1 (cwV (y := y_rw_setNumber) (bytes := b_rw_setNumber) (maxL := 3) (ws := w_rw_setNumber) (rm := { frames := 0, cells := 0, slots := 0, locals := 0 }) (own := R_bk) (index := 129) (ret := (Option.none : Option Jvm.ClassFile.FieldType)) (C := R_rw) 2 hts hG1 rfl rfl rfl (by decide +kernel) ⟨Nat.le_of_ble_eq_true rfl, Nat.le_of_ble_eq_true rfl⟩) (hm_preV gk_w gk_s hH hg hK (hw.at 1 rfl) rfl [.int (nI (xz dr i + 1)), .int 1]) rfl rfl hl.1 rfl (lv_room (Nat.le_of_ble_eq_true rfl)) d_bk_readException_60 ⟨(by show _ ≤ 0; omega), (by show _ ≤ 0; omega)⟩) hH (fun r1 M1 H1 locs1 hq1 hH1 => ?_)
            replace hH := hH1; clear hH1; generalize H1 = H at hH ⊢; generalize locs1 = locs at hH ⊢
            obtain ⟨rfl, hw1, hk1⟩ := hq1
            have hw := hm_join (ws' := [(x, .inr (3, [.ref d, .int (nI dn), .int (nI lf), .int (nI rt), .ref pt, .ref xt, .ref rr, .ref ar])), (rr, .inr (1, [.ref rsg, .ref rnm, .int (nI (xz dr i + 1))])), (rsg, aI G 65 f), (rnm, aI G 66 (upd (xnm dr i) (xz dr i + 1) 1)), (d, aI G 200 dr)]) (wc := [(rr, .inr (1, [.ref rsg, .ref rnm, .int (nI (xz dr i + 1))])), (rnm, aI G 66 (xnm dr i))]) hw hw1 hk1 [1, 3] rfl rfl (fun a h => by simp at h; simp [h]) rfl (by
              intro k9 h9
              match k9, h9 with
              | 0, _ => exact Or.inl ⟨by decide, rfl⟩
              | 1, _ => exact Or.inr ⟨0, rfl, rfl⟩
              | 2, _ => exact Or.inl ⟨by decide, rfl⟩
              | 3, _ => exact Or.inr ⟨1, rfl, rfl⟩
              | 4, _ => exact Or.inl ⟨by decide, rfl⟩
              | k9 + 5, h9 => exact absurd h9 (Nat.not_lt_of_le (Nat.le_add_left _ _)))
            have hk := hk.tr hk1 (fun a h => by simp at h; simp [h])
            generalize M1 = M at hH hw hk
            have hnl : isL (dr i) = false := by rw [eq45_iff.mpr h41]; exact isL_45
            have e1 : xnm dr (i + 1) = upd (xnm dr i) (xz dr i + 1) 1 := by rw [Nat.add_comm (xz dr i) 1]; simp [xnm, hnl]
            have e2 : xz dr (i + 1) = xz dr i := by simp [xz, hnl]
            refine lv_iconst (v := 0) hx hb d_bk_readException_63 (by decide) ?_
            refine lv_istore_n (lv' := [(1, .int 0), (3, .int (dr i)), (2, .int (nI i)), (0, .ref x)]) hx hb d_bk_readException_64 rfl hl (by decide) rfl (fun ls hl => ?_)
            refine lv_goto (tgt := 90) hx hb d_bk_readException_65 (by decide) ?_
            refine lv_iinc (v := nI (i + 1)) (lv' := [(2, .int (nI (i + 1))), (1, .int 0), (3, .int (dr i)), (0, .ref x)]) hx hb d_bk_readException_90 hl (k := 2) rfl (by first | exact nI_add _ 1 | (show nI _ + nI _ = _; rw [nI_add])) (by decide) rfl (fun ls hl => ?_)
            refine lv_goto (tgt := 21) hx hb d_bk_readException_93 (by decide) ?_
            exact ih (i + 1) f M _ _ _ (by omega) (by omega) (by rw [e2]; exact hp) (rx_hy hf hnl) (rx_S hok (Or.inr ⟨eq45_iff.mpr h41, blt_iff.mp h45⟩)) (by rw [e1, e2]; exact hw) hk hH (lv_cv (lv_sub hl [0, 1, 3] rfl) (by rw [blt_s, hnl, bI_f]; rfl))
  refine lv_aload_n hx hb d_bk_readException_0 rfl (lv_at hl 0 rfl) ?_
  refine hm_get E (tB in_bk) hK hH (hw.at 0 rfl) rfl 6 (by decide) (tC wm_79) rfl d_bk_readException_1 ?_
  have hM1 := c_rw_clear l G rr rsg rnm sz g M (hw.sub (ws' := [(rr, .inr (1, [.ref rsg, .ref rnm, .int (nI sz)])), (rnm, aI G 66 g)]) [1, 3] rfl rfl) s.heap.size
  have hG1 : GoodIn w_bk_readException (wsV R_bk 115 R_rw y_rw_clear w_rw_clear) := gB_V wm_153 wm_154 wm_155 wm_4 wm_156
  refine hm_call (va_runV (y := y_rw_clear) (bytes := b_rw_clear) (maxL := 1) (ws := w_rw_clear) (rm := { frames := 1, cells := 0, slots := 0, locals := 23 }) (own := R_bk) (index := 115) (ret := (Option.none : Option Jvm.ClassFile.FieldType)) (C := R_rw) (As := []) (rest := []) E hM1 (cwV (y := y_rw_clear) (bytes := b_rw_clear) (maxL := 1) (ws := w_rw_clear) (rm := { frames := 1, cells := 0, slots := 0, locals := 23 }) (own := R_bk) (index := 115) (ret := (Option.none : Option Jvm.ClassFile.FieldType)) (C := R_rw) 0 hts hG1 rfl rfl rfl (by decide +kernel) ⟨Nat.le_of_ble_eq_true rfl, Nat.le_of_ble_eq_true rfl⟩) (hm_preV gk_w gk_s hH hg hK (hw.at 1 rfl) rfl []) rfl rfl hl.1 rfl (lv_room (Nat.le_of_ble_eq_true rfl)) d_bk_readException_4 ⟨(by show _ ≤ 0; omega), (by show _ ≤ 0; omega)⟩) hH (fun r1 M1 H1 locs1 hq1 hH1 => ?_)
  replace hH := hH1; clear hH1; generalize H1 = H at hH ⊢; generalize locs1 = locs at hH ⊢
  obtain ⟨rfl, hw1, hk1⟩ := hq1
  have hw := hm_join (ws' := [(x, .inr (3, [.ref d, .int (nI dn), .int (nI lf), .int (nI rt), .ref pt, .ref xt, .ref rr, .ref ar])), (rr, .inr (1, [.ref rsg, .ref rnm, .int (nI 0)])), (rsg, aI G 65 f), (rnm, aI G 66 (fun _ => 0)), (d, aI G 200 dr)]) (wc := [(rr, .inr (1, [.ref rsg, .ref rnm, .int (nI sz)])), (rnm, aI G 66 g)]) hw hw1 hk1 [1, 3] rfl rfl (fun a h => h) rfl (by
    intro k9 h9
    match k9, h9 with
    | 0, _ => exact Or.inl ⟨by decide, rfl⟩
    | 1, _ => exact Or.inr ⟨0, rfl, rfl⟩
    | 2, _ => exact Or.inl ⟨by decide, rfl⟩
    | 3, _ => exact Or.inr ⟨1, rfl, rfl⟩
    | 4, _ => exact Or.inl ⟨by decide, rfl⟩
    | k9 + 5, h9 => exact absurd h9 (Nat.not_lt_of_le (Nat.le_add_left _ _)))
  have hk := hk.tr hk1 (fun a h => by simp at h; rcases h with rfl | rfl <;> simp)
  generalize M1 = M at hH hw hk
  refine lv_aload_n hx hb d_bk_readException_7 rfl (lv_at hl 0 rfl) ?_
  refine hm_get E (tB in_bk) hK hH (hw.at 0 rfl) rfl 6 (by decide) (tC wm_79) rfl d_bk_readException_8 ?_
  refine lv_bipush (v := 46) hx hb d_bk_readException_11 (by decide) ?_
  have hM1 := c_rw_append l G rr rsg rnm 0 f 46 M (hw.sub (ws' := [(rr, .inr (1, [.ref rsg, .ref rnm, .int (nI 0)])), (rsg, aI G 65 f)]) [1, 2] rfl rfl) (by omega) H.size
  have hG1 : GoodIn w_bk_readException (wsV R_bk 136 R_rw y_rw_append w_rw_append) := gB_V wm_171 wm_172 wm_173 wm_4 wm_174
  refine hm_call (va_runV (y := y_rw_append) (bytes := b_rw_append) (maxL := 2) (ws := w_rw_append) (rm := { frames := 0, cells := 0, slots := 0, locals := 0 }) (own := R_bk) (index := 136) (ret := (Option.some Jvm.ClassFile.FieldType.boolean)) (C := R_rw) (As := [.int 46]) (rest := []) E hM1 (cwV (y := y_rw_append) (bytes := b_rw_append) (maxL := 2) (ws := w_rw_append) (rm := { frames := 0, cells := 0, slots := 0, locals := 0 }) (own := R_bk) (index := 136) (ret := (Option.some Jvm.ClassFile.FieldType.boolean)) (C := R_rw) 1 hts hG1 rfl rfl rfl (by decide +kernel) ⟨Nat.le_of_ble_eq_true rfl, Nat.le_of_ble_eq_true rfl⟩) (hm_preV gk_w gk_s hH hg hK (hw.at 1 rfl) rfl [.int 46]) rfl rfl hl.1 rfl (lv_room (Nat.le_of_ble_eq_true rfl)) d_bk_readException_13 ⟨(by show _ ≤ 0; omega), (by show _ ≤ 0; omega)⟩) hH (fun r1 M1 H1 locs1 hq1 hH1 => ?_)
  replace hH := hH1; clear hH1; generalize H1 = H at hH ⊢; generalize locs1 = locs at hH ⊢
  obtain ⟨b9, rfl, hbt, hbf⟩ := ap_ex hq1
  obtain ⟨hlt, hw1, hk1⟩ := ap_t hbt hbf (by omega)
  have hw := hm_join (ws' := [(x, .inr (3, [.ref d, .int (nI dn), .int (nI lf), .int (nI rt), .ref pt, .ref xt, .ref rr, .ref ar])), (rr, .inr (1, [.ref rsg, .ref rnm, .int (nI (0 + 1))])), (rsg, aI G 65 (upd f 0 46)), (rnm, aI G 66 (fun _ => 0)), (d, aI G 200 dr)]) (wc := [(rr, .inr (1, [.ref rsg, .ref rnm, .int (nI 0)])), (rsg, aI G 65 f)]) hw hw1 hk1 [1, 2] rfl rfl (fun _ h => h) rfl (by
    intro k9 h9
    match k9, h9 with
    | 0, _ => exact Or.inl ⟨by decide, rfl⟩
    | 1, _ => exact Or.inr ⟨0, rfl, rfl⟩
    | 2, _ => exact Or.inr ⟨1, rfl, rfl⟩
    | 3, _ => exact Or.inl ⟨by decide, rfl⟩
    | 4, _ => exact Or.inl ⟨by decide, rfl⟩
    | k9 + 5, h9 => exact absurd h9 (Nat.not_lt_of_le (Nat.le_add_left _ _)))
  have hk := hk.tr hk1 (fun a h => by simp at h; rcases h with rfl | rfl <;> simp)
  generalize M1 = M at hH hw hk
  refine lv_pop hx hb d_bk_readException_16 rfl ?_
  refine lv_iconst (v := 0) hx hb d_bk_readException_17 (by decide) ?_
  refine lv_istore_n (lv' := [(1, .int 0), (0, .ref x)]) hx hb d_bk_readException_18 rfl hl (by decide) rfl (fun ls hl => ?_)
  refine lv_iconst (v := 0) hx hb d_bk_readException_19 (by decide) ?_
  refine lv_istore_n (lv' := [(2, .int 0), (1, .int 0), (0, .ref x)]) hx hb d_bk_readException_20 rfl hl (by decide) rfl (fun ls hl => ?_)
  exact L21 (dn + 1) 0 (upd f 0 46) M _ _ _ (by omega) (by omega) (by simp [xz]) ⟨upd_self, fun j hj => by simp [xz] at hj⟩ (fun k9 h9 => absurd h9 (by omega)) hw hk hH (lv_cv (lv_sub hl [0, 1, 2] rfl) (by rw [blt_0, bI_f]; rfl))

abbrev q_bk_draftIsWord (G : hG) (x d dn lf rt pt xt rr ar : Nat) (dr : Nat → Int32) (M : hM) : Option Value → hM → Prop := fun rv M' => ∃ b : Bool, rv = some (.int (bI b)) ∧ (b = true ↔ wOk dr dn) ∧ M' = M
set_option maxHeartbeats 4000000 in
set_option maxRecDepth 100000 in
theorem c_bk_draftIsWord (l : Launch) (G : hG) (x d dn lf rt pt xt rr ar : Nat) (dr : Nat → Int32) (M : hM) (hw : hm_has M [(x, .inr (3, [.ref d, .int (nI dn), .int (nI lf), .int (nI rt), .ref pt, .ref xt, .ref rr, .ref ar])), (d, aI G 200 dr)]) (hdn : dn ≤ 200) : Ct (gk G) l G.1 vwC y_bk_draftIsWord w_bk_draftIsWord { frames := 1, cells := 0, slots := 0, locals := 21 } ([.ref x] : List Value) M (q_bk_draftIsWord G x d dn lf rt pt xt rr ar dr M) 0 0 := by
  refine Ct.ofW (cc := b_bk_draftIsWord) (maxL := 2) (ret := (Option.some Jvm.ClassFile.FieldType.boolean)) (by decide) rfl (Nat.le_of_ble_eq_true rfl) (fun p e s m below meth c A ls E hr hlk hin hg hH hl => ?_)
  have hl : lv_has ls 2 [(0, .ref x)] := hl
  have hx := E.1; have hb := E.2.1; have hml := E.2.2.1; have hown := E.2.2.2.1; have hts := E.2.2.2.2; have hK := hg.1
  obtain ⟨M0, hM0⟩ : ∃ M0 : hM, M0 = M := ⟨M, rfl⟩
  rw [show q_bk_draftIsWord G x d dn lf rt pt xt rr ar dr M = q_bk_draftIsWord G x d dn lf rt pt xt rr ar dr M0 by rw [hM0]]
  refine lv_aload_n hx hb d_bk_draftIsWord_0 rfl (lv_at hl 0 rfl) ?_
  refine hm_get E (tB in_bk) hK hH (hw.at 0 rfl) rfl 1 (by decide) (tC wm_74) rfl d_bk_draftIsWord_1 ?_
  refine lv_iconst (v := 1) hx hb d_bk_draftIsWord_4 (by decide) ?_
  refine hn_icmp_lt (a := dn) (b := 1) hx hb (by omega) (by omega) (tgt := 17) d_bk_draftIsWord_5 (by decide) (fun h5 => ?_) (fun h5 => ?_)
  · skip
    refine lv_iconst (v := 0) hx hb d_bk_draftIsWord_17 (by decide) ?_
    exact hm_zret E hr hlk hH (by decide) (⟨false, rfl, ⟨fun z => (by cases z), fun z => (by have q1 := z.1; have q2 := z.2.1; omega)⟩, hM0.symm⟩) (by omega) (by omega) d_bk_draftIsWord_18
  · skip
    refine lv_aload_n hx hb d_bk_draftIsWord_8 rfl (lv_at hl 0 rfl) ?_
    refine hm_get E (tB in_bk) hK hH (hw.at 0 rfl) rfl 1 (by decide) (tC wm_74) rfl d_bk_draftIsWord_9 ?_
    refine lv_bipush (v := 63) hx hb d_bk_draftIsWord_12 (by decide) ?_
    refine hn_icmp_le (a := dn) (b := 63) hx hb (by omega) (by omega) (tgt := 19) d_bk_draftIsWord_14 (by decide) (fun h14 => ?_) (fun h14 => ?_)
    · skip
      refine lv_iconst (v := 0) hx hb d_bk_draftIsWord_19 (by decide) ?_
      refine lv_istore_n (lv' := [(1, .int 0), (0, .ref x)]) hx hb d_bk_draftIsWord_20 rfl hl (by decide) rfl (fun ls hl => ?_)
      have L21 : ∀ (k : Nat) (i : Nat) (H : Heap) (locs : List Loc) (ls : Array Slot), dn + 1 ≤ i + k → i ≤ dn → (∀ k9, k9 < i → isL (dr k9) = true) → hm_I G.1 vwC A s.heap M H locs → lv_has ls 2 [(1, .int (nI i)), (0, .ref x)] → W p l e { frames := 1, cells := 0, slots := 0, locals := 21 } s m ([.ref x] : List Value).toArray below meth c H locs 0 0 (MQ below (hm_Q G.1 vwC (q_bk_draftIsWord G x d dn lf rt pt xt rr ar dr M0) A) ([.ref x] : List Value).toArray s 0 0 A) (F0 m 21 ls []) := by
        intro k
        induction k with
        | zero => intro i H locs ls hfu hi hok; exact absurd hfu (by omega)
        | succ k ih =>
          intro i H locs ls hfu hi hok hH hl
          refine lv_iload_n hx hb d_bk_draftIsWord_21 rfl (lv_at hl 0 rfl) ?_
          refine lv_aload_n hx hb d_bk_draftIsWord_22 rfl (lv_at hl 1 rfl) ?_
          refine hm_get E (tB in_bk) hK hH (hw.at 0 rfl) rfl 1 (by decide) (tC wm_74) rfl d_bk_draftIsWord_23 ?_
          refine hn_icmp_ge (a := i) (b := dn) hx hb (by omega) (by omega) (tgt := 51) d_bk_draftIsWord_26 (by decide) (fun h26 => ?_) (fun h26 => ?_)
          · skip
            refine lv_iconst (v := 1) hx hb d_bk_draftIsWord_51 (by decide) ?_
            have hie : i = dn := by omega
            rw [hie] at hok
            exact hm_zret E hr hlk hH (by decide) (⟨true, rfl, ⟨fun _ => ⟨by omega, by omega, hok⟩, fun _ => rfl⟩, hM0.symm⟩) (by omega) (by omega) d_bk_draftIsWord_52
          · skip
            refine lv_aload_n hx hb d_bk_draftIsWord_29 rfl (lv_at hl 1 rfl) ?_
            refine hm_get E (tB in_bk) hK hH (hw.at 0 rfl) rfl 0 (by decide) (tC wm_73) rfl d_bk_draftIsWord_30 ?_
            refine lv_iload_n hx hb d_bk_draftIsWord_33 rfl (lv_at hl 0 rfl) ?_
            have hM1 := c_bk_elementAt l G d 200 dr i M (hw.sub (ws' := [(d, aI G 200 dr)]) [1] rfl rfl) (by decide) (by omega) H.size
            have hG1 : GoodIn w_bk_draftIsWord (wsS R_bk 118 y_bk_elementAt w_bk_elementAt) := gB_S wm_160 wm_126 wm_1 wm_127
            refine hm_call (va_runS (y := y_bk_elementAt) (bytes := b_bk_elementAt) (maxL := 2) (ws := w_bk_elementAt) (rm := { frames := 0, cells := 0, slots := 0, locals := 0 }) (own := R_bk) (index := 118) (ret := (Option.some Jvm.ClassFile.FieldType.int)) (As := [.ref d, .int (nI i)]) (rest := []) E hM1 (cwS (y := y_bk_elementAt) (bytes := b_bk_elementAt) (maxL := 2) (ws := w_bk_elementAt) (rm := { frames := 0, cells := 0, slots := 0, locals := 0 }) (own := R_bk) (index := 118) (ret := (Option.some Jvm.ClassFile.FieldType.int)) 2 hts hG1 rfl rfl rfl (by decide +kernel) ⟨Nat.le_of_ble_eq_true rfl, Nat.le_of_ble_eq_true rfl⟩) (hm_preS gk_w gk_s hH hg [.ref d, .int (nI i)]) rfl rfl hl.1 rfl (lv_room (Nat.le_of_ble_eq_true rfl)) d_bk_draftIsWord_34 ⟨(by show _ ≤ 0; omega), (by show _ ≤ 0; omega)⟩) hH (fun r1 M1 H1 locs1 hq1 hH1 => ?_)
            obtain ⟨rfl, e1⟩ := hq1
            replace hH := hH1; rw [e1] at hH; clear hH1 e1; generalize H1 = H at hH ⊢; generalize locs1 = locs at hH ⊢
            refine hm_top (w := .int (dr i)) (by rw [if_pos (by omega)]) ?_
            have hM1 := c_bk_isLetter l G (dr i) M H.size
            have hG1 : GoodIn w_bk_draftIsWord (wsS R_bk 133 y_bk_isLetter w_bk_isLetter) := gB_S wm_168 wm_169 wm_1 wm_170
            refine hm_call (va_runS (y := y_bk_isLetter) (bytes := b_bk_isLetter) (maxL := 1) (ws := w_bk_isLetter) (rm := { frames := 0, cells := 0, slots := 0, locals := 0 }) (own := R_bk) (index := 133) (ret := (Option.some Jvm.ClassFile.FieldType.boolean)) (As := [.int (dr i)]) (rest := []) E hM1 (cwS (y := y_bk_isLetter) (bytes := b_bk_isLetter) (maxL := 1) (ws := w_bk_isLetter) (rm := { frames := 0, cells := 0, slots := 0, locals := 0 }) (own := R_bk) (index := 133) (ret := (Option.some Jvm.ClassFile.FieldType.boolean)) 1 hts hG1 rfl rfl rfl (by decide +kernel) ⟨Nat.le_of_ble_eq_true rfl, Nat.le_of_ble_eq_true rfl⟩) (hm_preS gk_w gk_s hH hg [.int (dr i)]) rfl rfl hl.1 rfl (lv_room (Nat.le_of_ble_eq_true rfl)) d_bk_draftIsWord_37 ⟨(by show _ ≤ 0; omega), (by show _ ≤ 0; omega)⟩) hH (fun r1 M1 H1 locs1 hq1 hH1 => ?_)
            obtain ⟨rfl, e1⟩ := hq1
            replace hH := hH1; rw [e1] at hH; clear hH1 e1; generalize H1 = H at hH ⊢; generalize locs1 = locs at hH ⊢
            refine hb_if_ne (b := isL (dr i)) hx hb (tgt := 45) d_bk_draftIsWord_40 (by decide) (fun h40 => ?_) (fun h40 => ?_)
            · skip
              refine lv_iinc (v := nI (i + 1)) (lv' := [(1, .int (nI (i + 1))), (0, .ref x)]) hx hb d_bk_draftIsWord_45 hl (k := 0) rfl (by first | exact nI_add _ 1 | (show nI _ + nI _ = _; rw [nI_add])) (by decide) rfl (fun ls hl => ?_)
              refine lv_goto (tgt := 21) hx hb d_bk_draftIsWord_48 (by decide) ?_
              exact ih (i + 1) _ _ _ (by omega) (by omega) (rp_ok (p := fun b => isL b = true) hok h40) hH (lv_sub hl [0, 1] rfl)
            · skip
              refine lv_iconst (v := 0) hx hb d_bk_draftIsWord_43 (by decide) ?_
              exact hm_zret E hr hlk hH (by decide) (⟨false, rfl, ⟨fun z => (by cases z), fun z => (by have q1 := z.2.2 i (by omega); rw [h40] at q1; cases q1)⟩, hM0.symm⟩) (by omega) (by omega) d_bk_draftIsWord_44
      exact L21 (dn + 1) 0 _ _ _ (by omega) (by omega) (fun k9 h9 => absurd h9 (by omega)) hH (lv_sub hl [0, 1] rfl)
    · skip
      refine lv_iconst (v := 0) hx hb d_bk_draftIsWord_17 (by decide) ?_
      exact hm_zret E hr hlk hH (by decide) (⟨false, rfl, ⟨fun z => (by cases z), fun z => (by have q1 := z.1; have q2 := z.2.1; omega)⟩, hM0.symm⟩) (by omega) (by omega) d_bk_draftIsWord_18

abbrev q_bk_copyDraftToAsked (G : hG) (x d dn lf rt pt xt rr ar : Nat) (asg anm asz : Nat) (f g dr : Nat → Int32) (M : hM) : Option Value → hM → Prop := fun rv M' => rv = none ∧ ∃ f9, hm_has M' [(x, .inr (3, [.ref d, .int (nI dn), .int (nI lf), .int (nI rt), .ref pt, .ref xt, .ref rr, .ref ar])), (ar, .inr (1, [.ref asg, .ref anm, .int (nI (dn + 2))])), (asg, aI G 65 f9), (anm, aI G 66 (fun _ => 0)), (d, aI G 200 dr)] ∧ ag f9 (wrow dr dn) (dn + 2) ∧ hm_kp (fun a => a ∈ [ar, asg, anm]) M M'
set_option maxHeartbeats 4000000 in
set_option maxRecDepth 100000 in
theorem c_bk_copyDraftToAsked (l : Launch) (G : hG) (x d dn lf rt pt xt rr ar : Nat) (asg anm asz : Nat) (f g dr : Nat → Int32) (M : hM) (hw : hm_has M [(x, .inr (3, [.ref d, .int (nI dn), .int (nI lf), .int (nI rt), .ref pt, .ref xt, .ref rr, .ref ar])), (ar, .inr (1, [.ref asg, .ref anm, .int (nI asz)])), (asg, aI G 65 f), (anm, aI G 66 g), (d, aI G 200 dr)]) (hdn : dn ≤ 63) : Ct (gk G) l G.1 vwC y_bk_copyDraftToAsked w_bk_copyDraftToAsked { frames := 2, cells := 0, slots := 0, locals := 43 } ([.ref x] : List Value) M (q_bk_copyDraftToAsked G x d dn lf rt pt xt rr ar asg anm asz f g dr M) 0 0 := by
  refine Ct.ofW (cc := b_bk_copyDraftToAsked) (maxL := 2) (ret := (Option.none : Option Jvm.ClassFile.FieldType)) (by decide) rfl (Nat.le_of_ble_eq_true rfl) (fun p e s m below meth c A ls E hr hlk hin hg hH hl => ?_)
  have hl : lv_has ls 2 [(0, .ref x)] := hl
  have hx := E.1; have hb := E.2.1; have hml := E.2.2.1; have hown := E.2.2.2.1; have hts := E.2.2.2.2; have hK := hg.1
  obtain ⟨M0, hM0⟩ : ∃ M0 : hM, M0 = M := ⟨M, rfl⟩
  rw [show q_bk_copyDraftToAsked G x d dn lf rt pt xt rr ar asg anm asz f g dr M = q_bk_copyDraftToAsked G x d dn lf rt pt xt rr ar asg anm asz f g dr M0 by rw [hM0]]
  have hk : hm_kp (fun a => a ∈ [ar, asg, anm]) M0 M := by rw [hM0]; exact hm_kp.rf
  have L19 : ∀ (k : Nat) (i : Nat) (f : Nat → Int32) (M : hM) (H : Heap) (locs : List Loc) (ls : Array Slot), dn + 1 ≤ i + k → i ≤ dn → wcf dr i f → hm_has M [(x, .inr (3, [.ref d, .int (nI dn), .int (nI lf), .int (nI rt), .ref pt, .ref xt, .ref rr, .ref ar])), (ar, .inr (1, [.ref asg, .ref anm, .int (nI (i + 1))])), (asg, aI G 65 f), (anm, aI G 66 (fun _ => 0)), (d, aI G 200 dr)] → hm_kp (fun a => a ∈ [ar, asg, anm]) M0 M → hm_I G.1 vwC A s.heap M H locs → lv_has ls 2 [(1, .int (nI i)), (0, .ref x)] → W p l e { frames := 2, cells := 0, slots := 0, locals := 43 } s m ([.ref x] : List Value).toArray below meth c H locs 0 0 (MQ below (hm_Q G.1 vwC (q_bk_copyDraftToAsked G x d dn lf rt pt xt rr ar asg anm asz f g dr M0) A) ([.ref x] : List Value).toArray s 0 0 A) (F0 m 19 ls []) := by
    intro k
    induction k with
    | zero => intro i f M H locs ls hfu hi hf; exact absurd hfu (by omega)
    | succ k ih =>
      intro i f M H locs ls hfu hi hf hw hk hH hl
      refine lv_iload_n hx hb d_bk_copyDraftToAsked_19 rfl (lv_at hl 0 rfl) ?_
      refine lv_aload_n hx hb d_bk_copyDraftToAsked_20 rfl (lv_at hl 1 rfl) ?_
      refine hm_get E (tB in_bk) hK hH (hw.at 0 rfl) rfl 1 (by decide) (tC wm_74) rfl d_bk_copyDraftToAsked_21 ?_
      refine hn_icmp_ge (a := i) (b := dn) hx hb (by omega) (by omega) (tgt := 49) d_bk_copyDraftToAsked_24 (by decide) (fun h24 => ?_) (fun h24 => ?_)
      · skip
        have hie : i = dn := by omega
        rw [hie] at hf hw
        refine lv_aload_n hx hb d_bk_copyDraftToAsked_49 rfl (lv_at hl 1 rfl) ?_
        refine hm_get E (tB in_bk) hK hH (hw.at 0 rfl) rfl 7 (by decide) (tC wm_80) rfl d_bk_copyDraftToAsked_50 ?_
        refine lv_bipush (v := 46) hx hb d_bk_copyDraftToAsked_53 (by decide) ?_
        have hM1 := c_rw_append l G ar asg anm (dn + 1) f 46 M (hw.sub (ws' := [(ar, .inr (1, [.ref asg, .ref anm, .int (nI (dn + 1))])), (asg, aI G 65 f)]) [1, 2] rfl rfl) (by omega) H.size
        have hG1 : GoodIn w_bk_copyDraftToAsked (wsV R_bk 136 R_rw y_rw_append w_rw_append) := gB_V wm_171 wm_172 wm_173 wm_4 wm_174
        refine hm_call (va_runV (y := y_rw_append) (bytes := b_rw_append) (maxL := 2) (ws := w_rw_append) (rm := { frames := 0, cells := 0, slots := 0, locals := 0 }) (own := R_bk) (index := 136) (ret := (Option.some Jvm.ClassFile.FieldType.boolean)) (C := R_rw) (As := [.int 46]) (rest := []) E hM1 (cwV (y := y_rw_append) (bytes := b_rw_append) (maxL := 2) (ws := w_rw_append) (rm := { frames := 0, cells := 0, slots := 0, locals := 0 }) (own := R_bk) (index := 136) (ret := (Option.some Jvm.ClassFile.FieldType.boolean)) (C := R_rw) 1 hts hG1 rfl rfl rfl (by decide +kernel) ⟨Nat.le_of_ble_eq_true rfl, Nat.le_of_ble_eq_true rfl⟩) (hm_preV gk_w gk_s hH hg hK (hw.at 1 rfl) rfl [.int 46]) rfl rfl hl.1 rfl (lv_room (Nat.le_of_ble_eq_true rfl)) d_bk_copyDraftToAsked_55 ⟨(by show _ ≤ 0; omega), (by show _ ≤ 0; omega)⟩) hH (fun r1 M1 H1 locs1 hq1 hH1 => ?_)
        replace hH := hH1; clear hH1; generalize H1 = H at hH ⊢; generalize locs1 = locs at hH ⊢
        obtain ⟨b9, rfl, hbt, hbf⟩ := ap_ex hq1
        obtain ⟨hlt, hw1, hk1⟩ := ap_t hbt hbf (by omega)
        have hw := hm_join (ws' := [(x, .inr (3, [.ref d, .int (nI dn), .int (nI lf), .int (nI rt), .ref pt, .ref xt, .ref rr, .ref ar])), (ar, .inr (1, [.ref asg, .ref anm, .int (nI (dn + 1 + 1))])), (asg, aI G 65 (upd f (dn + 1) 46)), (anm, aI G 66 (fun _ => 0)), (d, aI G 200 dr)]) (wc := [(ar, .inr (1, [.ref asg, .ref anm, .int (nI (dn + 1))])), (asg, aI G 65 f)]) hw hw1 hk1 [1, 2] rfl rfl (fun _ h => h) rfl (by
          intro k9 h9
          match k9, h9 with
          | 0, _ => exact Or.inl ⟨by decide, rfl⟩
          | 1, _ => exact Or.inr ⟨0, rfl, rfl⟩
          | 2, _ => exact Or.inr ⟨1, rfl, rfl⟩
          | 3, _ => exact Or.inl ⟨by decide, rfl⟩
          | 4, _ => exact Or.inl ⟨by decide, rfl⟩
          | k9 + 5, h9 => exact absurd h9 (Nat.not_lt_of_le (Nat.le_add_left _ _)))
        have hk := hk.tr hk1 (fun a h => by simp at h; rcases h with rfl | rfl <;> simp)
        generalize M1 = M at hH hw hk
        refine lv_pop hx hb d_bk_copyDraftToAsked_58 rfl ?_
        exact hm_vret E hr hlk hH (⟨rfl, upd f (dn + 1) 46, hw, wc_row hf, hk⟩) (by omega) (by omega) d_bk_copyDraftToAsked_59
      · skip
        refine lv_aload_n hx hb d_bk_copyDraftToAsked_27 rfl (lv_at hl 1 rfl) ?_
        refine hm_get E (tB in_bk) hK hH (hw.at 0 rfl) rfl 7 (by decide) (tC wm_80) rfl d_bk_copyDraftToAsked_28 ?_
        refine lv_aload_n hx hb d_bk_copyDraftToAsked_31 rfl (lv_at hl 1 rfl) ?_
        refine hm_get E (tB in_bk) hK hH (hw.at 0 rfl) rfl 0 (by decide) (tC wm_73) rfl d_bk_copyDraftToAsked_32 ?_
        refine lv_iload_n hx hb d_bk_copyDraftToAsked_35 rfl (lv_at hl 0 rfl) ?_
        have hM1 := c_bk_elementAt l G d 200 dr i M (hw.sub (ws' := [(d, aI G 200 dr)]) [4] rfl rfl) (by decide) (by omega) H.size
        have hG1 : GoodIn w_bk_copyDraftToAsked (wsS R_bk 118 y_bk_elementAt w_bk_elementAt) := gB_S wm_160 wm_126 wm_1 wm_127
        refine hm_call (va_runS (y := y_bk_elementAt) (bytes := b_bk_elementAt) (maxL := 2) (ws := w_bk_elementAt) (rm := { frames := 0, cells := 0, slots := 0, locals := 0 }) (own := R_bk) (index := 118) (ret := (Option.some Jvm.ClassFile.FieldType.int)) (As := [.ref d, .int (nI i)]) (rest := [.ref ar]) E hM1 (cwS (y := y_bk_elementAt) (bytes := b_bk_elementAt) (maxL := 2) (ws := w_bk_elementAt) (rm := { frames := 0, cells := 0, slots := 0, locals := 0 }) (own := R_bk) (index := 118) (ret := (Option.some Jvm.ClassFile.FieldType.int)) 2 hts hG1 rfl rfl rfl (by decide +kernel) ⟨Nat.le_of_ble_eq_true rfl, Nat.le_of_ble_eq_true rfl⟩) (hm_preS gk_w gk_s hH hg [.ref d, .int (nI i)]) rfl rfl hl.1 rfl (lv_room (Nat.le_of_ble_eq_true rfl)) d_bk_copyDraftToAsked_36 ⟨(by show _ ≤ 0; omega), (by show _ ≤ 0; omega)⟩) hH (fun r1 M1 H1 locs1 hq1 hH1 => ?_)
        obtain ⟨rfl, e1⟩ := hq1
        replace hH := hH1; rw [e1] at hH; clear hH1 e1; generalize H1 = H at hH ⊢; generalize locs1 = locs at hH ⊢
        refine hm_top (w := .int (dr i)) (by rw [if_pos (by omega)]) ?_
        have hM1 := c_rw_append l G ar asg anm (i + 1) f (dr i) M (hw.sub (ws' := [(ar, .inr (1, [.ref asg, .ref anm, .int (nI (i + 1))])), (asg, aI G 65 f)]) [1, 2] rfl rfl) (by omega) H.size
        have hG1 : GoodIn w_bk_copyDraftToAsked (wsV R_bk 136 R_rw y_rw_append w_rw_append) := gB_V wm_171 wm_172 wm_173 wm_4 wm_174
        refine hm_call (va_runV (y := y_rw_append) (bytes := b_rw_append) (maxL := 2) (ws := w_rw_append) (rm := { frames := 0, cells := 0, slots := 0, locals := 0 }) (own := R_bk) (index := 136) (ret := (Option.some Jvm.ClassFile.FieldType.boolean)) (C := R_rw) (As := [.int (dr i)]) (rest := []) E hM1 (cwV (y := y_rw_append) (bytes := b_rw_append) (maxL := 2) (ws := w_rw_append) (rm := { frames := 0, cells := 0, slots := 0, locals := 0 }) (own := R_bk) (index := 136) (ret := (Option.some Jvm.ClassFile.FieldType.boolean)) (C := R_rw) 1 hts hG1 rfl rfl rfl (by decide +kernel) ⟨Nat.le_of_ble_eq_true rfl, Nat.le_of_ble_eq_true rfl⟩) (hm_preV gk_w gk_s hH hg hK (hw.at 1 rfl) rfl [.int (dr i)]) rfl rfl hl.1 rfl (lv_room (Nat.le_of_ble_eq_true rfl)) d_bk_copyDraftToAsked_39 ⟨(by show _ ≤ 0; omega), (by show _ ≤ 0; omega)⟩) hH (fun r1 M1 H1 locs1 hq1 hH1 => ?_)
        replace hH := hH1; clear hH1; generalize H1 = H at hH ⊢; generalize locs1 = locs at hH ⊢
        obtain ⟨b9, rfl, hbt, hbf⟩ := ap_ex hq1
        obtain ⟨hlt, hw1, hk1⟩ := ap_t hbt hbf (by omega)
        have hw := hm_join (ws' := [(x, .inr (3, [.ref d, .int (nI dn), .int (nI lf), .int (nI rt), .ref pt, .ref xt, .ref rr, .ref ar])), (ar, .inr (1, [.ref asg, .ref anm, .int (nI (i + 1 + 1))])), (asg, aI G 65 (upd f (i + 1) (dr i))), (anm, aI G 66 (fun _ => 0)), (d, aI G 200 dr)]) (wc := [(ar, .inr (1, [.ref asg, .ref anm, .int (nI (i + 1))])), (asg, aI G 65 f)]) hw hw1 hk1 [1, 2] rfl rfl (fun _ h => h) rfl (by
          intro k9 h9
          match k9, h9 with
          | 0, _ => exact Or.inl ⟨by decide, rfl⟩
          | 1, _ => exact Or.inr ⟨0, rfl, rfl⟩
          | 2, _ => exact Or.inr ⟨1, rfl, rfl⟩
          | 3, _ => exact Or.inl ⟨by decide, rfl⟩
          | 4, _ => exact Or.inl ⟨by decide, rfl⟩
          | k9 + 5, h9 => exact absurd h9 (Nat.not_lt_of_le (Nat.le_add_left _ _)))
        have hk := hk.tr hk1 (fun a h => by simp at h; rcases h with rfl | rfl <;> simp)
        generalize M1 = M at hH hw hk
        refine lv_pop hx hb d_bk_copyDraftToAsked_42 rfl ?_
        refine lv_iinc (v := nI (i + 1)) (lv' := [(1, .int (nI (i + 1))), (0, .ref x)]) hx hb d_bk_copyDraftToAsked_43 hl (k := 0) rfl (by first | exact nI_add _ 1 | (show nI _ + nI _ = _; rw [nI_add])) (by decide) rfl (fun ls hl => ?_)
        refine lv_goto (tgt := 19) hx hb d_bk_copyDraftToAsked_46 (by decide) ?_
        exact ih (i + 1) (upd f (i + 1) (dr i)) M _ _ _ (by omega) (by omega) (wc_app hf) hw hk hH (lv_sub hl [0, 1] rfl)
  refine lv_aload_n hx hb d_bk_copyDraftToAsked_0 rfl (lv_at hl 0 rfl) ?_
  refine hm_get E (tB in_bk) hK hH (hw.at 0 rfl) rfl 7 (by decide) (tC wm_80) rfl d_bk_copyDraftToAsked_1 ?_
  have hM1 := c_rw_clear l G ar asg anm asz g M (hw.sub (ws' := [(ar, .inr (1, [.ref asg, .ref anm, .int (nI asz)])), (anm, aI G 66 g)]) [1, 3] rfl rfl) s.heap.size
  have hG1 : GoodIn w_bk_copyDraftToAsked (wsV R_bk 115 R_rw y_rw_clear w_rw_clear) := gB_V wm_153 wm_154 wm_155 wm_4 wm_156
  refine hm_call (va_runV (y := y_rw_clear) (bytes := b_rw_clear) (maxL := 1) (ws := w_rw_clear) (rm := { frames := 1, cells := 0, slots := 0, locals := 23 }) (own := R_bk) (index := 115) (ret := (Option.none : Option Jvm.ClassFile.FieldType)) (C := R_rw) (As := []) (rest := []) E hM1 (cwV (y := y_rw_clear) (bytes := b_rw_clear) (maxL := 1) (ws := w_rw_clear) (rm := { frames := 1, cells := 0, slots := 0, locals := 23 }) (own := R_bk) (index := 115) (ret := (Option.none : Option Jvm.ClassFile.FieldType)) (C := R_rw) 0 hts hG1 rfl rfl rfl (by decide +kernel) ⟨Nat.le_of_ble_eq_true rfl, Nat.le_of_ble_eq_true rfl⟩) (hm_preV gk_w gk_s hH hg hK (hw.at 1 rfl) rfl []) rfl rfl hl.1 rfl (lv_room (Nat.le_of_ble_eq_true rfl)) d_bk_copyDraftToAsked_4 ⟨(by show _ ≤ 0; omega), (by show _ ≤ 0; omega)⟩) hH (fun r1 M1 H1 locs1 hq1 hH1 => ?_)
  replace hH := hH1; clear hH1; generalize H1 = H at hH ⊢; generalize locs1 = locs at hH ⊢
  obtain ⟨rfl, hw1, hk1⟩ := hq1
  have hw := hm_join (ws' := [(x, .inr (3, [.ref d, .int (nI dn), .int (nI lf), .int (nI rt), .ref pt, .ref xt, .ref rr, .ref ar])), (ar, .inr (1, [.ref asg, .ref anm, .int (nI 0)])), (asg, aI G 65 f), (anm, aI G 66 (fun _ => 0)), (d, aI G 200 dr)]) (wc := [(ar, .inr (1, [.ref asg, .ref anm, .int (nI asz)])), (anm, aI G 66 g)]) hw hw1 hk1 [1, 3] rfl rfl (fun _ h => h) rfl (by
    intro k9 h9
    match k9, h9 with
    | 0, _ => exact Or.inl ⟨by decide, rfl⟩
    | 1, _ => exact Or.inr ⟨0, rfl, rfl⟩
    | 2, _ => exact Or.inl ⟨by decide, rfl⟩
    | 3, _ => exact Or.inr ⟨1, rfl, rfl⟩
    | 4, _ => exact Or.inl ⟨by decide, rfl⟩
    | k9 + 5, h9 => exact absurd h9 (Nat.not_lt_of_le (Nat.le_add_left _ _)))
  have hk := hk.tr hk1 (fun a h => by simp at h; rcases h with rfl | rfl <;> simp)
  generalize M1 = M at hH hw hk
  refine lv_aload_n hx hb d_bk_copyDraftToAsked_7 rfl (lv_at hl 0 rfl) ?_
  refine hm_get E (tB in_bk) hK hH (hw.at 0 rfl) rfl 7 (by decide) (tC wm_80) rfl d_bk_copyDraftToAsked_8 ?_
  refine lv_bipush (v := 46) hx hb d_bk_copyDraftToAsked_11 (by decide) ?_
  have hM1 := c_rw_append l G ar asg anm 0 f 46 M (hw.sub (ws' := [(ar, .inr (1, [.ref asg, .ref anm, .int (nI 0)])), (asg, aI G 65 f)]) [1, 2] rfl rfl) (by omega) H.size
  have hG1 : GoodIn w_bk_copyDraftToAsked (wsV R_bk 136 R_rw y_rw_append w_rw_append) := gB_V wm_171 wm_172 wm_173 wm_4 wm_174
  refine hm_call (va_runV (y := y_rw_append) (bytes := b_rw_append) (maxL := 2) (ws := w_rw_append) (rm := { frames := 0, cells := 0, slots := 0, locals := 0 }) (own := R_bk) (index := 136) (ret := (Option.some Jvm.ClassFile.FieldType.boolean)) (C := R_rw) (As := [.int 46]) (rest := []) E hM1 (cwV (y := y_rw_append) (bytes := b_rw_append) (maxL := 2) (ws := w_rw_append) (rm := { frames := 0, cells := 0, slots := 0, locals := 0 }) (own := R_bk) (index := 136) (ret := (Option.some Jvm.ClassFile.FieldType.boolean)) (C := R_rw) 1 hts hG1 rfl rfl rfl (by decide +kernel) ⟨Nat.le_of_ble_eq_true rfl, Nat.le_of_ble_eq_true rfl⟩) (hm_preV gk_w gk_s hH hg hK (hw.at 1 rfl) rfl [.int 46]) rfl rfl hl.1 rfl (lv_room (Nat.le_of_ble_eq_true rfl)) d_bk_copyDraftToAsked_13 ⟨(by show _ ≤ 0; omega), (by show _ ≤ 0; omega)⟩) hH (fun r1 M1 H1 locs1 hq1 hH1 => ?_)
  replace hH := hH1; clear hH1; generalize H1 = H at hH ⊢; generalize locs1 = locs at hH ⊢
  obtain ⟨b9, rfl, hbt, hbf⟩ := ap_ex hq1
  obtain ⟨hlt, hw1, hk1⟩ := ap_t hbt hbf (by omega)
  have hw := hm_join (ws' := [(x, .inr (3, [.ref d, .int (nI dn), .int (nI lf), .int (nI rt), .ref pt, .ref xt, .ref rr, .ref ar])), (ar, .inr (1, [.ref asg, .ref anm, .int (nI (0 + 1))])), (asg, aI G 65 (upd f 0 46)), (anm, aI G 66 (fun _ => 0)), (d, aI G 200 dr)]) (wc := [(ar, .inr (1, [.ref asg, .ref anm, .int (nI 0)])), (asg, aI G 65 f)]) hw hw1 hk1 [1, 2] rfl rfl (fun _ h => h) rfl (by
    intro k9 h9
    match k9, h9 with
    | 0, _ => exact Or.inl ⟨by decide, rfl⟩
    | 1, _ => exact Or.inr ⟨0, rfl, rfl⟩
    | 2, _ => exact Or.inr ⟨1, rfl, rfl⟩
    | 3, _ => exact Or.inl ⟨by decide, rfl⟩
    | 4, _ => exact Or.inl ⟨by decide, rfl⟩
    | k9 + 5, h9 => exact absurd h9 (Nat.not_lt_of_le (Nat.le_add_left _ _)))
  have hk := hk.tr hk1 (fun a h => by simp at h; rcases h with rfl | rfl <;> simp)
  generalize M1 = M at hH hw hk
  refine lv_pop hx hb d_bk_copyDraftToAsked_16 rfl ?_
  refine lv_iconst (v := 0) hx hb d_bk_copyDraftToAsked_17 (by decide) ?_
  refine lv_istore_n (lv' := [(1, .int 0), (0, .ref x)]) hx hb d_bk_copyDraftToAsked_18 rfl hl (by decide) rfl (fun ls hl => ?_)
  exact L19 (dn + 1) 0 (upd f 0 46) M _ _ _ (by omega) (by omega) ⟨upd_self, fun j hj => absurd hj (by omega)⟩ hw hk hH (lv_sub hl [0, 1] rfl)
