abbrev q_bk_pattern (G : hG) (x : Nat) (K : Nat → Prop) (dr : Nat → Int32) (dn lf rt : Nat) (P : List rwT) (bg : Nat) (X : List rwT) (ak : Bool) (an : Nat) (av : Nat → Int32) (M : hM) : Option Value → hM → Prop := fun rv M' => ∃ (f9 : Nat → Int32) (dp : Nat), pOk dr dn ∧ ag f9 (psg dr dn) (pz dr dn) ∧ (∀ r ∈ P, ¬ sm r (pz dr dn) f9) ∧ dpS P (pz dr dn) f9 dp ∧ rv = some (.int (nI (P.length + 1))) ∧ bkR G K x dr 0 lf rt (P ++ [(pz dr dn, f9, pN dr dn)]) (bg + (pz dr dn - dp)) X ak an av M' ∧ hm_kp (fun a => ¬ K a) M M'
abbrev px_bk_pattern (G : hG) (x : Nat) (K : Nat → Prop) (dr : Nat → Int32) (dn lf rt : Nat) (P : List rwT) (bg : Nat) (X : List rwT) (ak : Bool) (an : Nat) (av : Nat → Int32) (M : hM) : String → hM → Prop := fun E M' => bkR G K x dr 0 lf rt P bg X ak an av M' ∧ hm_kp (fun a => ¬ K a) M M' ∧ ((E = IAE ∧ ¬ pOk dr dn) ∨ (E = ISE ∧ pOk dr dn ∧ ∃ r ∈ P, sm r (pz dr dn) (psg dr dn)))
set_option maxHeartbeats 4000000 in
set_option maxRecDepth 100000 in
theorem c_bk_pattern (l : Launch) (hst : l.stackTraces = false) (G : hG) (x : Nat) (K : Nat → Prop) (dr : Nat → Int32) (dn lf rt : Nat) (P : List rwT) (bg : Nat) (X : List rwT) (ak : Bool) (an : Nat) (av : Nat → Int32) (M : hM) (hR : bkR G K x dr dn lf rt P bg X ak an av M) (hKM : ∀ a, K a → ∃ e, M a = some e) (hdn : dn ≤ 200) (hPl : P.length ≤ 600) (hbg : bg ≤ 30000) (hXl : X.length ≤ 600) : CtX l G y_bk_pattern w_bk_pattern { frames := 6, cells := 66, slots := 326, locals := 87 } ([.ref x] : List Value) M (q_bk_pattern G x K dr dn lf rt P bg X ak an av M) (px_bk_pattern G x K dr dn lf rt P bg X ak an av M) 66 326 := by
  refine CtX.ofW (cc := b_bk_pattern) (maxL := 2) (ret := (Option.some Jvm.ClassFile.FieldType.int)) (by decide) rfl (Nat.le_of_ble_eq_true rfl) (fun p e s m below meth c A ls E hr hlk hin hgx hno hZ hH hl => ?_)
  have hg := hgx.1
  have hl : lv_has ls 2 [(0, .ref x)] := hl
  have hx := E.1; have hb := E.2.1; have hml := E.2.2.1; have hown := E.2.2.2.1; have hts := E.2.2.2.2; have hK := hg.1
  obtain ⟨M0, hM0⟩ : ∃ M0 : hM, M0 = M := ⟨M, rfl⟩
  rw [show q_bk_pattern G x K dr dn lf rt P bg X ak an av M = q_bk_pattern G x K dr dn lf rt P bg X ak an av M0 by rw [hM0]]
  rw [show px_bk_pattern G x K dr dn lf rt P bg X ak an av M = px_bk_pattern G x K dr dn lf rt P bg X ak an av M0 by rw [hM0]]
  have hk : hm_kp (fun a => ¬ K a) M0 M := by rw [hM0]; exact hm_kp.rf
  obtain ⟨d, pt, xt, rr, ar, pro, xro, xbg, rsg, rnm, rsz, asg, anm, rf, rg, af, τp, τx, hw, htp, htx, hsp, hsx, hdj, hKB, hxb⟩ := hR
  have hKM0 : ∀ a, K a → ∃ e, M0 a = some e := by rw [hM0]; exact hKM
  refine lv_aload_n hx hb d_bk_pattern_0 rfl (lv_at hl 0 rfl) ?_
  have hM1 := c_bk_readPattern l G x d dn lf rt pt xt rr ar rsg rnm rsz rf rg dr M (hw.sub (ws' := [(x, .inr (3, [.ref d, .int (nI dn), .int (nI lf), .int (nI rt), .ref pt, .ref xt, .ref rr, .ref ar])), (rr, .inr (1, [.ref rsg, .ref rnm, .int (nI rsz)])), (rsg, aI G 65 rf), (rnm, aI G 66 rg), (d, aI G 200 dr)]) [0, 4, 5, 6, 1] rfl rfl) hdn s.heap.size
  have hG1 : GoodIn w_bk_pattern (wsV R_bk 43 R_bk y_bk_readPattern w_bk_readPattern) := gB_V wm_149 wm_151 wp_1 wm_1 wm_152
  refine hm_call (va_runV (y := y_bk_readPattern) (bytes := b_bk_readPattern) (maxL := 4) (ws := w_bk_readPattern) (rm := { frames := 3, cells := 0, slots := 0, locals := 64 }) (own := R_bk) (index := 43) (ret := (Option.some Jvm.ClassFile.FieldType.boolean)) (C := R_bk) (As := []) (rest := []) E hM1 (cwV (y := y_bk_readPattern) (bytes := b_bk_readPattern) (maxL := 4) (ws := w_bk_readPattern) (rm := { frames := 3, cells := 0, slots := 0, locals := 64 }) (own := R_bk) (index := 43) (ret := (Option.some Jvm.ClassFile.FieldType.boolean)) (C := R_bk) 0 hts hG1 rfl rfl rfl (by decide +kernel) ⟨Nat.le_of_ble_eq_true rfl, Nat.le_of_ble_eq_true rfl⟩) (hm_preV gk_w gk_s hH hg hK (hw.at 0 rfl) rfl []) rfl rfl hl.1 rfl (lv_room (Nat.le_of_ble_eq_true rfl)) d_bk_pattern_1 ⟨(by show _ ≤ 66; omega), (by show _ ≤ 326; omega)⟩) hH (fun r1 M1 H1 locs1 hq1 hH1 => ?_)
  replace hH := hH1; clear hH1; generalize H1 = H at hH ⊢; generalize locs1 = locs at hH ⊢
  obtain ⟨b9, sz9, f9, g9, rfl, hb9, hs9, hw1, hp9, hk1⟩ := hq1
  have htp := bt_row htp (fun a ha q hq => (hsp.2 a ha q hq).2.1) (hw.at 4 rfl) (hw.at 5 rfl) (hw.at 6 rfl) hk1
  have htx := bt_row htx (fun a ha q hq => (hsx.2 a ha q hq).2.1) (hw.at 4 rfl) (hw.at 5 rfl) (hw.at 6 rfl) hk1
  have hw := hm_join (ws' := [(x, .inr (3, [.ref d, .int (nI dn), .int (nI lf), .int (nI rt), .ref pt, .ref xt, .ref rr, .ref ar])), (d, aI G 200 dr), (pt, .inr (2, [.ref pro, .int (nI P.length), .int (nI bg)])), (xt, .inr (2, [.ref xro, .int (nI X.length), .int (nI xbg)])), (rr, .inr (1, [.ref rsg, .ref rnm, .int (nI sz9)])), (rsg, aI G 65 f9), (rnm, aI G 66 g9), (ar, .inr (1, [.ref asg, .ref anm, .int (nI (if ak = true then an + 2 else 0))])), (asg, aI G 65 af), (anm, aI G 66 av)]) (wc := [(x, .inr (3, [.ref d, .int (nI dn), .int (nI lf), .int (nI rt), .ref pt, .ref xt, .ref rr, .ref ar])), (rr, .inr (1, [.ref rsg, .ref rnm, .int (nI rsz)])), (rsg, aI G 65 rf), (rnm, aI G 66 rg), (d, aI G 200 dr)]) hw hw1 hk1 [0, 4, 5, 6, 1] rfl rfl (fun a h => by simp at h; rcases h with rfl | rfl | rfl <;> simp) rfl (by
    intro k9 h9
    match k9, h9 with
    | 0, _ => exact Or.inr ⟨0, rfl, rfl⟩
    | 1, _ => exact Or.inr ⟨4, rfl, rfl⟩
    | 2, _ => exact Or.inl ⟨by decide, rfl⟩
    | 3, _ => exact Or.inl ⟨by decide, rfl⟩
    | 4, _ => exact Or.inr ⟨1, rfl, rfl⟩
    | 5, _ => exact Or.inr ⟨2, rfl, rfl⟩
    | 6, _ => exact Or.inr ⟨3, rfl, rfl⟩
    | 7, _ => exact Or.inl ⟨by decide, rfl⟩
    | 8, _ => exact Or.inl ⟨by decide, rfl⟩
    | 9, _ => exact Or.inl ⟨by decide, rfl⟩
    | k9 + 10, h9 => exact absurd h9 (Nat.not_lt_of_le (Nat.le_add_left _ _)))
  have hk := hk.tr hk1 (fun a h => hKB a (by simp at h; rcases h with rfl | rfl | rfl <;> simp))
  generalize M1 = M at hH hw hk htp htx
  refine lv_istore_n (lv' := [(1, .int (bI b9)), (0, .ref x)]) hx hb d_bk_pattern_4 rfl hl (by decide) rfl (fun ls hl => ?_)
  refine lv_aload_n hx hb d_bk_pattern_5 rfl (lv_at hl 1 rfl) ?_
  refine lv_iconst (v := 0) hx hb d_bk_pattern_6 (by decide) ?_
  refine hm_put E (tB in_bk) t_bk tk_bk nm_bk hK hH (hw.at 0 rfl) rfl 1 (by decide) (tC wm_74) rfl rfl rfl (Nat.le_of_ble_eq_true rfl) (fs' := [.ref d, .int 0, .int (nI lf), .int (nI rt), .ref pt, .ref xt, .ref rr, .ref ar]) rfl d_bk_pattern_7 (fun H locs hH => ?_)
  have htp := bt_x (v := (some (.inr (3, [.ref d, .int 0, .int (nI lf), .int (nI rt), .ref pt, .ref xt, .ref rr, .ref ar])))) htp (hw.at 0 rfl)
  have htx := bt_x (v := (some (.inr (3, [.ref d, .int 0, .int (nI lf), .int (nI rt), .ref pt, .ref xt, .ref rr, .ref ar])))) htx (hw.at 0 rfl)
  have hw := hw.set (ws' := [(x, .inr (3, [.ref d, .int 0, .int (nI lf), .int (nI rt), .ref pt, .ref xt, .ref rr, .ref ar])), (d, aI G 200 dr), (pt, .inr (2, [.ref pro, .int (nI P.length), .int (nI bg)])), (xt, .inr (2, [.ref xro, .int (nI X.length), .int (nI xbg)])), (rr, .inr (1, [.ref rsg, .ref rnm, .int (nI sz9)])), (rsg, aI G 65 f9), (rnm, aI G 66 g9), (ar, .inr (1, [.ref asg, .ref anm, .int (nI (if ak = true then an + 2 else 0))])), (asg, aI G 65 af), (anm, aI G 66 av)]) (k := 0) rfl rfl
  have hk := hk.wr (a := x) (v := some (.inr (3, [.ref d, .int 0, .int (nI lf), .int (nI rt), .ref pt, .ref xt, .ref rr, .ref ar]))) (Or.inl (hKB _ (by simp)))
  generalize va_up M x (some (.inr (3, [.ref d, .int 0, .int (nI lf), .int (nI rt), .ref pt, .ref xt, .ref rr, .ref ar]))) = M at hH hw hk htp htx ⊢
  refine lv_iload_n hx hb d_bk_pattern_10 rfl (lv_at hl 0 rfl) ?_
  refine hb_if_ne (b := b9) hx hb (tgt := 24) d_bk_pattern_11 (by decide) (fun h11 => ?_) (fun h11 => ?_)
  · skip
    have hok := hb9.mp h11
    obtain ⟨e1, e2, e3⟩ := hp9 hok
    refine lv_aload_n hx hb d_bk_pattern_24 rfl (lv_at hl 1 rfl) ?_
    refine hm_get E (tB in_bk) hK hH (hw.at 0 rfl) rfl 4 (by decide) (tC wm_77) rfl d_bk_pattern_25 ?_
    refine lv_aload_n hx hb d_bk_pattern_28 rfl (lv_at hl 1 rfl) ?_
    refine hm_get E (tB in_bk) hK hH (hw.at 0 rfl) rfl 6 (by decide) (tC wm_79) rfl d_bk_pattern_29 ?_
    have hM1 := c_tr_numbersOf l G pt pro P.length bg rr rsg rnm sz9 f9 τp M (hw.sub (ws' := [(pt, .inr (2, [.ref pro, .int (nI P.length), .int (nI bg)])), (rr, .inr (1, [.ref rsg, .ref rnm, .int (nI sz9)])), (rsg, aI G 65 f9)]) [2, 4, 5] rfl rfl) htp.1 hs9 H.size
    have hG1 : GoodIn w_bk_pattern (wsV R_bk 54 R_tr y_tr_numbersOf w_tr_numbersOf) := gB_V wm_254 wm_255 wm_256 wm_2 wm_257
    refine hm_call (va_runV (y := y_tr_numbersOf) (bytes := b_tr_numbersOf) (maxL := 4) (ws := w_tr_numbersOf) (rm := { frames := 2, cells := 0, slots := 0, locals := 42 }) (own := R_bk) (index := 54) (ret := (Option.some (Jvm.ClassFile.FieldType.array Jvm.ClassFile.FieldType.int))) (C := R_tr) (As := [.ref rr]) (rest := []) E hM1 (cwV (y := y_tr_numbersOf) (bytes := b_tr_numbersOf) (maxL := 4) (ws := w_tr_numbersOf) (rm := { frames := 2, cells := 0, slots := 0, locals := 42 }) (own := R_bk) (index := 54) (ret := (Option.some (Jvm.ClassFile.FieldType.array Jvm.ClassFile.FieldType.int))) (C := R_tr) 1 hts hG1 rfl rfl rfl (by decide +kernel) ⟨Nat.le_of_ble_eq_true rfl, Nat.le_of_ble_eq_true rfl⟩) (hm_preV gk_w gk_s hH hg hK (hw.at 2 rfl) rfl [.ref rr]) rfl rfl hl.1 rfl (lv_room (Nat.le_of_ble_eq_true rfl)) d_bk_pattern_32 ⟨(by show _ ≤ 66; omega), (by show _ ≤ 326; omega)⟩) hH (fun r1 M1 H1 locs1 hq1 hH1 => ?_)
    obtain ⟨rfl, e1⟩ := hq1
    replace hH := hH1; rw [e1] at hH; clear hH1 e1; generalize H1 = H at hH ⊢; generalize locs1 = locs at hH ⊢
    refine hm_ifnull (tgt := 48) hx hb d_bk_pattern_35 (by decide) (fun hnn => ?_) (fun y hnn => ?_)
    · skip
      have hns := bt_none htp hnn
      have hns9 := hns
      refine lv_aload_n hx hb d_bk_pattern_48 rfl (lv_at hl 1 rfl) ?_
      refine hm_get E (tB in_bk) hK hH (hw.at 0 rfl) rfl 4 (by decide) (tC wm_77) rfl d_bk_pattern_49 ?_
      have hM1 := c_tr_entries l G pt pro P.length bg M (hw.at 2 rfl) H.size
      have hG1 : GoodIn w_bk_pattern (wsV R_bk 63 R_tr y_tr_entries w_tr_entries) := gB_V wm_132 wm_133 wm_134 wm_2 wm_135
      refine hm_call (va_runV (y := y_tr_entries) (bytes := b_tr_entries) (maxL := 1) (ws := w_tr_entries) (rm := { frames := 0, cells := 0, slots := 0, locals := 0 }) (own := R_bk) (index := 63) (ret := (Option.some Jvm.ClassFile.FieldType.int)) (C := R_tr) (As := []) (rest := []) E hM1 (cwV (y := y_tr_entries) (bytes := b_tr_entries) (maxL := 1) (ws := w_tr_entries) (rm := { frames := 0, cells := 0, slots := 0, locals := 0 }) (own := R_bk) (index := 63) (ret := (Option.some Jvm.ClassFile.FieldType.int)) (C := R_tr) 0 hts hG1 rfl rfl rfl (by decide +kernel) ⟨Nat.le_of_ble_eq_true rfl, Nat.le_of_ble_eq_true rfl⟩) (hm_preV gk_w gk_s hH hg hK (hw.at 2 rfl) rfl []) rfl rfl hl.1 rfl (lv_room (Nat.le_of_ble_eq_true rfl)) d_bk_pattern_52 ⟨(by show _ ≤ 66; omega), (by show _ ≤ 326; omega)⟩) hH (fun r1 M1 H1 locs1 hq1 hH1 => ?_)
      obtain ⟨rfl, e1⟩ := hq1
      replace hH := hH1; rw [e1] at hH; clear hH1 e1; generalize H1 = H at hH ⊢; generalize locs1 = locs at hH ⊢
      refine lv_sipush (v := 8192) hx hb d_bk_pattern_55 (by decide) ?_
      refine hn_icmp_lt (a := P.length) (b := 8192) hx hb (by omega) (by omega) (tgt := 71) d_bk_pattern_58 (by decide) (fun h58 => ?_) (fun h58 => ?_)
      · skip
        refine lv_aload_n hx hb d_bk_pattern_71 rfl (lv_at hl 1 rfl) ?_
        refine hm_get E (tB in_bk) hK hH (hw.at 0 rfl) rfl 4 (by decide) (tC wm_77) rfl d_bk_pattern_72 ?_
        refine lv_aload_n hx hb d_bk_pattern_75 rfl (lv_at hl 1 rfl) ?_
        refine hm_get E (tB in_bk) hK hH (hw.at 0 rfl) rfl 6 (by decide) (tC wm_79) rfl d_bk_pattern_76 ?_
        obtain ⟨dp, hdp⟩ := dp_ex P f9 sz9
        obtain ⟨hd1, hd2⟩ := bt_dp htp hdp
        have hdpl := hdp.1
        have hM1 := c_tr_beginningsWith l G pt pro P.length bg rr rsg rnm sz9 f9 τp dp M (hw.sub (ws' := [(pt, .inr (2, [.ref pro, .int (nI P.length), .int (nI bg)])), (rr, .inr (1, [.ref rsg, .ref rnm, .int (nI sz9)])), (rsg, aI G 65 f9)]) [2, 4, 5] rfl rfl) htp.1 hs9 (by omega) hdp.1 hd1 hd2 H.size
        have hG1 : GoodIn w_bk_pattern (wsV R_bk 69 R_tr y_tr_beginningsWith w_tr_beginningsWith) := gB_V wm_281 wm_282 wm_283 wm_2 wm_284
        refine hm_call (va_runV (y := y_tr_beginningsWith) (bytes := b_tr_beginningsWith) (maxL := 4) (ws := w_tr_beginningsWith) (rm := { frames := 2, cells := 0, slots := 0, locals := 42 }) (own := R_bk) (index := 69) (ret := (Option.some Jvm.ClassFile.FieldType.int)) (C := R_tr) (As := [.ref rr]) (rest := []) E hM1 (cwV (y := y_tr_beginningsWith) (bytes := b_tr_beginningsWith) (maxL := 4) (ws := w_tr_beginningsWith) (rm := { frames := 2, cells := 0, slots := 0, locals := 42 }) (own := R_bk) (index := 69) (ret := (Option.some Jvm.ClassFile.FieldType.int)) (C := R_tr) 1 hts hG1 rfl rfl rfl (by decide +kernel) ⟨Nat.le_of_ble_eq_true rfl, Nat.le_of_ble_eq_true rfl⟩) (hm_preV gk_w gk_s hH hg hK (hw.at 2 rfl) rfl [.ref rr]) rfl rfl hl.1 rfl (lv_room (Nat.le_of_ble_eq_true rfl)) d_bk_pattern_79 ⟨(by show _ ≤ 66; omega), (by show _ ≤ 326; omega)⟩) hH (fun r1 M1 H1 locs1 hq1 hH1 => ?_)
        obtain ⟨rfl, e1⟩ := hq1
        replace hH := hH1; rw [e1] at hH; clear hH1 e1; generalize H1 = H at hH ⊢; generalize locs1 = locs at hH ⊢
        refine lv_ldc (v := 32768) hx hb hown (hts _ (tC wm_285)) d_bk_pattern_82 ?_
        refine hn_icmp_le (a := bg + sz9 - dp) (b := 32768) hx hb (by omega) (by omega) (tgt := 97) d_bk_pattern_84 (by decide) (fun h84 => ?_) (fun h84 => ?_)
        · skip
          refine lv_aload_n hx hb d_bk_pattern_97 rfl (lv_at hl 1 rfl) ?_
          refine hm_get E (tB in_bk) hK hH (hw.at 0 rfl) rfl 4 (by decide) (tC wm_77) rfl d_bk_pattern_98 ?_
          refine lv_aload_n hx hb d_bk_pattern_101 rfl (lv_at hl 1 rfl) ?_
          refine hm_get E (tB in_bk) hK hH (hw.at 0 rfl) rfl 6 (by decide) (tC wm_79) rfl d_bk_pattern_102 ?_
          have hM1 := c_tr_enter l G pt pro P.length bg rr rsg rnm sz9 f9 τp g9 (sE P) P dp M (hw.sub (ws' := [(pt, .inr (2, [.ref pro, .int (nI P.length), .int (nI bg)])), (rr, .inr (1, [.ref rsg, .ref rnm, .int (nI sz9)])), (rsg, aI G 65 f9), (rnm, aI G 66 g9)]) [2, 4, 5, 6] rfl rfl) htp.1 hs9 (by omega) (by omega) hdp.1 hd1 hd2 htp.2.1 htp.2.2 (fun _ _ z => z) H.size
          have hG1 : GoodIn w_bk_pattern (wsV R_bk 76 R_tr y_tr_enter w_tr_enter) := gB_V wm_287 wm_288 wm_289 wm_2 wm_290
          refine hm_call (va_runV (y := y_tr_enter) (bytes := b_tr_enter) (maxL := 5) (ws := w_tr_enter) (rm := { frames := 3, cells := 66, slots := 326, locals := 55 }) (own := R_bk) (index := 76) (ret := (Option.none : Option Jvm.ClassFile.FieldType)) (C := R_tr) (As := [.ref rr]) (rest := []) E hM1 (cwV (y := y_tr_enter) (bytes := b_tr_enter) (maxL := 5) (ws := w_tr_enter) (rm := { frames := 3, cells := 66, slots := 326, locals := 55 }) (own := R_bk) (index := 76) (ret := (Option.none : Option Jvm.ClassFile.FieldType)) (C := R_tr) 1 hts hG1 rfl rfl rfl (by decide +kernel) ⟨Nat.le_of_ble_eq_true rfl, Nat.le_of_ble_eq_true rfl⟩) (hm_preV gk_w gk_s hH hg hK (hw.at 2 rfl) rfl [.ref rr]) rfl rfl hl.1 rfl (lv_room (Nat.le_of_ble_eq_true rfl)) d_bk_pattern_105 ⟨(by show _ ≤ 66; omega), (by show _ ≤ 326; omega)⟩) hH (fun r1 M1 H1 locs1 hq1 hH1 => ?_)
          replace hH := hH1; clear hH1; generalize H1 = H at hH ⊢; generalize locs1 = locs at hH ⊢
          obtain ⟨rfl, τ9, Es9, ht1, ht2, ht3, halt, hk1, hL1, hL2⟩ := hq1
          have hE : Es9 = P ++ [(sz9, f9, g9)] ∧ hm_has M1 [(pt, .inr (2, [.ref pro, .int (nI (P.length + 1)), .int (nI (bg + (sz9 - dp)))])), (rr, .inr (1, [.ref rsg, .ref rnm, .int (nI sz9)])), (rsg, aI G 65 f9), (rnm, aI G 66 g9)] := by
            rcases halt with ⟨-, hEs, hw1⟩ | ⟨e8, r8, hr8, hr9, -⟩
            · exact ⟨hEs, hw1⟩
            · exact absurd hr9 (hns r8 (List.mem_of_getElem? hr8))
          obtain ⟨hEs, hw1⟩ := hE
          subst hEs
          have htx9 := bt_other htp htx hdj (hw.at 2 rfl) hk1
          have hdj9 := dis_enter hdj htx.1 hL1
          have hsp9 := bsep_enter hsp (kK hk hKM0) (hw.at 6 rfl) (hw.at 9 rfl) hL1 hL2
          have hw : hm_has M1 [(x, .inr (3, [.ref d, .int (nI 0), .int (nI lf), .int (nI rt), .ref pt, .ref xt, .ref rr, .ref ar])), (d, aI G 200 dr), (pt, .inr (2, [.ref pro, .int (nI (P.length + 1)), .int (nI (bg + (sz9 - dp)))])), (xt, .inr (2, [.ref xro, .int (nI X.length), .int (nI xbg)])), (rr, .inr (1, [.ref rsg, .ref rnm, .int (nI sz9)])), (rsg, aI G 65 f9), (rnm, aI G 66 g9), (ar, .inr (1, [.ref asg, .ref anm, .int (nI (if ak = true then an + 2 else 0))])), (asg, aI G 65 af), (anm, aI G 66 av)] := ⟨hw.1, List.forall_mem_cons.mpr ⟨kp_cell htp hk1 (hw.at 0 rfl) (hw.ne 0 2 rfl rfl (by decide)) (ne_bk (G := G)).1, List.forall_mem_cons.mpr ⟨kp_cell htp hk1 (hw.at 1 rfl) (hw.ne 1 2 rfl rfl (by decide)) (ne_200 (G := G)).1, List.forall_mem_cons.mpr ⟨hw1.at 0 rfl, List.forall_mem_cons.mpr ⟨kp_cell htp hk1 (hw.at 3 rfl) (hw.ne 3 2 rfl rfl (by decide)) (ne_tr (G := G)).1, List.forall_mem_cons.mpr ⟨hw1.at 1 rfl, List.forall_mem_cons.mpr ⟨hw1.at 2 rfl, List.forall_mem_cons.mpr ⟨hw1.at 3 rfl, List.forall_mem_cons.mpr ⟨kp_cell htp hk1 (hw.at 7 rfl) (hw.ne 7 2 rfl rfl (by decide)) (ne_rw (G := G)).1, List.forall_mem_cons.mpr ⟨kp_cell htp hk1 (hw.at 8 rfl) (hw.ne 8 2 rfl rfl (by decide)) (ne_65 (G := G)).1, List.forall_mem_cons.mpr ⟨kp_cell htp hk1 (hw.at 9 rfl) (hw.ne 9 2 rfl rfl (by decide)) (fun _ _ _ _ z => by cases z), fun _ h => absurd h List.not_mem_nil⟩⟩⟩⟩⟩⟩⟩⟩⟩⟩⟩
          have hk := hk.tr hk1 (fun b h => h.elim (fun z => by rw [z]; exact hKB pt (by simp)) (hsp.1 b))
          clear htx hdj hsp htp hns hd1 hd2
          have htp : bt G M1 pro τ9 (P ++ [(sz9, f9, g9)]) := ⟨ht1, trI_ext ht2 (fun _ _ => sE_app), ht3⟩
          have htx := htx9; have hdj := hdj9; have hsp := hsp9
          clear htx9 hdj9 hsp9 ht1 ht2 ht3 hk1 hw1 hL1 hL2 halt
          generalize M1 = M at hH hw hk htp htx
          refine lv_aload_n hx hb d_bk_pattern_108 rfl (lv_at hl 1 rfl) ?_
          refine hm_get E (tB in_bk) hK hH (hw.at 0 rfl) rfl 4 (by decide) (tC wm_77) rfl d_bk_pattern_109 ?_
          have hM1 := c_tr_entries l G pt pro (P.length + 1) (bg + (sz9 - dp)) M (hw.at 2 rfl) H.size
          have hG1 : GoodIn w_bk_pattern (wsV R_bk 63 R_tr y_tr_entries w_tr_entries) := gB_V wm_132 wm_133 wm_134 wm_2 wm_135
          refine hm_call (va_runV (y := y_tr_entries) (bytes := b_tr_entries) (maxL := 1) (ws := w_tr_entries) (rm := { frames := 0, cells := 0, slots := 0, locals := 0 }) (own := R_bk) (index := 63) (ret := (Option.some Jvm.ClassFile.FieldType.int)) (C := R_tr) (As := []) (rest := []) E hM1 (cwV (y := y_tr_entries) (bytes := b_tr_entries) (maxL := 1) (ws := w_tr_entries) (rm := { frames := 0, cells := 0, slots := 0, locals := 0 }) (own := R_bk) (index := 63) (ret := (Option.some Jvm.ClassFile.FieldType.int)) (C := R_tr) 0 hts hG1 rfl rfl rfl (by decide +kernel) ⟨Nat.le_of_ble_eq_true rfl, Nat.le_of_ble_eq_true rfl⟩) (hm_preV gk_w gk_s hH hg hK (hw.at 2 rfl) rfl []) rfl rfl hl.1 rfl (lv_room (Nat.le_of_ble_eq_true rfl)) d_bk_pattern_112 ⟨(by show _ ≤ 66; omega), (by show _ ≤ 326; omega)⟩) hH (fun r1 M1 H1 locs1 hq1 hH1 => ?_)
          obtain ⟨rfl, e1⟩ := hq1
          replace hH := hH1; rw [e1] at hH; clear hH1 e1; generalize H1 = H at hH ⊢; generalize locs1 = locs at hH ⊢
          subst e1 e3
          exact vx_ret (hm_iret E hr hlk hH (⟨f9, dp, hok, e2, hns9, hdp, rfl, ⟨d, pt, xt, rr, ar, pro, xro, xbg, rsg, rnm, pz dr dn, asg, anm, f9, pN dr dn, af, τ9, τx, by rw [List.length_append]; exact hw, htp, htx, hsp, hsx, hdj, hKB, hxb⟩, hk⟩) (by omega) (by omega) d_bk_pattern_115)
        · skip
          omega
      · skip
        omega
    · skip
      obtain ⟨r9, hr1, hr2, -⟩ := bt_some htp hnn
      exact hm_throwI (is := 60) E hst hgx hgx.2.2.2.1.choose_spec hno hZ hlk hH hl.1 d_bk_pattern_38 d_bk_pattern_41 d_bk_pattern_42 d_bk_pattern_44 d_bk_pattern_47 (by decide) (by decide) (Nat.le_of_ble_eq_true rfl) (Nat.le_of_ble_eq_true rfl) (⟨⟨d, pt, xt, rr, ar, pro, xro, xbg, rsg, rnm, sz9, asg, anm, f9, g9, af, τp, τx, hw, htp, htx, hsp, hsx, hdj, hKB, hxb⟩, hk, Or.inr ⟨rfl, hok, r9, hr1, by rw [e1] at hr2 e2; exact sm_ag hr2 e2⟩⟩) (by omega) (by omega)
  · skip
    exact hm_throwA (is := 49) E hst hgx hgx.2.2.1.choose_spec hno hZ hlk hH hl.1 d_bk_pattern_14 d_bk_pattern_17 d_bk_pattern_18 d_bk_pattern_20 d_bk_pattern_23 (by decide) (by decide) (Nat.le_of_ble_eq_true rfl) (Nat.le_of_ble_eq_true rfl) (⟨⟨d, pt, xt, rr, ar, pro, xro, xbg, rsg, rnm, sz9, asg, anm, f9, g9, af, τp, τx, hw, htp, htx, hsp, hsx, hdj, hKB, hxb⟩, hk, Or.inl ⟨rfl, fun z => by rw [hb9.mpr z] at h11; cases h11⟩⟩) (by omega) (by omega)
