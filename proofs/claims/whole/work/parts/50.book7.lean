abbrev q_bk_exception (G : hG) (x : Nat) (K : Nat → Prop) (dr : Nat → Int32) (dn lf rt : Nat) (P : List rwT) (bg : Nat) (X : List rwT) (ak : Bool) (an : Nat) (av : Nat → Int32) (M : hM) : Option Value → hM → Prop := fun rv M' => ∃ (f9 : Nat → Int32) (X9 : List rwT), xOk dr dn ∧ ag f9 (wrow (xsg dr dn) (xz dr dn)) (xz dr dn + 2) ∧ (((∀ r ∈ X, ¬ sm r (xz dr dn + 2) f9) ∧ X9 = X ++ [(xz dr dn + 2, f9, xnm dr dn)]) ∨ ∃ e8 r8, X[e8]? = some r8 ∧ sm r8 (xz dr dn + 2) f9 ∧ X9 = X.set e8 (xz dr dn + 2, f9, xnm dr dn)) ∧ rv = some (.int (nI X9.length)) ∧ bkR G K x dr 0 lf rt P bg X9 ak an av M' ∧ hm_kp (fun a => ¬ K a) M M'
abbrev px_bk_exception (G : hG) (x : Nat) (K : Nat → Prop) (dr : Nat → Int32) (dn lf rt : Nat) (P : List rwT) (bg : Nat) (X : List rwT) (ak : Bool) (an : Nat) (av : Nat → Int32) (M : hM) : String → hM → Prop := fun E M' => bkR G K x dr 0 lf rt P bg X ak an av M' ∧ hm_kp (fun a => ¬ K a) M M' ∧ E = IAE ∧ ¬ xOk dr dn
set_option maxHeartbeats 4000000 in
set_option maxRecDepth 100000 in
theorem c_bk_exception (l : Launch) (hst : l.stackTraces = false) (G : hG) (x : Nat) (K : Nat → Prop) (dr : Nat → Int32) (dn lf rt : Nat) (P : List rwT) (bg : Nat) (X : List rwT) (ak : Bool) (an : Nat) (av : Nat → Int32) (M : hM) (hR : bkR G K x dr dn lf rt P bg X ak an av M) (hKM : ∀ a, K a → ∃ e, M a = some e) (hdn : dn ≤ 200) (hPl : P.length ≤ 600) (hbg : bg ≤ 30000) (hXl : X.length ≤ 600) : CtX l G y_bk_exception w_bk_exception { frames := 6, cells := 66, slots := 326, locals := 82 } ([.ref x] : List Value) M (q_bk_exception G x K dr dn lf rt P bg X ak an av M) (px_bk_exception G x K dr dn lf rt P bg X ak an av M) 66 326 := by
  refine CtX.ofW (cc := b_bk_exception) (maxL := 2) (ret := (Option.some Jvm.ClassFile.FieldType.int)) (by decide) rfl (Nat.le_of_ble_eq_true rfl) (fun p e s m below meth c A ls E hr hlk hin hgx hno hZ hH hl => ?_)
  have hg := hgx.1
  have hl : lv_has ls 2 [(0, .ref x)] := hl
  have hx := E.1; have hb := E.2.1; have hml := E.2.2.1; have hown := E.2.2.2.1; have hts := E.2.2.2.2; have hK := hg.1
  obtain ⟨M0, hM0⟩ : ∃ M0 : hM, M0 = M := ⟨M, rfl⟩
  rw [show q_bk_exception G x K dr dn lf rt P bg X ak an av M = q_bk_exception G x K dr dn lf rt P bg X ak an av M0 by rw [hM0]]
  rw [show px_bk_exception G x K dr dn lf rt P bg X ak an av M = px_bk_exception G x K dr dn lf rt P bg X ak an av M0 by rw [hM0]]
  have hk : hm_kp (fun a => ¬ K a) M0 M := by rw [hM0]; exact hm_kp.rf
  obtain ⟨d, pt, xt, rr, ar, pro, xro, xbg, rsg, rnm, rsz, asg, anm, rf, rg, af, τp, τx, hw, htp, htx, hsp, hsx, hdj, hKB, hxb⟩ := hR
  have hKM0 : ∀ a, K a → ∃ e, M0 a = some e := by rw [hM0]; exact hKM
  refine lv_aload_n hx hb d_bk_exception_0 rfl (lv_at hl 0 rfl) ?_
  have hM1 := c_bk_readException l G x d dn lf rt pt xt rr ar rsg rnm rsz rf rg dr M (hw.sub (ws' := [(x, .inr (3, [.ref d, .int (nI dn), .int (nI lf), .int (nI rt), .ref pt, .ref xt, .ref rr, .ref ar])), (rr, .inr (1, [.ref rsg, .ref rnm, .int (nI rsz)])), (rsg, aI G 65 rf), (rnm, aI G 66 rg), (d, aI G 200 dr)]) [0, 4, 5, 6, 1] rfl rfl) hdn s.heap.size
  have hG1 : GoodIn w_bk_exception (wsV R_bk 80 R_bk y_bk_readException w_bk_readException) := gB_V wm_315 wm_317 wp_5 wm_1 wm_318
  refine hm_call (va_runV (y := y_bk_readException) (bytes := b_bk_readException) (maxL := 4) (ws := w_bk_readException) (rm := { frames := 2, cells := 0, slots := 0, locals := 43 }) (own := R_bk) (index := 80) (ret := (Option.some Jvm.ClassFile.FieldType.boolean)) (C := R_bk) (As := []) (rest := []) E hM1 (cwV (y := y_bk_readException) (bytes := b_bk_readException) (maxL := 4) (ws := w_bk_readException) (rm := { frames := 2, cells := 0, slots := 0, locals := 43 }) (own := R_bk) (index := 80) (ret := (Option.some Jvm.ClassFile.FieldType.boolean)) (C := R_bk) 0 hts hG1 rfl rfl rfl (by decide +kernel) ⟨Nat.le_of_ble_eq_true rfl, Nat.le_of_ble_eq_true rfl⟩) (hm_preV gk_w gk_s hH hg hK (hw.at 0 rfl) rfl []) rfl rfl hl.1 rfl (lv_room (Nat.le_of_ble_eq_true rfl)) d_bk_exception_1 ⟨(by show _ ≤ 66; omega), (by show _ ≤ 326; omega)⟩) hH (fun r1 M1 H1 locs1 hq1 hH1 => ?_)
  replace hH := hH1; clear hH1; generalize H1 = H at hH ⊢; generalize locs1 = locs at hH ⊢
  obtain ⟨b9, sz9, f9, g9, rfl, hb9, hs9, hw1, hp9, hk1⟩ := hq1
  have htp := bt_row htp (fun a ha q hq => (hsp.2 a ha q hq).2.1) (hw.at 4 rfl) (hw.at 5 rfl) (hw.at 6 rfl) hk1
  have htx := bt_row htx (fun a ha q hq => (hsx.2 a ha q hq).2.1) (hw.at 4 rfl) (hw.at 5 rfl) (hw.at 6 rfl) hk1
  have hw := hm_join (ws' := [(x, .inr (3, [.ref d, .int (nI dn), .int (nI lf), .int (nI rt), .ref pt, .ref xt, .ref rr, .ref ar])), (d, aI G 200 dr), (pt, .inr (2, [.ref pro, .int (nI P.length), .int (nI bg)])), (xt, .inr (2, [.ref xro, .int (nI X.length), .int (nI xbg)])), (rr, .inr (1, [.ref rsg, .ref rnm, .int (nI sz9)])), (rsg, aI G 65 f9), (rnm, aI G 66 g9), (ar, .inr (1, [.ref asg, .ref anm, .int (nI (if ak = true then an + 2 else 0))])), (asg, aI G 65 af), (anm, aI G 66 av)]) (wc := [(x, .inr (3, [.ref d, .int (nI dn), .int (nI lf), .int (nI rt), .ref pt, .ref xt, .ref rr, .ref ar])), (rr, .inr (1, [.ref rsg, .ref rnm, .int (nI rsz)])), (rsg, aI G 65 rf), (rnm, aI G 66 rg), (d, aI G 200 dr)]) hw hw1 hk1 [0, 4, 5, 6, 1] rfl rfl (fun a h => by simp at h; rcases h with rfl | rfl | rfl <;> simp) rfl (by
    intro k9 h9
    match k9, h9 with
    | 0, _ => exact Or.inr ⟨0, rfl, rfl⟩
    | 1, _ => exact Or.inr ⟨4, rfl, rfl⟩
    | 2, _ => exact Or.inl ⟨by decide, rfl⟩
    | 3, _ => exact Or.inl ⟨by decide, rfl⟩
    | 4, _ => exact Or.inr ⟨1, rfl, rfl⟩
    | 5, _ => exact Or.inr ⟨2, rfl, rfl⟩
    | 6, _ => exact Or.inr ⟨3, rfl, rfl⟩
    | 7, _ => exact Or.inl ⟨by decide, rfl⟩
    | 8, _ => exact Or.inl ⟨by decide, rfl⟩
    | 9, _ => exact Or.inl ⟨by decide, rfl⟩
    | k9 + 10, h9 => exact absurd h9 (Nat.not_lt_of_le (Nat.le_add_left _ _)))
  have hk := hk.tr hk1 (fun a h => hKB a (by simp at h; rcases h with rfl | rfl | rfl <;> simp))
  generalize M1 = M at hH hw hk htp htx
  refine lv_istore_n (lv' := [(1, .int (bI b9)), (0, .ref x)]) hx hb d_bk_exception_4 rfl hl (by decide) rfl (fun ls hl => ?_)
  refine lv_aload_n hx hb d_bk_exception_5 rfl (lv_at hl 1 rfl) ?_
  refine lv_iconst (v := 0) hx hb d_bk_exception_6 (by decide) ?_
  refine hm_put E (tB in_bk) t_bk tk_bk nm_bk hK hH (hw.at 0 rfl) rfl 1 (by decide) (tC wm_74) rfl rfl rfl (Nat.le_of_ble_eq_true rfl) (fs' := [.ref d, .int 0, .int (nI lf), .int (nI rt), .ref pt, .ref xt, .ref rr, .ref ar]) rfl d_bk_exception_7 (fun H locs hH => ?_)
  have htp := bt_x (v := (some (.inr (3, [.ref d, .int 0, .int (nI lf), .int (nI rt), .ref pt, .ref xt, .ref rr, .ref ar])))) htp (hw.at 0 rfl)
  have htx := bt_x (v := (some (.inr (3, [.ref d, .int 0, .int (nI lf), .int (nI rt), .ref pt, .ref xt, .ref rr, .ref ar])))) htx (hw.at 0 rfl)
  have hw := hw.set (ws' := [(x, .inr (3, [.ref d, .int 0, .int (nI lf), .int (nI rt), .ref pt, .ref xt, .ref rr, .ref ar])), (d, aI G 200 dr), (pt, .inr (2, [.ref pro, .int (nI P.length), .int (nI bg)])), (xt, .inr (2, [.ref xro, .int (nI X.length), .int (nI xbg)])), (rr, .inr (1, [.ref rsg, .ref rnm, .int (nI sz9)])), (rsg, aI G 65 f9), (rnm, aI G 66 g9), (ar, .inr (1, [.ref asg, .ref anm, .int (nI (if ak = true then an + 2 else 0))])), (asg, aI G 65 af), (anm, aI G 66 av)]) (k := 0) rfl rfl
  have hk := hk.wr (a := x) (v := some (.inr (3, [.ref d, .int 0, .int (nI lf), .int (nI rt), .ref pt, .ref xt, .ref rr, .ref ar]))) (Or.inl (hKB _ (by simp)))
  generalize va_up M x (some (.inr (3, [.ref d, .int 0, .int (nI lf), .int (nI rt), .ref pt, .ref xt, .ref rr, .ref ar]))) = M at hH hw hk htp htx ⊢
  refine lv_iload_n hx hb d_bk_exception_10 rfl (lv_at hl 0 rfl) ?_
  refine hb_if_ne (b := b9) hx hb (tgt := 24) d_bk_exception_11 (by decide) (fun h11 => ?_) (fun h11 => ?_)
  · skip
    have hok := hb9.mp h11
    obtain ⟨e1, e2, e3⟩ := hp9 hok
    refine lv_aload_n hx hb d_bk_exception_24 rfl (lv_at hl 1 rfl) ?_
    refine hm_get E (tB in_bk) hK hH (hw.at 0 rfl) rfl 5 (by decide) (tC wm_78) rfl d_bk_exception_25 ?_
    refine lv_aload_n hx hb d_bk_exception_28 rfl (lv_at hl 1 rfl) ?_
    refine hm_get E (tB in_bk) hK hH (hw.at 0 rfl) rfl 6 (by decide) (tC wm_79) rfl d_bk_exception_29 ?_
    have hM1 := c_tr_numbersOf l G xt xro X.length xbg rr rsg rnm sz9 f9 τx M (hw.sub (ws' := [(xt, .inr (2, [.ref xro, .int (nI X.length), .int (nI xbg)])), (rr, .inr (1, [.ref rsg, .ref rnm, .int (nI sz9)])), (rsg, aI G 65 f9)]) [3, 4, 5] rfl rfl) htx.1 hs9 H.size
    have hG1 : GoodIn w_bk_exception (wsV R_bk 54 R_tr y_tr_numbersOf w_tr_numbersOf) := gB_V wm_254 wm_255 wm_256 wm_2 wm_257
    refine hm_call (va_runV (y := y_tr_numbersOf) (bytes := b_tr_numbersOf) (maxL := 4) (ws := w_tr_numbersOf) (rm := { frames := 2, cells := 0, slots := 0, locals := 42 }) (own := R_bk) (index := 54) (ret := (Option.some (Jvm.ClassFile.FieldType.array Jvm.ClassFile.FieldType.int))) (C := R_tr) (As := [.ref rr]) (rest := []) E hM1 (cwV (y := y_tr_numbersOf) (bytes := b_tr_numbersOf) (maxL := 4) (ws := w_tr_numbersOf) (rm := { frames := 2, cells := 0, slots := 0, locals := 42 }) (own := R_bk) (index := 54) (ret := (Option.some (Jvm.ClassFile.FieldType.array Jvm.ClassFile.FieldType.int))) (C := R_tr) 1 hts hG1 rfl rfl rfl (by decide +kernel) ⟨Nat.le_of_ble_eq_true rfl, Nat.le_of_ble_eq_true rfl⟩) (hm_preV gk_w gk_s hH hg hK (hw.at 3 rfl) rfl [.ref rr]) rfl rfl hl.1 rfl (lv_room (Nat.le_of_ble_eq_true rfl)) d_bk_exception_32 ⟨(by show _ ≤ 66; omega), (by show _ ≤ 326; omega)⟩) hH (fun r1 M1 H1 locs1 hq1 hH1 => ?_)
    obtain ⟨rfl, e1⟩ := hq1
    replace hH := hH1; rw [e1] at hH; clear hH1 e1; generalize H1 = H at hH ⊢; generalize locs1 = locs at hH ⊢
    refine hm_ifnonnull (tgt := 61) hx hb d_bk_exception_35 (by decide) (fun y hnn => ?_) (fun hnn => ?_)
    · skip
      obtain ⟨dp, hdp⟩ := dp_ex X f9 sz9
      obtain ⟨hd1, hd2⟩ := bt_dp htx hdp
      have hdpl := hdp.1
      refine lv_aload_n hx hb d_bk_exception_61 rfl (lv_at hl 1 rfl) ?_
      refine hm_get E (tB in_bk) hK hH (hw.at 0 rfl) rfl 5 (by decide) (tC wm_78) rfl d_bk_exception_62 ?_
      refine lv_aload_n hx hb d_bk_exception_65 rfl (lv_at hl 1 rfl) ?_
      refine hm_get E (tB in_bk) hK hH (hw.at 0 rfl) rfl 6 (by decide) (tC wm_79) rfl d_bk_exception_66 ?_
      have hM1 := c_tr_enter l G xt xro X.length xbg rr rsg rnm sz9 f9 τx g9 (sE X) X dp M (hw.sub (ws' := [(xt, .inr (2, [.ref xro, .int (nI X.length), .int (nI xbg)])), (rr, .inr (1, [.ref rsg, .ref rnm, .int (nI sz9)])), (rsg, aI G 65 f9), (rnm, aI G 66 g9)]) [3, 4, 5, 6] rfl rfl) htx.1 hs9 (by omega) (by omega) hdp.1 hd1 hd2 htx.2.1 htx.2.2 (fun _ _ z => z) H.size
      have hG1 : GoodIn w_bk_exception (wsV R_bk 76 R_tr y_tr_enter w_tr_enter) := gB_V wm_287 wm_288 wm_289 wm_2 wm_290
      refine hm_call (va_runV (y := y_tr_enter) (bytes := b_tr_enter) (maxL := 5) (ws := w_tr_enter) (rm := { frames := 3, cells := 66, slots := 326, locals := 55 }) (own := R_bk) (index := 76) (ret := (Option.none : Option Jvm.ClassFile.FieldType)) (C := R_tr) (As := [.ref rr]) (rest := []) E hM1 (cwV (y := y_tr_enter) (bytes := b_tr_enter) (maxL := 5) (ws := w_tr_enter) (rm := { frames := 3, cells := 66, slots := 326, locals := 55 }) (own := R_bk) (index := 76) (ret := (Option.none : Option Jvm.ClassFile.FieldType)) (C := R_tr) 1 hts hG1 rfl rfl rfl (by decide +kernel) ⟨Nat.le_of_ble_eq_true rfl, Nat.le_of_ble_eq_true rfl⟩) (hm_preV gk_w gk_s hH hg hK (hw.at 3 rfl) rfl [.ref rr]) rfl rfl hl.1 rfl (lv_room (Nat.le_of_ble_eq_true rfl)) d_bk_exception_69 ⟨(by show _ ≤ 66; omega), (by show _ ≤ 326; omega)⟩) hH (fun r1 M1 H1 locs1 hq1 hH1 => ?_)
      replace hH := hH1; clear hH1; generalize H1 = H at hH ⊢; generalize locs1 = locs at hH ⊢
      obtain ⟨rfl, τ9, Es9, ht1, ht2, ht3, halt, hk1, hL1, hL2⟩ := hq1
      have hE : (((∀ r ∈ X, ¬ sm r sz9 f9) ∧ Es9 = X ++ [(sz9, f9, g9)]) ∨ ∃ e8 r8, X[e8]? = some r8 ∧ sm r8 sz9 f9 ∧ Es9 = X.set e8 (sz9, f9, g9)) ∧ hm_has M1 [(xt, .inr (2, [.ref xro, .int (nI Es9.length), .int (nI (xbg + (sz9 - dp)))])), (rr, .inr (1, [.ref rsg, .ref rnm, .int (nI sz9)])), (rsg, aI G 65 f9), (rnm, aI G 66 g9)] ∧ (∀ x k, sE Es9 x k ↔ sE X x k ∨ (k ≤ sz9 ∧ ag x f9 k)) ∧ xbg + (sz9 - dp) ≤ 65 * Es9.length := by
        rcases halt with ⟨h1, hEs, hw1⟩ | ⟨e8, r8, hr8, hr9, hEs, hw1⟩
        · subst hEs
          exact ⟨Or.inl ⟨h1, rfl⟩, by rw [List.length_append]; exact hw1, fun _ _ => sE_app, by rw [List.length_append, List.length_singleton]; omega⟩
        · have hde : dp = sz9 := dpS_un hdp ⟨Nat.le_refl _, Or.inr ⟨r8, List.mem_of_getElem? hr8, by rw [hr9.1]; exact Nat.le_refl _, hr9.2⟩, Or.inl rfl⟩
          subst hEs
          exact ⟨Or.inr ⟨e8, r8, hr8, hr9, rfl⟩, by rw [List.length_set]; exact hw1, fun _ _ => sE_set hr8 hr9, by rw [List.length_set]; omega⟩
      obtain ⟨hEs, hw1, hsE, hxb9⟩ := hE
      have hdk : ∀ a ∈ tL τx, a ∉ tL τp := fun a h z => hdj a z h
      have htp9 := bt_other htx htp hdk (hw.at 3 rfl) hk1
      have hdj9 : ∀ a ∈ tL τp, a ∉ tL τ9 := fun a h z => dis_enter hdk htp.1 hL1 a z h
      have hsx9 := bsep_enter hsx (kK hk hKM0) (hw.at 6 rfl) (hw.at 9 rfl) hL1 hL2
      have hw : hm_has M1 [(x, .inr (3, [.ref d, .int (nI 0), .int (nI lf), .int (nI rt), .ref pt, .ref xt, .ref rr, .ref ar])), (d, aI G 200 dr), (pt, .inr (2, [.ref pro, .int (nI P.length), .int (nI bg)])), (xt, .inr (2, [.ref xro, .int (nI Es9.length), .int (nI (xbg + (sz9 - dp)))])), (rr, .inr (1, [.ref rsg, .ref rnm, .int (nI sz9)])), (rsg, aI G 65 f9), (rnm, aI G 66 g9), (ar, .inr (1, [.ref asg, .ref anm, .int (nI (if ak = true then an + 2 else 0))])), (asg, aI G 65 af), (anm, aI G 66 av)] := ⟨hw.1, List.forall_mem_cons.mpr ⟨kp_cell htx hk1 (hw.at 0 rfl) (hw.ne 0 3 rfl rfl (by decide)) (ne_bk (G := G)).1, List.forall_mem_cons.mpr ⟨kp_cell htx hk1 (hw.at 1 rfl) (hw.ne 1 3 rfl rfl (by decide)) (ne_200 (G := G)).1, List.forall_mem_cons.mpr ⟨kp_cell htx hk1 (hw.at 2 rfl) (hw.ne 2 3 rfl rfl (by decide)) (ne_tr (G := G)).1, List.forall_mem_cons.mpr ⟨hw1.at 0 rfl, List.forall_mem_cons.mpr ⟨hw1.at 1 rfl, List.forall_mem_cons.mpr ⟨hw1.at 2 rfl, List.forall_mem_cons.mpr ⟨hw1.at 3 rfl, List.forall_mem_cons.mpr ⟨kp_cell htx hk1 (hw.at 7 rfl) (hw.ne 7 3 rfl rfl (by decide)) (ne_rw (G := G)).1, List.forall_mem_cons.mpr ⟨kp_cell htx hk1 (hw.at 8 rfl) (hw.ne 8 3 rfl rfl (by decide)) (ne_65 (G := G)).1, List.forall_mem_cons.mpr ⟨kp_cell htx hk1 (hw.at 9 rfl) (hw.ne 9 3 rfl rfl (by decide)) (fun _ _ _ _ z => by cases z), fun _ h => absurd h List.not_mem_nil⟩⟩⟩⟩⟩⟩⟩⟩⟩⟩⟩
      have hk := hk.tr hk1 (fun b h => h.elim (fun z => by rw [z]; exact hKB xt (by simp)) (hsx.1 b))
      clear htp hdj hsx htx hd1 hd2
      have htx : bt G M1 xro τ9 Es9 := ⟨ht1, trI_ext ht2 hsE, ht3⟩
      have htp := htp9; have hdj := hdj9; have hsx := hsx9
      clear htp9 hdj9 hsx9 ht1 ht2 ht3 hk1 hw1 hL1 hL2 halt
      generalize M1 = M at hH hw hk htp htx
      refine lv_aload_n hx hb d_bk_exception_72 rfl (lv_at hl 1 rfl) ?_
      refine hm_get E (tB in_bk) hK hH (hw.at 0 rfl) rfl 5 (by decide) (tC wm_78) rfl d_bk_exception_73 ?_
      have hM1 := c_tr_entries l G xt xro Es9.length (xbg + (sz9 - dp)) M (hw.at 3 rfl) H.size
      have hG1 : GoodIn w_bk_exception (wsV R_bk 63 R_tr y_tr_entries w_tr_entries) := gB_V wm_132 wm_133 wm_134 wm_2 wm_135
      refine hm_call (va_runV (y := y_tr_entries) (bytes := b_tr_entries) (maxL := 1) (ws := w_tr_entries) (rm := { frames := 0, cells := 0, slots := 0, locals := 0 }) (own := R_bk) (index := 63) (ret := (Option.some Jvm.ClassFile.FieldType.int)) (C := R_tr) (As := []) (rest := []) E hM1 (cwV (y := y_tr_entries) (bytes := b_tr_entries) (maxL := 1) (ws := w_tr_entries) (rm := { frames := 0, cells := 0, slots := 0, locals := 0 }) (own := R_bk) (index := 63) (ret := (Option.some Jvm.ClassFile.FieldType.int)) (C := R_tr) 0 hts hG1 rfl rfl rfl (by decide +kernel) ⟨Nat.le_of_ble_eq_true rfl, Nat.le_of_ble_eq_true rfl⟩) (hm_preV gk_w gk_s hH hg hK (hw.at 3 rfl) rfl []) rfl rfl hl.1 rfl (lv_room (Nat.le_of_ble_eq_true rfl)) d_bk_exception_76 ⟨(by show _ ≤ 66; omega), (by show _ ≤ 326; omega)⟩) hH (fun r1 M1 H1 locs1 hq1 hH1 => ?_)
      obtain ⟨rfl, e1⟩ := hq1
      replace hH := hH1; rw [e1] at hH; clear hH1 e1; generalize H1 = H at hH ⊢; generalize locs1 = locs at hH ⊢
      subst e1 e3
      exact vx_ret (hm_iret E hr hlk hH (⟨f9, Es9, hok, e2, hEs, rfl, ⟨d, pt, xt, rr, ar, pro, xro, xbg + (xz dr dn + 2 - dp), rsg, rnm, xz dr dn + 2, asg, anm, f9, xnm dr dn, af, τp, τ9, hw, htp, htx, hsp, hsx, hdj, hKB, hxb9⟩, hk⟩) (by omega) (by omega) d_bk_exception_79)
    · skip
      refine lv_aload_n hx hb d_bk_exception_38 rfl (lv_at hl 1 rfl) ?_
      refine hm_get E (tB in_bk) hK hH (hw.at 0 rfl) rfl 5 (by decide) (tC wm_78) rfl d_bk_exception_39 ?_
      have hM1 := c_tr_entries l G xt xro X.length xbg M (hw.at 3 rfl) H.size
      have hG1 : GoodIn w_bk_exception (wsV R_bk 63 R_tr y_tr_entries w_tr_entries) := gB_V wm_132 wm_133 wm_134 wm_2 wm_135
      refine hm_call (va_runV (y := y_tr_entries) (bytes := b_tr_entries) (maxL := 1) (ws := w_tr_entries) (rm := { frames := 0, cells := 0, slots := 0, locals := 0 }) (own := R_bk) (index := 63) (ret := (Option.some Jvm.ClassFile.FieldType.int)) (C := R_tr) (As := []) (rest := []) E hM1 (cwV (y := y_tr_entries) (bytes := b_tr_entries) (maxL := 1) (ws := w_tr_entries) (rm := { frames := 0, cells := 0, slots := 0, locals := 0 }) (own := R_bk) (index := 63) (ret := (Option.some Jvm.ClassFile.FieldType.int)) (C := R_tr) 0 hts hG1 rfl rfl rfl (by decide +kernel) ⟨Nat.le_of_ble_eq_true rfl, Nat.le_of_ble_eq_true rfl⟩) (hm_preV gk_w gk_s hH hg hK (hw.at 3 rfl) rfl []) rfl rfl hl.1 rfl (lv_room (Nat.le_of_ble_eq_true rfl)) d_bk_exception_42 ⟨(by show _ ≤ 66; omega), (by show _ ≤ 326; omega)⟩) hH (fun r1 M1 H1 locs1 hq1 hH1 => ?_)
      obtain ⟨rfl, e1⟩ := hq1
      replace hH := hH1; rw [e1] at hH; clear hH1 e1; generalize H1 = H at hH ⊢; generalize locs1 = locs at hH ⊢
      refine lv_sipush (v := 2048) hx hb d_bk_exception_45 (by decide) ?_
      refine hn_icmp_lt (a := X.length) (b := 2048) hx hb (by omega) (by omega) (tgt := 61) d_bk_exception_48 (by decide) (fun h48 => ?_) (fun h48 => ?_)
      · skip
        obtain ⟨dp, hdp⟩ := dp_ex X f9 sz9
        obtain ⟨hd1, hd2⟩ := bt_dp htx hdp
        have hdpl := hdp.1
        refine lv_aload_n hx hb d_bk_exception_61 rfl (lv_at hl 1 rfl) ?_
        refine hm_get E (tB in_bk) hK hH (hw.at 0 rfl) rfl 5 (by decide) (tC wm_78) rfl d_bk_exception_62 ?_
        refine lv_aload_n hx hb d_bk_exception_65 rfl (lv_at hl 1 rfl) ?_
        refine hm_get E (tB in_bk) hK hH (hw.at 0 rfl) rfl 6 (by decide) (tC wm_79) rfl d_bk_exception_66 ?_
        have hM1 := c_tr_enter l G xt xro X.length xbg rr rsg rnm sz9 f9 τx g9 (sE X) X dp M (hw.sub (ws' := [(xt, .inr (2, [.ref xro, .int (nI X.length), .int (nI xbg)])), (rr, .inr (1, [.ref rsg, .ref rnm, .int (nI sz9)])), (rsg, aI G 65 f9), (rnm, aI G 66 g9)]) [3, 4, 5, 6] rfl rfl) htx.1 hs9 (by omega) (by omega) hdp.1 hd1 hd2 htx.2.1 htx.2.2 (fun _ _ z => z) H.size
        have hG1 : GoodIn w_bk_exception (wsV R_bk 76 R_tr y_tr_enter w_tr_enter) := gB_V wm_287 wm_288 wm_289 wm_2 wm_290
        refine hm_call (va_runV (y := y_tr_enter) (bytes := b_tr_enter) (maxL := 5) (ws := w_tr_enter) (rm := { frames := 3, cells := 66, slots := 326, locals := 55 }) (own := R_bk) (index := 76) (ret := (Option.none : Option Jvm.ClassFile.FieldType)) (C := R_tr) (As := [.ref rr]) (rest := []) E hM1 (cwV (y := y_tr_enter) (bytes := b_tr_enter) (maxL := 5) (ws := w_tr_enter) (rm := { frames := 3, cells := 66, slots := 326, locals := 55 }) (own := R_bk) (index := 76) (ret := (Option.none : Option Jvm.ClassFile.FieldType)) (C := R_tr) 1 hts hG1 rfl rfl rfl (by decide +kernel) ⟨Nat.le_of_ble_eq_true rfl, Nat.le_of_ble_eq_true rfl⟩) (hm_preV gk_w gk_s hH hg hK (hw.at 3 rfl) rfl [.ref rr]) rfl rfl hl.1 rfl (lv_room (Nat.le_of_ble_eq_true rfl)) d_bk_exception_69 ⟨(by show _ ≤ 66; omega), (by show _ ≤ 326; omega)⟩) hH (fun r1 M1 H1 locs1 hq1 hH1 => ?_)
        replace hH := hH1; clear hH1; generalize H1 = H at hH ⊢; generalize locs1 = locs at hH ⊢
        obtain ⟨rfl, τ9, Es9, ht1, ht2, ht3, halt, hk1, hL1, hL2⟩ := hq1
        have hE : (((∀ r ∈ X, ¬ sm r sz9 f9) ∧ Es9 = X ++ [(sz9, f9, g9)]) ∨ ∃ e8 r8, X[e8]? = some r8 ∧ sm r8 sz9 f9 ∧ Es9 = X.set e8 (sz9, f9, g9)) ∧ hm_has M1 [(xt, .inr (2, [.ref xro, .int (nI Es9.length), .int (nI (xbg + (sz9 - dp)))])), (rr, .inr (1, [.ref rsg, .ref rnm, .int (nI sz9)])), (rsg, aI G 65 f9), (rnm, aI G 66 g9)] ∧ (∀ x k, sE Es9 x k ↔ sE X x k ∨ (k ≤ sz9 ∧ ag x f9 k)) ∧ xbg + (sz9 - dp) ≤ 65 * Es9.length := by
          rcases halt with ⟨h1, hEs, hw1⟩ | ⟨e8, r8, hr8, hr9, hEs, hw1⟩
          · subst hEs
            exact ⟨Or.inl ⟨h1, rfl⟩, by rw [List.length_append]; exact hw1, fun _ _ => sE_app, by rw [List.length_append, List.length_singleton]; omega⟩
          · have hde : dp = sz9 := dpS_un hdp ⟨Nat.le_refl _, Or.inr ⟨r8, List.mem_of_getElem? hr8, by rw [hr9.1]; exact Nat.le_refl _, hr9.2⟩, Or.inl rfl⟩
            subst hEs
            exact ⟨Or.inr ⟨e8, r8, hr8, hr9, rfl⟩, by rw [List.length_set]; exact hw1, fun _ _ => sE_set hr8 hr9, by rw [List.length_set]; omega⟩
        obtain ⟨hEs, hw1, hsE, hxb9⟩ := hE
        have hdk : ∀ a ∈ tL τx, a ∉ tL τp := fun a h z => hdj a z h
        have htp9 := bt_other htx htp hdk (hw.at 3 rfl) hk1
        have hdj9 : ∀ a ∈ tL τp, a ∉ tL τ9 := fun a h z => dis_enter hdk htp.1 hL1 a z h
        have hsx9 := bsep_enter hsx (kK hk hKM0) (hw.at 6 rfl) (hw.at 9 rfl) hL1 hL2
        have hw : hm_has M1 [(x, .inr (3, [.ref d, .int (nI 0), .int (nI lf), .int (nI rt), .ref pt, .ref xt, .ref rr, .ref ar])), (d, aI G 200 dr), (pt, .inr (2, [.ref pro, .int (nI P.length), .int (nI bg)])), (xt, .inr (2, [.ref xro, .int (nI Es9.length), .int (nI (xbg + (sz9 - dp)))])), (rr, .inr (1, [.ref rsg, .ref rnm, .int (nI sz9)])), (rsg, aI G 65 f9), (rnm, aI G 66 g9), (ar, .inr (1, [.ref asg, .ref anm, .int (nI (if ak = true then an + 2 else 0))])), (asg, aI G 65 af), (anm, aI G 66 av)] := ⟨hw.1, List.forall_mem_cons.mpr ⟨kp_cell htx hk1 (hw.at 0 rfl) (hw.ne 0 3 rfl rfl (by decide)) (ne_bk (G := G)).1, List.forall_mem_cons.mpr ⟨kp_cell htx hk1 (hw.at 1 rfl) (hw.ne 1 3 rfl rfl (by decide)) (ne_200 (G := G)).1, List.forall_mem_cons.mpr ⟨kp_cell htx hk1 (hw.at 2 rfl) (hw.ne 2 3 rfl rfl (by decide)) (ne_tr (G := G)).1, List.forall_mem_cons.mpr ⟨hw1.at 0 rfl, List.forall_mem_cons.mpr ⟨hw1.at 1 rfl, List.forall_mem_cons.mpr ⟨hw1.at 2 rfl, List.forall_mem_cons.mpr ⟨hw1.at 3 rfl, List.forall_mem_cons.mpr ⟨kp_cell htx hk1 (hw.at 7 rfl) (hw.ne 7 3 rfl rfl (by decide)) (ne_rw (G := G)).1, List.forall_mem_cons.mpr ⟨kp_cell htx hk1 (hw.at 8 rfl) (hw.ne 8 3 rfl rfl (by decide)) (ne_65 (G := G)).1, List.forall_mem_cons.mpr ⟨kp_cell htx hk1 (hw.at 9 rfl) (hw.ne 9 3 rfl rfl (by decide)) (fun _ _ _ _ z => by cases z), fun _ h => absurd h List.not_mem_nil⟩⟩⟩⟩⟩⟩⟩⟩⟩⟩⟩
        have hk := hk.tr hk1 (fun b h => h.elim (fun z => by rw [z]; exact hKB xt (by simp)) (hsx.1 b))
        clear htp hdj hsx htx hd1 hd2
        have htx : bt G M1 xro τ9 Es9 := ⟨ht1, trI_ext ht2 hsE, ht3⟩
        have htp := htp9; have hdj := hdj9; have hsx := hsx9
        clear htp9 hdj9 hsx9 ht1 ht2 ht3 hk1 hw1 hL1 hL2 halt
        generalize M1 = M at hH hw hk htp htx
        refine lv_aload_n hx hb d_bk_exception_72 rfl (lv_at hl 1 rfl) ?_
        refine hm_get E (tB in_bk) hK hH (hw.at 0 rfl) rfl 5 (by decide) (tC wm_78) rfl d_bk_exception_73 ?_
        have hM1 := c_tr_entries l G xt xro Es9.length (xbg + (sz9 - dp)) M (hw.at 3 rfl) H.size
        have hG1 : GoodIn w_bk_exception (wsV R_bk 63 R_tr y_tr_entries w_tr_entries) := gB_V wm_132 wm_133 wm_134 wm_2 wm_135
        refine hm_call (va_runV (y := y_tr_entries) (bytes := b_tr_entries) (maxL := 1) (ws := w_tr_entries) (rm := { frames := 0, cells := 0, slots := 0, locals := 0 }) (own := R_bk) (index := 63) (ret := (Option.some Jvm.ClassFile.FieldType.int)) (C := R_tr) (As := []) (rest := []) E hM1 (cwV (y := y_tr_entries) (bytes := b_tr_entries) (maxL := 1) (ws := w_tr_entries) (rm := { frames := 0, cells := 0, slots := 0, locals := 0 }) (own := R_bk) (index := 63) (ret := (Option.some Jvm.ClassFile.FieldType.int)) (C := R_tr) 0 hts hG1 rfl rfl rfl (by decide +kernel) ⟨Nat.le_of_ble_eq_true rfl, Nat.le_of_ble_eq_true rfl⟩) (hm_preV gk_w gk_s hH hg hK (hw.at 3 rfl) rfl []) rfl rfl hl.1 rfl (lv_room (Nat.le_of_ble_eq_true rfl)) d_bk_exception_76 ⟨(by show _ ≤ 66; omega), (by show _ ≤ 326; omega)⟩) hH (fun r1 M1 H1 locs1 hq1 hH1 => ?_)
        obtain ⟨rfl, e1⟩ := hq1
        replace hH := hH1; rw [e1] at hH; clear hH1 e1; generalize H1 = H at hH ⊢; generalize locs1 = locs at hH ⊢
        subst e1 e3
        exact vx_ret (hm_iret E hr hlk hH (⟨f9, Es9, hok, e2, hEs, rfl, ⟨d, pt, xt, rr, ar, pro, xro, xbg + (xz dr dn + 2 - dp), rsg, rnm, xz dr dn + 2, asg, anm, f9, xnm dr dn, af, τp, τ9, hw, htp, htx, hsp, hsx, hdj, hKB, hxb9⟩, hk⟩) (by omega) (by omega) d_bk_exception_79)
      · skip
        omega
  · skip
    exact hm_throwA (is := 83) E hst hgx hgx.2.2.2.2.1.choose_spec hno hZ hlk hH hl.1 d_bk_exception_14 d_bk_exception_17 d_bk_exception_18 d_bk_exception_20 d_bk_exception_23 (by decide) (by decide) (Nat.le_of_ble_eq_true rfl) (Nat.le_of_ble_eq_true rfl) (⟨⟨d, pt, xt, rr, ar, pro, xro, xbg, rsg, rnm, sz9, asg, anm, f9, g9, af, τp, τx, hw, htp, htx, hsp, hsx, hdj, hKB, hxb⟩, hk, rfl, fun z => by rw [hb9.mpr z] at h11; cases h11⟩) (by omega) (by omega)

theorem wd_max {P : List rwT} {dr f9 v9 : Nat → Int32} {dn : Nat} (hf : ag f9 (wrow dr dn) (dn + 2)) (h : vMax (fun pl x => False ∨ ∃ i, i < dn + 2 ∧ ctr P f9 (dn + 2) i (dn + 2) pl x) (dn + 2) v9) : vMax (fun pl x => ∃ i, i < dn + 2 ∧ ctr P (wrow dr dn) (dn + 2) i (dn + 2) pl x) (dn + 2) v9 :=
  vMax_ext h (fun pl x _ => ⟨fun ⟨i, h1, h2⟩ => Or.inr ⟨i, h1, (ctr_ag hf).mpr h2⟩, fun z => z.elim False.elim (fun ⟨i, h1, h2⟩ => ⟨i, h1, (ctr_ag hf).mp h2⟩)⟩)
theorem wd_num {G : hG} {M : hM} {root n : Nat} {τ : tau} {E : List rwT} {f g v : Nat → Int32} (h : bt G M root τ E) (hf : ag f g n) : ((∀ r ∈ E, ¬ sm r n g) ∧ nmF ((twk (tst τ) root f n).bind (tnu τ)) v (tnv τ) = v) ∨ ∃ r ∈ E, sm r n g ∧ g66 (nmF ((twk (tst τ) root f n).bind (tnu τ)) v (tnv τ)) r.2.2 := by
  cases hn : (twk (tst τ) root f n).bind (tnu τ) with
  | none => exact Or.inl ⟨fun r hr hs => bt_none h hn r hr (sm_ag hs hf.sm), rfl⟩
  | some y =>
    obtain ⟨r, h1, h2, h3⟩ := bt_some h hn
    exact Or.inr ⟨r, h1, sm_ag h2 hf, h3⟩

abbrev q_bk_word (G : hG) (x : Nat) (K : Nat → Prop) (dr : Nat → Int32) (dn lf rt : Nat) (P : List rwT) (bg : Nat) (X : List rwT) (ak : Bool) (an : Nat) (av : Nat → Int32) (M : hM) : Option Value → hM → Prop := fun rv M' => ∃ (v9 w9 : Nat → Int32), wOk dr dn ∧ vMax (fun pl x => ∃ i, i < dn + 2 ∧ ctr P (wrow dr dn) (dn + 2) i (dn + 2) pl x) (dn + 2) v9 ∧ (((∀ r ∈ X, ¬ sm r (dn + 2) (wrow dr dn)) ∧ w9 = v9) ∨ ∃ r ∈ X, sm r (dn + 2) (wrow dr dn) ∧ g66 w9 r.2.2) ∧ rv = some (.long (cutN (cutQ lf rt dn w9) 64)) ∧ bkR G K x dr 0 lf rt P bg X true dn v9 M' ∧ hm_kp (fun a => ¬ K a) M M'
abbrev px_bk_word (G : hG) (x : Nat) (K : Nat → Prop) (dr : Nat → Int32) (dn lf rt : Nat) (P : List rwT) (bg : Nat) (X : List rwT) (ak : Bool) (an : Nat) (av : Nat → Int32) (M : hM) : String → hM → Prop := fun E M' => bkR G K x dr 0 lf rt P bg X ak an av M' ∧ hm_kp (fun a => ¬ K a) M M' ∧ E = IAE ∧ ¬ wOk dr dn
set_option maxHeartbeats 4000000 in
set_option maxRecDepth 100000 in
theorem c_bk_word (l : Launch) (hst : l.stackTraces = false) (G : hG) (x : Nat) (K : Nat → Prop) (dr : Nat → Int32) (dn lf rt : Nat) (P : List rwT) (bg : Nat) (X : List rwT) (ak : Bool) (an : Nat) (av : Nat → Int32) (M : hM) (hR : bkR G K x dr dn lf rt P bg X ak an av M) (hKM : ∀ a, K a → ∃ e, M a = some e) (hdn : dn ≤ 200) (hPl : P.length ≤ 600) (hbg : bg ≤ 30000) (hXl : X.length ≤ 600) (hlf : lf ≤ 63) (hrt : rt ≤ 63) (hr1 : 1 ≤ rt) (hU : unE P) (hnn : nnE P) : CtX l G y_bk_word w_bk_word { frames := 6, cells := 1, slots := 6, locals := 134 } ([.ref x] : List Value) M (q_bk_word G x K dr dn lf rt P bg X ak an av M) (px_bk_word G x K dr dn lf rt P bg X ak an av M) 1 6 := by
  refine CtX.ofW (cc := b_bk_word) (maxL := 2) (ret := (Option.some Jvm.ClassFile.FieldType.long)) (by decide) rfl (Nat.le_of_ble_eq_true rfl) (fun p e s m below meth c A ls E hr hlk hin hgx hno hZ hH hl => ?_)
  have hg := hgx.1
  have hl : lv_has ls 2 [(0, .ref x)] := hl
  have hx := E.1; have hb := E.2.1; have hml := E.2.2.1; have hown := E.2.2.2.1; have hts := E.2.2.2.2; have hK := hg.1
  obtain ⟨M0, hM0⟩ : ∃ M0 : hM, M0 = M := ⟨M, rfl⟩
  rw [show q_bk_word G x K dr dn lf rt P bg X ak an av M = q_bk_word G x K dr dn lf rt P bg X ak an av M0 by rw [hM0]]
  rw [show px_bk_word G x K dr dn lf rt P bg X ak an av M = px_bk_word G x K dr dn lf rt P bg X ak an av M0 by rw [hM0]]
  have hk : hm_kp (fun a => ¬ K a) M0 M := by rw [hM0]; exact hm_kp.rf
  obtain ⟨d, pt, xt, rr, ar, pro, xro, xbg, rsg, rnm, rsz, asg, anm, rf, rg, af, τp, τx, hw, htp, htx, hsp, hsx, hdj, hKB, hxb⟩ := hR
  have hKM0 : ∀ a, K a → ∃ e, M0 a = some e := by rw [hM0]; exact hKM
  refine lv_aload_n hx hb d_bk_word_0 rfl (lv_at hl 0 rfl) ?_
  have hM1 := c_bk_draftIsWord l G x d dn lf rt pt xt rr ar dr M (hw.sub (ws' := [(x, .inr (3, [.ref d, .int (nI dn), .int (nI lf), .int (nI rt), .ref pt, .ref xt, .ref rr, .ref ar])), (d, aI G 200 dr)]) [0, 1] rfl rfl) hdn s.heap.size
  have hG1 : GoodIn w_bk_word (wsV R_bk 87 R_bk y_bk_draftIsWord w_bk_draftIsWord) := gB_V wm_328 wm_330 wp_6 wm_1 wm_331
  refine hm_call (va_runV (y := y_bk_draftIsWord) (bytes := b_bk_draftIsWord) (maxL := 2) (ws := w_bk_draftIsWord) (rm := { frames := 1, cells := 0, slots := 0, locals := 21 }) (own := R_bk) (index := 87) (ret := (Option.some Jvm.ClassFile.FieldType.boolean)) (C := R_bk) (As := []) (rest := []) E hM1 (cwV (y := y_bk_draftIsWord) (bytes := b_bk_draftIsWord) (maxL := 2) (ws := w_bk_draftIsWord) (rm := { frames := 1, cells := 0, slots := 0, locals := 21 }) (own := R_bk) (index := 87) (ret := (Option.some Jvm.ClassFile.FieldType.boolean)) (C := R_bk) 0 hts hG1 rfl rfl rfl (by decide +kernel) ⟨Nat.le_of_ble_eq_true rfl, Nat.le_of_ble_eq_true rfl⟩) (hm_preV gk_w gk_s hH hg hK (hw.at 0 rfl) rfl []) rfl rfl hl.1 rfl (lv_room (Nat.le_of_ble_eq_true rfl)) d_bk_word_1 ⟨(by show _ ≤ 1; omega), (by show _ ≤ 6; omega)⟩) hH (fun r1 M1 H1 locs1 hq1 hH1 => ?_)
  replace hH := hH1; clear hH1; generalize H1 = H at hH ⊢; generalize locs1 = locs at hH ⊢
  obtain ⟨b9, rfl, hb9, e9⟩ := hq1
  rw [e9] at hH
  refine lv_istore_n (lv' := [(1, .int (bI b9)), (0, .ref x)]) hx hb d_bk_word_4 rfl hl (by decide) rfl (fun ls hl => ?_)
  refine lv_iload_n hx hb d_bk_word_5 rfl (lv_at hl 0 rfl) ?_
  refine hb_if_eq (b := b9) hx hb (tgt := 13) d_bk_word_6 (by decide) (fun h6 => ?_) (fun h6 => ?_)
  · skip
    refine lv_aload_n hx hb d_bk_word_13 rfl (lv_at hl 1 rfl) ?_
    refine lv_iconst (v := 0) hx hb d_bk_word_14 (by decide) ?_
    refine hm_put E (tB in_bk) t_bk tk_bk nm_bk hK hH (hw.at 0 rfl) rfl 1 (by decide) (tC wm_74) rfl rfl rfl (Nat.le_of_ble_eq_true rfl) (fs' := [.ref d, .int 0, .int (nI lf), .int (nI rt), .ref pt, .ref xt, .ref rr, .ref ar]) rfl d_bk_word_15 (fun H locs hH => ?_)
    have htp := bt_x (v := (some (.inr (3, [.ref d, .int 0, .int (nI lf), .int (nI rt), .ref pt, .ref xt, .ref rr, .ref ar])))) htp (hw.at 0 rfl)
    have htx := bt_x (v := (some (.inr (3, [.ref d, .int 0, .int (nI lf), .int (nI rt), .ref pt, .ref xt, .ref rr, .ref ar])))) htx (hw.at 0 rfl)
    have hw := hw.set (ws' := [(x, .inr (3, [.ref d, .int 0, .int (nI lf), .int (nI rt), .ref pt, .ref xt, .ref rr, .ref ar])), (d, aI G 200 dr), (pt, .inr (2, [.ref pro, .int (nI P.length), .int (nI bg)])), (xt, .inr (2, [.ref xro, .int (nI X.length), .int (nI xbg)])), (rr, .inr (1, [.ref rsg, .ref rnm, .int (nI rsz)])), (rsg, aI G 65 rf), (rnm, aI G 66 rg), (ar, .inr (1, [.ref asg, .ref anm, .int (nI (if ak = true then an + 2 else 0))])), (asg, aI G 65 af), (anm, aI G 66 av)]) (k := 0) rfl rfl
    have hk := hk.wr (a := x) (v := some (.inr (3, [.ref d, .int 0, .int (nI lf), .int (nI rt), .ref pt, .ref xt, .ref rr, .ref ar]))) (Or.inl (hKB _ (by simp)))
    generalize va_up M x (some (.inr (3, [.ref d, .int 0, .int (nI lf), .int (nI rt), .ref pt, .ref xt, .ref rr, .ref ar]))) = M at hH hw hk htp htx ⊢
    refine lv_iload_n hx hb d_bk_word_18 rfl (lv_at hl 0 rfl) ?_
    refine hb_if_ne (b := b9) hx hb (tgt := 32) d_bk_word_19 (by decide) (fun h19 => ?_) (fun h19 => ?_)
    · skip
      exact absurd h19 (by rw [h6]; decide)
    · skip
      first
        | exact absurd h19 (by rw [h6]; decide)
        | exact hm_throwA (is := 93) E hst hgx hgx.2.2.2.2.2.choose_spec hno hZ hlk hH hl.1 d_bk_word_22 d_bk_word_25 d_bk_word_26 d_bk_word_28 d_bk_word_31 (by decide) (by decide) (Nat.le_of_ble_eq_true rfl) (Nat.le_of_ble_eq_true rfl) (⟨⟨d, pt, xt, rr, ar, pro, xro, xbg, rsg, rnm, rsz, asg, anm, rf, rg, af, τp, τx, hw, htp, htx, hsp, hsx, hdj, hKB, hxb⟩, hk, rfl, fun z => by rw [hb9.mpr z] at h6; cases h6⟩) (by omega) (by omega)
  · skip
    have hok := hb9.mp h6
    refine lv_aload_n hx hb d_bk_word_9 rfl (lv_at hl 1 rfl) ?_
    have hM1 := c_bk_copyDraftToAsked l G x d dn lf rt pt xt rr ar asg anm (if ak = true then an + 2 else 0) af av dr M (hw.sub (ws' := [(x, .inr (3, [.ref d, .int (nI dn), .int (nI lf), .int (nI rt), .ref pt, .ref xt, .ref rr, .ref ar])), (ar, .inr (1, [.ref asg, .ref anm, .int (nI (if ak = true then an + 2 else 0))])), (asg, aI G 65 af), (anm, aI G 66 av), (d, aI G 200 dr)]) [0, 7, 8, 9, 1] rfl rfl) hok.2.1 H.size
    have hG1 : GoodIn w_bk_word (wsV R_bk 90 R_bk y_bk_copyDraftToAsked w_bk_copyDraftToAsked) := gB_V wm_332 wm_334 wp_7 wm_1 wm_335
    refine hm_call (va_runV (y := y_bk_copyDraftToAsked) (bytes := b_bk_copyDraftToAsked) (maxL := 2) (ws := w_bk_copyDraftToAsked) (rm := { frames := 2, cells := 0, slots := 0, locals := 43 }) (own := R_bk) (index := 90) (ret := (Option.none : Option Jvm.ClassFile.FieldType)) (C := R_bk) (As := []) (rest := []) E hM1 (cwV (y := y_bk_copyDraftToAsked) (bytes := b_bk_copyDraftToAsked) (maxL := 2) (ws := w_bk_copyDraftToAsked) (rm := { frames := 2, cells := 0, slots := 0, locals := 43 }) (own := R_bk) (index := 90) (ret := (Option.none : Option Jvm.ClassFile.FieldType)) (C := R_bk) 0 hts hG1 rfl rfl rfl (by decide +kernel) ⟨Nat.le_of_ble_eq_true rfl, Nat.le_of_ble_eq_true rfl⟩) (hm_preV gk_w gk_s hH hg hK (hw.at 0 rfl) rfl []) rfl rfl hl.1 rfl (lv_room (Nat.le_of_ble_eq_true rfl)) d_bk_word_10 ⟨(by show _ ≤ 1; omega), (by show _ ≤ 6; omega)⟩) hH (fun r1 M1 H1 locs1 hq1 hH1 => ?_)
    replace hH := hH1; clear hH1; generalize H1 = H at hH ⊢; generalize locs1 = locs at hH ⊢
    obtain ⟨rfl, f9, hw1, hf9, hk1⟩ := hq1
    have htp := bt_row htp (fun a ha q hq => (hsp.2 a ha q hq).2.2) (hw.at 7 rfl) (hw.at 8 rfl) (hw.at 9 rfl) hk1
    have htx := bt_row htx (fun a ha q hq => (hsx.2 a ha q hq).2.2) (hw.at 7 rfl) (hw.at 8 rfl) (hw.at 9 rfl) hk1
    have hw := hm_join (ws' := [(x, .inr (3, [.ref d, .int (nI dn), .int (nI lf), .int (nI rt), .ref pt, .ref xt, .ref rr, .ref ar])), (d, aI G 200 dr), (pt, .inr (2, [.ref pro, .int (nI P.length), .int (nI bg)])), (xt, .inr (2, [.ref xro, .int (nI X.length), .int (nI xbg)])), (rr, .inr (1, [.ref rsg, .ref rnm, .int (nI rsz)])), (rsg, aI G 65 rf), (rnm, aI G 66 rg), (ar, .inr (1, [.ref asg, .ref anm, .int (nI (dn + 2))])), (asg, aI G 65 f9), (anm, aI G 66 (fun _ => 0))]) (wc := [(x, .inr (3, [.ref d, .int (nI dn), .int (nI lf), .int (nI rt), .ref pt, .ref xt, .ref rr, .ref ar])), (ar, .inr (1, [.ref asg, .ref anm, .int (nI (if ak = true then an + 2 else 0))])), (asg, aI G 65 af), (anm, aI G 66 av), (d, aI G 200 dr)]) hw hw1 hk1 [0, 7, 8, 9, 1] rfl rfl (fun a h => by simp at h; rcases h with rfl | rfl | rfl <;> simp) rfl (by
      intro k9 h9
      match k9, h9 with
      | 0, _ => exact Or.inr ⟨0, rfl, rfl⟩
      | 1, _ => exact Or.inr ⟨4, rfl, rfl⟩
      | 2, _ => exact Or.inl ⟨by decide, rfl⟩
      | 3, _ => exact Or.inl ⟨by decide, rfl⟩
      | 4, _ => exact Or.inl ⟨by decide, rfl⟩
      | 5, _ => exact Or.inl ⟨by decide, rfl⟩
      | 6, _ => exact Or.inl ⟨by decide, rfl⟩
      | 7, _ => exact Or.inr ⟨1, rfl, rfl⟩
      | 8, _ => exact Or.inr ⟨2, rfl, rfl⟩
      | 9, _ => exact Or.inr ⟨3, rfl, rfl⟩
      | k9 + 10, h9 => exact absurd h9 (Nat.not_lt_of_le (Nat.le_add_left _ _)))
    have hk := hk.tr hk1 (fun a h => hKB a (by simp at h; rcases h with rfl | rfl | rfl <;> simp))
    generalize M1 = M at hH hw hk htp htx
    refine lv_aload_n hx hb d_bk_word_13 rfl (lv_at hl 1 rfl) ?_
    refine lv_iconst (v := 0) hx hb d_bk_word_14 (by decide) ?_
    refine hm_put E (tB in_bk) t_bk tk_bk nm_bk hK hH (hw.at 0 rfl) rfl 1 (by decide) (tC wm_74) rfl rfl rfl (Nat.le_of_ble_eq_true rfl) (fs' := [.ref d, .int 0, .int (nI lf), .int (nI rt), .ref pt, .ref xt, .ref rr, .ref ar]) rfl d_bk_word_15 (fun H locs hH => ?_)
    have htp := bt_x (v := (some (.inr (3, [.ref d, .int 0, .int (nI lf), .int (nI rt), .ref pt, .ref xt, .ref rr, .ref ar])))) htp (hw.at 0 rfl)
    have htx := bt_x (v := (some (.inr (3, [.ref d, .int 0, .int (nI lf), .int (nI rt), .ref pt, .ref xt, .ref rr, .ref ar])))) htx (hw.at 0 rfl)
    have hw := hw.set (ws' := [(x, .inr (3, [.ref d, .int 0, .int (nI lf), .int (nI rt), .ref pt, .ref xt, .ref rr, .ref ar])), (d, aI G 200 dr), (pt, .inr (2, [.ref pro, .int (nI P.length), .int (nI bg)])), (xt, .inr (2, [.ref xro, .int (nI X.length), .int (nI xbg)])), (rr, .inr (1, [.ref rsg, .ref rnm, .int (nI rsz)])), (rsg, aI G 65 rf), (rnm, aI G 66 rg), (ar, .inr (1, [.ref asg, .ref anm, .int (nI (dn + 2))])), (asg, aI G 65 f9), (anm, aI G 66 (fun _ => 0))]) (k := 0) rfl rfl
    have hk := hk.wr (a := x) (v := some (.inr (3, [.ref d, .int 0, .int (nI lf), .int (nI rt), .ref pt, .ref xt, .ref rr, .ref ar]))) (Or.inl (hKB _ (by simp)))
    generalize va_up M x (some (.inr (3, [.ref d, .int 0, .int (nI lf), .int (nI rt), .ref pt, .ref xt, .ref rr, .ref ar]))) = M at hH hw hk htp htx ⊢
    refine lv_iload_n hx hb d_bk_word_18 rfl (lv_at hl 0 rfl) ?_
    refine hb_if_ne (b := b9) hx hb (tgt := 32) d_bk_word_19 (by decide) (fun h19 => ?_) (fun h19 => ?_)
    · skip
      refine lv_aload_n hx hb d_bk_word_32 rfl (lv_at hl 1 rfl) ?_
      refine hm_get E (tB in_bk) hK hH (hw.at 0 rfl) rfl 4 (by decide) (tC wm_77) rfl d_bk_word_33 ?_
      refine lv_aload_n hx hb d_bk_word_36 rfl (lv_at hl 1 rfl) ?_
      refine hm_get E (tB in_bk) hK hH (hw.at 0 rfl) rfl 7 (by decide) (tC wm_80) rfl d_bk_word_37 ?_
      have hM1 := c_tr_raiseNumbers l G pt pro P.length bg ar asg anm (dn + 2) f9 τp (fun _ => 0) (sE P) P (fun _ _ => False) M (hw.sub (ws' := [(pt, .inr (2, [.ref pro, .int (nI P.length), .int (nI bg)])), (ar, .inr (1, [.ref asg, .ref anm, .int (nI (dn + 2))])), (asg, aI G 65 f9), (anm, aI G 66 (fun _ => 0))]) [2, 7, 8, 9] rfl rfl) htp.1 (by have := hok.2.1; omega) htp.2.1 htp.2.2 (fun _ _ z => z) hU hnn (fun a ha q hq => (hsp.2 a ha q hq).2.2) (vMax_0 (fun _ _ _ z => z)) H.size
      have hG1 : GoodIn w_bk_word (wsV R_bk 95 R_tr y_tr_raiseNumbers w_tr_raiseNumbers) := gB_V wm_337 wm_338 wm_339 wm_2 wm_340
      refine hm_call (va_runV (y := y_tr_raiseNumbers) (bytes := b_tr_raiseNumbers) (maxL := 3) (ws := w_tr_raiseNumbers) (rm := { frames := 5, cells := 0, slots := 0, locals := 112 }) (own := R_bk) (index := 95) (ret := (Option.none : Option Jvm.ClassFile.FieldType)) (C := R_tr) (As := [.ref ar]) (rest := []) E hM1 (cwV (y := y_tr_raiseNumbers) (bytes := b_tr_raiseNumbers) (maxL := 3) (ws := w_tr_raiseNumbers) (rm := { frames := 5, cells := 0, slots := 0, locals := 112 }) (own := R_bk) (index := 95) (ret := (Option.none : Option Jvm.ClassFile.FieldType)) (C := R_tr) 1 hts hG1 rfl rfl rfl (by decide +kernel) ⟨Nat.le_of_ble_eq_true rfl, Nat.le_of_ble_eq_true rfl⟩) (hm_preV gk_w gk_s hH hg hK (hw.at 2 rfl) rfl [.ref ar]) rfl rfl hl.1 rfl (lv_room (Nat.le_of_ble_eq_true rfl)) d_bk_word_40 ⟨(by show _ ≤ 1; omega), (by show _ ≤ 6; omega)⟩) hH (fun r1 M1 H1 locs1 hq1 hH1 => ?_)
      replace hH := hH1; clear hH1; generalize H1 = H at hH ⊢; generalize locs1 = locs at hH ⊢
      obtain ⟨rfl, v9, hw1, hv9, hk1⟩ := hq1
      have htp := bt_nm htp (fun a ha q hq => (hsp.2 a ha q hq).2.2) (hw.at 9 rfl) hk1
      have htx := bt_nm htx (fun a ha q hq => (hsx.2 a ha q hq).2.2) (hw.at 9 rfl) hk1
      have hw := hm_join (ws' := [(x, .inr (3, [.ref d, .int (nI 0), .int (nI lf), .int (nI rt), .ref pt, .ref xt, .ref rr, .ref ar])), (d, aI G 200 dr), (pt, .inr (2, [.ref pro, .int (nI P.length), .int (nI bg)])), (xt, .inr (2, [.ref xro, .int (nI X.length), .int (nI xbg)])), (rr, .inr (1, [.ref rsg, .ref rnm, .int (nI rsz)])), (rsg, aI G 65 rf), (rnm, aI G 66 rg), (ar, .inr (1, [.ref asg, .ref anm, .int (nI (dn + 2))])), (asg, aI G 65 f9), (anm, aI G 66 v9)]) (wc := [(pt, .inr (2, [.ref pro, .int (nI P.length), .int (nI bg)])), (ar, .inr (1, [.ref asg, .ref anm, .int (nI (dn + 2))])), (asg, aI G 65 f9), (anm, aI G 66 (fun _ => 0))]) hw hw1 hk1 [2, 7, 8, 9] rfl rfl (fun a h => by simp at h; subst h; simp) rfl (by
        intro k9 h9
        match k9, h9 with
        | 0, _ => exact Or.inl ⟨by decide, rfl⟩
        | 1, _ => exact Or.inl ⟨by decide, rfl⟩
        | 2, _ => exact Or.inr ⟨0, rfl, rfl⟩
        | 3, _ => exact Or.inl ⟨by decide, rfl⟩
        | 4, _ => exact Or.inl ⟨by decide, rfl⟩
        | 5, _ => exact Or.inl ⟨by decide, rfl⟩
        | 6, _ => exact Or.inl ⟨by decide, rfl⟩
        | 7, _ => exact Or.inr ⟨1, rfl, rfl⟩
        | 8, _ => exact Or.inr ⟨2, rfl, rfl⟩
        | 9, _ => exact Or.inr ⟨3, rfl, rfl⟩
        | k9 + 10, h9 => exact absurd h9 (Nat.not_lt_of_le (Nat.le_add_left _ _)))
      have hk := hk.tr hk1 (fun a h => hKB a (by simp at h; subst h; simp))
      generalize M1 = M at hH hw hk htp htx
      refine lv_aload_n hx hb d_bk_word_43 rfl (lv_at hl 1 rfl) ?_
      have hM1 := c_bk_cutsOfAsked l G x d 0 lf rt pt xt rr ar xro X.length xbg asg anm dn f9 v9 τx M (hw.sub (ws' := [(x, .inr (3, [.ref d, .int (nI 0), .int (nI lf), .int (nI rt), .ref pt, .ref xt, .ref rr, .ref ar])), (xt, .inr (2, [.ref xro, .int (nI X.length), .int (nI xbg)])), (ar, .inr (1, [.ref asg, .ref anm, .int (nI (dn + 2))])), (asg, aI G 65 f9), (anm, aI G 66 v9)]) [0, 3, 7, 8, 9] rfl rfl) htx.1 hok.2.1 hlf hrt hr1 H.size
      have hG1 : GoodIn w_bk_word (wsV R_bk 98 R_bk y_bk_cutsOfAsked w_bk_cutsOfAsked) := gB_V wm_355 wm_357 wp_9 wm_1 wm_358
      refine hm_call (va_runV (y := y_bk_cutsOfAsked) (bytes := b_bk_cutsOfAsked) (maxL := 7) (ws := w_bk_cutsOfAsked) (rm := { frames := 3, cells := 0, slots := 0, locals := 65 }) (own := R_bk) (index := 98) (ret := (Option.some Jvm.ClassFile.FieldType.long)) (C := R_bk) (As := []) (rest := []) E hM1 (cwV (y := y_bk_cutsOfAsked) (bytes := b_bk_cutsOfAsked) (maxL := 7) (ws := w_bk_cutsOfAsked) (rm := { frames := 3, cells := 0, slots := 0, locals := 65 }) (own := R_bk) (index := 98) (ret := (Option.some Jvm.ClassFile.FieldType.long)) (C := R_bk) 0 hts hG1 rfl rfl rfl (by decide +kernel) ⟨Nat.le_of_ble_eq_true rfl, Nat.le_of_ble_eq_true rfl⟩) (hm_preV gk_w gk_s hH hg hK (hw.at 0 rfl) rfl []) rfl rfl hl.1 rfl (lv_room (Nat.le_of_ble_eq_true rfl)) d_bk_word_44 ⟨(by show _ ≤ 1; omega), (by show _ ≤ 6; omega)⟩) hH (fun r1 M1 H1 locs1 hq1 hH1 => ?_)
      obtain ⟨rfl, e1⟩ := hq1
      replace hH := hH1; rw [e1] at hH; clear hH1 e1; generalize H1 = H at hH ⊢; generalize locs1 = locs at hH ⊢
      exact vx_ret (hm_lret E hr hlk hH (⟨v9, nmF ((twk (tst τx) xro f9 (dn + 2)).bind (tnu τx)) v9 (tnv τx), hok, wd_max hf9 hv9, wd_num htx hf9, rfl, ⟨d, pt, xt, rr, ar, pro, xro, xbg, rsg, rnm, rsz, asg, anm, rf, rg, f9, τp, τx, by rw [if_pos rfl]; exact hw, htp, htx, hsp, hsx, hdj, hKB, hxb⟩, hk⟩) (by omega) (by omega) d_bk_word_47)
    · skip
      first
        | exact absurd h19 (by rw [h6]; decide)
        | exact hm_throwA (is := 93) E hst hgx hgx.2.2.2.2.2.choose_spec hno hZ hlk hH hl.1 d_bk_word_22 d_bk_word_25 d_bk_word_26 d_bk_word_28 d_bk_word_31 (by decide) (by decide) (Nat.le_of_ble_eq_true rfl) (Nat.le_of_ble_eq_true rfl) (⟨⟨d, pt, xt, rr, ar, pro, xro, xbg, rsg, rnm, rsz, asg, anm, rf, rg, af, τp, τx, hw, htp, htx, hsp, hsx, hdj, hKB, hxb⟩, hk, rfl, fun z => by rw [hb9.mpr z] at h6; cases h6⟩) (by omega) (by omega)

theorem hm_has.add2 {M M1 : hM} {ws0 ws1 : va_W} {q q1 : Nat} {e e1 : va_E} (hold : hm_has M ws0) (hq : M q = none) (h1 : hm_has M1 (ws1 ++ [(q1, e1)])) (hne : q1 ≠ q) (he : M1 q = some e) (hadr : ws1.map (fun q => q.1) = ws0.map (fun q => q.1) := by rfl) : hm_has M1 (ws1 ++ [(q1, e1)] ++ [(q, e)]) := by
  refine ⟨?_, fun x hx => ?_⟩
  · rw [List.map_append, List.nodup_append]
    refine ⟨h1.1, by simp, fun a ha b hb => ?_⟩
    simp only [List.map_cons, List.map_nil, List.mem_singleton] at hb
    subst hb
    rw [List.map_append, hadr] at ha
    rcases List.mem_append.mp ha with ha | ha
    · obtain ⟨x, hx, rfl⟩ := List.mem_map.mp ha
      intro z
      have := hold.2 x hx
      rw [z, hq] at this
      cases this
    · simp only [List.map_cons, List.map_nil, List.mem_singleton] at ha
      subst ha
      exact hne
  · rcases List.mem_append.mp hx with hx | hx
    · exact h1.2 x hx
    · rw [List.mem_singleton] at hx
      subst hx
      exact he

theorem bs_0 {K : Nat → Prop} {root rnm anm : Nat} (h : ¬ K root) : bsep K (tau0 root) rnm anm := ⟨fun a ha => by rw [List.mem_singleton.mp ha]; exact h, fun a ha q hq => absurd (show (none : Option Nat) = some q from hq) (by simp)⟩

abbrev q_bk_init (G : hG) (x : Nat) (K : Nat → Prop) (M : hM) : Option Value → hM → Prop := fun rv M' => rv = none ∧ bkR G K x (fun _ => 0) 0 2 3 [] 0 [] false 0 (fun _ => 0) M' ∧ hm_kp (fun a => ¬ K a) M M'
set_option maxHeartbeats 4000000 in
set_option maxRecDepth 100000 in
theorem c_bk_init (l : Launch) (G : hG) (x : Nat) (K : Nat → Prop) (M : hM) (hw : hm_has M [(x, .inr (3, [.null, .int 0, .int 0, .int 0, .null, .null, .null, .null]))]) (hKx : ¬ K x) (hKM : ∀ a, K a → ∃ e, M a = some e) : Ct (gk G) l G.1 vwC y_bk_init w_bk_init { frames := 3, cells := 11, slots := 482, locals := 53 } ([.ref x] : List Value) M (q_bk_init G x K M) 11 482 := by
  refine Ct.ofW (cc := b_bk_init) (maxL := 1) (ret := (Option.none : Option Jvm.ClassFile.FieldType)) (by decide) rfl (Nat.le_of_ble_eq_true rfl) (fun p e s m below meth c A ls E hr hlk hin hg hH hl => ?_)
  have hl : lv_has ls 1 [(0, .ref x)] := hl
  have hx := E.1; have hb := E.2.1; have hml := E.2.2.1; have hown := E.2.2.2.1; have hts := E.2.2.2.2; have hK := hg.1
  obtain ⟨M0, hM0⟩ : ∃ M0 : hM, M0 = M := ⟨M, rfl⟩
  rw [show q_bk_init G x K M = q_bk_init G x K M0 by rw [hM0]]
  have hk : hm_kp (fun a => ¬ K a) M0 M := by rw [hM0]; exact hm_kp.rf
  have hKM0 : ∀ a, K a → ∃ e, M0 a = some e := by rw [hM0]; exact hKM
  refine lv_aload_n hx hb d_bk_init_0 rfl (lv_at hl 0 rfl) ?_
  refine W.objInit hx hb hown (hts _ (tC wm_17)) (hts _ (tC wm_18)) (hts _ (tC wm_19)) rfl (by rw [hml]; exact hl.1) rfl d_bk_init_1 (Nat.le_of_ble_eq_true rfl) (Nat.le_of_ble_eq_true rfl) ?_
  refine W.eq (g2 := F0 m 4 ls []) rfl ?_
  refine lv_aload_n hx hb d_bk_init_4 rfl (lv_at hl 0 rfl) ?_
  refine lv_sipush (v := 200) hx hb d_bk_init_5 (by decide) ?_
  refine hm_newaI E (tC wm_46) hK hH 0 rfl (n := 200) (by decide) (by show _ ≤ 11; omega) (by show _ ≤ 482; omega) d_bk_init_8 (fun d H hqd hH => ?_)
  have hKd := kK hk hKM0 d hqd
  have hw := hw.push (ws' := [(x, .inr (3, [.null, .int 0, .int 0, .int 0, .null, .null, .null, .null])), (d, aI G 200 (fun _ => 0))]) hqd rfl
  have hk := hk.tr (hm_kp.new (S := fun a => ¬ K a) (v := some (aI G 200 (fun _ => 0))) hqd) (fun _ h => h)
  generalize va_up M d (some (aI G 200 (fun _ => 0))) = M at hH hw hk ⊢
  refine hm_putF E (tB in_bk) t_bk tk_bk nm_bk hK hH (hw.at 0 rfl) rfl 0 (by decide) (tC wm_73) rfl hin rfl rfl rfl (Nat.le_of_ble_eq_true rfl) (fs' := [.ref d, .int 0, .int 0, .int 0, .null, .null, .null, .null]) rfl d_bk_init_10 (fun H locs hH => ?_)
  have hw := hw.set (ws' := [(x, .inr (3, [.ref d, .int 0, .int 0, .int 0, .null, .null, .null, .null])), (d, aI G 200 (fun _ => 0))]) (k := 0) rfl rfl
  have hk := hk.wr (a := x) (v := some (.inr (3, [.ref d, .int 0, .int 0, .int 0, .null, .null, .null, .null]))) (Or.inl hKx)
  generalize va_up M x (some (.inr (3, [.ref d, .int 0, .int 0, .int 0, .null, .null, .null, .null]))) = M at hH hw hk ⊢
  refine lv_aload_n hx hb d_bk_init_13 rfl (lv_at hl 0 rfl) ?_
  refine lv_iconst (v := 0) hx hb d_bk_init_14 (by decide) ?_
  refine hm_put E (tB in_bk) t_bk tk_bk nm_bk hK hH (hw.at 0 rfl) rfl 1 (by decide) (tC wm_74) rfl rfl rfl (Nat.le_of_ble_eq_true rfl) (fs' := [.ref d, .int 0, .int 0, .int 0, .null, .null, .null, .null]) rfl d_bk_init_15 (fun H locs hH => ?_)
  have hw := hw.set (ws' := [(x, .inr (3, [.ref d, .int 0, .int 0, .int 0, .null, .null, .null, .null])), (d, aI G 200 (fun _ => 0))]) (k := 0) rfl rfl
  have hk := hk.wr (a := x) (v := some (.inr (3, [.ref d, .int 0, .int 0, .int 0, .null, .null, .null, .null]))) (Or.inl hKx)
  generalize va_up M x (some (.inr (3, [.ref d, .int 0, .int 0, .int 0, .null, .null, .null, .null]))) = M at hH hw hk ⊢
  refine lv_aload_n hx hb d_bk_init_18 rfl (lv_at hl 0 rfl) ?_
  refine lv_iconst (v := 2) hx hb d_bk_init_19 (by decide) ?_
  refine hm_put E (tB in_bk) t_bk tk_bk nm_bk hK hH (hw.at 0 rfl) rfl 2 (by decide) (tC wm_75) rfl rfl rfl (Nat.le_of_ble_eq_true rfl) (fs' := [.ref d, .int 0, .int 2, .int 0, .null, .null, .null, .null]) rfl d_bk_init_20 (fun H locs hH => ?_)
  have hw := hw.set (ws' := [(x, .inr (3, [.ref d, .int 0, .int 2, .int 0, .null, .null, .null, .null])), (d, aI G 200 (fun _ => 0))]) (k := 0) rfl rfl
  have hk := hk.wr (a := x) (v := some (.inr (3, [.ref d, .int 0, .int 2, .int 0, .null, .null, .null, .null]))) (Or.inl hKx)
  generalize va_up M x (some (.inr (3, [.ref d, .int 0, .int 2, .int 0, .null, .null, .null, .null]))) = M at hH hw hk ⊢
  refine lv_aload_n hx hb d_bk_init_23 rfl (lv_at hl 0 rfl) ?_
  refine lv_iconst (v := 3) hx hb d_bk_init_24 (by decide) ?_
  refine hm_put E (tB in_bk) t_bk tk_bk nm_bk hK hH (hw.at 0 rfl) rfl 3 (by decide) (tC wm_76) rfl rfl rfl (Nat.le_of_ble_eq_true rfl) (fs' := [.ref d, .int 0, .int 2, .int 3, .null, .null, .null, .null]) rfl d_bk_init_25 (fun H locs hH => ?_)
  have hw := hw.set (ws' := [(x, .inr (3, [.ref d, .int 0, .int 2, .int 3, .null, .null, .null, .null])), (d, aI G 200 (fun _ => 0))]) (k := 0) rfl rfl
  have hk := hk.wr (a := x) (v := some (.inr (3, [.ref d, .int 0, .int 2, .int 3, .null, .null, .null, .null]))) (Or.inl hKx)
  generalize va_up M x (some (.inr (3, [.ref d, .int 0, .int 2, .int 3, .null, .null, .null, .null]))) = M at hH hw hk ⊢
  refine lv_aload_n hx hb d_bk_init_28 rfl (lv_at hl 0 rfl) ?_
  refine hm_new E (tB in_tr) t_tr tk_tr (tC wm_20) (tC wm_21) (tC wm_2) (ci := 2) hK hH rfl (fs := [.null, .int 0, .int 0]) (by decide) (by show _ ≤ 11; omega) (by show _ ≤ 482; omega) d_bk_init_29 (fun pt H hqpt hH => ?_)
  have hKpt := kK hk hKM0 pt hqpt
  have hw := hw.push (ws' := [(x, .inr (3, [.ref d, .int 0, .int 2, .int 3, .null, .null, .null, .null])), (d, aI G 200 (fun _ => 0)), (pt, .inr (2, [.null, .int 0, .int 0]))]) hqpt rfl
  have hk := hk.tr (hm_kp.new (S := fun a => ¬ K a) (v := some (.inr (2, [.null, .int 0, .int 0]))) hqpt) (fun _ h => h)
  generalize va_up M pt (some (.inr (2, [.null, .int 0, .int 0]))) = M at hH hw hk ⊢
  refine lv_dup hx hb d_bk_init_32 rfl ?_
  have hM1 := c_tr_init l G pt M (hw.sub (ws' := [(pt, .inr (2, [.null, .int 0, .int 0]))]) [2] rfl rfl) H.size
  have hG1 : GoodIn w_bk_init w_tr_init := gB_0 wm_24
  refine hm_call (va_runIN (y := y_tr_init) (bytes := b_tr_init) (maxL := 1) (ws := w_tr_init) (rm := { frames := 2, cells := 1, slots := 4, locals := 33 }) (own := R_bk) (index := 25) (host := R_bk) (As := []) (rest := [.ref pt, .ref x]) E hM1 ⟨va_cnB (y := y_tr_init) (bytes := b_tr_init) (maxL := 1) (ws := w_tr_init) (rm := { frames := 2, cells := 1, slots := 4, locals := 33 }) (own := R_bk) (index := 25) (host := R_bk) (ret := none) 0 hts hG1 rfl rfl rfl hg.2.2.1 (hts _ (tC wm_2)) (by decide +kernel) ⟨Nat.le_of_ble_eq_true rfl, Nat.le_of_ble_eq_true rfl⟩, rfl, hts _ (tC wm_23)⟩ (hm_preS gk_w gk_s hH hg (.ref pt :: [])) rfl rfl hl.1 rfl (lv_room (Nat.le_of_ble_eq_true rfl)) d_bk_init_33 ⟨(by show _ ≤ 11; omega), (by show _ ≤ 482; omega)⟩) hH (fun r1 M1 H1 locs1 hq1 hH1 => ?_)
  replace hH := hH1; clear hH1; generalize H1 = H at hH ⊢; generalize locs1 = locs at hH ⊢
  obtain ⟨rfl, pro, hqn1, hw1, hk1⟩ := hq1
  have hold := hw
  have hw := hm_join (ws' := [(x, .inr (3, [.ref d, .int 0, .int 2, .int 3, .null, .null, .null, .null])), (d, aI G 200 (fun _ => 0)), (pt, .inr (2, [.ref pro, .int (nI 0), .int (nI 0)]))]) (wc := [(pt, .inr (2, [.null, .int 0, .int 0]))]) hw (hw1.sub (ws' := [(pt, .inr (2, [.ref pro, .int (nI 0), .int (nI 0)]))]) [0] rfl rfl) hk1 [2] rfl rfl (fun _ h => h) rfl (by
    intro k9 h9
    match k9, h9 with
    | 0, _ => exact Or.inl ⟨by decide, rfl⟩
    | 1, _ => exact Or.inl ⟨by decide, rfl⟩
    | 2, _ => exact Or.inr ⟨0, rfl, rfl⟩
    | k9 + 3, h9 => exact absurd h9 (Nat.not_lt_of_le (Nat.le_add_left _ _)))
  have hw := hold.add (ws1 := [(x, .inr (3, [.ref d, .int 0, .int 2, .int 3, .null, .null, .null, .null])), (d, aI G 200 (fun _ => 0)), (pt, .inr (2, [.ref pro, .int (nI 0), .int (nI 0)]))]) (ws2 := [(x, .inr (3, [.ref d, .int 0, .int 2, .int 3, .null, .null, .null, .null])), (d, aI G 200 (fun _ => 0)), (pt, .inr (2, [.ref pro, .int (nI 0), .int (nI 0)])), (pro, .inr (0, [.int 0, va_rf none, va_rf none, va_rf none]))]) hqn1 hw rfl (hw1.at 1 rfl) rfl
  have hKpro := kK hk hKM0 pro hqn1
  have hk := hk.tr hk1 (fun a h => by simp at h; subst h; exact hKpt)
  clear hw1 hold hk1 hqn1
  generalize M1 = M at hH hw hk
  refine hm_putF E (tB in_bk) t_bk tk_bk nm_bk hK hH (hw.at 0 rfl) rfl 4 (by decide) (tC wm_77) rfl hin rfl rfl rfl (Nat.le_of_ble_eq_true rfl) (fs' := [.ref d, .int 0, .int 2, .int 3, .ref pt, .null, .null, .null]) rfl d_bk_init_36 (fun H locs hH => ?_)
  have hw := hw.set (ws' := [(x, .inr (3, [.ref d, .int 0, .int 2, .int 3, .ref pt, .null, .null, .null])), (d, aI G 200 (fun _ => 0)), (pt, .inr (2, [.ref pro, .int (nI 0), .int (nI 0)])), (pro, .inr (0, [.int 0, va_rf none, va_rf none, va_rf none]))]) (k := 0) rfl rfl
  have hk := hk.wr (a := x) (v := some (.inr (3, [.ref d, .int 0, .int 2, .int 3, .ref pt, .null, .null, .null]))) (Or.inl hKx)
  generalize va_up M x (some (.inr (3, [.ref d, .int 0, .int 2, .int 3, .ref pt, .null, .null, .null]))) = M at hH hw hk ⊢
  refine lv_aload_n hx hb d_bk_init_39 rfl (lv_at hl 0 rfl) ?_
  refine hm_new E (tB in_tr) t_tr tk_tr (tC wm_20) (tC wm_21) (tC wm_2) (ci := 2) hK hH rfl (fs := [.null, .int 0, .int 0]) (by decide) (by show _ ≤ 11; omega) (by show _ ≤ 482; omega) d_bk_init_40 (fun xt H hqxt hH => ?_)
  have hKxt := kK hk hKM0 xt hqxt
  have hw := hw.push (ws' := [(x, .inr (3, [.ref d, .int 0, .int 2, .int 3, .ref pt, .null, .null, .null])), (d, aI G 200 (fun _ => 0)), (pt, .inr (2, [.ref pro, .int (nI 0), .int (nI 0)])), (pro, .inr (0, [.int 0, va_rf none, va_rf none, va_rf none])), (xt, .inr (2, [.null, .int 0, .int 0]))]) hqxt rfl
  have hk := hk.tr (hm_kp.new (S := fun a => ¬ K a) (v := some (.inr (2, [.null, .int 0, .int 0]))) hqxt) (fun _ h => h)
  generalize va_up M xt (some (.inr (2, [.null, .int 0, .int 0]))) = M at hH hw hk ⊢
  refine lv_dup hx hb d_bk_init_43 rfl ?_
  have hM1 := c_tr_init l G xt M (hw.sub (ws' := [(xt, .inr (2, [.null, .int 0, .int 0]))]) [4] rfl rfl) H.size
  have hG1 : GoodIn w_bk_init w_tr_init := gB_0 wm_24
  refine hm_call (va_runIN (y := y_tr_init) (bytes := b_tr_init) (maxL := 1) (ws := w_tr_init) (rm := { frames := 2, cells := 1, slots := 4, locals := 33 }) (own := R_bk) (index := 25) (host := R_bk) (As := []) (rest := [.ref xt, .ref x]) E hM1 ⟨va_cnB (y := y_tr_init) (bytes := b_tr_init) (maxL := 1) (ws := w_tr_init) (rm := { frames := 2, cells := 1, slots := 4, locals := 33 }) (own := R_bk) (index := 25) (host := R_bk) (ret := none) 0 hts hG1 rfl rfl rfl hg.2.2.1 (hts _ (tC wm_2)) (by decide +kernel) ⟨Nat.le_of_ble_eq_true rfl, Nat.le_of_ble_eq_true rfl⟩, rfl, hts _ (tC wm_23)⟩ (hm_preS gk_w gk_s hH hg (.ref xt :: [])) rfl rfl hl.1 rfl (lv_room (Nat.le_of_ble_eq_true rfl)) d_bk_init_44 ⟨(by show _ ≤ 11; omega), (by show _ ≤ 482; omega)⟩) hH (fun r1 M1 H1 locs1 hq1 hH1 => ?_)
  replace hH := hH1; clear hH1; generalize H1 = H at hH ⊢; generalize locs1 = locs at hH ⊢
  obtain ⟨rfl, xro, hqn1, hw1, hk1⟩ := hq1
  have hold := hw
  have hw := hm_join (ws' := [(x, .inr (3, [.ref d, .int 0, .int 2, .int 3, .ref pt, .null, .null, .null])), (d, aI G 200 (fun _ => 0)), (pt, .inr (2, [.ref pro, .int (nI 0), .int (nI 0)])), (pro, .inr (0, [.int 0, va_rf none, va_rf none, va_rf none])), (xt, .inr (2, [.ref xro, .int (nI 0), .int (nI 0)]))]) (wc := [(xt, .inr (2, [.null, .int 0, .int 0]))]) hw (hw1.sub (ws' := [(xt, .inr (2, [.ref xro, .int (nI 0), .int (nI 0)]))]) [0] rfl rfl) hk1 [4] rfl rfl (fun _ h => h) rfl (by
    intro k9 h9
    match k9, h9 with
    | 0, _ => exact Or.inl ⟨by decide, rfl⟩
    | 1, _ => exact Or.inl ⟨by decide, rfl⟩
    | 2, _ => exact Or.inl ⟨by decide, rfl⟩
    | 3, _ => exact Or.inl ⟨by decide, rfl⟩
    | 4, _ => exact Or.inr ⟨0, rfl, rfl⟩
    | k9 + 5, h9 => exact absurd h9 (Nat.not_lt_of_le (Nat.le_add_left _ _)))
  have hw := hold.add (ws1 := [(x, .inr (3, [.ref d, .int 0, .int 2, .int 3, .ref pt, .null, .null, .null])), (d, aI G 200 (fun _ => 0)), (pt, .inr (2, [.ref pro, .int (nI 0), .int (nI 0)])), (pro, .inr (0, [.int 0, va_rf none, va_rf none, va_rf none])), (xt, .inr (2, [.ref xro, .int (nI 0), .int (nI 0)]))]) (ws2 := [(x, .inr (3, [.ref d, .int 0, .int 2, .int 3, .ref pt, .null, .null, .null])), (d, aI G 200 (fun _ => 0)), (pt, .inr (2, [.ref pro, .int (nI 0), .int (nI 0)])), (pro, .inr (0, [.int 0, va_rf none, va_rf none, va_rf none])), (xt, .inr (2, [.ref xro, .int (nI 0), .int (nI 0)])), (xro, .inr (0, [.int 0, va_rf none, va_rf none, va_rf none]))]) hqn1 hw rfl (hw1.at 1 rfl) rfl
  have hKxro := kK hk hKM0 xro hqn1
  have hk := hk.tr hk1 (fun a h => by simp at h; subst h; exact hKxt)
  clear hw1 hold hk1 hqn1
  generalize M1 = M at hH hw hk
  refine hm_putF E (tB in_bk) t_bk tk_bk nm_bk hK hH (hw.at 0 rfl) rfl 5 (by decide) (tC wm_78) rfl hin rfl rfl rfl (Nat.le_of_ble_eq_true rfl) (fs' := [.ref d, .int 0, .int 2, .int 3, .ref pt, .ref xt, .null, .null]) rfl d_bk_init_47 (fun H locs hH => ?_)
  have hw := hw.set (ws' := [(x, .inr (3, [.ref d, .int 0, .int 2, .int 3, .ref pt, .ref xt, .null, .null])), (d, aI G 200 (fun _ => 0)), (pt, .inr (2, [.ref pro, .int (nI 0), .int (nI 0)])), (pro, .inr (0, [.int 0, va_rf none, va_rf none, va_rf none])), (xt, .inr (2, [.ref xro, .int (nI 0), .int (nI 0)])), (xro, .inr (0, [.int 0, va_rf none, va_rf none, va_rf none]))]) (k := 0) rfl rfl
  have hk := hk.wr (a := x) (v := some (.inr (3, [.ref d, .int 0, .int 2, .int 3, .ref pt, .ref xt, .null, .null]))) (Or.inl hKx)
  generalize va_up M x (some (.inr (3, [.ref d, .int 0, .int 2, .int 3, .ref pt, .ref xt, .null, .null]))) = M at hH hw hk ⊢
  refine lv_aload_n hx hb d_bk_init_50 rfl (lv_at hl 0 rfl) ?_
  refine hm_new E (tB in_rw) t_rw tk_rw (tC wm_57) (tC wm_58) (tC wm_4) (ci := 1) hK hH rfl (fs := [.null, .null, .int 0]) (by decide) (by show _ ≤ 11; omega) (by show _ ≤ 482; omega) d_bk_init_51 (fun rr H hqrr hH => ?_)
  have hKrr := kK hk hKM0 rr hqrr
  have hw := hw.push (ws' := [(x, .inr (3, [.ref d, .int 0, .int 2, .int 3, .ref pt, .ref xt, .null, .null])), (d, aI G 200 (fun _ => 0)), (pt, .inr (2, [.ref pro, .int (nI 0), .int (nI 0)])), (pro, .inr (0, [.int 0, va_rf none, va_rf none, va_rf none])), (xt, .inr (2, [.ref xro, .int (nI 0), .int (nI 0)])), (xro, .inr (0, [.int 0, va_rf none, va_rf none, va_rf none])), (rr, .inr (1, [.null, .null, .int 0]))]) hqrr rfl
  have hk := hk.tr (hm_kp.new (S := fun a => ¬ K a) (v := some (.inr (1, [.null, .null, .int 0]))) hqrr) (fun _ h => h)
  generalize va_up M rr (some (.inr (1, [.null, .null, .int 0]))) = M at hH hw hk ⊢
  refine lv_dup hx hb d_bk_init_54 rfl ?_
  have hM1 := c_rw_init l G rr M (hw.sub (ws' := [(rr, .inr (1, [.null, .null, .int 0]))]) [6] rfl rfl) H.size
  have hG1 : GoodIn w_bk_init w_rw_init := gB_0 wm_61
  refine hm_call (va_runIN (y := y_rw_init) (bytes := b_rw_init) (maxL := 1) (ws := w_rw_init) (rm := { frames := 1, cells := 2, slots := 131, locals := 12 }) (own := R_bk) (index := 35) (host := R_bk) (As := []) (rest := [.ref rr, .ref x]) E hM1 ⟨va_cnB (y := y_rw_init) (bytes := b_rw_init) (maxL := 1) (ws := w_rw_init) (rm := { frames := 1, cells := 2, slots := 131, locals := 12 }) (own := R_bk) (index := 35) (host := R_bk) (ret := none) 0 hts hG1 rfl rfl rfl hg.2.2.2.1 (hts _ (tC wm_4)) (by decide +kernel) ⟨Nat.le_of_ble_eq_true rfl, Nat.le_of_ble_eq_true rfl⟩, rfl, hts _ (tC wm_60)⟩ (hm_preS gk_w gk_s hH hg (.ref rr :: [])) rfl rfl hl.1 rfl (lv_room (Nat.le_of_ble_eq_true rfl)) d_bk_init_55 ⟨(by show _ ≤ 11; omega), (by show _ ≤ 482; omega)⟩) hH (fun r1 M1 H1 locs1 hq1 hH1 => ?_)
  replace hH := hH1; clear hH1; generalize H1 = H at hH ⊢; generalize locs1 = locs at hH ⊢
  obtain ⟨rfl, rsg, rnm, hqn1, hqn2, hw1, hk1⟩ := hq1
  have hold := hw
  have hw := hm_join (ws' := [(x, .inr (3, [.ref d, .int 0, .int 2, .int 3, .ref pt, .ref xt, .null, .null])), (d, aI G 200 (fun _ => 0)), (pt, .inr (2, [.ref pro, .int (nI 0), .int (nI 0)])), (pro, .inr (0, [.int 0, va_rf none, va_rf none, va_rf none])), (xt, .inr (2, [.ref xro, .int (nI 0), .int (nI 0)])), (xro, .inr (0, [.int 0, va_rf none, va_rf none, va_rf none])), (rr, .inr (1, [.ref rsg, .ref rnm, .int (nI 0)]))]) (wc := [(rr, .inr (1, [.null, .null, .int 0]))]) hw (hw1.sub (ws' := [(rr, .inr (1, [.ref rsg, .ref rnm, .int (nI 0)]))]) [0] rfl rfl) hk1 [6] rfl rfl (fun _ h => h) rfl (by
    intro k9 h9
    match k9, h9 with
    | 0, _ => exact Or.inl ⟨by decide, rfl⟩
    | 1, _ => exact Or.inl ⟨by decide, rfl⟩
    | 2, _ => exact Or.inl ⟨by decide, rfl⟩
    | 3, _ => exact Or.inl ⟨by decide, rfl⟩
    | 4, _ => exact Or.inl ⟨by decide, rfl⟩
    | 5, _ => exact Or.inl ⟨by decide, rfl⟩
    | 6, _ => exact Or.inr ⟨0, rfl, rfl⟩
    | k9 + 7, h9 => exact absurd h9 (Nat.not_lt_of_le (Nat.le_add_left _ _)))
  have hw := hold.add (ws1 := [(x, .inr (3, [.ref d, .int 0, .int 2, .int 3, .ref pt, .ref xt, .null, .null])), (d, aI G 200 (fun _ => 0)), (pt, .inr (2, [.ref pro, .int (nI 0), .int (nI 0)])), (pro, .inr (0, [.int 0, va_rf none, va_rf none, va_rf none])), (xt, .inr (2, [.ref xro, .int (nI 0), .int (nI 0)])), (xro, .inr (0, [.int 0, va_rf none, va_rf none, va_rf none])), (rr, .inr (1, [.ref rsg, .ref rnm, .int (nI 0)]))]) (ws2 := [(x, .inr (3, [.ref d, .int 0, .int 2, .int 3, .ref pt, .ref xt, .null, .null])), (d, aI G 200 (fun _ => 0)), (pt, .inr (2, [.ref pro, .int (nI 0), .int (nI 0)])), (pro, .inr (0, [.int 0, va_rf none, va_rf none, va_rf none])), (xt, .inr (2, [.ref xro, .int (nI 0), .int (nI 0)])), (xro, .inr (0, [.int 0, va_rf none, va_rf none, va_rf none])), (rr, .inr (1, [.ref rsg, .ref rnm, .int (nI 0)])), (rsg, aI G 65 (fun _ => 0))]) hqn1 hw rfl (hw1.at 1 rfl) rfl
  have hw : hm_has M1 [(x, .inr (3, [.ref d, .int 0, .int 2, .int 3, .ref pt, .ref xt, .null, .null])), (d, aI G 200 (fun _ => 0)), (pt, .inr (2, [.ref pro, .int (nI 0), .int (nI 0)])), (pro, .inr (0, [.int 0, va_rf none, va_rf none, va_rf none])), (xt, .inr (2, [.ref xro, .int (nI 0), .int (nI 0)])), (xro, .inr (0, [.int 0, va_rf none, va_rf none, va_rf none])), (rr, .inr (1, [.ref rsg, .ref rnm, .int (nI 0)])), (rsg, aI G 65 (fun _ => 0)), (rnm, aI G 66 (fun _ => 0))] := hm_has.add2 (ws1 := [(x, .inr (3, [.ref d, .int 0, .int 2, .int 3, .ref pt, .ref xt, .null, .null])), (d, aI G 200 (fun _ => 0)), (pt, .inr (2, [.ref pro, .int (nI 0), .int (nI 0)])), (pro, .inr (0, [.int 0, va_rf none, va_rf none, va_rf none])), (xt, .inr (2, [.ref xro, .int (nI 0), .int (nI 0)])), (xro, .inr (0, [.int 0, va_rf none, va_rf none, va_rf none])), (rr, .inr (1, [.ref rsg, .ref rnm, .int (nI 0)]))]) (q1 := rsg) (e1 := aI G 65 (fun _ => 0)) hold hqn2 hw (hw1.ne 1 2 rfl rfl (by decide)) (hw1.at 2 rfl)
  have hKrsg := kK hk hKM0 rsg hqn1
  have hKrnm := kK hk hKM0 rnm hqn2
  have hk := hk.tr hk1 (fun a h => by simp at h; subst h; exact hKrr)
  clear hw1 hold hk1 hqn1 hqn2
  generalize M1 = M at hH hw hk
  refine hm_putF E (tB in_bk) t_bk tk_bk nm_bk hK hH (hw.at 0 rfl) rfl 6 (by decide) (tC wm_79) rfl hin rfl rfl rfl (Nat.le_of_ble_eq_true rfl) (fs' := [.ref d, .int 0, .int 2, .int 3, .ref pt, .ref xt, .ref rr, .null]) rfl d_bk_init_58 (fun H locs hH => ?_)
  have hw := hw.set (ws' := [(x, .inr (3, [.ref d, .int 0, .int 2, .int 3, .ref pt, .ref xt, .ref rr, .null])), (d, aI G 200 (fun _ => 0)), (pt, .inr (2, [.ref pro, .int (nI 0), .int (nI 0)])), (pro, .inr (0, [.int 0, va_rf none, va_rf none, va_rf none])), (xt, .inr (2, [.ref xro, .int (nI 0), .int (nI 0)])), (xro, .inr (0, [.int 0, va_rf none, va_rf none, va_rf none])), (rr, .inr (1, [.ref rsg, .ref rnm, .int (nI 0)])), (rsg, aI G 65 (fun _ => 0)), (rnm, aI G 66 (fun _ => 0))]) (k := 0) rfl rfl
  have hk := hk.wr (a := x) (v := some (.inr (3, [.ref d, .int 0, .int 2, .int 3, .ref pt, .ref xt, .ref rr, .null]))) (Or.inl hKx)
  generalize va_up M x (some (.inr (3, [.ref d, .int 0, .int 2, .int 3, .ref pt, .ref xt, .ref rr, .null]))) = M at hH hw hk ⊢
  refine lv_aload_n hx hb d_bk_init_61 rfl (lv_at hl 0 rfl) ?_
  refine hm_new E (tB in_rw) t_rw tk_rw (tC wm_57) (tC wm_58) (tC wm_4) (ci := 1) hK hH rfl (fs := [.null, .null, .int 0]) (by decide) (by show _ ≤ 11; omega) (by show _ ≤ 482; omega) d_bk_init_62 (fun ar H hqar hH => ?_)
  have hKar := kK hk hKM0 ar hqar
  have hw := hw.push (ws' := [(x, .inr (3, [.ref d, .int 0, .int 2, .int 3, .ref pt, .ref xt, .ref rr, .null])), (d, aI G 200 (fun _ => 0)), (pt, .inr (2, [.ref pro, .int (nI 0), .int (nI 0)])), (pro, .inr (0, [.int 0, va_rf none, va_rf none, va_rf none])), (xt, .inr (2, [.ref xro, .int (nI 0), .int (nI 0)])), (xro, .inr (0, [.int 0, va_rf none, va_rf none, va_rf none])), (rr, .inr (1, [.ref rsg, .ref rnm, .int (nI 0)])), (rsg, aI G 65 (fun _ => 0)), (rnm, aI G 66 (fun _ => 0)), (ar, .inr (1, [.null, .null, .int 0]))]) hqar rfl
  have hk := hk.tr (hm_kp.new (S := fun a => ¬ K a) (v := some (.inr (1, [.null, .null, .int 0]))) hqar) (fun _ h => h)
  generalize va_up M ar (some (.inr (1, [.null, .null, .int 0]))) = M at hH hw hk ⊢
  refine lv_dup hx hb d_bk_init_65 rfl ?_
  have hM1 := c_rw_init l G ar M (hw.sub (ws' := [(ar, .inr (1, [.null, .null, .int 0]))]) [9] rfl rfl) H.size
  have hG1 : GoodIn w_bk_init w_rw_init := gB_0 wm_61
  refine hm_call (va_runIN (y := y_rw_init) (bytes := b_rw_init) (maxL := 1) (ws := w_rw_init) (rm := { frames := 1, cells := 2, slots := 131, locals := 12 }) (own := R_bk) (index := 35) (host := R_bk) (As := []) (rest := [.ref ar, .ref x]) E hM1 ⟨va_cnB (y := y_rw_init) (bytes := b_rw_init) (maxL := 1) (ws := w_rw_init) (rm := { frames := 1, cells := 2, slots := 131, locals := 12 }) (own := R_bk) (index := 35) (host := R_bk) (ret := none) 0 hts hG1 rfl rfl rfl hg.2.2.2.1 (hts _ (tC wm_4)) (by decide +kernel) ⟨Nat.le_of_ble_eq_true rfl, Nat.le_of_ble_eq_true rfl⟩, rfl, hts _ (tC wm_60)⟩ (hm_preS gk_w gk_s hH hg (.ref ar :: [])) rfl rfl hl.1 rfl (lv_room (Nat.le_of_ble_eq_true rfl)) d_bk_init_66 ⟨(by show _ ≤ 11; omega), (by show _ ≤ 482; omega)⟩) hH (fun r1 M1 H1 locs1 hq1 hH1 => ?_)
  replace hH := hH1; clear hH1; generalize H1 = H at hH ⊢; generalize locs1 = locs at hH ⊢
  obtain ⟨rfl, asg, anm, hqn1, hqn2, hw1, hk1⟩ := hq1
  have hold := hw
  have hw := hm_join (ws' := [(x, .inr (3, [.ref d, .int 0, .int 2, .int 3, .ref pt, .ref xt, .ref rr, .null])), (d, aI G 200 (fun _ => 0)), (pt, .inr (2, [.ref pro, .int (nI 0), .int (nI 0)])), (pro, .inr (0, [.int 0, va_rf none, va_rf none, va_rf none])), (xt, .inr (2, [.ref xro, .int (nI 0), .int (nI 0)])), (xro, .inr (0, [.int 0, va_rf none, va_rf none, va_rf none])), (rr, .inr (1, [.ref rsg, .ref rnm, .int (nI 0)])), (rsg, aI G 65 (fun _ => 0)), (rnm, aI G 66 (fun _ => 0)), (ar, .inr (1, [.ref asg, .ref anm, .int (nI 0)]))]) (wc := [(ar, .inr (1, [.null, .null, .int 0]))]) hw (hw1.sub (ws' := [(ar, .inr (1, [.ref asg, .ref anm, .int (nI 0)]))]) [0] rfl rfl) hk1 [9] rfl rfl (fun _ h => h) rfl (by
    intro k9 h9
    match k9, h9 with
    | 0, _ => exact Or.inl ⟨by decide, rfl⟩
    | 1, _ => exact Or.inl ⟨by decide, rfl⟩
    | 2, _ => exact Or.inl ⟨by decide, rfl⟩
    | 3, _ => exact Or.inl ⟨by decide, rfl⟩
    | 4, _ => exact Or.inl ⟨by decide, rfl⟩
    | 5, _ => exact Or.inl ⟨by decide, rfl⟩
    | 6, _ => exact Or.inl ⟨by decide, rfl⟩
    | 7, _ => exact Or.inl ⟨by decide, rfl⟩
    | 8, _ => exact Or.inl ⟨by decide, rfl⟩
    | 9, _ => exact Or.inr ⟨0, rfl, rfl⟩
    | k9 + 10, h9 => exact absurd h9 (Nat.not_lt_of_le (Nat.le_add_left _ _)))
  have hw := hold.add (ws1 := [(x, .inr (3, [.ref d, .int 0, .int 2, .int 3, .ref pt, .ref xt, .ref rr, .null])), (d, aI G 200 (fun _ => 0)), (pt, .inr (2, [.ref pro, .int (nI 0), .int (nI 0)])), (pro, .inr (0, [.int 0, va_rf none, va_rf none, va_rf none])), (xt, .inr (2, [.ref xro, .int (nI 0), .int (nI 0)])), (xro, .inr (0, [.int 0, va_rf none, va_rf none, va_rf none])), (rr, .inr (1, [.ref rsg, .ref rnm, .int (nI 0)])), (rsg, aI G 65 (fun _ => 0)), (rnm, aI G 66 (fun _ => 0)), (ar, .inr (1, [.ref asg, .ref anm, .int (nI 0)]))]) (ws2 := [(x, .inr (3, [.ref d, .int 0, .int 2, .int 3, .ref pt, .ref xt, .ref rr, .null])), (d, aI G 200 (fun _ => 0)), (pt, .inr (2, [.ref pro, .int (nI 0), .int (nI 0)])), (pro, .inr (0, [.int 0, va_rf none, va_rf none, va_rf none])), (xt, .inr (2, [.ref xro, .int (nI 0), .int (nI 0)])), (xro, .inr (0, [.int 0, va_rf none, va_rf none, va_rf none])), (rr, .inr (1, [.ref rsg, .ref rnm, .int (nI 0)])), (rsg, aI G 65 (fun _ => 0)), (rnm, aI G 66 (fun _ => 0)), (ar, .inr (1, [.ref asg, .ref anm, .int (nI 0)])), (asg, aI G 65 (fun _ => 0))]) hqn1 hw rfl (hw1.at 1 rfl) rfl
  have hw : hm_has M1 [(x, .inr (3, [.ref d, .int 0, .int 2, .int 3, .ref pt, .ref xt, .ref rr, .null])), (d, aI G 200 (fun _ => 0)), (pt, .inr (2, [.ref pro, .int (nI 0), .int (nI 0)])), (pro, .inr (0, [.int 0, va_rf none, va_rf none, va_rf none])), (xt, .inr (2, [.ref xro, .int (nI 0), .int (nI 0)])), (xro, .inr (0, [.int 0, va_rf none, va_rf none, va_rf none])), (rr, .inr (1, [.ref rsg, .ref rnm, .int (nI 0)])), (rsg, aI G 65 (fun _ => 0)), (rnm, aI G 66 (fun _ => 0)), (ar, .inr (1, [.ref asg, .ref anm, .int (nI 0)])), (asg, aI G 65 (fun _ => 0)), (anm, aI G 66 (fun _ => 0))] := hm_has.add2 (ws1 := [(x, .inr (3, [.ref d, .int 0, .int 2, .int 3, .ref pt, .ref xt, .ref rr, .null])), (d, aI G 200 (fun _ => 0)), (pt, .inr (2, [.ref pro, .int (nI 0), .int (nI 0)])), (pro, .inr (0, [.int 0, va_rf none, va_rf none, va_rf none])), (xt, .inr (2, [.ref xro, .int (nI 0), .int (nI 0)])), (xro, .inr (0, [.int 0, va_rf none, va_rf none, va_rf none])), (rr, .inr (1, [.ref rsg, .ref rnm, .int (nI 0)])), (rsg, aI G 65 (fun _ => 0)), (rnm, aI G 66 (fun _ => 0)), (ar, .inr (1, [.ref asg, .ref anm, .int (nI 0)]))]) (q1 := asg) (e1 := aI G 65 (fun _ => 0)) hold hqn2 hw (hw1.ne 1 2 rfl rfl (by decide)) (hw1.at 2 rfl)
  have hKasg := kK hk hKM0 asg hqn1
  have hKanm := kK hk hKM0 anm hqn2
  have hk := hk.tr hk1 (fun a h => by simp at h; subst h; exact hKar)
  clear hw1 hold hk1 hqn1 hqn2
  generalize M1 = M at hH hw hk
  refine hm_putF E (tB in_bk) t_bk tk_bk nm_bk hK hH (hw.at 0 rfl) rfl 7 (by decide) (tC wm_80) rfl hin rfl rfl rfl (Nat.le_of_ble_eq_true rfl) (fs' := [.ref d, .int 0, .int 2, .int 3, .ref pt, .ref xt, .ref rr, .ref ar]) rfl d_bk_init_69 (fun H locs hH => ?_)
  have hw := hw.set (ws' := [(x, .inr (3, [.ref d, .int 0, .int 2, .int 3, .ref pt, .ref xt, .ref rr, .ref ar])), (d, aI G 200 (fun _ => 0)), (pt, .inr (2, [.ref pro, .int (nI 0), .int (nI 0)])), (pro, .inr (0, [.int 0, va_rf none, va_rf none, va_rf none])), (xt, .inr (2, [.ref xro, .int (nI 0), .int (nI 0)])), (xro, .inr (0, [.int 0, va_rf none, va_rf none, va_rf none])), (rr, .inr (1, [.ref rsg, .ref rnm, .int (nI 0)])), (rsg, aI G 65 (fun _ => 0)), (rnm, aI G 66 (fun _ => 0)), (ar, .inr (1, [.ref asg, .ref anm, .int (nI 0)])), (asg, aI G 65 (fun _ => 0)), (anm, aI G 66 (fun _ => 0))]) (k := 0) rfl rfl
  have hk := hk.wr (a := x) (v := some (.inr (3, [.ref d, .int 0, .int 2, .int 3, .ref pt, .ref xt, .ref rr, .ref ar]))) (Or.inl hKx)
  generalize va_up M x (some (.inr (3, [.ref d, .int 0, .int 2, .int 3, .ref pt, .ref xt, .ref rr, .ref ar]))) = M at hH hw hk ⊢
  exact hm_vret E hr hlk hH (⟨rfl, ⟨d, pt, xt, rr, ar, pro, xro, 0, rsg, rnm, 0, asg, anm, fun _ => 0, fun _ => 0, fun _ => 0, tau0 pro, tau0 xro, hw.sub [0, 1, 2, 4, 6, 7, 8, 9, 10, 11] rfl rfl, bt_0 (hw.at 3 rfl), bt_0 (hw.at 5 rfl), bs_0 hKpro, bs_0 hKxro, fun a h1 h2 => hw.ne 3 5 rfl rfl (by decide) ((List.mem_singleton.mp h1).symm.trans (List.mem_singleton.mp h2)), by simp only [List.forall_mem_cons]; exact ⟨hKx, hKd, hKpt, hKxt, hKrr, hKrsg, hKrnm, hKar, hKasg, hKanm, fun _ h => absurd h List.not_mem_nil⟩, Nat.zero_le _⟩, hk⟩) (by omega) (by omega) d_bk_init_72
