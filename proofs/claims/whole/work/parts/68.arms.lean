/-! THE LAW: one call of the script after another -/
def lwI (G : hG) (T x y d be sg nu fi le pl rw va out : Nat) (M : hM) : Prop := ∃ (dr : Nat → Int32) (dn lf rt : Nat) (P : List rwT) (bg : Nat) (X : List rwT) (ak : Bool) (an : Nat) (av : Nat → Int32) (th ln : Nat) (fb fs fn ff fl fr fv : Nat → Int32) (fp fo : Nat → Int64) (o ox : Nat → Nat), bkR G (fun a => a ∈ [y, d, be, sg, nu, fi, le, pl, rw, va, out]) x dr dn lf rt P bg X ak an av M ∧ hm_has M [(y, cMd th dn d P.length be sg nu bg X.length fi le pl lf rt ln rw va ak), (d, aI G 200 dr), (be, aI G 8194 fb), (sg, aI G 40000 fs), (nu, aI G 48200 fn), (fi, aI G 2050 ff), (le, aI G 40000 fl), (pl, aJ G 2048 fp), (rw, aI G 66 fr), (va, aI G 66 fv), (out, aJ G 1 fo)] ∧ hbI T dr dn lf rt P X ak an ∧ mdV T dn P X bg ak an av ln fb fs fn ff fl fv fp o ox
set_option maxHeartbeats 4000000 in
set_option maxRecDepth 100000 in
theorem law_least {p : Program} {l : Launch} {e : Env} {s : State} {m : MethodId} {below : List Frame} {meth : Method} {c : Code} {b L : Nat} {xs : Nat → Int32} {G : hG} {Q : State → Prop} {T x y d be sg nu fi le pl rw va out : Nat} (E : CallFix p m c b_lw_law 8 s #[Value.ref b] w_lw_law "HyphenBookLaw") (hst : l.stackTraces = false) (hgy : gy G s) (hZ : zqs (fun q : Nat => s.heap.size ≤ q) s s.heap) (hX : va_X b L xs s s.heap) (hbl : b < s.heap.size) (hL : L ≤ 2048) (hT : 4 * T + 4 ≤ L) (M : hM) (H : Heap) (locs : List Loc) (ls : Array Slot) (hH : hm_I G.1 vwC (fun q : Nat => s.heap.size ≤ q) s.heap M H locs) (hJ : lwI G T x y d be sg nu fi le pl rw va out M) (hl : lv_has ls 8 [(0, .ref b), (1, .ref x), (2, .ref y), (3, .ref out), (4, .int (nI (4 * T)))]) (kk : ∀ (M : hM) (H : Heap) (locs : List Loc) (ls : Array Slot), hm_I G.1 vwC (fun q : Nat => s.heap.size ≤ q) s.heap M H locs → lwI G (T + 1) x y d be sg nu fi le pl rw va out M → lv_has ls 8 [(0, .ref b), (1, .ref x), (2, .ref y), (3, .ref out), (4, .int (nI (4 * T)))] → W p l e room_1 s m #[Value.ref b] below meth c H locs (23 + 66 * (T + 1)) (141333 + 326 * (T + 1)) Q (F0 m 367 ls [])) : W p l e room_1 s m #[Value.ref b] below meth c H locs (23 + 66 * T) (141333 + 326 * T) Q (F0 m 280 ls []) := by
  have hx := E.1; have hb := E.2.1; have hml := E.2.2.1; have hown := E.2.2.2.1; have hts := E.2.2.2.2; have hgx := hgy.1; have hg := hgx.1; have hK := hg.1
  obtain ⟨dr, dn, lf, rt, P, bg, X, ak, an, av, th, ln, fb, fs, fn, ff, fl, fr, fv, fp, fo, o, ox, hR, hw, hI, hV⟩ := hJ
  have hdn := hI.1; have hby := hI.2.1; have hl1 := hI.2.2.1; have hlf := hI.2.2.2.1; have hr1 := hI.2.2.2.2.1; have hrt := hI.2.2.2.2.2.1
  have hPl : P.length ≤ 600 := by have := hI.2.2.2.2.2.2.1; omega
  have hXl : X.length ≤ 600 := by have := hI.2.2.2.2.2.2.2.1; omega
  have hob : o P.length ≤ 30000 := by have := hV.2.2.2.2.1; omega
  have hxb : ox X.length ≤ 30000 := by have := hV.2.2.2.2.2.1; omega
  have hbg : bg ≤ 30000 := by have := hV.2.2.2.2.2.2; omega
  have hnnE : nnE P := fun r hr j _ => ((hI.2.2.2.2.2.2.2.2.1 r hr).2 j).1
  have hKM : ∀ a, (fun a => a ∈ [y, d, be, sg, nu, fi, le, pl, rw, va, out]) a → ∃ e, M a = some e := fun a ha => by
    obtain ⟨q, hq, rfl⟩ := List.mem_map.mp (show a ∈ List.map (fun q : Nat × va_E => q.1) [(y, cMd th dn d P.length be sg nu bg X.length fi le pl lf rt ln rw va ak), (d, aI G 200 dr), (be, aI G 8194 fb), (sg, aI G 40000 fs), (nu, aI G 48200 fn), (fi, aI G 2050 ff), (le, aI G 40000 fl), (pl, aJ G 2048 fp), (rw, aI G 66 fr), (va, aI G 66 fv), (out, aJ G 1 fo)] from ha)
    exact ⟨_, hw.2 q hq⟩
  obtain ⟨dB, pt, xt, rr, ar, pro, xro, xbg, rsg, rnm, rsz, asg, anm, rf, rg, af, τp, τx, hB⟩ := id hR
  have hxx := hB.1.at 0 rfl
  refine lv_aload_n hx hb d_lw_law_280 rfl (lv_at hl 1 rfl) ?_
  refine lv_aload_n hx hb d_lw_law_281 rfl (lv_at hl 0 rfl) ?_
  refine lv_iload hx hb d_lw_law_282 (lv_at hl 4 rfl) ?_
  refine lv_iconst (v := 1) hx hb d_lw_law_284 (by decide) ?_
  refine hn_iadd hx hb (a := 4 * T) (b := 1) d_lw_law_285 ?_
  refine sw_ld E hX hbl hL hH (k := (4 * T) + 1) (by omega) d_lw_law_286 ?_
  refine lv_aload_n hx hb d_lw_law_287 rfl (lv_at hl 0 rfl) ?_
  refine lv_iload hx hb d_lw_law_288 (lv_at hl 4 rfl) ?_
  refine lv_iconst (v := 2) hx hb d_lw_law_290 (by decide) ?_
  refine hn_iadd hx hb (a := 4 * T) (b := 2) d_lw_law_291 ?_
  refine sw_ld E hX hbl hL hH (k := (4 * T) + 2) (by omega) d_lw_law_292 ?_
  have hM1 := c_bk_least l G x dB dn lf rt pt xt rr ar (xs ((4 * T) + 1)) (xs ((4 * T) + 2)) M (hB.1.sub [0] rfl rfl) H.size
  have hG1 : GoodIn w_lw_law (wsV "HyphenBookLaw" 50 R_bk y_bk_least w_bk_least) := gB_V wm_102 wm_103 wm_104 wm_1 wm_105
  refine hm_call (va_runV (y := y_bk_least) (bytes := b_bk_least) (maxL := 3) (ws := w_bk_least) (rm := { frames := 0, cells := 0, slots := 0, locals := 0 }) (own := "HyphenBookLaw") (index := 50) (ret := (Option.some Jvm.ClassFile.FieldType.boolean)) (C := R_bk) (As := [.int (xs ((4 * T) + 1)), .int (xs ((4 * T) + 2))]) (rest := []) E hM1 (cwV (y := y_bk_least) (bytes := b_bk_least) (maxL := 3) (ws := w_bk_least) (rm := { frames := 0, cells := 0, slots := 0, locals := 0 }) (own := "HyphenBookLaw") (index := 50) (ret := (Option.some Jvm.ClassFile.FieldType.boolean)) (C := R_bk) 2 hts hG1 rfl rfl rfl (by decide +kernel) ⟨Nat.le_of_ble_eq_true rfl, Nat.le_of_ble_eq_true rfl⟩) (hm_preV gk_w gk_s hH hg hK hxx rfl [.int (xs ((4 * T) + 1)), .int (xs ((4 * T) + 2))]) rfl rfl hl.1 rfl (lv_room (Nat.le_of_ble_eq_true rfl)) d_lw_law_293 ⟨(by show _ ≤ 601024; omega), (by show _ ≤ 7293034; omega)⟩) hH (fun r1 M1 H1 locs1 hq1 hH1 => ?_)
  replace hH := hH1; clear hH1; generalize H1 = H at hH ⊢; generalize locs1 = locs at hH ⊢
  obtain ⟨bo, lf1, rt1, rfl, hP1, hR, hk1⟩ := lt_bk hB hq1
  have hw := has_keep hw hk1 (fun a ha z => z ha)
  generalize M1 = M at hH hw hR ⊢
  refine lv_aload_n hx hb d_lw_law_296 rfl (lv_at hl 2 rfl) ?_
  refine lv_aload_n hx hb d_lw_law_297 rfl (lv_at hl 0 rfl) ?_
  refine lv_iload hx hb d_lw_law_298 (lv_at hl 4 rfl) ?_
  refine lv_iconst (v := 1) hx hb d_lw_law_300 (by decide) ?_
  refine hn_iadd hx hb (a := 4 * T) (b := 1) d_lw_law_301 ?_
  refine sw_ld E hX hbl hL hH (k := (4 * T) + 1) (by omega) d_lw_law_302 ?_
  refine lv_aload_n hx hb d_lw_law_303 rfl (lv_at hl 0 rfl) ?_
  refine lv_iload hx hb d_lw_law_304 (lv_at hl 4 rfl) ?_
  refine lv_iconst (v := 2) hx hb d_lw_law_306 (by decide) ?_
  refine hn_iadd hx hb (a := 4 * T) (b := 2) d_lw_law_307 ?_
  refine sw_ld E hX hbl hL hH (k := (4 * T) + 2) (by omega) d_lw_law_308 ?_
  have hM1 := c_md_least l G y th dn d P.length be sg nu bg X.length fi le pl lf rt ln rw va ak (xs ((4 * T) + 1)) (xs ((4 * T) + 2)) M (hw.sub [0] rfl rfl) H.size
  have hG1 : GoodIn w_lw_law (wsV "HyphenBookLaw" 54 R_md y_md_least w_md_least) := gB_V wm_471 wm_472 wm_473 wm_5 wm_474
  refine hm_call (va_runV (y := y_md_least) (bytes := b_md_least) (maxL := 3) (ws := w_md_least) (rm := { frames := 0, cells := 0, slots := 0, locals := 0 }) (own := "HyphenBookLaw") (index := 54) (ret := (Option.some Jvm.ClassFile.FieldType.boolean)) (C := R_md) (As := [.int (xs ((4 * T) + 1)), .int (xs ((4 * T) + 2))]) (rest := [.int (bI bo)]) E hM1 (cwV (y := y_md_least) (bytes := b_md_least) (maxL := 3) (ws := w_md_least) (rm := { frames := 0, cells := 0, slots := 0, locals := 0 }) (own := "HyphenBookLaw") (index := 54) (ret := (Option.some Jvm.ClassFile.FieldType.boolean)) (C := R_md) 2 hts hG1 rfl rfl rfl (by decide +kernel) ⟨Nat.le_of_ble_eq_true rfl, Nat.le_of_ble_eq_true rfl⟩) (hm_preV gk_w gk_s hH hg hK (hw.at 0 rfl) rfl [.int (xs ((4 * T) + 1)), .int (xs ((4 * T) + 2))]) rfl rfl hl.1 rfl (lv_room (Nat.le_of_ble_eq_true rfl)) d_lw_law_309 ⟨(by show _ ≤ 601024; omega), (by show _ ≤ 7293034; omega)⟩) hH (fun r1 M1 H1 locs1 hq1 hH1 => ?_)
  replace hH := hH1; clear hH1; generalize H1 = H at hH ⊢; generalize locs1 = locs at hH ⊢
  obtain ⟨bo2, lf2, rt2, rfl, hP2, hw, hk2⟩ := lt_md (T := T) (an := an) (av := av) (o := o) (ox := ox) hw hq1
  obtain ⟨rfl, rfl, rfl⟩ := lsS_un hP2 hP1
  have hR := hR.kept hk2
  generalize M1 = M at hH hw hR ⊢
  refine hr_icmp_eq (x := bI bo) (y := bI bo) hx hb (tgt := 367) d_lw_law_312 (by decide) (fun hc => ?_) (fun hc => ?_)
  · skip
    refine W.widen (k := 23 + 66 * (T + 1)) (n := 141333 + 326 * (T + 1)) (by omega) (by omega) ?_
    exact kk _ _ _ _ hH ⟨dr, dn, lf1, rt1, P, bg, X, ak, an, av, 0, ln, fb, fs, fn, ff, fl, fr, fv, fp, fo, o, ox, hR, hw, ls_hb hP1 hI, hV.same (Nat.le_refl _)⟩ (lv_sub hl [0, 1, 2, 3, 4] rfl)
  · skip
    exact absurd rfl hc

set_option maxHeartbeats 4000000 in
set_option maxRecDepth 100000 in
theorem law_value {p : Program} {l : Launch} {e : Env} {s : State} {m : MethodId} {below : List Frame} {meth : Method} {c : Code} {b L : Nat} {xs : Nat → Int32} {G : hG} {Q : State → Prop} {T x y d be sg nu fi le pl rw va out : Nat} (E : CallFix p m c b_lw_law 8 s #[Value.ref b] w_lw_law "HyphenBookLaw") (hst : l.stackTraces = false) (hgy : gy G s) (hZ : zqs (fun q : Nat => s.heap.size ≤ q) s s.heap) (hX : va_X b L xs s s.heap) (hbl : b < s.heap.size) (hL : L ≤ 2048) (hT : 4 * T + 4 ≤ L) (M : hM) (H : Heap) (locs : List Loc) (ls : Array Slot) (hH : hm_I G.1 vwC (fun q : Nat => s.heap.size ≤ q) s.heap M H locs) (hJ : lwI G T x y d be sg nu fi le pl rw va out M) (hl : lv_has ls 8 [(0, .ref b), (1, .ref x), (2, .ref y), (3, .ref out), (4, .int (nI (4 * T)))]) (kk : ∀ (M : hM) (H : Heap) (locs : List Loc) (ls : Array Slot), hm_I G.1 vwC (fun q : Nat => s.heap.size ≤ q) s.heap M H locs → lwI G (T + 1) x y d be sg nu fi le pl rw va out M → lv_has ls 8 [(0, .ref b), (1, .ref x), (2, .ref y), (3, .ref out), (4, .int (nI (4 * T)))] → W p l e room_1 s m #[Value.ref b] below meth c H locs (23 + 66 * (T + 1)) (141333 + 326 * (T + 1)) Q (F0 m 367 ls [])) : W p l e room_1 s m #[Value.ref b] below meth c H locs (23 + 66 * T) (141333 + 326 * T) Q (F0 m 317 ls []) := by
  have hx := E.1; have hb := E.2.1; have hml := E.2.2.1; have hown := E.2.2.2.1; have hts := E.2.2.2.2; have hgx := hgy.1; have hg := hgx.1; have hK := hg.1
  obtain ⟨dr, dn, lf, rt, P, bg, X, ak, an, av, th, ln, fb, fs, fn, ff, fl, fr, fv, fp, fo, o, ox, hR, hw, hI, hV⟩ := hJ
  have hdn := hI.1; have hby := hI.2.1; have hl1 := hI.2.2.1; have hlf := hI.2.2.2.1; have hr1 := hI.2.2.2.2.1; have hrt := hI.2.2.2.2.2.1
  have hPl : P.length ≤ 600 := by have := hI.2.2.2.2.2.2.1; omega
  have hXl : X.length ≤ 600 := by have := hI.2.2.2.2.2.2.2.1; omega
  have hob : o P.length ≤ 30000 := by have := hV.2.2.2.2.1; omega
  have hxb : ox X.length ≤ 30000 := by have := hV.2.2.2.2.2.1; omega
  have hbg : bg ≤ 30000 := by have := hV.2.2.2.2.2.2; omega
  have hnnE : nnE P := fun r hr j _ => ((hI.2.2.2.2.2.2.2.2.1 r hr).2 j).1
  have hKM : ∀ a, (fun a => a ∈ [y, d, be, sg, nu, fi, le, pl, rw, va, out]) a → ∃ e, M a = some e := fun a ha => by
    obtain ⟨q, hq, rfl⟩ := List.mem_map.mp (show a ∈ List.map (fun q : Nat × va_E => q.1) [(y, cMd th dn d P.length be sg nu bg X.length fi le pl lf rt ln rw va ak), (d, aI G 200 dr), (be, aI G 8194 fb), (sg, aI G 40000 fs), (nu, aI G 48200 fn), (fi, aI G 2050 ff), (le, aI G 40000 fl), (pl, aJ G 2048 fp), (rw, aI G 66 fr), (va, aI G 66 fv), (out, aJ G 1 fo)] from ha)
    exact ⟨_, hw.2 q hq⟩
  obtain ⟨dB, pt, xt, rr, ar, pro, xro, xbg, rsg, rnm, rsz, asg, anm, rf, rg, af, τp, τx, hB⟩ := id hR
  have hxx := hB.1.at 0 rfl
  refine lv_aload_n hx hb d_lw_law_317 rfl (lv_at hl 1 rfl) ?_
  refine lv_aload_n hx hb d_lw_law_318 rfl (lv_at hl 0 rfl) ?_
  refine lv_iload hx hb d_lw_law_319 (lv_at hl 4 rfl) ?_
  refine lv_iconst (v := 1) hx hb d_lw_law_321 (by decide) ?_
  refine hn_iadd hx hb (a := 4 * T) (b := 1) d_lw_law_322 ?_
  refine sw_ld E hX hbl hL hH (k := (4 * T) + 1) (by omega) d_lw_law_323 ?_
  have hM1 := c_bk_value l G x dB dn lf rt pt xt rr ar asg anm (if ak then an + 2 else 0) av (xs ((4 * T) + 1)) M (hB.1.sub [0, 7, 9] rfl rfl) (by split; have := hI.2.2.2.2.2.2.2.2.2.2.2.2 ‹_›; omega; omega) H.size
  have hG1 : GoodIn w_lw_law (wsV "HyphenBookLaw" 55 R_bk y_bk_value w_bk_value) := gB_V wm_106 wm_107 wm_108 wm_1 wm_109
  refine hm_call (va_runV (y := y_bk_value) (bytes := b_bk_value) (maxL := 2) (ws := w_bk_value) (rm := { frames := 2, cells := 0, slots := 0, locals := 42 }) (own := "HyphenBookLaw") (index := 55) (ret := (Option.some Jvm.ClassFile.FieldType.int)) (C := R_bk) (As := [.int (xs ((4 * T) + 1))]) (rest := []) E hM1 (cwV (y := y_bk_value) (bytes := b_bk_value) (maxL := 2) (ws := w_bk_value) (rm := { frames := 2, cells := 0, slots := 0, locals := 42 }) (own := "HyphenBookLaw") (index := 55) (ret := (Option.some Jvm.ClassFile.FieldType.int)) (C := R_bk) 1 hts hG1 rfl rfl rfl (by decide +kernel) ⟨Nat.le_of_ble_eq_true rfl, Nat.le_of_ble_eq_true rfl⟩) (hm_preV gk_w gk_s hH hg hK hxx rfl [.int (xs ((4 * T) + 1))]) rfl rfl hl.1 rfl (lv_room (Nat.le_of_ble_eq_true rfl)) d_lw_law_324 ⟨(by show _ ≤ 601024; omega), (by show _ ≤ 7293034; omega)⟩) hH (fun r1 M1 H1 locs1 hq1 hH1 => ?_)
  replace hH := hH1; clear hH1; generalize H1 = H at hH ⊢; generalize locs1 = locs at hH ⊢
  obtain ⟨rfl, e1⟩ := lv_bk hq1
  rw [e1] at hH
  refine lv_aload_n hx hb d_lw_law_327 rfl (lv_at hl 2 rfl) ?_
  refine lv_aload_n hx hb d_lw_law_328 rfl (lv_at hl 0 rfl) ?_
  refine lv_iload hx hb d_lw_law_329 (lv_at hl 4 rfl) ?_
  refine lv_iconst (v := 1) hx hb d_lw_law_331 (by decide) ?_
  refine hn_iadd hx hb (a := 4 * T) (b := 1) d_lw_law_332 ?_
  refine sw_ld E hX hbl hL hH (k := (4 * T) + 1) (by omega) d_lw_law_333 ?_
  have hM1 := c_md_value l G y th dn d P.length be sg nu bg X.length fi le pl lf rt ln rw va ak fv (xs ((4 * T) + 1)) M (hw.sub [0, 9] rfl rfl) hV.2.2.1 H.size
  have hG1 : GoodIn w_lw_law (wsV "HyphenBookLaw" 59 R_md y_md_value w_md_value) := gB_V wm_475 wm_476 wm_477 wm_5 wm_478
  refine hm_call (va_runV (y := y_md_value) (bytes := b_md_value) (maxL := 2) (ws := w_md_value) (rm := { frames := 0, cells := 0, slots := 0, locals := 0 }) (own := "HyphenBookLaw") (index := 59) (ret := (Option.some Jvm.ClassFile.FieldType.int)) (C := R_md) (As := [.int (xs ((4 * T) + 1))]) (rest := [.int (if ak = true ∧ 1 ≤ (xs (4 * T + 1)).toInt ∧ (xs (4 * T + 1)).toInt < (an : Int) then av ((xs (4 * T + 1)).toInt.toNat + 1) else -1)]) E hM1 (cwV (y := y_md_value) (bytes := b_md_value) (maxL := 2) (ws := w_md_value) (rm := { frames := 0, cells := 0, slots := 0, locals := 0 }) (own := "HyphenBookLaw") (index := 59) (ret := (Option.some Jvm.ClassFile.FieldType.int)) (C := R_md) 1 hts hG1 rfl rfl rfl (by decide +kernel) ⟨Nat.le_of_ble_eq_true rfl, Nat.le_of_ble_eq_true rfl⟩) (hm_preV gk_w gk_s hH hg hK (hw.at 0 rfl) rfl [.int (xs ((4 * T) + 1))]) rfl rfl hl.1 rfl (lv_room (Nat.le_of_ble_eq_true rfl)) d_lw_law_334 ⟨(by show _ ≤ 601024; omega), (by show _ ≤ 7293034; omega)⟩) hH (fun r1 M1 H1 locs1 hq1 hH1 => ?_)
  replace hH := hH1; clear hH1; generalize H1 = H at hH ⊢; generalize locs1 = locs at hH ⊢
  obtain ⟨rfl, hw, hk2⟩ := lv_md hw hV hq1
  have hR := hR.kept hk2
  generalize M1 = M at hH hw hR ⊢
  refine hr_icmp_eq (x := if ak = true ∧ 1 ≤ (xs (4 * T + 1)).toInt ∧ (xs (4 * T + 1)).toInt < (an : Int) then av ((xs (4 * T + 1)).toInt.toNat + 1) else -1) (y := if ak = true ∧ 1 ≤ (xs (4 * T + 1)).toInt ∧ (xs (4 * T + 1)).toInt < (an : Int) then av ((xs (4 * T + 1)).toInt.toNat + 1) else -1) hx hb (tgt := 367) d_lw_law_337 (by decide) (fun hc => ?_) (fun hc => ?_)
  · skip
    refine W.widen (k := 23 + 66 * (T + 1)) (n := 141333 + 326 * (T + 1)) (by omega) (by omega) ?_
    exact kk _ _ _ _ hH ⟨dr, dn, lf, rt, P, bg, X, ak, an, av, 0, ln, fb, fs, fn, ff, fl, fr, fv, fp, fo, o, ox, hR, hw, hI.same (Nat.le_refl _), hV.same (Nat.le_refl _)⟩ (lv_sub hl [0, 1, 2, 3, 4] rfl)
  · skip
    exact absurd rfl hc

set_option maxHeartbeats 4000000 in
set_option maxRecDepth 100000 in
theorem law_count {p : Program} {l : Launch} {e : Env} {s : State} {m : MethodId} {below : List Frame} {meth : Method} {c : Code} {b L : Nat} {xs : Nat → Int32} {G : hG} {Q : State → Prop} {T x y d be sg nu fi le pl rw va out : Nat} (E : CallFix p m c b_lw_law 8 s #[Value.ref b] w_lw_law "HyphenBookLaw") (hst : l.stackTraces = false) (hgy : gy G s) (hZ : zqs (fun q : Nat => s.heap.size ≤ q) s s.heap) (hX : va_X b L xs s s.heap) (hbl : b < s.heap.size) (hL : L ≤ 2048) (hT : 4 * T + 4 ≤ L) (M : hM) (H : Heap) (locs : List Loc) (ls : Array Slot) (hH : hm_I G.1 vwC (fun q : Nat => s.heap.size ≤ q) s.heap M H locs) (hJ : lwI G T x y d be sg nu fi le pl rw va out M) (hl : lv_has ls 8 [(0, .ref b), (1, .ref x), (2, .ref y), (3, .ref out), (4, .int (nI (4 * T)))]) (kk : ∀ (M : hM) (H : Heap) (locs : List Loc) (ls : Array Slot), hm_I G.1 vwC (fun q : Nat => s.heap.size ≤ q) s.heap M H locs → lwI G (T + 1) x y d be sg nu fi le pl rw va out M → lv_has ls 8 [(0, .ref b), (1, .ref x), (2, .ref y), (3, .ref out), (4, .int (nI (4 * T)))] → W p l e room_1 s m #[Value.ref b] below meth c H locs (23 + 66 * (T + 1)) (141333 + 326 * (T + 1)) Q (F0 m 367 ls [])) : W p l e room_1 s m #[Value.ref b] below meth c H locs (23 + 66 * T) (141333 + 326 * T) Q (F0 m 342 ls []) := by
  have hx := E.1; have hb := E.2.1; have hml := E.2.2.1; have hown := E.2.2.2.1; have hts := E.2.2.2.2; have hgx := hgy.1; have hg := hgx.1; have hK := hg.1
  obtain ⟨dr, dn, lf, rt, P, bg, X, ak, an, av, th, ln, fb, fs, fn, ff, fl, fr, fv, fp, fo, o, ox, hR, hw, hI, hV⟩ := hJ
  have hdn := hI.1; have hby := hI.2.1; have hl1 := hI.2.2.1; have hlf := hI.2.2.2.1; have hr1 := hI.2.2.2.2.1; have hrt := hI.2.2.2.2.2.1
  have hPl : P.length ≤ 600 := by have := hI.2.2.2.2.2.2.1; omega
  have hXl : X.length ≤ 600 := by have := hI.2.2.2.2.2.2.2.1; omega
  have hob : o P.length ≤ 30000 := by have := hV.2.2.2.2.1; omega
  have hxb : ox X.length ≤ 30000 := by have := hV.2.2.2.2.2.1; omega
  have hbg : bg ≤ 30000 := by have := hV.2.2.2.2.2.2; omega
  have hnnE : nnE P := fun r hr j _ => ((hI.2.2.2.2.2.2.2.2.1 r hr).2 j).1
  have hKM : ∀ a, (fun a => a ∈ [y, d, be, sg, nu, fi, le, pl, rw, va, out]) a → ∃ e, M a = some e := fun a ha => by
    obtain ⟨q, hq, rfl⟩ := List.mem_map.mp (show a ∈ List.map (fun q : Nat × va_E => q.1) [(y, cMd th dn d P.length be sg nu bg X.length fi le pl lf rt ln rw va ak), (d, aI G 200 dr), (be, aI G 8194 fb), (sg, aI G 40000 fs), (nu, aI G 48200 fn), (fi, aI G 2050 ff), (le, aI G 40000 fl), (pl, aJ G 2048 fp), (rw, aI G 66 fr), (va, aI G 66 fv), (out, aJ G 1 fo)] from ha)
    exact ⟨_, hw.2 q hq⟩
  obtain ⟨dB, pt, xt, rr, ar, pro, xro, xbg, rsg, rnm, rsz, asg, anm, rf, rg, af, τp, τx, hB⟩ := id hR
  have hxx := hB.1.at 0 rfl
  refine lv_aload_n hx hb d_lw_law_342 rfl (lv_at hl 1 rfl) ?_
  refine lv_aload_n hx hb d_lw_law_343 rfl (lv_at hl 0 rfl) ?_
  refine lv_iload hx hb d_lw_law_344 (lv_at hl 4 rfl) ?_
  refine lv_iconst (v := 1) hx hb d_lw_law_346 (by decide) ?_
  refine hn_iadd hx hb (a := 4 * T) (b := 1) d_lw_law_347 ?_
  refine sw_ld E hX hbl hL hH (k := (4 * T) + 1) (by omega) d_lw_law_348 ?_
  have hM1 := c_bk_count l G x dB dn lf rt pt xt rr ar pro P.length bg xro X.length xbg (xs ((4 * T) + 1)) M (hB.1.sub [0, 2, 3] rfl rfl) H.size
  have hG1 : GoodIn w_lw_law (wsV "HyphenBookLaw" 60 R_bk y_bk_count w_bk_count) := gB_V wm_128 wm_129 wm_130 wm_1 wm_131
  refine hm_call (va_runV (y := y_bk_count) (bytes := b_bk_count) (maxL := 2) (ws := w_bk_count) (rm := { frames := 1, cells := 0, slots := 0, locals := 20 }) (own := "HyphenBookLaw") (index := 60) (ret := (Option.some Jvm.ClassFile.FieldType.int)) (C := R_bk) (As := [.int (xs ((4 * T) + 1))]) (rest := []) E hM1 (cwV (y := y_bk_count) (bytes := b_bk_count) (maxL := 2) (ws := w_bk_count) (rm := { frames := 1, cells := 0, slots := 0, locals := 20 }) (own := "HyphenBookLaw") (index := 60) (ret := (Option.some Jvm.ClassFile.FieldType.int)) (C := R_bk) 1 hts hG1 rfl rfl rfl (by decide +kernel) ⟨Nat.le_of_ble_eq_true rfl, Nat.le_of_ble_eq_true rfl⟩) (hm_preV gk_w gk_s hH hg hK hxx rfl [.int (xs ((4 * T) + 1))]) rfl rfl hl.1 rfl (lv_room (Nat.le_of_ble_eq_true rfl)) d_lw_law_349 ⟨(by show _ ≤ 601024; omega), (by show _ ≤ 7293034; omega)⟩) hH (fun r1 M1 H1 locs1 hq1 hH1 => ?_)
  replace hH := hH1; clear hH1; generalize H1 = H at hH ⊢; generalize locs1 = locs at hH ⊢
  obtain ⟨rfl, e1⟩ := hq1
  rw [e1] at hH
  refine lv_aload_n hx hb d_lw_law_352 rfl (lv_at hl 2 rfl) ?_
  refine lv_aload_n hx hb d_lw_law_353 rfl (lv_at hl 0 rfl) ?_
  refine lv_iload hx hb d_lw_law_354 (lv_at hl 4 rfl) ?_
  refine lv_iconst (v := 1) hx hb d_lw_law_356 (by decide) ?_
  refine hn_iadd hx hb (a := 4 * T) (b := 1) d_lw_law_357 ?_
  refine sw_ld E hX hbl hL hH (k := (4 * T) + 1) (by omega) d_lw_law_358 ?_
  have hM1 := c_md_count l G y th dn d P.length be sg nu bg X.length fi le pl lf rt ln rw va ak (xs ((4 * T) + 1)) M (hw.sub [0] rfl rfl) H.size
  have hG1 : GoodIn w_lw_law (wsV "HyphenBookLaw" 63 R_md y_md_count w_md_count) := gB_V wm_479 wm_480 wm_481 wm_5 wm_482
  refine hm_call (va_runV (y := y_md_count) (bytes := b_md_count) (maxL := 2) (ws := w_md_count) (rm := { frames := 0, cells := 0, slots := 0, locals := 0 }) (own := "HyphenBookLaw") (index := 63) (ret := (Option.some Jvm.ClassFile.FieldType.int)) (C := R_md) (As := [.int (xs ((4 * T) + 1))]) (rest := [.int (if xs (4 * T + 1) = 0 then nI P.length else if xs (4 * T + 1) = 1 then nI X.length else if xs (4 * T + 1) = 2 then nI bg else if xs (4 * T + 1) = 3 then nI dn else -1)]) E hM1 (cwV (y := y_md_count) (bytes := b_md_count) (maxL := 2) (ws := w_md_count) (rm := { frames := 0, cells := 0, slots := 0, locals := 0 }) (own := "HyphenBookLaw") (index := 63) (ret := (Option.some Jvm.ClassFile.FieldType.int)) (C := R_md) 1 hts hG1 rfl rfl rfl (by decide +kernel) ⟨Nat.le_of_ble_eq_true rfl, Nat.le_of_ble_eq_true rfl⟩) (hm_preV gk_w gk_s hH hg hK (hw.at 0 rfl) rfl [.int (xs ((4 * T) + 1))]) rfl rfl hl.1 rfl (lv_room (Nat.le_of_ble_eq_true rfl)) d_lw_law_359 ⟨(by show _ ≤ 601024; omega), (by show _ ≤ 7293034; omega)⟩) hH (fun r1 M1 H1 locs1 hq1 hH1 => ?_)
  replace hH := hH1; clear hH1; generalize H1 = H at hH ⊢; generalize locs1 = locs at hH ⊢
  obtain ⟨rfl, hw, hk2⟩ := lc_md (T := T) (an := an) (av := av) (o := o) (ox := ox) hw hq1
  have hR := hR.kept hk2
  generalize M1 = M at hH hw hR ⊢
  refine hr_icmp_eq (x := if xs (4 * T + 1) = 0 then nI P.length else if xs (4 * T + 1) = 1 then nI X.length else if xs (4 * T + 1) = 2 then nI bg else if xs (4 * T + 1) = 3 then nI dn else -1) (y := if xs (4 * T + 1) = 0 then nI P.length else if xs (4 * T + 1) = 1 then nI X.length else if xs (4 * T + 1) = 2 then nI bg else if xs (4 * T + 1) = 3 then nI dn else -1) hx hb (tgt := 367) d_lw_law_362 (by decide) (fun hc => ?_) (fun hc => ?_)
  · skip
    refine W.widen (k := 23 + 66 * (T + 1)) (n := 141333 + 326 * (T + 1)) (by omega) (by omega) ?_
    exact kk _ _ _ _ hH ⟨dr, dn, lf, rt, P, bg, X, ak, an, av, 0, ln, fb, fs, fn, ff, fl, fr, fv, fp, fo, o, ox, hR, hw, hI.same (Nat.le_refl _), hV.same (Nat.le_refl _)⟩ (lv_sub hl [0, 1, 2, 3, 4] rfl)
  · skip
    exact absurd rfl hc

set_option maxHeartbeats 4000000 in
set_option maxRecDepth 100000 in
theorem law_pattern {p : Program} {l : Launch} {e : Env} {s : State} {m : MethodId} {below : List Frame} {meth : Method} {c : Code} {b L : Nat} {xs : Nat → Int32} {G : hG} {Q : State → Prop} {T x y d be sg nu fi le pl rw va out : Nat} (E : CallFix p m c b_lw_law 8 s #[Value.ref b] w_lw_law "HyphenBookLaw") (hst : l.stackTraces = false) (hgy : gy G s) (hZ : zqs (fun q : Nat => s.heap.size ≤ q) s s.heap) (hX : va_X b L xs s s.heap) (hbl : b < s.heap.size) (hL : L ≤ 2048) (hT : 4 * T + 4 ≤ L) (M : hM) (H : Heap) (locs : List Loc) (ls : Array Slot) (hH : hm_I G.1 vwC (fun q : Nat => s.heap.size ≤ q) s.heap M H locs) (hJ : lwI G T x y d be sg nu fi le pl rw va out M) (hl : lv_has ls 8 [(0, .ref b), (1, .ref x), (2, .ref y), (3, .ref out), (4, .int (nI (4 * T)))]) (kk : ∀ (M : hM) (H : Heap) (locs : List Loc) (ls : Array Slot), hm_I G.1 vwC (fun q : Nat => s.heap.size ≤ q) s.heap M H locs → lwI G (T + 1) x y d be sg nu fi le pl rw va out M → lv_has ls 8 [(0, .ref b), (1, .ref x), (2, .ref y), (3, .ref out), (4, .int (nI (4 * T)))] → W p l e room_1 s m #[Value.ref b] below meth c H locs (23 + 66 * (T + 1)) (141333 + 326 * (T + 1)) Q (F0 m 367 ls [])) : W p l e room_1 s m #[Value.ref b] below meth c H locs (23 + 66 * T) (141333 + 326 * T) Q (F0 m 149 ls []) := by
  have hx := E.1; have hb := E.2.1; have hml := E.2.2.1; have hown := E.2.2.2.1; have hts := E.2.2.2.2; have hgx := hgy.1; have hg := hgx.1; have hK := hg.1
  obtain ⟨dr, dn, lf, rt, P, bg, X, ak, an, av, th, ln, fb, fs, fn, ff, fl, fr, fv, fp, fo, o, ox, hR, hw, hI, hV⟩ := hJ
  have hdn := hI.1; have hby := hI.2.1; have hl1 := hI.2.2.1; have hlf := hI.2.2.2.1; have hr1 := hI.2.2.2.2.1; have hrt := hI.2.2.2.2.2.1
  have hPl : P.length ≤ 600 := by have := hI.2.2.2.2.2.2.1; omega
  have hXl : X.length ≤ 600 := by have := hI.2.2.2.2.2.2.2.1; omega
  have hob : o P.length ≤ 30000 := by have := hV.2.2.2.2.1; omega
  have hxb : ox X.length ≤ 30000 := by have := hV.2.2.2.2.2.1; omega
  have hbg : bg ≤ 30000 := by have := hV.2.2.2.2.2.2; omega
  have hnnE : nnE P := fun r hr j _ => ((hI.2.2.2.2.2.2.2.2.1 r hr).2 j).1
  have hKM : ∀ a, (fun a => a ∈ [y, d, be, sg, nu, fi, le, pl, rw, va, out]) a → ∃ e, M a = some e := fun a ha => by
    obtain ⟨q, hq, rfl⟩ := List.mem_map.mp (show a ∈ List.map (fun q : Nat × va_E => q.1) [(y, cMd th dn d P.length be sg nu bg X.length fi le pl lf rt ln rw va ak), (d, aI G 200 dr), (be, aI G 8194 fb), (sg, aI G 40000 fs), (nu, aI G 48200 fn), (fi, aI G 2050 ff), (le, aI G 40000 fl), (pl, aJ G 2048 fp), (rw, aI G 66 fr), (va, aI G 66 fv), (out, aJ G 1 fo)] from ha)
    exact ⟨_, hw.2 q hq⟩
  refine lv_aload_n hx hb d_lw_law_149 rfl (lv_at hl 1 rfl) ?_
  refine lv_aload_n hx hb d_lw_law_150 rfl (lv_at hl 3 rfl) ?_
  have hM1 := c_lw_pattern l hst G x (fun a => a ∈ [y, d, be, sg, nu, fi, le, pl, rw, va, out]) dr dn lf rt P bg X ak an av out fo M hR hKM hdn hPl hbg hXl (hw.at 10 rfl) (by simp) H.size
  have hG1 : GoodIn w_lw_law (va_wsS "HyphenBookLaw" 35 y_lw_pattern w_lw_pattern) := gB_VS wm_140 wm_141 wm_0 wm_142
  refine hm_call (vx_runSW (y := y_lw_pattern) (bytes := b_lw_pattern) (maxL := 3) (ws := w_lw_pattern) (rm := { frames := 7, cells := 66, slots := 326, locals := 108 }) (own := "HyphenBookLaw") (index := 35) (ret := (Option.some Jvm.ClassFile.FieldType.int)) (hh := [((0 : Nat), (8 : Nat), (11 : Nat), (13 : Nat)), ((0 : Nat), (8 : Nat), (14 : Nat), (15 : Nat))]) (As := [.ref x, .ref out]) (rest := []) E hM1 (vx_cwSW (y := y_lw_pattern) (bytes := b_lw_pattern) (maxL := 3) (ws := w_lw_pattern) (rm := { frames := 7, cells := 66, slots := 326, locals := 108 }) (own := "HyphenBookLaw") (index := 35) (ret := (Option.some Jvm.ClassFile.FieldType.int)) (hh := [((0 : Nat), (8 : Nat), (11 : Nat), (13 : Nat)), ((0 : Nat), (8 : Nat), (14 : Nat), (15 : Nat))]) 2 hts hG1 rfl rfl rfl (by decide +kernel) ⟨Nat.le_of_ble_eq_true rfl, Nat.le_of_ble_eq_true rfl⟩) (hm_preY hH hgy hZ [.ref x, .ref out]) rfl rfl hl.1 rfl (lv_room (Nat.le_of_ble_eq_true rfl)) d_lw_law_151 ⟨(by show _ ≤ 601024; omega), (by show _ ≤ 7293034; omega)⟩) hH (fun r1 M1 H1 locs1 hq1 hH1 => ?_)
  replace hH := hH1; clear hH1; generalize H1 = H at hH ⊢; generalize locs1 = locs at hH ⊢
  obtain ⟨tc, fo1, P1, bg1, rfl, htc, hS, hR, hw⟩ := lq_bk (T := T) (o := o) (ox := ox) hw hq1
  generalize M1 = M at hH hw hR ⊢
  refine lv_istore (lv' := [(5, .int (nI tc)), (0, .ref b), (1, .ref x), (2, .ref y), (3, .ref out), (4, .int (nI (4 * T)))]) hx hb d_lw_law_154 hl (by decide) rfl (fun ls hl => ?_)
  refine lv_aload_n hx hb d_lw_law_156 rfl (lv_at hl 3 rfl) ?_
  have hM1 := c_md_pattern l G y th dn d P.length be sg nu bg X.length fi le pl lf rt ln rw va ak dr fb fs fn o M (hw.sub [0, 1, 2, 3, 4] rfl rfl) hdn hby hV.1.2.1 (fun p hp => hV.1.mo hp) hV.1.le hob hPl hbg H.size
  have hG1 : GoodIn w_lw_law (wsV "HyphenBookLaw" 40 R_md y_md_pattern w_md_pattern) := gB_V wm_432 wm_433 wm_434 wm_5 wm_435
  refine hm_call (va_runV (y := y_md_pattern) (bytes := b_md_pattern) (maxL := 6) (ws := w_md_pattern) (rm := { frames := 2, cells := 0, slots := 0, locals := 46 }) (own := "HyphenBookLaw") (index := 40) (ret := (Option.some Jvm.ClassFile.FieldType.int)) (C := R_md) (As := []) (rest := []) E hM1 (cwV (y := y_md_pattern) (bytes := b_md_pattern) (maxL := 6) (ws := w_md_pattern) (rm := { frames := 2, cells := 0, slots := 0, locals := 46 }) (own := "HyphenBookLaw") (index := 40) (ret := (Option.some Jvm.ClassFile.FieldType.int)) (C := R_md) 0 hts hG1 rfl rfl rfl (by decide +kernel) ⟨Nat.le_of_ble_eq_true rfl, Nat.le_of_ble_eq_true rfl⟩) (hm_preV gk_w gk_s hH hg hK (hw.at 0 rfl) rfl []) rfl rfl hl.1 rfl (lv_room (Nat.le_of_ble_eq_true rfl)) d_lw_law_157 ⟨(by show _ ≤ 601024; omega), (by show _ ≤ 7293034; omega)⟩) hH (fun r1 M1 H1 locs1 hq1 hH1 => ?_)
  replace hH := hH1; clear hH1; generalize H1 = H at hH ⊢; generalize locs1 = locs at hH ⊢
  obtain ⟨rn, fb1, fs1, fn1, o1, rfl, hrn, hw, hk2, hI9, hV9⟩ := lq_md hI hV hw hS hq1
  have hR := hR.kept hk2
  generalize M1 = M at hH hw hR ⊢
  refine lv_istore (lv' := [(6, .int (nI rn)), (5, .int (nI tc)), (0, .ref b), (1, .ref x), (2, .ref y), (3, .ref out), (4, .int (nI (4 * T)))]) hx hb d_lw_law_160 hl (by decide) rfl (fun ls hl => ?_)
  refine lv_aload_n hx hb d_lw_law_162 rfl (lv_at hl 4 rfl) ?_
  have hM1 := c_md_thrown l G y tc 0 d P1.length be sg nu bg1 X.length fi le pl lf rt ln rw va ak M (hw.sub [0] rfl rfl) H.size
  have hG1 : GoodIn w_lw_law (wsV "HyphenBookLaw" 41 R_md y_md_thrown w_md_thrown) := gB_V wm_423 wm_424 wm_425 wm_5 wm_426
  refine hm_call (va_runV (y := y_md_thrown) (bytes := b_md_thrown) (maxL := 1) (ws := w_md_thrown) (rm := { frames := 0, cells := 0, slots := 0, locals := 0 }) (own := "HyphenBookLaw") (index := 41) (ret := (Option.some Jvm.ClassFile.FieldType.int)) (C := R_md) (As := []) (rest := []) E hM1 (cwV (y := y_md_thrown) (bytes := b_md_thrown) (maxL := 1) (ws := w_md_thrown) (rm := { frames := 0, cells := 0, slots := 0, locals := 0 }) (own := "HyphenBookLaw") (index := 41) (ret := (Option.some Jvm.ClassFile.FieldType.int)) (C := R_md) 0 hts hG1 rfl rfl rfl (by decide +kernel) ⟨Nat.le_of_ble_eq_true rfl, Nat.le_of_ble_eq_true rfl⟩) (hm_preV gk_w gk_s hH hg hK (hw.at 0 rfl) rfl []) rfl rfl hl.1 rfl (lv_room (Nat.le_of_ble_eq_true rfl)) d_lw_law_163 ⟨(by show _ ≤ 601024; omega), (by show _ ≤ 7293034; omega)⟩) hH (fun r1 M1 H1 locs1 hq1 hH1 => ?_)
  obtain ⟨rfl, e1⟩ := hq1
  replace hH := hH1; rw [e1] at hH; clear hH1 e1; generalize H1 = H at hH ⊢; generalize locs1 = locs at hH ⊢
  refine lv_iload hx hb d_lw_law_166 (lv_at hl 1 rfl) ?_
  refine hn_icmp_eq (a := tc) (b := tc) hx hb (by omega) (by omega) (tgt := 173) d_lw_law_168 (by decide) (fun hc => ?_) (fun hc => ?_)
  · skip
    refine lv_iload hx hb d_lw_law_173 (lv_at hl 1 rfl) ?_
    refine hn_if_ne (a := tc) hx hb (by omega) (tgt := 190) d_lw_law_175 (by decide) (fun h0 => ?_) (fun h0 => ?_)
    · skip
      refine lv_goto (tgt := 367) hx hb d_lw_law_190 (by decide) ?_
      refine W.widen (k := 23 + 66 * (T + 1)) (n := 141333 + 326 * (T + 1)) (by omega) (by omega) ?_
      exact kk _ _ _ _ hH ⟨dr, 0, lf, rt, P1, bg1, X, ak, an, av, tc, ln, fb1, fs1, fn1, ff, fl, fr, fv, fp, fo1, o1, ox, hR, hw, hI9, hV9⟩ (lv_sub hl [2, 3, 4, 5, 6] rfl)
    · skip
      refine lv_aload_n hx hb d_lw_law_178 rfl (lv_at hl 5 rfl) ?_
      refine lv_iconst (v := 0) hx hb d_lw_law_179 (by decide) ?_
      refine hm_lald E hK hH 1 (hw.at 10 rfl) rfl (i := 0) (by omega) (by decide) d_lw_law_180 ?_
      refine lv_iload hx hb d_lw_law_181 (lv_at hl 0 rfl) ?_
      refine lv_i2l hx hb d_lw_law_183 rfl ?_
      refine hm_lcmp (x := fo1 0) (y := (nI rn).toInt64) hx hb d_lw_law_184 (fun z9 hz9 => ?_)
      refine hc_if_eq (x := z9) hx hb (tgt := 190) d_lw_law_185 (by decide) (fun hc => ?_) (fun hc => ?_)
      · skip
        refine lv_goto (tgt := 367) hx hb d_lw_law_190 (by decide) ?_
        refine W.widen (k := 23 + 66 * (T + 1)) (n := 141333 + 326 * (T + 1)) (by omega) (by omega) ?_
        exact kk _ _ _ _ hH ⟨dr, 0, lf, rt, P1, bg1, X, ak, an, av, tc, ln, fb1, fs1, fn1, ff, fl, fr, fv, fp, fo1, o1, ox, hR, hw, hI9, hV9⟩ (lv_sub hl [2, 3, 4, 5, 6] rfl)
      · skip
        exact absurd (hz9.mpr (hrn h0)) hc
  · skip
    exact absurd rfl hc

set_option maxHeartbeats 4000000 in
set_option maxRecDepth 100000 in
theorem law_exception {p : Program} {l : Launch} {e : Env} {s : State} {m : MethodId} {below : List Frame} {meth : Method} {c : Code} {b L : Nat} {xs : Nat → Int32} {G : hG} {Q : State → Prop} {T x y d be sg nu fi le pl rw va out : Nat} (E : CallFix p m c b_lw_law 8 s #[Value.ref b] w_lw_law "HyphenBookLaw") (hst : l.stackTraces = false) (hgy : gy G s) (hZ : zqs (fun q : Nat => s.heap.size ≤ q) s s.heap) (hX : va_X b L xs s s.heap) (hbl : b < s.heap.size) (hL : L ≤ 2048) (hT : 4 * T + 4 ≤ L) (M : hM) (H : Heap) (locs : List Loc) (ls : Array Slot) (hH : hm_I G.1 vwC (fun q : Nat => s.heap.size ≤ q) s.heap M H locs) (hJ : lwI G T x y d be sg nu fi le pl rw va out M) (hl : lv_has ls 8 [(0, .ref b), (1, .ref x), (2, .ref y), (3, .ref out), (4, .int (nI (4 * T)))]) (kk : ∀ (M : hM) (H : Heap) (locs : List Loc) (ls : Array Slot), hm_I G.1 vwC (fun q : Nat => s.heap.size ≤ q) s.heap M H locs → lwI G (T + 1) x y d be sg nu fi le pl rw va out M → lv_has ls 8 [(0, .ref b), (1, .ref x), (2, .ref y), (3, .ref out), (4, .int (nI (4 * T)))] → W p l e room_1 s m #[Value.ref b] below meth c H locs (23 + 66 * (T + 1)) (141333 + 326 * (T + 1)) Q (F0 m 367 ls [])) : W p l e room_1 s m #[Value.ref b] below meth c H locs (23 + 66 * T) (141333 + 326 * T) Q (F0 m 193 ls []) := by
  have hx := E.1; have hb := E.2.1; have hml := E.2.2.1; have hown := E.2.2.2.1; have hts := E.2.2.2.2; have hgx := hgy.1; have hg := hgx.1; have hK := hg.1
  obtain ⟨dr, dn, lf, rt, P, bg, X, ak, an, av, th, ln, fb, fs, fn, ff, fl, fr, fv, fp, fo, o, ox, hR, hw, hI, hV⟩ := hJ
  have hdn := hI.1; have hby := hI.2.1; have hl1 := hI.2.2.1; have hlf := hI.2.2.2.1; have hr1 := hI.2.2.2.2.1; have hrt := hI.2.2.2.2.2.1
  have hPl : P.length ≤ 600 := by have := hI.2.2.2.2.2.2.1; omega
  have hXl : X.length ≤ 600 := by have := hI.2.2.2.2.2.2.2.1; omega
  have hob : o P.length ≤ 30000 := by have := hV.2.2.2.2.1; omega
  have hxb : ox X.length ≤ 30000 := by have := hV.2.2.2.2.2.1; omega
  have hbg : bg ≤ 30000 := by have := hV.2.2.2.2.2.2; omega
  have hnnE : nnE P := fun r hr j _ => ((hI.2.2.2.2.2.2.2.2.1 r hr).2 j).1
  have hKM : ∀ a, (fun a => a ∈ [y, d, be, sg, nu, fi, le, pl, rw, va, out]) a → ∃ e, M a = some e := fun a ha => by
    obtain ⟨q, hq, rfl⟩ := List.mem_map.mp (show a ∈ List.map (fun q : Nat × va_E => q.1) [(y, cMd th dn d P.length be sg nu bg X.length fi le pl lf rt ln rw va ak), (d, aI G 200 dr), (be, aI G 8194 fb), (sg, aI G 40000 fs), (nu, aI G 48200 fn), (fi, aI G 2050 ff), (le, aI G 40000 fl), (pl, aJ G 2048 fp), (rw, aI G 66 fr), (va, aI G 66 fv), (out, aJ G 1 fo)] from ha)
    exact ⟨_, hw.2 q hq⟩
  refine lv_aload_n hx hb d_lw_law_193 rfl (lv_at hl 1 rfl) ?_
  refine lv_aload_n hx hb d_lw_law_194 rfl (lv_at hl 3 rfl) ?_
  have hM1 := c_lw_exception l hst G x (fun a => a ∈ [y, d, be, sg, nu, fi, le, pl, rw, va, out]) dr dn lf rt P bg X ak an av out fo M hR hKM hdn hPl hbg hXl (hw.at 10 rfl) (by simp) H.size
  have hG1 : GoodIn w_lw_law (va_wsS "HyphenBookLaw" 44 y_lw_exception w_lw_exception) := gB_VS wm_308 wm_309 wm_0 wm_310
  refine hm_call (vx_runSW (y := y_lw_exception) (bytes := b_lw_exception) (maxL := 3) (ws := w_lw_exception) (rm := { frames := 7, cells := 66, slots := 326, locals := 103 }) (own := "HyphenBookLaw") (index := 44) (ret := (Option.some Jvm.ClassFile.FieldType.int)) (hh := [((0 : Nat), (8 : Nat), (11 : Nat), (13 : Nat)), ((0 : Nat), (8 : Nat), (14 : Nat), (15 : Nat))]) (As := [.ref x, .ref out]) (rest := []) E hM1 (vx_cwSW (y := y_lw_exception) (bytes := b_lw_exception) (maxL := 3) (ws := w_lw_exception) (rm := { frames := 7, cells := 66, slots := 326, locals := 103 }) (own := "HyphenBookLaw") (index := 44) (ret := (Option.some Jvm.ClassFile.FieldType.int)) (hh := [((0 : Nat), (8 : Nat), (11 : Nat), (13 : Nat)), ((0 : Nat), (8 : Nat), (14 : Nat), (15 : Nat))]) 2 hts hG1 rfl rfl rfl (by decide +kernel) ⟨Nat.le_of_ble_eq_true rfl, Nat.le_of_ble_eq_true rfl⟩) (hm_preY hH hgy hZ [.ref x, .ref out]) rfl rfl hl.1 rfl (lv_room (Nat.le_of_ble_eq_true rfl)) d_lw_law_195 ⟨(by show _ ≤ 601024; omega), (by show _ ≤ 7293034; omega)⟩) hH (fun r1 M1 H1 locs1 hq1 hH1 => ?_)
  replace hH := hH1; clear hH1; generalize H1 = H at hH ⊢; generalize locs1 = locs at hH ⊢
  obtain ⟨tc, fo1, X1, rfl, htc, hS, hR, hw⟩ := lx_bk (T := T) (o := o) (ox := ox) hw hq1
  generalize M1 = M at hH hw hR ⊢
  refine lv_istore (lv' := [(5, .int (nI tc)), (0, .ref b), (1, .ref x), (2, .ref y), (3, .ref out), (4, .int (nI (4 * T)))]) hx hb d_lw_law_198 hl (by decide) rfl (fun ls hl => ?_)
  refine lv_aload_n hx hb d_lw_law_200 rfl (lv_at hl 3 rfl) ?_
  have hM1 := c_md_exception l G y th dn d P.length be sg nu bg X.length fi le pl lf rt ln rw va ak dr ff fl fp ox M (hw.sub [0, 1, 5, 6, 7] rfl rfl) hdn hby hV.2.1.2.1 (fun p hp => hV.2.1.mo hp) hV.2.1.le hxb hXl H.size
  have hG1 : GoodIn w_lw_law (wsV "HyphenBookLaw" 46 R_md y_md_exception w_md_exception) := gB_V wm_455 wm_456 wm_457 wm_5 wm_458
  refine hm_call (va_runV (y := y_md_exception) (bytes := b_md_exception) (maxL := 6) (ws := w_md_exception) (rm := { frames := 1, cells := 0, slots := 0, locals := 24 }) (own := "HyphenBookLaw") (index := 46) (ret := (Option.some Jvm.ClassFile.FieldType.int)) (C := R_md) (As := []) (rest := []) E hM1 (cwV (y := y_md_exception) (bytes := b_md_exception) (maxL := 6) (ws := w_md_exception) (rm := { frames := 1, cells := 0, slots := 0, locals := 24 }) (own := "HyphenBookLaw") (index := 46) (ret := (Option.some Jvm.ClassFile.FieldType.int)) (C := R_md) 0 hts hG1 rfl rfl rfl (by decide +kernel) ⟨Nat.le_of_ble_eq_true rfl, Nat.le_of_ble_eq_true rfl⟩) (hm_preV gk_w gk_s hH hg hK (hw.at 0 rfl) rfl []) rfl rfl hl.1 rfl (lv_room (Nat.le_of_ble_eq_true rfl)) d_lw_law_201 ⟨(by show _ ≤ 601024; omega), (by show _ ≤ 7293034; omega)⟩) hH (fun r1 M1 H1 locs1 hq1 hH1 => ?_)
  replace hH := hH1; clear hH1; generalize H1 = H at hH ⊢; generalize locs1 = locs at hH ⊢
  obtain ⟨rn, ff1, fl1, fp1, o1, rfl, hrn, hw, hk2, hI9, hV9⟩ := lx_md hI hV hw hS hq1
  have hR := hR.kept hk2
  generalize M1 = M at hH hw hR ⊢
  refine lv_istore (lv' := [(6, .int (nI rn)), (5, .int (nI tc)), (0, .ref b), (1, .ref x), (2, .ref y), (3, .ref out), (4, .int (nI (4 * T)))]) hx hb d_lw_law_204 hl (by decide) rfl (fun ls hl => ?_)
  refine lv_aload_n hx hb d_lw_law_206 rfl (lv_at hl 4 rfl) ?_
  have hM1 := c_md_thrown l G y tc 0 d P.length be sg nu bg X1.length fi le pl lf rt ln rw va ak M (hw.sub [0] rfl rfl) H.size
  have hG1 : GoodIn w_lw_law (wsV "HyphenBookLaw" 41 R_md y_md_thrown w_md_thrown) := gB_V wm_423 wm_424 wm_425 wm_5 wm_426
  refine hm_call (va_runV (y := y_md_thrown) (bytes := b_md_thrown) (maxL := 1) (ws := w_md_thrown) (rm := { frames := 0, cells := 0, slots := 0, locals := 0 }) (own := "HyphenBookLaw") (index := 41) (ret := (Option.some Jvm.ClassFile.FieldType.int)) (C := R_md) (As := []) (rest := []) E hM1 (cwV (y := y_md_thrown) (bytes := b_md_thrown) (maxL := 1) (ws := w_md_thrown) (rm := { frames := 0, cells := 0, slots := 0, locals := 0 }) (own := "HyphenBookLaw") (index := 41) (ret := (Option.some Jvm.ClassFile.FieldType.int)) (C := R_md) 0 hts hG1 rfl rfl rfl (by decide +kernel) ⟨Nat.le_of_ble_eq_true rfl, Nat.le_of_ble_eq_true rfl⟩) (hm_preV gk_w gk_s hH hg hK (hw.at 0 rfl) rfl []) rfl rfl hl.1 rfl (lv_room (Nat.le_of_ble_eq_true rfl)) d_lw_law_207 ⟨(by show _ ≤ 601024; omega), (by show _ ≤ 7293034; omega)⟩) hH (fun r1 M1 H1 locs1 hq1 hH1 => ?_)
  obtain ⟨rfl, e1⟩ := hq1
  replace hH := hH1; rw [e1] at hH; clear hH1 e1; generalize H1 = H at hH ⊢; generalize locs1 = locs at hH ⊢
  refine lv_iload hx hb d_lw_law_210 (lv_at hl 1 rfl) ?_
  refine hn_icmp_eq (a := tc) (b := tc) hx hb (by omega) (by omega) (tgt := 217) d_lw_law_212 (by decide) (fun hc => ?_) (fun hc => ?_)
  · skip
    refine lv_iload hx hb d_lw_law_217 (lv_at hl 1 rfl) ?_
    refine hn_if_ne (a := tc) hx hb (by omega) (tgt := 234) d_lw_law_219 (by decide) (fun h0 => ?_) (fun h0 => ?_)
    · skip
      refine lv_goto (tgt := 367) hx hb d_lw_law_234 (by decide) ?_
      refine W.widen (k := 23 + 66 * (T + 1)) (n := 141333 + 326 * (T + 1)) (by omega) (by omega) ?_
      exact kk _ _ _ _ hH ⟨dr, 0, lf, rt, P, bg, X1, ak, an, av, tc, ln, fb, fs, fn, ff1, fl1, fr, fv, fp1, fo1, o, o1, hR, hw, hI9, hV9⟩ (lv_sub hl [2, 3, 4, 5, 6] rfl)
    · skip
      refine lv_aload_n hx hb d_lw_law_222 rfl (lv_at hl 5 rfl) ?_
      refine lv_iconst (v := 0) hx hb d_lw_law_223 (by decide) ?_
      refine hm_lald E hK hH 1 (hw.at 10 rfl) rfl (i := 0) (by omega) (by decide) d_lw_law_224 ?_
      refine lv_iload hx hb d_lw_law_225 (lv_at hl 0 rfl) ?_
      refine lv_i2l hx hb d_lw_law_227 rfl ?_
      refine hm_lcmp (x := fo1 0) (y := (nI rn).toInt64) hx hb d_lw_law_228 (fun z9 hz9 => ?_)
      refine hc_if_eq (x := z9) hx hb (tgt := 234) d_lw_law_229 (by decide) (fun hc => ?_) (fun hc => ?_)
      · skip
        refine lv_goto (tgt := 367) hx hb d_lw_law_234 (by decide) ?_
        refine W.widen (k := 23 + 66 * (T + 1)) (n := 141333 + 326 * (T + 1)) (by omega) (by omega) ?_
        exact kk _ _ _ _ hH ⟨dr, 0, lf, rt, P, bg, X1, ak, an, av, tc, ln, fb, fs, fn, ff1, fl1, fr, fv, fp1, fo1, o, o1, hR, hw, hI9, hV9⟩ (lv_sub hl [2, 3, 4, 5, 6] rfl)
      · skip
        exact absurd (hz9.mpr (hrn h0)) hc
  · skip
    exact absurd rfl hc

set_option maxHeartbeats 4000000 in
set_option maxRecDepth 100000 in
theorem law_word {p : Program} {l : Launch} {e : Env} {s : State} {m : MethodId} {below : List Frame} {meth : Method} {c : Code} {b L : Nat} {xs : Nat → Int32} {G : hG} {Q : State → Prop} {T x y d be sg nu fi le pl rw va out : Nat} (E : CallFix p m c b_lw_law 8 s #[Value.ref b] w_lw_law "HyphenBookLaw") (hst : l.stackTraces = false) (hgy : gy G s) (hZ : zqs (fun q : Nat => s.heap.size ≤ q) s s.heap) (hX : va_X b L xs s s.heap) (hbl : b < s.heap.size) (hL : L ≤ 2048) (hT : 4 * T + 4 ≤ L) (M : hM) (H : Heap) (locs : List Loc) (ls : Array Slot) (hH : hm_I G.1 vwC (fun q : Nat => s.heap.size ≤ q) s.heap M H locs) (hJ : lwI G T x y d be sg nu fi le pl rw va out M) (hl : lv_has ls 8 [(0, .ref b), (1, .ref x), (2, .ref y), (3, .ref out), (4, .int (nI (4 * T)))]) (kk : ∀ (M : hM) (H : Heap) (locs : List Loc) (ls : Array Slot), hm_I G.1 vwC (fun q : Nat => s.heap.size ≤ q) s.heap M H locs → lwI G (T + 1) x y d be sg nu fi le pl rw va out M → lv_has ls 8 [(0, .ref b), (1, .ref x), (2, .ref y), (3, .ref out), (4, .int (nI (4 * T)))] → W p l e room_1 s m #[Value.ref b] below meth c H locs (23 + 66 * (T + 1)) (141333 + 326 * (T + 1)) Q (F0 m 367 ls [])) : W p l e room_1 s m #[Value.ref b] below meth c H locs (23 + 66 * T) (141333 + 326 * T) Q (F0 m 237 ls []) := by
  have hx := E.1; have hb := E.2.1; have hml := E.2.2.1; have hown := E.2.2.2.1; have hts := E.2.2.2.2; have hgx := hgy.1; have hg := hgx.1; have hK := hg.1
  obtain ⟨dr, dn, lf, rt, P, bg, X, ak, an, av, th, ln, fb, fs, fn, ff, fl, fr, fv, fp, fo, o, ox, hR, hw, hI, hV⟩ := hJ
  have hdn := hI.1; have hby := hI.2.1; have hl1 := hI.2.2.1; have hlf := hI.2.2.2.1; have hr1 := hI.2.2.2.2.1; have hrt := hI.2.2.2.2.2.1
  have hPl : P.length ≤ 600 := by have := hI.2.2.2.2.2.2.1; omega
  have hXl : X.length ≤ 600 := by have := hI.2.2.2.2.2.2.2.1; omega
  have hob : o P.length ≤ 30000 := by have := hV.2.2.2.2.1; omega
  have hxb : ox X.length ≤ 30000 := by have := hV.2.2.2.2.2.1; omega
  have hbg : bg ≤ 30000 := by have := hV.2.2.2.2.2.2; omega
  have hnnE : nnE P := fun r hr j _ => ((hI.2.2.2.2.2.2.2.2.1 r hr).2 j).1
  have hKM : ∀ a, (fun a => a ∈ [y, d, be, sg, nu, fi, le, pl, rw, va, out]) a → ∃ e, M a = some e := fun a ha => by
    obtain ⟨q, hq, rfl⟩ := List.mem_map.mp (show a ∈ List.map (fun q : Nat × va_E => q.1) [(y, cMd th dn d P.length be sg nu bg X.length fi le pl lf rt ln rw va ak), (d, aI G 200 dr), (be, aI G 8194 fb), (sg, aI G 40000 fs), (nu, aI G 48200 fn), (fi, aI G 2050 ff), (le, aI G 40000 fl), (pl, aJ G 2048 fp), (rw, aI G 66 fr), (va, aI G 66 fv), (out, aJ G 1 fo)] from ha)
    exact ⟨_, hw.2 q hq⟩
  refine lv_aload_n hx hb d_lw_law_237 rfl (lv_at hl 1 rfl) ?_
  refine lv_aload_n hx hb d_lw_law_238 rfl (lv_at hl 3 rfl) ?_
  have hM1 := c_lw_word l hst G x (fun a => a ∈ [y, d, be, sg, nu, fi, le, pl, rw, va, out]) dr dn lf rt P bg X ak an av out fo M hR hKM hdn hPl hbg hXl hlf hrt hr1 hI.2.2.2.2.2.2.2.2.2.1 hnnE (hw.at 10 rfl) (by simp) H.size
  have hG1 : GoodIn w_lw_law (va_wsS "HyphenBookLaw" 47 y_lw_word w_lw_word) := gB_VS wm_321 wm_322 wm_0 wm_323
  refine hm_call (vx_runSW (y := y_lw_word) (bytes := b_lw_word) (maxL := 3) (ws := w_lw_word) (rm := { frames := 7, cells := 1, slots := 6, locals := 155 }) (own := "HyphenBookLaw") (index := 47) (ret := (Option.some Jvm.ClassFile.FieldType.int)) (hh := [((0 : Nat), (7 : Nat), (10 : Nat), (13 : Nat))]) (As := [.ref x, .ref out]) (rest := []) E hM1 (vx_cwSW (y := y_lw_word) (bytes := b_lw_word) (maxL := 3) (ws := w_lw_word) (rm := { frames := 7, cells := 1, slots := 6, locals := 155 }) (own := "HyphenBookLaw") (index := 47) (ret := (Option.some Jvm.ClassFile.FieldType.int)) (hh := [((0 : Nat), (7 : Nat), (10 : Nat), (13 : Nat))]) 2 hts hG1 rfl rfl rfl (by decide +kernel) ⟨Nat.le_of_ble_eq_true rfl, Nat.le_of_ble_eq_true rfl⟩) (hm_preY hH hgy hZ [.ref x, .ref out]) rfl rfl hl.1 rfl (lv_room (Nat.le_of_ble_eq_true rfl)) d_lw_law_239 ⟨(by show _ ≤ 601024; omega), (by show _ ≤ 7293034; omega)⟩) hH (fun r1 M1 H1 locs1 hq1 hH1 => ?_)
  replace hH := hH1; clear hH1; generalize H1 = H at hH ⊢; generalize locs1 = locs at hH ⊢
  obtain ⟨tc, fo1, ak1, an1, av1, rfl, htc, hS, hR, hw⟩ := ly_bk (T := T) (o := o) (ox := ox) hw hq1
  generalize M1 = M at hH hw hR ⊢
  refine lv_istore (lv' := [(5, .int (nI tc)), (0, .ref b), (1, .ref x), (2, .ref y), (3, .ref out), (4, .int (nI (4 * T)))]) hx hb d_lw_law_242 hl (by decide) rfl (fun ls hl => ?_)
  refine lv_aload_n hx hb d_lw_law_244 rfl (lv_at hl 3 rfl) ?_
  have hM1 := c_md_word l G y th dn d P.length be sg nu bg X.length fi le pl lf rt ln rw va ak dr fb fs fn ff fl fr fv fp o ox M (hw.sub [0, 1, 2, 3, 4, 5, 6, 7, 8, 9] rfl rfl) hdn hby hV.1.2.1 (fun p hp => hV.1.mo hp) hV.1.le hob hPl hV.2.1.2.1 (fun p hp => hV.2.1.mo hp) hV.2.1.le hxb hXl hl1 hr1 hlf hrt (fun q hq j hj => by have z := hV.1.2.2 q _ (List.getElem?_eq_getElem hq); rw [z.2.2 j (by omega)]; exact ((hI.2.2.2.2.2.2.2.2.1 _ (List.getElem_mem hq)).2 j).1) H.size
  have hG1 : GoodIn w_lw_law (wsV "HyphenBookLaw" 49 R_md y_md_word w_md_word) := gB_V wm_463 wm_464 wm_465 wm_5 wm_466
  refine hm_call (va_runV (y := y_md_word) (bytes := b_md_word) (maxL := 7) (ws := w_md_word) (rm := { frames := 1, cells := 0, slots := 0, locals := 25 }) (own := "HyphenBookLaw") (index := 49) (ret := (Option.some Jvm.ClassFile.FieldType.long)) (C := R_md) (As := []) (rest := []) E hM1 (cwV (y := y_md_word) (bytes := b_md_word) (maxL := 7) (ws := w_md_word) (rm := { frames := 1, cells := 0, slots := 0, locals := 25 }) (own := "HyphenBookLaw") (index := 49) (ret := (Option.some Jvm.ClassFile.FieldType.long)) (C := R_md) 0 hts hG1 rfl rfl rfl (by decide +kernel) ⟨Nat.le_of_ble_eq_true rfl, Nat.le_of_ble_eq_true rfl⟩) (hm_preV gk_w gk_s hH hg hK (hw.at 0 rfl) rfl []) rfl rfl hl.1 rfl (lv_room (Nat.le_of_ble_eq_true rfl)) d_lw_law_245 ⟨(by show _ ≤ 601024; omega), (by show _ ≤ 7293034; omega)⟩) hH (fun r1 M1 H1 locs1 hq1 hH1 => ?_)
  replace hH := hH1; clear hH1; generalize H1 = H at hH ⊢; generalize locs1 = locs at hH ⊢
  obtain ⟨rz, ln1, fl1, fr1, fv1, rfl, hrn, hw, hk2, hI9, hV9⟩ := ly_md hI hV hw hS hq1
  have hR := hR.kept hk2
  generalize M1 = M at hH hw hR ⊢
  refine lv_lstore (lv' := [(6, .long rz), (5, .int (nI tc)), (0, .ref b), (1, .ref x), (2, .ref y), (3, .ref out), (4, .int (nI (4 * T)))]) hx hb d_lw_law_248 hl (by decide) rfl (fun ls hl => ?_)
  refine lv_aload_n hx hb d_lw_law_250 rfl (lv_at hl 4 rfl) ?_
  have hM1 := c_md_thrown l G y tc 0 d P.length be sg nu bg X.length fi le pl lf rt ln1 rw va ak1 M (hw.sub [0] rfl rfl) H.size
  have hG1 : GoodIn w_lw_law (wsV "HyphenBookLaw" 41 R_md y_md_thrown w_md_thrown) := gB_V wm_423 wm_424 wm_425 wm_5 wm_426
  refine hm_call (va_runV (y := y_md_thrown) (bytes := b_md_thrown) (maxL := 1) (ws := w_md_thrown) (rm := { frames := 0, cells := 0, slots := 0, locals := 0 }) (own := "HyphenBookLaw") (index := 41) (ret := (Option.some Jvm.ClassFile.FieldType.int)) (C := R_md) (As := []) (rest := []) E hM1 (cwV (y := y_md_thrown) (bytes := b_md_thrown) (maxL := 1) (ws := w_md_thrown) (rm := { frames := 0, cells := 0, slots := 0, locals := 0 }) (own := "HyphenBookLaw") (index := 41) (ret := (Option.some Jvm.ClassFile.FieldType.int)) (C := R_md) 0 hts hG1 rfl rfl rfl (by decide +kernel) ⟨Nat.le_of_ble_eq_true rfl, Nat.le_of_ble_eq_true rfl⟩) (hm_preV gk_w gk_s hH hg hK (hw.at 0 rfl) rfl []) rfl rfl hl.1 rfl (lv_room (Nat.le_of_ble_eq_true rfl)) d_lw_law_251 ⟨(by show _ ≤ 601024; omega), (by show _ ≤ 7293034; omega)⟩) hH (fun r1 M1 H1 locs1 hq1 hH1 => ?_)
  obtain ⟨rfl, e1⟩ := hq1
  replace hH := hH1; rw [e1] at hH; clear hH1 e1; generalize H1 = H at hH ⊢; generalize locs1 = locs at hH ⊢
  refine lv_iload hx hb d_lw_law_254 (lv_at hl 1 rfl) ?_
  refine hn_icmp_eq (a := tc) (b := tc) hx hb (by omega) (by omega) (tgt := 261) d_lw_law_256 (by decide) (fun hc => ?_) (fun hc => ?_)
  · skip
    refine lv_iload hx hb d_lw_law_261 (lv_at hl 1 rfl) ?_
    refine hn_if_ne (a := tc) hx hb (by omega) (tgt := 277) d_lw_law_263 (by decide) (fun h0 => ?_) (fun h0 => ?_)
    · skip
      refine lv_goto (tgt := 367) hx hb d_lw_law_277 (by decide) ?_
      refine W.widen (k := 23 + 66 * (T + 1)) (n := 141333 + 326 * (T + 1)) (by omega) (by omega) ?_
      exact kk _ _ _ _ hH ⟨dr, 0, lf, rt, P, bg, X, ak1, an1, av1, tc, ln1, fb, fs, fn, ff, fl1, fr1, fv1, fp, fo1, o, ox, hR, hw, hI9, hV9⟩ (lv_sub hl [2, 3, 4, 5, 6] rfl)
    · skip
      refine lv_aload_n hx hb d_lw_law_266 rfl (lv_at hl 5 rfl) ?_
      refine lv_iconst (v := 0) hx hb d_lw_law_267 (by decide) ?_
      refine hm_lald E hK hH 1 (hw.at 10 rfl) rfl (i := 0) (by omega) (by decide) d_lw_law_268 ?_
      refine lv_lload hx hb d_lw_law_269 (lv_at hl 0 rfl) ?_
      refine hm_lcmp (x := fo1 0) (y := rz) hx hb d_lw_law_271 (fun z9 hz9 => ?_)
      refine hc_if_eq (x := z9) hx hb (tgt := 277) d_lw_law_272 (by decide) (fun hc => ?_) (fun hc => ?_)
      · skip
        refine lv_goto (tgt := 367) hx hb d_lw_law_277 (by decide) ?_
        refine W.widen (k := 23 + 66 * (T + 1)) (n := 141333 + 326 * (T + 1)) (by omega) (by omega) ?_
        exact kk _ _ _ _ hH ⟨dr, 0, lf, rt, P, bg, X, ak1, an1, av1, tc, ln1, fb, fs, fn, ff, fl1, fr1, fv1, fp, fo1, o, ox, hR, hw, hI9, hV9⟩ (lv_sub hl [2, 3, 4, 5, 6] rfl)
      · skip
        exact absurd (hz9.mpr (hrn h0)) hc
  · skip
    exact absurd rfl hc

