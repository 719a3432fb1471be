set_option maxHeartbeats 4000000 in
set_option maxRecDepth 100000 in
theorem law_put {p : Program} {l : Launch} {e : Env} {s : State} {m : MethodId} {below : List Frame} {meth : Method} {c : Code} {b L : Nat} {xs : Nat → Int32} {G : hG} {Q : State → Prop} {T x y d be sg nu fi le pl rw va out : Nat} (E : CallFix p m c b_lw_law 8 s #[Value.ref b] w_lw_law "HyphenBookLaw") (hst : l.stackTraces = false) (hgy : gy G s) (hZ : zqs (fun q : Nat => s.heap.size ≤ q) s s.heap) (hX : va_X b L xs s s.heap) (hbl : b < s.heap.size) (hL : L ≤ 2048) (hT : 4 * T + 4 ≤ L) (M : hM) (H : Heap) (locs : List Loc) (ls : Array Slot) (hH : hm_I G.1 vwC (fun q : Nat => s.heap.size ≤ q) s.heap M H locs) (hJ : lwI G T x y d be sg nu fi le pl rw va out M) (hl : lv_has ls 8 [(0, .ref b), (1, .ref x), (2, .ref y), (3, .ref out), (4, .int (nI (4 * T)))]) (kk : ∀ (M : hM) (H : Heap) (locs : List Loc) (ls : Array Slot), hm_I G.1 vwC (fun q : Nat => s.heap.size ≤ q) s.heap M H locs → lwI G (T + 1) x y d be sg nu fi le pl rw va out M → lv_has ls 8 [(0, .ref b), (1, .ref x), (2, .ref y), (3, .ref out), (4, .int (nI (4 * T)))] → W p l e room_1 s m #[Value.ref b] below meth c H locs (23 + 66 * (T + 1)) (141333 + 326 * (T + 1)) Q (F0 m 367 ls [])) : W p l e room_1 s m #[Value.ref b] below meth c H locs (23 + 66 * T) (141333 + 326 * T) Q (F0 m 80 ls []) := by
  have hx := E.1; have hb := E.2.1; have hml := E.2.2.1; have hown := E.2.2.2.1; have hts := E.2.2.2.2; have hgx := hgy.1; have hg := hgx.1; have hK := hg.1
  obtain ⟨dr, dn, lf, rt, P, bg, X, ak, an, av, th, ln, fb, fs, fn, ff, fl, fr, fv, fp, fo, o, ox, hR, hw, hI, hV⟩ := hJ
  have hdn := hI.1; have hby := hI.2.1; have hl1 := hI.2.2.1; have hlf := hI.2.2.2.1; have hr1 := hI.2.2.2.2.1; have hrt := hI.2.2.2.2.2.1
  have hPl : P.length ≤ 600 := by have := hI.2.2.2.2.2.2.1; omega
  have hXl : X.length ≤ 600 := by have := hI.2.2.2.2.2.2.2.1; omega
  have hob : o P.length ≤ 30000 := by have := hV.2.2.2.2.1; omega
  have hxb : ox X.length ≤ 30000 := by have := hV.2.2.2.2.2.1; omega
  have hbg : bg ≤ 30000 := by have := hV.2.2.2.2.2.2; omega
  have hnnE : nnE P := fun r hr j _ => ((hI.2.2.2.2.2.2.2.2.1 r hr).2 j).1
  have hKM : ∀ a, (fun a => a ∈ [y, d, be, sg, nu, fi, le, pl, rw, va, out]) a → ∃ e, M a = some e := fun a ha => by
    obtain ⟨q, hq, rfl⟩ := List.mem_map.mp (show a ∈ List.map (fun q : Nat × va_E => q.1) [(y, cMd th dn d P.length be sg nu bg X.length fi le pl lf rt ln rw va ak), (d, aI G 200 dr), (be, aI G 8194 fb), (sg, aI G 40000 fs), (nu, aI G 48200 fn), (fi, aI G 2050 ff), (le, aI G 40000 fl), (pl, aJ G 2048 fp), (rw, aI G 66 fr), (va, aI G 66 fv), (out, aJ G 1 fo)] from ha)
    exact ⟨_, hw.2 q hq⟩
  obtain ⟨dB, pt, xt, rr, ar, pro, xro, xbg, rsg, rnm, rsz, asg, anm, rf, rg, af, τp, τx, hB⟩ := id hR
  have hxx := hB.1.at 0 rfl
  refine lv_aload_n hx hb d_lw_law_80 rfl (lv_at hl 1 rfl) ?_
  refine lv_aload_n hx hb d_lw_law_81 rfl (lv_at hl 0 rfl) ?_
  refine lv_iload hx hb d_lw_law_82 (lv_at hl 4 rfl) ?_
  refine lv_iconst (v := 1) hx hb d_lw_law_84 (by decide) ?_
  refine hn_iadd hx hb (a := 4 * T) (b := 1) d_lw_law_85 ?_
  refine sw_ld E hX hbl hL hH (k := (4 * T) + 1) (by omega) d_lw_law_86 ?_
  refine lv_i2l hx hb d_lw_law_87 rfl ?_
  refine lv_bipush (v := 32) hx hb d_lw_law_88 (by decide) ?_
  refine lv_lshl hx hb d_lw_law_90 rfl ?_
  refine lv_aload_n hx hb d_lw_law_91 rfl (lv_at hl 0 rfl) ?_
  refine lv_iload hx hb d_lw_law_92 (lv_at hl 4 rfl) ?_
  refine lv_iconst (v := 2) hx hb d_lw_law_94 (by decide) ?_
  refine hn_iadd hx hb (a := 4 * T) (b := 2) d_lw_law_95 ?_
  refine sw_ld E hX hbl hL hH (k := (4 * T) + 2) (by omega) d_lw_law_96 ?_
  refine lv_i2l hx hb d_lw_law_97 rfl ?_
  refine lv_ldc2 (v := 4294967295) hx hb hown (hts _ (tC wm_483)) d_lw_law_98 ?_
  refine lv_land hx hb d_lw_law_101 ?_
  obtain ⟨v9, hv9⟩ : ∃ z : Int64, z = ((xs ((4 * T) + 1)).toInt64 <<< ((32 : Int32).toInt64 &&& 63)) ||| ((xs ((4 * T) + 2)).toInt64 &&& 4294967295) := ⟨_, rfl⟩
  refine lv_lor hx hb d_lw_law_102 ?_
  refine hm_top (w := .long v9) (by rw [hv9]) ?_
  refine lv_aload_n hx hb d_lw_law_103 rfl (lv_at hl 0 rfl) ?_
  refine lv_iload hx hb d_lw_law_104 (lv_at hl 4 rfl) ?_
  refine lv_iconst (v := 3) hx hb d_lw_law_106 (by decide) ?_
  refine hn_iadd hx hb (a := 4 * T) (b := 3) d_lw_law_107 ?_
  refine sw_ld E hX hbl hL hH (k := (4 * T) + 3) (by omega) d_lw_law_108 ?_
  have hM1 := c_bk_put l G x dB dn lf rt pt xt rr ar dr (v9) (xs ((4 * T) + 3)) M (hB.1.sub [0, 1] rfl rfl) hdn H.size
  have hG1 : GoodIn w_lw_law (wsV "HyphenBookLaw" 30 R_bk y_bk_put w_bk_put) := gB_V wm_98 wm_99 wm_100 wm_1 wm_101
  refine hm_call (va_runV (y := y_bk_put) (bytes := b_bk_put) (maxL := 5) (ws := w_bk_put) (rm := { frames := 0, cells := 0, slots := 0, locals := 0 }) (own := "HyphenBookLaw") (index := 30) (ret := (Option.some Jvm.ClassFile.FieldType.boolean)) (C := R_bk) (As := [.long v9, .int (xs ((4 * T) + 3))]) (rest := []) E hM1 (cwV (y := y_bk_put) (bytes := b_bk_put) (maxL := 5) (ws := w_bk_put) (rm := { frames := 0, cells := 0, slots := 0, locals := 0 }) (own := "HyphenBookLaw") (index := 30) (ret := (Option.some Jvm.ClassFile.FieldType.boolean)) (C := R_bk) 2 hts hG1 rfl rfl rfl (by decide +kernel) ⟨Nat.le_of_ble_eq_true rfl, Nat.le_of_ble_eq_true rfl⟩) (hm_preV gk_w gk_s hH hg hK hxx rfl [.long v9, .int (xs ((4 * T) + 3))]) rfl rfl hl.1 rfl (lv_room (Nat.le_of_ble_eq_true rfl)) d_lw_law_109 ⟨(by show _ ≤ 601024; omega), (by show _ ≤ 7293034; omega)⟩) hH (fun r1 M1 H1 locs1 hq1 hH1 => ?_)
  replace hH := hH1; clear hH1; generalize H1 = H at hH ⊢; generalize locs1 = locs at hH ⊢
  obtain ⟨bo, dr1, dn1, rfl, hP1, hR, hk1⟩ := lp_bk hB hq1
  have hw := has_keep hw hk1 (fun a ha z => z ha)
  generalize M1 = M at hH hw hR ⊢
  refine lv_aload_n hx hb d_lw_law_112 rfl (lv_at hl 2 rfl) ?_
  refine lv_aload_n hx hb d_lw_law_113 rfl (lv_at hl 0 rfl) ?_
  refine lv_iload hx hb d_lw_law_114 (lv_at hl 4 rfl) ?_
  refine lv_iconst (v := 1) hx hb d_lw_law_116 (by decide) ?_
  refine hn_iadd hx hb (a := 4 * T) (b := 1) d_lw_law_117 ?_
  refine sw_ld E hX hbl hL hH (k := (4 * T) + 1) (by omega) d_lw_law_118 ?_
  refine lv_i2l hx hb d_lw_law_119 rfl ?_
  refine lv_bipush (v := 32) hx hb d_lw_law_120 (by decide) ?_
  refine lv_lshl hx hb d_lw_law_122 rfl ?_
  refine lv_aload_n hx hb d_lw_law_123 rfl (lv_at hl 0 rfl) ?_
  refine lv_iload hx hb d_lw_law_124 (lv_at hl 4 rfl) ?_
  refine lv_iconst (v := 2) hx hb d_lw_law_126 (by decide) ?_
  refine hn_iadd hx hb (a := 4 * T) (b := 2) d_lw_law_127 ?_
  refine sw_ld E hX hbl hL hH (k := (4 * T) + 2) (by omega) d_lw_law_128 ?_
  refine lv_i2l hx hb d_lw_law_129 rfl ?_
  refine lv_ldc2 (v := 4294967295) hx hb hown (hts _ (tC wm_483)) d_lw_law_130 ?_
  refine lv_land hx hb d_lw_law_133 ?_
  refine lv_lor hx hb d_lw_law_134 ?_
  refine hm_top (w := .long v9) (by rw [hv9]) ?_
  refine lv_aload_n hx hb d_lw_law_135 rfl (lv_at hl 0 rfl) ?_
  refine lv_iload hx hb d_lw_law_136 (lv_at hl 4 rfl) ?_
  refine lv_iconst (v := 3) hx hb d_lw_law_138 (by decide) ?_
  refine hn_iadd hx hb (a := 4 * T) (b := 3) d_lw_law_139 ?_
  refine sw_ld E hX hbl hL hH (k := (4 * T) + 3) (by omega) d_lw_law_140 ?_
  have hM1 := c_md_put l G y th dn d P.length be sg nu bg X.length fi le pl lf rt ln rw va ak dr (v9) (xs ((4 * T) + 3)) M (hw.sub [0, 1] rfl rfl) hdn H.size
  have hG1 : GoodIn w_lw_law (wsV "HyphenBookLaw" 34 R_md y_md_put w_md_put) := gB_V wm_427 wm_428 wm_429 wm_5 wm_430
  refine hm_call (va_runV (y := y_md_put) (bytes := b_md_put) (maxL := 5) (ws := w_md_put) (rm := { frames := 0, cells := 0, slots := 0, locals := 0 }) (own := "HyphenBookLaw") (index := 34) (ret := (Option.some Jvm.ClassFile.FieldType.boolean)) (C := R_md) (As := [.long v9, .int (xs ((4 * T) + 3))]) (rest := [.int (bI bo)]) E hM1 (cwV (y := y_md_put) (bytes := b_md_put) (maxL := 5) (ws := w_md_put) (rm := { frames := 0, cells := 0, slots := 0, locals := 0 }) (own := "HyphenBookLaw") (index := 34) (ret := (Option.some Jvm.ClassFile.FieldType.boolean)) (C := R_md) 2 hts hG1 rfl rfl rfl (by decide +kernel) ⟨Nat.le_of_ble_eq_true rfl, Nat.le_of_ble_eq_true rfl⟩) (hm_preV gk_w gk_s hH hg hK (hw.at 0 rfl) rfl [.long v9, .int (xs ((4 * T) + 3))]) rfl rfl hl.1 rfl (lv_room (Nat.le_of_ble_eq_true rfl)) d_lw_law_141 ⟨(by show _ ≤ 601024; omega), (by show _ ≤ 7293034; omega)⟩) hH (fun r1 M1 H1 locs1 hq1 hH1 => ?_)
  replace hH := hH1; clear hH1; generalize H1 = H at hH ⊢; generalize locs1 = locs at hH ⊢
  obtain ⟨bo2, dr2, dn2, rfl, hP2, hw, hk2⟩ := lp_md (T := T) (an := an) (av := av) (o := o) (ox := ox) hw hq1
  obtain ⟨rfl, rfl, rfl⟩ := putS_un hP2 hP1
  have hR := hR.kept hk2
  generalize M1 = M at hH hw hR ⊢
  refine hr_icmp_eq (x := bI bo) (y := bI bo) hx hb (tgt := 367) d_lw_law_144 (by decide) (fun hc => ?_) (fun hc => ?_)
  · skip
    obtain ⟨hI9, hV9⟩ := put_hb hP1 hI hV
    refine W.widen (k := 23 + 66 * (T + 1)) (n := 141333 + 326 * (T + 1)) (by omega) (by omega) ?_
    exact kk _ _ _ _ hH ⟨dr1, dn1, lf, rt, P, bg, X, ak, an, av, 0, ln, fb, fs, fn, ff, fl, fr, fv, fp, fo, o, ox, hR, hw, hI9, hV9⟩ (lv_sub hl [0, 1, 2, 3, 4] rfl)
  · skip
    exact absurd rfl hc

