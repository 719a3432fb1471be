theorem plt_le (d : Nat → Int32) (n : Nat) : plt d n ≤ n := by
  induction n with
  | zero => exact Nat.le_refl _
  | succ n ih => simp only [plt]; split <;> omega

abbrev q_md_readPattern (G : hG) (y th dn d np be sg nu bg nx fi le pl lf rt ln rw va : Nat) (ak : Bool) (dr fb fs fn : Nat → Int32) (at0 : Nat) (M : hM) : Option Value → hM → Prop := fun rv M' => ((pOk dr dn ∧ rv = some (.int (nI (pz dr dn)))) ∨ (¬ pOk dr dn ∧ rv = some (.int (nI 0)))) ∧ ∃ f9 g9, hm_has M' [(y, .inr (4, [.int (nI th), .int (nI dn), .ref d, .int (nI np), .ref be, .ref sg, .ref nu, .int (nI bg), .int (nI nx), .ref fi, .ref le, .ref pl, .int (nI lf), .int (nI rt), .int (nI ln), .ref rw, .ref va, .int (bI ak)])), (d, aI G 200 dr), (be, aI G 8194 fb), (sg, aI G 40000 f9), (nu, aI G 48200 g9)] ∧ (∀ j, j < at0 → f9 j = fs j) ∧ (∀ j, j < at0 + np → g9 j = fn j) ∧ (pOk dr dn → (∀ j, j < pz dr dn → f9 (at0 + j) = psg dr dn j) ∧ ∀ j, j < pz dr dn + 1 → g9 (at0 + np + j) = pN dr dn j) ∧ hm_kp (fun a => a ∈ [sg, nu]) M M'
set_option maxHeartbeats 4000000 in
set_option maxRecDepth 100000 in
theorem c_md_readPattern (l : Launch) (G : hG) (y th dn d np be sg nu bg nx fi le pl lf rt ln rw va : Nat) (ak : Bool) (dr fb fs fn : Nat → Int32) (at0 : Nat) (M : hM) (hw : hm_has M [(y, .inr (4, [.int (nI th), .int (nI dn), .ref d, .int (nI np), .ref be, .ref sg, .ref nu, .int (nI bg), .int (nI nx), .ref fi, .ref le, .ref pl, .int (nI lf), .int (nI rt), .int (nI ln), .ref rw, .ref va, .int (bI ak)])), (d, aI G 200 dr), (be, aI G 8194 fb), (sg, aI G 40000 fs), (nu, aI G 48200 fn)]) (hdn : dn ≤ 200) (hby : ∀ k, isBy (dr k)) (hb0 : fb np = nI at0) (hat : at0 ≤ 39000) (hnp : np ≤ 8000) : Ct (gk G) l G.1 vwC y_md_readPattern w_md_readPattern { frames := 1, cells := 0, slots := 0, locals := 20 } ([.ref y] : List Value) M (q_md_readPattern G y th dn d np be sg nu bg nx fi le pl lf rt ln rw va ak dr fb fs fn at0 M) 0 0 := by
  refine Ct.ofW (cc := b_md_readPattern) (maxL := 7) (ret := (Option.some Jvm.ClassFile.FieldType.int)) (by decide) rfl (Nat.le_of_ble_eq_true rfl) (fun p e s m below meth c A ls E hr hlk hin hg hH hl => ?_)
  have hl : lv_has ls 7 [(0, .ref y)] := hl
  have hx := E.1; have hb := E.2.1; have hml := E.2.2.1; have hown := E.2.2.2.1; have hts := E.2.2.2.2; have hK := hg.1
  obtain ⟨M0, hM0⟩ : ∃ M0 : hM, M0 = M := ⟨M, rfl⟩
  rw [show q_md_readPattern G y th dn d np be sg nu bg nx fi le pl lf rt ln rw va ak dr fb fs fn at0 M = q_md_readPattern G y th dn d np be sg nu bg nx fi le pl lf rt ln rw va ak dr fb fs fn at0 M0 by rw [hM0]]
  have hk : hm_kp (fun a => a ∈ [sg, nu]) M0 M := by rw [hM0]; exact hm_kp.rf
  refine lv_aload_n hx hb d_md_readPattern_0 rfl (lv_at hl 0 rfl) ?_
  refine hm_get E (tB in_md) hK hH (hw.at 0 rfl) rfl 4 (by decide) (tC wm_371) rfl d_md_readPattern_1 ?_
  refine lv_aload_n hx hb d_md_readPattern_4 rfl (lv_at hl 0 rfl) ?_
  refine hm_get E (tB in_md) hK hH (hw.at 0 rfl) rfl 3 (by decide) (tC wm_370) rfl d_md_readPattern_5 ?_
  refine hm_iald E hK hH 0 (hw.at 2 rfl) rfl (i := np) (by omega) (by decide) d_md_readPattern_8 ?_
  refine hm_top (w := .int (nI at0)) (by rw [hb0]) ?_
  refine lv_istore_n (lv' := [(1, .int (nI at0)), (0, .ref y)]) hx hb d_md_readPattern_9 rfl hl (by decide) rfl (fun ls hl => ?_)
  refine lv_iconst (v := 0) hx hb d_md_readPattern_10 (by decide) ?_
  refine lv_istore_n (lv' := [(2, .int 0), (1, .int (nI at0)), (0, .ref y)]) hx hb d_md_readPattern_11 rfl hl (by decide) rfl (fun ls hl => ?_)
  refine lv_iconst (v := 0) hx hb d_md_readPattern_12 (by decide) ?_
  refine lv_istore_n (lv' := [(3, .int 0), (2, .int 0), (1, .int (nI at0)), (0, .ref y)]) hx hb d_md_readPattern_13 rfl hl (by decide) rfl (fun ls hl => ?_)
  refine lv_iconst (v := 1) hx hb d_md_readPattern_14 (by decide) ?_
  refine lv_istore (lv' := [(4, .int 1), (3, .int 0), (2, .int 0), (1, .int (nI at0)), (0, .ref y)]) hx hb d_md_readPattern_15 hl (by decide) rfl (fun ls hl => ?_)
  refine lv_iconst (v := 0) hx hb d_md_readPattern_17 (by decide) ?_
  refine lv_istore (lv' := [(5, .int 0), (4, .int 1), (3, .int 0), (2, .int 0), (1, .int (nI at0)), (0, .ref y)]) hx hb d_md_readPattern_18 hl (by decide) rfl (fun ls hl => ?_)
  have L20 : ∀ (k : Nat) (i : Nat) (H : Heap) (locs : List Loc) (ls : Array Slot), dn + 1 ≤ i + k → i ≤ dn → hm_I G.1 vwC A s.heap M H locs → lv_has ls 7 [(5, .int (nI i)), (4, .int (bI (gdP dr i))), (3, .int (nI (pz dr i))), (2, .int (nI (plt dr i))), (1, .int (nI at0)), (0, .ref y)] → W p l e { frames := 1, cells := 0, slots := 0, locals := 20 } s m ([.ref y] : List Value).toArray below meth c H locs 0 0 (MQ below (hm_Q G.1 vwC (q_md_readPattern G y th dn d np be sg nu bg nx fi le pl lf rt ln rw va ak dr fb fs fn at0 M0) A) ([.ref y] : List Value).toArray s 0 0 A) (F0 m 20 ls []) := by
    intro k
    induction k with
    | zero => intro i H locs ls hfu hi; exact absurd hfu (by omega)
    | succ k ih =>
      intro i H locs ls hfu hi hH hl
      refine lv_iload hx hb d_md_readPattern_20 (lv_at hl 0 rfl) ?_
      refine lv_aload_n hx hb d_md_readPattern_22 rfl (lv_at hl 5 rfl) ?_
      refine hm_get E (tB in_md) hK hH (hw.at 0 rfl) rfl 1 (by decide) (tC wm_368) rfl d_md_readPattern_23 ?_
      refine hn_icmp_ge (a := i) (b := dn) hx hb (by omega) (by omega) (tgt := 160) d_md_readPattern_26 (by decide) (fun h26 => ?_) (fun h26 => ?_)
      · skip
        obtain hin2 : i = dn := by omega
        rw [hin2] at hl
        have hpl := plt_le dr dn
        refine lv_iload hx hb d_md_readPattern_160 (lv_at hl 1 rfl) ?_
        refine hb_if_eq (b := gdP dr dn) hx hb (tgt := 176) d_md_readPattern_162 (by decide) (fun h162 => ?_) (fun h162 => ?_)
        · skip
          refine lv_iconst (v := 0) hx hb d_md_readPattern_176 (by decide) ?_
          exact hm_iret E hr hlk hH ((fun hno => ⟨Or.inr ⟨hno, rfl⟩, fs, fn, hw, fun _ _ => rfl, fun _ _ => rfl, fun z => absurd z hno, hk⟩) (fun z => by have h8 := gdP_iff.mpr ⟨z.1, z.2.1⟩; rw [h162] at h8; cases h8)) (by omega) (by omega) d_md_readPattern_177
        · skip
          have hgd := h162
          refine lv_iload_n hx hb d_md_readPattern_165 rfl (lv_at hl 3 rfl) ?_
          refine lv_iconst (v := 1) hx hb d_md_readPattern_166 (by decide) ?_
          refine hn_icmp_lt (a := plt dr dn) (b := 1) hx hb (by omega) (by omega) (tgt := 176) d_md_readPattern_167 (by decide) (fun h167 => ?_) (fun h167 => ?_)
          · skip
            refine lv_iconst (v := 0) hx hb d_md_readPattern_176 (by decide) ?_
            exact hm_iret E hr hlk hH ((fun hno => ⟨Or.inr ⟨hno, rfl⟩, fs, fn, hw, fun _ _ => rfl, fun _ _ => rfl, fun z => absurd z hno, hk⟩) (fun z => by have h8 := z.2.2.1; have h9 := z.2.2.2.1; omega)) (by omega) (by omega) d_md_readPattern_177
          · skip
            have hpl := plt_le dr dn
            refine lv_iload_n hx hb d_md_readPattern_170 rfl (lv_at hl 3 rfl) ?_
            refine lv_bipush (v := 63) hx hb d_md_readPattern_171 (by decide) ?_
            refine hn_icmp_le (a := plt dr dn) (b := 63) hx hb (by omega) (by omega) (tgt := 178) d_md_readPattern_173 (by decide) (fun h173 => ?_) (fun h173 => ?_)
            · skip
              have hz1 := pz_plt hgd (by omega)
              have hpn := pz_le dr dn
              refine lv_iconst (v := 0) hx hb d_md_readPattern_178 (by decide) ?_
              refine lv_istore (lv' := [(5, .int 0), (4, .int (bI (gdP dr dn))), (3, .int (nI (pz dr dn))), (2, .int (nI (plt dr dn))), (1, .int (nI at0)), (0, .ref y)]) hx hb d_md_readPattern_179 hl (by decide) rfl (fun ls hl => ?_)
              refine lv_iconst (v := 0) hx hb d_md_readPattern_181 (by decide) ?_
              refine lv_istore (lv' := [(6, .int 0), (5, .int 0), (4, .int (bI (gdP dr dn))), (3, .int (nI (pz dr dn))), (2, .int (nI (plt dr dn))), (1, .int (nI at0)), (0, .ref y)]) hx hb d_md_readPattern_182 hl (by decide) rfl (fun ls hl => ?_)
              have L184 : ∀ (k : Nat) (i : Nat) (f g : Nat → Int32) (M : hM) (H : Heap) (locs : List Loc) (ls : Array Slot), dn + 1 ≤ i + k → i ≤ dn → (∀ j, j < at0 → f j = fs j) → (∀ j, j < pz dr i → f (at0 + j) = psg dr dn j) → (∀ j, j < at0 + np → g j = fn j) → (∀ j, j < pz dr i → g (at0 + np + j) = pnm dr dn j) → hm_has M [(y, .inr (4, [.int (nI th), .int (nI dn), .ref d, .int (nI np), .ref be, .ref sg, .ref nu, .int (nI bg), .int (nI nx), .ref fi, .ref le, .ref pl, .int (nI lf), .int (nI rt), .int (nI ln), .ref rw, .ref va, .int (bI ak)])), (d, aI G 200 dr), (be, aI G 8194 fb), (sg, aI G 40000 f), (nu, aI G 48200 g)] → hm_kp (fun a => a ∈ [sg, nu]) M0 M → hm_I G.1 vwC A s.heap M H locs → lv_has ls 7 [(6, .int (nI i)), (5, .int (nI (pz dr i))), (4, .int (bI (gqP dr dn i))), (3, .int (nI (pz dr dn))), (1, .int (nI at0)), (0, .ref y)] → W p l e { frames := 1, cells := 0, slots := 0, locals := 20 } s m ([.ref y] : List Value).toArray below meth c H locs 0 0 (MQ below (hm_Q G.1 vwC (q_md_readPattern G y th dn d np be sg nu bg nx fi le pl lf rt ln rw va ak dr fb fs fn at0 M0) A) ([.ref y] : List Value).toArray s 0 0 A) (F0 m 184 ls []) := by
                intro k
                induction k with
                | zero => intro i f g M H locs ls hfu hi hf0 hf1 hg0 hg1; exact absurd hfu (by omega)
                | succ k ih =>
                  intro i f g M H locs ls hfu hi hf0 hf1 hg0 hg1 hw hk hH hl
                  refine lv_iload hx hb d_md_readPattern_184 (lv_at hl 0 rfl) ?_
                  refine lv_aload_n hx hb d_md_readPattern_186 rfl (lv_at hl 5 rfl) ?_
                  refine hm_get E (tB in_md) hK hH (hw.at 0 rfl) rfl 1 (by decide) (tC wm_368) rfl d_md_readPattern_187 ?_
                  refine hn_icmp_ge (a := i) (b := dn) hx hb (by omega) (by omega) (tgt := 318) d_md_readPattern_190 (by decide) (fun h190 => ?_) (fun h190 => ?_)
                  · skip
                    have hin2 : i = dn := by omega
                    rw [hin2] at hl hf1 hg1
                    refine lv_aload_n hx hb d_md_readPattern_318 rfl (lv_at hl 5 rfl) ?_
                    refine hm_get E (tB in_md) hK hH (hw.at 0 rfl) rfl 6 (by decide) (tC wm_373) rfl d_md_readPattern_319 ?_
                    refine lv_iload_n hx hb d_md_readPattern_322 rfl (lv_at hl 4 rfl) ?_
                    refine lv_aload_n hx hb d_md_readPattern_323 rfl (lv_at hl 5 rfl) ?_
                    refine hm_get E (tB in_md) hK hH (hw.at 0 rfl) rfl 3 (by decide) (tC wm_370) rfl d_md_readPattern_324 ?_
                    refine hn_iadd hx hb (a := at0) (b := np) d_md_readPattern_327 ?_
                    refine lv_iload_n hx hb d_md_readPattern_328 rfl (lv_at hl 3 rfl) ?_
                    refine hn_iadd hx hb (a := at0 + np) (b := pz dr dn) d_md_readPattern_329 ?_
                    refine lv_aload_n hx hb d_md_readPattern_330 rfl (lv_at hl 5 rfl) ?_
                    refine hm_get E (tB in_md) hK hH (hw.at 0 rfl) rfl 2 (by decide) (tC wm_369) rfl d_md_readPattern_331 ?_
                    refine lv_aload_n hx hb d_md_readPattern_334 rfl (lv_at hl 5 rfl) ?_
                    refine hm_get E (tB in_md) hK hH (hw.at 0 rfl) rfl 1 (by decide) (tC wm_368) rfl d_md_readPattern_335 ?_
                    refine lv_iconst (v := 1) hx hb d_md_readPattern_338 (by decide) ?_
                    refine hn_isub hx hb (a := dn) (b := 1) (by omega) d_md_readPattern_339 ?_
                    refine hm_iald E hK hH 0 (hw.at 1 rfl) rfl (i := dn - 1) (by omega) (by decide) d_md_readPattern_340 ?_
                    have hM1 := c_md_isDigit l G (dr (dn - 1)) M H.size
                    have hG1 : GoodIn w_md_readPattern (wsS R_md 62 y_md_isDigit w_md_isDigit) := gB_S wm_443 wm_444 wm_5 wm_445
                    refine hm_call (va_runS (y := y_md_isDigit) (bytes := b_md_isDigit) (maxL := 1) (ws := w_md_isDigit) (rm := { frames := 0, cells := 0, slots := 0, locals := 0 }) (own := R_md) (index := 62) (ret := (Option.some Jvm.ClassFile.FieldType.boolean)) (As := [.int (dr (dn - 1))]) (rest := [.int (nI (at0 + np + (pz dr dn))), .ref nu]) E hM1 (cwS (y := y_md_isDigit) (bytes := b_md_isDigit) (maxL := 1) (ws := w_md_isDigit) (rm := { frames := 0, cells := 0, slots := 0, locals := 0 }) (own := R_md) (index := 62) (ret := (Option.some Jvm.ClassFile.FieldType.boolean)) 1 hts hG1 rfl rfl rfl (by decide +kernel) ⟨Nat.le_of_ble_eq_true rfl, Nat.le_of_ble_eq_true rfl⟩) (hm_preS gk_w gk_s hH hg [.int (dr (dn - 1))]) rfl rfl hl.1 rfl (lv_room (Nat.le_of_ble_eq_true rfl)) d_md_readPattern_341 ⟨(by show _ ≤ 0; omega), (by show _ ≤ 0; omega)⟩) hH (fun r1 M1 H1 locs1 hq1 hH1 => ?_)
                    obtain ⟨rfl, e1⟩ := hq1
                    replace hH := hH1; rw [e1] at hH; clear hH1 e1; generalize H1 = H at hH ⊢; generalize locs1 = locs at hH ⊢
                    refine hb_if_eq (b := isDg (dr (dn - 1))) hx hb (tgt := 364) d_md_readPattern_344 (by decide) (fun h344 => ?_) (fun h344 => ?_)
                    · skip
                      refine lv_iconst (v := 0) hx hb d_md_readPattern_364 (by decide) ?_
                      refine hm_iast E hK hH 0 (hw.at 4 rfl) rfl (i := at0 + np + (pz dr dn)) (by omega) (by decide) d_md_readPattern_365 (fun H locs hH => ?_)
                      have hw := hw.set (ws' := [(y, .inr (4, [.int (nI th), .int (nI dn), .ref d, .int (nI np), .ref be, .ref sg, .ref nu, .int (nI bg), .int (nI nx), .ref fi, .ref le, .ref pl, .int (nI lf), .int (nI rt), .int (nI ln), .ref rw, .ref va, .int (bI ak)])), (d, aI G 200 dr), (be, aI G 8194 fb), (sg, aI G 40000 f), (nu, aI G 48200 (upd g (at0 + np + (pz dr dn)) 0))]) (k := 4) rfl rfl
                      have hk := hk.wr (a := nu) (v := some (aI G 48200 (upd g (at0 + np + (pz dr dn)) 0))) (by first | (right; assumption) | (left; simp; done))
                      generalize va_up M nu (some (aI G 48200 (upd g (at0 + np + (pz dr dn)) 0))) = M at hH hw hk ⊢
                      refine lv_aload_n hx hb d_md_readPattern_366 rfl (lv_at hl 5 rfl) ?_
                      refine hm_get E (tB in_md) hK hH (hw.at 0 rfl) rfl 5 (by decide) (tC wm_372) rfl d_md_readPattern_367 ?_
                      refine lv_iload_n hx hb d_md_readPattern_370 rfl (lv_at hl 4 rfl) ?_
                      refine hm_iald E hK hH 0 (hw.at 3 rfl) rfl (i := at0) (by omega) (by decide) d_md_readPattern_371 ?_
                      refine lv_bipush (v := 46) hx hb d_md_readPattern_372 (by decide) ?_
                      refine hc_icmp_ne (x := f at0) (y := 46) (c9 := 46) hx hb (by decide) (tgt := 389) d_md_readPattern_374 (by decide) (fun h374 => ?_) (fun h374 => ?_)
                      · skip
                        refine lv_aload_n hx hb d_md_readPattern_389 rfl (lv_at hl 5 rfl) ?_
                        refine hm_get E (tB in_md) hK hH (hw.at 0 rfl) rfl 5 (by decide) (tC wm_372) rfl d_md_readPattern_390 ?_
                        refine lv_iload_n hx hb d_md_readPattern_393 rfl (lv_at hl 4 rfl) ?_
                        refine lv_iload_n hx hb d_md_readPattern_394 rfl (lv_at hl 3 rfl) ?_
                        refine hn_iadd hx hb (a := at0) (b := pz dr dn) d_md_readPattern_395 ?_
                        refine lv_iconst (v := 1) hx hb d_md_readPattern_396 (by decide) ?_
                        refine hn_isub hx hb (a := at0 + (pz dr dn)) (b := 1) (by omega) d_md_readPattern_397 ?_
                        refine hm_iald E hK hH 0 (hw.at 3 rfl) rfl (i := (at0 + (pz dr dn)) - 1) (by omega) (by decide) d_md_readPattern_398 ?_
                        refine lv_bipush (v := 46) hx hb d_md_readPattern_399 (by decide) ?_
                        refine hc_icmp_ne (x := f ((at0 + (pz dr dn)) - 1)) (y := 46) (c9 := 46) hx hb (by decide) (tgt := 418) d_md_readPattern_401 (by decide) (fun h401 => ?_) (fun h401 => ?_)
                        · skip
                          refine lv_iload hx hb d_md_readPattern_418 (lv_at hl 2 rfl) ?_
                          refine hb_if_eq (b := gqP dr dn dn) hx hb (tgt := 427) d_md_readPattern_420 (by decide) (fun h420 => ?_) (fun h420 => ?_)
                          · skip
                            refine lv_iconst (v := 0) hx hb d_md_readPattern_427 (by decide) ?_
                            exact hm_iret E hr hlk hH (⟨Or.inr ⟨fun z => (by have h8 := gqP_iff.mpr z.2.2.2.2; rw [h420] at h8; cases h8), rfl⟩, f, upd g (at0 + np + (pz dr dn)) 0, hw, hf0, (bl_upd hg0 (by omega)), fun _ => ⟨hf1, rN hz1.1 hf1 (sg_S rfl hg1 (by rw [pnm_top, if_neg (fun z => by have h8 := z.2; rw [h344] at h8; cases h8)])) (Or.inl ⟨h374, rfl⟩) (Or.inl ⟨h401, rfl⟩)⟩, hk⟩) (by omega) (by omega) d_md_readPattern_428
                          · skip
                            refine lv_iload_n hx hb d_md_readPattern_423 rfl (lv_at hl 3 rfl) ?_
                            refine lv_goto (tgt := 428) hx hb d_md_readPattern_424 (by decide) ?_
                            exact hm_iret E hr hlk hH (⟨Or.inl ⟨⟨(gdP_iff.mp hgd).1, (gdP_iff.mp hgd).2, by omega, by omega, gqP_iff.mp h420⟩, rfl⟩, f, upd g (at0 + np + (pz dr dn)) 0, hw, hf0, (bl_upd hg0 (by omega)), fun _ => ⟨hf1, rN hz1.1 hf1 (sg_S rfl hg1 (by rw [pnm_top, if_neg (fun z => by have h8 := z.2; rw [h344] at h8; cases h8)])) (Or.inl ⟨h374, rfl⟩) (Or.inl ⟨h401, rfl⟩)⟩, hk⟩) (by omega) (by omega) d_md_readPattern_428
                        · skip
                          refine lv_aload_n hx hb d_md_readPattern_404 rfl (lv_at hl 5 rfl) ?_
                          refine hm_get E (tB in_md) hK hH (hw.at 0 rfl) rfl 6 (by decide) (tC wm_373) rfl d_md_readPattern_405 ?_
                          refine lv_iload_n hx hb d_md_readPattern_408 rfl (lv_at hl 4 rfl) ?_
                          refine lv_aload_n hx hb d_md_readPattern_409 rfl (lv_at hl 5 rfl) ?_
                          refine hm_get E (tB in_md) hK hH (hw.at 0 rfl) rfl 3 (by decide) (tC wm_370) rfl d_md_readPattern_410 ?_
                          refine hn_iadd hx hb (a := at0) (b := np) d_md_readPattern_413 ?_
                          refine lv_iload_n hx hb d_md_readPattern_414 rfl (lv_at hl 3 rfl) ?_
                          refine hn_iadd hx hb (a := at0 + np) (b := pz dr dn) d_md_readPattern_415 ?_
                          refine lv_iconst (v := 0) hx hb d_md_readPattern_416 (by decide) ?_
                          refine hm_iast E hK hH 0 (hw.at 4 rfl) rfl (i := at0 + np + (pz dr dn)) (by omega) (by decide) d_md_readPattern_417 (fun H locs hH => ?_)
                          have hw := hw.set (ws' := [(y, .inr (4, [.int (nI th), .int (nI dn), .ref d, .int (nI np), .ref be, .ref sg, .ref nu, .int (nI bg), .int (nI nx), .ref fi, .ref le, .ref pl, .int (nI lf), .int (nI rt), .int (nI ln), .ref rw, .ref va, .int (bI ak)])), (d, aI G 200 dr), (be, aI G 8194 fb), (sg, aI G 40000 f), (nu, aI G 48200 (upd (upd g (at0 + np + (pz dr dn)) 0) (at0 + np + (pz dr dn)) 0))]) (k := 4) rfl rfl
                          have hk := hk.wr (a := nu) (v := some (aI G 48200 (upd (upd g (at0 + np + (pz dr dn)) 0) (at0 + np + (pz dr dn)) 0))) (by first | (right; assumption) | (left; simp; done))
                          generalize va_up M nu (some (aI G 48200 (upd (upd g (at0 + np + (pz dr dn)) 0) (at0 + np + (pz dr dn)) 0))) = M at hH hw hk ⊢
                          refine lv_iload hx hb d_md_readPattern_418 (lv_at hl 2 rfl) ?_
                          refine hb_if_eq (b := gqP dr dn dn) hx hb (tgt := 427) d_md_readPattern_420 (by decide) (fun h420 => ?_) (fun h420 => ?_)
                          · skip
                            refine lv_iconst (v := 0) hx hb d_md_readPattern_427 (by decide) ?_
                            exact hm_iret E hr hlk hH (⟨Or.inr ⟨fun z => (by have h8 := gqP_iff.mpr z.2.2.2.2; rw [h420] at h8; cases h8), rfl⟩, f, upd (upd g (at0 + np + (pz dr dn)) 0) (at0 + np + (pz dr dn)) 0, hw, hf0, (bl_upd (bl_upd hg0 (by omega)) (by omega)), fun _ => ⟨hf1, rN hz1.1 hf1 (sg_S rfl hg1 (by rw [pnm_top, if_neg (fun z => by have h8 := z.2; rw [h344] at h8; cases h8)])) (Or.inl ⟨h374, rfl⟩) (Or.inr ⟨h401, rfl⟩)⟩, hk⟩) (by omega) (by omega) d_md_readPattern_428
                          · skip
                            refine lv_iload_n hx hb d_md_readPattern_423 rfl (lv_at hl 3 rfl) ?_
                            refine lv_goto (tgt := 428) hx hb d_md_readPattern_424 (by decide) ?_
                            exact hm_iret E hr hlk hH (⟨Or.inl ⟨⟨(gdP_iff.mp hgd).1, (gdP_iff.mp hgd).2, by omega, by omega, gqP_iff.mp h420⟩, rfl⟩, f, upd (upd g (at0 + np + (pz dr dn)) 0) (at0 + np + (pz dr dn)) 0, hw, hf0, (bl_upd (bl_upd hg0 (by omega)) (by omega)), fun _ => ⟨hf1, rN hz1.1 hf1 (sg_S rfl hg1 (by rw [pnm_top, if_neg (fun z => by have h8 := z.2; rw [h344] at h8; cases h8)])) (Or.inl ⟨h374, rfl⟩) (Or.inr ⟨h401, rfl⟩)⟩, hk⟩) (by omega) (by omega) d_md_readPattern_428
                      · skip
                        refine lv_aload_n hx hb d_md_readPattern_377 rfl (lv_at hl 5 rfl) ?_
                        refine hm_get E (tB in_md) hK hH (hw.at 0 rfl) rfl 6 (by decide) (tC wm_373) rfl d_md_readPattern_378 ?_
                        refine lv_iload_n hx hb d_md_readPattern_381 rfl (lv_at hl 4 rfl) ?_
                        refine lv_aload_n hx hb d_md_readPattern_382 rfl (lv_at hl 5 rfl) ?_
                        refine hm_get E (tB in_md) hK hH (hw.at 0 rfl) rfl 3 (by decide) (tC wm_370) rfl d_md_readPattern_383 ?_
                        refine hn_iadd hx hb (a := at0) (b := np) d_md_readPattern_386 ?_
                        refine lv_iconst (v := 0) hx hb d_md_readPattern_387 (by decide) ?_
                        refine hm_iast E hK hH 0 (hw.at 4 rfl) rfl (i := at0 + np) (by omega) (by decide) d_md_readPattern_388 (fun H locs hH => ?_)
                        have hw := hw.set (ws' := [(y, .inr (4, [.int (nI th), .int (nI dn), .ref d, .int (nI np), .ref be, .ref sg, .ref nu, .int (nI bg), .int (nI nx), .ref fi, .ref le, .ref pl, .int (nI lf), .int (nI rt), .int (nI ln), .ref rw, .ref va, .int (bI ak)])), (d, aI G 200 dr), (be, aI G 8194 fb), (sg, aI G 40000 f), (nu, aI G 48200 (upd (upd g (at0 + np + (pz dr dn)) 0) (at0 + np) 0))]) (k := 4) rfl rfl
                        have hk := hk.wr (a := nu) (v := some (aI G 48200 (upd (upd g (at0 + np + (pz dr dn)) 0) (at0 + np) 0))) (by first | (right; assumption) | (left; simp; done))
                        generalize va_up M nu (some (aI G 48200 (upd (upd g (at0 + np + (pz dr dn)) 0) (at0 + np) 0))) = M at hH hw hk ⊢
                        refine lv_aload_n hx hb d_md_readPattern_389 rfl (lv_at hl 5 rfl) ?_
                        refine hm_get E (tB in_md) hK hH (hw.at 0 rfl) rfl 5 (by decide) (tC wm_372) rfl d_md_readPattern_390 ?_
                        refine lv_iload_n hx hb d_md_readPattern_393 rfl (lv_at hl 4 rfl) ?_
                        refine lv_iload_n hx hb d_md_readPattern_394 rfl (lv_at hl 3 rfl) ?_
                        refine hn_iadd hx hb (a := at0) (b := pz dr dn) d_md_readPattern_395 ?_
                        refine lv_iconst (v := 1) hx hb d_md_readPattern_396 (by decide) ?_
                        refine hn_isub hx hb (a := at0 + (pz dr dn)) (b := 1) (by omega) d_md_readPattern_397 ?_
                        refine hm_iald E hK hH 0 (hw.at 3 rfl) rfl (i := (at0 + (pz dr dn)) - 1) (by omega) (by decide) d_md_readPattern_398 ?_
                        refine lv_bipush (v := 46) hx hb d_md_readPattern_399 (by decide) ?_
                        refine hc_icmp_ne (x := f ((at0 + (pz dr dn)) - 1)) (y := 46) (c9 := 46) hx hb (by decide) (tgt := 418) d_md_readPattern_401 (by decide) (fun h401 => ?_) (fun h401 => ?_)
                        · skip
                          refine lv_iload hx hb d_md_readPattern_418 (lv_at hl 2 rfl) ?_
                          refine hb_if_eq (b := gqP dr dn dn) hx hb (tgt := 427) d_md_readPattern_420 (by decide) (fun h420 => ?_) (fun h420 => ?_)
                          · skip
                            refine lv_iconst (v := 0) hx hb d_md_readPattern_427 (by decide) ?_
                            exact hm_iret E hr hlk hH (⟨Or.inr ⟨fun z => (by have h8 := gqP_iff.mpr z.2.2.2.2; rw [h420] at h8; cases h8), rfl⟩, f, upd (upd g (at0 + np + (pz dr dn)) 0) (at0 + np) 0, hw, hf0, (bl_upd (bl_upd hg0 (by omega)) (by omega)), fun _ => ⟨hf1, rN hz1.1 hf1 (sg_S rfl hg1 (by rw [pnm_top, if_neg (fun z => by have h8 := z.2; rw [h344] at h8; cases h8)])) (Or.inr ⟨h374, rfl⟩) (Or.inl ⟨h401, rfl⟩)⟩, hk⟩) (by omega) (by omega) d_md_readPattern_428
                          · skip
                            refine lv_iload_n hx hb d_md_readPattern_423 rfl (lv_at hl 3 rfl) ?_
                            refine lv_goto (tgt := 428) hx hb d_md_readPattern_424 (by decide) ?_
                            exact hm_iret E hr hlk hH (⟨Or.inl ⟨⟨(gdP_iff.mp hgd).1, (gdP_iff.mp hgd).2, by omega, by omega, gqP_iff.mp h420⟩, rfl⟩, f, upd (upd g (at0 + np + (pz dr dn)) 0) (at0 + np) 0, hw, hf0, (bl_upd (bl_upd hg0 (by omega)) (by omega)), fun _ => ⟨hf1, rN hz1.1 hf1 (sg_S rfl hg1 (by rw [pnm_top, if_neg (fun z => by have h8 := z.2; rw [h344] at h8; cases h8)])) (Or.inr ⟨h374, rfl⟩) (Or.inl ⟨h401, rfl⟩)⟩, hk⟩) (by omega) (by omega) d_md_readPattern_428
                        · skip
                          refine lv_aload_n hx hb d_md_readPattern_404 rfl (lv_at hl 5 rfl) ?_
                          refine hm_get E (tB in_md) hK hH (hw.at 0 rfl) rfl 6 (by decide) (tC wm_373) rfl d_md_readPattern_405 ?_
                          refine lv_iload_n hx hb d_md_readPattern_408 rfl (lv_at hl 4 rfl) ?_
                          refine lv_aload_n hx hb d_md_readPattern_409 rfl (lv_at hl 5 rfl) ?_
                          refine hm_get E (tB in_md) hK hH (hw.at 0 rfl) rfl 3 (by decide) (tC wm_370) rfl d_md_readPattern_410 ?_
                          refine hn_iadd hx hb (a := at0) (b := np) d_md_readPattern_413 ?_
                          refine lv_iload_n hx hb d_md_readPattern_414 rfl (lv_at hl 3 rfl) ?_
                          refine hn_iadd hx hb (a := at0 + np) (b := pz dr dn) d_md_readPattern_415 ?_
                          refine lv_iconst (v := 0) hx hb d_md_readPattern_416 (by decide) ?_
                          refine hm_iast E hK hH 0 (hw.at 4 rfl) rfl (i := at0 + np + (pz dr dn)) (by omega) (by decide) d_md_readPattern_417 (fun H locs hH => ?_)
                          have hw := hw.set (ws' := [(y, .inr (4, [.int (nI th), .int (nI dn), .ref d, .int (nI np), .ref be, .ref sg, .ref nu, .int (nI bg), .int (nI nx), .ref fi, .ref le, .ref pl, .int (nI lf), .int (nI rt), .int (nI ln), .ref rw, .ref va, .int (bI ak)])), (d, aI G 200 dr), (be, aI G 8194 fb), (sg, aI G 40000 f), (nu, aI G 48200 (upd (upd (upd g (at0 + np + (pz dr dn)) 0) (at0 + np) 0) (at0 + np + (pz dr dn)) 0))]) (k := 4) rfl rfl
                          have hk := hk.wr (a := nu) (v := some (aI G 48200 (upd (upd (upd g (at0 + np + (pz dr dn)) 0) (at0 + np) 0) (at0 + np + (pz dr dn)) 0))) (by first | (right; assumption) | (left; simp; done))
                          generalize va_up M nu (some (aI G 48200 (upd (upd (upd g (at0 + np + (pz dr dn)) 0) (at0 + np) 0) (at0 + np + (pz dr dn)) 0))) = M at hH hw hk ⊢
                          refine lv_iload hx hb d_md_readPattern_418 (lv_at hl 2 rfl) ?_
                          refine hb_if_eq (b := gqP dr dn dn) hx hb (tgt := 427) d_md_readPattern_420 (by decide) (fun h420 => ?_) (fun h420 => ?_)
                          · skip
                            refine lv_iconst (v := 0) hx hb d_md_readPattern_427 (by decide) ?_
                            exact hm_iret E hr hlk hH (⟨Or.inr ⟨fun z => (by have h8 := gqP_iff.mpr z.2.2.2.2; rw [h420] at h8; cases h8), rfl⟩, f, upd (upd (upd g (at0 + np + (pz dr dn)) 0) (at0 + np) 0) (at0 + np + (pz dr dn)) 0, hw, hf0, (bl_upd (bl_upd (bl_upd hg0 (by omega)) (by omega)) (by omega)), fun _ => ⟨hf1, rN hz1.1 hf1 (sg_S rfl hg1 (by rw [pnm_top, if_neg (fun z => by have h8 := z.2; rw [h344] at h8; cases h8)])) (Or.inr ⟨h374, rfl⟩) (Or.inr ⟨h401, rfl⟩)⟩, hk⟩) (by omega) (by omega) d_md_readPattern_428
                          · skip
                            refine lv_iload_n hx hb d_md_readPattern_423 rfl (lv_at hl 3 rfl) ?_
                            refine lv_goto (tgt := 428) hx hb d_md_readPattern_424 (by decide) ?_
                            exact hm_iret E hr hlk hH (⟨Or.inl ⟨⟨(gdP_iff.mp hgd).1, (gdP_iff.mp hgd).2, by omega, by omega, gqP_iff.mp h420⟩, rfl⟩, f, upd (upd (upd g (at0 + np + (pz dr dn)) 0) (at0 + np) 0) (at0 + np + (pz dr dn)) 0, hw, hf0, (bl_upd (bl_upd (bl_upd hg0 (by omega)) (by omega)) (by omega)), fun _ => ⟨hf1, rN hz1.1 hf1 (sg_S rfl hg1 (by rw [pnm_top, if_neg (fun z => by have h8 := z.2; rw [h344] at h8; cases h8)])) (Or.inr ⟨h374, rfl⟩) (Or.inr ⟨h401, rfl⟩)⟩, hk⟩) (by omega) (by omega) d_md_readPattern_428
                    · skip
                      refine lv_aload_n hx hb d_md_readPattern_347 rfl (lv_at hl 5 rfl) ?_
                      refine hm_get E (tB in_md) hK hH (hw.at 0 rfl) rfl 2 (by decide) (tC wm_369) rfl d_md_readPattern_348 ?_
                      refine lv_aload_n hx hb d_md_readPattern_351 rfl (lv_at hl 5 rfl) ?_
                      refine hm_get E (tB in_md) hK hH (hw.at 0 rfl) rfl 1 (by decide) (tC wm_368) rfl d_md_readPattern_352 ?_
                      refine lv_iconst (v := 1) hx hb d_md_readPattern_355 (by decide) ?_
                      refine hn_isub hx hb (a := dn) (b := 1) (by omega) d_md_readPattern_356 ?_
                      refine hm_iald E hK hH 0 (hw.at 1 rfl) rfl (i := dn - 1) (by omega) (by decide) d_md_readPattern_357 ?_
                      refine lv_bipush (v := 48) hx hb d_md_readPattern_358 (by decide) ?_
                      refine lv_isub hx hb d_md_readPattern_360 ?_
                      refine lv_goto (tgt := 365) hx hb d_md_readPattern_361 (by decide) ?_
                      refine hm_iast E hK hH 0 (hw.at 4 rfl) rfl (i := at0 + np + (pz dr dn)) (by omega) (by decide) d_md_readPattern_365 (fun H locs hH => ?_)
                      have hw := hw.set (ws' := [(y, .inr (4, [.int (nI th), .int (nI dn), .ref d, .int (nI np), .ref be, .ref sg, .ref nu, .int (nI bg), .int (nI nx), .ref fi, .ref le, .ref pl, .int (nI lf), .int (nI rt), .int (nI ln), .ref rw, .ref va, .int (bI ak)])), (d, aI G 200 dr), (be, aI G 8194 fb), (sg, aI G 40000 f), (nu, aI G 48200 (upd g (at0 + np + (pz dr dn)) ((dr (dn - 1)) - 48)))]) (k := 4) rfl rfl
                      have hk := hk.wr (a := nu) (v := some (aI G 48200 (upd g (at0 + np + (pz dr dn)) ((dr (dn - 1)) - 48)))) (by first | (right; assumption) | (left; simp; done))
                      generalize va_up M nu (some (aI G 48200 (upd g (at0 + np + (pz dr dn)) ((dr (dn - 1)) - 48)))) = M at hH hw hk ⊢
                      refine lv_aload_n hx hb d_md_readPattern_366 rfl (lv_at hl 5 rfl) ?_
                      refine hm_get E (tB in_md) hK hH (hw.at 0 rfl) rfl 5 (by decide) (tC wm_372) rfl d_md_readPattern_367 ?_
                      refine lv_iload_n hx hb d_md_readPattern_370 rfl (lv_at hl 4 rfl) ?_
                      refine hm_iald E hK hH 0 (hw.at 3 rfl) rfl (i := at0) (by omega) (by decide) d_md_readPattern_371 ?_
                      refine lv_bipush (v := 46) hx hb d_md_readPattern_372 (by decide) ?_
                      refine hc_icmp_ne (x := f at0) (y := 46) (c9 := 46) hx hb (by decide) (tgt := 389) d_md_readPattern_374 (by decide) (fun h374 => ?_) (fun h374 => ?_)
                      · skip
                        refine lv_aload_n hx hb d_md_readPattern_389 rfl (lv_at hl 5 rfl) ?_
                        refine hm_get E (tB in_md) hK hH (hw.at 0 rfl) rfl 5 (by decide) (tC wm_372) rfl d_md_readPattern_390 ?_
                        refine lv_iload_n hx hb d_md_readPattern_393 rfl (lv_at hl 4 rfl) ?_
                        refine lv_iload_n hx hb d_md_readPattern_394 rfl (lv_at hl 3 rfl) ?_
                        refine hn_iadd hx hb (a := at0) (b := pz dr dn) d_md_readPattern_395 ?_
                        refine lv_iconst (v := 1) hx hb d_md_readPattern_396 (by decide) ?_
                        refine hn_isub hx hb (a := at0 + (pz dr dn)) (b := 1) (by omega) d_md_readPattern_397 ?_
                        refine hm_iald E hK hH 0 (hw.at 3 rfl) rfl (i := (at0 + (pz dr dn)) - 1) (by omega) (by decide) d_md_readPattern_398 ?_
                        refine lv_bipush (v := 46) hx hb d_md_readPattern_399 (by decide) ?_
                        refine hc_icmp_ne (x := f ((at0 + (pz dr dn)) - 1)) (y := 46) (c9 := 46) hx hb (by decide) (tgt := 418) d_md_readPattern_401 (by decide) (fun h401 => ?_) (fun h401 => ?_)
                        · skip
                          refine lv_iload hx hb d_md_readPattern_418 (lv_at hl 2 rfl) ?_
                          refine hb_if_eq (b := gqP dr dn dn) hx hb (tgt := 427) d_md_readPattern_420 (by decide) (fun h420 => ?_) (fun h420 => ?_)
                          · skip
                            refine lv_iconst (v := 0) hx hb d_md_readPattern_427 (by decide) ?_
                            exact hm_iret E hr hlk hH (⟨Or.inr ⟨fun z => (by have h8 := gqP_iff.mpr z.2.2.2.2; rw [h420] at h8; cases h8), rfl⟩, f, upd g (at0 + np + (pz dr dn)) ((dr (dn - 1)) - 48), hw, hf0, (bl_upd hg0 (by omega)), fun _ => ⟨hf1, rN hz1.1 hf1 (sg_S rfl hg1 (by rw [pnm_top, if_pos ⟨by omega, h344⟩])) (Or.inl ⟨h374, rfl⟩) (Or.inl ⟨h401, rfl⟩)⟩, hk⟩) (by omega) (by omega) d_md_readPattern_428
                          · skip
                            refine lv_iload_n hx hb d_md_readPattern_423 rfl (lv_at hl 3 rfl) ?_
                            refine lv_goto (tgt := 428) hx hb d_md_readPattern_424 (by decide) ?_
                            exact hm_iret E hr hlk hH (⟨Or.inl ⟨⟨(gdP_iff.mp hgd).1, (gdP_iff.mp hgd).2, by omega, by omega, gqP_iff.mp h420⟩, rfl⟩, f, upd g (at0 + np + (pz dr dn)) ((dr (dn - 1)) - 48), hw, hf0, (bl_upd hg0 (by omega)), fun _ => ⟨hf1, rN hz1.1 hf1 (sg_S rfl hg1 (by rw [pnm_top, if_pos ⟨by omega, h344⟩])) (Or.inl ⟨h374, rfl⟩) (Or.inl ⟨h401, rfl⟩)⟩, hk⟩) (by omega) (by omega) d_md_readPattern_428
                        · skip
                          refine lv_aload_n hx hb d_md_readPattern_404 rfl (lv_at hl 5 rfl) ?_
                          refine hm_get E (tB in_md) hK hH (hw.at 0 rfl) rfl 6 (by decide) (tC wm_373) rfl d_md_readPattern_405 ?_
                          refine lv_iload_n hx hb d_md_readPattern_408 rfl (lv_at hl 4 rfl) ?_
                          refine lv_aload_n hx hb d_md_readPattern_409 rfl (lv_at hl 5 rfl) ?_
                          refine hm_get E (tB in_md) hK hH (hw.at 0 rfl) rfl 3 (by decide) (tC wm_370) rfl d_md_readPattern_410 ?_
                          refine hn_iadd hx hb (a := at0) (b := np) d_md_readPattern_413 ?_
                          refine lv_iload_n hx hb d_md_readPattern_414 rfl (lv_at hl 3 rfl) ?_
                          refine hn_iadd hx hb (a := at0 + np) (b := pz dr dn) d_md_readPattern_415 ?_
                          refine lv_iconst (v := 0) hx hb d_md_readPattern_416 (by decide) ?_
                          refine hm_iast E hK hH 0 (hw.at 4 rfl) rfl (i := at0 + np + (pz dr dn)) (by omega) (by decide) d_md_readPattern_417 (fun H locs hH => ?_)
                          have hw := hw.set (ws' := [(y, .inr (4, [.int (nI th), .int (nI dn), .ref d, .int (nI np), .ref be, .ref sg, .ref nu, .int (nI bg), .int (nI nx), .ref fi, .ref le, .ref pl, .int (nI lf), .int (nI rt), .int (nI ln), .ref rw, .ref va, .int (bI ak)])), (d, aI G 200 dr), (be, aI G 8194 fb), (sg, aI G 40000 f), (nu, aI G 48200 (upd (upd g (at0 + np + (pz dr dn)) ((dr (dn - 1)) - 48)) (at0 + np + (pz dr dn)) 0))]) (k := 4) rfl rfl
                          have hk := hk.wr (a := nu) (v := some (aI G 48200 (upd (upd g (at0 + np + (pz dr dn)) ((dr (dn - 1)) - 48)) (at0 + np + (pz dr dn)) 0))) (by first | (right; assumption) | (left; simp; done))
                          generalize va_up M nu (some (aI G 48200 (upd (upd g (at0 + np + (pz dr dn)) ((dr (dn - 1)) - 48)) (at0 + np + (pz dr dn)) 0))) = M at hH hw hk ⊢
                          refine lv_iload hx hb d_md_readPattern_418 (lv_at hl 2 rfl) ?_
                          refine hb_if_eq (b := gqP dr dn dn) hx hb (tgt := 427) d_md_readPattern_420 (by decide) (fun h420 => ?_) (fun h420 => ?_)
                          · skip
                            refine lv_iconst (v := 0) hx hb d_md_readPattern_427 (by decide) ?_
                            exact hm_iret E hr hlk hH (⟨Or.inr ⟨fun z => (by have h8 := gqP_iff.mpr z.2.2.2.2; rw [h420] at h8; cases h8), rfl⟩, f, upd (upd g (at0 + np + (pz dr dn)) ((dr (dn - 1)) - 48)) (at0 + np + (pz dr dn)) 0, hw, hf0, (bl_upd (bl_upd hg0 (by omega)) (by omega)), fun _ => ⟨hf1, rN hz1.1 hf1 (sg_S rfl hg1 (by rw [pnm_top, if_pos ⟨by omega, h344⟩])) (Or.inl ⟨h374, rfl⟩) (Or.inr ⟨h401, rfl⟩)⟩, hk⟩) (by omega) (by omega) d_md_readPattern_428
                          · skip
                            refine lv_iload_n hx hb d_md_readPattern_423 rfl (lv_at hl 3 rfl) ?_
                            refine lv_goto (tgt := 428) hx hb d_md_readPattern_424 (by decide) ?_
                            exact hm_iret E hr hlk hH (⟨Or.inl ⟨⟨(gdP_iff.mp hgd).1, (gdP_iff.mp hgd).2, by omega, by omega, gqP_iff.mp h420⟩, rfl⟩, f, upd (upd g (at0 + np + (pz dr dn)) ((dr (dn - 1)) - 48)) (at0 + np + (pz dr dn)) 0, hw, hf0, (bl_upd (bl_upd hg0 (by omega)) (by omega)), fun _ => ⟨hf1, rN hz1.1 hf1 (sg_S rfl hg1 (by rw [pnm_top, if_pos ⟨by omega, h344⟩])) (Or.inl ⟨h374, rfl⟩) (Or.inr ⟨h401, rfl⟩)⟩, hk⟩) (by omega) (by omega) d_md_readPattern_428
                      · skip
                        refine lv_aload_n hx hb d_md_readPattern_377 rfl (lv_at hl 5 rfl) ?_
                        refine hm_get E (tB in_md) hK hH (hw.at 0 rfl) rfl 6 (by decide) (tC wm_373) rfl d_md_readPattern_378 ?_
                        refine lv_iload_n hx hb d_md_readPattern_381 rfl (lv_at hl 4 rfl) ?_
                        refine lv_aload_n hx hb d_md_readPattern_382 rfl (lv_at hl 5 rfl) ?_
                        refine hm_get E (tB in_md) hK hH (hw.at 0 rfl) rfl 3 (by decide) (tC wm_370) rfl d_md_readPattern_383 ?_
                        refine hn_iadd hx hb (a := at0) (b := np) d_md_readPattern_386 ?_
                        refine lv_iconst (v := 0) hx hb d_md_readPattern_387 (by decide) ?_
                        refine hm_iast E hK hH 0 (hw.at 4 rfl) rfl (i := at0 + np) (by omega) (by decide) d_md_readPattern_388 (fun H locs hH => ?_)
                        have hw := hw.set (ws' := [(y, .inr (4, [.int (nI th), .int (nI dn), .ref d, .int (nI np), .ref be, .ref sg, .ref nu, .int (nI bg), .int (nI nx), .ref fi, .ref le, .ref pl, .int (nI lf), .int (nI rt), .int (nI ln), .ref rw, .ref va, .int (bI ak)])), (d, aI G 200 dr), (be, aI G 8194 fb), (sg, aI G 40000 f), (nu, aI G 48200 (upd (upd g (at0 + np + (pz dr dn)) ((dr (dn - 1)) - 48)) (at0 + np) 0))]) (k := 4) rfl rfl
                        have hk := hk.wr (a := nu) (v := some (aI G 48200 (upd (upd g (at0 + np + (pz dr dn)) ((dr (dn - 1)) - 48)) (at0 + np) 0))) (by first | (right; assumption) | (left; simp; done))
                        generalize va_up M nu (some (aI G 48200 (upd (upd g (at0 + np + (pz dr dn)) ((dr (dn - 1)) - 48)) (at0 + np) 0))) = M at hH hw hk ⊢
                        refine lv_aload_n hx hb d_md_readPattern_389 rfl (lv_at hl 5 rfl) ?_
                        refine hm_get E (tB in_md) hK hH (hw.at 0 rfl) rfl 5 (by decide) (tC wm_372) rfl d_md_readPattern_390 ?_
                        refine lv_iload_n hx hb d_md_readPattern_393 rfl (lv_at hl 4 rfl) ?_
                        refine lv_iload_n hx hb d_md_readPattern_394 rfl (lv_at hl 3 rfl) ?_
                        refine hn_iadd hx hb (a := at0) (b := pz dr dn) d_md_readPattern_395 ?_
                        refine lv_iconst (v := 1) hx hb d_md_readPattern_396 (by decide) ?_
                        refine hn_isub hx hb (a := at0 + (pz dr dn)) (b := 1) (by omega) d_md_readPattern_397 ?_
                        refine hm_iald E hK hH 0 (hw.at 3 rfl) rfl (i := (at0 + (pz dr dn)) - 1) (by omega) (by decide) d_md_readPattern_398 ?_
                        refine lv_bipush (v := 46) hx hb d_md_readPattern_399 (by decide) ?_
                        refine hc_icmp_ne (x := f ((at0 + (pz dr dn)) - 1)) (y := 46) (c9 := 46) hx hb (by decide) (tgt := 418) d_md_readPattern_401 (by decide) (fun h401 => ?_) (fun h401 => ?_)
                        · skip
                          refine lv_iload hx hb d_md_readPattern_418 (lv_at hl 2 rfl) ?_
                          refine hb_if_eq (b := gqP dr dn dn) hx hb (tgt := 427) d_md_readPattern_420 (by decide) (fun h420 => ?_) (fun h420 => ?_)
                          · skip
                            refine lv_iconst (v := 0) hx hb d_md_readPattern_427 (by decide) ?_
                            exact hm_iret E hr hlk hH (⟨Or.inr ⟨fun z => (by have h8 := gqP_iff.mpr z.2.2.2.2; rw [h420] at h8; cases h8), rfl⟩, f, upd (upd g (at0 + np + (pz dr dn)) ((dr (dn - 1)) - 48)) (at0 + np) 0, hw, hf0, (bl_upd (bl_upd hg0 (by omega)) (by omega)), fun _ => ⟨hf1, rN hz1.1 hf1 (sg_S rfl hg1 (by rw [pnm_top, if_pos ⟨by omega, h344⟩])) (Or.inr ⟨h374, rfl⟩) (Or.inl ⟨h401, rfl⟩)⟩, hk⟩) (by omega) (by omega) d_md_readPattern_428
                          · skip
                            refine lv_iload_n hx hb d_md_readPattern_423 rfl (lv_at hl 3 rfl) ?_
                            refine lv_goto (tgt := 428) hx hb d_md_readPattern_424 (by decide) ?_
                            exact hm_iret E hr hlk hH (⟨Or.inl ⟨⟨(gdP_iff.mp hgd).1, (gdP_iff.mp hgd).2, by omega, by omega, gqP_iff.mp h420⟩, rfl⟩, f, upd (upd g (at0 + np + (pz dr dn)) ((dr (dn - 1)) - 48)) (at0 + np) 0, hw, hf0, (bl_upd (bl_upd hg0 (by omega)) (by omega)), fun _ => ⟨hf1, rN hz1.1 hf1 (sg_S rfl hg1 (by rw [pnm_top, if_pos ⟨by omega, h344⟩])) (Or.inr ⟨h374, rfl⟩) (Or.inl ⟨h401, rfl⟩)⟩, hk⟩) (by omega) (by omega) d_md_readPattern_428
                        · skip
                          refine lv_aload_n hx hb d_md_readPattern_404 rfl (lv_at hl 5 rfl) ?_
                          refine hm_get E (tB in_md) hK hH (hw.at 0 rfl) rfl 6 (by decide) (tC wm_373) rfl d_md_readPattern_405 ?_
                          refine lv_iload_n hx hb d_md_readPattern_408 rfl (lv_at hl 4 rfl) ?_
                          refine lv_aload_n hx hb d_md_readPattern_409 rfl (lv_at hl 5 rfl) ?_
                          refine hm_get E (tB in_md) hK hH (hw.at 0 rfl) rfl 3 (by decide) (tC wm_370) rfl d_md_readPattern_410 ?_
                          refine hn_iadd hx hb (a := at0) (b := np) d_md_readPattern_413 ?_
                          refine lv_iload_n hx hb d_md_readPattern_414 rfl (lv_at hl 3 rfl) ?_
                          refine hn_iadd hx hb (a := at0 + np) (b := pz dr dn) d_md_readPattern_415 ?_
                          refine lv_iconst (v := 0) hx hb d_md_readPattern_416 (by decide) ?_
                          refine hm_iast E hK hH 0 (hw.at 4 rfl) rfl (i := at0 + np + (pz dr dn)) (by omega) (by decide) d_md_readPattern_417 (fun H locs hH => ?_)
                          have hw := hw.set (ws' := [(y, .inr (4, [.int (nI th), .int (nI dn), .ref d, .int (nI np), .ref be, .ref sg, .ref nu, .int (nI bg), .int (nI nx), .ref fi, .ref le, .ref pl, .int (nI lf), .int (nI rt), .int (nI ln), .ref rw, .ref va, .int (bI ak)])), (d, aI G 200 dr), (be, aI G 8194 fb), (sg, aI G 40000 f), (nu, aI G 48200 (upd (upd (upd g (at0 + np + (pz dr dn)) ((dr (dn - 1)) - 48)) (at0 + np) 0) (at0 + np + (pz dr dn)) 0))]) (k := 4) rfl rfl
                          have hk := hk.wr (a := nu) (v := some (aI G 48200 (upd (upd (upd g (at0 + np + (pz dr dn)) ((dr (dn - 1)) - 48)) (at0 + np) 0) (at0 + np + (pz dr dn)) 0))) (by first | (right; assumption) | (left; simp; done))
                          generalize va_up M nu (some (aI G 48200 (upd (upd (upd g (at0 + np + (pz dr dn)) ((dr (dn - 1)) - 48)) (at0 + np) 0) (at0 + np + (pz dr dn)) 0))) = M at hH hw hk ⊢
                          refine lv_iload hx hb d_md_readPattern_418 (lv_at hl 2 rfl) ?_
                          refine hb_if_eq (b := gqP dr dn dn) hx hb (tgt := 427) d_md_readPattern_420 (by decide) (fun h420 => ?_) (fun h420 => ?_)
                          · skip
                            refine lv_iconst (v := 0) hx hb d_md_readPattern_427 (by decide) ?_
                            exact hm_iret E hr hlk hH (⟨Or.inr ⟨fun z => (by have h8 := gqP_iff.mpr z.2.2.2.2; rw [h420] at h8; cases h8), rfl⟩, f, upd (upd (upd g (at0 + np + (pz dr dn)) ((dr (dn - 1)) - 48)) (at0 + np) 0) (at0 + np + (pz dr dn)) 0, hw, hf0, (bl_upd (bl_upd (bl_upd hg0 (by omega)) (by omega)) (by omega)), fun _ => ⟨hf1, rN hz1.1 hf1 (sg_S rfl hg1 (by rw [pnm_top, if_pos ⟨by omega, h344⟩])) (Or.inr ⟨h374, rfl⟩) (Or.inr ⟨h401, rfl⟩)⟩, hk⟩) (by omega) (by omega) d_md_readPattern_428
                          · skip
                            refine lv_iload_n hx hb d_md_readPattern_423 rfl (lv_at hl 3 rfl) ?_
                            refine lv_goto (tgt := 428) hx hb d_md_readPattern_424 (by decide) ?_
                            exact hm_iret E hr hlk hH (⟨Or.inl ⟨⟨(gdP_iff.mp hgd).1, (gdP_iff.mp hgd).2, by omega, by omega, gqP_iff.mp h420⟩, rfl⟩, f, upd (upd (upd g (at0 + np + (pz dr dn)) ((dr (dn - 1)) - 48)) (at0 + np) 0) (at0 + np + (pz dr dn)) 0, hw, hf0, (bl_upd (bl_upd (bl_upd hg0 (by omega)) (by omega)) (by omega)), fun _ => ⟨hf1, rN hz1.1 hf1 (sg_S rfl hg1 (by rw [pnm_top, if_pos ⟨by omega, h344⟩])) (Or.inr ⟨h374, rfl⟩) (Or.inr ⟨h401, rfl⟩)⟩, hk⟩) (by omega) (by omega) d_md_readPattern_428
                  · skip
                    have hpi := pz_le dr i
                    refine lv_aload_n hx hb d_md_readPattern_193 rfl (lv_at hl 5 rfl) ?_
                    refine hm_get E (tB in_md) hK hH (hw.at 0 rfl) rfl 2 (by decide) (tC wm_369) rfl d_md_readPattern_194 ?_
                    refine lv_iload hx hb d_md_readPattern_197 (lv_at hl 0 rfl) ?_
                    refine hm_iald E hK hH 0 (hw.at 1 rfl) rfl (i := i) (by omega) (by decide) d_md_readPattern_199 ?_
                    have hM1 := c_md_isDigit l G (dr i) M H.size
                    have hG1 : GoodIn w_md_readPattern (wsS R_md 62 y_md_isDigit w_md_isDigit) := gB_S wm_443 wm_444 wm_5 wm_445
                    refine hm_call (va_runS (y := y_md_isDigit) (bytes := b_md_isDigit) (maxL := 1) (ws := w_md_isDigit) (rm := { frames := 0, cells := 0, slots := 0, locals := 0 }) (own := R_md) (index := 62) (ret := (Option.some Jvm.ClassFile.FieldType.boolean)) (As := [.int (dr i)]) (rest := []) E hM1 (cwS (y := y_md_isDigit) (bytes := b_md_isDigit) (maxL := 1) (ws := w_md_isDigit) (rm := { frames := 0, cells := 0, slots := 0, locals := 0 }) (own := R_md) (index := 62) (ret := (Option.some Jvm.ClassFile.FieldType.boolean)) 1 hts hG1 rfl rfl rfl (by decide +kernel) ⟨Nat.le_of_ble_eq_true rfl, Nat.le_of_ble_eq_true rfl⟩) (hm_preS gk_w gk_s hH hg [.int (dr i)]) rfl rfl hl.1 rfl (lv_room (Nat.le_of_ble_eq_true rfl)) d_md_readPattern_200 ⟨(by show _ ≤ 0; omega), (by show _ ≤ 0; omega)⟩) hH (fun r1 M1 H1 locs1 hq1 hH1 => ?_)
                    obtain ⟨rfl, e1⟩ := hq1
                    replace hH := hH1; rw [e1] at hH; clear hH1 e1; generalize H1 = H at hH ⊢; generalize locs1 = locs at hH ⊢
                    refine hb_if_ne (b := isDg (dr i)) hx hb (tgt := 312) d_md_readPattern_203 (by decide) (fun h203 => ?_) (fun h203 => ?_)
                    · skip
                      refine lv_iinc (v := nI (i + 1)) (lv' := [(6, .int (nI (i + 1))), (5, .int (nI (pz dr i))), (4, .int (bI (gqP dr dn i))), (3, .int (nI (pz dr dn))), (1, .int (nI at0)), (0, .ref y)]) hx hb d_md_readPattern_312 hl (k := 0) rfl (by first | exact nI_add _ 1 | (show nI _ + nI _ = _; rw [nI_add])) (by decide) rfl (fun ls hl => ?_)
                      refine lv_goto (tgt := 184) hx hb d_md_readPattern_315 (by decide) ?_
                      have e2 : pz dr (i + 1) = pz dr i := by simp [pz, h203]
                      exact ih (i + 1) f g M _ _ _ (by omega) (by omega) hf0 (by rw [e2]; exact hf1) hg0 (by rw [e2]; exact hg1) hw hk hH (lv_cv (lv_sub hl [0, 1, 2, 3, 4, 5] rfl) (by rw [e2]; simp [gqP, h203] <;> rfl))
                    · skip
                      refine lv_iload hx hb d_md_readPattern_206 (lv_at hl 2 rfl) ?_
                      refine hb_if_eq (b := gqP dr dn i) hx hb (tgt := 240) d_md_readPattern_208 (by decide) (fun h208 => ?_) (fun h208 => ?_)
                      · skip
                        refine lv_iconst (v := 0) hx hb d_md_readPattern_240 (by decide) ?_
                        refine lv_istore (lv' := [(4, .int 0), (6, .int (nI i)), (5, .int (nI (pz dr i))), (3, .int (nI (pz dr dn))), (1, .int (nI at0)), (0, .ref y)]) hx hb d_md_readPattern_241 hl (by decide) rfl (fun ls hl => ?_)
                        refine lv_aload_n hx hb d_md_readPattern_243 rfl (lv_at hl 5 rfl) ?_
                        refine hm_get E (tB in_md) hK hH (hw.at 0 rfl) rfl 5 (by decide) (tC wm_372) rfl d_md_readPattern_244 ?_
                        refine lv_iload_n hx hb d_md_readPattern_247 rfl (lv_at hl 4 rfl) ?_
                        refine lv_iload hx hb d_md_readPattern_248 (lv_at hl 2 rfl) ?_
                        refine hn_iadd hx hb (a := at0) (b := pz dr i) d_md_readPattern_250 ?_
                        refine lv_aload_n hx hb d_md_readPattern_251 rfl (lv_at hl 5 rfl) ?_
                        refine hm_get E (tB in_md) hK hH (hw.at 0 rfl) rfl 2 (by decide) (tC wm_369) rfl d_md_readPattern_252 ?_
                        refine lv_iload hx hb d_md_readPattern_255 (lv_at hl 1 rfl) ?_
                        refine hm_iald E hK hH 0 (hw.at 1 rfl) rfl (i := i) (by omega) (by decide) d_md_readPattern_257 ?_
                        refine hm_iast E hK hH 0 (hw.at 3 rfl) rfl (i := at0 + (pz dr i)) (by omega) (by decide) d_md_readPattern_258 (fun H locs hH => ?_)
                        have hw := hw.set (ws' := [(y, .inr (4, [.int (nI th), .int (nI dn), .ref d, .int (nI np), .ref be, .ref sg, .ref nu, .int (nI bg), .int (nI nx), .ref fi, .ref le, .ref pl, .int (nI lf), .int (nI rt), .int (nI ln), .ref rw, .ref va, .int (bI ak)])), (d, aI G 200 dr), (be, aI G 8194 fb), (sg, aI G 40000 (upd f (at0 + (pz dr i)) (dr i))), (nu, aI G 48200 g)]) (k := 3) rfl rfl
                        have hk := hk.wr (a := sg) (v := some (aI G 40000 (upd f (at0 + (pz dr i)) (dr i)))) (by first | (right; assumption) | (left; simp; done))
                        generalize va_up M sg (some (aI G 40000 (upd f (at0 + (pz dr i)) (dr i)))) = M at hH hw hk ⊢
                        refine lv_aload_n hx hb d_md_readPattern_259 rfl (lv_at hl 5 rfl) ?_
                        refine hm_get E (tB in_md) hK hH (hw.at 0 rfl) rfl 6 (by decide) (tC wm_373) rfl d_md_readPattern_260 ?_
                        refine lv_iload_n hx hb d_md_readPattern_263 rfl (lv_at hl 4 rfl) ?_
                        refine lv_aload_n hx hb d_md_readPattern_264 rfl (lv_at hl 5 rfl) ?_
                        refine hm_get E (tB in_md) hK hH (hw.at 0 rfl) rfl 3 (by decide) (tC wm_370) rfl d_md_readPattern_265 ?_
                        refine hn_iadd hx hb (a := at0) (b := np) d_md_readPattern_268 ?_
                        refine lv_iload hx hb d_md_readPattern_269 (lv_at hl 2 rfl) ?_
                        refine hn_iadd hx hb (a := at0 + np) (b := pz dr i) d_md_readPattern_271 ?_
                        refine lv_iload hx hb d_md_readPattern_272 (lv_at hl 1 rfl) ?_
                        refine hn_if_le (a := i) hx hb (by omega) (tgt := 307) d_md_readPattern_274 (by decide) (fun h274 => ?_) (fun h274 => ?_)
                        · skip
                          refine lv_iconst (v := 0) hx hb d_md_readPattern_307 (by decide) ?_
                          refine hm_iast E hK hH 0 (hw.at 4 rfl) rfl (i := at0 + np + (pz dr i)) (by omega) (by decide) d_md_readPattern_308 (fun H locs hH => ?_)
                          have hw := hw.set (ws' := [(y, .inr (4, [.int (nI th), .int (nI dn), .ref d, .int (nI np), .ref be, .ref sg, .ref nu, .int (nI bg), .int (nI nx), .ref fi, .ref le, .ref pl, .int (nI lf), .int (nI rt), .int (nI ln), .ref rw, .ref va, .int (bI ak)])), (d, aI G 200 dr), (be, aI G 8194 fb), (sg, aI G 40000 (upd f (at0 + (pz dr i)) (dr i))), (nu, aI G 48200 (upd g (at0 + np + (pz dr i)) 0))]) (k := 4) rfl rfl
                          have hk := hk.wr (a := nu) (v := some (aI G 48200 (upd g (at0 + np + (pz dr i)) 0))) (by first | (right; assumption) | (left; simp; done))
                          generalize va_up M nu (some (aI G 48200 (upd g (at0 + np + (pz dr i)) 0))) = M at hH hw hk ⊢
                          refine lv_iinc (v := nI (pz dr i + 1)) (lv' := [(5, .int (nI (pz dr i + 1))), (4, .int 0), (6, .int (nI i)), (3, .int (nI (pz dr dn))), (1, .int (nI at0)), (0, .ref y)]) hx hb d_md_readPattern_309 hl (k := 2) rfl (by first | exact nI_add _ 1 | (show nI _ + nI _ = _; rw [nI_add])) (by decide) rfl (fun ls hl => ?_)
                          refine lv_iinc (v := nI (i + 1)) (lv' := [(6, .int (nI (i + 1))), (5, .int (nI (pz dr i + 1))), (4, .int 0), (3, .int (nI (pz dr dn))), (1, .int (nI at0)), (0, .ref y)]) hx hb d_md_readPattern_312 hl (k := 2) rfl (by first | exact nI_add _ 1 | (show nI _ + nI _ = _; rw [nI_add])) (by decide) rfl (fun ls hl => ?_)
                          refine lv_goto (tgt := 184) hx hb d_md_readPattern_315 (by decide) ?_
                          have e2 : pz dr (i + 1) = pz dr i + 1 := by simp [pz, h203]
                          exact ih (i + 1) (upd f (at0 + (pz dr i)) (dr i)) (upd g (at0 + np + (pz dr i)) 0) M _ _ _ (by omega) (by omega) (bl_upd hf0 (by omega)) (sg_S e2 hf1 (psg_at (by omega) h203).symm) (bl_upd hg0 (by omega)) (sg_S e2 hg1 (num_n (by omega) h203 (fun z => absurd z.1 (by omega)))) hw hk hH (lv_cv (lv_sub hl [0, 1, 2, 3, 4, 5] rfl) (by rw [e2]; simp [gqP, bI_t, bI_f, h203, h208] <;> rfl))
                        · skip
                          refine lv_aload_n hx hb d_md_readPattern_277 rfl (lv_at hl 5 rfl) ?_
                          refine hm_get E (tB in_md) hK hH (hw.at 0 rfl) rfl 2 (by decide) (tC wm_369) rfl d_md_readPattern_278 ?_
                          refine lv_iload hx hb d_md_readPattern_281 (lv_at hl 1 rfl) ?_
                          refine lv_iconst (v := 1) hx hb d_md_readPattern_283 (by decide) ?_
                          refine hn_isub hx hb (a := i) (b := 1) (by omega) d_md_readPattern_284 ?_
                          refine hm_iald E hK hH 0 (hw.at 1 rfl) rfl (i := i - 1) (by omega) (by decide) d_md_readPattern_285 ?_
                          have hM1 := c_md_isDigit l G (dr (i - 1)) M H.size
                          have hG1 : GoodIn w_md_readPattern (wsS R_md 62 y_md_isDigit w_md_isDigit) := gB_S wm_443 wm_444 wm_5 wm_445
                          refine hm_call (va_runS (y := y_md_isDigit) (bytes := b_md_isDigit) (maxL := 1) (ws := w_md_isDigit) (rm := { frames := 0, cells := 0, slots := 0, locals := 0 }) (own := R_md) (index := 62) (ret := (Option.some Jvm.ClassFile.FieldType.boolean)) (As := [.int (dr (i - 1))]) (rest := [.int (nI (at0 + np + (pz dr i))), .ref nu]) E hM1 (cwS (y := y_md_isDigit) (bytes := b_md_isDigit) (maxL := 1) (ws := w_md_isDigit) (rm := { frames := 0, cells := 0, slots := 0, locals := 0 }) (own := R_md) (index := 62) (ret := (Option.some Jvm.ClassFile.FieldType.boolean)) 1 hts hG1 rfl rfl rfl (by decide +kernel) ⟨Nat.le_of_ble_eq_true rfl, Nat.le_of_ble_eq_true rfl⟩) (hm_preS gk_w gk_s hH hg [.int (dr (i - 1))]) rfl rfl hl.1 rfl (lv_room (Nat.le_of_ble_eq_true rfl)) d_md_readPattern_286 ⟨(by show _ ≤ 0; omega), (by show _ ≤ 0; omega)⟩) hH (fun r1 M1 H1 locs1 hq1 hH1 => ?_)
                          obtain ⟨rfl, e1⟩ := hq1
                          replace hH := hH1; rw [e1] at hH; clear hH1 e1; generalize H1 = H at hH ⊢; generalize locs1 = locs at hH ⊢
                          refine hb_if_eq (b := isDg (dr (i - 1))) hx hb (tgt := 307) d_md_readPattern_289 (by decide) (fun h289 => ?_) (fun h289 => ?_)
                          · skip
                            refine lv_iconst (v := 0) hx hb d_md_readPattern_307 (by decide) ?_
                            refine hm_iast E hK hH 0 (hw.at 4 rfl) rfl (i := at0 + np + (pz dr i)) (by omega) (by decide) d_md_readPattern_308 (fun H locs hH => ?_)
                            have hw := hw.set (ws' := [(y, .inr (4, [.int (nI th), .int (nI dn), .ref d, .int (nI np), .ref be, .ref sg, .ref nu, .int (nI bg), .int (nI nx), .ref fi, .ref le, .ref pl, .int (nI lf), .int (nI rt), .int (nI ln), .ref rw, .ref va, .int (bI ak)])), (d, aI G 200 dr), (be, aI G 8194 fb), (sg, aI G 40000 (upd f (at0 + (pz dr i)) (dr i))), (nu, aI G 48200 (upd g (at0 + np + (pz dr i)) 0))]) (k := 4) rfl rfl
                            have hk := hk.wr (a := nu) (v := some (aI G 48200 (upd g (at0 + np + (pz dr i)) 0))) (by first | (right; assumption) | (left; simp; done))
                            generalize va_up M nu (some (aI G 48200 (upd g (at0 + np + (pz dr i)) 0))) = M at hH hw hk ⊢
                            refine lv_iinc (v := nI (pz dr i + 1)) (lv' := [(5, .int (nI (pz dr i + 1))), (4, .int 0), (6, .int (nI i)), (3, .int (nI (pz dr dn))), (1, .int (nI at0)), (0, .ref y)]) hx hb d_md_readPattern_309 hl (k := 2) rfl (by first | exact nI_add _ 1 | (show nI _ + nI _ = _; rw [nI_add])) (by decide) rfl (fun ls hl => ?_)
                            refine lv_iinc (v := nI (i + 1)) (lv' := [(6, .int (nI (i + 1))), (5, .int (nI (pz dr i + 1))), (4, .int 0), (3, .int (nI (pz dr dn))), (1, .int (nI at0)), (0, .ref y)]) hx hb d_md_readPattern_312 hl (k := 2) rfl (by first | exact nI_add _ 1 | (show nI _ + nI _ = _; rw [nI_add])) (by decide) rfl (fun ls hl => ?_)
                            refine lv_goto (tgt := 184) hx hb d_md_readPattern_315 (by decide) ?_
                            have e2 : pz dr (i + 1) = pz dr i + 1 := by simp [pz, h203]
                            exact ih (i + 1) (upd f (at0 + (pz dr i)) (dr i)) (upd g (at0 + np + (pz dr i)) 0) M _ _ _ (by omega) (by omega) (bl_upd hf0 (by omega)) (sg_S e2 hf1 (psg_at (by omega) h203).symm) (bl_upd hg0 (by omega)) (sg_S e2 hg1 (num_n (by omega) h203 (fun z => by have h8 := z.2; rw [h289] at h8; cases h8))) hw hk hH (lv_cv (lv_sub hl [0, 1, 2, 3, 4, 5] rfl) (by rw [e2]; simp [gqP, bI_t, bI_f, h203, h208] <;> rfl))
                          · skip
                            refine lv_aload_n hx hb d_md_readPattern_292 rfl (lv_at hl 5 rfl) ?_
                            refine hm_get E (tB in_md) hK hH (hw.at 0 rfl) rfl 2 (by decide) (tC wm_369) rfl d_md_readPattern_293 ?_
                            refine lv_iload hx hb d_md_readPattern_296 (lv_at hl 1 rfl) ?_
                            refine lv_iconst (v := 1) hx hb d_md_readPattern_298 (by decide) ?_
                            refine hn_isub hx hb (a := i) (b := 1) (by omega) d_md_readPattern_299 ?_
                            refine hm_iald E hK hH 0 (hw.at 1 rfl) rfl (i := i - 1) (by omega) (by decide) d_md_readPattern_300 ?_
                            refine lv_bipush (v := 48) hx hb d_md_readPattern_301 (by decide) ?_
                            refine lv_isub hx hb d_md_readPattern_303 ?_
                            refine lv_goto (tgt := 308) hx hb d_md_readPattern_304 (by decide) ?_
                            refine hm_iast E hK hH 0 (hw.at 4 rfl) rfl (i := at0 + np + (pz dr i)) (by omega) (by decide) d_md_readPattern_308 (fun H locs hH => ?_)
                            have hw := hw.set (ws' := [(y, .inr (4, [.int (nI th), .int (nI dn), .ref d, .int (nI np), .ref be, .ref sg, .ref nu, .int (nI bg), .int (nI nx), .ref fi, .ref le, .ref pl, .int (nI lf), .int (nI rt), .int (nI ln), .ref rw, .ref va, .int (bI ak)])), (d, aI G 200 dr), (be, aI G 8194 fb), (sg, aI G 40000 (upd f (at0 + (pz dr i)) (dr i))), (nu, aI G 48200 (upd g (at0 + np + (pz dr i)) ((dr (i - 1)) - 48)))]) (k := 4) rfl rfl
                            have hk := hk.wr (a := nu) (v := some (aI G 48200 (upd g (at0 + np + (pz dr i)) ((dr (i - 1)) - 48)))) (by first | (right; assumption) | (left; simp; done))
                            generalize va_up M nu (some (aI G 48200 (upd g (at0 + np + (pz dr i)) ((dr (i - 1)) - 48)))) = M at hH hw hk ⊢
                            refine lv_iinc (v := nI (pz dr i + 1)) (lv' := [(5, .int (nI (pz dr i + 1))), (4, .int 0), (6, .int (nI i)), (3, .int (nI (pz dr dn))), (1, .int (nI at0)), (0, .ref y)]) hx hb d_md_readPattern_309 hl (k := 2) rfl (by first | exact nI_add _ 1 | (show nI _ + nI _ = _; rw [nI_add])) (by decide) rfl (fun ls hl => ?_)
                            refine lv_iinc (v := nI (i + 1)) (lv' := [(6, .int (nI (i + 1))), (5, .int (nI (pz dr i + 1))), (4, .int 0), (3, .int (nI (pz dr dn))), (1, .int (nI at0)), (0, .ref y)]) hx hb d_md_readPattern_312 hl (k := 2) rfl (by first | exact nI_add _ 1 | (show nI _ + nI _ = _; rw [nI_add])) (by decide) rfl (fun ls hl => ?_)
                            refine lv_goto (tgt := 184) hx hb d_md_readPattern_315 (by decide) ?_
                            have e2 : pz dr (i + 1) = pz dr i + 1 := by simp [pz, h203]
                            exact ih (i + 1) (upd f (at0 + (pz dr i)) (dr i)) (upd g (at0 + np + (pz dr i)) ((dr (i - 1)) - 48)) M _ _ _ (by omega) (by omega) (bl_upd hf0 (by omega)) (sg_S e2 hf1 (psg_at (by omega) h203).symm) (bl_upd hg0 (by omega)) (sg_S e2 hg1 (num_y (by omega) h203 (by omega) h289)) hw hk hH (lv_cv (lv_sub hl [0, 1, 2, 3, 4, 5] rfl) (by rw [e2]; simp [gqP, bI_t, bI_f, h203, h208] <;> rfl))
                      · skip
                        refine lv_aload_n hx hb d_md_readPattern_211 rfl (lv_at hl 5 rfl) ?_
                        refine hm_get E (tB in_md) hK hH (hw.at 0 rfl) rfl 2 (by decide) (tC wm_369) rfl d_md_readPattern_212 ?_
                        refine lv_iload hx hb d_md_readPattern_215 (lv_at hl 0 rfl) ?_
                        refine hm_iald E hK hH 0 (hw.at 1 rfl) rfl (i := i) (by omega) (by decide) d_md_readPattern_217 ?_
                        refine lv_bipush (v := 46) hx hb d_md_readPattern_218 (by decide) ?_
                        refine hc_icmp_ne (x := dr i) (y := 46) (c9 := 46) hx hb (by decide) (tgt := 236) d_md_readPattern_220 (by decide) (fun h220 => ?_) (fun h220 => ?_)
                        · skip
                          refine lv_iconst (v := 1) hx hb d_md_readPattern_236 (by decide) ?_
                          refine lv_goto (tgt := 241) hx hb d_md_readPattern_237 (by decide) ?_
                          refine lv_istore (lv' := [(4, .int 1), (6, .int (nI i)), (5, .int (nI (pz dr i))), (3, .int (nI (pz dr dn))), (1, .int (nI at0)), (0, .ref y)]) hx hb d_md_readPattern_241 hl (by decide) rfl (fun ls hl => ?_)
                          refine lv_aload_n hx hb d_md_readPattern_243 rfl (lv_at hl 5 rfl) ?_
                          refine hm_get E (tB in_md) hK hH (hw.at 0 rfl) rfl 5 (by decide) (tC wm_372) rfl d_md_readPattern_244 ?_
                          refine lv_iload_n hx hb d_md_readPattern_247 rfl (lv_at hl 4 rfl) ?_
                          refine lv_iload hx hb d_md_readPattern_248 (lv_at hl 2 rfl) ?_
                          refine hn_iadd hx hb (a := at0) (b := pz dr i) d_md_readPattern_250 ?_
                          refine lv_aload_n hx hb d_md_readPattern_251 rfl (lv_at hl 5 rfl) ?_
                          refine hm_get E (tB in_md) hK hH (hw.at 0 rfl) rfl 2 (by decide) (tC wm_369) rfl d_md_readPattern_252 ?_
                          refine lv_iload hx hb d_md_readPattern_255 (lv_at hl 1 rfl) ?_
                          refine hm_iald E hK hH 0 (hw.at 1 rfl) rfl (i := i) (by omega) (by decide) d_md_readPattern_257 ?_
                          refine hm_iast E hK hH 0 (hw.at 3 rfl) rfl (i := at0 + (pz dr i)) (by omega) (by decide) d_md_readPattern_258 (fun H locs hH => ?_)
                          have hw := hw.set (ws' := [(y, .inr (4, [.int (nI th), .int (nI dn), .ref d, .int (nI np), .ref be, .ref sg, .ref nu, .int (nI bg), .int (nI nx), .ref fi, .ref le, .ref pl, .int (nI lf), .int (nI rt), .int (nI ln), .ref rw, .ref va, .int (bI ak)])), (d, aI G 200 dr), (be, aI G 8194 fb), (sg, aI G 40000 (upd f (at0 + (pz dr i)) (dr i))), (nu, aI G 48200 g)]) (k := 3) rfl rfl
                          have hk := hk.wr (a := sg) (v := some (aI G 40000 (upd f (at0 + (pz dr i)) (dr i)))) (by first | (right; assumption) | (left; simp; done))
                          generalize va_up M sg (some (aI G 40000 (upd f (at0 + (pz dr i)) (dr i)))) = M at hH hw hk ⊢
                          refine lv_aload_n hx hb d_md_readPattern_259 rfl (lv_at hl 5 rfl) ?_
                          refine hm_get E (tB in_md) hK hH (hw.at 0 rfl) rfl 6 (by decide) (tC wm_373) rfl d_md_readPattern_260 ?_
                          refine lv_iload_n hx hb d_md_readPattern_263 rfl (lv_at hl 4 rfl) ?_
                          refine lv_aload_n hx hb d_md_readPattern_264 rfl (lv_at hl 5 rfl) ?_
                          refine hm_get E (tB in_md) hK hH (hw.at 0 rfl) rfl 3 (by decide) (tC wm_370) rfl d_md_readPattern_265 ?_
                          refine hn_iadd hx hb (a := at0) (b := np) d_md_readPattern_268 ?_
                          refine lv_iload hx hb d_md_readPattern_269 (lv_at hl 2 rfl) ?_
                          refine hn_iadd hx hb (a := at0 + np) (b := pz dr i) d_md_readPattern_271 ?_
                          refine lv_iload hx hb d_md_readPattern_272 (lv_at hl 1 rfl) ?_
                          refine hn_if_le (a := i) hx hb (by omega) (tgt := 307) d_md_readPattern_274 (by decide) (fun h274 => ?_) (fun h274 => ?_)
                          · skip
                            refine lv_iconst (v := 0) hx hb d_md_readPattern_307 (by decide) ?_
                            refine hm_iast E hK hH 0 (hw.at 4 rfl) rfl (i := at0 + np + (pz dr i)) (by omega) (by decide) d_md_readPattern_308 (fun H locs hH => ?_)
                            have hw := hw.set (ws' := [(y, .inr (4, [.int (nI th), .int (nI dn), .ref d, .int (nI np), .ref be, .ref sg, .ref nu, .int (nI bg), .int (nI nx), .ref fi, .ref le, .ref pl, .int (nI lf), .int (nI rt), .int (nI ln), .ref rw, .ref va, .int (bI ak)])), (d, aI G 200 dr), (be, aI G 8194 fb), (sg, aI G 40000 (upd f (at0 + (pz dr i)) (dr i))), (nu, aI G 48200 (upd g (at0 + np + (pz dr i)) 0))]) (k := 4) rfl rfl
                            have hk := hk.wr (a := nu) (v := some (aI G 48200 (upd g (at0 + np + (pz dr i)) 0))) (by first | (right; assumption) | (left; simp; done))
                            generalize va_up M nu (some (aI G 48200 (upd g (at0 + np + (pz dr i)) 0))) = M at hH hw hk ⊢
                            refine lv_iinc (v := nI (pz dr i + 1)) (lv' := [(5, .int (nI (pz dr i + 1))), (4, .int 1), (6, .int (nI i)), (3, .int (nI (pz dr dn))), (1, .int (nI at0)), (0, .ref y)]) hx hb d_md_readPattern_309 hl (k := 2) rfl (by first | exact nI_add _ 1 | (show nI _ + nI _ = _; rw [nI_add])) (by decide) rfl (fun ls hl => ?_)
                            refine lv_iinc (v := nI (i + 1)) (lv' := [(6, .int (nI (i + 1))), (5, .int (nI (pz dr i + 1))), (4, .int 1), (3, .int (nI (pz dr dn))), (1, .int (nI at0)), (0, .ref y)]) hx hb d_md_readPattern_312 hl (k := 2) rfl (by first | exact nI_add _ 1 | (show nI _ + nI _ = _; rw [nI_add])) (by decide) rfl (fun ls hl => ?_)
                            refine lv_goto (tgt := 184) hx hb d_md_readPattern_315 (by decide) ?_
                            have e2 : pz dr (i + 1) = pz dr i + 1 := by simp [pz, h203]
                            exact ih (i + 1) (upd f (at0 + (pz dr i)) (dr i)) (upd g (at0 + np + (pz dr i)) 0) M _ _ _ (by omega) (by omega) (bl_upd hf0 (by omega)) (sg_S e2 hf1 (psg_at (by omega) h203).symm) (bl_upd hg0 (by omega)) (sg_S e2 hg1 (num_n (by omega) h203 (fun z => absurd z.1 (by omega)))) hw hk hH (lv_cv (lv_sub hl [0, 1, 2, 3, 4, 5] rfl) (by rw [e2]; simp [gqP, bI_t, bI_f, h203, h208, h220] <;> rfl))
                          · skip
                            refine lv_aload_n hx hb d_md_readPattern_277 rfl (lv_at hl 5 rfl) ?_
                            refine hm_get E (tB in_md) hK hH (hw.at 0 rfl) rfl 2 (by decide) (tC wm_369) rfl d_md_readPattern_278 ?_
                            refine lv_iload hx hb d_md_readPattern_281 (lv_at hl 1 rfl) ?_
                            refine lv_iconst (v := 1) hx hb d_md_readPattern_283 (by decide) ?_
                            refine hn_isub hx hb (a := i) (b := 1) (by omega) d_md_readPattern_284 ?_
                            refine hm_iald E hK hH 0 (hw.at 1 rfl) rfl (i := i - 1) (by omega) (by decide) d_md_readPattern_285 ?_
                            have hM1 := c_md_isDigit l G (dr (i - 1)) M H.size
                            have hG1 : GoodIn w_md_readPattern (wsS R_md 62 y_md_isDigit w_md_isDigit) := gB_S wm_443 wm_444 wm_5 wm_445
                            refine hm_call (va_runS (y := y_md_isDigit) (bytes := b_md_isDigit) (maxL := 1) (ws := w_md_isDigit) (rm := { frames := 0, cells := 0, slots := 0, locals := 0 }) (own := R_md) (index := 62) (ret := (Option.some Jvm.ClassFile.FieldType.boolean)) (As := [.int (dr (i - 1))]) (rest := [.int (nI (at0 + np + (pz dr i))), .ref nu]) E hM1 (cwS (y := y_md_isDigit) (bytes := b_md_isDigit) (maxL := 1) (ws := w_md_isDigit) (rm := { frames := 0, cells := 0, slots := 0, locals := 0 }) (own := R_md) (index := 62) (ret := (Option.some Jvm.ClassFile.FieldType.boolean)) 1 hts hG1 rfl rfl rfl (by decide +kernel) ⟨Nat.le_of_ble_eq_true rfl, Nat.le_of_ble_eq_true rfl⟩) (hm_preS gk_w gk_s hH hg [.int (dr (i - 1))]) rfl rfl hl.1 rfl (lv_room (Nat.le_of_ble_eq_true rfl)) d_md_readPattern_286 ⟨(by show _ ≤ 0; omega), (by show _ ≤ 0; omega)⟩) hH (fun r1 M1 H1 locs1 hq1 hH1 => ?_)
                            obtain ⟨rfl, e1⟩ := hq1
                            replace hH := hH1; rw [e1] at hH; clear hH1 e1; generalize H1 = H at hH ⊢; generalize locs1 = locs at hH ⊢
                            refine hb_if_eq (b := isDg (dr (i - 1))) hx hb (tgt := 307) d_md_readPattern_289 (by decide) (fun h289 => ?_) (fun h289 => ?_)
                            · skip
                              refine lv_iconst (v := 0) hx hb d_md_readPattern_307 (by decide) ?_
                              refine hm_iast E hK hH 0 (hw.at 4 rfl) rfl (i := at0 + np + (pz dr i)) (by omega) (by decide) d_md_readPattern_308 (fun H locs hH => ?_)
                              have hw := hw.set (ws' := [(y, .inr (4, [.int (nI th), .int (nI dn), .ref d, .int (nI np), .ref be, .ref sg, .ref nu, .int (nI bg), .int (nI nx), .ref fi, .ref le, .ref pl, .int (nI lf), .int (nI rt), .int (nI ln), .ref rw, .ref va, .int (bI ak)])), (d, aI G 200 dr), (be, aI G 8194 fb), (sg, aI G 40000 (upd f (at0 + (pz dr i)) (dr i))), (nu, aI G 48200 (upd g (at0 + np + (pz dr i)) 0))]) (k := 4) rfl rfl
                              have hk := hk.wr (a := nu) (v := some (aI G 48200 (upd g (at0 + np + (pz dr i)) 0))) (by first | (right; assumption) | (left; simp; done))
                              generalize va_up M nu (some (aI G 48200 (upd g (at0 + np + (pz dr i)) 0))) = M at hH hw hk ⊢
                              refine lv_iinc (v := nI (pz dr i + 1)) (lv' := [(5, .int (nI (pz dr i + 1))), (4, .int 1), (6, .int (nI i)), (3, .int (nI (pz dr dn))), (1, .int (nI at0)), (0, .ref y)]) hx hb d_md_readPattern_309 hl (k := 2) rfl (by first | exact nI_add _ 1 | (show nI _ + nI _ = _; rw [nI_add])) (by decide) rfl (fun ls hl => ?_)
                              refine lv_iinc (v := nI (i + 1)) (lv' := [(6, .int (nI (i + 1))), (5, .int (nI (pz dr i + 1))), (4, .int 1), (3, .int (nI (pz dr dn))), (1, .int (nI at0)), (0, .ref y)]) hx hb d_md_readPattern_312 hl (k := 2) rfl (by first | exact nI_add _ 1 | (show nI _ + nI _ = _; rw [nI_add])) (by decide) rfl (fun ls hl => ?_)
                              refine lv_goto (tgt := 184) hx hb d_md_readPattern_315 (by decide) ?_
                              have e2 : pz dr (i + 1) = pz dr i + 1 := by simp [pz, h203]
                              exact ih (i + 1) (upd f (at0 + (pz dr i)) (dr i)) (upd g (at0 + np + (pz dr i)) 0) M _ _ _ (by omega) (by omega) (bl_upd hf0 (by omega)) (sg_S e2 hf1 (psg_at (by omega) h203).symm) (bl_upd hg0 (by omega)) (sg_S e2 hg1 (num_n (by omega) h203 (fun z => by have h8 := z.2; rw [h289] at h8; cases h8))) hw hk hH (lv_cv (lv_sub hl [0, 1, 2, 3, 4, 5] rfl) (by rw [e2]; simp [gqP, bI_t, bI_f, h203, h208, h220] <;> rfl))
                            · skip
                              refine lv_aload_n hx hb d_md_readPattern_292 rfl (lv_at hl 5 rfl) ?_
                              refine hm_get E (tB in_md) hK hH (hw.at 0 rfl) rfl 2 (by decide) (tC wm_369) rfl d_md_readPattern_293 ?_
                              refine lv_iload hx hb d_md_readPattern_296 (lv_at hl 1 rfl) ?_
                              refine lv_iconst (v := 1) hx hb d_md_readPattern_298 (by decide) ?_
                              refine hn_isub hx hb (a := i) (b := 1) (by omega) d_md_readPattern_299 ?_
                              refine hm_iald E hK hH 0 (hw.at 1 rfl) rfl (i := i - 1) (by omega) (by decide) d_md_readPattern_300 ?_
                              refine lv_bipush (v := 48) hx hb d_md_readPattern_301 (by decide) ?_
                              refine lv_isub hx hb d_md_readPattern_303 ?_
                              refine lv_goto (tgt := 308) hx hb d_md_readPattern_304 (by decide) ?_
                              refine hm_iast E hK hH 0 (hw.at 4 rfl) rfl (i := at0 + np + (pz dr i)) (by omega) (by decide) d_md_readPattern_308 (fun H locs hH => ?_)
                              have hw := hw.set (ws' := [(y, .inr (4, [.int (nI th), .int (nI dn), .ref d, .int (nI np), .ref be, .ref sg, .ref nu, .int (nI bg), .int (nI nx), .ref fi, .ref le, .ref pl, .int (nI lf), .int (nI rt), .int (nI ln), .ref rw, .ref va, .int (bI ak)])), (d, aI G 200 dr), (be, aI G 8194 fb), (sg, aI G 40000 (upd f (at0 + (pz dr i)) (dr i))), (nu, aI G 48200 (upd g (at0 + np + (pz dr i)) ((dr (i - 1)) - 48)))]) (k := 4) rfl rfl
                              have hk := hk.wr (a := nu) (v := some (aI G 48200 (upd g (at0 + np + (pz dr i)) ((dr (i - 1)) - 48)))) (by first | (right; assumption) | (left; simp; done))
                              generalize va_up M nu (some (aI G 48200 (upd g (at0 + np + (pz dr i)) ((dr (i - 1)) - 48)))) = M at hH hw hk ⊢
                              refine lv_iinc (v := nI (pz dr i + 1)) (lv' := [(5, .int (nI (pz dr i + 1))), (4, .int 1), (6, .int (nI i)), (3, .int (nI (pz dr dn))), (1, .int (nI at0)), (0, .ref y)]) hx hb d_md_readPattern_309 hl (k := 2) rfl (by first | exact nI_add _ 1 | (show nI _ + nI _ = _; rw [nI_add])) (by decide) rfl (fun ls hl => ?_)
                              refine lv_iinc (v := nI (i + 1)) (lv' := [(6, .int (nI (i + 1))), (5, .int (nI (pz dr i + 1))), (4, .int 1), (3, .int (nI (pz dr dn))), (1, .int (nI at0)), (0, .ref y)]) hx hb d_md_readPattern_312 hl (k := 2) rfl (by first | exact nI_add _ 1 | (show nI _ + nI _ = _; rw [nI_add])) (by decide) rfl (fun ls hl => ?_)
                              refine lv_goto (tgt := 184) hx hb d_md_readPattern_315 (by decide) ?_
                              have e2 : pz dr (i + 1) = pz dr i + 1 := by simp [pz, h203]
                              exact ih (i + 1) (upd f (at0 + (pz dr i)) (dr i)) (upd g (at0 + np + (pz dr i)) ((dr (i - 1)) - 48)) M _ _ _ (by omega) (by omega) (bl_upd hf0 (by omega)) (sg_S e2 hf1 (psg_at (by omega) h203).symm) (bl_upd hg0 (by omega)) (sg_S e2 hg1 (num_y (by omega) h203 (by omega) h289)) hw hk hH (lv_cv (lv_sub hl [0, 1, 2, 3, 4, 5] rfl) (by rw [e2]; simp [gqP, bI_t, bI_f, h203, h208, h220] <;> rfl))
                        · skip
                          refine lv_iload hx hb d_md_readPattern_223 (lv_at hl 1 rfl) ?_
                          refine hn_if_eq (a := pz dr i) hx hb (by omega) (tgt := 236) d_md_readPattern_225 (by decide) (fun h225 => ?_) (fun h225 => ?_)
                          · skip
                            refine lv_iconst (v := 1) hx hb d_md_readPattern_236 (by decide) ?_
                            refine lv_goto (tgt := 241) hx hb d_md_readPattern_237 (by decide) ?_
                            refine lv_istore (lv' := [(4, .int 1), (6, .int (nI i)), (5, .int (nI (pz dr i))), (3, .int (nI (pz dr dn))), (1, .int (nI at0)), (0, .ref y)]) hx hb d_md_readPattern_241 hl (by decide) rfl (fun ls hl => ?_)
                            refine lv_aload_n hx hb d_md_readPattern_243 rfl (lv_at hl 5 rfl) ?_
                            refine hm_get E (tB in_md) hK hH (hw.at 0 rfl) rfl 5 (by decide) (tC wm_372) rfl d_md_readPattern_244 ?_
                            refine lv_iload_n hx hb d_md_readPattern_247 rfl (lv_at hl 4 rfl) ?_
                            refine lv_iload hx hb d_md_readPattern_248 (lv_at hl 2 rfl) ?_
                            refine hn_iadd hx hb (a := at0) (b := pz dr i) d_md_readPattern_250 ?_
                            refine lv_aload_n hx hb d_md_readPattern_251 rfl (lv_at hl 5 rfl) ?_
                            refine hm_get E (tB in_md) hK hH (hw.at 0 rfl) rfl 2 (by decide) (tC wm_369) rfl d_md_readPattern_252 ?_
                            refine lv_iload hx hb d_md_readPattern_255 (lv_at hl 1 rfl) ?_
                            refine hm_iald E hK hH 0 (hw.at 1 rfl) rfl (i := i) (by omega) (by decide) d_md_readPattern_257 ?_
                            refine hm_iast E hK hH 0 (hw.at 3 rfl) rfl (i := at0 + (pz dr i)) (by omega) (by decide) d_md_readPattern_258 (fun H locs hH => ?_)
                            have hw := hw.set (ws' := [(y, .inr (4, [.int (nI th), .int (nI dn), .ref d, .int (nI np), .ref be, .ref sg, .ref nu, .int (nI bg), .int (nI nx), .ref fi, .ref le, .ref pl, .int (nI lf), .int (nI rt), .int (nI ln), .ref rw, .ref va, .int (bI ak)])), (d, aI G 200 dr), (be, aI G 8194 fb), (sg, aI G 40000 (upd f (at0 + (pz dr i)) (dr i))), (nu, aI G 48200 g)]) (k := 3) rfl rfl
                            have hk := hk.wr (a := sg) (v := some (aI G 40000 (upd f (at0 + (pz dr i)) (dr i)))) (by first | (right; assumption) | (left; simp; done))
                            generalize va_up M sg (some (aI G 40000 (upd f (at0 + (pz dr i)) (dr i)))) = M at hH hw hk ⊢
                            refine lv_aload_n hx hb d_md_readPattern_259 rfl (lv_at hl 5 rfl) ?_
                            refine hm_get E (tB in_md) hK hH (hw.at 0 rfl) rfl 6 (by decide) (tC wm_373) rfl d_md_readPattern_260 ?_
                            refine lv_iload_n hx hb d_md_readPattern_263 rfl (lv_at hl 4 rfl) ?_
                            refine lv_aload_n hx hb d_md_readPattern_264 rfl (lv_at hl 5 rfl) ?_
                            refine hm_get E (tB in_md) hK hH (hw.at 0 rfl) rfl 3 (by decide) (tC wm_370) rfl d_md_readPattern_265 ?_
                            refine hn_iadd hx hb (a := at0) (b := np) d_md_readPattern_268 ?_
                            refine lv_iload hx hb d_md_readPattern_269 (lv_at hl 2 rfl) ?_
                            refine hn_iadd hx hb (a := at0 + np) (b := pz dr i) d_md_readPattern_271 ?_
                            refine lv_iload hx hb d_md_readPattern_272 (lv_at hl 1 rfl) ?_
                            refine hn_if_le (a := i) hx hb (by omega) (tgt := 307) d_md_readPattern_274 (by decide) (fun h274 => ?_) (fun h274 => ?_)
                            · skip
                              refine lv_iconst (v := 0) hx hb d_md_readPattern_307 (by decide) ?_
                              refine hm_iast E hK hH 0 (hw.at 4 rfl) rfl (i := at0 + np + (pz dr i)) (by omega) (by decide) d_md_readPattern_308 (fun H locs hH => ?_)
                              have hw := hw.set (ws' := [(y, .inr (4, [.int (nI th), .int (nI dn), .ref d, .int (nI np), .ref be, .ref sg, .ref nu, .int (nI bg), .int (nI nx), .ref fi, .ref le, .ref pl, .int (nI lf), .int (nI rt), .int (nI ln), .ref rw, .ref va, .int (bI ak)])), (d, aI G 200 dr), (be, aI G 8194 fb), (sg, aI G 40000 (upd f (at0 + (pz dr i)) (dr i))), (nu, aI G 48200 (upd g (at0 + np + (pz dr i)) 0))]) (k := 4) rfl rfl
                              have hk := hk.wr (a := nu) (v := some (aI G 48200 (upd g (at0 + np + (pz dr i)) 0))) (by first | (right; assumption) | (left; simp; done))
                              generalize va_up M nu (some (aI G 48200 (upd g (at0 + np + (pz dr i)) 0))) = M at hH hw hk ⊢
                              refine lv_iinc (v := nI (pz dr i + 1)) (lv' := [(5, .int (nI (pz dr i + 1))), (4, .int 1), (6, .int (nI i)), (3, .int (nI (pz dr dn))), (1, .int (nI at0)), (0, .ref y)]) hx hb d_md_readPattern_309 hl (k := 2) rfl (by first | exact nI_add _ 1 | (show nI _ + nI _ = _; rw [nI_add])) (by decide) rfl (fun ls hl => ?_)
                              refine lv_iinc (v := nI (i + 1)) (lv' := [(6, .int (nI (i + 1))), (5, .int (nI (pz dr i + 1))), (4, .int 1), (3, .int (nI (pz dr dn))), (1, .int (nI at0)), (0, .ref y)]) hx hb d_md_readPattern_312 hl (k := 2) rfl (by first | exact nI_add _ 1 | (show nI _ + nI _ = _; rw [nI_add])) (by decide) rfl (fun ls hl => ?_)
                              refine lv_goto (tgt := 184) hx hb d_md_readPattern_315 (by decide) ?_
                              have e2 : pz dr (i + 1) = pz dr i + 1 := by simp [pz, h203]
                              exact ih (i + 1) (upd f (at0 + (pz dr i)) (dr i)) (upd g (at0 + np + (pz dr i)) 0) M _ _ _ (by omega) (by omega) (bl_upd hf0 (by omega)) (sg_S e2 hf1 (psg_at (by omega) h203).symm) (bl_upd hg0 (by omega)) (sg_S e2 hg1 (num_n (by omega) h203 (fun z => absurd z.1 (by omega)))) hw hk hH (lv_cv (lv_sub hl [0, 1, 2, 3, 4, 5] rfl) (by rw [e2]; simp [gqP, bI_t, bI_f, h203, h208, h220, h225] <;> rfl))
                            · skip
                              refine lv_aload_n hx hb d_md_readPattern_277 rfl (lv_at hl 5 rfl) ?_
                              refine hm_get E (tB in_md) hK hH (hw.at 0 rfl) rfl 2 (by decide) (tC wm_369) rfl d_md_readPattern_278 ?_
                              refine lv_iload hx hb d_md_readPattern_281 (lv_at hl 1 rfl) ?_
                              refine lv_iconst (v := 1) hx hb d_md_readPattern_283 (by decide) ?_
                              refine hn_isub hx hb (a := i) (b := 1) (by omega) d_md_readPattern_284 ?_
                              refine hm_iald E hK hH 0 (hw.at 1 rfl) rfl (i := i - 1) (by omega) (by decide) d_md_readPattern_285 ?_
                              have hM1 := c_md_isDigit l G (dr (i - 1)) M H.size
                              have hG1 : GoodIn w_md_readPattern (wsS R_md 62 y_md_isDigit w_md_isDigit) := gB_S wm_443 wm_444 wm_5 wm_445
                              refine hm_call (va_runS (y := y_md_isDigit) (bytes := b_md_isDigit) (maxL := 1) (ws := w_md_isDigit) (rm := { frames := 0, cells := 0, slots := 0, locals := 0 }) (own := R_md) (index := 62) (ret := (Option.some Jvm.ClassFile.FieldType.boolean)) (As := [.int (dr (i - 1))]) (rest := [.int (nI (at0 + np + (pz dr i))), .ref nu]) E hM1 (cwS (y := y_md_isDigit) (bytes := b_md_isDigit) (maxL := 1) (ws := w_md_isDigit) (rm := { frames := 0, cells := 0, slots := 0, locals := 0 }) (own := R_md) (index := 62) (ret := (Option.some Jvm.ClassFile.FieldType.boolean)) 1 hts hG1 rfl rfl rfl (by decide +kernel) ⟨Nat.le_of_ble_eq_true rfl, Nat.le_of_ble_eq_true rfl⟩) (hm_preS gk_w gk_s hH hg [.int (dr (i - 1))]) rfl rfl hl.1 rfl (lv_room (Nat.le_of_ble_eq_true rfl)) d_md_readPattern_286 ⟨(by show _ ≤ 0; omega), (by show _ ≤ 0; omega)⟩) hH (fun r1 M1 H1 locs1 hq1 hH1 => ?_)
                              obtain ⟨rfl, e1⟩ := hq1
                              replace hH := hH1; rw [e1] at hH; clear hH1 e1; generalize H1 = H at hH ⊢; generalize locs1 = locs at hH ⊢
                              refine hb_if_eq (b := isDg (dr (i - 1))) hx hb (tgt := 307) d_md_readPattern_289 (by decide) (fun h289 => ?_) (fun h289 => ?_)
                              · skip
                                refine lv_iconst (v := 0) hx hb d_md_readPattern_307 (by decide) ?_
                                refine hm_iast E hK hH 0 (hw.at 4 rfl) rfl (i := at0 + np + (pz dr i)) (by omega) (by decide) d_md_readPattern_308 (fun H locs hH => ?_)
                                have hw := hw.set (ws' := [(y, .inr (4, [.int (nI th), .int (nI dn), .ref d, .int (nI np), .ref be, .ref sg, .ref nu, .int (nI bg), .int (nI nx), .ref fi, .ref le, .ref pl, .int (nI lf), .int (nI rt), .int (nI ln), .ref rw, .ref va, .int (bI ak)])), (d, aI G 200 dr), (be, aI G 8194 fb), (sg, aI G 40000 (upd f (at0 + (pz dr i)) (dr i))), (nu, aI G 48200 (upd g (at0 + np + (pz dr i)) 0))]) (k := 4) rfl rfl
                                have hk := hk.wr (a := nu) (v := some (aI G 48200 (upd g (at0 + np + (pz dr i)) 0))) (by first | (right; assumption) | (left; simp; done))
                                generalize va_up M nu (some (aI G 48200 (upd g (at0 + np + (pz dr i)) 0))) = M at hH hw hk ⊢
                                refine lv_iinc (v := nI (pz dr i + 1)) (lv' := [(5, .int (nI (pz dr i + 1))), (4, .int 1), (6, .int (nI i)), (3, .int (nI (pz dr dn))), (1, .int (nI at0)), (0, .ref y)]) hx hb d_md_readPattern_309 hl (k := 2) rfl (by first | exact nI_add _ 1 | (show nI _ + nI _ = _; rw [nI_add])) (by decide) rfl (fun ls hl => ?_)
                                refine lv_iinc (v := nI (i + 1)) (lv' := [(6, .int (nI (i + 1))), (5, .int (nI (pz dr i + 1))), (4, .int 1), (3, .int (nI (pz dr dn))), (1, .int (nI at0)), (0, .ref y)]) hx hb d_md_readPattern_312 hl (k := 2) rfl (by first | exact nI_add _ 1 | (show nI _ + nI _ = _; rw [nI_add])) (by decide) rfl (fun ls hl => ?_)
                                refine lv_goto (tgt := 184) hx hb d_md_readPattern_315 (by decide) ?_
                                have e2 : pz dr (i + 1) = pz dr i + 1 := by simp [pz, h203]
                                exact ih (i + 1) (upd f (at0 + (pz dr i)) (dr i)) (upd g (at0 + np + (pz dr i)) 0) M _ _ _ (by omega) (by omega) (bl_upd hf0 (by omega)) (sg_S e2 hf1 (psg_at (by omega) h203).symm) (bl_upd hg0 (by omega)) (sg_S e2 hg1 (num_n (by omega) h203 (fun z => by have h8 := z.2; rw [h289] at h8; cases h8))) hw hk hH (lv_cv (lv_sub hl [0, 1, 2, 3, 4, 5] rfl) (by rw [e2]; simp [gqP, bI_t, bI_f, h203, h208, h220, h225] <;> rfl))
                              · skip
                                refine lv_aload_n hx hb d_md_readPattern_292 rfl (lv_at hl 5 rfl) ?_
                                refine hm_get E (tB in_md) hK hH (hw.at 0 rfl) rfl 2 (by decide) (tC wm_369) rfl d_md_readPattern_293 ?_
                                refine lv_iload hx hb d_md_readPattern_296 (lv_at hl 1 rfl) ?_
                                refine lv_iconst (v := 1) hx hb d_md_readPattern_298 (by decide) ?_
                                refine hn_isub hx hb (a := i) (b := 1) (by omega) d_md_readPattern_299 ?_
                                refine hm_iald E hK hH 0 (hw.at 1 rfl) rfl (i := i - 1) (by omega) (by decide) d_md_readPattern_300 ?_
                                refine lv_bipush (v := 48) hx hb d_md_readPattern_301 (by decide) ?_
                                refine lv_isub hx hb d_md_readPattern_303 ?_
                                refine lv_goto (tgt := 308) hx hb d_md_readPattern_304 (by decide) ?_
                                refine hm_iast E hK hH 0 (hw.at 4 rfl) rfl (i := at0 + np + (pz dr i)) (by omega) (by decide) d_md_readPattern_308 (fun H locs hH => ?_)
                                have hw := hw.set (ws' := [(y, .inr (4, [.int (nI th), .int (nI dn), .ref d, .int (nI np), .ref be, .ref sg, .ref nu, .int (nI bg), .int (nI nx), .ref fi, .ref le, .ref pl, .int (nI lf), .int (nI rt), .int (nI ln), .ref rw, .ref va, .int (bI ak)])), (d, aI G 200 dr), (be, aI G 8194 fb), (sg, aI G 40000 (upd f (at0 + (pz dr i)) (dr i))), (nu, aI G 48200 (upd g (at0 + np + (pz dr i)) ((dr (i - 1)) - 48)))]) (k := 4) rfl rfl
                                have hk := hk.wr (a := nu) (v := some (aI G 48200 (upd g (at0 + np + (pz dr i)) ((dr (i - 1)) - 48)))) (by first | (right; assumption) | (left; simp; done))
                                generalize va_up M nu (some (aI G 48200 (upd g (at0 + np + (pz dr i)) ((dr (i - 1)) - 48)))) = M at hH hw hk ⊢
                                refine lv_iinc (v := nI (pz dr i + 1)) (lv' := [(5, .int (nI (pz dr i + 1))), (4, .int 1), (6, .int (nI i)), (3, .int (nI (pz dr dn))), (1, .int (nI at0)), (0, .ref y)]) hx hb d_md_readPattern_309 hl (k := 2) rfl (by first | exact nI_add _ 1 | (show nI _ + nI _ = _; rw [nI_add])) (by decide) rfl (fun ls hl => ?_)
                                refine lv_iinc (v := nI (i + 1)) (lv' := [(6, .int (nI (i + 1))), (5, .int (nI (pz dr i + 1))), (4, .int 1), (3, .int (nI (pz dr dn))), (1, .int (nI at0)), (0, .ref y)]) hx hb d_md_readPattern_312 hl (k := 2) rfl (by first | exact nI_add _ 1 | (show nI _ + nI _ = _; rw [nI_add])) (by decide) rfl (fun ls hl => ?_)
                                refine lv_goto (tgt := 184) hx hb d_md_readPattern_315 (by decide) ?_
                                have e2 : pz dr (i + 1) = pz dr i + 1 := by simp [pz, h203]
                                exact ih (i + 1) (upd f (at0 + (pz dr i)) (dr i)) (upd g (at0 + np + (pz dr i)) ((dr (i - 1)) - 48)) M _ _ _ (by omega) (by omega) (bl_upd hf0 (by omega)) (sg_S e2 hf1 (psg_at (by omega) h203).symm) (bl_upd hg0 (by omega)) (sg_S e2 hg1 (num_y (by omega) h203 (by omega) h289)) hw hk hH (lv_cv (lv_sub hl [0, 1, 2, 3, 4, 5] rfl) (by rw [e2]; simp [gqP, bI_t, bI_f, h203, h208, h220, h225] <;> rfl))
                          · skip
                            refine lv_iload hx hb d_md_readPattern_228 (lv_at hl 1 rfl) ?_
                            refine lv_iload_n hx hb d_md_readPattern_230 rfl (lv_at hl 3 rfl) ?_
                            refine lv_iconst (v := 1) hx hb d_md_readPattern_231 (by decide) ?_
                            refine hn_isub hx hb (a := pz dr dn) (b := 1) (by omega) d_md_readPattern_232 ?_
                            refine hn_icmp_ne (a := pz dr i) (b := (pz dr dn) - 1) hx hb (by omega) (by omega) (tgt := 240) d_md_readPattern_233 (by decide) (fun h233 => ?_) (fun h233 => ?_)
                            · skip
                              have h233 : ¬ (pz dr i + 1 = pz dr dn) := by omega
                              refine lv_iconst (v := 0) hx hb d_md_readPattern_240 (by decide) ?_
                              refine lv_istore (lv' := [(4, .int 0), (6, .int (nI i)), (5, .int (nI (pz dr i))), (3, .int (nI (pz dr dn))), (1, .int (nI at0)), (0, .ref y)]) hx hb d_md_readPattern_241 hl (by decide) rfl (fun ls hl => ?_)
                              refine lv_aload_n hx hb d_md_readPattern_243 rfl (lv_at hl 5 rfl) ?_
                              refine hm_get E (tB in_md) hK hH (hw.at 0 rfl) rfl 5 (by decide) (tC wm_372) rfl d_md_readPattern_244 ?_
                              refine lv_iload_n hx hb d_md_readPattern_247 rfl (lv_at hl 4 rfl) ?_
                              refine lv_iload hx hb d_md_readPattern_248 (lv_at hl 2 rfl) ?_
                              refine hn_iadd hx hb (a := at0) (b := pz dr i) d_md_readPattern_250 ?_
                              refine lv_aload_n hx hb d_md_readPattern_251 rfl (lv_at hl 5 rfl) ?_
                              refine hm_get E (tB in_md) hK hH (hw.at 0 rfl) rfl 2 (by decide) (tC wm_369) rfl d_md_readPattern_252 ?_
                              refine lv_iload hx hb d_md_readPattern_255 (lv_at hl 1 rfl) ?_
                              refine hm_iald E hK hH 0 (hw.at 1 rfl) rfl (i := i) (by omega) (by decide) d_md_readPattern_257 ?_
                              refine hm_iast E hK hH 0 (hw.at 3 rfl) rfl (i := at0 + (pz dr i)) (by omega) (by decide) d_md_readPattern_258 (fun H locs hH => ?_)
                              have hw := hw.set (ws' := [(y, .inr (4, [.int (nI th), .int (nI dn), .ref d, .int (nI np), .ref be, .ref sg, .ref nu, .int (nI bg), .int (nI nx), .ref fi, .ref le, .ref pl, .int (nI lf), .int (nI rt), .int (nI ln), .ref rw, .ref va, .int (bI ak)])), (d, aI G 200 dr), (be, aI G 8194 fb), (sg, aI G 40000 (upd f (at0 + (pz dr i)) (dr i))), (nu, aI G 48200 g)]) (k := 3) rfl rfl
                              have hk := hk.wr (a := sg) (v := some (aI G 40000 (upd f (at0 + (pz dr i)) (dr i)))) (by first | (right; assumption) | (left; simp; done))
                              generalize va_up M sg (some (aI G 40000 (upd f (at0 + (pz dr i)) (dr i)))) = M at hH hw hk ⊢
                              refine lv_aload_n hx hb d_md_readPattern_259 rfl (lv_at hl 5 rfl) ?_
                              refine hm_get E (tB in_md) hK hH (hw.at 0 rfl) rfl 6 (by decide) (tC wm_373) rfl d_md_readPattern_260 ?_
                              refine lv_iload_n hx hb d_md_readPattern_263 rfl (lv_at hl 4 rfl) ?_
                              refine lv_aload_n hx hb d_md_readPattern_264 rfl (lv_at hl 5 rfl) ?_
                              refine hm_get E (tB in_md) hK hH (hw.at 0 rfl) rfl 3 (by decide) (tC wm_370) rfl d_md_readPattern_265 ?_
                              refine hn_iadd hx hb (a := at0) (b := np) d_md_readPattern_268 ?_
                              refine lv_iload hx hb d_md_readPattern_269 (lv_at hl 2 rfl) ?_
                              refine hn_iadd hx hb (a := at0 + np) (b := pz dr i) d_md_readPattern_271 ?_
                              refine lv_iload hx hb d_md_readPattern_272 (lv_at hl 1 rfl) ?_
                              refine hn_if_le (a := i) hx hb (by omega) (tgt := 307) d_md_readPattern_274 (by decide) (fun h274 => ?_) (fun h274 => ?_)
                              · skip
                                refine lv_iconst (v := 0) hx hb d_md_readPattern_307 (by decide) ?_
                                refine hm_iast E hK hH 0 (hw.at 4 rfl) rfl (i := at0 + np + (pz dr i)) (by omega) (by decide) d_md_readPattern_308 (fun H locs hH => ?_)
                                have hw := hw.set (ws' := [(y, .inr (4, [.int (nI th), .int (nI dn), .ref d, .int (nI np), .ref be, .ref sg, .ref nu, .int (nI bg), .int (nI nx), .ref fi, .ref le, .ref pl, .int (nI lf), .int (nI rt), .int (nI ln), .ref rw, .ref va, .int (bI ak)])), (d, aI G 200 dr), (be, aI G 8194 fb), (sg, aI G 40000 (upd f (at0 + (pz dr i)) (dr i))), (nu, aI G 48200 (upd g (at0 + np + (pz dr i)) 0))]) (k := 4) rfl rfl
                                have hk := hk.wr (a := nu) (v := some (aI G 48200 (upd g (at0 + np + (pz dr i)) 0))) (by first | (right; assumption) | (left; simp; done))
                                generalize va_up M nu (some (aI G 48200 (upd g (at0 + np + (pz dr i)) 0))) = M at hH hw hk ⊢
                                refine lv_iinc (v := nI (pz dr i + 1)) (lv' := [(5, .int (nI (pz dr i + 1))), (4, .int 0), (6, .int (nI i)), (3, .int (nI (pz dr dn))), (1, .int (nI at0)), (0, .ref y)]) hx hb d_md_readPattern_309 hl (k := 2) rfl (by first | exact nI_add _ 1 | (show nI _ + nI _ = _; rw [nI_add])) (by decide) rfl (fun ls hl => ?_)
                                refine lv_iinc (v := nI (i + 1)) (lv' := [(6, .int (nI (i + 1))), (5, .int (nI (pz dr i + 1))), (4, .int 0), (3, .int (nI (pz dr dn))), (1, .int (nI at0)), (0, .ref y)]) hx hb d_md_readPattern_312 hl (k := 2) rfl (by first | exact nI_add _ 1 | (show nI _ + nI _ = _; rw [nI_add])) (by decide) rfl (fun ls hl => ?_)
                                refine lv_goto (tgt := 184) hx hb d_md_readPattern_315 (by decide) ?_
                                have e2 : pz dr (i + 1) = pz dr i + 1 := by simp [pz, h203]
                                exact ih (i + 1) (upd f (at0 + (pz dr i)) (dr i)) (upd g (at0 + np + (pz dr i)) 0) M _ _ _ (by omega) (by omega) (bl_upd hf0 (by omega)) (sg_S e2 hf1 (psg_at (by omega) h203).symm) (bl_upd hg0 (by omega)) (sg_S e2 hg1 (num_n (by omega) h203 (fun z => absurd z.1 (by omega)))) hw hk hH (lv_cv (lv_sub hl [0, 1, 2, 3, 4, 5] rfl) (by rw [e2]; simp [gqP, bI_t, bI_f, h203, h208, h220, h225, h233] <;> rfl))
                              · skip
                                refine lv_aload_n hx hb d_md_readPattern_277 rfl (lv_at hl 5 rfl) ?_
                                refine hm_get E (tB in_md) hK hH (hw.at 0 rfl) rfl 2 (by decide) (tC wm_369) rfl d_md_readPattern_278 ?_
                                refine lv_iload hx hb d_md_readPattern_281 (lv_at hl 1 rfl) ?_
                                refine lv_iconst (v := 1) hx hb d_md_readPattern_283 (by decide) ?_
                                refine hn_isub hx hb (a := i) (b := 1) (by omega) d_md_readPattern_284 ?_
                                refine hm_iald E hK hH 0 (hw.at 1 rfl) rfl (i := i - 1) (by omega) (by decide) d_md_readPattern_285 ?_
                                have hM1 := c_md_isDigit l G (dr (i - 1)) M H.size
                                have hG1 : GoodIn w_md_readPattern (wsS R_md 62 y_md_isDigit w_md_isDigit) := gB_S wm_443 wm_444 wm_5 wm_445
                                refine hm_call (va_runS (y := y_md_isDigit) (bytes := b_md_isDigit) (maxL := 1) (ws := w_md_isDigit) (rm := { frames := 0, cells := 0, slots := 0, locals := 0 }) (own := R_md) (index := 62) (ret := (Option.some Jvm.ClassFile.FieldType.boolean)) (As := [.int (dr (i - 1))]) (rest := [.int (nI (at0 + np + (pz dr i))), .ref nu]) E hM1 (cwS (y := y_md_isDigit) (bytes := b_md_isDigit) (maxL := 1) (ws := w_md_isDigit) (rm := { frames := 0, cells := 0, slots := 0, locals := 0 }) (own := R_md) (index := 62) (ret := (Option.some Jvm.ClassFile.FieldType.boolean)) 1 hts hG1 rfl rfl rfl (by decide +kernel) ⟨Nat.le_of_ble_eq_true rfl, Nat.le_of_ble_eq_true rfl⟩) (hm_preS gk_w gk_s hH hg [.int (dr (i - 1))]) rfl rfl hl.1 rfl (lv_room (Nat.le_of_ble_eq_true rfl)) d_md_readPattern_286 ⟨(by show _ ≤ 0; omega), (by show _ ≤ 0; omega)⟩) hH (fun r1 M1 H1 locs1 hq1 hH1 => ?_)
                                obtain ⟨rfl, e1⟩ := hq1
                                replace hH := hH1; rw [e1] at hH; clear hH1 e1; generalize H1 = H at hH ⊢; generalize locs1 = locs at hH ⊢
                                refine hb_if_eq (b := isDg (dr (i - 1))) hx hb (tgt := 307) d_md_readPattern_289 (by decide) (fun h289 => ?_) (fun h289 => ?_)
                                · skip
                                  refine lv_iconst (v := 0) hx hb d_md_readPattern_307 (by decide) ?_
                                  refine hm_iast E hK hH 0 (hw.at 4 rfl) rfl (i := at0 + np + (pz dr i)) (by omega) (by decide) d_md_readPattern_308 (fun H locs hH => ?_)
                                  have hw := hw.set (ws' := [(y, .inr (4, [.int (nI th), .int (nI dn), .ref d, .int (nI np), .ref be, .ref sg, .ref nu, .int (nI bg), .int (nI nx), .ref fi, .ref le, .ref pl, .int (nI lf), .int (nI rt), .int (nI ln), .ref rw, .ref va, .int (bI ak)])), (d, aI G 200 dr), (be, aI G 8194 fb), (sg, aI G 40000 (upd f (at0 + (pz dr i)) (dr i))), (nu, aI G 48200 (upd g (at0 + np + (pz dr i)) 0))]) (k := 4) rfl rfl
                                  have hk := hk.wr (a := nu) (v := some (aI G 48200 (upd g (at0 + np + (pz dr i)) 0))) (by first | (right; assumption) | (left; simp; done))
                                  generalize va_up M nu (some (aI G 48200 (upd g (at0 + np + (pz dr i)) 0))) = M at hH hw hk ⊢
                                  refine lv_iinc (v := nI (pz dr i + 1)) (lv' := [(5, .int (nI (pz dr i + 1))), (4, .int 0), (6, .int (nI i)), (3, .int (nI (pz dr dn))), (1, .int (nI at0)), (0, .ref y)]) hx hb d_md_readPattern_309 hl (k := 2) rfl (by first | exact nI_add _ 1 | (show nI _ + nI _ = _; rw [nI_add])) (by decide) rfl (fun ls hl => ?_)
                                  refine lv_iinc (v := nI (i + 1)) (lv' := [(6, .int (nI (i + 1))), (5, .int (nI (pz dr i + 1))), (4, .int 0), (3, .int (nI (pz dr dn))), (1, .int (nI at0)), (0, .ref y)]) hx hb d_md_readPattern_312 hl (k := 2) rfl (by first | exact nI_add _ 1 | (show nI _ + nI _ = _; rw [nI_add])) (by decide) rfl (fun ls hl => ?_)
                                  refine lv_goto (tgt := 184) hx hb d_md_readPattern_315 (by decide) ?_
                                  have e2 : pz dr (i + 1) = pz dr i + 1 := by simp [pz, h203]
                                  exact ih (i + 1) (upd f (at0 + (pz dr i)) (dr i)) (upd g (at0 + np + (pz dr i)) 0) M _ _ _ (by omega) (by omega) (bl_upd hf0 (by omega)) (sg_S e2 hf1 (psg_at (by omega) h203).symm) (bl_upd hg0 (by omega)) (sg_S e2 hg1 (num_n (by omega) h203 (fun z => by have h8 := z.2; rw [h289] at h8; cases h8))) hw hk hH (lv_cv (lv_sub hl [0, 1, 2, 3, 4, 5] rfl) (by rw [e2]; simp [gqP, bI_t, bI_f, h203, h208, h220, h225, h233] <;> rfl))
                                · skip
                                  refine lv_aload_n hx hb d_md_readPattern_292 rfl (lv_at hl 5 rfl) ?_
                                  refine hm_get E (tB in_md) hK hH (hw.at 0 rfl) rfl 2 (by decide) (tC wm_369) rfl d_md_readPattern_293 ?_
                                  refine lv_iload hx hb d_md_readPattern_296 (lv_at hl 1 rfl) ?_
                                  refine lv_iconst (v := 1) hx hb d_md_readPattern_298 (by decide) ?_
                                  refine hn_isub hx hb (a := i) (b := 1) (by omega) d_md_readPattern_299 ?_
                                  refine hm_iald E hK hH 0 (hw.at 1 rfl) rfl (i := i - 1) (by omega) (by decide) d_md_readPattern_300 ?_
                                  refine lv_bipush (v := 48) hx hb d_md_readPattern_301 (by decide) ?_
                                  refine lv_isub hx hb d_md_readPattern_303 ?_
                                  refine lv_goto (tgt := 308) hx hb d_md_readPattern_304 (by decide) ?_
                                  refine hm_iast E hK hH 0 (hw.at 4 rfl) rfl (i := at0 + np + (pz dr i)) (by omega) (by decide) d_md_readPattern_308 (fun H locs hH => ?_)
                                  have hw := hw.set (ws' := [(y, .inr (4, [.int (nI th), .int (nI dn), .ref d, .int (nI np), .ref be, .ref sg, .ref nu, .int (nI bg), .int (nI nx), .ref fi, .ref le, .ref pl, .int (nI lf), .int (nI rt), .int (nI ln), .ref rw, .ref va, .int (bI ak)])), (d, aI G 200 dr), (be, aI G 8194 fb), (sg, aI G 40000 (upd f (at0 + (pz dr i)) (dr i))), (nu, aI G 48200 (upd g (at0 + np + (pz dr i)) ((dr (i - 1)) - 48)))]) (k := 4) rfl rfl
                                  have hk := hk.wr (a := nu) (v := some (aI G 48200 (upd g (at0 + np + (pz dr i)) ((dr (i - 1)) - 48)))) (by first | (right; assumption) | (left; simp; done))
                                  generalize va_up M nu (some (aI G 48200 (upd g (at0 + np + (pz dr i)) ((dr (i - 1)) - 48)))) = M at hH hw hk ⊢
                                  refine lv_iinc (v := nI (pz dr i + 1)) (lv' := [(5, .int (nI (pz dr i + 1))), (4, .int 0), (6, .int (nI i)), (3, .int (nI (pz dr dn))), (1, .int (nI at0)), (0, .ref y)]) hx hb d_md_readPattern_309 hl (k := 2) rfl (by first | exact nI_add _ 1 | (show nI _ + nI _ = _; rw [nI_add])) (by decide) rfl (fun ls hl => ?_)
                                  refine lv_iinc (v := nI (i + 1)) (lv' := [(6, .int (nI (i + 1))), (5, .int (nI (pz dr i + 1))), (4, .int 0), (3, .int (nI (pz dr dn))), (1, .int (nI at0)), (0, .ref y)]) hx hb d_md_readPattern_312 hl (k := 2) rfl (by first | exact nI_add _ 1 | (show nI _ + nI _ = _; rw [nI_add])) (by decide) rfl (fun ls hl => ?_)
                                  refine lv_goto (tgt := 184) hx hb d_md_readPattern_315 (by decide) ?_
                                  have e2 : pz dr (i + 1) = pz dr i + 1 := by simp [pz, h203]
                                  exact ih (i + 1) (upd f (at0 + (pz dr i)) (dr i)) (upd g (at0 + np + (pz dr i)) ((dr (i - 1)) - 48)) M _ _ _ (by omega) (by omega) (bl_upd hf0 (by omega)) (sg_S e2 hf1 (psg_at (by omega) h203).symm) (bl_upd hg0 (by omega)) (sg_S e2 hg1 (num_y (by omega) h203 (by omega) h289)) hw hk hH (lv_cv (lv_sub hl [0, 1, 2, 3, 4, 5] rfl) (by rw [e2]; simp [gqP, bI_t, bI_f, h203, h208, h220, h225, h233] <;> rfl))
                            · skip
                              have h233 : pz dr i + 1 = pz dr dn := by omega
                              refine lv_iconst (v := 1) hx hb d_md_readPattern_236 (by decide) ?_
                              refine lv_goto (tgt := 241) hx hb d_md_readPattern_237 (by decide) ?_
                              refine lv_istore (lv' := [(4, .int 1), (6, .int (nI i)), (5, .int (nI (pz dr i))), (3, .int (nI (pz dr dn))), (1, .int (nI at0)), (0, .ref y)]) hx hb d_md_readPattern_241 hl (by decide) rfl (fun ls hl => ?_)
                              refine lv_aload_n hx hb d_md_readPattern_243 rfl (lv_at hl 5 rfl) ?_
                              refine hm_get E (tB in_md) hK hH (hw.at 0 rfl) rfl 5 (by decide) (tC wm_372) rfl d_md_readPattern_244 ?_
                              refine lv_iload_n hx hb d_md_readPattern_247 rfl (lv_at hl 4 rfl) ?_
                              refine lv_iload hx hb d_md_readPattern_248 (lv_at hl 2 rfl) ?_
                              refine hn_iadd hx hb (a := at0) (b := pz dr i) d_md_readPattern_250 ?_
                              refine lv_aload_n hx hb d_md_readPattern_251 rfl (lv_at hl 5 rfl) ?_
                              refine hm_get E (tB in_md) hK hH (hw.at 0 rfl) rfl 2 (by decide) (tC wm_369) rfl d_md_readPattern_252 ?_
                              refine lv_iload hx hb d_md_readPattern_255 (lv_at hl 1 rfl) ?_
                              refine hm_iald E hK hH 0 (hw.at 1 rfl) rfl (i := i) (by omega) (by decide) d_md_readPattern_257 ?_
                              refine hm_iast E hK hH 0 (hw.at 3 rfl) rfl (i := at0 + (pz dr i)) (by omega) (by decide) d_md_readPattern_258 (fun H locs hH => ?_)
                              have hw := hw.set (ws' := [(y, .inr (4, [.int (nI th), .int (nI dn), .ref d, .int (nI np), .ref be, .ref sg, .ref nu, .int (nI bg), .int (nI nx), .ref fi, .ref le, .ref pl, .int (nI lf), .int (nI rt), .int (nI ln), .ref rw, .ref va, .int (bI ak)])), (d, aI G 200 dr), (be, aI G 8194 fb), (sg, aI G 40000 (upd f (at0 + (pz dr i)) (dr i))), (nu, aI G 48200 g)]) (k := 3) rfl rfl
                              have hk := hk.wr (a := sg) (v := some (aI G 40000 (upd f (at0 + (pz dr i)) (dr i)))) (by first | (right; assumption) | (left; simp; done))
                              generalize va_up M sg (some (aI G 40000 (upd f (at0 + (pz dr i)) (dr i)))) = M at hH hw hk ⊢
                              refine lv_aload_n hx hb d_md_readPattern_259 rfl (lv_at hl 5 rfl) ?_
                              refine hm_get E (tB in_md) hK hH (hw.at 0 rfl) rfl 6 (by decide) (tC wm_373) rfl d_md_readPattern_260 ?_
                              refine lv_iload_n hx hb d_md_readPattern_263 rfl (lv_at hl 4 rfl) ?_
                              refine lv_aload_n hx hb d_md_readPattern_264 rfl (lv_at hl 5 rfl) ?_
                              refine hm_get E (tB in_md) hK hH (hw.at 0 rfl) rfl 3 (by decide) (tC wm_370) rfl d_md_readPattern_265 ?_
                              refine hn_iadd hx hb (a := at0) (b := np) d_md_readPattern_268 ?_
                              refine lv_iload hx hb d_md_readPattern_269 (lv_at hl 2 rfl) ?_
                              refine hn_iadd hx hb (a := at0 + np) (b := pz dr i) d_md_readPattern_271 ?_
                              refine lv_iload hx hb d_md_readPattern_272 (lv_at hl 1 rfl) ?_
                              refine hn_if_le (a := i) hx hb (by omega) (tgt := 307) d_md_readPattern_274 (by decide) (fun h274 => ?_) (fun h274 => ?_)
                              · skip
                                refine lv_iconst (v := 0) hx hb d_md_readPattern_307 (by decide) ?_
                                refine hm_iast E hK hH 0 (hw.at 4 rfl) rfl (i := at0 + np + (pz dr i)) (by omega) (by decide) d_md_readPattern_308 (fun H locs hH => ?_)
                                have hw := hw.set (ws' := [(y, .inr (4, [.int (nI th), .int (nI dn), .ref d, .int (nI np), .ref be, .ref sg, .ref nu, .int (nI bg), .int (nI nx), .ref fi, .ref le, .ref pl, .int (nI lf), .int (nI rt), .int (nI ln), .ref rw, .ref va, .int (bI ak)])), (d, aI G 200 dr), (be, aI G 8194 fb), (sg, aI G 40000 (upd f (at0 + (pz dr i)) (dr i))), (nu, aI G 48200 (upd g (at0 + np + (pz dr i)) 0))]) (k := 4) rfl rfl
                                have hk := hk.wr (a := nu) (v := some (aI G 48200 (upd g (at0 + np + (pz dr i)) 0))) (by first | (right; assumption) | (left; simp; done))
                                generalize va_up M nu (some (aI G 48200 (upd g (at0 + np + (pz dr i)) 0))) = M at hH hw hk ⊢
                                refine lv_iinc (v := nI (pz dr i + 1)) (lv' := [(5, .int (nI (pz dr i + 1))), (4, .int 1), (6, .int (nI i)), (3, .int (nI (pz dr dn))), (1, .int (nI at0)), (0, .ref y)]) hx hb d_md_readPattern_309 hl (k := 2) rfl (by first | exact nI_add _ 1 | (show nI _ + nI _ = _; rw [nI_add])) (by decide) rfl (fun ls hl => ?_)
                                refine lv_iinc (v := nI (i + 1)) (lv' := [(6, .int (nI (i + 1))), (5, .int (nI (pz dr i + 1))), (4, .int 1), (3, .int (nI (pz dr dn))), (1, .int (nI at0)), (0, .ref y)]) hx hb d_md_readPattern_312 hl (k := 2) rfl (by first | exact nI_add _ 1 | (show nI _ + nI _ = _; rw [nI_add])) (by decide) rfl (fun ls hl => ?_)
                                refine lv_goto (tgt := 184) hx hb d_md_readPattern_315 (by decide) ?_
                                have e2 : pz dr (i + 1) = pz dr i + 1 := by simp [pz, h203]
                                exact ih (i + 1) (upd f (at0 + (pz dr i)) (dr i)) (upd g (at0 + np + (pz dr i)) 0) M _ _ _ (by omega) (by omega) (bl_upd hf0 (by omega)) (sg_S e2 hf1 (psg_at (by omega) h203).symm) (bl_upd hg0 (by omega)) (sg_S e2 hg1 (num_n (by omega) h203 (fun z => absurd z.1 (by omega)))) hw hk hH (lv_cv (lv_sub hl [0, 1, 2, 3, 4, 5] rfl) (by rw [e2]; simp [gqP, bI_t, bI_f, h203, h208, h220, h225, h233] <;> rfl))
                              · skip
                                refine lv_aload_n hx hb d_md_readPattern_277 rfl (lv_at hl 5 rfl) ?_
                                refine hm_get E (tB in_md) hK hH (hw.at 0 rfl) rfl 2 (by decide) (tC wm_369) rfl d_md_readPattern_278 ?_
                                refine lv_iload hx hb d_md_readPattern_281 (lv_at hl 1 rfl) ?_
                                refine lv_iconst (v := 1) hx hb d_md_readPattern_283 (by decide) ?_
                                refine hn_isub hx hb (a := i) (b := 1) (by omega) d_md_readPattern_284 ?_
                                refine hm_iald E hK hH 0 (hw.at 1 rfl) rfl (i := i - 1) (by omega) (by decide) d_md_readPattern_285 ?_
                                have hM1 := c_md_isDigit l G (dr (i - 1)) M H.size
                                have hG1 : GoodIn w_md_readPattern (wsS R_md 62 y_md_isDigit w_md_isDigit) := gB_S wm_443 wm_444 wm_5 wm_445
                                refine hm_call (va_runS (y := y_md_isDigit) (bytes := b_md_isDigit) (maxL := 1) (ws := w_md_isDigit) (rm := { frames := 0, cells := 0, slots := 0, locals := 0 }) (own := R_md) (index := 62) (ret := (Option.some Jvm.ClassFile.FieldType.boolean)) (As := [.int (dr (i - 1))]) (rest := [.int (nI (at0 + np + (pz dr i))), .ref nu]) E hM1 (cwS (y := y_md_isDigit) (bytes := b_md_isDigit) (maxL := 1) (ws := w_md_isDigit) (rm := { frames := 0, cells := 0, slots := 0, locals := 0 }) (own := R_md) (index := 62) (ret := (Option.some Jvm.ClassFile.FieldType.boolean)) 1 hts hG1 rfl rfl rfl (by decide +kernel) ⟨Nat.le_of_ble_eq_true rfl, Nat.le_of_ble_eq_true rfl⟩) (hm_preS gk_w gk_s hH hg [.int (dr (i - 1))]) rfl rfl hl.1 rfl (lv_room (Nat.le_of_ble_eq_true rfl)) d_md_readPattern_286 ⟨(by show _ ≤ 0; omega), (by show _ ≤ 0; omega)⟩) hH (fun r1 M1 H1 locs1 hq1 hH1 => ?_)
                                obtain ⟨rfl, e1⟩ := hq1
                                replace hH := hH1; rw [e1] at hH; clear hH1 e1; generalize H1 = H at hH ⊢; generalize locs1 = locs at hH ⊢
                                refine hb_if_eq (b := isDg (dr (i - 1))) hx hb (tgt := 307) d_md_readPattern_289 (by decide) (fun h289 => ?_) (fun h289 => ?_)
                                · skip
                                  refine lv_iconst (v := 0) hx hb d_md_readPattern_307 (by decide) ?_
                                  refine hm_iast E hK hH 0 (hw.at 4 rfl) rfl (i := at0 + np + (pz dr i)) (by omega) (by decide) d_md_readPattern_308 (fun H locs hH => ?_)
                                  have hw := hw.set (ws' := [(y, .inr (4, [.int (nI th), .int (nI dn), .ref d, .int (nI np), .ref be, .ref sg, .ref nu, .int (nI bg), .int (nI nx), .ref fi, .ref le, .ref pl, .int (nI lf), .int (nI rt), .int (nI ln), .ref rw, .ref va, .int (bI ak)])), (d, aI G 200 dr), (be, aI G 8194 fb), (sg, aI G 40000 (upd f (at0 + (pz dr i)) (dr i))), (nu, aI G 48200 (upd g (at0 + np + (pz dr i)) 0))]) (k := 4) rfl rfl
                                  have hk := hk.wr (a := nu) (v := some (aI G 48200 (upd g (at0 + np + (pz dr i)) 0))) (by first | (right; assumption) | (left; simp; done))
                                  generalize va_up M nu (some (aI G 48200 (upd g (at0 + np + (pz dr i)) 0))) = M at hH hw hk ⊢
                                  refine lv_iinc (v := nI (pz dr i + 1)) (lv' := [(5, .int (nI (pz dr i + 1))), (4, .int 1), (6, .int (nI i)), (3, .int (nI (pz dr dn))), (1, .int (nI at0)), (0, .ref y)]) hx hb d_md_readPattern_309 hl (k := 2) rfl (by first | exact nI_add _ 1 | (show nI _ + nI _ = _; rw [nI_add])) (by decide) rfl (fun ls hl => ?_)
                                  refine lv_iinc (v := nI (i + 1)) (lv' := [(6, .int (nI (i + 1))), (5, .int (nI (pz dr i + 1))), (4, .int 1), (3, .int (nI (pz dr dn))), (1, .int (nI at0)), (0, .ref y)]) hx hb d_md_readPattern_312 hl (k := 2) rfl (by first | exact nI_add _ 1 | (show nI _ + nI _ = _; rw [nI_add])) (by decide) rfl (fun ls hl => ?_)
                                  refine lv_goto (tgt := 184) hx hb d_md_readPattern_315 (by decide) ?_
                                  have e2 : pz dr (i + 1) = pz dr i + 1 := by simp [pz, h203]
                                  exact ih (i + 1) (upd f (at0 + (pz dr i)) (dr i)) (upd g (at0 + np + (pz dr i)) 0) M _ _ _ (by omega) (by omega) (bl_upd hf0 (by omega)) (sg_S e2 hf1 (psg_at (by omega) h203).symm) (bl_upd hg0 (by omega)) (sg_S e2 hg1 (num_n (by omega) h203 (fun z => by have h8 := z.2; rw [h289] at h8; cases h8))) hw hk hH (lv_cv (lv_sub hl [0, 1, 2, 3, 4, 5] rfl) (by rw [e2]; simp [gqP, bI_t, bI_f, h203, h208, h220, h225, h233] <;> rfl))
                                · skip
                                  refine lv_aload_n hx hb d_md_readPattern_292 rfl (lv_at hl 5 rfl) ?_
                                  refine hm_get E (tB in_md) hK hH (hw.at 0 rfl) rfl 2 (by decide) (tC wm_369) rfl d_md_readPattern_293 ?_
                                  refine lv_iload hx hb d_md_readPattern_296 (lv_at hl 1 rfl) ?_
                                  refine lv_iconst (v := 1) hx hb d_md_readPattern_298 (by decide) ?_
                                  refine hn_isub hx hb (a := i) (b := 1) (by omega) d_md_readPattern_299 ?_
                                  refine hm_iald E hK hH 0 (hw.at 1 rfl) rfl (i := i - 1) (by omega) (by decide) d_md_readPattern_300 ?_
                                  refine lv_bipush (v := 48) hx hb d_md_readPattern_301 (by decide) ?_
                                  refine lv_isub hx hb d_md_readPattern_303 ?_
                                  refine lv_goto (tgt := 308) hx hb d_md_readPattern_304 (by decide) ?_
                                  refine hm_iast E hK hH 0 (hw.at 4 rfl) rfl (i := at0 + np + (pz dr i)) (by omega) (by decide) d_md_readPattern_308 (fun H locs hH => ?_)
                                  have hw := hw.set (ws' := [(y, .inr (4, [.int (nI th), .int (nI dn), .ref d, .int (nI np), .ref be, .ref sg, .ref nu, .int (nI bg), .int (nI nx), .ref fi, .ref le, .ref pl, .int (nI lf), .int (nI rt), .int (nI ln), .ref rw, .ref va, .int (bI ak)])), (d, aI G 200 dr), (be, aI G 8194 fb), (sg, aI G 40000 (upd f (at0 + (pz dr i)) (dr i))), (nu, aI G 48200 (upd g (at0 + np + (pz dr i)) ((dr (i - 1)) - 48)))]) (k := 4) rfl rfl
                                  have hk := hk.wr (a := nu) (v := some (aI G 48200 (upd g (at0 + np + (pz dr i)) ((dr (i - 1)) - 48)))) (by first | (right; assumption) | (left; simp; done))
                                  generalize va_up M nu (some (aI G 48200 (upd g (at0 + np + (pz dr i)) ((dr (i - 1)) - 48)))) = M at hH hw hk ⊢
                                  refine lv_iinc (v := nI (pz dr i + 1)) (lv' := [(5, .int (nI (pz dr i + 1))), (4, .int 1), (6, .int (nI i)), (3, .int (nI (pz dr dn))), (1, .int (nI at0)), (0, .ref y)]) hx hb d_md_readPattern_309 hl (k := 2) rfl (by first | exact nI_add _ 1 | (show nI _ + nI _ = _; rw [nI_add])) (by decide) rfl (fun ls hl => ?_)
                                  refine lv_iinc (v := nI (i + 1)) (lv' := [(6, .int (nI (i + 1))), (5, .int (nI (pz dr i + 1))), (4, .int 1), (3, .int (nI (pz dr dn))), (1, .int (nI at0)), (0, .ref y)]) hx hb d_md_readPattern_312 hl (k := 2) rfl (by first | exact nI_add _ 1 | (show nI _ + nI _ = _; rw [nI_add])) (by decide) rfl (fun ls hl => ?_)
                                  refine lv_goto (tgt := 184) hx hb d_md_readPattern_315 (by decide) ?_
                                  have e2 : pz dr (i + 1) = pz dr i + 1 := by simp [pz, h203]
                                  exact ih (i + 1) (upd f (at0 + (pz dr i)) (dr i)) (upd g (at0 + np + (pz dr i)) ((dr (i - 1)) - 48)) M _ _ _ (by omega) (by omega) (bl_upd hf0 (by omega)) (sg_S e2 hf1 (psg_at (by omega) h203).symm) (bl_upd hg0 (by omega)) (sg_S e2 hg1 (num_y (by omega) h203 (by omega) h289)) hw hk hH (lv_cv (lv_sub hl [0, 1, 2, 3, 4, 5] rfl) (by rw [e2]; simp [gqP, bI_t, bI_f, h203, h208, h220, h225, h233] <;> rfl))
              exact L184 (dn + 1) 0 fs fn M _ _ _ (by omega) (by omega) (fun _ _ => rfl) (fun j hj => absurd hj (by simp [pz])) (fun _ _ => rfl) (fun j hj => absurd hj (by simp [pz])) hw hk hH (lv_cv (lv_sub hl [0, 1, 2, 3, 5, 6] rfl) (by rw [hgd]; rfl))
            · skip
              refine lv_iconst (v := 0) hx hb d_md_readPattern_176 (by decide) ?_
              exact hm_iret E hr hlk hH ((fun hno => ⟨Or.inr ⟨hno, rfl⟩, fs, fn, hw, fun _ _ => rfl, fun _ _ => rfl, fun z => absurd z hno, hk⟩) (fun z => by have h8 := z.2.2.1; have h9 := z.2.2.2.1; omega)) (by omega) (by omega) d_md_readPattern_177
      · skip
        refine lv_iload hx hb d_md_readPattern_29 (lv_at hl 1 rfl) ?_
        refine hb_if_eq (b := gdP dr i) hx hb (tgt := 109) d_md_readPattern_31 (by decide) (fun h31 => ?_) (fun h31 => ?_)
        · skip
          refine lv_iconst (v := 0) hx hb d_md_readPattern_109 (by decide) ?_
          refine lv_istore (lv' := [(4, .int 0), (5, .int (nI i)), (3, .int (nI (pz dr i))), (2, .int (nI (plt dr i))), (1, .int (nI at0)), (0, .ref y)]) hx hb d_md_readPattern_110 hl (by decide) rfl (fun ls hl => ?_)
          refine lv_iload_n hx hb d_md_readPattern_112 rfl (lv_at hl 3 rfl) ?_
          refine lv_aload_n hx hb d_md_readPattern_113 rfl (lv_at hl 5 rfl) ?_
          refine hm_get E (tB in_md) hK hH (hw.at 0 rfl) rfl 2 (by decide) (tC wm_369) rfl d_md_readPattern_114 ?_
          refine lv_iload hx hb d_md_readPattern_117 (lv_at hl 1 rfl) ?_
          refine hm_iald E hK hH 0 (hw.at 1 rfl) rfl (i := i) (by omega) (by decide) d_md_readPattern_119 ?_
          have hM1 := c_md_isLetter l G (dr i) M (hby _) H.size
          have hG1 : GoodIn w_md_readPattern (wsS R_md 58 y_md_isLetter w_md_isLetter) := gB_S wm_440 wm_441 wm_5 wm_442
          refine hm_call (va_runS (y := y_md_isLetter) (bytes := b_md_isLetter) (maxL := 1) (ws := w_md_isLetter) (rm := { frames := 0, cells := 0, slots := 0, locals := 0 }) (own := R_md) (index := 58) (ret := (Option.some Jvm.ClassFile.FieldType.boolean)) (As := [.int (dr i)]) (rest := [.int (nI (plt dr i))]) E hM1 (cwS (y := y_md_isLetter) (bytes := b_md_isLetter) (maxL := 1) (ws := w_md_isLetter) (rm := { frames := 0, cells := 0, slots := 0, locals := 0 }) (own := R_md) (index := 58) (ret := (Option.some Jvm.ClassFile.FieldType.boolean)) 1 hts hG1 rfl rfl rfl (by decide +kernel) ⟨Nat.le_of_ble_eq_true rfl, Nat.le_of_ble_eq_true rfl⟩) (hm_preS gk_w gk_s hH hg [.int (dr i)]) rfl rfl hl.1 rfl (lv_room (Nat.le_of_ble_eq_true rfl)) d_md_readPattern_120 ⟨(by show _ ≤ 0; omega), (by show _ ≤ 0; omega)⟩) hH (fun r1 M1 H1 locs1 hq1 hH1 => ?_)
          obtain ⟨rfl, e1⟩ := hq1
          replace hH := hH1; rw [e1] at hH; clear hH1 e1; generalize H1 = H at hH ⊢; generalize locs1 = locs at hH ⊢
          refine hb_if_eq (b := isL (dr i)) hx hb (tgt := 130) d_md_readPattern_123 (by decide) (fun h123 => ?_) (fun h123 => ?_)
          · skip
            refine lv_iconst (v := 0) hx hb d_md_readPattern_130 (by decide) ?_
            refine hn_iadd hx hb (a := plt dr i) (b := 0) d_md_readPattern_131 ?_
            refine lv_istore_n (lv' := [(2, .int (nI (plt dr i + 0))), (4, .int 0), (5, .int (nI i)), (3, .int (nI (pz dr i))), (1, .int (nI at0)), (0, .ref y)]) hx hb d_md_readPattern_132 rfl hl (by decide) rfl (fun ls hl => ?_)
            refine lv_iload_n hx hb d_md_readPattern_133 rfl (lv_at hl 3 rfl) ?_
            refine lv_aload_n hx hb d_md_readPattern_134 rfl (lv_at hl 5 rfl) ?_
            refine hm_get E (tB in_md) hK hH (hw.at 0 rfl) rfl 2 (by decide) (tC wm_369) rfl d_md_readPattern_135 ?_
            refine lv_iload hx hb d_md_readPattern_138 (lv_at hl 2 rfl) ?_
            refine hm_iald E hK hH 0 (hw.at 1 rfl) rfl (i := i) (by omega) (by decide) d_md_readPattern_140 ?_
            have hM1 := c_md_isDigit l G (dr i) M H.size
            have hG1 : GoodIn w_md_readPattern (wsS R_md 62 y_md_isDigit w_md_isDigit) := gB_S wm_443 wm_444 wm_5 wm_445
            refine hm_call (va_runS (y := y_md_isDigit) (bytes := b_md_isDigit) (maxL := 1) (ws := w_md_isDigit) (rm := { frames := 0, cells := 0, slots := 0, locals := 0 }) (own := R_md) (index := 62) (ret := (Option.some Jvm.ClassFile.FieldType.boolean)) (As := [.int (dr i)]) (rest := [.int (nI (pz dr i))]) E hM1 (cwS (y := y_md_isDigit) (bytes := b_md_isDigit) (maxL := 1) (ws := w_md_isDigit) (rm := { frames := 0, cells := 0, slots := 0, locals := 0 }) (own := R_md) (index := 62) (ret := (Option.some Jvm.ClassFile.FieldType.boolean)) 1 hts hG1 rfl rfl rfl (by decide +kernel) ⟨Nat.le_of_ble_eq_true rfl, Nat.le_of_ble_eq_true rfl⟩) (hm_preS gk_w gk_s hH hg [.int (dr i)]) rfl rfl hl.1 rfl (lv_room (Nat.le_of_ble_eq_true rfl)) d_md_readPattern_141 ⟨(by show _ ≤ 0; omega), (by show _ ≤ 0; omega)⟩) hH (fun r1 M1 H1 locs1 hq1 hH1 => ?_)
            obtain ⟨rfl, e1⟩ := hq1
            replace hH := hH1; rw [e1] at hH; clear hH1 e1; generalize H1 = H at hH ⊢; generalize locs1 = locs at hH ⊢
            refine hb_if_eq (b := isDg (dr i)) hx hb (tgt := 151) d_md_readPattern_144 (by decide) (fun h144 => ?_) (fun h144 => ?_)
            · skip
              refine lv_iconst (v := 1) hx hb d_md_readPattern_151 (by decide) ?_
              refine hn_iadd hx hb (a := pz dr i) (b := 1) d_md_readPattern_152 ?_
              refine lv_istore_n (lv' := [(3, .int (nI (pz dr i + 1))), (2, .int (nI (plt dr i + 0))), (4, .int 0), (5, .int (nI i)), (1, .int (nI at0)), (0, .ref y)]) hx hb d_md_readPattern_153 rfl hl (by decide) rfl (fun ls hl => ?_)
              refine lv_iinc (v := nI (i + 1)) (lv' := [(5, .int (nI (i + 1))), (3, .int (nI (pz dr i + 1))), (2, .int (nI (plt dr i + 0))), (4, .int 0), (1, .int (nI at0)), (0, .ref y)]) hx hb d_md_readPattern_154 hl (k := 3) rfl (by first | exact nI_add _ 1 | (show nI _ + nI _ = _; rw [nI_add])) (by decide) rfl (fun ls hl => ?_)
              refine lv_goto (tgt := 20) hx hb d_md_readPattern_157 (by decide) ?_
              exact ih (i + 1) _ _ _ (by omega) (by omega) hH (lv_cv (lv_sub hl [0, 3, 1, 2, 4, 5] rfl) (by simp [gdP, plt, pz, bI_t, bI_f, h26, h31, h123, h144] <;> rfl))
            · skip
              refine lv_iconst (v := 0) hx hb d_md_readPattern_147 (by decide) ?_
              refine lv_goto (tgt := 152) hx hb d_md_readPattern_148 (by decide) ?_
              refine hn_iadd hx hb (a := pz dr i) (b := 0) d_md_readPattern_152 ?_
              refine lv_istore_n (lv' := [(3, .int (nI (pz dr i + 0))), (2, .int (nI (plt dr i + 0))), (4, .int 0), (5, .int (nI i)), (1, .int (nI at0)), (0, .ref y)]) hx hb d_md_readPattern_153 rfl hl (by decide) rfl (fun ls hl => ?_)
              refine lv_iinc (v := nI (i + 1)) (lv' := [(5, .int (nI (i + 1))), (3, .int (nI (pz dr i + 0))), (2, .int (nI (plt dr i + 0))), (4, .int 0), (1, .int (nI at0)), (0, .ref y)]) hx hb d_md_readPattern_154 hl (k := 3) rfl (by first | exact nI_add _ 1 | (show nI _ + nI _ = _; rw [nI_add])) (by decide) rfl (fun ls hl => ?_)
              refine lv_goto (tgt := 20) hx hb d_md_readPattern_157 (by decide) ?_
              exact ih (i + 1) _ _ _ (by omega) (by omega) hH (lv_cv (lv_sub hl [0, 3, 1, 2, 4, 5] rfl) (by simp [gdP, plt, pz, bI_t, bI_f, h26, h31, h123, h144] <;> rfl))
          · skip
            refine lv_iconst (v := 1) hx hb d_md_readPattern_126 (by decide) ?_
            refine lv_goto (tgt := 131) hx hb d_md_readPattern_127 (by decide) ?_
            refine hn_iadd hx hb (a := plt dr i) (b := 1) d_md_readPattern_131 ?_
            refine lv_istore_n (lv' := [(2, .int (nI (plt dr i + 1))), (4, .int 0), (5, .int (nI i)), (3, .int (nI (pz dr i))), (1, .int (nI at0)), (0, .ref y)]) hx hb d_md_readPattern_132 rfl hl (by decide) rfl (fun ls hl => ?_)
            refine lv_iload_n hx hb d_md_readPattern_133 rfl (lv_at hl 3 rfl) ?_
            refine lv_aload_n hx hb d_md_readPattern_134 rfl (lv_at hl 5 rfl) ?_
            refine hm_get E (tB in_md) hK hH (hw.at 0 rfl) rfl 2 (by decide) (tC wm_369) rfl d_md_readPattern_135 ?_
            refine lv_iload hx hb d_md_readPattern_138 (lv_at hl 2 rfl) ?_
            refine hm_iald E hK hH 0 (hw.at 1 rfl) rfl (i := i) (by omega) (by decide) d_md_readPattern_140 ?_
            have hM1 := c_md_isDigit l G (dr i) M H.size
            have hG1 : GoodIn w_md_readPattern (wsS R_md 62 y_md_isDigit w_md_isDigit) := gB_S wm_443 wm_444 wm_5 wm_445
            refine hm_call (va_runS (y := y_md_isDigit) (bytes := b_md_isDigit) (maxL := 1) (ws := w_md_isDigit) (rm := { frames := 0, cells := 0, slots := 0, locals := 0 }) (own := R_md) (index := 62) (ret := (Option.some Jvm.ClassFile.FieldType.boolean)) (As := [.int (dr i)]) (rest := [.int (nI (pz dr i))]) E hM1 (cwS (y := y_md_isDigit) (bytes := b_md_isDigit) (maxL := 1) (ws := w_md_isDigit) (rm := { frames := 0, cells := 0, slots := 0, locals := 0 }) (own := R_md) (index := 62) (ret := (Option.some Jvm.ClassFile.FieldType.boolean)) 1 hts hG1 rfl rfl rfl (by decide +kernel) ⟨Nat.le_of_ble_eq_true rfl, Nat.le_of_ble_eq_true rfl⟩) (hm_preS gk_w gk_s hH hg [.int (dr i)]) rfl rfl hl.1 rfl (lv_room (Nat.le_of_ble_eq_true rfl)) d_md_readPattern_141 ⟨(by show _ ≤ 0; omega), (by show _ ≤ 0; omega)⟩) hH (fun r1 M1 H1 locs1 hq1 hH1 => ?_)
            obtain ⟨rfl, e1⟩ := hq1
            replace hH := hH1; rw [e1] at hH; clear hH1 e1; generalize H1 = H at hH ⊢; generalize locs1 = locs at hH ⊢
            refine hb_if_eq (b := isDg (dr i)) hx hb (tgt := 151) d_md_readPattern_144 (by decide) (fun h144 => ?_) (fun h144 => ?_)
            · skip
              refine lv_iconst (v := 1) hx hb d_md_readPattern_151 (by decide) ?_
              refine hn_iadd hx hb (a := pz dr i) (b := 1) d_md_readPattern_152 ?_
              refine lv_istore_n (lv' := [(3, .int (nI (pz dr i + 1))), (2, .int (nI (plt dr i + 1))), (4, .int 0), (5, .int (nI i)), (1, .int (nI at0)), (0, .ref y)]) hx hb d_md_readPattern_153 rfl hl (by decide) rfl (fun ls hl => ?_)
              refine lv_iinc (v := nI (i + 1)) (lv' := [(5, .int (nI (i + 1))), (3, .int (nI (pz dr i + 1))), (2, .int (nI (plt dr i + 1))), (4, .int 0), (1, .int (nI at0)), (0, .ref y)]) hx hb d_md_readPattern_154 hl (k := 3) rfl (by first | exact nI_add _ 1 | (show nI _ + nI _ = _; rw [nI_add])) (by decide) rfl (fun ls hl => ?_)
              refine lv_goto (tgt := 20) hx hb d_md_readPattern_157 (by decide) ?_
              exact ih (i + 1) _ _ _ (by omega) (by omega) hH (lv_cv (lv_sub hl [0, 3, 1, 2, 4, 5] rfl) (by simp [gdP, plt, pz, bI_t, bI_f, h26, h31, h123, h144] <;> rfl))
            · skip
              refine lv_iconst (v := 0) hx hb d_md_readPattern_147 (by decide) ?_
              refine lv_goto (tgt := 152) hx hb d_md_readPattern_148 (by decide) ?_
              refine hn_iadd hx hb (a := pz dr i) (b := 0) d_md_readPattern_152 ?_
              refine lv_istore_n (lv' := [(3, .int (nI (pz dr i + 0))), (2, .int (nI (plt dr i + 1))), (4, .int 0), (5, .int (nI i)), (1, .int (nI at0)), (0, .ref y)]) hx hb d_md_readPattern_153 rfl hl (by decide) rfl (fun ls hl => ?_)
              refine lv_iinc (v := nI (i + 1)) (lv' := [(5, .int (nI (i + 1))), (3, .int (nI (pz dr i + 0))), (2, .int (nI (plt dr i + 1))), (4, .int 0), (1, .int (nI at0)), (0, .ref y)]) hx hb d_md_readPattern_154 hl (k := 3) rfl (by first | exact nI_add _ 1 | (show nI _ + nI _ = _; rw [nI_add])) (by decide) rfl (fun ls hl => ?_)
              refine lv_goto (tgt := 20) hx hb d_md_readPattern_157 (by decide) ?_
              exact ih (i + 1) _ _ _ (by omega) (by omega) hH (lv_cv (lv_sub hl [0, 3, 1, 2, 4, 5] rfl) (by simp [gdP, plt, pz, bI_t, bI_f, h26, h31, h123, h144] <;> rfl))
        · skip
          refine lv_aload_n hx hb d_md_readPattern_34 rfl (lv_at hl 5 rfl) ?_
          refine hm_get E (tB in_md) hK hH (hw.at 0 rfl) rfl 2 (by decide) (tC wm_369) rfl d_md_readPattern_35 ?_
          refine lv_iload hx hb d_md_readPattern_38 (lv_at hl 0 rfl) ?_
          refine hm_iald E hK hH 0 (hw.at 1 rfl) rfl (i := i) (by omega) (by decide) d_md_readPattern_40 ?_
          have hM1 := c_md_isLetter l G (dr i) M (hby _) H.size
          have hG1 : GoodIn w_md_readPattern (wsS R_md 58 y_md_isLetter w_md_isLetter) := gB_S wm_440 wm_441 wm_5 wm_442
          refine hm_call (va_runS (y := y_md_isLetter) (bytes := b_md_isLetter) (maxL := 1) (ws := w_md_isLetter) (rm := { frames := 0, cells := 0, slots := 0, locals := 0 }) (own := R_md) (index := 58) (ret := (Option.some Jvm.ClassFile.FieldType.boolean)) (As := [.int (dr i)]) (rest := []) E hM1 (cwS (y := y_md_isLetter) (bytes := b_md_isLetter) (maxL := 1) (ws := w_md_isLetter) (rm := { frames := 0, cells := 0, slots := 0, locals := 0 }) (own := R_md) (index := 58) (ret := (Option.some Jvm.ClassFile.FieldType.boolean)) 1 hts hG1 rfl rfl rfl (by decide +kernel) ⟨Nat.le_of_ble_eq_true rfl, Nat.le_of_ble_eq_true rfl⟩) (hm_preS gk_w gk_s hH hg [.int (dr i)]) rfl rfl hl.1 rfl (lv_room (Nat.le_of_ble_eq_true rfl)) d_md_readPattern_41 ⟨(by show _ ≤ 0; omega), (by show _ ≤ 0; omega)⟩) hH (fun r1 M1 H1 locs1 hq1 hH1 => ?_)
          obtain ⟨rfl, e1⟩ := hq1
          replace hH := hH1; rw [e1] at hH; clear hH1 e1; generalize H1 = H at hH ⊢; generalize locs1 = locs at hH ⊢
          refine hb_if_ne (b := isL (dr i)) hx hb (tgt := 72) d_md_readPattern_44 (by decide) (fun h44 => ?_) (fun h44 => ?_)
          · skip
            refine lv_iload hx hb d_md_readPattern_72 (lv_at hl 0 rfl) ?_
            refine hn_if_le (a := i) hx hb (by omega) (tgt := 105) d_md_readPattern_74 (by decide) (fun h74 => ?_) (fun h74 => ?_)
            · skip
              have h74 : ¬ 0 < i := by omega
              refine lv_iconst (v := 1) hx hb d_md_readPattern_105 (by decide) ?_
              refine lv_goto (tgt := 110) hx hb d_md_readPattern_106 (by decide) ?_
              refine lv_istore (lv' := [(4, .int 1), (5, .int (nI i)), (3, .int (nI (pz dr i))), (2, .int (nI (plt dr i))), (1, .int (nI at0)), (0, .ref y)]) hx hb d_md_readPattern_110 hl (by decide) rfl (fun ls hl => ?_)
              refine lv_iload_n hx hb d_md_readPattern_112 rfl (lv_at hl 3 rfl) ?_
              refine lv_aload_n hx hb d_md_readPattern_113 rfl (lv_at hl 5 rfl) ?_
              refine hm_get E (tB in_md) hK hH (hw.at 0 rfl) rfl 2 (by decide) (tC wm_369) rfl d_md_readPattern_114 ?_
              refine lv_iload hx hb d_md_readPattern_117 (lv_at hl 1 rfl) ?_
              refine hm_iald E hK hH 0 (hw.at 1 rfl) rfl (i := i) (by omega) (by decide) d_md_readPattern_119 ?_
              have hM1 := c_md_isLetter l G (dr i) M (hby _) H.size
              have hG1 : GoodIn w_md_readPattern (wsS R_md 58 y_md_isLetter w_md_isLetter) := gB_S wm_440 wm_441 wm_5 wm_442
              refine hm_call (va_runS (y := y_md_isLetter) (bytes := b_md_isLetter) (maxL := 1) (ws := w_md_isLetter) (rm := { frames := 0, cells := 0, slots := 0, locals := 0 }) (own := R_md) (index := 58) (ret := (Option.some Jvm.ClassFile.FieldType.boolean)) (As := [.int (dr i)]) (rest := [.int (nI (plt dr i))]) E hM1 (cwS (y := y_md_isLetter) (bytes := b_md_isLetter) (maxL := 1) (ws := w_md_isLetter) (rm := { frames := 0, cells := 0, slots := 0, locals := 0 }) (own := R_md) (index := 58) (ret := (Option.some Jvm.ClassFile.FieldType.boolean)) 1 hts hG1 rfl rfl rfl (by decide +kernel) ⟨Nat.le_of_ble_eq_true rfl, Nat.le_of_ble_eq_true rfl⟩) (hm_preS gk_w gk_s hH hg [.int (dr i)]) rfl rfl hl.1 rfl (lv_room (Nat.le_of_ble_eq_true rfl)) d_md_readPattern_120 ⟨(by show _ ≤ 0; omega), (by show _ ≤ 0; omega)⟩) hH (fun r1 M1 H1 locs1 hq1 hH1 => ?_)
              obtain ⟨rfl, e1⟩ := hq1
              replace hH := hH1; rw [e1] at hH; clear hH1 e1; generalize H1 = H at hH ⊢; generalize locs1 = locs at hH ⊢
              refine hb_if_eq (b := isL (dr i)) hx hb (tgt := 130) d_md_readPattern_123 (by decide) (fun h123 => ?_) (fun h123 => ?_)
              · skip
                exact absurd (h44.symm.trans h123) (by decide)
              · skip
                refine lv_iconst (v := 1) hx hb d_md_readPattern_126 (by decide) ?_
                refine lv_goto (tgt := 131) hx hb d_md_readPattern_127 (by decide) ?_
                refine hn_iadd hx hb (a := plt dr i) (b := 1) d_md_readPattern_131 ?_
                refine lv_istore_n (lv' := [(2, .int (nI (plt dr i + 1))), (4, .int 1), (5, .int (nI i)), (3, .int (nI (pz dr i))), (1, .int (nI at0)), (0, .ref y)]) hx hb d_md_readPattern_132 rfl hl (by decide) rfl (fun ls hl => ?_)
                refine lv_iload_n hx hb d_md_readPattern_133 rfl (lv_at hl 3 rfl) ?_
                refine lv_aload_n hx hb d_md_readPattern_134 rfl (lv_at hl 5 rfl) ?_
                refine hm_get E (tB in_md) hK hH (hw.at 0 rfl) rfl 2 (by decide) (tC wm_369) rfl d_md_readPattern_135 ?_
                refine lv_iload hx hb d_md_readPattern_138 (lv_at hl 2 rfl) ?_
                refine hm_iald E hK hH 0 (hw.at 1 rfl) rfl (i := i) (by omega) (by decide) d_md_readPattern_140 ?_
                have hM1 := c_md_isDigit l G (dr i) M H.size
                have hG1 : GoodIn w_md_readPattern (wsS R_md 62 y_md_isDigit w_md_isDigit) := gB_S wm_443 wm_444 wm_5 wm_445
                refine hm_call (va_runS (y := y_md_isDigit) (bytes := b_md_isDigit) (maxL := 1) (ws := w_md_isDigit) (rm := { frames := 0, cells := 0, slots := 0, locals := 0 }) (own := R_md) (index := 62) (ret := (Option.some Jvm.ClassFile.FieldType.boolean)) (As := [.int (dr i)]) (rest := [.int (nI (pz dr i))]) E hM1 (cwS (y := y_md_isDigit) (bytes := b_md_isDigit) (maxL := 1) (ws := w_md_isDigit) (rm := { frames := 0, cells := 0, slots := 0, locals := 0 }) (own := R_md) (index := 62) (ret := (Option.some Jvm.ClassFile.FieldType.boolean)) 1 hts hG1 rfl rfl rfl (by decide +kernel) ⟨Nat.le_of_ble_eq_true rfl, Nat.le_of_ble_eq_true rfl⟩) (hm_preS gk_w gk_s hH hg [.int (dr i)]) rfl rfl hl.1 rfl (lv_room (Nat.le_of_ble_eq_true rfl)) d_md_readPattern_141 ⟨(by show _ ≤ 0; omega), (by show _ ≤ 0; omega)⟩) hH (fun r1 M1 H1 locs1 hq1 hH1 => ?_)
                obtain ⟨rfl, e1⟩ := hq1
                replace hH := hH1; rw [e1] at hH; clear hH1 e1; generalize H1 = H at hH ⊢; generalize locs1 = locs at hH ⊢
                refine hb_if_eq (b := isDg (dr i)) hx hb (tgt := 151) d_md_readPattern_144 (by decide) (fun h144 => ?_) (fun h144 => ?_)
                · skip
                  refine lv_iconst (v := 1) hx hb d_md_readPattern_151 (by decide) ?_
                  refine hn_iadd hx hb (a := pz dr i) (b := 1) d_md_readPattern_152 ?_
                  refine lv_istore_n (lv' := [(3, .int (nI (pz dr i + 1))), (2, .int (nI (plt dr i + 1))), (4, .int 1), (5, .int (nI i)), (1, .int (nI at0)), (0, .ref y)]) hx hb d_md_readPattern_153 rfl hl (by decide) rfl (fun ls hl => ?_)
                  refine lv_iinc (v := nI (i + 1)) (lv' := [(5, .int (nI (i + 1))), (3, .int (nI (pz dr i + 1))), (2, .int (nI (plt dr i + 1))), (4, .int 1), (1, .int (nI at0)), (0, .ref y)]) hx hb d_md_readPattern_154 hl (k := 3) rfl (by first | exact nI_add _ 1 | (show nI _ + nI _ = _; rw [nI_add])) (by decide) rfl (fun ls hl => ?_)
                  refine lv_goto (tgt := 20) hx hb d_md_readPattern_157 (by decide) ?_
                  exact ih (i + 1) _ _ _ (by omega) (by omega) hH (lv_cv (lv_sub hl [0, 3, 1, 2, 4, 5] rfl) (by simp [gdP, plt, pz, bI_t, bI_f, h26, h31, h44, h74, h123, h144] <;> rfl))
                · skip
                  refine lv_iconst (v := 0) hx hb d_md_readPattern_147 (by decide) ?_
                  refine lv_goto (tgt := 152) hx hb d_md_readPattern_148 (by decide) ?_
                  refine hn_iadd hx hb (a := pz dr i) (b := 0) d_md_readPattern_152 ?_
                  refine lv_istore_n (lv' := [(3, .int (nI (pz dr i + 0))), (2, .int (nI (plt dr i + 1))), (4, .int 1), (5, .int (nI i)), (1, .int (nI at0)), (0, .ref y)]) hx hb d_md_readPattern_153 rfl hl (by decide) rfl (fun ls hl => ?_)
                  refine lv_iinc (v := nI (i + 1)) (lv' := [(5, .int (nI (i + 1))), (3, .int (nI (pz dr i + 0))), (2, .int (nI (plt dr i + 1))), (4, .int 1), (1, .int (nI at0)), (0, .ref y)]) hx hb d_md_readPattern_154 hl (k := 3) rfl (by first | exact nI_add _ 1 | (show nI _ + nI _ = _; rw [nI_add])) (by decide) rfl (fun ls hl => ?_)
                  refine lv_goto (tgt := 20) hx hb d_md_readPattern_157 (by decide) ?_
                  exact ih (i + 1) _ _ _ (by omega) (by omega) hH (lv_cv (lv_sub hl [0, 3, 1, 2, 4, 5] rfl) (by simp [gdP, plt, pz, bI_t, bI_f, h26, h31, h44, h74, h123, h144] <;> rfl))
            · skip
              have h74 : 0 < i := by omega
              refine lv_aload_n hx hb d_md_readPattern_77 rfl (lv_at hl 5 rfl) ?_
              refine hm_get E (tB in_md) hK hH (hw.at 0 rfl) rfl 2 (by decide) (tC wm_369) rfl d_md_readPattern_78 ?_
              refine lv_iload hx hb d_md_readPattern_81 (lv_at hl 0 rfl) ?_
              refine hm_iald E hK hH 0 (hw.at 1 rfl) rfl (i := i) (by omega) (by decide) d_md_readPattern_83 ?_
              have hM1 := c_md_isDigit l G (dr i) M H.size
              have hG1 : GoodIn w_md_readPattern (wsS R_md 62 y_md_isDigit w_md_isDigit) := gB_S wm_443 wm_444 wm_5 wm_445
              refine hm_call (va_runS (y := y_md_isDigit) (bytes := b_md_isDigit) (maxL := 1) (ws := w_md_isDigit) (rm := { frames := 0, cells := 0, slots := 0, locals := 0 }) (own := R_md) (index := 62) (ret := (Option.some Jvm.ClassFile.FieldType.boolean)) (As := [.int (dr i)]) (rest := []) E hM1 (cwS (y := y_md_isDigit) (bytes := b_md_isDigit) (maxL := 1) (ws := w_md_isDigit) (rm := { frames := 0, cells := 0, slots := 0, locals := 0 }) (own := R_md) (index := 62) (ret := (Option.some Jvm.ClassFile.FieldType.boolean)) 1 hts hG1 rfl rfl rfl (by decide +kernel) ⟨Nat.le_of_ble_eq_true rfl, Nat.le_of_ble_eq_true rfl⟩) (hm_preS gk_w gk_s hH hg [.int (dr i)]) rfl rfl hl.1 rfl (lv_room (Nat.le_of_ble_eq_true rfl)) d_md_readPattern_84 ⟨(by show _ ≤ 0; omega), (by show _ ≤ 0; omega)⟩) hH (fun r1 M1 H1 locs1 hq1 hH1 => ?_)
              obtain ⟨rfl, e1⟩ := hq1
              replace hH := hH1; rw [e1] at hH; clear hH1 e1; generalize H1 = H at hH ⊢; generalize locs1 = locs at hH ⊢
              refine hb_if_eq (b := isDg (dr i)) hx hb (tgt := 105) d_md_readPattern_87 (by decide) (fun h87 => ?_) (fun h87 => ?_)
              · skip
                refine lv_iconst (v := 1) hx hb d_md_readPattern_105 (by decide) ?_
                refine lv_goto (tgt := 110) hx hb d_md_readPattern_106 (by decide) ?_
                refine lv_istore (lv' := [(4, .int 1), (5, .int (nI i)), (3, .int (nI (pz dr i))), (2, .int (nI (plt dr i))), (1, .int (nI at0)), (0, .ref y)]) hx hb d_md_readPattern_110 hl (by decide) rfl (fun ls hl => ?_)
                refine lv_iload_n hx hb d_md_readPattern_112 rfl (lv_at hl 3 rfl) ?_
                refine lv_aload_n hx hb d_md_readPattern_113 rfl (lv_at hl 5 rfl) ?_
                refine hm_get E (tB in_md) hK hH (hw.at 0 rfl) rfl 2 (by decide) (tC wm_369) rfl d_md_readPattern_114 ?_
                refine lv_iload hx hb d_md_readPattern_117 (lv_at hl 1 rfl) ?_
                refine hm_iald E hK hH 0 (hw.at 1 rfl) rfl (i := i) (by omega) (by decide) d_md_readPattern_119 ?_
                have hM1 := c_md_isLetter l G (dr i) M (hby _) H.size
                have hG1 : GoodIn w_md_readPattern (wsS R_md 58 y_md_isLetter w_md_isLetter) := gB_S wm_440 wm_441 wm_5 wm_442
                refine hm_call (va_runS (y := y_md_isLetter) (bytes := b_md_isLetter) (maxL := 1) (ws := w_md_isLetter) (rm := { frames := 0, cells := 0, slots := 0, locals := 0 }) (own := R_md) (index := 58) (ret := (Option.some Jvm.ClassFile.FieldType.boolean)) (As := [.int (dr i)]) (rest := [.int (nI (plt dr i))]) E hM1 (cwS (y := y_md_isLetter) (bytes := b_md_isLetter) (maxL := 1) (ws := w_md_isLetter) (rm := { frames := 0, cells := 0, slots := 0, locals := 0 }) (own := R_md) (index := 58) (ret := (Option.some Jvm.ClassFile.FieldType.boolean)) 1 hts hG1 rfl rfl rfl (by decide +kernel) ⟨Nat.le_of_ble_eq_true rfl, Nat.le_of_ble_eq_true rfl⟩) (hm_preS gk_w gk_s hH hg [.int (dr i)]) rfl rfl hl.1 rfl (lv_room (Nat.le_of_ble_eq_true rfl)) d_md_readPattern_120 ⟨(by show _ ≤ 0; omega), (by show _ ≤ 0; omega)⟩) hH (fun r1 M1 H1 locs1 hq1 hH1 => ?_)
                obtain ⟨rfl, e1⟩ := hq1
                replace hH := hH1; rw [e1] at hH; clear hH1 e1; generalize H1 = H at hH ⊢; generalize locs1 = locs at hH ⊢
                refine hb_if_eq (b := isL (dr i)) hx hb (tgt := 130) d_md_readPattern_123 (by decide) (fun h123 => ?_) (fun h123 => ?_)
                · skip
                  exact absurd (h44.symm.trans h123) (by decide)
                · skip
                  refine lv_iconst (v := 1) hx hb d_md_readPattern_126 (by decide) ?_
                  refine lv_goto (tgt := 131) hx hb d_md_readPattern_127 (by decide) ?_
                  refine hn_iadd hx hb (a := plt dr i) (b := 1) d_md_readPattern_131 ?_
                  refine lv_istore_n (lv' := [(2, .int (nI (plt dr i + 1))), (4, .int 1), (5, .int (nI i)), (3, .int (nI (pz dr i))), (1, .int (nI at0)), (0, .ref y)]) hx hb d_md_readPattern_132 rfl hl (by decide) rfl (fun ls hl => ?_)
                  refine lv_iload_n hx hb d_md_readPattern_133 rfl (lv_at hl 3 rfl) ?_
                  refine lv_aload_n hx hb d_md_readPattern_134 rfl (lv_at hl 5 rfl) ?_
                  refine hm_get E (tB in_md) hK hH (hw.at 0 rfl) rfl 2 (by decide) (tC wm_369) rfl d_md_readPattern_135 ?_
                  refine lv_iload hx hb d_md_readPattern_138 (lv_at hl 2 rfl) ?_
                  refine hm_iald E hK hH 0 (hw.at 1 rfl) rfl (i := i) (by omega) (by decide) d_md_readPattern_140 ?_
                  have hM1 := c_md_isDigit l G (dr i) M H.size
                  have hG1 : GoodIn w_md_readPattern (wsS R_md 62 y_md_isDigit w_md_isDigit) := gB_S wm_443 wm_444 wm_5 wm_445
                  refine hm_call (va_runS (y := y_md_isDigit) (bytes := b_md_isDigit) (maxL := 1) (ws := w_md_isDigit) (rm := { frames := 0, cells := 0, slots := 0, locals := 0 }) (own := R_md) (index := 62) (ret := (Option.some Jvm.ClassFile.FieldType.boolean)) (As := [.int (dr i)]) (rest := [.int (nI (pz dr i))]) E hM1 (cwS (y := y_md_isDigit) (bytes := b_md_isDigit) (maxL := 1) (ws := w_md_isDigit) (rm := { frames := 0, cells := 0, slots := 0, locals := 0 }) (own := R_md) (index := 62) (ret := (Option.some Jvm.ClassFile.FieldType.boolean)) 1 hts hG1 rfl rfl rfl (by decide +kernel) ⟨Nat.le_of_ble_eq_true rfl, Nat.le_of_ble_eq_true rfl⟩) (hm_preS gk_w gk_s hH hg [.int (dr i)]) rfl rfl hl.1 rfl (lv_room (Nat.le_of_ble_eq_true rfl)) d_md_readPattern_141 ⟨(by show _ ≤ 0; omega), (by show _ ≤ 0; omega)⟩) hH (fun r1 M1 H1 locs1 hq1 hH1 => ?_)
                  obtain ⟨rfl, e1⟩ := hq1
                  replace hH := hH1; rw [e1] at hH; clear hH1 e1; generalize H1 = H at hH ⊢; generalize locs1 = locs at hH ⊢
                  refine hb_if_eq (b := isDg (dr i)) hx hb (tgt := 151) d_md_readPattern_144 (by decide) (fun h144 => ?_) (fun h144 => ?_)
                  · skip
                    refine lv_iconst (v := 1) hx hb d_md_readPattern_151 (by decide) ?_
                    refine hn_iadd hx hb (a := pz dr i) (b := 1) d_md_readPattern_152 ?_
                    refine lv_istore_n (lv' := [(3, .int (nI (pz dr i + 1))), (2, .int (nI (plt dr i + 1))), (4, .int 1), (5, .int (nI i)), (1, .int (nI at0)), (0, .ref y)]) hx hb d_md_readPattern_153 rfl hl (by decide) rfl (fun ls hl => ?_)
                    refine lv_iinc (v := nI (i + 1)) (lv' := [(5, .int (nI (i + 1))), (3, .int (nI (pz dr i + 1))), (2, .int (nI (plt dr i + 1))), (4, .int 1), (1, .int (nI at0)), (0, .ref y)]) hx hb d_md_readPattern_154 hl (k := 3) rfl (by first | exact nI_add _ 1 | (show nI _ + nI _ = _; rw [nI_add])) (by decide) rfl (fun ls hl => ?_)
                    refine lv_goto (tgt := 20) hx hb d_md_readPattern_157 (by decide) ?_
                    exact ih (i + 1) _ _ _ (by omega) (by omega) hH (lv_cv (lv_sub hl [0, 3, 1, 2, 4, 5] rfl) (by simp [gdP, plt, pz, bI_t, bI_f, h26, h31, h44, h74, h87, h123, h144] <;> rfl))
                  · skip
                    exact absurd (h87.symm.trans h144) (by decide)
              · skip
                refine lv_aload_n hx hb d_md_readPattern_90 rfl (lv_at hl 5 rfl) ?_
                refine hm_get E (tB in_md) hK hH (hw.at 0 rfl) rfl 2 (by decide) (tC wm_369) rfl d_md_readPattern_91 ?_
                refine lv_iload hx hb d_md_readPattern_94 (lv_at hl 0 rfl) ?_
                refine lv_iconst (v := 1) hx hb d_md_readPattern_96 (by decide) ?_
                refine hn_isub hx hb (a := i) (b := 1) (by omega) d_md_readPattern_97 ?_
                refine hm_iald E hK hH 0 (hw.at 1 rfl) rfl (i := i - 1) (by omega) (by decide) d_md_readPattern_98 ?_
                have hM1 := c_md_isDigit l G (dr (i - 1)) M H.size
                have hG1 : GoodIn w_md_readPattern (wsS R_md 62 y_md_isDigit w_md_isDigit) := gB_S wm_443 wm_444 wm_5 wm_445
                refine hm_call (va_runS (y := y_md_isDigit) (bytes := b_md_isDigit) (maxL := 1) (ws := w_md_isDigit) (rm := { frames := 0, cells := 0, slots := 0, locals := 0 }) (own := R_md) (index := 62) (ret := (Option.some Jvm.ClassFile.FieldType.boolean)) (As := [.int (dr (i - 1))]) (rest := []) E hM1 (cwS (y := y_md_isDigit) (bytes := b_md_isDigit) (maxL := 1) (ws := w_md_isDigit) (rm := { frames := 0, cells := 0, slots := 0, locals := 0 }) (own := R_md) (index := 62) (ret := (Option.some Jvm.ClassFile.FieldType.boolean)) 1 hts hG1 rfl rfl rfl (by decide +kernel) ⟨Nat.le_of_ble_eq_true rfl, Nat.le_of_ble_eq_true rfl⟩) (hm_preS gk_w gk_s hH hg [.int (dr (i - 1))]) rfl rfl hl.1 rfl (lv_room (Nat.le_of_ble_eq_true rfl)) d_md_readPattern_99 ⟨(by show _ ≤ 0; omega), (by show _ ≤ 0; omega)⟩) hH (fun r1 M1 H1 locs1 hq1 hH1 => ?_)
                obtain ⟨rfl, e1⟩ := hq1
                replace hH := hH1; rw [e1] at hH; clear hH1 e1; generalize H1 = H at hH ⊢; generalize locs1 = locs at hH ⊢
                refine hb_if_ne (b := isDg (dr (i - 1))) hx hb (tgt := 109) d_md_readPattern_102 (by decide) (fun h102 => ?_) (fun h102 => ?_)
                · skip
                  refine lv_iconst (v := 0) hx hb d_md_readPattern_109 (by decide) ?_
                  refine lv_istore (lv' := [(4, .int 0), (5, .int (nI i)), (3, .int (nI (pz dr i))), (2, .int (nI (plt dr i))), (1, .int (nI at0)), (0, .ref y)]) hx hb d_md_readPattern_110 hl (by decide) rfl (fun ls hl => ?_)
                  refine lv_iload_n hx hb d_md_readPattern_112 rfl (lv_at hl 3 rfl) ?_
                  refine lv_aload_n hx hb d_md_readPattern_113 rfl (lv_at hl 5 rfl) ?_
                  refine hm_get E (tB in_md) hK hH (hw.at 0 rfl) rfl 2 (by decide) (tC wm_369) rfl d_md_readPattern_114 ?_
                  refine lv_iload hx hb d_md_readPattern_117 (lv_at hl 1 rfl) ?_
                  refine hm_iald E hK hH 0 (hw.at 1 rfl) rfl (i := i) (by omega) (by decide) d_md_readPattern_119 ?_
                  have hM1 := c_md_isLetter l G (dr i) M (hby _) H.size
                  have hG1 : GoodIn w_md_readPattern (wsS R_md 58 y_md_isLetter w_md_isLetter) := gB_S wm_440 wm_441 wm_5 wm_442
                  refine hm_call (va_runS (y := y_md_isLetter) (bytes := b_md_isLetter) (maxL := 1) (ws := w_md_isLetter) (rm := { frames := 0, cells := 0, slots := 0, locals := 0 }) (own := R_md) (index := 58) (ret := (Option.some Jvm.ClassFile.FieldType.boolean)) (As := [.int (dr i)]) (rest := [.int (nI (plt dr i))]) E hM1 (cwS (y := y_md_isLetter) (bytes := b_md_isLetter) (maxL := 1) (ws := w_md_isLetter) (rm := { frames := 0, cells := 0, slots := 0, locals := 0 }) (own := R_md) (index := 58) (ret := (Option.some Jvm.ClassFile.FieldType.boolean)) 1 hts hG1 rfl rfl rfl (by decide +kernel) ⟨Nat.le_of_ble_eq_true rfl, Nat.le_of_ble_eq_true rfl⟩) (hm_preS gk_w gk_s hH hg [.int (dr i)]) rfl rfl hl.1 rfl (lv_room (Nat.le_of_ble_eq_true rfl)) d_md_readPattern_120 ⟨(by show _ ≤ 0; omega), (by show _ ≤ 0; omega)⟩) hH (fun r1 M1 H1 locs1 hq1 hH1 => ?_)
                  obtain ⟨rfl, e1⟩ := hq1
                  replace hH := hH1; rw [e1] at hH; clear hH1 e1; generalize H1 = H at hH ⊢; generalize locs1 = locs at hH ⊢
                  refine hb_if_eq (b := isL (dr i)) hx hb (tgt := 130) d_md_readPattern_123 (by decide) (fun h123 => ?_) (fun h123 => ?_)
                  · skip
                    exact absurd (h44.symm.trans h123) (by decide)
                  · skip
                    refine lv_iconst (v := 1) hx hb d_md_readPattern_126 (by decide) ?_
                    refine lv_goto (tgt := 131) hx hb d_md_readPattern_127 (by decide) ?_
                    refine hn_iadd hx hb (a := plt dr i) (b := 1) d_md_readPattern_131 ?_
                    refine lv_istore_n (lv' := [(2, .int (nI (plt dr i + 1))), (4, .int 0), (5, .int (nI i)), (3, .int (nI (pz dr i))), (1, .int (nI at0)), (0, .ref y)]) hx hb d_md_readPattern_132 rfl hl (by decide) rfl (fun ls hl => ?_)
                    refine lv_iload_n hx hb d_md_readPattern_133 rfl (lv_at hl 3 rfl) ?_
                    refine lv_aload_n hx hb d_md_readPattern_134 rfl (lv_at hl 5 rfl) ?_
                    refine hm_get E (tB in_md) hK hH (hw.at 0 rfl) rfl 2 (by decide) (tC wm_369) rfl d_md_readPattern_135 ?_
                    refine lv_iload hx hb d_md_readPattern_138 (lv_at hl 2 rfl) ?_
                    refine hm_iald E hK hH 0 (hw.at 1 rfl) rfl (i := i) (by omega) (by decide) d_md_readPattern_140 ?_
                    have hM1 := c_md_isDigit l G (dr i) M H.size
                    have hG1 : GoodIn w_md_readPattern (wsS R_md 62 y_md_isDigit w_md_isDigit) := gB_S wm_443 wm_444 wm_5 wm_445
                    refine hm_call (va_runS (y := y_md_isDigit) (bytes := b_md_isDigit) (maxL := 1) (ws := w_md_isDigit) (rm := { frames := 0, cells := 0, slots := 0, locals := 0 }) (own := R_md) (index := 62) (ret := (Option.some Jvm.ClassFile.FieldType.boolean)) (As := [.int (dr i)]) (rest := [.int (nI (pz dr i))]) E hM1 (cwS (y := y_md_isDigit) (bytes := b_md_isDigit) (maxL := 1) (ws := w_md_isDigit) (rm := { frames := 0, cells := 0, slots := 0, locals := 0 }) (own := R_md) (index := 62) (ret := (Option.some Jvm.ClassFile.FieldType.boolean)) 1 hts hG1 rfl rfl rfl (by decide +kernel) ⟨Nat.le_of_ble_eq_true rfl, Nat.le_of_ble_eq_true rfl⟩) (hm_preS gk_w gk_s hH hg [.int (dr i)]) rfl rfl hl.1 rfl (lv_room (Nat.le_of_ble_eq_true rfl)) d_md_readPattern_141 ⟨(by show _ ≤ 0; omega), (by show _ ≤ 0; omega)⟩) hH (fun r1 M1 H1 locs1 hq1 hH1 => ?_)
                    obtain ⟨rfl, e1⟩ := hq1
                    replace hH := hH1; rw [e1] at hH; clear hH1 e1; generalize H1 = H at hH ⊢; generalize locs1 = locs at hH ⊢
                    refine hb_if_eq (b := isDg (dr i)) hx hb (tgt := 151) d_md_readPattern_144 (by decide) (fun h144 => ?_) (fun h144 => ?_)
                    · skip
                      exact absurd (h87.symm.trans h144) (by decide)
                    · skip
                      refine lv_iconst (v := 0) hx hb d_md_readPattern_147 (by decide) ?_
                      refine lv_goto (tgt := 152) hx hb d_md_readPattern_148 (by decide) ?_
                      refine hn_iadd hx hb (a := pz dr i) (b := 0) d_md_readPattern_152 ?_
                      refine lv_istore_n (lv' := [(3, .int (nI (pz dr i + 0))), (2, .int (nI (plt dr i + 1))), (4, .int 0), (5, .int (nI i)), (1, .int (nI at0)), (0, .ref y)]) hx hb d_md_readPattern_153 rfl hl (by decide) rfl (fun ls hl => ?_)
                      refine lv_iinc (v := nI (i + 1)) (lv' := [(5, .int (nI (i + 1))), (3, .int (nI (pz dr i + 0))), (2, .int (nI (plt dr i + 1))), (4, .int 0), (1, .int (nI at0)), (0, .ref y)]) hx hb d_md_readPattern_154 hl (k := 3) rfl (by first | exact nI_add _ 1 | (show nI _ + nI _ = _; rw [nI_add])) (by decide) rfl (fun ls hl => ?_)
                      refine lv_goto (tgt := 20) hx hb d_md_readPattern_157 (by decide) ?_
                      exact ih (i + 1) _ _ _ (by omega) (by omega) hH (lv_cv (lv_sub hl [0, 3, 1, 2, 4, 5] rfl) (by simp [gdP, plt, pz, bI_t, bI_f, h26, h31, h44, h74, h87, h102, h123, h144] <;> rfl))
                · skip
                  refine lv_iconst (v := 1) hx hb d_md_readPattern_105 (by decide) ?_
                  refine lv_goto (tgt := 110) hx hb d_md_readPattern_106 (by decide) ?_
                  refine lv_istore (lv' := [(4, .int 1), (5, .int (nI i)), (3, .int (nI (pz dr i))), (2, .int (nI (plt dr i))), (1, .int (nI at0)), (0, .ref y)]) hx hb d_md_readPattern_110 hl (by decide) rfl (fun ls hl => ?_)
                  refine lv_iload_n hx hb d_md_readPattern_112 rfl (lv_at hl 3 rfl) ?_
                  refine lv_aload_n hx hb d_md_readPattern_113 rfl (lv_at hl 5 rfl) ?_
                  refine hm_get E (tB in_md) hK hH (hw.at 0 rfl) rfl 2 (by decide) (tC wm_369) rfl d_md_readPattern_114 ?_
                  refine lv_iload hx hb d_md_readPattern_117 (lv_at hl 1 rfl) ?_
                  refine hm_iald E hK hH 0 (hw.at 1 rfl) rfl (i := i) (by omega) (by decide) d_md_readPattern_119 ?_
                  have hM1 := c_md_isLetter l G (dr i) M (hby _) H.size
                  have hG1 : GoodIn w_md_readPattern (wsS R_md 58 y_md_isLetter w_md_isLetter) := gB_S wm_440 wm_441 wm_5 wm_442
                  refine hm_call (va_runS (y := y_md_isLetter) (bytes := b_md_isLetter) (maxL := 1) (ws := w_md_isLetter) (rm := { frames := 0, cells := 0, slots := 0, locals := 0 }) (own := R_md) (index := 58) (ret := (Option.some Jvm.ClassFile.FieldType.boolean)) (As := [.int (dr i)]) (rest := [.int (nI (plt dr i))]) E hM1 (cwS (y := y_md_isLetter) (bytes := b_md_isLetter) (maxL := 1) (ws := w_md_isLetter) (rm := { frames := 0, cells := 0, slots := 0, locals := 0 }) (own := R_md) (index := 58) (ret := (Option.some Jvm.ClassFile.FieldType.boolean)) 1 hts hG1 rfl rfl rfl (by decide +kernel) ⟨Nat.le_of_ble_eq_true rfl, Nat.le_of_ble_eq_true rfl⟩) (hm_preS gk_w gk_s hH hg [.int (dr i)]) rfl rfl hl.1 rfl (lv_room (Nat.le_of_ble_eq_true rfl)) d_md_readPattern_120 ⟨(by show _ ≤ 0; omega), (by show _ ≤ 0; omega)⟩) hH (fun r1 M1 H1 locs1 hq1 hH1 => ?_)
                  obtain ⟨rfl, e1⟩ := hq1
                  replace hH := hH1; rw [e1] at hH; clear hH1 e1; generalize H1 = H at hH ⊢; generalize locs1 = locs at hH ⊢
                  refine hb_if_eq (b := isL (dr i)) hx hb (tgt := 130) d_md_readPattern_123 (by decide) (fun h123 => ?_) (fun h123 => ?_)
                  · skip
                    exact absurd (h44.symm.trans h123) (by decide)
                  · skip
                    refine lv_iconst (v := 1) hx hb d_md_readPattern_126 (by decide) ?_
                    refine lv_goto (tgt := 131) hx hb d_md_readPattern_127 (by decide) ?_
                    refine hn_iadd hx hb (a := plt dr i) (b := 1) d_md_readPattern_131 ?_
                    refine lv_istore_n (lv' := [(2, .int (nI (plt dr i + 1))), (4, .int 1), (5, .int (nI i)), (3, .int (nI (pz dr i))), (1, .int (nI at0)), (0, .ref y)]) hx hb d_md_readPattern_132 rfl hl (by decide) rfl (fun ls hl => ?_)
                    refine lv_iload_n hx hb d_md_readPattern_133 rfl (lv_at hl 3 rfl) ?_
                    refine lv_aload_n hx hb d_md_readPattern_134 rfl (lv_at hl 5 rfl) ?_
                    refine hm_get E (tB in_md) hK hH (hw.at 0 rfl) rfl 2 (by decide) (tC wm_369) rfl d_md_readPattern_135 ?_
                    refine lv_iload hx hb d_md_readPattern_138 (lv_at hl 2 rfl) ?_
                    refine hm_iald E hK hH 0 (hw.at 1 rfl) rfl (i := i) (by omega) (by decide) d_md_readPattern_140 ?_
                    have hM1 := c_md_isDigit l G (dr i) M H.size
                    have hG1 : GoodIn w_md_readPattern (wsS R_md 62 y_md_isDigit w_md_isDigit) := gB_S wm_443 wm_444 wm_5 wm_445
                    refine hm_call (va_runS (y := y_md_isDigit) (bytes := b_md_isDigit) (maxL := 1) (ws := w_md_isDigit) (rm := { frames := 0, cells := 0, slots := 0, locals := 0 }) (own := R_md) (index := 62) (ret := (Option.some Jvm.ClassFile.FieldType.boolean)) (As := [.int (dr i)]) (rest := [.int (nI (pz dr i))]) E hM1 (cwS (y := y_md_isDigit) (bytes := b_md_isDigit) (maxL := 1) (ws := w_md_isDigit) (rm := { frames := 0, cells := 0, slots := 0, locals := 0 }) (own := R_md) (index := 62) (ret := (Option.some Jvm.ClassFile.FieldType.boolean)) 1 hts hG1 rfl rfl rfl (by decide +kernel) ⟨Nat.le_of_ble_eq_true rfl, Nat.le_of_ble_eq_true rfl⟩) (hm_preS gk_w gk_s hH hg [.int (dr i)]) rfl rfl hl.1 rfl (lv_room (Nat.le_of_ble_eq_true rfl)) d_md_readPattern_141 ⟨(by show _ ≤ 0; omega), (by show _ ≤ 0; omega)⟩) hH (fun r1 M1 H1 locs1 hq1 hH1 => ?_)
                    obtain ⟨rfl, e1⟩ := hq1
                    replace hH := hH1; rw [e1] at hH; clear hH1 e1; generalize H1 = H at hH ⊢; generalize locs1 = locs at hH ⊢
                    refine hb_if_eq (b := isDg (dr i)) hx hb (tgt := 151) d_md_readPattern_144 (by decide) (fun h144 => ?_) (fun h144 => ?_)
                    · skip
                      exact absurd (h87.symm.trans h144) (by decide)
                    · skip
                      refine lv_iconst (v := 0) hx hb d_md_readPattern_147 (by decide) ?_
                      refine lv_goto (tgt := 152) hx hb d_md_readPattern_148 (by decide) ?_
                      refine hn_iadd hx hb (a := pz dr i) (b := 0) d_md_readPattern_152 ?_
                      refine lv_istore_n (lv' := [(3, .int (nI (pz dr i + 0))), (2, .int (nI (plt dr i + 1))), (4, .int 1), (5, .int (nI i)), (1, .int (nI at0)), (0, .ref y)]) hx hb d_md_readPattern_153 rfl hl (by decide) rfl (fun ls hl => ?_)
                      refine lv_iinc (v := nI (i + 1)) (lv' := [(5, .int (nI (i + 1))), (3, .int (nI (pz dr i + 0))), (2, .int (nI (plt dr i + 1))), (4, .int 1), (1, .int (nI at0)), (0, .ref y)]) hx hb d_md_readPattern_154 hl (k := 3) rfl (by first | exact nI_add _ 1 | (show nI _ + nI _ = _; rw [nI_add])) (by decide) rfl (fun ls hl => ?_)
                      refine lv_goto (tgt := 20) hx hb d_md_readPattern_157 (by decide) ?_
                      exact ih (i + 1) _ _ _ (by omega) (by omega) hH (lv_cv (lv_sub hl [0, 3, 1, 2, 4, 5] rfl) (by simp [gdP, plt, pz, bI_t, bI_f, h26, h31, h44, h74, h87, h102, h123, h144] <;> rfl))
          · skip
            refine lv_aload_n hx hb d_md_readPattern_47 rfl (lv_at hl 5 rfl) ?_
            refine hm_get E (tB in_md) hK hH (hw.at 0 rfl) rfl 2 (by decide) (tC wm_369) rfl d_md_readPattern_48 ?_
            refine lv_iload hx hb d_md_readPattern_51 (lv_at hl 0 rfl) ?_
            refine hm_iald E hK hH 0 (hw.at 1 rfl) rfl (i := i) (by omega) (by decide) d_md_readPattern_53 ?_
            have hM1 := c_md_isDigit l G (dr i) M H.size
            have hG1 : GoodIn w_md_readPattern (wsS R_md 62 y_md_isDigit w_md_isDigit) := gB_S wm_443 wm_444 wm_5 wm_445
            refine hm_call (va_runS (y := y_md_isDigit) (bytes := b_md_isDigit) (maxL := 1) (ws := w_md_isDigit) (rm := { frames := 0, cells := 0, slots := 0, locals := 0 }) (own := R_md) (index := 62) (ret := (Option.some Jvm.ClassFile.FieldType.boolean)) (As := [.int (dr i)]) (rest := []) E hM1 (cwS (y := y_md_isDigit) (bytes := b_md_isDigit) (maxL := 1) (ws := w_md_isDigit) (rm := { frames := 0, cells := 0, slots := 0, locals := 0 }) (own := R_md) (index := 62) (ret := (Option.some Jvm.ClassFile.FieldType.boolean)) 1 hts hG1 rfl rfl rfl (by decide +kernel) ⟨Nat.le_of_ble_eq_true rfl, Nat.le_of_ble_eq_true rfl⟩) (hm_preS gk_w gk_s hH hg [.int (dr i)]) rfl rfl hl.1 rfl (lv_room (Nat.le_of_ble_eq_true rfl)) d_md_readPattern_54 ⟨(by show _ ≤ 0; omega), (by show _ ≤ 0; omega)⟩) hH (fun r1 M1 H1 locs1 hq1 hH1 => ?_)
            obtain ⟨rfl, e1⟩ := hq1
            replace hH := hH1; rw [e1] at hH; clear hH1 e1; generalize H1 = H at hH ⊢; generalize locs1 = locs at hH ⊢
            refine hb_if_ne (b := isDg (dr i)) hx hb (tgt := 72) d_md_readPattern_57 (by decide) (fun h57 => ?_) (fun h57 => ?_)
            · skip
              refine lv_iload hx hb d_md_readPattern_72 (lv_at hl 0 rfl) ?_
              refine hn_if_le (a := i) hx hb (by omega) (tgt := 105) d_md_readPattern_74 (by decide) (fun h74 => ?_) (fun h74 => ?_)
              · skip
                have h74 : ¬ 0 < i := by omega
                refine lv_iconst (v := 1) hx hb d_md_readPattern_105 (by decide) ?_
                refine lv_goto (tgt := 110) hx hb d_md_readPattern_106 (by decide) ?_
                refine lv_istore (lv' := [(4, .int 1), (5, .int (nI i)), (3, .int (nI (pz dr i))), (2, .int (nI (plt dr i))), (1, .int (nI at0)), (0, .ref y)]) hx hb d_md_readPattern_110 hl (by decide) rfl (fun ls hl => ?_)
                refine lv_iload_n hx hb d_md_readPattern_112 rfl (lv_at hl 3 rfl) ?_
                refine lv_aload_n hx hb d_md_readPattern_113 rfl (lv_at hl 5 rfl) ?_
                refine hm_get E (tB in_md) hK hH (hw.at 0 rfl) rfl 2 (by decide) (tC wm_369) rfl d_md_readPattern_114 ?_
                refine lv_iload hx hb d_md_readPattern_117 (lv_at hl 1 rfl) ?_
                refine hm_iald E hK hH 0 (hw.at 1 rfl) rfl (i := i) (by omega) (by decide) d_md_readPattern_119 ?_
                have hM1 := c_md_isLetter l G (dr i) M (hby _) H.size
                have hG1 : GoodIn w_md_readPattern (wsS R_md 58 y_md_isLetter w_md_isLetter) := gB_S wm_440 wm_441 wm_5 wm_442
                refine hm_call (va_runS (y := y_md_isLetter) (bytes := b_md_isLetter) (maxL := 1) (ws := w_md_isLetter) (rm := { frames := 0, cells := 0, slots := 0, locals := 0 }) (own := R_md) (index := 58) (ret := (Option.some Jvm.ClassFile.FieldType.boolean)) (As := [.int (dr i)]) (rest := [.int (nI (plt dr i))]) E hM1 (cwS (y := y_md_isLetter) (bytes := b_md_isLetter) (maxL := 1) (ws := w_md_isLetter) (rm := { frames := 0, cells := 0, slots := 0, locals := 0 }) (own := R_md) (index := 58) (ret := (Option.some Jvm.ClassFile.FieldType.boolean)) 1 hts hG1 rfl rfl rfl (by decide +kernel) ⟨Nat.le_of_ble_eq_true rfl, Nat.le_of_ble_eq_true rfl⟩) (hm_preS gk_w gk_s hH hg [.int (dr i)]) rfl rfl hl.1 rfl (lv_room (Nat.le_of_ble_eq_true rfl)) d_md_readPattern_120 ⟨(by show _ ≤ 0; omega), (by show _ ≤ 0; omega)⟩) hH (fun r1 M1 H1 locs1 hq1 hH1 => ?_)
                obtain ⟨rfl, e1⟩ := hq1
                replace hH := hH1; rw [e1] at hH; clear hH1 e1; generalize H1 = H at hH ⊢; generalize locs1 = locs at hH ⊢
                refine hb_if_eq (b := isL (dr i)) hx hb (tgt := 130) d_md_readPattern_123 (by decide) (fun h123 => ?_) (fun h123 => ?_)
                · skip
                  refine lv_iconst (v := 0) hx hb d_md_readPattern_130 (by decide) ?_
                  refine hn_iadd hx hb (a := plt dr i) (b := 0) d_md_readPattern_131 ?_
                  refine lv_istore_n (lv' := [(2, .int (nI (plt dr i + 0))), (4, .int 1), (5, .int (nI i)), (3, .int (nI (pz dr i))), (1, .int (nI at0)), (0, .ref y)]) hx hb d_md_readPattern_132 rfl hl (by decide) rfl (fun ls hl => ?_)
                  refine lv_iload_n hx hb d_md_readPattern_133 rfl (lv_at hl 3 rfl) ?_
                  refine lv_aload_n hx hb d_md_readPattern_134 rfl (lv_at hl 5 rfl) ?_
                  refine hm_get E (tB in_md) hK hH (hw.at 0 rfl) rfl 2 (by decide) (tC wm_369) rfl d_md_readPattern_135 ?_
                  refine lv_iload hx hb d_md_readPattern_138 (lv_at hl 2 rfl) ?_
                  refine hm_iald E hK hH 0 (hw.at 1 rfl) rfl (i := i) (by omega) (by decide) d_md_readPattern_140 ?_
                  have hM1 := c_md_isDigit l G (dr i) M H.size
                  have hG1 : GoodIn w_md_readPattern (wsS R_md 62 y_md_isDigit w_md_isDigit) := gB_S wm_443 wm_444 wm_5 wm_445
                  refine hm_call (va_runS (y := y_md_isDigit) (bytes := b_md_isDigit) (maxL := 1) (ws := w_md_isDigit) (rm := { frames := 0, cells := 0, slots := 0, locals := 0 }) (own := R_md) (index := 62) (ret := (Option.some Jvm.ClassFile.FieldType.boolean)) (As := [.int (dr i)]) (rest := [.int (nI (pz dr i))]) E hM1 (cwS (y := y_md_isDigit) (bytes := b_md_isDigit) (maxL := 1) (ws := w_md_isDigit) (rm := { frames := 0, cells := 0, slots := 0, locals := 0 }) (own := R_md) (index := 62) (ret := (Option.some Jvm.ClassFile.FieldType.boolean)) 1 hts hG1 rfl rfl rfl (by decide +kernel) ⟨Nat.le_of_ble_eq_true rfl, Nat.le_of_ble_eq_true rfl⟩) (hm_preS gk_w gk_s hH hg [.int (dr i)]) rfl rfl hl.1 rfl (lv_room (Nat.le_of_ble_eq_true rfl)) d_md_readPattern_141 ⟨(by show _ ≤ 0; omega), (by show _ ≤ 0; omega)⟩) hH (fun r1 M1 H1 locs1 hq1 hH1 => ?_)
                  obtain ⟨rfl, e1⟩ := hq1
                  replace hH := hH1; rw [e1] at hH; clear hH1 e1; generalize H1 = H at hH ⊢; generalize locs1 = locs at hH ⊢
                  refine hb_if_eq (b := isDg (dr i)) hx hb (tgt := 151) d_md_readPattern_144 (by decide) (fun h144 => ?_) (fun h144 => ?_)
                  · skip
                    exact absurd (h57.symm.trans h144) (by decide)
                  · skip
                    refine lv_iconst (v := 0) hx hb d_md_readPattern_147 (by decide) ?_
                    refine lv_goto (tgt := 152) hx hb d_md_readPattern_148 (by decide) ?_
                    refine hn_iadd hx hb (a := pz dr i) (b := 0) d_md_readPattern_152 ?_
                    refine lv_istore_n (lv' := [(3, .int (nI (pz dr i + 0))), (2, .int (nI (plt dr i + 0))), (4, .int 1), (5, .int (nI i)), (1, .int (nI at0)), (0, .ref y)]) hx hb d_md_readPattern_153 rfl hl (by decide) rfl (fun ls hl => ?_)
                    refine lv_iinc (v := nI (i + 1)) (lv' := [(5, .int (nI (i + 1))), (3, .int (nI (pz dr i + 0))), (2, .int (nI (plt dr i + 0))), (4, .int 1), (1, .int (nI at0)), (0, .ref y)]) hx hb d_md_readPattern_154 hl (k := 3) rfl (by first | exact nI_add _ 1 | (show nI _ + nI _ = _; rw [nI_add])) (by decide) rfl (fun ls hl => ?_)
                    refine lv_goto (tgt := 20) hx hb d_md_readPattern_157 (by decide) ?_
                    exact ih (i + 1) _ _ _ (by omega) (by omega) hH (lv_cv (lv_sub hl [0, 3, 1, 2, 4, 5] rfl) (by simp [gdP, plt, pz, bI_t, bI_f, h26, h31, h44, h57, h74, h123, h144] <;> rfl))
                · skip
                  exact absurd (h44.symm.trans h123) (by decide)
              · skip
                have h74 : 0 < i := by omega
                refine lv_aload_n hx hb d_md_readPattern_77 rfl (lv_at hl 5 rfl) ?_
                refine hm_get E (tB in_md) hK hH (hw.at 0 rfl) rfl 2 (by decide) (tC wm_369) rfl d_md_readPattern_78 ?_
                refine lv_iload hx hb d_md_readPattern_81 (lv_at hl 0 rfl) ?_
                refine hm_iald E hK hH 0 (hw.at 1 rfl) rfl (i := i) (by omega) (by decide) d_md_readPattern_83 ?_
                have hM1 := c_md_isDigit l G (dr i) M H.size
                have hG1 : GoodIn w_md_readPattern (wsS R_md 62 y_md_isDigit w_md_isDigit) := gB_S wm_443 wm_444 wm_5 wm_445
                refine hm_call (va_runS (y := y_md_isDigit) (bytes := b_md_isDigit) (maxL := 1) (ws := w_md_isDigit) (rm := { frames := 0, cells := 0, slots := 0, locals := 0 }) (own := R_md) (index := 62) (ret := (Option.some Jvm.ClassFile.FieldType.boolean)) (As := [.int (dr i)]) (rest := []) E hM1 (cwS (y := y_md_isDigit) (bytes := b_md_isDigit) (maxL := 1) (ws := w_md_isDigit) (rm := { frames := 0, cells := 0, slots := 0, locals := 0 }) (own := R_md) (index := 62) (ret := (Option.some Jvm.ClassFile.FieldType.boolean)) 1 hts hG1 rfl rfl rfl (by decide +kernel) ⟨Nat.le_of_ble_eq_true rfl, Nat.le_of_ble_eq_true rfl⟩) (hm_preS gk_w gk_s hH hg [.int (dr i)]) rfl rfl hl.1 rfl (lv_room (Nat.le_of_ble_eq_true rfl)) d_md_readPattern_84 ⟨(by show _ ≤ 0; omega), (by show _ ≤ 0; omega)⟩) hH (fun r1 M1 H1 locs1 hq1 hH1 => ?_)
                obtain ⟨rfl, e1⟩ := hq1
                replace hH := hH1; rw [e1] at hH; clear hH1 e1; generalize H1 = H at hH ⊢; generalize locs1 = locs at hH ⊢
                refine hb_if_eq (b := isDg (dr i)) hx hb (tgt := 105) d_md_readPattern_87 (by decide) (fun h87 => ?_) (fun h87 => ?_)
                · skip
                  exact absurd (h57.symm.trans h87) (by decide)
                · skip
                  refine lv_aload_n hx hb d_md_readPattern_90 rfl (lv_at hl 5 rfl) ?_
                  refine hm_get E (tB in_md) hK hH (hw.at 0 rfl) rfl 2 (by decide) (tC wm_369) rfl d_md_readPattern_91 ?_
                  refine lv_iload hx hb d_md_readPattern_94 (lv_at hl 0 rfl) ?_
                  refine lv_iconst (v := 1) hx hb d_md_readPattern_96 (by decide) ?_
                  refine hn_isub hx hb (a := i) (b := 1) (by omega) d_md_readPattern_97 ?_
                  refine hm_iald E hK hH 0 (hw.at 1 rfl) rfl (i := i - 1) (by omega) (by decide) d_md_readPattern_98 ?_
                  have hM1 := c_md_isDigit l G (dr (i - 1)) M H.size
                  have hG1 : GoodIn w_md_readPattern (wsS R_md 62 y_md_isDigit w_md_isDigit) := gB_S wm_443 wm_444 wm_5 wm_445
                  refine hm_call (va_runS (y := y_md_isDigit) (bytes := b_md_isDigit) (maxL := 1) (ws := w_md_isDigit) (rm := { frames := 0, cells := 0, slots := 0, locals := 0 }) (own := R_md) (index := 62) (ret := (Option.some Jvm.ClassFile.FieldType.boolean)) (As := [.int (dr (i - 1))]) (rest := []) E hM1 (cwS (y := y_md_isDigit) (bytes := b_md_isDigit) (maxL := 1) (ws := w_md_isDigit) (rm := { frames := 0, cells := 0, slots := 0, locals := 0 }) (own := R_md) (index := 62) (ret := (Option.some Jvm.ClassFile.FieldType.boolean)) 1 hts hG1 rfl rfl rfl (by decide +kernel) ⟨Nat.le_of_ble_eq_true rfl, Nat.le_of_ble_eq_true rfl⟩) (hm_preS gk_w gk_s hH hg [.int (dr (i - 1))]) rfl rfl hl.1 rfl (lv_room (Nat.le_of_ble_eq_true rfl)) d_md_readPattern_99 ⟨(by show _ ≤ 0; omega), (by show _ ≤ 0; omega)⟩) hH (fun r1 M1 H1 locs1 hq1 hH1 => ?_)
                  obtain ⟨rfl, e1⟩ := hq1
                  replace hH := hH1; rw [e1] at hH; clear hH1 e1; generalize H1 = H at hH ⊢; generalize locs1 = locs at hH ⊢
                  refine hb_if_ne (b := isDg (dr (i - 1))) hx hb (tgt := 109) d_md_readPattern_102 (by decide) (fun h102 => ?_) (fun h102 => ?_)
                  · skip
                    refine lv_iconst (v := 0) hx hb d_md_readPattern_109 (by decide) ?_
                    refine lv_istore (lv' := [(4, .int 0), (5, .int (nI i)), (3, .int (nI (pz dr i))), (2, .int (nI (plt dr i))), (1, .int (nI at0)), (0, .ref y)]) hx hb d_md_readPattern_110 hl (by decide) rfl (fun ls hl => ?_)
                    refine lv_iload_n hx hb d_md_readPattern_112 rfl (lv_at hl 3 rfl) ?_
                    refine lv_aload_n hx hb d_md_readPattern_113 rfl (lv_at hl 5 rfl) ?_
                    refine hm_get E (tB in_md) hK hH (hw.at 0 rfl) rfl 2 (by decide) (tC wm_369) rfl d_md_readPattern_114 ?_
                    refine lv_iload hx hb d_md_readPattern_117 (lv_at hl 1 rfl) ?_
                    refine hm_iald E hK hH 0 (hw.at 1 rfl) rfl (i := i) (by omega) (by decide) d_md_readPattern_119 ?_
                    have hM1 := c_md_isLetter l G (dr i) M (hby _) H.size
                    have hG1 : GoodIn w_md_readPattern (wsS R_md 58 y_md_isLetter w_md_isLetter) := gB_S wm_440 wm_441 wm_5 wm_442
                    refine hm_call (va_runS (y := y_md_isLetter) (bytes := b_md_isLetter) (maxL := 1) (ws := w_md_isLetter) (rm := { frames := 0, cells := 0, slots := 0, locals := 0 }) (own := R_md) (index := 58) (ret := (Option.some Jvm.ClassFile.FieldType.boolean)) (As := [.int (dr i)]) (rest := [.int (nI (plt dr i))]) E hM1 (cwS (y := y_md_isLetter) (bytes := b_md_isLetter) (maxL := 1) (ws := w_md_isLetter) (rm := { frames := 0, cells := 0, slots := 0, locals := 0 }) (own := R_md) (index := 58) (ret := (Option.some Jvm.ClassFile.FieldType.boolean)) 1 hts hG1 rfl rfl rfl (by decide +kernel) ⟨Nat.le_of_ble_eq_true rfl, Nat.le_of_ble_eq_true rfl⟩) (hm_preS gk_w gk_s hH hg [.int (dr i)]) rfl rfl hl.1 rfl (lv_room (Nat.le_of_ble_eq_true rfl)) d_md_readPattern_120 ⟨(by show _ ≤ 0; omega), (by show _ ≤ 0; omega)⟩) hH (fun r1 M1 H1 locs1 hq1 hH1 => ?_)
                    obtain ⟨rfl, e1⟩ := hq1
                    replace hH := hH1; rw [e1] at hH; clear hH1 e1; generalize H1 = H at hH ⊢; generalize locs1 = locs at hH ⊢
                    refine hb_if_eq (b := isL (dr i)) hx hb (tgt := 130) d_md_readPattern_123 (by decide) (fun h123 => ?_) (fun h123 => ?_)
                    · skip
                      refine lv_iconst (v := 0) hx hb d_md_readPattern_130 (by decide) ?_
                      refine hn_iadd hx hb (a := plt dr i) (b := 0) d_md_readPattern_131 ?_
                      refine lv_istore_n (lv' := [(2, .int (nI (plt dr i + 0))), (4, .int 0), (5, .int (nI i)), (3, .int (nI (pz dr i))), (1, .int (nI at0)), (0, .ref y)]) hx hb d_md_readPattern_132 rfl hl (by decide) rfl (fun ls hl => ?_)
                      refine lv_iload_n hx hb d_md_readPattern_133 rfl (lv_at hl 3 rfl) ?_
                      refine lv_aload_n hx hb d_md_readPattern_134 rfl (lv_at hl 5 rfl) ?_
                      refine hm_get E (tB in_md) hK hH (hw.at 0 rfl) rfl 2 (by decide) (tC wm_369) rfl d_md_readPattern_135 ?_
                      refine lv_iload hx hb d_md_readPattern_138 (lv_at hl 2 rfl) ?_
                      refine hm_iald E hK hH 0 (hw.at 1 rfl) rfl (i := i) (by omega) (by decide) d_md_readPattern_140 ?_
                      have hM1 := c_md_isDigit l G (dr i) M H.size
                      have hG1 : GoodIn w_md_readPattern (wsS R_md 62 y_md_isDigit w_md_isDigit) := gB_S wm_443 wm_444 wm_5 wm_445
                      refine hm_call (va_runS (y := y_md_isDigit) (bytes := b_md_isDigit) (maxL := 1) (ws := w_md_isDigit) (rm := { frames := 0, cells := 0, slots := 0, locals := 0 }) (own := R_md) (index := 62) (ret := (Option.some Jvm.ClassFile.FieldType.boolean)) (As := [.int (dr i)]) (rest := [.int (nI (pz dr i))]) E hM1 (cwS (y := y_md_isDigit) (bytes := b_md_isDigit) (maxL := 1) (ws := w_md_isDigit) (rm := { frames := 0, cells := 0, slots := 0, locals := 0 }) (own := R_md) (index := 62) (ret := (Option.some Jvm.ClassFile.FieldType.boolean)) 1 hts hG1 rfl rfl rfl (by decide +kernel) ⟨Nat.le_of_ble_eq_true rfl, Nat.le_of_ble_eq_true rfl⟩) (hm_preS gk_w gk_s hH hg [.int (dr i)]) rfl rfl hl.1 rfl (lv_room (Nat.le_of_ble_eq_true rfl)) d_md_readPattern_141 ⟨(by show _ ≤ 0; omega), (by show _ ≤ 0; omega)⟩) hH (fun r1 M1 H1 locs1 hq1 hH1 => ?_)
                      obtain ⟨rfl, e1⟩ := hq1
                      replace hH := hH1; rw [e1] at hH; clear hH1 e1; generalize H1 = H at hH ⊢; generalize locs1 = locs at hH ⊢
                      refine hb_if_eq (b := isDg (dr i)) hx hb (tgt := 151) d_md_readPattern_144 (by decide) (fun h144 => ?_) (fun h144 => ?_)
                      · skip
                        exact absurd (h57.symm.trans h144) (by decide)
                      · skip
                        refine lv_iconst (v := 0) hx hb d_md_readPattern_147 (by decide) ?_
                        refine lv_goto (tgt := 152) hx hb d_md_readPattern_148 (by decide) ?_
                        refine hn_iadd hx hb (a := pz dr i) (b := 0) d_md_readPattern_152 ?_
                        refine lv_istore_n (lv' := [(3, .int (nI (pz dr i + 0))), (2, .int (nI (plt dr i + 0))), (4, .int 0), (5, .int (nI i)), (1, .int (nI at0)), (0, .ref y)]) hx hb d_md_readPattern_153 rfl hl (by decide) rfl (fun ls hl => ?_)
                        refine lv_iinc (v := nI (i + 1)) (lv' := [(5, .int (nI (i + 1))), (3, .int (nI (pz dr i + 0))), (2, .int (nI (plt dr i + 0))), (4, .int 0), (1, .int (nI at0)), (0, .ref y)]) hx hb d_md_readPattern_154 hl (k := 3) rfl (by first | exact nI_add _ 1 | (show nI _ + nI _ = _; rw [nI_add])) (by decide) rfl (fun ls hl => ?_)
                        refine lv_goto (tgt := 20) hx hb d_md_readPattern_157 (by decide) ?_
                        exact ih (i + 1) _ _ _ (by omega) (by omega) hH (lv_cv (lv_sub hl [0, 3, 1, 2, 4, 5] rfl) (by simp [gdP, plt, pz, bI_t, bI_f, h26, h31, h44, h57, h74, h87, h102, h123, h144] <;> rfl))
                    · skip
                      exact absurd (h44.symm.trans h123) (by decide)
                  · skip
                    refine lv_iconst (v := 1) hx hb d_md_readPattern_105 (by decide) ?_
                    refine lv_goto (tgt := 110) hx hb d_md_readPattern_106 (by decide) ?_
                    refine lv_istore (lv' := [(4, .int 1), (5, .int (nI i)), (3, .int (nI (pz dr i))), (2, .int (nI (plt dr i))), (1, .int (nI at0)), (0, .ref y)]) hx hb d_md_readPattern_110 hl (by decide) rfl (fun ls hl => ?_)
                    refine lv_iload_n hx hb d_md_readPattern_112 rfl (lv_at hl 3 rfl) ?_
                    refine lv_aload_n hx hb d_md_readPattern_113 rfl (lv_at hl 5 rfl) ?_
                    refine hm_get E (tB in_md) hK hH (hw.at 0 rfl) rfl 2 (by decide) (tC wm_369) rfl d_md_readPattern_114 ?_
                    refine lv_iload hx hb d_md_readPattern_117 (lv_at hl 1 rfl) ?_
                    refine hm_iald E hK hH 0 (hw.at 1 rfl) rfl (i := i) (by omega) (by decide) d_md_readPattern_119 ?_
                    have hM1 := c_md_isLetter l G (dr i) M (hby _) H.size
                    have hG1 : GoodIn w_md_readPattern (wsS R_md 58 y_md_isLetter w_md_isLetter) := gB_S wm_440 wm_441 wm_5 wm_442
                    refine hm_call (va_runS (y := y_md_isLetter) (bytes := b_md_isLetter) (maxL := 1) (ws := w_md_isLetter) (rm := { frames := 0, cells := 0, slots := 0, locals := 0 }) (own := R_md) (index := 58) (ret := (Option.some Jvm.ClassFile.FieldType.boolean)) (As := [.int (dr i)]) (rest := [.int (nI (plt dr i))]) E hM1 (cwS (y := y_md_isLetter) (bytes := b_md_isLetter) (maxL := 1) (ws := w_md_isLetter) (rm := { frames := 0, cells := 0, slots := 0, locals := 0 }) (own := R_md) (index := 58) (ret := (Option.some Jvm.ClassFile.FieldType.boolean)) 1 hts hG1 rfl rfl rfl (by decide +kernel) ⟨Nat.le_of_ble_eq_true rfl, Nat.le_of_ble_eq_true rfl⟩) (hm_preS gk_w gk_s hH hg [.int (dr i)]) rfl rfl hl.1 rfl (lv_room (Nat.le_of_ble_eq_true rfl)) d_md_readPattern_120 ⟨(by show _ ≤ 0; omega), (by show _ ≤ 0; omega)⟩) hH (fun r1 M1 H1 locs1 hq1 hH1 => ?_)
                    obtain ⟨rfl, e1⟩ := hq1
                    replace hH := hH1; rw [e1] at hH; clear hH1 e1; generalize H1 = H at hH ⊢; generalize locs1 = locs at hH ⊢
                    refine hb_if_eq (b := isL (dr i)) hx hb (tgt := 130) d_md_readPattern_123 (by decide) (fun h123 => ?_) (fun h123 => ?_)
                    · skip
                      refine lv_iconst (v := 0) hx hb d_md_readPattern_130 (by decide) ?_
                      refine hn_iadd hx hb (a := plt dr i) (b := 0) d_md_readPattern_131 ?_
                      refine lv_istore_n (lv' := [(2, .int (nI (plt dr i + 0))), (4, .int 1), (5, .int (nI i)), (3, .int (nI (pz dr i))), (1, .int (nI at0)), (0, .ref y)]) hx hb d_md_readPattern_132 rfl hl (by decide) rfl (fun ls hl => ?_)
                      refine lv_iload_n hx hb d_md_readPattern_133 rfl (lv_at hl 3 rfl) ?_
                      refine lv_aload_n hx hb d_md_readPattern_134 rfl (lv_at hl 5 rfl) ?_
                      refine hm_get E (tB in_md) hK hH (hw.at 0 rfl) rfl 2 (by decide) (tC wm_369) rfl d_md_readPattern_135 ?_
                      refine lv_iload hx hb d_md_readPattern_138 (lv_at hl 2 rfl) ?_
                      refine hm_iald E hK hH 0 (hw.at 1 rfl) rfl (i := i) (by omega) (by decide) d_md_readPattern_140 ?_
                      have hM1 := c_md_isDigit l G (dr i) M H.size
                      have hG1 : GoodIn w_md_readPattern (wsS R_md 62 y_md_isDigit w_md_isDigit) := gB_S wm_443 wm_444 wm_5 wm_445
                      refine hm_call (va_runS (y := y_md_isDigit) (bytes := b_md_isDigit) (maxL := 1) (ws := w_md_isDigit) (rm := { frames := 0, cells := 0, slots := 0, locals := 0 }) (own := R_md) (index := 62) (ret := (Option.some Jvm.ClassFile.FieldType.boolean)) (As := [.int (dr i)]) (rest := [.int (nI (pz dr i))]) E hM1 (cwS (y := y_md_isDigit) (bytes := b_md_isDigit) (maxL := 1) (ws := w_md_isDigit) (rm := { frames := 0, cells := 0, slots := 0, locals := 0 }) (own := R_md) (index := 62) (ret := (Option.some Jvm.ClassFile.FieldType.boolean)) 1 hts hG1 rfl rfl rfl (by decide +kernel) ⟨Nat.le_of_ble_eq_true rfl, Nat.le_of_ble_eq_true rfl⟩) (hm_preS gk_w gk_s hH hg [.int (dr i)]) rfl rfl hl.1 rfl (lv_room (Nat.le_of_ble_eq_true rfl)) d_md_readPattern_141 ⟨(by show _ ≤ 0; omega), (by show _ ≤ 0; omega)⟩) hH (fun r1 M1 H1 locs1 hq1 hH1 => ?_)
                      obtain ⟨rfl, e1⟩ := hq1
                      replace hH := hH1; rw [e1] at hH; clear hH1 e1; generalize H1 = H at hH ⊢; generalize locs1 = locs at hH ⊢
                      refine hb_if_eq (b := isDg (dr i)) hx hb (tgt := 151) d_md_readPattern_144 (by decide) (fun h144 => ?_) (fun h144 => ?_)
                      · skip
                        exact absurd (h57.symm.trans h144) (by decide)
                      · skip
                        refine lv_iconst (v := 0) hx hb d_md_readPattern_147 (by decide) ?_
                        refine lv_goto (tgt := 152) hx hb d_md_readPattern_148 (by decide) ?_
                        refine hn_iadd hx hb (a := pz dr i) (b := 0) d_md_readPattern_152 ?_
                        refine lv_istore_n (lv' := [(3, .int (nI (pz dr i + 0))), (2, .int (nI (plt dr i + 0))), (4, .int 1), (5, .int (nI i)), (1, .int (nI at0)), (0, .ref y)]) hx hb d_md_readPattern_153 rfl hl (by decide) rfl (fun ls hl => ?_)
                        refine lv_iinc (v := nI (i + 1)) (lv' := [(5, .int (nI (i + 1))), (3, .int (nI (pz dr i + 0))), (2, .int (nI (plt dr i + 0))), (4, .int 1), (1, .int (nI at0)), (0, .ref y)]) hx hb d_md_readPattern_154 hl (k := 3) rfl (by first | exact nI_add _ 1 | (show nI _ + nI _ = _; rw [nI_add])) (by decide) rfl (fun ls hl => ?_)
                        refine lv_goto (tgt := 20) hx hb d_md_readPattern_157 (by decide) ?_
                        exact ih (i + 1) _ _ _ (by omega) (by omega) hH (lv_cv (lv_sub hl [0, 3, 1, 2, 4, 5] rfl) (by simp [gdP, plt, pz, bI_t, bI_f, h26, h31, h44, h57, h74, h87, h102, h123, h144] <;> rfl))
                    · skip
                      exact absurd (h44.symm.trans h123) (by decide)
            · skip
              refine lv_aload_n hx hb d_md_readPattern_60 rfl (lv_at hl 5 rfl) ?_
              refine hm_get E (tB in_md) hK hH (hw.at 0 rfl) rfl 2 (by decide) (tC wm_369) rfl d_md_readPattern_61 ?_
              refine lv_iload hx hb d_md_readPattern_64 (lv_at hl 0 rfl) ?_
              refine hm_iald E hK hH 0 (hw.at 1 rfl) rfl (i := i) (by omega) (by decide) d_md_readPattern_66 ?_
              refine lv_bipush (v := 46) hx hb d_md_readPattern_67 (by decide) ?_
              refine hc_icmp_ne (x := dr i) (y := 46) (c9 := 46) hx hb (by decide) (tgt := 109) d_md_readPattern_69 (by decide) (fun h69 => ?_) (fun h69 => ?_)
              · skip
                refine lv_iconst (v := 0) hx hb d_md_readPattern_109 (by decide) ?_
                refine lv_istore (lv' := [(4, .int 0), (5, .int (nI i)), (3, .int (nI (pz dr i))), (2, .int (nI (plt dr i))), (1, .int (nI at0)), (0, .ref y)]) hx hb d_md_readPattern_110 hl (by decide) rfl (fun ls hl => ?_)
                refine lv_iload_n hx hb d_md_readPattern_112 rfl (lv_at hl 3 rfl) ?_
                refine lv_aload_n hx hb d_md_readPattern_113 rfl (lv_at hl 5 rfl) ?_
                refine hm_get E (tB in_md) hK hH (hw.at 0 rfl) rfl 2 (by decide) (tC wm_369) rfl d_md_readPattern_114 ?_
                refine lv_iload hx hb d_md_readPattern_117 (lv_at hl 1 rfl) ?_
                refine hm_iald E hK hH 0 (hw.at 1 rfl) rfl (i := i) (by omega) (by decide) d_md_readPattern_119 ?_
                have hM1 := c_md_isLetter l G (dr i) M (hby _) H.size
                have hG1 : GoodIn w_md_readPattern (wsS R_md 58 y_md_isLetter w_md_isLetter) := gB_S wm_440 wm_441 wm_5 wm_442
                refine hm_call (va_runS (y := y_md_isLetter) (bytes := b_md_isLetter) (maxL := 1) (ws := w_md_isLetter) (rm := { frames := 0, cells := 0, slots := 0, locals := 0 }) (own := R_md) (index := 58) (ret := (Option.some Jvm.ClassFile.FieldType.boolean)) (As := [.int (dr i)]) (rest := [.int (nI (plt dr i))]) E hM1 (cwS (y := y_md_isLetter) (bytes := b_md_isLetter) (maxL := 1) (ws := w_md_isLetter) (rm := { frames := 0, cells := 0, slots := 0, locals := 0 }) (own := R_md) (index := 58) (ret := (Option.some Jvm.ClassFile.FieldType.boolean)) 1 hts hG1 rfl rfl rfl (by decide +kernel) ⟨Nat.le_of_ble_eq_true rfl, Nat.le_of_ble_eq_true rfl⟩) (hm_preS gk_w gk_s hH hg [.int (dr i)]) rfl rfl hl.1 rfl (lv_room (Nat.le_of_ble_eq_true rfl)) d_md_readPattern_120 ⟨(by show _ ≤ 0; omega), (by show _ ≤ 0; omega)⟩) hH (fun r1 M1 H1 locs1 hq1 hH1 => ?_)
                obtain ⟨rfl, e1⟩ := hq1
                replace hH := hH1; rw [e1] at hH; clear hH1 e1; generalize H1 = H at hH ⊢; generalize locs1 = locs at hH ⊢
                refine hb_if_eq (b := isL (dr i)) hx hb (tgt := 130) d_md_readPattern_123 (by decide) (fun h123 => ?_) (fun h123 => ?_)
                · skip
                  refine lv_iconst (v := 0) hx hb d_md_readPattern_130 (by decide) ?_
                  refine hn_iadd hx hb (a := plt dr i) (b := 0) d_md_readPattern_131 ?_
                  refine lv_istore_n (lv' := [(2, .int (nI (plt dr i + 0))), (4, .int 0), (5, .int (nI i)), (3, .int (nI (pz dr i))), (1, .int (nI at0)), (0, .ref y)]) hx hb d_md_readPattern_132 rfl hl (by decide) rfl (fun ls hl => ?_)
                  refine lv_iload_n hx hb d_md_readPattern_133 rfl (lv_at hl 3 rfl) ?_
                  refine lv_aload_n hx hb d_md_readPattern_134 rfl (lv_at hl 5 rfl) ?_
                  refine hm_get E (tB in_md) hK hH (hw.at 0 rfl) rfl 2 (by decide) (tC wm_369) rfl d_md_readPattern_135 ?_
                  refine lv_iload hx hb d_md_readPattern_138 (lv_at hl 2 rfl) ?_
                  refine hm_iald E hK hH 0 (hw.at 1 rfl) rfl (i := i) (by omega) (by decide) d_md_readPattern_140 ?_
                  have hM1 := c_md_isDigit l G (dr i) M H.size
                  have hG1 : GoodIn w_md_readPattern (wsS R_md 62 y_md_isDigit w_md_isDigit) := gB_S wm_443 wm_444 wm_5 wm_445
                  refine hm_call (va_runS (y := y_md_isDigit) (bytes := b_md_isDigit) (maxL := 1) (ws := w_md_isDigit) (rm := { frames := 0, cells := 0, slots := 0, locals := 0 }) (own := R_md) (index := 62) (ret := (Option.some Jvm.ClassFile.FieldType.boolean)) (As := [.int (dr i)]) (rest := [.int (nI (pz dr i))]) E hM1 (cwS (y := y_md_isDigit) (bytes := b_md_isDigit) (maxL := 1) (ws := w_md_isDigit) (rm := { frames := 0, cells := 0, slots := 0, locals := 0 }) (own := R_md) (index := 62) (ret := (Option.some Jvm.ClassFile.FieldType.boolean)) 1 hts hG1 rfl rfl rfl (by decide +kernel) ⟨Nat.le_of_ble_eq_true rfl, Nat.le_of_ble_eq_true rfl⟩) (hm_preS gk_w gk_s hH hg [.int (dr i)]) rfl rfl hl.1 rfl (lv_room (Nat.le_of_ble_eq_true rfl)) d_md_readPattern_141 ⟨(by show _ ≤ 0; omega), (by show _ ≤ 0; omega)⟩) hH (fun r1 M1 H1 locs1 hq1 hH1 => ?_)
                  obtain ⟨rfl, e1⟩ := hq1
                  replace hH := hH1; rw [e1] at hH; clear hH1 e1; generalize H1 = H at hH ⊢; generalize locs1 = locs at hH ⊢
                  refine hb_if_eq (b := isDg (dr i)) hx hb (tgt := 151) d_md_readPattern_144 (by decide) (fun h144 => ?_) (fun h144 => ?_)
                  · skip
                    refine lv_iconst (v := 1) hx hb d_md_readPattern_151 (by decide) ?_
                    refine hn_iadd hx hb (a := pz dr i) (b := 1) d_md_readPattern_152 ?_
                    refine lv_istore_n (lv' := [(3, .int (nI (pz dr i + 1))), (2, .int (nI (plt dr i + 0))), (4, .int 0), (5, .int (nI i)), (1, .int (nI at0)), (0, .ref y)]) hx hb d_md_readPattern_153 rfl hl (by decide) rfl (fun ls hl => ?_)
                    refine lv_iinc (v := nI (i + 1)) (lv' := [(5, .int (nI (i + 1))), (3, .int (nI (pz dr i + 1))), (2, .int (nI (plt dr i + 0))), (4, .int 0), (1, .int (nI at0)), (0, .ref y)]) hx hb d_md_readPattern_154 hl (k := 3) rfl (by first | exact nI_add _ 1 | (show nI _ + nI _ = _; rw [nI_add])) (by decide) rfl (fun ls hl => ?_)
                    refine lv_goto (tgt := 20) hx hb d_md_readPattern_157 (by decide) ?_
                    exact ih (i + 1) _ _ _ (by omega) (by omega) hH (lv_cv (lv_sub hl [0, 3, 1, 2, 4, 5] rfl) (by simp [gdP, plt, pz, bI_t, bI_f, h26, h31, h44, h57, h69, h123, h144] <;> rfl))
                  · skip
                    exact absurd (h57.symm.trans h144) (by decide)
                · skip
                  exact absurd (h44.symm.trans h123) (by decide)
              · skip
                refine lv_iload hx hb d_md_readPattern_72 (lv_at hl 0 rfl) ?_
                refine hn_if_le (a := i) hx hb (by omega) (tgt := 105) d_md_readPattern_74 (by decide) (fun h74 => ?_) (fun h74 => ?_)
                · skip
                  have h74 : ¬ 0 < i := by omega
                  refine lv_iconst (v := 1) hx hb d_md_readPattern_105 (by decide) ?_
                  refine lv_goto (tgt := 110) hx hb d_md_readPattern_106 (by decide) ?_
                  refine lv_istore (lv' := [(4, .int 1), (5, .int (nI i)), (3, .int (nI (pz dr i))), (2, .int (nI (plt dr i))), (1, .int (nI at0)), (0, .ref y)]) hx hb d_md_readPattern_110 hl (by decide) rfl (fun ls hl => ?_)
                  refine lv_iload_n hx hb d_md_readPattern_112 rfl (lv_at hl 3 rfl) ?_
                  refine lv_aload_n hx hb d_md_readPattern_113 rfl (lv_at hl 5 rfl) ?_
                  refine hm_get E (tB in_md) hK hH (hw.at 0 rfl) rfl 2 (by decide) (tC wm_369) rfl d_md_readPattern_114 ?_
                  refine lv_iload hx hb d_md_readPattern_117 (lv_at hl 1 rfl) ?_
                  refine hm_iald E hK hH 0 (hw.at 1 rfl) rfl (i := i) (by omega) (by decide) d_md_readPattern_119 ?_
                  have hM1 := c_md_isLetter l G (dr i) M (hby _) H.size
                  have hG1 : GoodIn w_md_readPattern (wsS R_md 58 y_md_isLetter w_md_isLetter) := gB_S wm_440 wm_441 wm_5 wm_442
                  refine hm_call (va_runS (y := y_md_isLetter) (bytes := b_md_isLetter) (maxL := 1) (ws := w_md_isLetter) (rm := { frames := 0, cells := 0, slots := 0, locals := 0 }) (own := R_md) (index := 58) (ret := (Option.some Jvm.ClassFile.FieldType.boolean)) (As := [.int (dr i)]) (rest := [.int (nI (plt dr i))]) E hM1 (cwS (y := y_md_isLetter) (bytes := b_md_isLetter) (maxL := 1) (ws := w_md_isLetter) (rm := { frames := 0, cells := 0, slots := 0, locals := 0 }) (own := R_md) (index := 58) (ret := (Option.some Jvm.ClassFile.FieldType.boolean)) 1 hts hG1 rfl rfl rfl (by decide +kernel) ⟨Nat.le_of_ble_eq_true rfl, Nat.le_of_ble_eq_true rfl⟩) (hm_preS gk_w gk_s hH hg [.int (dr i)]) rfl rfl hl.1 rfl (lv_room (Nat.le_of_ble_eq_true rfl)) d_md_readPattern_120 ⟨(by show _ ≤ 0; omega), (by show _ ≤ 0; omega)⟩) hH (fun r1 M1 H1 locs1 hq1 hH1 => ?_)
                  obtain ⟨rfl, e1⟩ := hq1
                  replace hH := hH1; rw [e1] at hH; clear hH1 e1; generalize H1 = H at hH ⊢; generalize locs1 = locs at hH ⊢
                  refine hb_if_eq (b := isL (dr i)) hx hb (tgt := 130) d_md_readPattern_123 (by decide) (fun h123 => ?_) (fun h123 => ?_)
                  · skip
                    refine lv_iconst (v := 0) hx hb d_md_readPattern_130 (by decide) ?_
                    refine hn_iadd hx hb (a := plt dr i) (b := 0) d_md_readPattern_131 ?_
                    refine lv_istore_n (lv' := [(2, .int (nI (plt dr i + 0))), (4, .int 1), (5, .int (nI i)), (3, .int (nI (pz dr i))), (1, .int (nI at0)), (0, .ref y)]) hx hb d_md_readPattern_132 rfl hl (by decide) rfl (fun ls hl => ?_)
                    refine lv_iload_n hx hb d_md_readPattern_133 rfl (lv_at hl 3 rfl) ?_
                    refine lv_aload_n hx hb d_md_readPattern_134 rfl (lv_at hl 5 rfl) ?_
                    refine hm_get E (tB in_md) hK hH (hw.at 0 rfl) rfl 2 (by decide) (tC wm_369) rfl d_md_readPattern_135 ?_
                    refine lv_iload hx hb d_md_readPattern_138 (lv_at hl 2 rfl) ?_
                    refine hm_iald E hK hH 0 (hw.at 1 rfl) rfl (i := i) (by omega) (by decide) d_md_readPattern_140 ?_
                    have hM1 := c_md_isDigit l G (dr i) M H.size
                    have hG1 : GoodIn w_md_readPattern (wsS R_md 62 y_md_isDigit w_md_isDigit) := gB_S wm_443 wm_444 wm_5 wm_445
                    refine hm_call (va_runS (y := y_md_isDigit) (bytes := b_md_isDigit) (maxL := 1) (ws := w_md_isDigit) (rm := { frames := 0, cells := 0, slots := 0, locals := 0 }) (own := R_md) (index := 62) (ret := (Option.some Jvm.ClassFile.FieldType.boolean)) (As := [.int (dr i)]) (rest := [.int (nI (pz dr i))]) E hM1 (cwS (y := y_md_isDigit) (bytes := b_md_isDigit) (maxL := 1) (ws := w_md_isDigit) (rm := { frames := 0, cells := 0, slots := 0, locals := 0 }) (own := R_md) (index := 62) (ret := (Option.some Jvm.ClassFile.FieldType.boolean)) 1 hts hG1 rfl rfl rfl (by decide +kernel) ⟨Nat.le_of_ble_eq_true rfl, Nat.le_of_ble_eq_true rfl⟩) (hm_preS gk_w gk_s hH hg [.int (dr i)]) rfl rfl hl.1 rfl (lv_room (Nat.le_of_ble_eq_true rfl)) d_md_readPattern_141 ⟨(by show _ ≤ 0; omega), (by show _ ≤ 0; omega)⟩) hH (fun r1 M1 H1 locs1 hq1 hH1 => ?_)
                    obtain ⟨rfl, e1⟩ := hq1
                    replace hH := hH1; rw [e1] at hH; clear hH1 e1; generalize H1 = H at hH ⊢; generalize locs1 = locs at hH ⊢
                    refine hb_if_eq (b := isDg (dr i)) hx hb (tgt := 151) d_md_readPattern_144 (by decide) (fun h144 => ?_) (fun h144 => ?_)
                    · skip
                      refine lv_iconst (v := 1) hx hb d_md_readPattern_151 (by decide) ?_
                      refine hn_iadd hx hb (a := pz dr i) (b := 1) d_md_readPattern_152 ?_
                      refine lv_istore_n (lv' := [(3, .int (nI (pz dr i + 1))), (2, .int (nI (plt dr i + 0))), (4, .int 1), (5, .int (nI i)), (1, .int (nI at0)), (0, .ref y)]) hx hb d_md_readPattern_153 rfl hl (by decide) rfl (fun ls hl => ?_)
                      refine lv_iinc (v := nI (i + 1)) (lv' := [(5, .int (nI (i + 1))), (3, .int (nI (pz dr i + 1))), (2, .int (nI (plt dr i + 0))), (4, .int 1), (1, .int (nI at0)), (0, .ref y)]) hx hb d_md_readPattern_154 hl (k := 3) rfl (by first | exact nI_add _ 1 | (show nI _ + nI _ = _; rw [nI_add])) (by decide) rfl (fun ls hl => ?_)
                      refine lv_goto (tgt := 20) hx hb d_md_readPattern_157 (by decide) ?_
                      exact ih (i + 1) _ _ _ (by omega) (by omega) hH (lv_cv (lv_sub hl [0, 3, 1, 2, 4, 5] rfl) (by simp [gdP, plt, pz, bI_t, bI_f, h26, h31, h44, h57, h69, h74, h123, h144] <;> rfl))
                    · skip
                      exact absurd (h57.symm.trans h144) (by decide)
                  · skip
                    exact absurd (h44.symm.trans h123) (by decide)
                · skip
                  have h74 : 0 < i := by omega
                  refine lv_aload_n hx hb d_md_readPattern_77 rfl (lv_at hl 5 rfl) ?_
                  refine hm_get E (tB in_md) hK hH (hw.at 0 rfl) rfl 2 (by decide) (tC wm_369) rfl d_md_readPattern_78 ?_
                  refine lv_iload hx hb d_md_readPattern_81 (lv_at hl 0 rfl) ?_
                  refine hm_iald E hK hH 0 (hw.at 1 rfl) rfl (i := i) (by omega) (by decide) d_md_readPattern_83 ?_
                  have hM1 := c_md_isDigit l G (dr i) M H.size
                  have hG1 : GoodIn w_md_readPattern (wsS R_md 62 y_md_isDigit w_md_isDigit) := gB_S wm_443 wm_444 wm_5 wm_445
                  refine hm_call (va_runS (y := y_md_isDigit) (bytes := b_md_isDigit) (maxL := 1) (ws := w_md_isDigit) (rm := { frames := 0, cells := 0, slots := 0, locals := 0 }) (own := R_md) (index := 62) (ret := (Option.some Jvm.ClassFile.FieldType.boolean)) (As := [.int (dr i)]) (rest := []) E hM1 (cwS (y := y_md_isDigit) (bytes := b_md_isDigit) (maxL := 1) (ws := w_md_isDigit) (rm := { frames := 0, cells := 0, slots := 0, locals := 0 }) (own := R_md) (index := 62) (ret := (Option.some Jvm.ClassFile.FieldType.boolean)) 1 hts hG1 rfl rfl rfl (by decide +kernel) ⟨Nat.le_of_ble_eq_true rfl, Nat.le_of_ble_eq_true rfl⟩) (hm_preS gk_w gk_s hH hg [.int (dr i)]) rfl rfl hl.1 rfl (lv_room (Nat.le_of_ble_eq_true rfl)) d_md_readPattern_84 ⟨(by show _ ≤ 0; omega), (by show _ ≤ 0; omega)⟩) hH (fun r1 M1 H1 locs1 hq1 hH1 => ?_)
                  obtain ⟨rfl, e1⟩ := hq1
                  replace hH := hH1; rw [e1] at hH; clear hH1 e1; generalize H1 = H at hH ⊢; generalize locs1 = locs at hH ⊢
                  refine hb_if_eq (b := isDg (dr i)) hx hb (tgt := 105) d_md_readPattern_87 (by decide) (fun h87 => ?_) (fun h87 => ?_)
                  · skip
                    refine lv_iconst (v := 1) hx hb d_md_readPattern_105 (by decide) ?_
                    refine lv_goto (tgt := 110) hx hb d_md_readPattern_106 (by decide) ?_
                    refine lv_istore (lv' := [(4, .int 1), (5, .int (nI i)), (3, .int (nI (pz dr i))), (2, .int (nI (plt dr i))), (1, .int (nI at0)), (0, .ref y)]) hx hb d_md_readPattern_110 hl (by decide) rfl (fun ls hl => ?_)
                    refine lv_iload_n hx hb d_md_readPattern_112 rfl (lv_at hl 3 rfl) ?_
                    refine lv_aload_n hx hb d_md_readPattern_113 rfl (lv_at hl 5 rfl) ?_
                    refine hm_get E (tB in_md) hK hH (hw.at 0 rfl) rfl 2 (by decide) (tC wm_369) rfl d_md_readPattern_114 ?_
                    refine lv_iload hx hb d_md_readPattern_117 (lv_at hl 1 rfl) ?_
                    refine hm_iald E hK hH 0 (hw.at 1 rfl) rfl (i := i) (by omega) (by decide) d_md_readPattern_119 ?_
                    have hM1 := c_md_isLetter l G (dr i) M (hby _) H.size
                    have hG1 : GoodIn w_md_readPattern (wsS R_md 58 y_md_isLetter w_md_isLetter) := gB_S wm_440 wm_441 wm_5 wm_442
                    refine hm_call (va_runS (y := y_md_isLetter) (bytes := b_md_isLetter) (maxL := 1) (ws := w_md_isLetter) (rm := { frames := 0, cells := 0, slots := 0, locals := 0 }) (own := R_md) (index := 58) (ret := (Option.some Jvm.ClassFile.FieldType.boolean)) (As := [.int (dr i)]) (rest := [.int (nI (plt dr i))]) E hM1 (cwS (y := y_md_isLetter) (bytes := b_md_isLetter) (maxL := 1) (ws := w_md_isLetter) (rm := { frames := 0, cells := 0, slots := 0, locals := 0 }) (own := R_md) (index := 58) (ret := (Option.some Jvm.ClassFile.FieldType.boolean)) 1 hts hG1 rfl rfl rfl (by decide +kernel) ⟨Nat.le_of_ble_eq_true rfl, Nat.le_of_ble_eq_true rfl⟩) (hm_preS gk_w gk_s hH hg [.int (dr i)]) rfl rfl hl.1 rfl (lv_room (Nat.le_of_ble_eq_true rfl)) d_md_readPattern_120 ⟨(by show _ ≤ 0; omega), (by show _ ≤ 0; omega)⟩) hH (fun r1 M1 H1 locs1 hq1 hH1 => ?_)
                    obtain ⟨rfl, e1⟩ := hq1
                    replace hH := hH1; rw [e1] at hH; clear hH1 e1; generalize H1 = H at hH ⊢; generalize locs1 = locs at hH ⊢
                    refine hb_if_eq (b := isL (dr i)) hx hb (tgt := 130) d_md_readPattern_123 (by decide) (fun h123 => ?_) (fun h123 => ?_)
                    · skip
                      refine lv_iconst (v := 0) hx hb d_md_readPattern_130 (by decide) ?_
                      refine hn_iadd hx hb (a := plt dr i) (b := 0) d_md_readPattern_131 ?_
                      refine lv_istore_n (lv' := [(2, .int (nI (plt dr i + 0))), (4, .int 1), (5, .int (nI i)), (3, .int (nI (pz dr i))), (1, .int (nI at0)), (0, .ref y)]) hx hb d_md_readPattern_132 rfl hl (by decide) rfl (fun ls hl => ?_)
                      refine lv_iload_n hx hb d_md_readPattern_133 rfl (lv_at hl 3 rfl) ?_
                      refine lv_aload_n hx hb d_md_readPattern_134 rfl (lv_at hl 5 rfl) ?_
                      refine hm_get E (tB in_md) hK hH (hw.at 0 rfl) rfl 2 (by decide) (tC wm_369) rfl d_md_readPattern_135 ?_
                      refine lv_iload hx hb d_md_readPattern_138 (lv_at hl 2 rfl) ?_
                      refine hm_iald E hK hH 0 (hw.at 1 rfl) rfl (i := i) (by omega) (by decide) d_md_readPattern_140 ?_
                      have hM1 := c_md_isDigit l G (dr i) M H.size
                      have hG1 : GoodIn w_md_readPattern (wsS R_md 62 y_md_isDigit w_md_isDigit) := gB_S wm_443 wm_444 wm_5 wm_445
                      refine hm_call (va_runS (y := y_md_isDigit) (bytes := b_md_isDigit) (maxL := 1) (ws := w_md_isDigit) (rm := { frames := 0, cells := 0, slots := 0, locals := 0 }) (own := R_md) (index := 62) (ret := (Option.some Jvm.ClassFile.FieldType.boolean)) (As := [.int (dr i)]) (rest := [.int (nI (pz dr i))]) E hM1 (cwS (y := y_md_isDigit) (bytes := b_md_isDigit) (maxL := 1) (ws := w_md_isDigit) (rm := { frames := 0, cells := 0, slots := 0, locals := 0 }) (own := R_md) (index := 62) (ret := (Option.some Jvm.ClassFile.FieldType.boolean)) 1 hts hG1 rfl rfl rfl (by decide +kernel) ⟨Nat.le_of_ble_eq_true rfl, Nat.le_of_ble_eq_true rfl⟩) (hm_preS gk_w gk_s hH hg [.int (dr i)]) rfl rfl hl.1 rfl (lv_room (Nat.le_of_ble_eq_true rfl)) d_md_readPattern_141 ⟨(by show _ ≤ 0; omega), (by show _ ≤ 0; omega)⟩) hH (fun r1 M1 H1 locs1 hq1 hH1 => ?_)
                      obtain ⟨rfl, e1⟩ := hq1
                      replace hH := hH1; rw [e1] at hH; clear hH1 e1; generalize H1 = H at hH ⊢; generalize locs1 = locs at hH ⊢
                      refine hb_if_eq (b := isDg (dr i)) hx hb (tgt := 151) d_md_readPattern_144 (by decide) (fun h144 => ?_) (fun h144 => ?_)
                      · skip
                        refine lv_iconst (v := 1) hx hb d_md_readPattern_151 (by decide) ?_
                        refine hn_iadd hx hb (a := pz dr i) (b := 1) d_md_readPattern_152 ?_
                        refine lv_istore_n (lv' := [(3, .int (nI (pz dr i + 1))), (2, .int (nI (plt dr i + 0))), (4, .int 1), (5, .int (nI i)), (1, .int (nI at0)), (0, .ref y)]) hx hb d_md_readPattern_153 rfl hl (by decide) rfl (fun ls hl => ?_)
                        refine lv_iinc (v := nI (i + 1)) (lv' := [(5, .int (nI (i + 1))), (3, .int (nI (pz dr i + 1))), (2, .int (nI (plt dr i + 0))), (4, .int 1), (1, .int (nI at0)), (0, .ref y)]) hx hb d_md_readPattern_154 hl (k := 3) rfl (by first | exact nI_add _ 1 | (show nI _ + nI _ = _; rw [nI_add])) (by decide) rfl (fun ls hl => ?_)
                        refine lv_goto (tgt := 20) hx hb d_md_readPattern_157 (by decide) ?_
                        exact ih (i + 1) _ _ _ (by omega) (by omega) hH (lv_cv (lv_sub hl [0, 3, 1, 2, 4, 5] rfl) (by simp [gdP, plt, pz, bI_t, bI_f, h26, h31, h44, h57, h69, h74, h87, h123, h144] <;> rfl))
                      · skip
                        exact absurd (h57.symm.trans h144) (by decide)
                    · skip
                      exact absurd (h44.symm.trans h123) (by decide)
                  · skip
                    exact absurd (h57.symm.trans h87) (by decide)
  exact L20 (dn + 1) 0 _ _ _ (by omega) (by omega) hH (lv_cv (lv_sub hl [0, 1, 2, 3, 4, 5] rfl) (by rfl))
