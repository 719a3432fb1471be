abbrev q_md_exception (G : hG) (y th dn d np be sg nu bg nx fi le pl lf rt ln rw va : Nat) (ak : Bool) (dr ff fl : Nat → Int32) (fp : Nat → Int64) (o : Nat → Nat) (M : hM) : Option Value → hM → Prop := fun rv M' => ∃ f9 : Nat → Int32, (∀ j, j < o nx → f9 j = fl j) ∧ (xOk dr dn → ∀ j, j < xz dr dn → f9 (o nx + j) = xsg dr dn j) ∧ hm_kp (fun a => a ∈ [y, fi, le, pl]) M M' ∧ ((¬ xOk dr dn ∧ rv = some (.int (nI 0)) ∧ hm_has M' [(y, .inr (4, [.int (nI 1), .int (nI 0), .ref d, .int (nI np), .ref be, .ref sg, .ref nu, .int (nI bg), .int (nI nx), .ref fi, .ref le, .ref pl, .int (nI lf), .int (nI rt), .int (nI ln), .ref rw, .ref va, .int (bI ak)])), (d, aI G 200 dr), (fi, aI G 2050 ff), (le, aI G 40000 f9), (pl, aJ G 2048 fp)]) ∨ ∃ e9, xOk dr dn ∧ e9 ≤ nx ∧ (e9 < nx → fdP o f9 nx (xz dr dn) e9) ∧ (∀ e, e < e9 → ¬ fdP o f9 nx (xz dr dn) e) ∧ ((e9 < nx ∧ rv = some (.int (nI nx)) ∧ hm_has M' [(y, .inr (4, [.int (nI 0), .int (nI 0), .ref d, .int (nI np), .ref be, .ref sg, .ref nu, .int (nI bg), .int (nI nx), .ref fi, .ref le, .ref pl, .int (nI lf), .int (nI rt), .int (nI ln), .ref rw, .ref va, .int (bI ak)])), (d, aI G 200 dr), (fi, aI G 2050 ff), (le, aI G 40000 f9), (pl, aJ G 2048 (vp_updL fp e9 (cutN (xhy dr dn) 64)))]) ∨ (e9 = nx ∧ rv = some (.int (nI (nx + 1))) ∧ hm_has M' [(y, .inr (4, [.int (nI 0), .int (nI 0), .ref d, .int (nI np), .ref be, .ref sg, .ref nu, .int (nI bg), .int (nI (nx + 1)), .ref fi, .ref le, .ref pl, .int (nI lf), .int (nI rt), .int (nI ln), .ref rw, .ref va, .int (bI ak)])), (d, aI G 200 dr), (fi, aI G 2050 (upd ff (nx + 1) (nI (o nx + xz dr dn)))), (le, aI G 40000 f9), (pl, aJ G 2048 (vp_updL fp e9 (cutN (xhy dr dn) 64)))])))
set_option maxHeartbeats 4000000 in
set_option maxRecDepth 100000 in
theorem c_md_exception (l : Launch) (G : hG) (y th dn d np be sg nu bg nx fi le pl lf rt ln rw va : Nat) (ak : Bool) (dr ff fl : Nat → Int32) (fp : Nat → Int64) (o : Nat → Nat) (M : hM) (hw : hm_has M [(y, .inr (4, [.int (nI th), .int (nI dn), .ref d, .int (nI np), .ref be, .ref sg, .ref nu, .int (nI bg), .int (nI nx), .ref fi, .ref le, .ref pl, .int (nI lf), .int (nI rt), .int (nI ln), .ref rw, .ref va, .int (bI ak)])), (d, aI G 200 dr), (fi, aI G 2050 ff), (le, aI G 40000 fl), (pl, aJ G 2048 fp)]) (hdn : dn ≤ 200) (hby : ∀ k, isBy (dr k)) (hff : ∀ e, e ≤ nx → ff e = nI (o e)) (hmo : ∀ e, e < nx → o e ≤ o (e + 1)) (hle : ∀ e, e ≤ nx → o e ≤ o nx) (hob : o nx ≤ 30000) (hnx : nx ≤ 600) : Ct (gk G) l G.1 vwC y_md_exception w_md_exception { frames := 1, cells := 0, slots := 0, locals := 24 } ([.ref y] : List Value) M (q_md_exception G y th dn d np be sg nu bg nx fi le pl lf rt ln rw va ak dr ff fl fp o M) 0 0 := by
  refine Ct.ofW (cc := b_md_exception) (maxL := 6) (ret := (Option.some Jvm.ClassFile.FieldType.int)) (by decide) rfl (Nat.le_of_ble_eq_true rfl) (fun p e s m below meth c A ls E hr hlk hin hg hH hl => ?_)
  have hl : lv_has ls 6 [(0, .ref y)] := hl
  have hx := E.1; have hb := E.2.1; have hml := E.2.2.1; have hown := E.2.2.2.1; have hts := E.2.2.2.2; have hK := hg.1
  obtain ⟨M0, hM0⟩ : ∃ M0 : hM, M0 = M := ⟨M, rfl⟩
  rw [show q_md_exception G y th dn d np be sg nu bg nx fi le pl lf rt ln rw va ak dr ff fl fp o M = q_md_exception G y th dn d np be sg nu bg nx fi le pl lf rt ln rw va ak dr ff fl fp o M0 by rw [hM0]]
  have hk : hm_kp (fun a => a ∈ [y, fi, le, pl]) M0 M := by rw [hM0]; exact hm_kp.rf
  refine lv_iconst (v := 0) hx hb d_md_exception_0 (by decide) ?_
  refine lv_istore_n (lv' := [(1, .int 0), (0, .ref y)]) hx hb d_md_exception_1 rfl hl (by decide) rfl (fun ls hl => ?_)
  refine lv_lconst (v := 0) hx hb d_md_exception_2 (by decide) ?_
  refine lv_lstore_n (lv' := [(2, .long 0), (1, .int 0), (0, .ref y)]) hx hb d_md_exception_3 rfl hl (by decide) rfl (fun ls hl => ?_)
  refine lv_aload_n hx hb d_md_exception_4 rfl (lv_at hl 2 rfl) ?_
  refine hm_get E (tB in_md) hK hH (hw.at 0 rfl) rfl 1 (by decide) (tC wm_368) rfl d_md_exception_5 ?_
  refine hn_if_le (a := dn) hx hb (by omega) (tgt := 15) d_md_exception_8 (by decide) (fun h8 => ?_) (fun h8 => ?_)
  · skip
    refine lv_iconst (v := 0) hx hb d_md_exception_15 (by decide) ?_
    refine lv_istore (lv' := [(4, .int 0), (2, .long 0), (1, .int 0), (0, .ref y)]) hx hb d_md_exception_16 hl (by decide) rfl (fun ls hl => ?_)
    refine lv_iconst (v := 0) hx hb d_md_exception_18 (by decide) ?_
    refine lv_istore (lv' := [(5, .int 0), (4, .int 0), (2, .long 0), (1, .int 0), (0, .ref y)]) hx hb d_md_exception_19 hl (by decide) rfl (fun ls hl => ?_)
    have L21 : ∀ (k : Nat) (i : Nat) (f : Nat → Int32) (M : hM) (H : Heap) (locs : List Loc) (ls : Array Slot), dn + 1 ≤ i + k → i ≤ dn → (∀ j, j < o nx → f j = fl j) → xlF dr i (o nx) f → hm_has M [(y, .inr (4, [.int (nI th), .int (nI dn), .ref d, .int (nI np), .ref be, .ref sg, .ref nu, .int (nI bg), .int (nI nx), .ref fi, .ref le, .ref pl, .int (nI lf), .int (nI rt), .int (nI ln), .ref rw, .ref va, .int (bI ak)])), (d, aI G 200 dr), (fi, aI G 2050 ff), (le, aI G 40000 f), (pl, aJ G 2048 fp)] → hm_kp (fun a => a ∈ [y, fi, le, pl]) M0 M → hm_I G.1 vwC A s.heap M H locs → lv_has ls 6 [(5, .int (nI i)), (4, .int (bI (gxP dr dn i))), (2, .long (cuX dr i)), (1, .int (nI (xz dr i))), (0, .ref y)] → W p l e { frames := 1, cells := 0, slots := 0, locals := 24 } s m ([.ref y] : List Value).toArray below meth c H locs 0 0 (MQ below (hm_Q G.1 vwC (q_md_exception G y th dn d np be sg nu bg nx fi le pl lf rt ln rw va ak dr ff fl fp o M0) A) ([.ref y] : List Value).toArray s 0 0 A) (F0 m 21 ls []) := by
      intro k
      induction k with
      | zero => intro i f M H locs ls hfu hi hf0 hf1; exact absurd hfu (by omega)
      | succ k ih =>
        intro i f M H locs ls hfu hi hf0 hf1 hw hk hH hl
        refine lv_iload hx hb d_md_exception_21 (lv_at hl 0 rfl) ?_
        refine lv_aload_n hx hb d_md_exception_23 rfl (lv_at hl 4 rfl) ?_
        refine hm_get E (tB in_md) hK hH (hw.at 0 rfl) rfl 1 (by decide) (tC wm_368) rfl d_md_exception_24 ?_
        refine hn_icmp_ge (a := i) (b := dn) hx hb (by omega) (by omega) (tgt := 154) d_md_exception_27 (by decide) (fun h27 => ?_) (fun h27 => ?_)
        · skip
          have hie : i = dn := by omega
          rw [hie] at hl hf1
          have hxn := xz_le dr dn
          refine lv_iload hx hb d_md_exception_154 (lv_at hl 1 rfl) ?_
          refine hb_if_eq (b := gxP dr dn dn) hx hb (tgt := 170) d_md_exception_156 (by decide) (fun h156 => ?_) (fun h156 => ?_)
          · skip
            refine lv_aload_n hx hb d_md_exception_170 rfl (lv_at hl 4 rfl) ?_
            refine lv_iconst (v := 1) hx hb d_md_exception_171 (by decide) ?_
            have hM1 := c_md_fails l G y th dn d np be sg nu bg nx fi le pl lf rt ln rw va ak 1 M (hw.sub (ws' := [(y, .inr (4, [.int (nI th), .int (nI dn), .ref d, .int (nI np), .ref be, .ref sg, .ref nu, .int (nI bg), .int (nI nx), .ref fi, .ref le, .ref pl, .int (nI lf), .int (nI rt), .int (nI ln), .ref rw, .ref va, .int (bI ak)]))]) [0] rfl rfl) H.size
            have hG1 : GoodIn w_md_exception (wsV R_md 69 R_md y_md_fails w_md_fails) := gB_V wm_446 wm_448 wp_11 wm_5 wm_449
            refine hm_call (va_runV (y := y_md_fails) (bytes := b_md_fails) (maxL := 2) (ws := w_md_fails) (rm := { frames := 0, cells := 0, slots := 0, locals := 0 }) (own := R_md) (index := 69) (ret := (Option.some Jvm.ClassFile.FieldType.int)) (C := R_md) (As := [.int 1]) (rest := []) E hM1 (cwV (y := y_md_fails) (bytes := b_md_fails) (maxL := 2) (ws := w_md_fails) (rm := { frames := 0, cells := 0, slots := 0, locals := 0 }) (own := R_md) (index := 69) (ret := (Option.some Jvm.ClassFile.FieldType.int)) (C := R_md) 1 hts hG1 rfl rfl rfl (by decide +kernel) ⟨Nat.le_of_ble_eq_true rfl, Nat.le_of_ble_eq_true rfl⟩) (hm_preV gk_w gk_s hH hg hK (hw.at 0 rfl) rfl [.int 1]) rfl rfl hl.1 rfl (lv_room (Nat.le_of_ble_eq_true rfl)) d_md_exception_172 ⟨(by show _ ≤ 0; omega), (by show _ ≤ 0; omega)⟩) hH (fun r1 M1 H1 locs1 hq1 hH1 => ?_)
            replace hH := hH1; clear hH1; generalize H1 = H at hH ⊢; generalize locs1 = locs at hH ⊢
            obtain ⟨rfl, hw1, hk1⟩ := hq1
            have hw := hm_join (ws' := [(y, .inr (4, [.int (nI 1), .int (nI 0), .ref d, .int (nI np), .ref be, .ref sg, .ref nu, .int (nI bg), .int (nI nx), .ref fi, .ref le, .ref pl, .int (nI lf), .int (nI rt), .int (nI ln), .ref rw, .ref va, .int (bI ak)])), (d, aI G 200 dr), (fi, aI G 2050 ff), (le, aI G 40000 f), (pl, aJ G 2048 fp)]) (wc := [(y, .inr (4, [.int (nI th), .int (nI dn), .ref d, .int (nI np), .ref be, .ref sg, .ref nu, .int (nI bg), .int (nI nx), .ref fi, .ref le, .ref pl, .int (nI lf), .int (nI rt), .int (nI ln), .ref rw, .ref va, .int (bI ak)]))]) hw hw1 hk1 [0] rfl rfl (fun a h => h) rfl (by
              intro k9 h9
              match k9, h9 with
              | 0, _ => exact Or.inr ⟨0, rfl, rfl⟩
              | 1, _ => exact Or.inl ⟨by decide, rfl⟩
              | 2, _ => exact Or.inl ⟨by decide, rfl⟩
              | 3, _ => exact Or.inl ⟨by decide, rfl⟩
              | 4, _ => exact Or.inl ⟨by decide, rfl⟩
              | k9 + 5, h9 => exact absurd h9 (Nat.not_lt_of_le (Nat.le_add_left _ _)))
            have hk := hk.tr hk1 (fun a h => by simp at h; subst h; simp)
            generalize M1 = M at hH hw hk
            exact hm_iret E hr hlk hH ((fun hno => ⟨f, hf0, fun z => absurd z hno, hk, Or.inl ⟨hno, rfl, hw⟩⟩) (fun z => by have h8 := (gx_ok.mp z).1; rw [h156] at h8; cases h8)) (by omega) (by omega) d_md_exception_175
          · skip
            refine lv_iload_n hx hb d_md_exception_159 rfl (lv_at hl 3 rfl) ?_
            refine lv_iconst (v := 1) hx hb d_md_exception_160 (by decide) ?_
            refine hn_icmp_lt (a := xz dr dn) (b := 1) hx hb (by omega) (by omega) (tgt := 170) d_md_exception_161 (by decide) (fun h161 => ?_) (fun h161 => ?_)
            · skip
              refine lv_aload_n hx hb d_md_exception_170 rfl (lv_at hl 4 rfl) ?_
              refine lv_iconst (v := 1) hx hb d_md_exception_171 (by decide) ?_
              have hM1 := c_md_fails l G y th dn d np be sg nu bg nx fi le pl lf rt ln rw va ak 1 M (hw.sub (ws' := [(y, .inr (4, [.int (nI th), .int (nI dn), .ref d, .int (nI np), .ref be, .ref sg, .ref nu, .int (nI bg), .int (nI nx), .ref fi, .ref le, .ref pl, .int (nI lf), .int (nI rt), .int (nI ln), .ref rw, .ref va, .int (bI ak)]))]) [0] rfl rfl) H.size
              have hG1 : GoodIn w_md_exception (wsV R_md 69 R_md y_md_fails w_md_fails) := gB_V wm_446 wm_448 wp_11 wm_5 wm_449
              refine hm_call (va_runV (y := y_md_fails) (bytes := b_md_fails) (maxL := 2) (ws := w_md_fails) (rm := { frames := 0, cells := 0, slots := 0, locals := 0 }) (own := R_md) (index := 69) (ret := (Option.some Jvm.ClassFile.FieldType.int)) (C := R_md) (As := [.int 1]) (rest := []) E hM1 (cwV (y := y_md_fails) (bytes := b_md_fails) (maxL := 2) (ws := w_md_fails) (rm := { frames := 0, cells := 0, slots := 0, locals := 0 }) (own := R_md) (index := 69) (ret := (Option.some Jvm.ClassFile.FieldType.int)) (C := R_md) 1 hts hG1 rfl rfl rfl (by decide +kernel) ⟨Nat.le_of_ble_eq_true rfl, Nat.le_of_ble_eq_true rfl⟩) (hm_preV gk_w gk_s hH hg hK (hw.at 0 rfl) rfl [.int 1]) rfl rfl hl.1 rfl (lv_room (Nat.le_of_ble_eq_true rfl)) d_md_exception_172 ⟨(by show _ ≤ 0; omega), (by show _ ≤ 0; omega)⟩) hH (fun r1 M1 H1 locs1 hq1 hH1 => ?_)
              replace hH := hH1; clear hH1; generalize H1 = H at hH ⊢; generalize locs1 = locs at hH ⊢
              obtain ⟨rfl, hw1, hk1⟩ := hq1
              have hw := hm_join (ws' := [(y, .inr (4, [.int (nI 1), .int (nI 0), .ref d, .int (nI np), .ref be, .ref sg, .ref nu, .int (nI bg), .int (nI nx), .ref fi, .ref le, .ref pl, .int (nI lf), .int (nI rt), .int (nI ln), .ref rw, .ref va, .int (bI ak)])), (d, aI G 200 dr), (fi, aI G 2050 ff), (le, aI G 40000 f), (pl, aJ G 2048 fp)]) (wc := [(y, .inr (4, [.int (nI th), .int (nI dn), .ref d, .int (nI np), .ref be, .ref sg, .ref nu, .int (nI bg), .int (nI nx), .ref fi, .ref le, .ref pl, .int (nI lf), .int (nI rt), .int (nI ln), .ref rw, .ref va, .int (bI ak)]))]) hw hw1 hk1 [0] rfl rfl (fun a h => h) rfl (by
                intro k9 h9
                match k9, h9 with
                | 0, _ => exact Or.inr ⟨0, rfl, rfl⟩
                | 1, _ => exact Or.inl ⟨by decide, rfl⟩
                | 2, _ => exact Or.inl ⟨by decide, rfl⟩
                | 3, _ => exact Or.inl ⟨by decide, rfl⟩
                | 4, _ => exact Or.inl ⟨by decide, rfl⟩
                | k9 + 5, h9 => exact absurd h9 (Nat.not_lt_of_le (Nat.le_add_left _ _)))
              have hk := hk.tr hk1 (fun a h => by simp at h; subst h; simp)
              generalize M1 = M at hH hw hk
              exact hm_iret E hr hlk hH ((fun hno => ⟨f, hf0, fun z => absurd z hno, hk, Or.inl ⟨hno, rfl, hw⟩⟩) (fun z => by have h8 := (gx_ok.mp z).2; omega)) (by omega) (by omega) d_md_exception_175
            · skip
              refine lv_iload_n hx hb d_md_exception_164 rfl (lv_at hl 3 rfl) ?_
              refine lv_bipush (v := 63) hx hb d_md_exception_165 (by decide) ?_
              refine hn_icmp_le (a := xz dr dn) (b := 63) hx hb (by omega) (by omega) (tgt := 176) d_md_exception_167 (by decide) (fun h167 => ?_) (fun h167 => ?_)
              · skip
                have hok : xOk dr dn := gx_ok.mpr ⟨h156, by omega, by omega⟩
                have hcu := cu_end hok
                refine lv_aload_n hx hb d_md_exception_176 rfl (lv_at hl 4 rfl) ?_
                refine lv_iload_n hx hb d_md_exception_177 rfl (lv_at hl 3 rfl) ?_
                have hM1 := c_md_find l G y th dn d np be sg nu bg nx fi le pl lf rt ln rw va ak ff f o (xz dr dn) M (hw.sub (ws' := [(y, .inr (4, [.int (nI th), .int (nI dn), .ref d, .int (nI np), .ref be, .ref sg, .ref nu, .int (nI bg), .int (nI nx), .ref fi, .ref le, .ref pl, .int (nI lf), .int (nI rt), .int (nI ln), .ref rw, .ref va, .int (bI ak)])), (fi, aI G 2050 ff), (le, aI G 40000 f)]) [0, 2, 3] rfl rfl) hff hmo hle (by omega) (by omega) (by omega) H.size
                have hG1 : GoodIn w_md_exception (wsV R_md 84 R_md y_md_find w_md_find) := gB_V wm_459 wm_461 wp_13 wm_5 wm_462
                refine hm_call (va_runV (y := y_md_find) (bytes := b_md_find) (maxL := 5) (ws := w_md_find) (rm := { frames := 0, cells := 0, slots := 0, locals := 0 }) (own := R_md) (index := 84) (ret := (Option.some Jvm.ClassFile.FieldType.int)) (C := R_md) (As := [.int (nI (xz dr dn))]) (rest := []) E hM1 (cwV (y := y_md_find) (bytes := b_md_find) (maxL := 5) (ws := w_md_find) (rm := { frames := 0, cells := 0, slots := 0, locals := 0 }) (own := R_md) (index := 84) (ret := (Option.some Jvm.ClassFile.FieldType.int)) (C := R_md) 1 hts hG1 rfl rfl rfl (by decide +kernel) ⟨Nat.le_of_ble_eq_true rfl, Nat.le_of_ble_eq_true rfl⟩) (hm_preV gk_w gk_s hH hg hK (hw.at 0 rfl) rfl [.int (nI (xz dr dn))]) rfl rfl hl.1 rfl (lv_room (Nat.le_of_ble_eq_true rfl)) d_md_exception_178 ⟨(by show _ ≤ 0; omega), (by show _ ≤ 0; omega)⟩) hH (fun r1 M1 H1 locs1 hq1 hH1 => ?_)
                replace hH := hH1; clear hH1; generalize H1 = H at hH ⊢; generalize locs1 = locs at hH ⊢
                obtain ⟨e9, rfl, he9, hfd, hnf, e8⟩ := hq1
                rw [e8] at hH
                refine lv_istore (lv' := [(5, .int (nI e9)), (4, .int (bI (gxP dr dn dn))), (2, .long (cuX dr dn)), (1, .int (nI (xz dr dn))), (0, .ref y)]) hx hb d_md_exception_181 hl (by decide) rfl (fun ls hl => ?_)
                refine lv_iload hx hb d_md_exception_183 (lv_at hl 0 rfl) ?_
                refine lv_sipush (v := 2048) hx hb d_md_exception_185 (by decide) ?_
                refine hn_icmp_ne (a := e9) (b := 2048) hx hb (by omega) (by omega) (tgt := 197) d_md_exception_188 (by decide) (fun h188 => ?_) (fun h188 => ?_)
                · skip
                  refine lv_aload_n hx hb d_md_exception_197 rfl (lv_at hl 4 rfl) ?_
                  refine hm_get E (tB in_md) hK hH (hw.at 0 rfl) rfl 11 (by decide) (tC wm_378) rfl d_md_exception_198 ?_
                  refine lv_iload hx hb d_md_exception_201 (lv_at hl 0 rfl) ?_
                  refine lv_lload_n hx hb d_md_exception_203 rfl (lv_at hl 2 rfl) ?_
                  refine hm_last E hK hH 1 (hw.at 4 rfl) rfl (i := e9) (by omega) (by decide) d_md_exception_204 (fun H locs hH => ?_)
                  have hw := hw.set (ws' := [(y, .inr (4, [.int (nI th), .int (nI dn), .ref d, .int (nI np), .ref be, .ref sg, .ref nu, .int (nI bg), .int (nI nx), .ref fi, .ref le, .ref pl, .int (nI lf), .int (nI rt), .int (nI ln), .ref rw, .ref va, .int (bI ak)])), (d, aI G 200 dr), (fi, aI G 2050 ff), (le, aI G 40000 f), (pl, aJ G 2048 (vp_updL fp e9 (cuX dr dn)))]) (k := 4) rfl rfl
                  have hk := hk.wr (a := pl) (v := some (aJ G 2048 (vp_updL fp e9 (cuX dr dn)))) (by first | (right; assumption) | (left; simp; done))
                  generalize va_up M pl (some (aJ G 2048 (vp_updL fp e9 (cuX dr dn)))) = M at hH hw hk ⊢
                  refine lv_iload hx hb d_md_exception_205 (lv_at hl 0 rfl) ?_
                  refine lv_aload_n hx hb d_md_exception_207 rfl (lv_at hl 4 rfl) ?_
                  refine hm_get E (tB in_md) hK hH (hw.at 0 rfl) rfl 8 (by decide) (tC wm_375) rfl d_md_exception_208 ?_
                  refine hn_icmp_ne (a := e9) (b := nx) hx hb (by omega) (by omega) (tgt := 242) d_md_exception_211 (by decide) (fun h211 => ?_) (fun h211 => ?_)
                  · skip
                    refine lv_aload_n hx hb d_md_exception_242 rfl (lv_at hl 4 rfl) ?_
                    refine lv_iconst (v := 0) hx hb d_md_exception_243 (by decide) ?_
                    have hM1 := c_md_fails l G y th dn d np be sg nu bg nx fi le pl lf rt ln rw va ak 0 M (hw.sub (ws' := [(y, .inr (4, [.int (nI th), .int (nI dn), .ref d, .int (nI np), .ref be, .ref sg, .ref nu, .int (nI bg), .int (nI nx), .ref fi, .ref le, .ref pl, .int (nI lf), .int (nI rt), .int (nI ln), .ref rw, .ref va, .int (bI ak)]))]) [0] rfl rfl) H.size
                    have hG1 : GoodIn w_md_exception (wsV R_md 69 R_md y_md_fails w_md_fails) := gB_V wm_446 wm_448 wp_11 wm_5 wm_449
                    refine hm_call (va_runV (y := y_md_fails) (bytes := b_md_fails) (maxL := 2) (ws := w_md_fails) (rm := { frames := 0, cells := 0, slots := 0, locals := 0 }) (own := R_md) (index := 69) (ret := (Option.some Jvm.ClassFile.FieldType.int)) (C := R_md) (As := [.int 0]) (rest := []) E hM1 (cwV (y := y_md_fails) (bytes := b_md_fails) (maxL := 2) (ws := w_md_fails) (rm := { frames := 0, cells := 0, slots := 0, locals := 0 }) (own := R_md) (index := 69) (ret := (Option.some Jvm.ClassFile.FieldType.int)) (C := R_md) 1 hts hG1 rfl rfl rfl (by decide +kernel) ⟨Nat.le_of_ble_eq_true rfl, Nat.le_of_ble_eq_true rfl⟩) (hm_preV gk_w gk_s hH hg hK (hw.at 0 rfl) rfl [.int 0]) rfl rfl hl.1 rfl (lv_room (Nat.le_of_ble_eq_true rfl)) d_md_exception_244 ⟨(by show _ ≤ 0; omega), (by show _ ≤ 0; omega)⟩) hH (fun r1 M1 H1 locs1 hq1 hH1 => ?_)
                    replace hH := hH1; clear hH1; generalize H1 = H at hH ⊢; generalize locs1 = locs at hH ⊢
                    obtain ⟨rfl, hw1, hk1⟩ := hq1
                    have hw := hm_join (ws' := [(y, .inr (4, [.int (nI 0), .int (nI 0), .ref d, .int (nI np), .ref be, .ref sg, .ref nu, .int (nI bg), .int (nI nx), .ref fi, .ref le, .ref pl, .int (nI lf), .int (nI rt), .int (nI ln), .ref rw, .ref va, .int (bI ak)])), (d, aI G 200 dr), (fi, aI G 2050 ff), (le, aI G 40000 f), (pl, aJ G 2048 (vp_updL fp e9 (cuX dr dn)))]) (wc := [(y, .inr (4, [.int (nI th), .int (nI dn), .ref d, .int (nI np), .ref be, .ref sg, .ref nu, .int (nI bg), .int (nI nx), .ref fi, .ref le, .ref pl, .int (nI lf), .int (nI rt), .int (nI ln), .ref rw, .ref va, .int (bI ak)]))]) hw hw1 hk1 [0] rfl rfl (fun a h => h) rfl (by
                      intro k9 h9
                      match k9, h9 with
                      | 0, _ => exact Or.inr ⟨0, rfl, rfl⟩
                      | 1, _ => exact Or.inl ⟨by decide, rfl⟩
                      | 2, _ => exact Or.inl ⟨by decide, rfl⟩
                      | 3, _ => exact Or.inl ⟨by decide, rfl⟩
                      | 4, _ => exact Or.inl ⟨by decide, rfl⟩
                      | k9 + 5, h9 => exact absurd h9 (Nat.not_lt_of_le (Nat.le_add_left _ _)))
                    have hk := hk.tr hk1 (fun a h => by simp at h; subst h; simp)
                    generalize M1 = M at hH hw hk
                    refine lv_pop hx hb d_md_exception_247 rfl ?_
                    refine lv_aload_n hx hb d_md_exception_248 rfl (lv_at hl 4 rfl) ?_
                    refine hm_get E (tB in_md) hK hH (hw.at 0 rfl) rfl 8 (by decide) (tC wm_375) rfl d_md_exception_249 ?_
                    exact hm_iret E hr hlk hH (⟨f, hf0, fun _ j hj => hf1 j hj (by omega), hk, Or.inr ⟨e9, hok, he9, hfd, hnf, Or.inl ⟨by omega, rfl, by rw [← hcu]; exact hw⟩⟩⟩) (by omega) (by omega) d_md_exception_252
                  · skip
                    refine lv_aload_n hx hb d_md_exception_214 rfl (lv_at hl 4 rfl) ?_
                    refine lv_dup hx hb d_md_exception_215 rfl ?_
                    refine hm_get E (tB in_md) hK hH (hw.at 0 rfl) rfl 8 (by decide) (tC wm_375) rfl d_md_exception_216 ?_
                    refine lv_iconst (v := 1) hx hb d_md_exception_219 (by decide) ?_
                    refine hn_iadd hx hb (a := nx) (b := 1) d_md_exception_220 ?_
                    refine hm_put E (tB in_md) t_md tk_md nm_md hK hH (hw.at 0 rfl) rfl 8 (by decide) (tC wm_375) rfl rfl rfl (Nat.le_of_ble_eq_true rfl) (fs' := [.int (nI th), .int (nI dn), .ref d, .int (nI np), .ref be, .ref sg, .ref nu, .int (nI bg), .int (nI (nx + 1)), .ref fi, .ref le, .ref pl, .int (nI lf), .int (nI rt), .int (nI ln), .ref rw, .ref va, .int (bI ak)]) rfl d_md_exception_221 (fun H locs hH => ?_)
                    have hw := hw.set (ws' := [(y, .inr (4, [.int (nI th), .int (nI dn), .ref d, .int (nI np), .ref be, .ref sg, .ref nu, .int (nI bg), .int (nI (nx + 1)), .ref fi, .ref le, .ref pl, .int (nI lf), .int (nI rt), .int (nI ln), .ref rw, .ref va, .int (bI ak)])), (d, aI G 200 dr), (fi, aI G 2050 ff), (le, aI G 40000 f), (pl, aJ G 2048 (vp_updL fp e9 (cuX dr dn)))]) (k := 0) rfl rfl
                    have hk := hk.wr (a := y) (v := some (.inr (4, [.int (nI th), .int (nI dn), .ref d, .int (nI np), .ref be, .ref sg, .ref nu, .int (nI bg), .int (nI (nx + 1)), .ref fi, .ref le, .ref pl, .int (nI lf), .int (nI rt), .int (nI ln), .ref rw, .ref va, .int (bI ak)]))) (by first | (right; assumption) | (left; simp; done))
                    generalize va_up M y (some (.inr (4, [.int (nI th), .int (nI dn), .ref d, .int (nI np), .ref be, .ref sg, .ref nu, .int (nI bg), .int (nI (nx + 1)), .ref fi, .ref le, .ref pl, .int (nI lf), .int (nI rt), .int (nI ln), .ref rw, .ref va, .int (bI ak)]))) = M at hH hw hk ⊢
                    refine lv_aload_n hx hb d_md_exception_224 rfl (lv_at hl 4 rfl) ?_
                    refine hm_get E (tB in_md) hK hH (hw.at 0 rfl) rfl 9 (by decide) (tC wm_376) rfl d_md_exception_225 ?_
                    refine lv_aload_n hx hb d_md_exception_228 rfl (lv_at hl 4 rfl) ?_
                    refine hm_get E (tB in_md) hK hH (hw.at 0 rfl) rfl 8 (by decide) (tC wm_375) rfl d_md_exception_229 ?_
                    refine lv_aload_n hx hb d_md_exception_232 rfl (lv_at hl 4 rfl) ?_
                    refine hm_get E (tB in_md) hK hH (hw.at 0 rfl) rfl 9 (by decide) (tC wm_376) rfl d_md_exception_233 ?_
                    refine lv_iload hx hb d_md_exception_236 (lv_at hl 0 rfl) ?_
                    refine hm_iald E hK hH 0 (hw.at 2 rfl) rfl (i := e9) (by omega) (by decide) d_md_exception_238 ?_
                    refine hm_top (w := .int (nI (o nx))) (by rw [h211, hff nx (Nat.le_refl _)]) ?_
                    refine lv_iload_n hx hb d_md_exception_239 rfl (lv_at hl 3 rfl) ?_
                    refine hn_iadd hx hb (a := o nx) (b := xz dr dn) d_md_exception_240 ?_
                    refine hm_iast E hK hH 0 (hw.at 2 rfl) rfl (i := nx + 1) (by omega) (by decide) d_md_exception_241 (fun H locs hH => ?_)
                    have hw := hw.set (ws' := [(y, .inr (4, [.int (nI th), .int (nI dn), .ref d, .int (nI np), .ref be, .ref sg, .ref nu, .int (nI bg), .int (nI (nx + 1)), .ref fi, .ref le, .ref pl, .int (nI lf), .int (nI rt), .int (nI ln), .ref rw, .ref va, .int (bI ak)])), (d, aI G 200 dr), (fi, aI G 2050 (upd ff (nx + 1) (nI (o nx + (xz dr dn))))), (le, aI G 40000 f), (pl, aJ G 2048 (vp_updL fp e9 (cuX dr dn)))]) (k := 2) rfl rfl
                    have hk := hk.wr (a := fi) (v := some (aI G 2050 (upd ff (nx + 1) (nI (o nx + (xz dr dn)))))) (by first | (right; assumption) | (left; simp; done))
                    generalize va_up M fi (some (aI G 2050 (upd ff (nx + 1) (nI (o nx + (xz dr dn)))))) = M at hH hw hk ⊢
                    refine lv_aload_n hx hb d_md_exception_242 rfl (lv_at hl 4 rfl) ?_
                    refine lv_iconst (v := 0) hx hb d_md_exception_243 (by decide) ?_
                    have hM1 := c_md_fails l G y th dn d np be sg nu bg (nx + 1) fi le pl lf rt ln rw va ak 0 M (hw.sub (ws' := [(y, .inr (4, [.int (nI th), .int (nI dn), .ref d, .int (nI np), .ref be, .ref sg, .ref nu, .int (nI bg), .int (nI (nx + 1)), .ref fi, .ref le, .ref pl, .int (nI lf), .int (nI rt), .int (nI ln), .ref rw, .ref va, .int (bI ak)]))]) [0] rfl rfl) H.size
                    have hG1 : GoodIn w_md_exception (wsV R_md 69 R_md y_md_fails w_md_fails) := gB_V wm_446 wm_448 wp_11 wm_5 wm_449
                    refine hm_call (va_runV (y := y_md_fails) (bytes := b_md_fails) (maxL := 2) (ws := w_md_fails) (rm := { frames := 0, cells := 0, slots := 0, locals := 0 }) (own := R_md) (index := 69) (ret := (Option.some Jvm.ClassFile.FieldType.int)) (C := R_md) (As := [.int 0]) (rest := []) E hM1 (cwV (y := y_md_fails) (bytes := b_md_fails) (maxL := 2) (ws := w_md_fails) (rm := { frames := 0, cells := 0, slots := 0, locals := 0 }) (own := R_md) (index := 69) (ret := (Option.some Jvm.ClassFile.FieldType.int)) (C := R_md) 1 hts hG1 rfl rfl rfl (by decide +kernel) ⟨Nat.le_of_ble_eq_true rfl, Nat.le_of_ble_eq_true rfl⟩) (hm_preV gk_w gk_s hH hg hK (hw.at 0 rfl) rfl [.int 0]) rfl rfl hl.1 rfl (lv_room (Nat.le_of_ble_eq_true rfl)) d_md_exception_244 ⟨(by show _ ≤ 0; omega), (by show _ ≤ 0; omega)⟩) hH (fun r1 M1 H1 locs1 hq1 hH1 => ?_)
                    replace hH := hH1; clear hH1; generalize H1 = H at hH ⊢; generalize locs1 = locs at hH ⊢
                    obtain ⟨rfl, hw1, hk1⟩ := hq1
                    have hw := hm_join (ws' := [(y, .inr (4, [.int (nI 0), .int (nI 0), .ref d, .int (nI np), .ref be, .ref sg, .ref nu, .int (nI bg), .int (nI (nx + 1)), .ref fi, .ref le, .ref pl, .int (nI lf), .int (nI rt), .int (nI ln), .ref rw, .ref va, .int (bI ak)])), (d, aI G 200 dr), (fi, aI G 2050 (upd ff (nx + 1) (nI (o nx + xz dr dn)))), (le, aI G 40000 f), (pl, aJ G 2048 (vp_updL fp e9 (cuX dr dn)))]) (wc := [(y, .inr (4, [.int (nI th), .int (nI dn), .ref d, .int (nI np), .ref be, .ref sg, .ref nu, .int (nI bg), .int (nI (nx + 1)), .ref fi, .ref le, .ref pl, .int (nI lf), .int (nI rt), .int (nI ln), .ref rw, .ref va, .int (bI ak)]))]) hw hw1 hk1 [0] rfl rfl (fun a h => h) rfl (by
                      intro k9 h9
                      match k9, h9 with
                      | 0, _ => exact Or.inr ⟨0, rfl, rfl⟩
                      | 1, _ => exact Or.inl ⟨by decide, rfl⟩
                      | 2, _ => exact Or.inl ⟨by decide, rfl⟩
                      | 3, _ => exact Or.inl ⟨by decide, rfl⟩
                      | 4, _ => exact Or.inl ⟨by decide, rfl⟩
                      | k9 + 5, h9 => exact absurd h9 (Nat.not_lt_of_le (Nat.le_add_left _ _)))
                    have hk := hk.tr hk1 (fun a h => by simp at h; subst h; simp)
                    generalize M1 = M at hH hw hk
                    refine lv_pop hx hb d_md_exception_247 rfl ?_
                    refine lv_aload_n hx hb d_md_exception_248 rfl (lv_at hl 4 rfl) ?_
                    refine hm_get E (tB in_md) hK hH (hw.at 0 rfl) rfl 8 (by decide) (tC wm_375) rfl d_md_exception_249 ?_
                    exact hm_iret E hr hlk hH (⟨f, hf0, fun _ j hj => hf1 j hj (by omega), hk, Or.inr ⟨e9, hok, he9, hfd, hnf, Or.inr ⟨h211, rfl, by rw [← hcu]; exact hw⟩⟩⟩) (by omega) (by omega) d_md_exception_252
                · skip
                  omega
              · skip
                refine lv_aload_n hx hb d_md_exception_170 rfl (lv_at hl 4 rfl) ?_
                refine lv_iconst (v := 1) hx hb d_md_exception_171 (by decide) ?_
                have hM1 := c_md_fails l G y th dn d np be sg nu bg nx fi le pl lf rt ln rw va ak 1 M (hw.sub (ws' := [(y, .inr (4, [.int (nI th), .int (nI dn), .ref d, .int (nI np), .ref be, .ref sg, .ref nu, .int (nI bg), .int (nI nx), .ref fi, .ref le, .ref pl, .int (nI lf), .int (nI rt), .int (nI ln), .ref rw, .ref va, .int (bI ak)]))]) [0] rfl rfl) H.size
                have hG1 : GoodIn w_md_exception (wsV R_md 69 R_md y_md_fails w_md_fails) := gB_V wm_446 wm_448 wp_11 wm_5 wm_449
                refine hm_call (va_runV (y := y_md_fails) (bytes := b_md_fails) (maxL := 2) (ws := w_md_fails) (rm := { frames := 0, cells := 0, slots := 0, locals := 0 }) (own := R_md) (index := 69) (ret := (Option.some Jvm.ClassFile.FieldType.int)) (C := R_md) (As := [.int 1]) (rest := []) E hM1 (cwV (y := y_md_fails) (bytes := b_md_fails) (maxL := 2) (ws := w_md_fails) (rm := { frames := 0, cells := 0, slots := 0, locals := 0 }) (own := R_md) (index := 69) (ret := (Option.some Jvm.ClassFile.FieldType.int)) (C := R_md) 1 hts hG1 rfl rfl rfl (by decide +kernel) ⟨Nat.le_of_ble_eq_true rfl, Nat.le_of_ble_eq_true rfl⟩) (hm_preV gk_w gk_s hH hg hK (hw.at 0 rfl) rfl [.int 1]) rfl rfl hl.1 rfl (lv_room (Nat.le_of_ble_eq_true rfl)) d_md_exception_172 ⟨(by show _ ≤ 0; omega), (by show _ ≤ 0; omega)⟩) hH (fun r1 M1 H1 locs1 hq1 hH1 => ?_)
                replace hH := hH1; clear hH1; generalize H1 = H at hH ⊢; generalize locs1 = locs at hH ⊢
                obtain ⟨rfl, hw1, hk1⟩ := hq1
                have hw := hm_join (ws' := [(y, .inr (4, [.int (nI 1), .int (nI 0), .ref d, .int (nI np), .ref be, .ref sg, .ref nu, .int (nI bg), .int (nI nx), .ref fi, .ref le, .ref pl, .int (nI lf), .int (nI rt), .int (nI ln), .ref rw, .ref va, .int (bI ak)])), (d, aI G 200 dr), (fi, aI G 2050 ff), (le, aI G 40000 f), (pl, aJ G 2048 fp)]) (wc := [(y, .inr (4, [.int (nI th), .int (nI dn), .ref d, .int (nI np), .ref be, .ref sg, .ref nu, .int (nI bg), .int (nI nx), .ref fi, .ref le, .ref pl, .int (nI lf), .int (nI rt), .int (nI ln), .ref rw, .ref va, .int (bI ak)]))]) hw hw1 hk1 [0] rfl rfl (fun a h => h) rfl (by
                  intro k9 h9
                  match k9, h9 with
                  | 0, _ => exact Or.inr ⟨0, rfl, rfl⟩
                  | 1, _ => exact Or.inl ⟨by decide, rfl⟩
                  | 2, _ => exact Or.inl ⟨by decide, rfl⟩
                  | 3, _ => exact Or.inl ⟨by decide, rfl⟩
                  | 4, _ => exact Or.inl ⟨by decide, rfl⟩
                  | k9 + 5, h9 => exact absurd h9 (Nat.not_lt_of_le (Nat.le_add_left _ _)))
                have hk := hk.tr hk1 (fun a h => by simp at h; subst h; simp)
                generalize M1 = M at hH hw hk
                exact hm_iret E hr hlk hH ((fun hno => ⟨f, hf0, fun z => absurd z hno, hk, Or.inl ⟨hno, rfl, hw⟩⟩) (fun z => by have h8 := (gx_ok.mp z).2; omega)) (by omega) (by omega) d_md_exception_175
        · skip
          have hxi := xz_le dr i
          refine lv_aload_n hx hb d_md_exception_30 rfl (lv_at hl 4 rfl) ?_
          refine hm_get E (tB in_md) hK hH (hw.at 0 rfl) rfl 2 (by decide) (tC wm_369) rfl d_md_exception_31 ?_
          refine lv_iload hx hb d_md_exception_34 (lv_at hl 0 rfl) ?_
          refine hm_iald E hK hH 0 (hw.at 1 rfl) rfl (i := i) (by omega) (by decide) d_md_exception_36 ?_
          have hM1 := c_md_isLetter l G (dr i) M (hby _) H.size
          have hG1 : GoodIn w_md_exception (wsS R_md 58 y_md_isLetter w_md_isLetter) := gB_S wm_440 wm_441 wm_5 wm_442
          refine hm_call (va_runS (y := y_md_isLetter) (bytes := b_md_isLetter) (maxL := 1) (ws := w_md_isLetter) (rm := { frames := 0, cells := 0, slots := 0, locals := 0 }) (own := R_md) (index := 58) (ret := (Option.some Jvm.ClassFile.FieldType.boolean)) (As := [.int (dr i)]) (rest := []) E hM1 (cwS (y := y_md_isLetter) (bytes := b_md_isLetter) (maxL := 1) (ws := w_md_isLetter) (rm := { frames := 0, cells := 0, slots := 0, locals := 0 }) (own := R_md) (index := 58) (ret := (Option.some Jvm.ClassFile.FieldType.boolean)) 1 hts hG1 rfl rfl rfl (by decide +kernel) ⟨Nat.le_of_ble_eq_true rfl, Nat.le_of_ble_eq_true rfl⟩) (hm_preS gk_w gk_s hH hg [.int (dr i)]) rfl rfl hl.1 rfl (lv_room (Nat.le_of_ble_eq_true rfl)) d_md_exception_37 ⟨(by show _ ≤ 0; omega), (by show _ ≤ 0; omega)⟩) hH (fun r1 M1 H1 locs1 hq1 hH1 => ?_)
          obtain ⟨rfl, e1⟩ := hq1
          replace hH := hH1; rw [e1] at hH; clear hH1 e1; generalize H1 = H at hH ⊢; generalize locs1 = locs at hH ⊢
          refine hb_if_eq (b := isL (dr i)) hx hb (tgt := 78) d_md_exception_40 (by decide) (fun h40 => ?_) (fun h40 => ?_)
          · skip
            refine lv_iload hx hb d_md_exception_78 (lv_at hl 1 rfl) ?_
            refine hb_if_eq (b := gxP dr dn i) hx hb (tgt := 129) d_md_exception_80 (by decide) (fun h80 => ?_) (fun h80 => ?_)
            · skip
              refine lv_iconst (v := 0) hx hb d_md_exception_129 (by decide) ?_
              refine lv_istore (lv' := [(4, .int 0), (5, .int (nI i)), (2, .long (cuX dr i)), (1, .int (nI (xz dr i))), (0, .ref y)]) hx hb d_md_exception_130 hl (by decide) rfl (fun ls hl => ?_)
              refine lv_iload_n hx hb d_md_exception_132 rfl (lv_at hl 3 rfl) ?_
              refine lv_bipush (v := 64) hx hb d_md_exception_133 (by decide) ?_
              refine hn_icmp_ge (a := xz dr i) (b := 64) hx hb (by omega) (by omega) (tgt := 146) d_md_exception_135 (by decide) (fun h135 => ?_) (fun h135 => ?_)
              · skip
                refine lv_lload_n hx hb d_md_exception_146 rfl (lv_at hl 2 rfl) ?_
                refine lv_lstore_n (lv' := [(2, .long (cuX dr i)), (4, .int 0), (5, .int (nI i)), (1, .int (nI (xz dr i))), (0, .ref y)]) hx hb d_md_exception_147 rfl hl (by decide) rfl (fun ls hl => ?_)
                refine lv_iinc (v := nI (i + 1)) (lv' := [(5, .int (nI (i + 1))), (2, .long (cuX dr i)), (4, .int 0), (1, .int (nI (xz dr i))), (0, .ref y)]) hx hb d_md_exception_148 hl (k := 2) rfl (by first | exact nI_add _ 1 | (show nI _ + nI _ = _; rw [nI_add])) (by decide) rfl (fun ls hl => ?_)
                refine lv_goto (tgt := 21) hx hb d_md_exception_151 (by decide) ?_
                exact ih (i + 1) f M _ _ _ (by omega) (by omega) hf0 (xl_h hf1 h40) hw hk hH (lv_cv (lv_sub hl [0, 2, 1, 3, 4] rfl) (by rw [cu_m h40 (by omega)]; simp [gxP, xz, bI_t, bI_f, h40, h80] <;> rfl))
              · skip
                refine lv_lload_n hx hb d_md_exception_138 rfl (lv_at hl 2 rfl) ?_
                refine lv_lconst (v := 1) hx hb d_md_exception_139 (by decide) ?_
                refine lv_iload_n hx hb d_md_exception_140 rfl (lv_at hl 3 rfl) ?_
                refine lv_lshl hx hb d_md_exception_141 rfl ?_
                refine lv_lor hx hb d_md_exception_142 ?_
                refine lv_goto (tgt := 147) hx hb d_md_exception_143 (by decide) ?_
                refine lv_lstore_n (lv' := [(2, .long ((cuX dr i) ||| (1 <<< ((nI (xz dr i)).toInt64 &&& 63)))), (4, .int 0), (5, .int (nI i)), (1, .int (nI (xz dr i))), (0, .ref y)]) hx hb d_md_exception_147 rfl hl (by decide) rfl (fun ls hl => ?_)
                refine lv_iinc (v := nI (i + 1)) (lv' := [(5, .int (nI (i + 1))), (2, .long ((cuX dr i) ||| (1 <<< ((nI (xz dr i)).toInt64 &&& 63)))), (4, .int 0), (1, .int (nI (xz dr i))), (0, .ref y)]) hx hb d_md_exception_148 hl (k := 2) rfl (by first | exact nI_add _ 1 | (show nI _ + nI _ = _; rw [nI_add])) (by decide) rfl (fun ls hl => ?_)
                refine lv_goto (tgt := 21) hx hb d_md_exception_151 (by decide) ?_
                exact ih (i + 1) f M _ _ _ (by omega) (by omega) hf0 (xl_h hf1 h40) hw hk hH (lv_cv (lv_sub hl [0, 2, 1, 3, 4] rfl) (by rw [cu_h h40 (by omega)]; simp [gxP, xz, bI_t, bI_f, h40, h80] <;> rfl))
            · skip
              refine lv_aload_n hx hb d_md_exception_83 rfl (lv_at hl 4 rfl) ?_
              refine hm_get E (tB in_md) hK hH (hw.at 0 rfl) rfl 2 (by decide) (tC wm_369) rfl d_md_exception_84 ?_
              refine lv_iload hx hb d_md_exception_87 (lv_at hl 0 rfl) ?_
              refine hm_iald E hK hH 0 (hw.at 1 rfl) rfl (i := i) (by omega) (by decide) d_md_exception_89 ?_
              refine lv_bipush (v := 45) hx hb d_md_exception_90 (by decide) ?_
              refine hc_icmp_ne (x := dr i) (y := 45) (c9 := 45) hx hb (by decide) (tgt := 129) d_md_exception_92 (by decide) (fun h92 => ?_) (fun h92 => ?_)
              · skip
                refine lv_iconst (v := 0) hx hb d_md_exception_129 (by decide) ?_
                refine lv_istore (lv' := [(4, .int 0), (5, .int (nI i)), (2, .long (cuX dr i)), (1, .int (nI (xz dr i))), (0, .ref y)]) hx hb d_md_exception_130 hl (by decide) rfl (fun ls hl => ?_)
                refine lv_iload_n hx hb d_md_exception_132 rfl (lv_at hl 3 rfl) ?_
                refine lv_bipush (v := 64) hx hb d_md_exception_133 (by decide) ?_
                refine hn_icmp_ge (a := xz dr i) (b := 64) hx hb (by omega) (by omega) (tgt := 146) d_md_exception_135 (by decide) (fun h135 => ?_) (fun h135 => ?_)
                · skip
                  refine lv_lload_n hx hb d_md_exception_146 rfl (lv_at hl 2 rfl) ?_
                  refine lv_lstore_n (lv' := [(2, .long (cuX dr i)), (4, .int 0), (5, .int (nI i)), (1, .int (nI (xz dr i))), (0, .ref y)]) hx hb d_md_exception_147 rfl hl (by decide) rfl (fun ls hl => ?_)
                  refine lv_iinc (v := nI (i + 1)) (lv' := [(5, .int (nI (i + 1))), (2, .long (cuX dr i)), (4, .int 0), (1, .int (nI (xz dr i))), (0, .ref y)]) hx hb d_md_exception_148 hl (k := 2) rfl (by first | exact nI_add _ 1 | (show nI _ + nI _ = _; rw [nI_add])) (by decide) rfl (fun ls hl => ?_)
                  refine lv_goto (tgt := 21) hx hb d_md_exception_151 (by decide) ?_
                  exact ih (i + 1) f M _ _ _ (by omega) (by omega) hf0 (xl_h hf1 h40) hw hk hH (lv_cv (lv_sub hl [0, 2, 1, 3, 4] rfl) (by rw [cu_m h40 (by omega)]; simp [gxP, xz, bI_t, bI_f, h40, h80, h92] <;> rfl))
                · skip
                  refine lv_lload_n hx hb d_md_exception_138 rfl (lv_at hl 2 rfl) ?_
                  refine lv_lconst (v := 1) hx hb d_md_exception_139 (by decide) ?_
                  refine lv_iload_n hx hb d_md_exception_140 rfl (lv_at hl 3 rfl) ?_
                  refine lv_lshl hx hb d_md_exception_141 rfl ?_
                  refine lv_lor hx hb d_md_exception_142 ?_
                  refine lv_goto (tgt := 147) hx hb d_md_exception_143 (by decide) ?_
                  refine lv_lstore_n (lv' := [(2, .long ((cuX dr i) ||| (1 <<< ((nI (xz dr i)).toInt64 &&& 63)))), (4, .int 0), (5, .int (nI i)), (1, .int (nI (xz dr i))), (0, .ref y)]) hx hb d_md_exception_147 rfl hl (by decide) rfl (fun ls hl => ?_)
                  refine lv_iinc (v := nI (i + 1)) (lv' := [(5, .int (nI (i + 1))), (2, .long ((cuX dr i) ||| (1 <<< ((nI (xz dr i)).toInt64 &&& 63)))), (4, .int 0), (1, .int (nI (xz dr i))), (0, .ref y)]) hx hb d_md_exception_148 hl (k := 2) rfl (by first | exact nI_add _ 1 | (show nI _ + nI _ = _; rw [nI_add])) (by decide) rfl (fun ls hl => ?_)
                  refine lv_goto (tgt := 21) hx hb d_md_exception_151 (by decide) ?_
                  exact ih (i + 1) f M _ _ _ (by omega) (by omega) hf0 (xl_h hf1 h40) hw hk hH (lv_cv (lv_sub hl [0, 2, 1, 3, 4] rfl) (by rw [cu_h h40 (by omega)]; simp [gxP, xz, bI_t, bI_f, h40, h80, h92] <;> rfl))
              · skip
                refine lv_iload hx hb d_md_exception_95 (lv_at hl 0 rfl) ?_
                refine hn_if_le (a := i) hx hb (by omega) (tgt := 129) d_md_exception_97 (by decide) (fun h97 => ?_) (fun h97 => ?_)
                · skip
                  have h97 : ¬ 0 < i := by omega
                  refine lv_iconst (v := 0) hx hb d_md_exception_129 (by decide) ?_
                  refine lv_istore (lv' := [(4, .int 0), (5, .int (nI i)), (2, .long (cuX dr i)), (1, .int (nI (xz dr i))), (0, .ref y)]) hx hb d_md_exception_130 hl (by decide) rfl (fun ls hl => ?_)
                  refine lv_iload_n hx hb d_md_exception_132 rfl (lv_at hl 3 rfl) ?_
                  refine lv_bipush (v := 64) hx hb d_md_exception_133 (by decide) ?_
                  refine hn_icmp_ge (a := xz dr i) (b := 64) hx hb (by omega) (by omega) (tgt := 146) d_md_exception_135 (by decide) (fun h135 => ?_) (fun h135 => ?_)
                  · skip
                    refine lv_lload_n hx hb d_md_exception_146 rfl (lv_at hl 2 rfl) ?_
                    refine lv_lstore_n (lv' := [(2, .long (cuX dr i)), (4, .int 0), (5, .int (nI i)), (1, .int (nI (xz dr i))), (0, .ref y)]) hx hb d_md_exception_147 rfl hl (by decide) rfl (fun ls hl => ?_)
                    refine lv_iinc (v := nI (i + 1)) (lv' := [(5, .int (nI (i + 1))), (2, .long (cuX dr i)), (4, .int 0), (1, .int (nI (xz dr i))), (0, .ref y)]) hx hb d_md_exception_148 hl (k := 2) rfl (by first | exact nI_add _ 1 | (show nI _ + nI _ = _; rw [nI_add])) (by decide) rfl (fun ls hl => ?_)
                    refine lv_goto (tgt := 21) hx hb d_md_exception_151 (by decide) ?_
                    exact ih (i + 1) f M _ _ _ (by omega) (by omega) hf0 (xl_h hf1 h40) hw hk hH (lv_cv (lv_sub hl [0, 2, 1, 3, 4] rfl) (by rw [cu_m h40 (by omega)]; simp [gxP, xz, bI_t, bI_f, h40, h80, h92, h97] <;> rfl))
                  · skip
                    refine lv_lload_n hx hb d_md_exception_138 rfl (lv_at hl 2 rfl) ?_
                    refine lv_lconst (v := 1) hx hb d_md_exception_139 (by decide) ?_
                    refine lv_iload_n hx hb d_md_exception_140 rfl (lv_at hl 3 rfl) ?_
                    refine lv_lshl hx hb d_md_exception_141 rfl ?_
                    refine lv_lor hx hb d_md_exception_142 ?_
                    refine lv_goto (tgt := 147) hx hb d_md_exception_143 (by decide) ?_
                    refine lv_lstore_n (lv' := [(2, .long ((cuX dr i) ||| (1 <<< ((nI (xz dr i)).toInt64 &&& 63)))), (4, .int 0), (5, .int (nI i)), (1, .int (nI (xz dr i))), (0, .ref y)]) hx hb d_md_exception_147 rfl hl (by decide) rfl (fun ls hl => ?_)
                    refine lv_iinc (v := nI (i + 1)) (lv' := [(5, .int (nI (i + 1))), (2, .long ((cuX dr i) ||| (1 <<< ((nI (xz dr i)).toInt64 &&& 63)))), (4, .int 0), (1, .int (nI (xz dr i))), (0, .ref y)]) hx hb d_md_exception_148 hl (k := 2) rfl (by first | exact nI_add _ 1 | (show nI _ + nI _ = _; rw [nI_add])) (by decide) rfl (fun ls hl => ?_)
                    refine lv_goto (tgt := 21) hx hb d_md_exception_151 (by decide) ?_
                    exact ih (i + 1) f M _ _ _ (by omega) (by omega) hf0 (xl_h hf1 h40) hw hk hH (lv_cv (lv_sub hl [0, 2, 1, 3, 4] rfl) (by rw [cu_h h40 (by omega)]; simp [gxP, xz, bI_t, bI_f, h40, h80, h92, h97] <;> rfl))
                · skip
                  have h97 : 0 < i := by omega
                  refine lv_iload hx hb d_md_exception_100 (lv_at hl 0 rfl) ?_
                  refine lv_iconst (v := 1) hx hb d_md_exception_102 (by decide) ?_
                  refine hn_iadd hx hb (a := i) (b := 1) d_md_exception_103 ?_
                  refine lv_aload_n hx hb d_md_exception_104 rfl (lv_at hl 4 rfl) ?_
                  refine hm_get E (tB in_md) hK hH (hw.at 0 rfl) rfl 1 (by decide) (tC wm_368) rfl d_md_exception_105 ?_
                  refine hn_icmp_ge (a := i + 1) (b := dn) hx hb (by omega) (by omega) (tgt := 129) d_md_exception_108 (by decide) (fun h108 => ?_) (fun h108 => ?_)
                  · skip
                    have h108 : ¬ i + 1 < dn := by omega
                    refine lv_iconst (v := 0) hx hb d_md_exception_129 (by decide) ?_
                    refine lv_istore (lv' := [(4, .int 0), (5, .int (nI i)), (2, .long (cuX dr i)), (1, .int (nI (xz dr i))), (0, .ref y)]) hx hb d_md_exception_130 hl (by decide) rfl (fun ls hl => ?_)
                    refine lv_iload_n hx hb d_md_exception_132 rfl (lv_at hl 3 rfl) ?_
                    refine lv_bipush (v := 64) hx hb d_md_exception_133 (by decide) ?_
                    refine hn_icmp_ge (a := xz dr i) (b := 64) hx hb (by omega) (by omega) (tgt := 146) d_md_exception_135 (by decide) (fun h135 => ?_) (fun h135 => ?_)
                    · skip
                      refine lv_lload_n hx hb d_md_exception_146 rfl (lv_at hl 2 rfl) ?_
                      refine lv_lstore_n (lv' := [(2, .long (cuX dr i)), (4, .int 0), (5, .int (nI i)), (1, .int (nI (xz dr i))), (0, .ref y)]) hx hb d_md_exception_147 rfl hl (by decide) rfl (fun ls hl => ?_)
                      refine lv_iinc (v := nI (i + 1)) (lv' := [(5, .int (nI (i + 1))), (2, .long (cuX dr i)), (4, .int 0), (1, .int (nI (xz dr i))), (0, .ref y)]) hx hb d_md_exception_148 hl (k := 2) rfl (by first | exact nI_add _ 1 | (show nI _ + nI _ = _; rw [nI_add])) (by decide) rfl (fun ls hl => ?_)
                      refine lv_goto (tgt := 21) hx hb d_md_exception_151 (by decide) ?_
                      exact ih (i + 1) f M _ _ _ (by omega) (by omega) hf0 (xl_h hf1 h40) hw hk hH (lv_cv (lv_sub hl [0, 2, 1, 3, 4] rfl) (by rw [cu_m h40 (by omega)]; simp [gxP, xz, bI_t, bI_f, h40, h80, h92, h97, h108] <;> rfl))
                    · skip
                      refine lv_lload_n hx hb d_md_exception_138 rfl (lv_at hl 2 rfl) ?_
                      refine lv_lconst (v := 1) hx hb d_md_exception_139 (by decide) ?_
                      refine lv_iload_n hx hb d_md_exception_140 rfl (lv_at hl 3 rfl) ?_
                      refine lv_lshl hx hb d_md_exception_141 rfl ?_
                      refine lv_lor hx hb d_md_exception_142 ?_
                      refine lv_goto (tgt := 147) hx hb d_md_exception_143 (by decide) ?_
                      refine lv_lstore_n (lv' := [(2, .long ((cuX dr i) ||| (1 <<< ((nI (xz dr i)).toInt64 &&& 63)))), (4, .int 0), (5, .int (nI i)), (1, .int (nI (xz dr i))), (0, .ref y)]) hx hb d_md_exception_147 rfl hl (by decide) rfl (fun ls hl => ?_)
                      refine lv_iinc (v := nI (i + 1)) (lv' := [(5, .int (nI (i + 1))), (2, .long ((cuX dr i) ||| (1 <<< ((nI (xz dr i)).toInt64 &&& 63)))), (4, .int 0), (1, .int (nI (xz dr i))), (0, .ref y)]) hx hb d_md_exception_148 hl (k := 2) rfl (by first | exact nI_add _ 1 | (show nI _ + nI _ = _; rw [nI_add])) (by decide) rfl (fun ls hl => ?_)
                      refine lv_goto (tgt := 21) hx hb d_md_exception_151 (by decide) ?_
                      exact ih (i + 1) f M _ _ _ (by omega) (by omega) hf0 (xl_h hf1 h40) hw hk hH (lv_cv (lv_sub hl [0, 2, 1, 3, 4] rfl) (by rw [cu_h h40 (by omega)]; simp [gxP, xz, bI_t, bI_f, h40, h80, h92, h97, h108] <;> rfl))
                  · skip
                    refine lv_aload_n hx hb d_md_exception_111 rfl (lv_at hl 4 rfl) ?_
                    refine hm_get E (tB in_md) hK hH (hw.at 0 rfl) rfl 2 (by decide) (tC wm_369) rfl d_md_exception_112 ?_
                    refine lv_iload hx hb d_md_exception_115 (lv_at hl 0 rfl) ?_
                    refine lv_iconst (v := 1) hx hb d_md_exception_117 (by decide) ?_
                    refine hn_isub hx hb (a := i) (b := 1) (by omega) d_md_exception_118 ?_
                    refine hm_iald E hK hH 0 (hw.at 1 rfl) rfl (i := i - 1) (by omega) (by decide) d_md_exception_119 ?_
                    refine lv_bipush (v := 45) hx hb d_md_exception_120 (by decide) ?_
                    refine hc_icmp_eq (x := dr (i - 1)) (y := 45) (c9 := 45) hx hb (by decide) (tgt := 129) d_md_exception_122 (by decide) (fun h122 => ?_) (fun h122 => ?_)
                    · skip
                      refine lv_iconst (v := 0) hx hb d_md_exception_129 (by decide) ?_
                      refine lv_istore (lv' := [(4, .int 0), (5, .int (nI i)), (2, .long (cuX dr i)), (1, .int (nI (xz dr i))), (0, .ref y)]) hx hb d_md_exception_130 hl (by decide) rfl (fun ls hl => ?_)
                      refine lv_iload_n hx hb d_md_exception_132 rfl (lv_at hl 3 rfl) ?_
                      refine lv_bipush (v := 64) hx hb d_md_exception_133 (by decide) ?_
                      refine hn_icmp_ge (a := xz dr i) (b := 64) hx hb (by omega) (by omega) (tgt := 146) d_md_exception_135 (by decide) (fun h135 => ?_) (fun h135 => ?_)
                      · skip
                        refine lv_lload_n hx hb d_md_exception_146 rfl (lv_at hl 2 rfl) ?_
                        refine lv_lstore_n (lv' := [(2, .long (cuX dr i)), (4, .int 0), (5, .int (nI i)), (1, .int (nI (xz dr i))), (0, .ref y)]) hx hb d_md_exception_147 rfl hl (by decide) rfl (fun ls hl => ?_)
                        refine lv_iinc (v := nI (i + 1)) (lv' := [(5, .int (nI (i + 1))), (2, .long (cuX dr i)), (4, .int 0), (1, .int (nI (xz dr i))), (0, .ref y)]) hx hb d_md_exception_148 hl (k := 2) rfl (by first | exact nI_add _ 1 | (show nI _ + nI _ = _; rw [nI_add])) (by decide) rfl (fun ls hl => ?_)
                        refine lv_goto (tgt := 21) hx hb d_md_exception_151 (by decide) ?_
                        exact ih (i + 1) f M _ _ _ (by omega) (by omega) hf0 (xl_h hf1 h40) hw hk hH (lv_cv (lv_sub hl [0, 2, 1, 3, 4] rfl) (by rw [cu_m h40 (by omega)]; simp [gxP, xz, bI_t, bI_f, h40, h80, h92, h97, h108, h122] <;> rfl))
                      · skip
                        refine lv_lload_n hx hb d_md_exception_138 rfl (lv_at hl 2 rfl) ?_
                        refine lv_lconst (v := 1) hx hb d_md_exception_139 (by decide) ?_
                        refine lv_iload_n hx hb d_md_exception_140 rfl (lv_at hl 3 rfl) ?_
                        refine lv_lshl hx hb d_md_exception_141 rfl ?_
                        refine lv_lor hx hb d_md_exception_142 ?_
                        refine lv_goto (tgt := 147) hx hb d_md_exception_143 (by decide) ?_
                        refine lv_lstore_n (lv' := [(2, .long ((cuX dr i) ||| (1 <<< ((nI (xz dr i)).toInt64 &&& 63)))), (4, .int 0), (5, .int (nI i)), (1, .int (nI (xz dr i))), (0, .ref y)]) hx hb d_md_exception_147 rfl hl (by decide) rfl (fun ls hl => ?_)
                        refine lv_iinc (v := nI (i + 1)) (lv' := [(5, .int (nI (i + 1))), (2, .long ((cuX dr i) ||| (1 <<< ((nI (xz dr i)).toInt64 &&& 63)))), (4, .int 0), (1, .int (nI (xz dr i))), (0, .ref y)]) hx hb d_md_exception_148 hl (k := 2) rfl (by first | exact nI_add _ 1 | (show nI _ + nI _ = _; rw [nI_add])) (by decide) rfl (fun ls hl => ?_)
                        refine lv_goto (tgt := 21) hx hb d_md_exception_151 (by decide) ?_
                        exact ih (i + 1) f M _ _ _ (by omega) (by omega) hf0 (xl_h hf1 h40) hw hk hH (lv_cv (lv_sub hl [0, 2, 1, 3, 4] rfl) (by rw [cu_h h40 (by omega)]; simp [gxP, xz, bI_t, bI_f, h40, h80, h92, h97, h108, h122] <;> rfl))
                    · skip
                      refine lv_iconst (v := 1) hx hb d_md_exception_125 (by decide) ?_
                      refine lv_goto (tgt := 130) hx hb d_md_exception_126 (by decide) ?_
                      refine lv_istore (lv' := [(4, .int 1), (5, .int (nI i)), (2, .long (cuX dr i)), (1, .int (nI (xz dr i))), (0, .ref y)]) hx hb d_md_exception_130 hl (by decide) rfl (fun ls hl => ?_)
                      refine lv_iload_n hx hb d_md_exception_132 rfl (lv_at hl 3 rfl) ?_
                      refine lv_bipush (v := 64) hx hb d_md_exception_133 (by decide) ?_
                      refine hn_icmp_ge (a := xz dr i) (b := 64) hx hb (by omega) (by omega) (tgt := 146) d_md_exception_135 (by decide) (fun h135 => ?_) (fun h135 => ?_)
                      · skip
                        refine lv_lload_n hx hb d_md_exception_146 rfl (lv_at hl 2 rfl) ?_
                        refine lv_lstore_n (lv' := [(2, .long (cuX dr i)), (4, .int 1), (5, .int (nI i)), (1, .int (nI (xz dr i))), (0, .ref y)]) hx hb d_md_exception_147 rfl hl (by decide) rfl (fun ls hl => ?_)
                        refine lv_iinc (v := nI (i + 1)) (lv' := [(5, .int (nI (i + 1))), (2, .long (cuX dr i)), (4, .int 1), (1, .int (nI (xz dr i))), (0, .ref y)]) hx hb d_md_exception_148 hl (k := 2) rfl (by first | exact nI_add _ 1 | (show nI _ + nI _ = _; rw [nI_add])) (by decide) rfl (fun ls hl => ?_)
                        refine lv_goto (tgt := 21) hx hb d_md_exception_151 (by decide) ?_
                        exact ih (i + 1) f M _ _ _ (by omega) (by omega) hf0 (xl_h hf1 h40) hw hk hH (lv_cv (lv_sub hl [0, 2, 1, 3, 4] rfl) (by rw [cu_m h40 (by omega)]; simp [gxP, xz, bI_t, bI_f, h40, h80, h92, h97, h108, h122] <;> rfl))
                      · skip
                        refine lv_lload_n hx hb d_md_exception_138 rfl (lv_at hl 2 rfl) ?_
                        refine lv_lconst (v := 1) hx hb d_md_exception_139 (by decide) ?_
                        refine lv_iload_n hx hb d_md_exception_140 rfl (lv_at hl 3 rfl) ?_
                        refine lv_lshl hx hb d_md_exception_141 rfl ?_
                        refine lv_lor hx hb d_md_exception_142 ?_
                        refine lv_goto (tgt := 147) hx hb d_md_exception_143 (by decide) ?_
                        refine lv_lstore_n (lv' := [(2, .long ((cuX dr i) ||| (1 <<< ((nI (xz dr i)).toInt64 &&& 63)))), (4, .int 1), (5, .int (nI i)), (1, .int (nI (xz dr i))), (0, .ref y)]) hx hb d_md_exception_147 rfl hl (by decide) rfl (fun ls hl => ?_)
                        refine lv_iinc (v := nI (i + 1)) (lv' := [(5, .int (nI (i + 1))), (2, .long ((cuX dr i) ||| (1 <<< ((nI (xz dr i)).toInt64 &&& 63)))), (4, .int 1), (1, .int (nI (xz dr i))), (0, .ref y)]) hx hb d_md_exception_148 hl (k := 2) rfl (by first | exact nI_add _ 1 | (show nI _ + nI _ = _; rw [nI_add])) (by decide) rfl (fun ls hl => ?_)
                        refine lv_goto (tgt := 21) hx hb d_md_exception_151 (by decide) ?_
                        exact ih (i + 1) f M _ _ _ (by omega) (by omega) hf0 (xl_h hf1 h40) hw hk hH (lv_cv (lv_sub hl [0, 2, 1, 3, 4] rfl) (by rw [cu_h h40 (by omega)]; simp [gxP, xz, bI_t, bI_f, h40, h80, h92, h97, h108, h122] <;> rfl))
          · skip
            refine lv_iload_n hx hb d_md_exception_43 rfl (lv_at hl 3 rfl) ?_
            refine lv_bipush (v := 64) hx hb d_md_exception_44 (by decide) ?_
            refine hn_icmp_ge (a := xz dr i) (b := 64) hx hb (by omega) (by omega) (tgt := 72) d_md_exception_46 (by decide) (fun h46 => ?_) (fun h46 => ?_)
            · skip
              refine lv_iinc (v := nI (xz dr i + 1)) (lv' := [(1, .int (nI (xz dr i + 1))), (5, .int (nI i)), (4, .int (bI (gxP dr dn i))), (2, .long (cuX dr i)), (0, .ref y)]) hx hb d_md_exception_72 hl (k := 3) rfl (by first | exact nI_add _ 1 | (show nI _ + nI _ = _; rw [nI_add])) (by decide) rfl (fun ls hl => ?_)
              refine lv_goto (tgt := 148) hx hb d_md_exception_75 (by decide) ?_
              refine lv_iinc (v := nI (i + 1)) (lv' := [(5, .int (nI (i + 1))), (1, .int (nI (xz dr i + 1))), (4, .int (bI (gxP dr dn i))), (2, .long (cuX dr i)), (0, .ref y)]) hx hb d_md_exception_148 hl (k := 1) rfl (by first | exact nI_add _ 1 | (show nI _ + nI _ = _; rw [nI_add])) (by decide) rfl (fun ls hl => ?_)
              refine lv_goto (tgt := 21) hx hb d_md_exception_151 (by decide) ?_
              exact ih (i + 1) f M _ _ _ (by omega) (by omega) hf0 (xl_n hf1 h40 h46) hw hk hH (lv_cv (lv_sub hl [0, 2, 3, 1, 4] rfl) (by rw [cu_l h40]; simp [gxP, xz, h40] <;> rfl))
            · skip
              refine lv_aload_n hx hb d_md_exception_49 rfl (lv_at hl 4 rfl) ?_
              refine hm_get E (tB in_md) hK hH (hw.at 0 rfl) rfl 10 (by decide) (tC wm_377) rfl d_md_exception_50 ?_
              refine lv_aload_n hx hb d_md_exception_53 rfl (lv_at hl 4 rfl) ?_
              refine hm_get E (tB in_md) hK hH (hw.at 0 rfl) rfl 9 (by decide) (tC wm_376) rfl d_md_exception_54 ?_
              refine lv_aload_n hx hb d_md_exception_57 rfl (lv_at hl 4 rfl) ?_
              refine hm_get E (tB in_md) hK hH (hw.at 0 rfl) rfl 8 (by decide) (tC wm_375) rfl d_md_exception_58 ?_
              refine hm_iald E hK hH 0 (hw.at 2 rfl) rfl (i := nx) (by omega) (by decide) d_md_exception_61 ?_
              refine hm_top (w := .int (nI (o nx))) (by rw [hff nx (Nat.le_refl _)]) ?_
              refine lv_iload_n hx hb d_md_exception_62 rfl (lv_at hl 3 rfl) ?_
              refine hn_iadd hx hb (a := o nx) (b := xz dr i) d_md_exception_63 ?_
              refine lv_aload_n hx hb d_md_exception_64 rfl (lv_at hl 4 rfl) ?_
              refine hm_get E (tB in_md) hK hH (hw.at 0 rfl) rfl 2 (by decide) (tC wm_369) rfl d_md_exception_65 ?_
              refine lv_iload hx hb d_md_exception_68 (lv_at hl 0 rfl) ?_
              refine hm_iald E hK hH 0 (hw.at 1 rfl) rfl (i := i) (by omega) (by decide) d_md_exception_70 ?_
              refine hm_iast E hK hH 0 (hw.at 3 rfl) rfl (i := o nx + (xz dr i)) (by omega) (by decide) d_md_exception_71 (fun H locs hH => ?_)
              have hw := hw.set (ws' := [(y, .inr (4, [.int (nI th), .int (nI dn), .ref d, .int (nI np), .ref be, .ref sg, .ref nu, .int (nI bg), .int (nI nx), .ref fi, .ref le, .ref pl, .int (nI lf), .int (nI rt), .int (nI ln), .ref rw, .ref va, .int (bI ak)])), (d, aI G 200 dr), (fi, aI G 2050 ff), (le, aI G 40000 (upd f (o nx + (xz dr i)) (dr i))), (pl, aJ G 2048 fp)]) (k := 3) rfl rfl
              have hk := hk.wr (a := le) (v := some (aI G 40000 (upd f (o nx + (xz dr i)) (dr i)))) (by first | (right; assumption) | (left; simp; done))
              generalize va_up M le (some (aI G 40000 (upd f (o nx + (xz dr i)) (dr i)))) = M at hH hw hk ⊢
              refine lv_iinc (v := nI (xz dr i + 1)) (lv' := [(1, .int (nI (xz dr i + 1))), (5, .int (nI i)), (4, .int (bI (gxP dr dn i))), (2, .long (cuX dr i)), (0, .ref y)]) hx hb d_md_exception_72 hl (k := 3) rfl (by first | exact nI_add _ 1 | (show nI _ + nI _ = _; rw [nI_add])) (by decide) rfl (fun ls hl => ?_)
              refine lv_goto (tgt := 148) hx hb d_md_exception_75 (by decide) ?_
              refine lv_iinc (v := nI (i + 1)) (lv' := [(5, .int (nI (i + 1))), (1, .int (nI (xz dr i + 1))), (4, .int (bI (gxP dr dn i))), (2, .long (cuX dr i)), (0, .ref y)]) hx hb d_md_exception_148 hl (k := 1) rfl (by first | exact nI_add _ 1 | (show nI _ + nI _ = _; rw [nI_add])) (by decide) rfl (fun ls hl => ?_)
              refine lv_goto (tgt := 21) hx hb d_md_exception_151 (by decide) ?_
              exact ih (i + 1) (upd f (o nx + (xz dr i)) (dr i)) M _ _ _ (by omega) (by omega) (bl_upd hf0 (by omega)) (xl_w hf1 h40) hw hk hH (lv_cv (lv_sub hl [0, 2, 3, 1, 4] rfl) (by rw [cu_l h40]; simp [gxP, xz, h40] <;> rfl))
    exact L21 (dn + 1) 0 fl M _ _ _ (by omega) (by omega) (fun _ _ => rfl) (fun j hj => absurd hj (by simp [xz])) hw hk hH (lv_cv (lv_sub hl [0, 1, 2, 3, 4] rfl) (by simp [gxP, bI_t, bI_f, xz, cuX, show ¬ 0 < dn by omega] <;> rfl))
  · skip
    refine lv_iconst (v := 1) hx hb d_md_exception_11 (by decide) ?_
    refine lv_goto (tgt := 16) hx hb d_md_exception_12 (by decide) ?_
    refine lv_istore (lv' := [(4, .int 1), (2, .long 0), (1, .int 0), (0, .ref y)]) hx hb d_md_exception_16 hl (by decide) rfl (fun ls hl => ?_)
    refine lv_iconst (v := 0) hx hb d_md_exception_18 (by decide) ?_
    refine lv_istore (lv' := [(5, .int 0), (4, .int 1), (2, .long 0), (1, .int 0), (0, .ref y)]) hx hb d_md_exception_19 hl (by decide) rfl (fun ls hl => ?_)
    have L21 : ∀ (k : Nat) (i : Nat) (f : Nat → Int32) (M : hM) (H : Heap) (locs : List Loc) (ls : Array Slot), dn + 1 ≤ i + k → i ≤ dn → (∀ j, j < o nx → f j = fl j) → xlF dr i (o nx) f → hm_has M [(y, .inr (4, [.int (nI th), .int (nI dn), .ref d, .int (nI np), .ref be, .ref sg, .ref nu, .int (nI bg), .int (nI nx), .ref fi, .ref le, .ref pl, .int (nI lf), .int (nI rt), .int (nI ln), .ref rw, .ref va, .int (bI ak)])), (d, aI G 200 dr), (fi, aI G 2050 ff), (le, aI G 40000 f), (pl, aJ G 2048 fp)] → hm_kp (fun a => a ∈ [y, fi, le, pl]) M0 M → hm_I G.1 vwC A s.heap M H locs → lv_has ls 6 [(5, .int (nI i)), (4, .int (bI (gxP dr dn i))), (2, .long (cuX dr i)), (1, .int (nI (xz dr i))), (0, .ref y)] → W p l e { frames := 1, cells := 0, slots := 0, locals := 24 } s m ([.ref y] : List Value).toArray below meth c H locs 0 0 (MQ below (hm_Q G.1 vwC (q_md_exception G y th dn d np be sg nu bg nx fi le pl lf rt ln rw va ak dr ff fl fp o M0) A) ([.ref y] : List Value).toArray s 0 0 A) (F0 m 21 ls []) := by
      intro k
      induction k with
      | zero => intro i f M H locs ls hfu hi hf0 hf1; exact absurd hfu (by omega)
      | succ k ih =>
        intro i f M H locs ls hfu hi hf0 hf1 hw hk hH hl
        refine lv_iload hx hb d_md_exception_21 (lv_at hl 0 rfl) ?_
        refine lv_aload_n hx hb d_md_exception_23 rfl (lv_at hl 4 rfl) ?_
        refine hm_get E (tB in_md) hK hH (hw.at 0 rfl) rfl 1 (by decide) (tC wm_368) rfl d_md_exception_24 ?_
        refine hn_icmp_ge (a := i) (b := dn) hx hb (by omega) (by omega) (tgt := 154) d_md_exception_27 (by decide) (fun h27 => ?_) (fun h27 => ?_)
        · skip
          have hie : i = dn := by omega
          rw [hie] at hl hf1
          have hxn := xz_le dr dn
          refine lv_iload hx hb d_md_exception_154 (lv_at hl 1 rfl) ?_
          refine hb_if_eq (b := gxP dr dn dn) hx hb (tgt := 170) d_md_exception_156 (by decide) (fun h156 => ?_) (fun h156 => ?_)
          · skip
            refine lv_aload_n hx hb d_md_exception_170 rfl (lv_at hl 4 rfl) ?_
            refine lv_iconst (v := 1) hx hb d_md_exception_171 (by decide) ?_
            have hM1 := c_md_fails l G y th dn d np be sg nu bg nx fi le pl lf rt ln rw va ak 1 M (hw.sub (ws' := [(y, .inr (4, [.int (nI th), .int (nI dn), .ref d, .int (nI np), .ref be, .ref sg, .ref nu, .int (nI bg), .int (nI nx), .ref fi, .ref le, .ref pl, .int (nI lf), .int (nI rt), .int (nI ln), .ref rw, .ref va, .int (bI ak)]))]) [0] rfl rfl) H.size
            have hG1 : GoodIn w_md_exception (wsV R_md 69 R_md y_md_fails w_md_fails) := gB_V wm_446 wm_448 wp_11 wm_5 wm_449
            refine hm_call (va_runV (y := y_md_fails) (bytes := b_md_fails) (maxL := 2) (ws := w_md_fails) (rm := { frames := 0, cells := 0, slots := 0, locals := 0 }) (own := R_md) (index := 69) (ret := (Option.some Jvm.ClassFile.FieldType.int)) (C := R_md) (As := [.int 1]) (rest := []) E hM1 (cwV (y := y_md_fails) (bytes := b_md_fails) (maxL := 2) (ws := w_md_fails) (rm := { frames := 0, cells := 0, slots := 0, locals := 0 }) (own := R_md) (index := 69) (ret := (Option.some Jvm.ClassFile.FieldType.int)) (C := R_md) 1 hts hG1 rfl rfl rfl (by decide +kernel) ⟨Nat.le_of_ble_eq_true rfl, Nat.le_of_ble_eq_true rfl⟩) (hm_preV gk_w gk_s hH hg hK (hw.at 0 rfl) rfl [.int 1]) rfl rfl hl.1 rfl (lv_room (Nat.le_of_ble_eq_true rfl)) d_md_exception_172 ⟨(by show _ ≤ 0; omega), (by show _ ≤ 0; omega)⟩) hH (fun r1 M1 H1 locs1 hq1 hH1 => ?_)
            replace hH := hH1; clear hH1; generalize H1 = H at hH ⊢; generalize locs1 = locs at hH ⊢
            obtain ⟨rfl, hw1, hk1⟩ := hq1
            have hw := hm_join (ws' := [(y, .inr (4, [.int (nI 1), .int (nI 0), .ref d, .int (nI np), .ref be, .ref sg, .ref nu, .int (nI bg), .int (nI nx), .ref fi, .ref le, .ref pl, .int (nI lf), .int (nI rt), .int (nI ln), .ref rw, .ref va, .int (bI ak)])), (d, aI G 200 dr), (fi, aI G 2050 ff), (le, aI G 40000 f), (pl, aJ G 2048 fp)]) (wc := [(y, .inr (4, [.int (nI th), .int (nI dn), .ref d, .int (nI np), .ref be, .ref sg, .ref nu, .int (nI bg), .int (nI nx), .ref fi, .ref le, .ref pl, .int (nI lf), .int (nI rt), .int (nI ln), .ref rw, .ref va, .int (bI ak)]))]) hw hw1 hk1 [0] rfl rfl (fun a h => h) rfl (by
              intro k9 h9
              match k9, h9 with
              | 0, _ => exact Or.inr ⟨0, rfl, rfl⟩
              | 1, _ => exact Or.inl ⟨by decide, rfl⟩
              | 2, _ => exact Or.inl ⟨by decide, rfl⟩
              | 3, _ => exact Or.inl ⟨by decide, rfl⟩
              | 4, _ => exact Or.inl ⟨by decide, rfl⟩
              | k9 + 5, h9 => exact absurd h9 (Nat.not_lt_of_le (Nat.le_add_left _ _)))
            have hk := hk.tr hk1 (fun a h => by simp at h; subst h; simp)
            generalize M1 = M at hH hw hk
            exact hm_iret E hr hlk hH ((fun hno => ⟨f, hf0, fun z => absurd z hno, hk, Or.inl ⟨hno, rfl, hw⟩⟩) (fun z => by have h8 := (gx_ok.mp z).1; rw [h156] at h8; cases h8)) (by omega) (by omega) d_md_exception_175
          · skip
            refine lv_iload_n hx hb d_md_exception_159 rfl (lv_at hl 3 rfl) ?_
            refine lv_iconst (v := 1) hx hb d_md_exception_160 (by decide) ?_
            refine hn_icmp_lt (a := xz dr dn) (b := 1) hx hb (by omega) (by omega) (tgt := 170) d_md_exception_161 (by decide) (fun h161 => ?_) (fun h161 => ?_)
            · skip
              refine lv_aload_n hx hb d_md_exception_170 rfl (lv_at hl 4 rfl) ?_
              refine lv_iconst (v := 1) hx hb d_md_exception_171 (by decide) ?_
              have hM1 := c_md_fails l G y th dn d np be sg nu bg nx fi le pl lf rt ln rw va ak 1 M (hw.sub (ws' := [(y, .inr (4, [.int (nI th), .int (nI dn), .ref d, .int (nI np), .ref be, .ref sg, .ref nu, .int (nI bg), .int (nI nx), .ref fi, .ref le, .ref pl, .int (nI lf), .int (nI rt), .int (nI ln), .ref rw, .ref va, .int (bI ak)]))]) [0] rfl rfl) H.size
              have hG1 : GoodIn w_md_exception (wsV R_md 69 R_md y_md_fails w_md_fails) := gB_V wm_446 wm_448 wp_11 wm_5 wm_449
              refine hm_call (va_runV (y := y_md_fails) (bytes := b_md_fails) (maxL := 2) (ws := w_md_fails) (rm := { frames := 0, cells := 0, slots := 0, locals := 0 }) (own := R_md) (index := 69) (ret := (Option.some Jvm.ClassFile.FieldType.int)) (C := R_md) (As := [.int 1]) (rest := []) E hM1 (cwV (y := y_md_fails) (bytes := b_md_fails) (maxL := 2) (ws := w_md_fails) (rm := { frames := 0, cells := 0, slots := 0, locals := 0 }) (own := R_md) (index := 69) (ret := (Option.some Jvm.ClassFile.FieldType.int)) (C := R_md) 1 hts hG1 rfl rfl rfl (by decide +kernel) ⟨Nat.le_of_ble_eq_true rfl, Nat.le_of_ble_eq_true rfl⟩) (hm_preV gk_w gk_s hH hg hK (hw.at 0 rfl) rfl [.int 1]) rfl rfl hl.1 rfl (lv_room (Nat.le_of_ble_eq_true rfl)) d_md_exception_172 ⟨(by show _ ≤ 0; omega), (by show _ ≤ 0; omega)⟩) hH (fun r1 M1 H1 locs1 hq1 hH1 => ?_)
              replace hH := hH1; clear hH1; generalize H1 = H at hH ⊢; generalize locs1 = locs at hH ⊢
              obtain ⟨rfl, hw1, hk1⟩ := hq1
              have hw := hm_join (ws' := [(y, .inr (4, [.int (nI 1), .int (nI 0), .ref d, .int (nI np), .ref be, .ref sg, .ref nu, .int (nI bg), .int (nI nx), .ref fi, .ref le, .ref pl, .int (nI lf), .int (nI rt), .int (nI ln), .ref rw, .ref va, .int (bI ak)])), (d, aI G 200 dr), (fi, aI G 2050 ff), (le, aI G 40000 f), (pl, aJ G 2048 fp)]) (wc := [(y, .inr (4, [.int (nI th), .int (nI dn), .ref d, .int (nI np), .ref be, .ref sg, .ref nu, .int (nI bg), .int (nI nx), .ref fi, .ref le, .ref pl, .int (nI lf), .int (nI rt), .int (nI ln), .ref rw, .ref va, .int (bI ak)]))]) hw hw1 hk1 [0] rfl rfl (fun a h => h) rfl (by
                intro k9 h9
                match k9, h9 with
                | 0, _ => exact Or.inr ⟨0, rfl, rfl⟩
                | 1, _ => exact Or.inl ⟨by decide, rfl⟩
                | 2, _ => exact Or.inl ⟨by decide, rfl⟩
                | 3, _ => exact Or.inl ⟨by decide, rfl⟩
                | 4, _ => exact Or.inl ⟨by decide, rfl⟩
                | k9 + 5, h9 => exact absurd h9 (Nat.not_lt_of_le (Nat.le_add_left _ _)))
              have hk := hk.tr hk1 (fun a h => by simp at h; subst h; simp)
              generalize M1 = M at hH hw hk
              exact hm_iret E hr hlk hH ((fun hno => ⟨f, hf0, fun z => absurd z hno, hk, Or.inl ⟨hno, rfl, hw⟩⟩) (fun z => by have h8 := (gx_ok.mp z).2; omega)) (by omega) (by omega) d_md_exception_175
            · skip
              refine lv_iload_n hx hb d_md_exception_164 rfl (lv_at hl 3 rfl) ?_
              refine lv_bipush (v := 63) hx hb d_md_exception_165 (by decide) ?_
              refine hn_icmp_le (a := xz dr dn) (b := 63) hx hb (by omega) (by omega) (tgt := 176) d_md_exception_167 (by decide) (fun h167 => ?_) (fun h167 => ?_)
              · skip
                have hok : xOk dr dn := gx_ok.mpr ⟨h156, by omega, by omega⟩
                have hcu := cu_end hok
                refine lv_aload_n hx hb d_md_exception_176 rfl (lv_at hl 4 rfl) ?_
                refine lv_iload_n hx hb d_md_exception_177 rfl (lv_at hl 3 rfl) ?_
                have hM1 := c_md_find l G y th dn d np be sg nu bg nx fi le pl lf rt ln rw va ak ff f o (xz dr dn) M (hw.sub (ws' := [(y, .inr (4, [.int (nI th), .int (nI dn), .ref d, .int (nI np), .ref be, .ref sg, .ref nu, .int (nI bg), .int (nI nx), .ref fi, .ref le, .ref pl, .int (nI lf), .int (nI rt), .int (nI ln), .ref rw, .ref va, .int (bI ak)])), (fi, aI G 2050 ff), (le, aI G 40000 f)]) [0, 2, 3] rfl rfl) hff hmo hle (by omega) (by omega) (by omega) H.size
                have hG1 : GoodIn w_md_exception (wsV R_md 84 R_md y_md_find w_md_find) := gB_V wm_459 wm_461 wp_13 wm_5 wm_462
                refine hm_call (va_runV (y := y_md_find) (bytes := b_md_find) (maxL := 5) (ws := w_md_find) (rm := { frames := 0, cells := 0, slots := 0, locals := 0 }) (own := R_md) (index := 84) (ret := (Option.some Jvm.ClassFile.FieldType.int)) (C := R_md) (As := [.int (nI (xz dr dn))]) (rest := []) E hM1 (cwV (y := y_md_find) (bytes := b_md_find) (maxL := 5) (ws := w_md_find) (rm := { frames := 0, cells := 0, slots := 0, locals := 0 }) (own := R_md) (index := 84) (ret := (Option.some Jvm.ClassFile.FieldType.int)) (C := R_md) 1 hts hG1 rfl rfl rfl (by decide +kernel) ⟨Nat.le_of_ble_eq_true rfl, Nat.le_of_ble_eq_true rfl⟩) (hm_preV gk_w gk_s hH hg hK (hw.at 0 rfl) rfl [.int (nI (xz dr dn))]) rfl rfl hl.1 rfl (lv_room (Nat.le_of_ble_eq_true rfl)) d_md_exception_178 ⟨(by show _ ≤ 0; omega), (by show _ ≤ 0; omega)⟩) hH (fun r1 M1 H1 locs1 hq1 hH1 => ?_)
                replace hH := hH1; clear hH1; generalize H1 = H at hH ⊢; generalize locs1 = locs at hH ⊢
                obtain ⟨e9, rfl, he9, hfd, hnf, e8⟩ := hq1
                rw [e8] at hH
                refine lv_istore (lv' := [(5, .int (nI e9)), (4, .int (bI (gxP dr dn dn))), (2, .long (cuX dr dn)), (1, .int (nI (xz dr dn))), (0, .ref y)]) hx hb d_md_exception_181 hl (by decide) rfl (fun ls hl => ?_)
                refine lv_iload hx hb d_md_exception_183 (lv_at hl 0 rfl) ?_
                refine lv_sipush (v := 2048) hx hb d_md_exception_185 (by decide) ?_
                refine hn_icmp_ne (a := e9) (b := 2048) hx hb (by omega) (by omega) (tgt := 197) d_md_exception_188 (by decide) (fun h188 => ?_) (fun h188 => ?_)
                · skip
                  refine lv_aload_n hx hb d_md_exception_197 rfl (lv_at hl 4 rfl) ?_
                  refine hm_get E (tB in_md) hK hH (hw.at 0 rfl) rfl 11 (by decide) (tC wm_378) rfl d_md_exception_198 ?_
                  refine lv_iload hx hb d_md_exception_201 (lv_at hl 0 rfl) ?_
                  refine lv_lload_n hx hb d_md_exception_203 rfl (lv_at hl 2 rfl) ?_
                  refine hm_last E hK hH 1 (hw.at 4 rfl) rfl (i := e9) (by omega) (by decide) d_md_exception_204 (fun H locs hH => ?_)
                  have hw := hw.set (ws' := [(y, .inr (4, [.int (nI th), .int (nI dn), .ref d, .int (nI np), .ref be, .ref sg, .ref nu, .int (nI bg), .int (nI nx), .ref fi, .ref le, .ref pl, .int (nI lf), .int (nI rt), .int (nI ln), .ref rw, .ref va, .int (bI ak)])), (d, aI G 200 dr), (fi, aI G 2050 ff), (le, aI G 40000 f), (pl, aJ G 2048 (vp_updL fp e9 (cuX dr dn)))]) (k := 4) rfl rfl
                  have hk := hk.wr (a := pl) (v := some (aJ G 2048 (vp_updL fp e9 (cuX dr dn)))) (by first | (right; assumption) | (left; simp; done))
                  generalize va_up M pl (some (aJ G 2048 (vp_updL fp e9 (cuX dr dn)))) = M at hH hw hk ⊢
                  refine lv_iload hx hb d_md_exception_205 (lv_at hl 0 rfl) ?_
                  refine lv_aload_n hx hb d_md_exception_207 rfl (lv_at hl 4 rfl) ?_
                  refine hm_get E (tB in_md) hK hH (hw.at 0 rfl) rfl 8 (by decide) (tC wm_375) rfl d_md_exception_208 ?_
                  refine hn_icmp_ne (a := e9) (b := nx) hx hb (by omega) (by omega) (tgt := 242) d_md_exception_211 (by decide) (fun h211 => ?_) (fun h211 => ?_)
                  · skip
                    refine lv_aload_n hx hb d_md_exception_242 rfl (lv_at hl 4 rfl) ?_
                    refine lv_iconst (v := 0) hx hb d_md_exception_243 (by decide) ?_
                    have hM1 := c_md_fails l G y th dn d np be sg nu bg nx fi le pl lf rt ln rw va ak 0 M (hw.sub (ws' := [(y, .inr (4, [.int (nI th), .int (nI dn), .ref d, .int (nI np), .ref be, .ref sg, .ref nu, .int (nI bg), .int (nI nx), .ref fi, .ref le, .ref pl, .int (nI lf), .int (nI rt), .int (nI ln), .ref rw, .ref va, .int (bI ak)]))]) [0] rfl rfl) H.size
                    have hG1 : GoodIn w_md_exception (wsV R_md 69 R_md y_md_fails w_md_fails) := gB_V wm_446 wm_448 wp_11 wm_5 wm_449
                    refine hm_call (va_runV (y := y_md_fails) (bytes := b_md_fails) (maxL := 2) (ws := w_md_fails) (rm := { frames := 0, cells := 0, slots := 0, locals := 0 }) (own := R_md) (index := 69) (ret := (Option.some Jvm.ClassFile.FieldType.int)) (C := R_md) (As := [.int 0]) (rest := []) E hM1 (cwV (y := y_md_fails) (bytes := b_md_fails) (maxL := 2) (ws := w_md_fails) (rm := { frames := 0, cells := 0, slots := 0, locals := 0 }) (own := R_md) (index := 69) (ret := (Option.some Jvm.ClassFile.FieldType.int)) (C := R_md) 1 hts hG1 rfl rfl rfl (by decide +kernel) ⟨Nat.le_of_ble_eq_true rfl, Nat.le_of_ble_eq_true rfl⟩) (hm_preV gk_w gk_s hH hg hK (hw.at 0 rfl) rfl [.int 0]) rfl rfl hl.1 rfl (lv_room (Nat.le_of_ble_eq_true rfl)) d_md_exception_244 ⟨(by show _ ≤ 0; omega), (by show _ ≤ 0; omega)⟩) hH (fun r1 M1 H1 locs1 hq1 hH1 => ?_)
                    replace hH := hH1; clear hH1; generalize H1 = H at hH ⊢; generalize locs1 = locs at hH ⊢
                    obtain ⟨rfl, hw1, hk1⟩ := hq1
                    have hw := hm_join (ws' := [(y, .inr (4, [.int (nI 0), .int (nI 0), .ref d, .int (nI np), .ref be, .ref sg, .ref nu, .int (nI bg), .int (nI nx), .ref fi, .ref le, .ref pl, .int (nI lf), .int (nI rt), .int (nI ln), .ref rw, .ref va, .int (bI ak)])), (d, aI G 200 dr), (fi, aI G 2050 ff), (le, aI G 40000 f), (pl, aJ G 2048 (vp_updL fp e9 (cuX dr dn)))]) (wc := [(y, .inr (4, [.int (nI th), .int (nI dn), .ref d, .int (nI np), .ref be, .ref sg, .ref nu, .int (nI bg), .int (nI nx), .ref fi, .ref le, .ref pl, .int (nI lf), .int (nI rt), .int (nI ln), .ref rw, .ref va, .int (bI ak)]))]) hw hw1 hk1 [0] rfl rfl (fun a h => h) rfl (by
                      intro k9 h9
                      match k9, h9 with
                      | 0, _ => exact Or.inr ⟨0, rfl, rfl⟩
                      | 1, _ => exact Or.inl ⟨by decide, rfl⟩
                      | 2, _ => exact Or.inl ⟨by decide, rfl⟩
                      | 3, _ => exact Or.inl ⟨by decide, rfl⟩
                      | 4, _ => exact Or.inl ⟨by decide, rfl⟩
                      | k9 + 5, h9 => exact absurd h9 (Nat.not_lt_of_le (Nat.le_add_left _ _)))
                    have hk := hk.tr hk1 (fun a h => by simp at h; subst h; simp)
                    generalize M1 = M at hH hw hk
                    refine lv_pop hx hb d_md_exception_247 rfl ?_
                    refine lv_aload_n hx hb d_md_exception_248 rfl (lv_at hl 4 rfl) ?_
                    refine hm_get E (tB in_md) hK hH (hw.at 0 rfl) rfl 8 (by decide) (tC wm_375) rfl d_md_exception_249 ?_
                    exact hm_iret E hr hlk hH (⟨f, hf0, fun _ j hj => hf1 j hj (by omega), hk, Or.inr ⟨e9, hok, he9, hfd, hnf, Or.inl ⟨by omega, rfl, by rw [← hcu]; exact hw⟩⟩⟩) (by omega) (by omega) d_md_exception_252
                  · skip
                    refine lv_aload_n hx hb d_md_exception_214 rfl (lv_at hl 4 rfl) ?_
                    refine lv_dup hx hb d_md_exception_215 rfl ?_
                    refine hm_get E (tB in_md) hK hH (hw.at 0 rfl) rfl 8 (by decide) (tC wm_375) rfl d_md_exception_216 ?_
                    refine lv_iconst (v := 1) hx hb d_md_exception_219 (by decide) ?_
                    refine hn_iadd hx hb (a := nx) (b := 1) d_md_exception_220 ?_
                    refine hm_put E (tB in_md) t_md tk_md nm_md hK hH (hw.at 0 rfl) rfl 8 (by decide) (tC wm_375) rfl rfl rfl (Nat.le_of_ble_eq_true rfl) (fs' := [.int (nI th), .int (nI dn), .ref d, .int (nI np), .ref be, .ref sg, .ref nu, .int (nI bg), .int (nI (nx + 1)), .ref fi, .ref le, .ref pl, .int (nI lf), .int (nI rt), .int (nI ln), .ref rw, .ref va, .int (bI ak)]) rfl d_md_exception_221 (fun H locs hH => ?_)
                    have hw := hw.set (ws' := [(y, .inr (4, [.int (nI th), .int (nI dn), .ref d, .int (nI np), .ref be, .ref sg, .ref nu, .int (nI bg), .int (nI (nx + 1)), .ref fi, .ref le, .ref pl, .int (nI lf), .int (nI rt), .int (nI ln), .ref rw, .ref va, .int (bI ak)])), (d, aI G 200 dr), (fi, aI G 2050 ff), (le, aI G 40000 f), (pl, aJ G 2048 (vp_updL fp e9 (cuX dr dn)))]) (k := 0) rfl rfl
                    have hk := hk.wr (a := y) (v := some (.inr (4, [.int (nI th), .int (nI dn), .ref d, .int (nI np), .ref be, .ref sg, .ref nu, .int (nI bg), .int (nI (nx + 1)), .ref fi, .ref le, .ref pl, .int (nI lf), .int (nI rt), .int (nI ln), .ref rw, .ref va, .int (bI ak)]))) (by first | (right; assumption) | (left; simp; done))
                    generalize va_up M y (some (.inr (4, [.int (nI th), .int (nI dn), .ref d, .int (nI np), .ref be, .ref sg, .ref nu, .int (nI bg), .int (nI (nx + 1)), .ref fi, .ref le, .ref pl, .int (nI lf), .int (nI rt), .int (nI ln), .ref rw, .ref va, .int (bI ak)]))) = M at hH hw hk ⊢
                    refine lv_aload_n hx hb d_md_exception_224 rfl (lv_at hl 4 rfl) ?_
                    refine hm_get E (tB in_md) hK hH (hw.at 0 rfl) rfl 9 (by decide) (tC wm_376) rfl d_md_exception_225 ?_
                    refine lv_aload_n hx hb d_md_exception_228 rfl (lv_at hl 4 rfl) ?_
                    refine hm_get E (tB in_md) hK hH (hw.at 0 rfl) rfl 8 (by decide) (tC wm_375) rfl d_md_exception_229 ?_
                    refine lv_aload_n hx hb d_md_exception_232 rfl (lv_at hl 4 rfl) ?_
                    refine hm_get E (tB in_md) hK hH (hw.at 0 rfl) rfl 9 (by decide) (tC wm_376) rfl d_md_exception_233 ?_
                    refine lv_iload hx hb d_md_exception_236 (lv_at hl 0 rfl) ?_
                    refine hm_iald E hK hH 0 (hw.at 2 rfl) rfl (i := e9) (by omega) (by decide) d_md_exception_238 ?_
                    refine hm_top (w := .int (nI (o nx))) (by rw [h211, hff nx (Nat.le_refl _)]) ?_
                    refine lv_iload_n hx hb d_md_exception_239 rfl (lv_at hl 3 rfl) ?_
                    refine hn_iadd hx hb (a := o nx) (b := xz dr dn) d_md_exception_240 ?_
                    refine hm_iast E hK hH 0 (hw.at 2 rfl) rfl (i := nx + 1) (by omega) (by decide) d_md_exception_241 (fun H locs hH => ?_)
                    have hw := hw.set (ws' := [(y, .inr (4, [.int (nI th), .int (nI dn), .ref d, .int (nI np), .ref be, .ref sg, .ref nu, .int (nI bg), .int (nI (nx + 1)), .ref fi, .ref le, .ref pl, .int (nI lf), .int (nI rt), .int (nI ln), .ref rw, .ref va, .int (bI ak)])), (d, aI G 200 dr), (fi, aI G 2050 (upd ff (nx + 1) (nI (o nx + (xz dr dn))))), (le, aI G 40000 f), (pl, aJ G 2048 (vp_updL fp e9 (cuX dr dn)))]) (k := 2) rfl rfl
                    have hk := hk.wr (a := fi) (v := some (aI G 2050 (upd ff (nx + 1) (nI (o nx + (xz dr dn)))))) (by first | (right; assumption) | (left; simp; done))
                    generalize va_up M fi (some (aI G 2050 (upd ff (nx + 1) (nI (o nx + (xz dr dn)))))) = M at hH hw hk ⊢
                    refine lv_aload_n hx hb d_md_exception_242 rfl (lv_at hl 4 rfl) ?_
                    refine lv_iconst (v := 0) hx hb d_md_exception_243 (by decide) ?_
                    have hM1 := c_md_fails l G y th dn d np be sg nu bg (nx + 1) fi le pl lf rt ln rw va ak 0 M (hw.sub (ws' := [(y, .inr (4, [.int (nI th), .int (nI dn), .ref d, .int (nI np), .ref be, .ref sg, .ref nu, .int (nI bg), .int (nI (nx + 1)), .ref fi, .ref le, .ref pl, .int (nI lf), .int (nI rt), .int (nI ln), .ref rw, .ref va, .int (bI ak)]))]) [0] rfl rfl) H.size
                    have hG1 : GoodIn w_md_exception (wsV R_md 69 R_md y_md_fails w_md_fails) := gB_V wm_446 wm_448 wp_11 wm_5 wm_449
                    refine hm_call (va_runV (y := y_md_fails) (bytes := b_md_fails) (maxL := 2) (ws := w_md_fails) (rm := { frames := 0, cells := 0, slots := 0, locals := 0 }) (own := R_md) (index := 69) (ret := (Option.some Jvm.ClassFile.FieldType.int)) (C := R_md) (As := [.int 0]) (rest := []) E hM1 (cwV (y := y_md_fails) (bytes := b_md_fails) (maxL := 2) (ws := w_md_fails) (rm := { frames := 0, cells := 0, slots := 0, locals := 0 }) (own := R_md) (index := 69) (ret := (Option.some Jvm.ClassFile.FieldType.int)) (C := R_md) 1 hts hG1 rfl rfl rfl (by decide +kernel) ⟨Nat.le_of_ble_eq_true rfl, Nat.le_of_ble_eq_true rfl⟩) (hm_preV gk_w gk_s hH hg hK (hw.at 0 rfl) rfl [.int 0]) rfl rfl hl.1 rfl (lv_room (Nat.le_of_ble_eq_true rfl)) d_md_exception_244 ⟨(by show _ ≤ 0; omega), (by show _ ≤ 0; omega)⟩) hH (fun r1 M1 H1 locs1 hq1 hH1 => ?_)
                    replace hH := hH1; clear hH1; generalize H1 = H at hH ⊢; generalize locs1 = locs at hH ⊢
                    obtain ⟨rfl, hw1, hk1⟩ := hq1
                    have hw := hm_join (ws' := [(y, .inr (4, [.int (nI 0), .int (nI 0), .ref d, .int (nI np), .ref be, .ref sg, .ref nu, .int (nI bg), .int (nI (nx + 1)), .ref fi, .ref le, .ref pl, .int (nI lf), .int (nI rt), .int (nI ln), .ref rw, .ref va, .int (bI ak)])), (d, aI G 200 dr), (fi, aI G 2050 (upd ff (nx + 1) (nI (o nx + xz dr dn)))), (le, aI G 40000 f), (pl, aJ G 2048 (vp_updL fp e9 (cuX dr dn)))]) (wc := [(y, .inr (4, [.int (nI th), .int (nI dn), .ref d, .int (nI np), .ref be, .ref sg, .ref nu, .int (nI bg), .int (nI (nx + 1)), .ref fi, .ref le, .ref pl, .int (nI lf), .int (nI rt), .int (nI ln), .ref rw, .ref va, .int (bI ak)]))]) hw hw1 hk1 [0] rfl rfl (fun a h => h) rfl (by
                      intro k9 h9
                      match k9, h9 with
                      | 0, _ => exact Or.inr ⟨0, rfl, rfl⟩
                      | 1, _ => exact Or.inl ⟨by decide, rfl⟩
                      | 2, _ => exact Or.inl ⟨by decide, rfl⟩
                      | 3, _ => exact Or.inl ⟨by decide, rfl⟩
                      | 4, _ => exact Or.inl ⟨by decide, rfl⟩
                      | k9 + 5, h9 => exact absurd h9 (Nat.not_lt_of_le (Nat.le_add_left _ _)))
                    have hk := hk.tr hk1 (fun a h => by simp at h; subst h; simp)
                    generalize M1 = M at hH hw hk
                    refine lv_pop hx hb d_md_exception_247 rfl ?_
                    refine lv_aload_n hx hb d_md_exception_248 rfl (lv_at hl 4 rfl) ?_
                    refine hm_get E (tB in_md) hK hH (hw.at 0 rfl) rfl 8 (by decide) (tC wm_375) rfl d_md_exception_249 ?_
                    exact hm_iret E hr hlk hH (⟨f, hf0, fun _ j hj => hf1 j hj (by omega), hk, Or.inr ⟨e9, hok, he9, hfd, hnf, Or.inr ⟨h211, rfl, by rw [← hcu]; exact hw⟩⟩⟩) (by omega) (by omega) d_md_exception_252
                · skip
                  omega
              · skip
                refine lv_aload_n hx hb d_md_exception_170 rfl (lv_at hl 4 rfl) ?_
                refine lv_iconst (v := 1) hx hb d_md_exception_171 (by decide) ?_
                have hM1 := c_md_fails l G y th dn d np be sg nu bg nx fi le pl lf rt ln rw va ak 1 M (hw.sub (ws' := [(y, .inr (4, [.int (nI th), .int (nI dn), .ref d, .int (nI np), .ref be, .ref sg, .ref nu, .int (nI bg), .int (nI nx), .ref fi, .ref le, .ref pl, .int (nI lf), .int (nI rt), .int (nI ln), .ref rw, .ref va, .int (bI ak)]))]) [0] rfl rfl) H.size
                have hG1 : GoodIn w_md_exception (wsV R_md 69 R_md y_md_fails w_md_fails) := gB_V wm_446 wm_448 wp_11 wm_5 wm_449
                refine hm_call (va_runV (y := y_md_fails) (bytes := b_md_fails) (maxL := 2) (ws := w_md_fails) (rm := { frames := 0, cells := 0, slots := 0, locals := 0 }) (own := R_md) (index := 69) (ret := (Option.some Jvm.ClassFile.FieldType.int)) (C := R_md) (As := [.int 1]) (rest := []) E hM1 (cwV (y := y_md_fails) (bytes := b_md_fails) (maxL := 2) (ws := w_md_fails) (rm := { frames := 0, cells := 0, slots := 0, locals := 0 }) (own := R_md) (index := 69) (ret := (Option.some Jvm.ClassFile.FieldType.int)) (C := R_md) 1 hts hG1 rfl rfl rfl (by decide +kernel) ⟨Nat.le_of_ble_eq_true rfl, Nat.le_of_ble_eq_true rfl⟩) (hm_preV gk_w gk_s hH hg hK (hw.at 0 rfl) rfl [.int 1]) rfl rfl hl.1 rfl (lv_room (Nat.le_of_ble_eq_true rfl)) d_md_exception_172 ⟨(by show _ ≤ 0; omega), (by show _ ≤ 0; omega)⟩) hH (fun r1 M1 H1 locs1 hq1 hH1 => ?_)
                replace hH := hH1; clear hH1; generalize H1 = H at hH ⊢; generalize locs1 = locs at hH ⊢
                obtain ⟨rfl, hw1, hk1⟩ := hq1
                have hw := hm_join (ws' := [(y, .inr (4, [.int (nI 1), .int (nI 0), .ref d, .int (nI np), .ref be, .ref sg, .ref nu, .int (nI bg), .int (nI nx), .ref fi, .ref le, .ref pl, .int (nI lf), .int (nI rt), .int (nI ln), .ref rw, .ref va, .int (bI ak)])), (d, aI G 200 dr), (fi, aI G 2050 ff), (le, aI G 40000 f), (pl, aJ G 2048 fp)]) (wc := [(y, .inr (4, [.int (nI th), .int (nI dn), .ref d, .int (nI np), .ref be, .ref sg, .ref nu, .int (nI bg), .int (nI nx), .ref fi, .ref le, .ref pl, .int (nI lf), .int (nI rt), .int (nI ln), .ref rw, .ref va, .int (bI ak)]))]) hw hw1 hk1 [0] rfl rfl (fun a h => h) rfl (by
                  intro k9 h9
                  match k9, h9 with
                  | 0, _ => exact Or.inr ⟨0, rfl, rfl⟩
                  | 1, _ => exact Or.inl ⟨by decide, rfl⟩
                  | 2, _ => exact Or.inl ⟨by decide, rfl⟩
                  | 3, _ => exact Or.inl ⟨by decide, rfl⟩
                  | 4, _ => exact Or.inl ⟨by decide, rfl⟩
                  | k9 + 5, h9 => exact absurd h9 (Nat.not_lt_of_le (Nat.le_add_left _ _)))
                have hk := hk.tr hk1 (fun a h => by simp at h; subst h; simp)
                generalize M1 = M at hH hw hk
                exact hm_iret E hr hlk hH ((fun hno => ⟨f, hf0, fun z => absurd z hno, hk, Or.inl ⟨hno, rfl, hw⟩⟩) (fun z => by have h8 := (gx_ok.mp z).2; omega)) (by omega) (by omega) d_md_exception_175
        · skip
          have hxi := xz_le dr i
          refine lv_aload_n hx hb d_md_exception_30 rfl (lv_at hl 4 rfl) ?_
          refine hm_get E (tB in_md) hK hH (hw.at 0 rfl) rfl 2 (by decide) (tC wm_369) rfl d_md_exception_31 ?_
          refine lv_iload hx hb d_md_exception_34 (lv_at hl 0 rfl) ?_
          refine hm_iald E hK hH 0 (hw.at 1 rfl) rfl (i := i) (by omega) (by decide) d_md_exception_36 ?_
          have hM1 := c_md_isLetter l G (dr i) M (hby _) H.size
          have hG1 : GoodIn w_md_exception (wsS R_md 58 y_md_isLetter w_md_isLetter) := gB_S wm_440 wm_441 wm_5 wm_442
          refine hm_call (va_runS (y := y_md_isLetter) (bytes := b_md_isLetter) (maxL := 1) (ws := w_md_isLetter) (rm := { frames := 0, cells := 0, slots := 0, locals := 0 }) (own := R_md) (index := 58) (ret := (Option.some Jvm.ClassFile.FieldType.boolean)) (As := [.int (dr i)]) (rest := []) E hM1 (cwS (y := y_md_isLetter) (bytes := b_md_isLetter) (maxL := 1) (ws := w_md_isLetter) (rm := { frames := 0, cells := 0, slots := 0, locals := 0 }) (own := R_md) (index := 58) (ret := (Option.some Jvm.ClassFile.FieldType.boolean)) 1 hts hG1 rfl rfl rfl (by decide +kernel) ⟨Nat.le_of_ble_eq_true rfl, Nat.le_of_ble_eq_true rfl⟩) (hm_preS gk_w gk_s hH hg [.int (dr i)]) rfl rfl hl.1 rfl (lv_room (Nat.le_of_ble_eq_true rfl)) d_md_exception_37 ⟨(by show _ ≤ 0; omega), (by show _ ≤ 0; omega)⟩) hH (fun r1 M1 H1 locs1 hq1 hH1 => ?_)
          obtain ⟨rfl, e1⟩ := hq1
          replace hH := hH1; rw [e1] at hH; clear hH1 e1; generalize H1 = H at hH ⊢; generalize locs1 = locs at hH ⊢
          refine hb_if_eq (b := isL (dr i)) hx hb (tgt := 78) d_md_exception_40 (by decide) (fun h40 => ?_) (fun h40 => ?_)
          · skip
            refine lv_iload hx hb d_md_exception_78 (lv_at hl 1 rfl) ?_
            refine hb_if_eq (b := gxP dr dn i) hx hb (tgt := 129) d_md_exception_80 (by decide) (fun h80 => ?_) (fun h80 => ?_)
            · skip
              refine lv_iconst (v := 0) hx hb d_md_exception_129 (by decide) ?_
              refine lv_istore (lv' := [(4, .int 0), (5, .int (nI i)), (2, .long (cuX dr i)), (1, .int (nI (xz dr i))), (0, .ref y)]) hx hb d_md_exception_130 hl (by decide) rfl (fun ls hl => ?_)
              refine lv_iload_n hx hb d_md_exception_132 rfl (lv_at hl 3 rfl) ?_
              refine lv_bipush (v := 64) hx hb d_md_exception_133 (by decide) ?_
              refine hn_icmp_ge (a := xz dr i) (b := 64) hx hb (by omega) (by omega) (tgt := 146) d_md_exception_135 (by decide) (fun h135 => ?_) (fun h135 => ?_)
              · skip
                refine lv_lload_n hx hb d_md_exception_146 rfl (lv_at hl 2 rfl) ?_
                refine lv_lstore_n (lv' := [(2, .long (cuX dr i)), (4, .int 0), (5, .int (nI i)), (1, .int (nI (xz dr i))), (0, .ref y)]) hx hb d_md_exception_147 rfl hl (by decide) rfl (fun ls hl => ?_)
                refine lv_iinc (v := nI (i + 1)) (lv' := [(5, .int (nI (i + 1))), (2, .long (cuX dr i)), (4, .int 0), (1, .int (nI (xz dr i))), (0, .ref y)]) hx hb d_md_exception_148 hl (k := 2) rfl (by first | exact nI_add _ 1 | (show nI _ + nI _ = _; rw [nI_add])) (by decide) rfl (fun ls hl => ?_)
                refine lv_goto (tgt := 21) hx hb d_md_exception_151 (by decide) ?_
                exact ih (i + 1) f M _ _ _ (by omega) (by omega) hf0 (xl_h hf1 h40) hw hk hH (lv_cv (lv_sub hl [0, 2, 1, 3, 4] rfl) (by rw [cu_m h40 (by omega)]; simp [gxP, xz, bI_t, bI_f, h40, h80] <;> rfl))
              · skip
                refine lv_lload_n hx hb d_md_exception_138 rfl (lv_at hl 2 rfl) ?_
                refine lv_lconst (v := 1) hx hb d_md_exception_139 (by decide) ?_
                refine lv_iload_n hx hb d_md_exception_140 rfl (lv_at hl 3 rfl) ?_
                refine lv_lshl hx hb d_md_exception_141 rfl ?_
                refine lv_lor hx hb d_md_exception_142 ?_
                refine lv_goto (tgt := 147) hx hb d_md_exception_143 (by decide) ?_
                refine lv_lstore_n (lv' := [(2, .long ((cuX dr i) ||| (1 <<< ((nI (xz dr i)).toInt64 &&& 63)))), (4, .int 0), (5, .int (nI i)), (1, .int (nI (xz dr i))), (0, .ref y)]) hx hb d_md_exception_147 rfl hl (by decide) rfl (fun ls hl => ?_)
                refine lv_iinc (v := nI (i + 1)) (lv' := [(5, .int (nI (i + 1))), (2, .long ((cuX dr i) ||| (1 <<< ((nI (xz dr i)).toInt64 &&& 63)))), (4, .int 0), (1, .int (nI (xz dr i))), (0, .ref y)]) hx hb d_md_exception_148 hl (k := 2) rfl (by first | exact nI_add _ 1 | (show nI _ + nI _ = _; rw [nI_add])) (by decide) rfl (fun ls hl => ?_)
                refine lv_goto (tgt := 21) hx hb d_md_exception_151 (by decide) ?_
                exact ih (i + 1) f M _ _ _ (by omega) (by omega) hf0 (xl_h hf1 h40) hw hk hH (lv_cv (lv_sub hl [0, 2, 1, 3, 4] rfl) (by rw [cu_h h40 (by omega)]; simp [gxP, xz, bI_t, bI_f, h40, h80] <;> rfl))
            · skip
              refine lv_aload_n hx hb d_md_exception_83 rfl (lv_at hl 4 rfl) ?_
              refine hm_get E (tB in_md) hK hH (hw.at 0 rfl) rfl 2 (by decide) (tC wm_369) rfl d_md_exception_84 ?_
              refine lv_iload hx hb d_md_exception_87 (lv_at hl 0 rfl) ?_
              refine hm_iald E hK hH 0 (hw.at 1 rfl) rfl (i := i) (by omega) (by decide) d_md_exception_89 ?_
              refine lv_bipush (v := 45) hx hb d_md_exception_90 (by decide) ?_
              refine hc_icmp_ne (x := dr i) (y := 45) (c9 := 45) hx hb (by decide) (tgt := 129) d_md_exception_92 (by decide) (fun h92 => ?_) (fun h92 => ?_)
              · skip
                refine lv_iconst (v := 0) hx hb d_md_exception_129 (by decide) ?_
                refine lv_istore (lv' := [(4, .int 0), (5, .int (nI i)), (2, .long (cuX dr i)), (1, .int (nI (xz dr i))), (0, .ref y)]) hx hb d_md_exception_130 hl (by decide) rfl (fun ls hl => ?_)
                refine lv_iload_n hx hb d_md_exception_132 rfl (lv_at hl 3 rfl) ?_
                refine lv_bipush (v := 64) hx hb d_md_exception_133 (by decide) ?_
                refine hn_icmp_ge (a := xz dr i) (b := 64) hx hb (by omega) (by omega) (tgt := 146) d_md_exception_135 (by decide) (fun h135 => ?_) (fun h135 => ?_)
                · skip
                  refine lv_lload_n hx hb d_md_exception_146 rfl (lv_at hl 2 rfl) ?_
                  refine lv_lstore_n (lv' := [(2, .long (cuX dr i)), (4, .int 0), (5, .int (nI i)), (1, .int (nI (xz dr i))), (0, .ref y)]) hx hb d_md_exception_147 rfl hl (by decide) rfl (fun ls hl => ?_)
                  refine lv_iinc (v := nI (i + 1)) (lv' := [(5, .int (nI (i + 1))), (2, .long (cuX dr i)), (4, .int 0), (1, .int (nI (xz dr i))), (0, .ref y)]) hx hb d_md_exception_148 hl (k := 2) rfl (by first | exact nI_add _ 1 | (show nI _ + nI _ = _; rw [nI_add])) (by decide) rfl (fun ls hl => ?_)
                  refine lv_goto (tgt := 21) hx hb d_md_exception_151 (by decide) ?_
                  exact ih (i + 1) f M _ _ _ (by omega) (by omega) hf0 (xl_h hf1 h40) hw hk hH (lv_cv (lv_sub hl [0, 2, 1, 3, 4] rfl) (by rw [cu_m h40 (by omega)]; simp [gxP, xz, bI_t, bI_f, h40, h80, h92] <;> rfl))
                · skip
                  refine lv_lload_n hx hb d_md_exception_138 rfl (lv_at hl 2 rfl) ?_
                  refine lv_lconst (v := 1) hx hb d_md_exception_139 (by decide) ?_
                  refine lv_iload_n hx hb d_md_exception_140 rfl (lv_at hl 3 rfl) ?_
                  refine lv_lshl hx hb d_md_exception_141 rfl ?_
                  refine lv_lor hx hb d_md_exception_142 ?_
                  refine lv_goto (tgt := 147) hx hb d_md_exception_143 (by decide) ?_
                  refine lv_lstore_n (lv' := [(2, .long ((cuX dr i) ||| (1 <<< ((nI (xz dr i)).toInt64 &&& 63)))), (4, .int 0), (5, .int (nI i)), (1, .int (nI (xz dr i))), (0, .ref y)]) hx hb d_md_exception_147 rfl hl (by decide) rfl (fun ls hl => ?_)
                  refine lv_iinc (v := nI (i + 1)) (lv' := [(5, .int (nI (i + 1))), (2, .long ((cuX dr i) ||| (1 <<< ((nI (xz dr i)).toInt64 &&& 63)))), (4, .int 0), (1, .int (nI (xz dr i))), (0, .ref y)]) hx hb d_md_exception_148 hl (k := 2) rfl (by first | exact nI_add _ 1 | (show nI _ + nI _ = _; rw [nI_add])) (by decide) rfl (fun ls hl => ?_)
                  refine lv_goto (tgt := 21) hx hb d_md_exception_151 (by decide) ?_
                  exact ih (i + 1) f M _ _ _ (by omega) (by omega) hf0 (xl_h hf1 h40) hw hk hH (lv_cv (lv_sub hl [0, 2, 1, 3, 4] rfl) (by rw [cu_h h40 (by omega)]; simp [gxP, xz, bI_t, bI_f, h40, h80, h92] <;> rfl))
              · skip
                refine lv_iload hx hb d_md_exception_95 (lv_at hl 0 rfl) ?_
                refine hn_if_le (a := i) hx hb (by omega) (tgt := 129) d_md_exception_97 (by decide) (fun h97 => ?_) (fun h97 => ?_)
                · skip
                  have h97 : ¬ 0 < i := by omega
                  refine lv_iconst (v := 0) hx hb d_md_exception_129 (by decide) ?_
                  refine lv_istore (lv' := [(4, .int 0), (5, .int (nI i)), (2, .long (cuX dr i)), (1, .int (nI (xz dr i))), (0, .ref y)]) hx hb d_md_exception_130 hl (by decide) rfl (fun ls hl => ?_)
                  refine lv_iload_n hx hb d_md_exception_132 rfl (lv_at hl 3 rfl) ?_
                  refine lv_bipush (v := 64) hx hb d_md_exception_133 (by decide) ?_
                  refine hn_icmp_ge (a := xz dr i) (b := 64) hx hb (by omega) (by omega) (tgt := 146) d_md_exception_135 (by decide) (fun h135 => ?_) (fun h135 => ?_)
                  · skip
                    refine lv_lload_n hx hb d_md_exception_146 rfl (lv_at hl 2 rfl) ?_
                    refine lv_lstore_n (lv' := [(2, .long (cuX dr i)), (4, .int 0), (5, .int (nI i)), (1, .int (nI (xz dr i))), (0, .ref y)]) hx hb d_md_exception_147 rfl hl (by decide) rfl (fun ls hl => ?_)
                    refine lv_iinc (v := nI (i + 1)) (lv' := [(5, .int (nI (i + 1))), (2, .long (cuX dr i)), (4, .int 0), (1, .int (nI (xz dr i))), (0, .ref y)]) hx hb d_md_exception_148 hl (k := 2) rfl (by first | exact nI_add _ 1 | (show nI _ + nI _ = _; rw [nI_add])) (by decide) rfl (fun ls hl => ?_)
                    refine lv_goto (tgt := 21) hx hb d_md_exception_151 (by decide) ?_
                    exact ih (i + 1) f M _ _ _ (by omega) (by omega) hf0 (xl_h hf1 h40) hw hk hH (lv_cv (lv_sub hl [0, 2, 1, 3, 4] rfl) (by rw [cu_m h40 (by omega)]; simp [gxP, xz, bI_t, bI_f, h40, h80, h92, h97] <;> rfl))
                  · skip
                    refine lv_lload_n hx hb d_md_exception_138 rfl (lv_at hl 2 rfl) ?_
                    refine lv_lconst (v := 1) hx hb d_md_exception_139 (by decide) ?_
                    refine lv_iload_n hx hb d_md_exception_140 rfl (lv_at hl 3 rfl) ?_
                    refine lv_lshl hx hb d_md_exception_141 rfl ?_
                    refine lv_lor hx hb d_md_exception_142 ?_
                    refine lv_goto (tgt := 147) hx hb d_md_exception_143 (by decide) ?_
                    refine lv_lstore_n (lv' := [(2, .long ((cuX dr i) ||| (1 <<< ((nI (xz dr i)).toInt64 &&& 63)))), (4, .int 0), (5, .int (nI i)), (1, .int (nI (xz dr i))), (0, .ref y)]) hx hb d_md_exception_147 rfl hl (by decide) rfl (fun ls hl => ?_)
                    refine lv_iinc (v := nI (i + 1)) (lv' := [(5, .int (nI (i + 1))), (2, .long ((cuX dr i) ||| (1 <<< ((nI (xz dr i)).toInt64 &&& 63)))), (4, .int 0), (1, .int (nI (xz dr i))), (0, .ref y)]) hx hb d_md_exception_148 hl (k := 2) rfl (by first | exact nI_add _ 1 | (show nI _ + nI _ = _; rw [nI_add])) (by decide) rfl (fun ls hl => ?_)
                    refine lv_goto (tgt := 21) hx hb d_md_exception_151 (by decide) ?_
                    exact ih (i + 1) f M _ _ _ (by omega) (by omega) hf0 (xl_h hf1 h40) hw hk hH (lv_cv (lv_sub hl [0, 2, 1, 3, 4] rfl) (by rw [cu_h h40 (by omega)]; simp [gxP, xz, bI_t, bI_f, h40, h80, h92, h97] <;> rfl))
                · skip
                  have h97 : 0 < i := by omega
                  refine lv_iload hx hb d_md_exception_100 (lv_at hl 0 rfl) ?_
                  refine lv_iconst (v := 1) hx hb d_md_exception_102 (by decide) ?_
                  refine hn_iadd hx hb (a := i) (b := 1) d_md_exception_103 ?_
                  refine lv_aload_n hx hb d_md_exception_104 rfl (lv_at hl 4 rfl) ?_
                  refine hm_get E (tB in_md) hK hH (hw.at 0 rfl) rfl 1 (by decide) (tC wm_368) rfl d_md_exception_105 ?_
                  refine hn_icmp_ge (a := i + 1) (b := dn) hx hb (by omega) (by omega) (tgt := 129) d_md_exception_108 (by decide) (fun h108 => ?_) (fun h108 => ?_)
                  · skip
                    have h108 : ¬ i + 1 < dn := by omega
                    refine lv_iconst (v := 0) hx hb d_md_exception_129 (by decide) ?_
                    refine lv_istore (lv' := [(4, .int 0), (5, .int (nI i)), (2, .long (cuX dr i)), (1, .int (nI (xz dr i))), (0, .ref y)]) hx hb d_md_exception_130 hl (by decide) rfl (fun ls hl => ?_)
                    refine lv_iload_n hx hb d_md_exception_132 rfl (lv_at hl 3 rfl) ?_
                    refine lv_bipush (v := 64) hx hb d_md_exception_133 (by decide) ?_
                    refine hn_icmp_ge (a := xz dr i) (b := 64) hx hb (by omega) (by omega) (tgt := 146) d_md_exception_135 (by decide) (fun h135 => ?_) (fun h135 => ?_)
                    · skip
                      refine lv_lload_n hx hb d_md_exception_146 rfl (lv_at hl 2 rfl) ?_
                      refine lv_lstore_n (lv' := [(2, .long (cuX dr i)), (4, .int 0), (5, .int (nI i)), (1, .int (nI (xz dr i))), (0, .ref y)]) hx hb d_md_exception_147 rfl hl (by decide) rfl (fun ls hl => ?_)
                      refine lv_iinc (v := nI (i + 1)) (lv' := [(5, .int (nI (i + 1))), (2, .long (cuX dr i)), (4, .int 0), (1, .int (nI (xz dr i))), (0, .ref y)]) hx hb d_md_exception_148 hl (k := 2) rfl (by first | exact nI_add _ 1 | (show nI _ + nI _ = _; rw [nI_add])) (by decide) rfl (fun ls hl => ?_)
                      refine lv_goto (tgt := 21) hx hb d_md_exception_151 (by decide) ?_
                      exact ih (i + 1) f M _ _ _ (by omega) (by omega) hf0 (xl_h hf1 h40) hw hk hH (lv_cv (lv_sub hl [0, 2, 1, 3, 4] rfl) (by rw [cu_m h40 (by omega)]; simp [gxP, xz, bI_t, bI_f, h40, h80, h92, h97, h108] <;> rfl))
                    · skip
                      refine lv_lload_n hx hb d_md_exception_138 rfl (lv_at hl 2 rfl) ?_
                      refine lv_lconst (v := 1) hx hb d_md_exception_139 (by decide) ?_
                      refine lv_iload_n hx hb d_md_exception_140 rfl (lv_at hl 3 rfl) ?_
                      refine lv_lshl hx hb d_md_exception_141 rfl ?_
                      refine lv_lor hx hb d_md_exception_142 ?_
                      refine lv_goto (tgt := 147) hx hb d_md_exception_143 (by decide) ?_
                      refine lv_lstore_n (lv' := [(2, .long ((cuX dr i) ||| (1 <<< ((nI (xz dr i)).toInt64 &&& 63)))), (4, .int 0), (5, .int (nI i)), (1, .int (nI (xz dr i))), (0, .ref y)]) hx hb d_md_exception_147 rfl hl (by decide) rfl (fun ls hl => ?_)
                      refine lv_iinc (v := nI (i + 1)) (lv' := [(5, .int (nI (i + 1))), (2, .long ((cuX dr i) ||| (1 <<< ((nI (xz dr i)).toInt64 &&& 63)))), (4, .int 0), (1, .int (nI (xz dr i))), (0, .ref y)]) hx hb d_md_exception_148 hl (k := 2) rfl (by first | exact nI_add _ 1 | (show nI _ + nI _ = _; rw [nI_add])) (by decide) rfl (fun ls hl => ?_)
                      refine lv_goto (tgt := 21) hx hb d_md_exception_151 (by decide) ?_
                      exact ih (i + 1) f M _ _ _ (by omega) (by omega) hf0 (xl_h hf1 h40) hw hk hH (lv_cv (lv_sub hl [0, 2, 1, 3, 4] rfl) (by rw [cu_h h40 (by omega)]; simp [gxP, xz, bI_t, bI_f, h40, h80, h92, h97, h108] <;> rfl))
                  · skip
                    refine lv_aload_n hx hb d_md_exception_111 rfl (lv_at hl 4 rfl) ?_
                    refine hm_get E (tB in_md) hK hH (hw.at 0 rfl) rfl 2 (by decide) (tC wm_369) rfl d_md_exception_112 ?_
                    refine lv_iload hx hb d_md_exception_115 (lv_at hl 0 rfl) ?_
                    refine lv_iconst (v := 1) hx hb d_md_exception_117 (by decide) ?_
                    refine hn_isub hx hb (a := i) (b := 1) (by omega) d_md_exception_118 ?_
                    refine hm_iald E hK hH 0 (hw.at 1 rfl) rfl (i := i - 1) (by omega) (by decide) d_md_exception_119 ?_
                    refine lv_bipush (v := 45) hx hb d_md_exception_120 (by decide) ?_
                    refine hc_icmp_eq (x := dr (i - 1)) (y := 45) (c9 := 45) hx hb (by decide) (tgt := 129) d_md_exception_122 (by decide) (fun h122 => ?_) (fun h122 => ?_)
                    · skip
                      refine lv_iconst (v := 0) hx hb d_md_exception_129 (by decide) ?_
                      refine lv_istore (lv' := [(4, .int 0), (5, .int (nI i)), (2, .long (cuX dr i)), (1, .int (nI (xz dr i))), (0, .ref y)]) hx hb d_md_exception_130 hl (by decide) rfl (fun ls hl => ?_)
                      refine lv_iload_n hx hb d_md_exception_132 rfl (lv_at hl 3 rfl) ?_
                      refine lv_bipush (v := 64) hx hb d_md_exception_133 (by decide) ?_
                      refine hn_icmp_ge (a := xz dr i) (b := 64) hx hb (by omega) (by omega) (tgt := 146) d_md_exception_135 (by decide) (fun h135 => ?_) (fun h135 => ?_)
                      · skip
                        refine lv_lload_n hx hb d_md_exception_146 rfl (lv_at hl 2 rfl) ?_
                        refine lv_lstore_n (lv' := [(2, .long (cuX dr i)), (4, .int 0), (5, .int (nI i)), (1, .int (nI (xz dr i))), (0, .ref y)]) hx hb d_md_exception_147 rfl hl (by decide) rfl (fun ls hl => ?_)
                        refine lv_iinc (v := nI (i + 1)) (lv' := [(5, .int (nI (i + 1))), (2, .long (cuX dr i)), (4, .int 0), (1, .int (nI (xz dr i))), (0, .ref y)]) hx hb d_md_exception_148 hl (k := 2) rfl (by first | exact nI_add _ 1 | (show nI _ + nI _ = _; rw [nI_add])) (by decide) rfl (fun ls hl => ?_)
                        refine lv_goto (tgt := 21) hx hb d_md_exception_151 (by decide) ?_
                        exact ih (i + 1) f M _ _ _ (by omega) (by omega) hf0 (xl_h hf1 h40) hw hk hH (lv_cv (lv_sub hl [0, 2, 1, 3, 4] rfl) (by rw [cu_m h40 (by omega)]; simp [gxP, xz, bI_t, bI_f, h40, h80, h92, h97, h108, h122] <;> rfl))
                      · skip
                        refine lv_lload_n hx hb d_md_exception_138 rfl (lv_at hl 2 rfl) ?_
                        refine lv_lconst (v := 1) hx hb d_md_exception_139 (by decide) ?_
                        refine lv_iload_n hx hb d_md_exception_140 rfl (lv_at hl 3 rfl) ?_
                        refine lv_lshl hx hb d_md_exception_141 rfl ?_
                        refine lv_lor hx hb d_md_exception_142 ?_
                        refine lv_goto (tgt := 147) hx hb d_md_exception_143 (by decide) ?_
                        refine lv_lstore_n (lv' := [(2, .long ((cuX dr i) ||| (1 <<< ((nI (xz dr i)).toInt64 &&& 63)))), (4, .int 0), (5, .int (nI i)), (1, .int (nI (xz dr i))), (0, .ref y)]) hx hb d_md_exception_147 rfl hl (by decide) rfl (fun ls hl => ?_)
                        refine lv_iinc (v := nI (i + 1)) (lv' := [(5, .int (nI (i + 1))), (2, .long ((cuX dr i) ||| (1 <<< ((nI (xz dr i)).toInt64 &&& 63)))), (4, .int 0), (1, .int (nI (xz dr i))), (0, .ref y)]) hx hb d_md_exception_148 hl (k := 2) rfl (by first | exact nI_add _ 1 | (show nI _ + nI _ = _; rw [nI_add])) (by decide) rfl (fun ls hl => ?_)
                        refine lv_goto (tgt := 21) hx hb d_md_exception_151 (by decide) ?_
                        exact ih (i + 1) f M _ _ _ (by omega) (by omega) hf0 (xl_h hf1 h40) hw hk hH (lv_cv (lv_sub hl [0, 2, 1, 3, 4] rfl) (by rw [cu_h h40 (by omega)]; simp [gxP, xz, bI_t, bI_f, h40, h80, h92, h97, h108, h122] <;> rfl))
                    · skip
                      refine lv_iconst (v := 1) hx hb d_md_exception_125 (by decide) ?_
                      refine lv_goto (tgt := 130) hx hb d_md_exception_126 (by decide) ?_
                      refine lv_istore (lv' := [(4, .int 1), (5, .int (nI i)), (2, .long (cuX dr i)), (1, .int (nI (xz dr i))), (0, .ref y)]) hx hb d_md_exception_130 hl (by decide) rfl (fun ls hl => ?_)
                      refine lv_iload_n hx hb d_md_exception_132 rfl (lv_at hl 3 rfl) ?_
                      refine lv_bipush (v := 64) hx hb d_md_exception_133 (by decide) ?_
                      refine hn_icmp_ge (a := xz dr i) (b := 64) hx hb (by omega) (by omega) (tgt := 146) d_md_exception_135 (by decide) (fun h135 => ?_) (fun h135 => ?_)
                      · skip
                        refine lv_lload_n hx hb d_md_exception_146 rfl (lv_at hl 2 rfl) ?_
                        refine lv_lstore_n (lv' := [(2, .long (cuX dr i)), (4, .int 1), (5, .int (nI i)), (1, .int (nI (xz dr i))), (0, .ref y)]) hx hb d_md_exception_147 rfl hl (by decide) rfl (fun ls hl => ?_)
                        refine lv_iinc (v := nI (i + 1)) (lv' := [(5, .int (nI (i + 1))), (2, .long (cuX dr i)), (4, .int 1), (1, .int (nI (xz dr i))), (0, .ref y)]) hx hb d_md_exception_148 hl (k := 2) rfl (by first | exact nI_add _ 1 | (show nI _ + nI _ = _; rw [nI_add])) (by decide) rfl (fun ls hl => ?_)
                        refine lv_goto (tgt := 21) hx hb d_md_exception_151 (by decide) ?_
                        exact ih (i + 1) f M _ _ _ (by omega) (by omega) hf0 (xl_h hf1 h40) hw hk hH (lv_cv (lv_sub hl [0, 2, 1, 3, 4] rfl) (by rw [cu_m h40 (by omega)]; simp [gxP, xz, bI_t, bI_f, h40, h80, h92, h97, h108, h122] <;> rfl))
                      · skip
                        refine lv_lload_n hx hb d_md_exception_138 rfl (lv_at hl 2 rfl) ?_
                        refine lv_lconst (v := 1) hx hb d_md_exception_139 (by decide) ?_
                        refine lv_iload_n hx hb d_md_exception_140 rfl (lv_at hl 3 rfl) ?_
                        refine lv_lshl hx hb d_md_exception_141 rfl ?_
                        refine lv_lor hx hb d_md_exception_142 ?_
                        refine lv_goto (tgt := 147) hx hb d_md_exception_143 (by decide) ?_
                        refine lv_lstore_n (lv' := [(2, .long ((cuX dr i) ||| (1 <<< ((nI (xz dr i)).toInt64 &&& 63)))), (4, .int 1), (5, .int (nI i)), (1, .int (nI (xz dr i))), (0, .ref y)]) hx hb d_md_exception_147 rfl hl (by decide) rfl (fun ls hl => ?_)
                        refine lv_iinc (v := nI (i + 1)) (lv' := [(5, .int (nI (i + 1))), (2, .long ((cuX dr i) ||| (1 <<< ((nI (xz dr i)).toInt64 &&& 63)))), (4, .int 1), (1, .int (nI (xz dr i))), (0, .ref y)]) hx hb d_md_exception_148 hl (k := 2) rfl (by first | exact nI_add _ 1 | (show nI _ + nI _ = _; rw [nI_add])) (by decide) rfl (fun ls hl => ?_)
                        refine lv_goto (tgt := 21) hx hb d_md_exception_151 (by decide) ?_
                        exact ih (i + 1) f M _ _ _ (by omega) (by omega) hf0 (xl_h hf1 h40) hw hk hH (lv_cv (lv_sub hl [0, 2, 1, 3, 4] rfl) (by rw [cu_h h40 (by omega)]; simp [gxP, xz, bI_t, bI_f, h40, h80, h92, h97, h108, h122] <;> rfl))
          · skip
            refine lv_iload_n hx hb d_md_exception_43 rfl (lv_at hl 3 rfl) ?_
            refine lv_bipush (v := 64) hx hb d_md_exception_44 (by decide) ?_
            refine hn_icmp_ge (a := xz dr i) (b := 64) hx hb (by omega) (by omega) (tgt := 72) d_md_exception_46 (by decide) (fun h46 => ?_) (fun h46 => ?_)
            · skip
              refine lv_iinc (v := nI (xz dr i + 1)) (lv' := [(1, .int (nI (xz dr i + 1))), (5, .int (nI i)), (4, .int (bI (gxP dr dn i))), (2, .long (cuX dr i)), (0, .ref y)]) hx hb d_md_exception_72 hl (k := 3) rfl (by first | exact nI_add _ 1 | (show nI _ + nI _ = _; rw [nI_add])) (by decide) rfl (fun ls hl => ?_)
              refine lv_goto (tgt := 148) hx hb d_md_exception_75 (by decide) ?_
              refine lv_iinc (v := nI (i + 1)) (lv' := [(5, .int (nI (i + 1))), (1, .int (nI (xz dr i + 1))), (4, .int (bI (gxP dr dn i))), (2, .long (cuX dr i)), (0, .ref y)]) hx hb d_md_exception_148 hl (k := 1) rfl (by first | exact nI_add _ 1 | (show nI _ + nI _ = _; rw [nI_add])) (by decide) rfl (fun ls hl => ?_)
              refine lv_goto (tgt := 21) hx hb d_md_exception_151 (by decide) ?_
              exact ih (i + 1) f M _ _ _ (by omega) (by omega) hf0 (xl_n hf1 h40 h46) hw hk hH (lv_cv (lv_sub hl [0, 2, 3, 1, 4] rfl) (by rw [cu_l h40]; simp [gxP, xz, h40] <;> rfl))
            · skip
              refine lv_aload_n hx hb d_md_exception_49 rfl (lv_at hl 4 rfl) ?_
              refine hm_get E (tB in_md) hK hH (hw.at 0 rfl) rfl 10 (by decide) (tC wm_377) rfl d_md_exception_50 ?_
              refine lv_aload_n hx hb d_md_exception_53 rfl (lv_at hl 4 rfl) ?_
              refine hm_get E (tB in_md) hK hH (hw.at 0 rfl) rfl 9 (by decide) (tC wm_376) rfl d_md_exception_54 ?_
              refine lv_aload_n hx hb d_md_exception_57 rfl (lv_at hl 4 rfl) ?_
              refine hm_get E (tB in_md) hK hH (hw.at 0 rfl) rfl 8 (by decide) (tC wm_375) rfl d_md_exception_58 ?_
              refine hm_iald E hK hH 0 (hw.at 2 rfl) rfl (i := nx) (by omega) (by decide) d_md_exception_61 ?_
              refine hm_top (w := .int (nI (o nx))) (by rw [hff nx (Nat.le_refl _)]) ?_
              refine lv_iload_n hx hb d_md_exception_62 rfl (lv_at hl 3 rfl) ?_
              refine hn_iadd hx hb (a := o nx) (b := xz dr i) d_md_exception_63 ?_
              refine lv_aload_n hx hb d_md_exception_64 rfl (lv_at hl 4 rfl) ?_
              refine hm_get E (tB in_md) hK hH (hw.at 0 rfl) rfl 2 (by decide) (tC wm_369) rfl d_md_exception_65 ?_
              refine lv_iload hx hb d_md_exception_68 (lv_at hl 0 rfl) ?_
              refine hm_iald E hK hH 0 (hw.at 1 rfl) rfl (i := i) (by omega) (by decide) d_md_exception_70 ?_
              refine hm_iast E hK hH 0 (hw.at 3 rfl) rfl (i := o nx + (xz dr i)) (by omega) (by decide) d_md_exception_71 (fun H locs hH => ?_)
              have hw := hw.set (ws' := [(y, .inr (4, [.int (nI th), .int (nI dn), .ref d, .int (nI np), .ref be, .ref sg, .ref nu, .int (nI bg), .int (nI nx), .ref fi, .ref le, .ref pl, .int (nI lf), .int (nI rt), .int (nI ln), .ref rw, .ref va, .int (bI ak)])), (d, aI G 200 dr), (fi, aI G 2050 ff), (le, aI G 40000 (upd f (o nx + (xz dr i)) (dr i))), (pl, aJ G 2048 fp)]) (k := 3) rfl rfl
              have hk := hk.wr (a := le) (v := some (aI G 40000 (upd f (o nx + (xz dr i)) (dr i)))) (by first | (right; assumption) | (left; simp; done))
              generalize va_up M le (some (aI G 40000 (upd f (o nx + (xz dr i)) (dr i)))) = M at hH hw hk ⊢
              refine lv_iinc (v := nI (xz dr i + 1)) (lv' := [(1, .int (nI (xz dr i + 1))), (5, .int (nI i)), (4, .int (bI (gxP dr dn i))), (2, .long (cuX dr i)), (0, .ref y)]) hx hb d_md_exception_72 hl (k := 3) rfl (by first | exact nI_add _ 1 | (show nI _ + nI _ = _; rw [nI_add])) (by decide) rfl (fun ls hl => ?_)
              refine lv_goto (tgt := 148) hx hb d_md_exception_75 (by decide) ?_
              refine lv_iinc (v := nI (i + 1)) (lv' := [(5, .int (nI (i + 1))), (1, .int (nI (xz dr i + 1))), (4, .int (bI (gxP dr dn i))), (2, .long (cuX dr i)), (0, .ref y)]) hx hb d_md_exception_148 hl (k := 1) rfl (by first | exact nI_add _ 1 | (show nI _ + nI _ = _; rw [nI_add])) (by decide) rfl (fun ls hl => ?_)
              refine lv_goto (tgt := 21) hx hb d_md_exception_151 (by decide) ?_
              exact ih (i + 1) (upd f (o nx + (xz dr i)) (dr i)) M _ _ _ (by omega) (by omega) (bl_upd hf0 (by omega)) (xl_w hf1 h40) hw hk hH (lv_cv (lv_sub hl [0, 2, 3, 1, 4] rfl) (by rw [cu_l h40]; simp [gxP, xz, h40] <;> rfl))
    exact L21 (dn + 1) 0 fl M _ _ _ (by omega) (by omega) (fun _ _ => rfl) (fun j hj => absurd hj (by simp [xz])) hw hk hH (lv_cv (lv_sub hl [0, 1, 2, 3, 4] rfl) (by simp [gxP, bI_t, bI_f, xz, cuX, show 0 < dn by omega] <;> rfl))
