abbrev q_md_pattern (G : hG) (y th dn d np be sg nu bg nx fi le pl lf rt ln rw va : Nat) (ak : Bool) (dr fb fs fn : Nat → Int32) (o : Nat → Nat) (M : hM) : Option Value → hM → Prop := fun rv M' => ∃ f9 g9 : Nat → Int32, (∀ j, j < o np → f9 j = fs j) ∧ (∀ j, j < o np + np → g9 j = fn j) ∧ (pOk dr dn → (∀ j, j < pz dr dn → f9 (o np + j) = psg dr dn j) ∧ ∀ j, j < pz dr dn + 1 → g9 (o np + np + j) = pN dr dn j) ∧ hm_kp (fun a => a ∈ [y, be, sg, nu]) M M' ∧ ((¬ pOk dr dn ∧ rv = some (.int (nI 0)) ∧ hm_has M' [(y, .inr (4, [.int (nI 1), .int (nI 0), .ref d, .int (nI np), .ref be, .ref sg, .ref nu, .int (nI bg), .int (nI nx), .ref fi, .ref le, .ref pl, .int (nI lf), .int (nI rt), .int (nI ln), .ref rw, .ref va, .int (bI ak)])), (d, aI G 200 dr), (be, aI G 8194 fb), (sg, aI G 40000 f9), (nu, aI G 48200 g9)]) ∨ (pOk dr dn ∧ (∃ q, q < np ∧ (cmP o f9 (o np) (pz dr dn) q (pz dr dn) ∧ o (q + 1) = o q + pz dr dn)) ∧ rv = some (.int (nI 0)) ∧ hm_has M' [(y, .inr (4, [.int (nI 2), .int (nI 0), .ref d, .int (nI np), .ref be, .ref sg, .ref nu, .int (nI bg), .int (nI nx), .ref fi, .ref le, .ref pl, .int (nI lf), .int (nI rt), .int (nI ln), .ref rw, .ref va, .int (bI ak)])), (d, aI G 200 dr), (be, aI G 8194 fb), (sg, aI G 40000 f9), (nu, aI G 48200 g9)]) ∨ ∃ mo, pOk dr dn ∧ ¬ (∃ q, q < np ∧ (cmP o f9 (o np) (pz dr dn) q (pz dr dn) ∧ o (q + 1) = o q + pz dr dn)) ∧ mxP (cmP o f9 (o np) (pz dr dn)) np mo ∧ mo ≤ pz dr dn ∧ rv = some (.int (nI (np + 1))) ∧ hm_has M' [(y, .inr (4, [.int (nI 0), .int (nI 0), .ref d, .int (nI (np + 1)), .ref be, .ref sg, .ref nu, .int (nI (bg + (pz dr dn - mo))), .int (nI nx), .ref fi, .ref le, .ref pl, .int (nI lf), .int (nI rt), .int (nI ln), .ref rw, .ref va, .int (bI ak)])), (d, aI G 200 dr), (be, aI G 8194 (upd fb (np + 1) (nI (o np + pz dr dn)))), (sg, aI G 40000 f9), (nu, aI G 48200 g9)])
set_option maxHeartbeats 4000000 in
set_option maxRecDepth 100000 in
theorem c_md_pattern (l : Launch) (G : hG) (y th dn d np be sg nu bg nx fi le pl lf rt ln rw va : Nat) (ak : Bool) (dr fb fs fn : Nat → Int32) (o : Nat → Nat) (M : hM) (hw : hm_has M [(y, .inr (4, [.int (nI th), .int (nI dn), .ref d, .int (nI np), .ref be, .ref sg, .ref nu, .int (nI bg), .int (nI nx), .ref fi, .ref le, .ref pl, .int (nI lf), .int (nI rt), .int (nI ln), .ref rw, .ref va, .int (bI ak)])), (d, aI G 200 dr), (be, aI G 8194 fb), (sg, aI G 40000 fs), (nu, aI G 48200 fn)]) (hdn : dn ≤ 200) (hby : ∀ k, isBy (dr k)) (hbe : ∀ p, p ≤ np → fb p = nI (o p)) (hmo : ∀ p, p < np → o p ≤ o (p + 1)) (hle : ∀ p, p ≤ np → o p ≤ o np) (hob : o np ≤ 30000) (hnp : np ≤ 600) (hbg : bg ≤ 30000) : Ct (gk G) l G.1 vwC y_md_pattern w_md_pattern { frames := 2, cells := 0, slots := 0, locals := 46 } ([.ref y] : List Value) M (q_md_pattern G y th dn d np be sg nu bg nx fi le pl lf rt ln rw va ak dr fb fs fn o M) 0 0 := by
  refine Ct.ofW (cc := b_md_pattern) (maxL := 6) (ret := (Option.some Jvm.ClassFile.FieldType.int)) (by decide) rfl (Nat.le_of_ble_eq_true rfl) (fun p e s m below meth c A ls E hr hlk hin hg hH hl => ?_)
  have hl : lv_has ls 6 [(0, .ref y)] := hl
  have hx := E.1; have hb := E.2.1; have hml := E.2.2.1; have hown := E.2.2.2.1; have hts := E.2.2.2.2; have hK := hg.1
  obtain ⟨M0, hM0⟩ : ∃ M0 : hM, M0 = M := ⟨M, rfl⟩
  rw [show q_md_pattern G y th dn d np be sg nu bg nx fi le pl lf rt ln rw va ak dr fb fs fn o M = q_md_pattern G y th dn d np be sg nu bg nx fi le pl lf rt ln rw va ak dr fb fs fn o M0 by rw [hM0]]
  have hk : hm_kp (fun a => a ∈ [y, be, sg, nu]) M0 M := by rw [hM0]; exact hm_kp.rf
  refine lv_aload_n hx hb d_md_pattern_0 rfl (lv_at hl 0 rfl) ?_
  have hM1 := c_md_readPattern l G y th dn d np be sg nu bg nx fi le pl lf rt ln rw va ak dr fb fs fn (o np) M hw hdn hby (hbe np (Nat.le_refl _)) (by omega) (by omega) s.heap.size
  have hG1 : GoodIn w_md_pattern (wsV R_md 65 R_md y_md_readPattern w_md_readPattern) := gB_V wm_436 wm_438 wp_10 wm_5 wm_439
  refine hm_call (va_runV (y := y_md_readPattern) (bytes := b_md_readPattern) (maxL := 7) (ws := w_md_readPattern) (rm := { frames := 1, cells := 0, slots := 0, locals := 20 }) (own := R_md) (index := 65) (ret := (Option.some Jvm.ClassFile.FieldType.int)) (C := R_md) (As := []) (rest := []) E hM1 (cwV (y := y_md_readPattern) (bytes := b_md_readPattern) (maxL := 7) (ws := w_md_readPattern) (rm := { frames := 1, cells := 0, slots := 0, locals := 20 }) (own := R_md) (index := 65) (ret := (Option.some Jvm.ClassFile.FieldType.int)) (C := R_md) 0 hts hG1 rfl rfl rfl (by decide +kernel) ⟨Nat.le_of_ble_eq_true rfl, Nat.le_of_ble_eq_true rfl⟩) (hm_preV gk_w gk_s hH hg hK (hw.at 0 rfl) rfl []) rfl rfl hl.1 rfl (lv_room (Nat.le_of_ble_eq_true rfl)) d_md_pattern_1 ⟨(by show _ ≤ 0; omega), (by show _ ≤ 0; omega)⟩) hH (fun r1 M1 H1 locs1 hq1 hH1 => ?_)
  replace hH := hH1; clear hH1; generalize H1 = H at hH ⊢; generalize locs1 = locs at hH ⊢
  obtain ⟨halt, f9, g9, hw1, hf0, hg0, hpk, hk1⟩ := hq1
  have hz9 := pz_le dr dn
  obtain ⟨m9, rfl, hm9, hm2⟩ : ∃ m9, r1 = some (.int (nI m9)) ∧ ((pOk dr dn ∧ m9 = pz dr dn) ∨ (¬ pOk dr dn ∧ m9 = 0)) ∧ m9 ≤ 200 := by
    rcases halt with ⟨a1, a2⟩ | ⟨a1, a2⟩
    · exact ⟨_, a2, Or.inl ⟨a1, rfl⟩, by omega⟩
    · exact ⟨_, a2, Or.inr ⟨a1, rfl⟩, by omega⟩
  replace hw := hw1
  clear hw1 halt
  have hk := hk.tr hk1 (fun a h => by simp at h; rcases h with rfl | rfl <;> simp)
  generalize M1 = M at hH hw hk
  refine lv_istore_n (lv' := [(1, .int (nI m9)), (0, .ref y)]) hx hb d_md_pattern_4 rfl hl (by decide) rfl (fun ls hl => ?_)
  refine lv_iload_n hx hb d_md_pattern_5 rfl (lv_at hl 0 rfl) ?_
  refine hn_if_ne (a := m9) hx hb (by omega) (tgt := 15) d_md_pattern_6 (by decide) (fun h6 => ?_) (fun h6 => ?_)
  · skip
    have hok : pOk dr dn ∧ m9 = pz dr dn := hm9.elim id (fun z => absurd z.2 h6)
    clear hm9
    refine lv_iconst (v := 0) hx hb d_md_pattern_15 (by decide) ?_
    refine lv_istore_n (lv' := [(2, .int 0), (1, .int (nI m9)), (0, .ref y)]) hx hb d_md_pattern_16 rfl hl (by decide) rfl (fun ls hl => ?_)
    refine lv_iconst (v := 0) hx hb d_md_pattern_17 (by decide) ?_
    refine lv_istore_n (lv' := [(3, .int 0), (2, .int 0), (1, .int (nI m9)), (0, .ref y)]) hx hb d_md_pattern_18 rfl hl (by decide) rfl (fun ls hl => ?_)
    refine lv_iconst (v := 0) hx hb d_md_pattern_19 (by decide) ?_
    refine lv_istore (lv' := [(4, .int 0), (3, .int 0), (2, .int 0), (1, .int (nI m9)), (0, .ref y)]) hx hb d_md_pattern_20 hl (by decide) rfl (fun ls hl => ?_)
    have L22 : ∀ (k : Nat) (p0 mo : Nat) (b : Bool) (H : Heap) (locs : List Loc) (ls : Array Slot), np + 1 ≤ p0 + k → p0 ≤ np → mo ≤ m9 → mxP (cmP o f9 (o np) m9) p0 mo → (b = true ↔ ∃ q, q < p0 ∧ (cmP o f9 (o np) m9 q m9 ∧ o (q + 1) = o q + m9)) → hm_I G.1 vwC A s.heap M H locs → lv_has ls 6 [(4, .int (nI p0)), (3, .int (bI b)), (2, .int (nI mo)), (1, .int (nI m9)), (0, .ref y)] → W p l e { frames := 2, cells := 0, slots := 0, locals := 46 } s m ([.ref y] : List Value).toArray below meth c H locs 0 0 (MQ below (hm_Q G.1 vwC (q_md_pattern G y th dn d np be sg nu bg nx fi le pl lf rt ln rw va ak dr fb fs fn o M0) A) ([.ref y] : List Value).toArray s 0 0 A) (F0 m 22 ls []) := by
      intro k
      induction k with
      | zero => intro p0 mo b H locs ls hfu hp0 hmo9 hmx hbb; exact absurd hfu (by omega)
      | succ k ih =>
        intro p0 mo b H locs ls hfu hp0 hmo9 hmx hbb hH hl
        refine lv_iload hx hb d_md_pattern_22 (lv_at hl 0 rfl) ?_
        refine lv_aload_n hx hb d_md_pattern_24 rfl (lv_at hl 4 rfl) ?_
        refine hm_get E (tB in_md) hK hH (hw.at 0 rfl) rfl 3 (by decide) (tC wm_370) rfl d_md_pattern_25 ?_
        refine hn_icmp_ge (a := p0) (b := np) hx hb (by omega) (by omega) (tgt := 105) d_md_pattern_28 (by decide) (fun h28 => ?_) (fun h28 => ?_)
        · skip
          have hpe : p0 = np := by omega
          rw [hpe] at hmx hbb
          clear hp0
          refine lv_iload_n hx hb d_md_pattern_105 rfl (lv_at hl 1 rfl) ?_
          refine hb_if_ne (b := b) hx hb (tgt := 132) d_md_pattern_106 (by decide) (fun h106 => ?_) (fun h106 => ?_)
          · skip
            refine lv_aload_n hx hb d_md_pattern_132 rfl (lv_at hl 4 rfl) ?_
            refine lv_iconst (v := 2) hx hb d_md_pattern_133 (by decide) ?_
            have hM1 := c_md_fails l G y th dn d np be sg nu bg nx fi le pl lf rt ln rw va ak 2 M (hw.sub (ws' := [(y, .inr (4, [.int (nI th), .int (nI dn), .ref d, .int (nI np), .ref be, .ref sg, .ref nu, .int (nI bg), .int (nI nx), .ref fi, .ref le, .ref pl, .int (nI lf), .int (nI rt), .int (nI ln), .ref rw, .ref va, .int (bI ak)]))]) [0] rfl rfl) H.size
            have hG1 : GoodIn w_md_pattern (wsV R_md 69 R_md y_md_fails w_md_fails) := gB_V wm_446 wm_448 wp_11 wm_5 wm_449
            refine hm_call (va_runV (y := y_md_fails) (bytes := b_md_fails) (maxL := 2) (ws := w_md_fails) (rm := { frames := 0, cells := 0, slots := 0, locals := 0 }) (own := R_md) (index := 69) (ret := (Option.some Jvm.ClassFile.FieldType.int)) (C := R_md) (As := [.int 2]) (rest := []) E hM1 (cwV (y := y_md_fails) (bytes := b_md_fails) (maxL := 2) (ws := w_md_fails) (rm := { frames := 0, cells := 0, slots := 0, locals := 0 }) (own := R_md) (index := 69) (ret := (Option.some Jvm.ClassFile.FieldType.int)) (C := R_md) 1 hts hG1 rfl rfl rfl (by decide +kernel) ⟨Nat.le_of_ble_eq_true rfl, Nat.le_of_ble_eq_true rfl⟩) (hm_preV gk_w gk_s hH hg hK (hw.at 0 rfl) rfl [.int 2]) rfl rfl hl.1 rfl (lv_room (Nat.le_of_ble_eq_true rfl)) d_md_pattern_134 ⟨(by show _ ≤ 0; omega), (by show _ ≤ 0; omega)⟩) hH (fun r1 M1 H1 locs1 hq1 hH1 => ?_)
            replace hH := hH1; clear hH1; generalize H1 = H at hH ⊢; generalize locs1 = locs at hH ⊢
            obtain ⟨rfl, hw1, hk1⟩ := hq1
            have hw := hm_join (ws' := [(y, .inr (4, [.int (nI 2), .int (nI 0), .ref d, .int (nI np), .ref be, .ref sg, .ref nu, .int (nI bg), .int (nI nx), .ref fi, .ref le, .ref pl, .int (nI lf), .int (nI rt), .int (nI ln), .ref rw, .ref va, .int (bI ak)])), (d, aI G 200 dr), (be, aI G 8194 fb), (sg, aI G 40000 f9), (nu, aI G 48200 g9)]) (wc := [(y, .inr (4, [.int (nI th), .int (nI dn), .ref d, .int (nI np), .ref be, .ref sg, .ref nu, .int (nI bg), .int (nI nx), .ref fi, .ref le, .ref pl, .int (nI lf), .int (nI rt), .int (nI ln), .ref rw, .ref va, .int (bI ak)]))]) hw hw1 hk1 [0] rfl rfl (fun a h => h) rfl (by
              intro k9 h9
              match k9, h9 with
              | 0, _ => exact Or.inr ⟨0, rfl, rfl⟩
              | 1, _ => exact Or.inl ⟨by decide, rfl⟩
              | 2, _ => exact Or.inl ⟨by decide, rfl⟩
              | 3, _ => exact Or.inl ⟨by decide, rfl⟩
              | 4, _ => exact Or.inl ⟨by decide, rfl⟩
              | k9 + 5, h9 => exact absurd h9 (Nat.not_lt_of_le (Nat.le_add_left _ _)))
            have hk := hk.tr hk1 (fun a h => by simp at h; subst h; simp)
            generalize M1 = M at hH hw hk
            exact hm_iret E hr hlk hH (⟨f9, g9, hf0, hg0, hpk, hk, Or.inr (Or.inl ⟨hok.1, by rw [← hok.2]; exact hbb.mp h106, rfl, hw⟩)⟩) (by omega) (by omega) d_md_pattern_137
          · skip
            refine lv_aload_n hx hb d_md_pattern_109 rfl (lv_at hl 4 rfl) ?_
            refine hm_get E (tB in_md) hK hH (hw.at 0 rfl) rfl 3 (by decide) (tC wm_370) rfl d_md_pattern_110 ?_
            refine lv_sipush (v := 8192) hx hb d_md_pattern_113 (by decide) ?_
            refine hn_icmp_eq (a := np) (b := 8192) hx hb (by omega) (by omega) (tgt := 132) d_md_pattern_116 (by decide) (fun h116 => ?_) (fun h116 => ?_)
            · skip
              omega
            · skip
              refine lv_aload_n hx hb d_md_pattern_119 rfl (lv_at hl 4 rfl) ?_
              refine hm_get E (tB in_md) hK hH (hw.at 0 rfl) rfl 7 (by decide) (tC wm_374) rfl d_md_pattern_120 ?_
              refine lv_iload_n hx hb d_md_pattern_123 rfl (lv_at hl 3 rfl) ?_
              refine hn_iadd hx hb (a := bg) (b := m9) d_md_pattern_124 ?_
              refine lv_iload_n hx hb d_md_pattern_125 rfl (lv_at hl 2 rfl) ?_
              refine hn_isub hx hb (a := bg + m9) (b := mo) (by omega) d_md_pattern_126 ?_
              refine lv_ldc (v := 32768) hx hb hown (hts _ (tC wm_454)) d_md_pattern_127 ?_
              refine hn_icmp_le (a := (bg + m9) - mo) (b := 32768) hx hb (by omega) (by omega) (tgt := 138) d_md_pattern_129 (by decide) (fun h129 => ?_) (fun h129 => ?_)
              · skip
                refine lv_aload_n hx hb d_md_pattern_138 rfl (lv_at hl 4 rfl) ?_
                refine lv_dup hx hb d_md_pattern_139 rfl ?_
                refine hm_get E (tB in_md) hK hH (hw.at 0 rfl) rfl 3 (by decide) (tC wm_370) rfl d_md_pattern_140 ?_
                refine lv_iconst (v := 1) hx hb d_md_pattern_143 (by decide) ?_
                refine hn_iadd hx hb (a := np) (b := 1) d_md_pattern_144 ?_
                refine hm_put E (tB in_md) t_md tk_md nm_md hK hH (hw.at 0 rfl) rfl 3 (by decide) (tC wm_370) rfl rfl rfl (Nat.le_of_ble_eq_true rfl) (fs' := [.int (nI th), .int (nI dn), .ref d, .int (nI (np + 1)), .ref be, .ref sg, .ref nu, .int (nI bg), .int (nI nx), .ref fi, .ref le, .ref pl, .int (nI lf), .int (nI rt), .int (nI ln), .ref rw, .ref va, .int (bI ak)]) rfl d_md_pattern_145 (fun H locs hH => ?_)
                have hw := hw.set (ws' := [(y, .inr (4, [.int (nI th), .int (nI dn), .ref d, .int (nI (np + 1)), .ref be, .ref sg, .ref nu, .int (nI bg), .int (nI nx), .ref fi, .ref le, .ref pl, .int (nI lf), .int (nI rt), .int (nI ln), .ref rw, .ref va, .int (bI ak)])), (d, aI G 200 dr), (be, aI G 8194 fb), (sg, aI G 40000 f9), (nu, aI G 48200 g9)]) (k := 0) rfl rfl
                have hk := hk.wr (a := y) (v := some (.inr (4, [.int (nI th), .int (nI dn), .ref d, .int (nI (np + 1)), .ref be, .ref sg, .ref nu, .int (nI bg), .int (nI nx), .ref fi, .ref le, .ref pl, .int (nI lf), .int (nI rt), .int (nI ln), .ref rw, .ref va, .int (bI ak)]))) (by first | (right; assumption) | (left; simp; done))
                generalize va_up M y (some (.inr (4, [.int (nI th), .int (nI dn), .ref d, .int (nI (np + 1)), .ref be, .ref sg, .ref nu, .int (nI bg), .int (nI nx), .ref fi, .ref le, .ref pl, .int (nI lf), .int (nI rt), .int (nI ln), .ref rw, .ref va, .int (bI ak)]))) = M at hH hw hk ⊢
                refine lv_aload_n hx hb d_md_pattern_148 rfl (lv_at hl 4 rfl) ?_
                refine hm_get E (tB in_md) hK hH (hw.at 0 rfl) rfl 4 (by decide) (tC wm_371) rfl d_md_pattern_149 ?_
                refine lv_aload_n hx hb d_md_pattern_152 rfl (lv_at hl 4 rfl) ?_
                refine hm_get E (tB in_md) hK hH (hw.at 0 rfl) rfl 3 (by decide) (tC wm_370) rfl d_md_pattern_153 ?_
                refine lv_aload_n hx hb d_md_pattern_156 rfl (lv_at hl 4 rfl) ?_
                refine hm_get E (tB in_md) hK hH (hw.at 0 rfl) rfl 4 (by decide) (tC wm_371) rfl d_md_pattern_157 ?_
                refine lv_aload_n hx hb d_md_pattern_160 rfl (lv_at hl 4 rfl) ?_
                refine hm_get E (tB in_md) hK hH (hw.at 0 rfl) rfl 3 (by decide) (tC wm_370) rfl d_md_pattern_161 ?_
                refine lv_iconst (v := 1) hx hb d_md_pattern_164 (by decide) ?_
                refine hn_isub hx hb (a := np + 1) (b := 1) (by omega) d_md_pattern_165 ?_
                refine hm_iald E hK hH 0 (hw.at 2 rfl) rfl (i := (np + 1) - 1) (by omega) (by decide) d_md_pattern_166 ?_
                refine hm_top (w := .int (nI (o np))) (by rw [show np + 1 - 1 = np from rfl, hbe np (Nat.le_refl _)]) ?_
                refine lv_iload_n hx hb d_md_pattern_167 rfl (lv_at hl 3 rfl) ?_
                refine hn_iadd hx hb (a := o np) (b := m9) d_md_pattern_168 ?_
                refine hm_iast E hK hH 0 (hw.at 2 rfl) rfl (i := np + 1) (by omega) (by decide) d_md_pattern_169 (fun H locs hH => ?_)
                have hw := hw.set (ws' := [(y, .inr (4, [.int (nI th), .int (nI dn), .ref d, .int (nI (np + 1)), .ref be, .ref sg, .ref nu, .int (nI bg), .int (nI nx), .ref fi, .ref le, .ref pl, .int (nI lf), .int (nI rt), .int (nI ln), .ref rw, .ref va, .int (bI ak)])), (d, aI G 200 dr), (be, aI G 8194 (upd fb (np + 1) (nI (o np + m9)))), (sg, aI G 40000 f9), (nu, aI G 48200 g9)]) (k := 2) rfl rfl
                have hk := hk.wr (a := be) (v := some (aI G 8194 (upd fb (np + 1) (nI (o np + m9))))) (by first | (right; assumption) | (left; simp; done))
                generalize va_up M be (some (aI G 8194 (upd fb (np + 1) (nI (o np + m9))))) = M at hH hw hk ⊢
                refine lv_aload_n hx hb d_md_pattern_170 rfl (lv_at hl 4 rfl) ?_
                refine lv_dup hx hb d_md_pattern_171 rfl ?_
                refine hm_get E (tB in_md) hK hH (hw.at 0 rfl) rfl 7 (by decide) (tC wm_374) rfl d_md_pattern_172 ?_
                refine lv_iload_n hx hb d_md_pattern_175 rfl (lv_at hl 3 rfl) ?_
                refine lv_iload_n hx hb d_md_pattern_176 rfl (lv_at hl 2 rfl) ?_
                refine hn_isub hx hb (a := m9) (b := mo) (by omega) d_md_pattern_177 ?_
                refine hn_iadd hx hb (a := bg) (b := m9 - mo) d_md_pattern_178 ?_
                refine hm_put E (tB in_md) t_md tk_md nm_md hK hH (hw.at 0 rfl) rfl 7 (by decide) (tC wm_374) rfl rfl rfl (Nat.le_of_ble_eq_true rfl) (fs' := [.int (nI th), .int (nI dn), .ref d, .int (nI (np + 1)), .ref be, .ref sg, .ref nu, .int (nI (bg + (m9 - mo))), .int (nI nx), .ref fi, .ref le, .ref pl, .int (nI lf), .int (nI rt), .int (nI ln), .ref rw, .ref va, .int (bI ak)]) rfl d_md_pattern_179 (fun H locs hH => ?_)
                have hw := hw.set (ws' := [(y, .inr (4, [.int (nI th), .int (nI dn), .ref d, .int (nI (np + 1)), .ref be, .ref sg, .ref nu, .int (nI (bg + (m9 - mo))), .int (nI nx), .ref fi, .ref le, .ref pl, .int (nI lf), .int (nI rt), .int (nI ln), .ref rw, .ref va, .int (bI ak)])), (d, aI G 200 dr), (be, aI G 8194 (upd fb (np + 1) (nI (o np + m9)))), (sg, aI G 40000 f9), (nu, aI G 48200 g9)]) (k := 0) rfl rfl
                have hk := hk.wr (a := y) (v := some (.inr (4, [.int (nI th), .int (nI dn), .ref d, .int (nI (np + 1)), .ref be, .ref sg, .ref nu, .int (nI (bg + (m9 - mo))), .int (nI nx), .ref fi, .ref le, .ref pl, .int (nI lf), .int (nI rt), .int (nI ln), .ref rw, .ref va, .int (bI ak)]))) (by first | (right; assumption) | (left; simp; done))
                generalize va_up M y (some (.inr (4, [.int (nI th), .int (nI dn), .ref d, .int (nI (np + 1)), .ref be, .ref sg, .ref nu, .int (nI (bg + (m9 - mo))), .int (nI nx), .ref fi, .ref le, .ref pl, .int (nI lf), .int (nI rt), .int (nI ln), .ref rw, .ref va, .int (bI ak)]))) = M at hH hw hk ⊢
                refine lv_aload_n hx hb d_md_pattern_182 rfl (lv_at hl 4 rfl) ?_
                refine lv_iconst (v := 0) hx hb d_md_pattern_183 (by decide) ?_
                have hM1 := c_md_fails l G y th dn d (np + 1) be sg nu (bg + (m9 - mo)) nx fi le pl lf rt ln rw va ak 0 M (hw.sub (ws' := [(y, .inr (4, [.int (nI th), .int (nI dn), .ref d, .int (nI (np + 1)), .ref be, .ref sg, .ref nu, .int (nI (bg + (m9 - mo))), .int (nI nx), .ref fi, .ref le, .ref pl, .int (nI lf), .int (nI rt), .int (nI ln), .ref rw, .ref va, .int (bI ak)]))]) [0] rfl rfl) H.size
                have hG1 : GoodIn w_md_pattern (wsV R_md 69 R_md y_md_fails w_md_fails) := gB_V wm_446 wm_448 wp_11 wm_5 wm_449
                refine hm_call (va_runV (y := y_md_fails) (bytes := b_md_fails) (maxL := 2) (ws := w_md_fails) (rm := { frames := 0, cells := 0, slots := 0, locals := 0 }) (own := R_md) (index := 69) (ret := (Option.some Jvm.ClassFile.FieldType.int)) (C := R_md) (As := [.int 0]) (rest := []) E hM1 (cwV (y := y_md_fails) (bytes := b_md_fails) (maxL := 2) (ws := w_md_fails) (rm := { frames := 0, cells := 0, slots := 0, locals := 0 }) (own := R_md) (index := 69) (ret := (Option.some Jvm.ClassFile.FieldType.int)) (C := R_md) 1 hts hG1 rfl rfl rfl (by decide +kernel) ⟨Nat.le_of_ble_eq_true rfl, Nat.le_of_ble_eq_true rfl⟩) (hm_preV gk_w gk_s hH hg hK (hw.at 0 rfl) rfl [.int 0]) rfl rfl hl.1 rfl (lv_room (Nat.le_of_ble_eq_true rfl)) d_md_pattern_184 ⟨(by show _ ≤ 0; omega), (by show _ ≤ 0; omega)⟩) hH (fun r1 M1 H1 locs1 hq1 hH1 => ?_)
                replace hH := hH1; clear hH1; generalize H1 = H at hH ⊢; generalize locs1 = locs at hH ⊢
                obtain ⟨rfl, hw1, hk1⟩ := hq1
                have hw := hm_join (ws' := [(y, .inr (4, [.int (nI 0), .int (nI 0), .ref d, .int (nI (np + 1)), .ref be, .ref sg, .ref nu, .int (nI (bg + (m9 - mo))), .int (nI nx), .ref fi, .ref le, .ref pl, .int (nI lf), .int (nI rt), .int (nI ln), .ref rw, .ref va, .int (bI ak)])), (d, aI G 200 dr), (be, aI G 8194 (upd fb (np + 1) (nI (o np + m9)))), (sg, aI G 40000 f9), (nu, aI G 48200 g9)]) (wc := [(y, .inr (4, [.int (nI th), .int (nI dn), .ref d, .int (nI (np + 1)), .ref be, .ref sg, .ref nu, .int (nI (bg + (m9 - mo))), .int (nI nx), .ref fi, .ref le, .ref pl, .int (nI lf), .int (nI rt), .int (nI ln), .ref rw, .ref va, .int (bI ak)]))]) hw hw1 hk1 [0] rfl rfl (fun a h => h) rfl (by
                  intro k9 h9
                  match k9, h9 with
                  | 0, _ => exact Or.inr ⟨0, rfl, rfl⟩
                  | 1, _ => exact Or.inl ⟨by decide, rfl⟩
                  | 2, _ => exact Or.inl ⟨by decide, rfl⟩
                  | 3, _ => exact Or.inl ⟨by decide, rfl⟩
                  | 4, _ => exact Or.inl ⟨by decide, rfl⟩
                  | k9 + 5, h9 => exact absurd h9 (Nat.not_lt_of_le (Nat.le_add_left _ _)))
                have hk := hk.tr hk1 (fun a h => by simp at h; subst h; simp)
                generalize M1 = M at hH hw hk
                refine lv_pop hx hb d_md_pattern_187 rfl ?_
                refine lv_aload_n hx hb d_md_pattern_188 rfl (lv_at hl 4 rfl) ?_
                refine hm_get E (tB in_md) hK hH (hw.at 0 rfl) rfl 3 (by decide) (tC wm_370) rfl d_md_pattern_189 ?_
                exact hm_iret E hr hlk hH (⟨f9, g9, hf0, hg0, hpk, hk, Or.inr (Or.inr ⟨mo, hok.1, by rw [← hok.2]; exact fun z => (by have h8 := hbb.mpr z; rw [h106] at h8; cases h8), by rw [← hok.2]; exact hmx, by rw [← hok.2]; exact hmo9, rfl, by rw [← hok.2]; exact hw⟩)⟩) (by omega) (by omega) d_md_pattern_192
              · skip
                omega
        · skip
          have hmo1 := hmo p0 (by omega)
          have hle1 := hle (p0 + 1) (by omega)
          refine lv_aload_n hx hb d_md_pattern_31 rfl (lv_at hl 4 rfl) ?_
          refine lv_aload_n hx hb d_md_pattern_32 rfl (lv_at hl 4 rfl) ?_
          refine hm_get E (tB in_md) hK hH (hw.at 0 rfl) rfl 4 (by decide) (tC wm_371) rfl d_md_pattern_33 ?_
          refine lv_aload_n hx hb d_md_pattern_36 rfl (lv_at hl 4 rfl) ?_
          refine hm_get E (tB in_md) hK hH (hw.at 0 rfl) rfl 3 (by decide) (tC wm_370) rfl d_md_pattern_37 ?_
          refine hm_iald E hK hH 0 (hw.at 2 rfl) rfl (i := np) (by omega) (by decide) d_md_pattern_40 ?_
          refine hm_top (w := .int (nI (o np))) (by rw [hbe np (Nat.le_refl _)]) ?_
          refine lv_iload_n hx hb d_md_pattern_41 rfl (lv_at hl 3 rfl) ?_
          refine lv_iload hx hb d_md_pattern_42 (lv_at hl 0 rfl) ?_
          have hM1 := c_md_common l G y th dn d np be sg nu bg nx fi le pl lf rt ln rw va ak fb f9 o (o np) m9 p0 M (hw.sub (ws' := [(y, .inr (4, [.int (nI th), .int (nI dn), .ref d, .int (nI np), .ref be, .ref sg, .ref nu, .int (nI bg), .int (nI nx), .ref fi, .ref le, .ref pl, .int (nI lf), .int (nI rt), .int (nI ln), .ref rw, .ref va, .int (bI ak)])), (be, aI G 8194 fb), (sg, aI G 40000 f9)]) [0, 2, 3] rfl rfl) (hbe p0 (by omega)) (hbe (p0 + 1) (by omega)) hmo1 (by omega) (by omega) (by omega) H.size
          have hG1 : GoodIn w_md_pattern (wsV R_md 73 R_md y_md_common w_md_common) := gB_V wm_450 wm_452 wp_12 wm_5 wm_453
          refine hm_call (va_runV (y := y_md_common) (bytes := b_md_common) (maxL := 5) (ws := w_md_common) (rm := { frames := 0, cells := 0, slots := 0, locals := 0 }) (own := R_md) (index := 73) (ret := (Option.some Jvm.ClassFile.FieldType.int)) (C := R_md) (As := [.int (nI (o np)), .int (nI m9), .int (nI p0)]) (rest := []) E hM1 (cwV (y := y_md_common) (bytes := b_md_common) (maxL := 5) (ws := w_md_common) (rm := { frames := 0, cells := 0, slots := 0, locals := 0 }) (own := R_md) (index := 73) (ret := (Option.some Jvm.ClassFile.FieldType.int)) (C := R_md) 3 hts hG1 rfl rfl rfl (by decide +kernel) ⟨Nat.le_of_ble_eq_true rfl, Nat.le_of_ble_eq_true rfl⟩) (hm_preV gk_w gk_s hH hg hK (hw.at 0 rfl) rfl [.int (nI (o np)), .int (nI m9), .int (nI p0)]) rfl rfl hl.1 rfl (lv_room (Nat.le_of_ble_eq_true rfl)) d_md_pattern_44 ⟨(by show _ ≤ 0; omega), (by show _ ≤ 0; omega)⟩) hH (fun r1 M1 H1 locs1 hq1 hH1 => ?_)
          replace hH := hH1; clear hH1; generalize H1 = H at hH ⊢; generalize locs1 = locs at hH ⊢
          obtain ⟨k9, rfl, hcm, e9⟩ := hq1
          rw [e9] at hH
          have hk9 := hcm.1
          refine lv_istore (lv' := [(5, .int (nI k9)), (4, .int (nI p0)), (3, .int (bI b)), (2, .int (nI mo)), (1, .int (nI m9)), (0, .ref y)]) hx hb d_md_pattern_47 hl (by decide) rfl (fun ls hl => ?_)
          refine lv_iload hx hb d_md_pattern_49 (lv_at hl 0 rfl) ?_
          refine lv_iload_n hx hb d_md_pattern_51 rfl (lv_at hl 3 rfl) ?_
          refine hn_icmp_le (a := k9) (b := mo) hx hb (by omega) (by omega) (tgt := 60) d_md_pattern_52 (by decide) (fun h52 => ?_) (fun h52 => ?_)
          · skip
            refine lv_iload_n hx hb d_md_pattern_60 rfl (lv_at hl 3 rfl) ?_
            refine lv_istore_n (lv' := [(2, .int (nI mo)), (5, .int (nI k9)), (4, .int (nI p0)), (3, .int (bI b)), (1, .int (nI m9)), (0, .ref y)]) hx hb d_md_pattern_61 rfl hl (by decide) rfl (fun ls hl => ?_)
            refine lv_iload_n hx hb d_md_pattern_62 rfl (lv_at hl 3 rfl) ?_
            refine hb_if_ne (b := b) hx hb (tgt := 93) d_md_pattern_63 (by decide) (fun h63 => ?_) (fun h63 => ?_)
            · skip
              refine lv_iconst (v := 1) hx hb d_md_pattern_93 (by decide) ?_
              refine lv_goto (tgt := 98) hx hb d_md_pattern_94 (by decide) ?_
              refine lv_istore_n (lv' := [(3, .int 1), (2, .int (nI mo)), (5, .int (nI k9)), (4, .int (nI p0)), (1, .int (nI m9)), (0, .ref y)]) hx hb d_md_pattern_98 rfl hl (by decide) rfl (fun ls hl => ?_)
              refine lv_iinc (v := nI (p0 + 1)) (lv' := [(4, .int (nI (p0 + 1))), (3, .int 1), (2, .int (nI mo)), (5, .int (nI k9)), (1, .int (nI m9)), (0, .ref y)]) hx hb d_md_pattern_99 hl (k := 3) rfl (by first | exact nI_add _ 1 | (show nI _ + nI _ = _; rw [nI_add])) (by decide) rfl (fun ls hl => ?_)
              refine lv_goto (tgt := 22) hx hb d_md_pattern_102 (by decide) ?_
              exact ih (p0 + 1) mo true _ _ _ (by omega) (by omega) (by omega) (mx_le hmx (fun k hk => cmP_un hk hcm) h52) (⟨fun _ => ex_S.mpr (Or.inl (hbb.mp h63)), fun _ => rfl⟩) hH (lv_sub hl [0, 1, 2, 4, 5] rfl)
            · skip
              refine lv_iload hx hb d_md_pattern_66 (lv_at hl 1 rfl) ?_
              refine lv_iload_n hx hb d_md_pattern_68 rfl (lv_at hl 4 rfl) ?_
              refine hn_icmp_ne (a := k9) (b := m9) hx hb (by omega) (by omega) (tgt := 97) d_md_pattern_69 (by decide) (fun h69 => ?_) (fun h69 => ?_)
              · skip
                refine lv_iconst (v := 0) hx hb d_md_pattern_97 (by decide) ?_
                refine lv_istore_n (lv' := [(3, .int 0), (2, .int (nI mo)), (5, .int (nI k9)), (4, .int (nI p0)), (1, .int (nI m9)), (0, .ref y)]) hx hb d_md_pattern_98 rfl hl (by decide) rfl (fun ls hl => ?_)
                refine lv_iinc (v := nI (p0 + 1)) (lv' := [(4, .int (nI (p0 + 1))), (3, .int 0), (2, .int (nI mo)), (5, .int (nI k9)), (1, .int (nI m9)), (0, .ref y)]) hx hb d_md_pattern_99 hl (k := 3) rfl (by first | exact nI_add _ 1 | (show nI _ + nI _ = _; rw [nI_add])) (by decide) rfl (fun ls hl => ?_)
                refine lv_goto (tgt := 22) hx hb d_md_pattern_102 (by decide) ?_
                exact ih (p0 + 1) mo false _ _ _ (by omega) (by omega) (by omega) (mx_le hmx (fun k hk => cmP_un hk hcm) h52) (⟨fun z => (by cases z), fun z => absurd z (fun z => (ex_S.mp z).elim (fun y => by have h8 := hbb.mpr y; rw [h63] at h8; cases h8) (fun y => h69 (cmP_un hcm y.1)))⟩) hH (lv_sub hl [0, 1, 2, 4, 5] rfl)
              · skip
                refine lv_aload_n hx hb d_md_pattern_72 rfl (lv_at hl 5 rfl) ?_
                refine hm_get E (tB in_md) hK hH (hw.at 0 rfl) rfl 4 (by decide) (tC wm_371) rfl d_md_pattern_73 ?_
                refine lv_iload hx hb d_md_pattern_76 (lv_at hl 2 rfl) ?_
                refine lv_iconst (v := 1) hx hb d_md_pattern_78 (by decide) ?_
                refine hn_iadd hx hb (a := p0) (b := 1) d_md_pattern_79 ?_
                refine hm_iald E hK hH 0 (hw.at 2 rfl) rfl (i := p0 + 1) (by omega) (by decide) d_md_pattern_80 ?_
                refine hm_top (w := .int (nI (o (p0 + 1)))) (by rw [hbe (p0 + 1) (by omega)]) ?_
                refine lv_aload_n hx hb d_md_pattern_81 rfl (lv_at hl 5 rfl) ?_
                refine hm_get E (tB in_md) hK hH (hw.at 0 rfl) rfl 4 (by decide) (tC wm_371) rfl d_md_pattern_82 ?_
                refine lv_iload hx hb d_md_pattern_85 (lv_at hl 2 rfl) ?_
                refine hm_iald E hK hH 0 (hw.at 2 rfl) rfl (i := p0) (by omega) (by decide) d_md_pattern_87 ?_
                refine hm_top (w := .int (nI (o p0))) (by rw [hbe p0 (by omega)]) ?_
                refine hn_isub hx hb (a := o (p0 + 1)) (b := o p0) (by omega) d_md_pattern_88 ?_
                refine lv_iload_n hx hb d_md_pattern_89 rfl (lv_at hl 4 rfl) ?_
                refine hn_icmp_ne (a := (o (p0 + 1)) - (o p0)) (b := m9) hx hb (by omega) (by omega) (tgt := 97) d_md_pattern_90 (by decide) (fun h90 => ?_) (fun h90 => ?_)
                · skip
                  refine lv_iconst (v := 0) hx hb d_md_pattern_97 (by decide) ?_
                  refine lv_istore_n (lv' := [(3, .int 0), (2, .int (nI mo)), (5, .int (nI k9)), (4, .int (nI p0)), (1, .int (nI m9)), (0, .ref y)]) hx hb d_md_pattern_98 rfl hl (by decide) rfl (fun ls hl => ?_)
                  refine lv_iinc (v := nI (p0 + 1)) (lv' := [(4, .int (nI (p0 + 1))), (3, .int 0), (2, .int (nI mo)), (5, .int (nI k9)), (1, .int (nI m9)), (0, .ref y)]) hx hb d_md_pattern_99 hl (k := 3) rfl (by first | exact nI_add _ 1 | (show nI _ + nI _ = _; rw [nI_add])) (by decide) rfl (fun ls hl => ?_)
                  refine lv_goto (tgt := 22) hx hb d_md_pattern_102 (by decide) ?_
                  exact ih (p0 + 1) mo false _ _ _ (by omega) (by omega) (by omega) (mx_le hmx (fun k hk => cmP_un hk hcm) h52) (⟨fun z => (by cases z), fun z => absurd z (fun z => (ex_S.mp z).elim (fun y => by have h8 := hbb.mpr y; rw [h63] at h8; cases h8) (fun y => h90 (by have := y.2; omega)))⟩) hH (lv_sub hl [0, 1, 2, 4, 5] rfl)
                · skip
                  refine lv_iconst (v := 1) hx hb d_md_pattern_93 (by decide) ?_
                  refine lv_goto (tgt := 98) hx hb d_md_pattern_94 (by decide) ?_
                  refine lv_istore_n (lv' := [(3, .int 1), (2, .int (nI mo)), (5, .int (nI k9)), (4, .int (nI p0)), (1, .int (nI m9)), (0, .ref y)]) hx hb d_md_pattern_98 rfl hl (by decide) rfl (fun ls hl => ?_)
                  refine lv_iinc (v := nI (p0 + 1)) (lv' := [(4, .int (nI (p0 + 1))), (3, .int 1), (2, .int (nI mo)), (5, .int (nI k9)), (1, .int (nI m9)), (0, .ref y)]) hx hb d_md_pattern_99 hl (k := 3) rfl (by first | exact nI_add _ 1 | (show nI _ + nI _ = _; rw [nI_add])) (by decide) rfl (fun ls hl => ?_)
                  refine lv_goto (tgt := 22) hx hb d_md_pattern_102 (by decide) ?_
                  exact ih (p0 + 1) mo true _ _ _ (by omega) (by omega) (by omega) (mx_le hmx (fun k hk => cmP_un hk hcm) h52) (⟨fun _ => ex_S.mpr (Or.inr ⟨by rw [h69] at hcm; exact hcm, by omega⟩), fun _ => rfl⟩) hH (lv_sub hl [0, 1, 2, 4, 5] rfl)
          · skip
            refine lv_iload hx hb d_md_pattern_55 (lv_at hl 0 rfl) ?_
            refine lv_goto (tgt := 61) hx hb d_md_pattern_57 (by decide) ?_
            refine lv_istore_n (lv' := [(2, .int (nI k9)), (5, .int (nI k9)), (4, .int (nI p0)), (3, .int (bI b)), (1, .int (nI m9)), (0, .ref y)]) hx hb d_md_pattern_61 rfl hl (by decide) rfl (fun ls hl => ?_)
            refine lv_iload_n hx hb d_md_pattern_62 rfl (lv_at hl 3 rfl) ?_
            refine hb_if_ne (b := b) hx hb (tgt := 93) d_md_pattern_63 (by decide) (fun h63 => ?_) (fun h63 => ?_)
            · skip
              refine lv_iconst (v := 1) hx hb d_md_pattern_93 (by decide) ?_
              refine lv_goto (tgt := 98) hx hb d_md_pattern_94 (by decide) ?_
              refine lv_istore_n (lv' := [(3, .int 1), (2, .int (nI k9)), (5, .int (nI k9)), (4, .int (nI p0)), (1, .int (nI m9)), (0, .ref y)]) hx hb d_md_pattern_98 rfl hl (by decide) rfl (fun ls hl => ?_)
              refine lv_iinc (v := nI (p0 + 1)) (lv' := [(4, .int (nI (p0 + 1))), (3, .int 1), (2, .int (nI k9)), (5, .int (nI k9)), (1, .int (nI m9)), (0, .ref y)]) hx hb d_md_pattern_99 hl (k := 3) rfl (by first | exact nI_add _ 1 | (show nI _ + nI _ = _; rw [nI_add])) (by decide) rfl (fun ls hl => ?_)
              refine lv_goto (tgt := 22) hx hb d_md_pattern_102 (by decide) ?_
              exact ih (p0 + 1) k9 true _ _ _ (by omega) (by omega) (by omega) (mx_gt hmx hcm (fun k hk => cmP_un hk hcm) h52) (⟨fun _ => ex_S.mpr (Or.inl (hbb.mp h63)), fun _ => rfl⟩) hH (lv_sub hl [0, 1, 2, 4, 5] rfl)
            · skip
              refine lv_iload hx hb d_md_pattern_66 (lv_at hl 1 rfl) ?_
              refine lv_iload_n hx hb d_md_pattern_68 rfl (lv_at hl 4 rfl) ?_
              refine hn_icmp_ne (a := k9) (b := m9) hx hb (by omega) (by omega) (tgt := 97) d_md_pattern_69 (by decide) (fun h69 => ?_) (fun h69 => ?_)
              · skip
                refine lv_iconst (v := 0) hx hb d_md_pattern_97 (by decide) ?_
                refine lv_istore_n (lv' := [(3, .int 0), (2, .int (nI k9)), (5, .int (nI k9)), (4, .int (nI p0)), (1, .int (nI m9)), (0, .ref y)]) hx hb d_md_pattern_98 rfl hl (by decide) rfl (fun ls hl => ?_)
                refine lv_iinc (v := nI (p0 + 1)) (lv' := [(4, .int (nI (p0 + 1))), (3, .int 0), (2, .int (nI k9)), (5, .int (nI k9)), (1, .int (nI m9)), (0, .ref y)]) hx hb d_md_pattern_99 hl (k := 3) rfl (by first | exact nI_add _ 1 | (show nI _ + nI _ = _; rw [nI_add])) (by decide) rfl (fun ls hl => ?_)
                refine lv_goto (tgt := 22) hx hb d_md_pattern_102 (by decide) ?_
                exact ih (p0 + 1) k9 false _ _ _ (by omega) (by omega) (by omega) (mx_gt hmx hcm (fun k hk => cmP_un hk hcm) h52) (⟨fun z => (by cases z), fun z => absurd z (fun z => (ex_S.mp z).elim (fun y => by have h8 := hbb.mpr y; rw [h63] at h8; cases h8) (fun y => h69 (cmP_un hcm y.1)))⟩) hH (lv_sub hl [0, 1, 2, 4, 5] rfl)
              · skip
                refine lv_aload_n hx hb d_md_pattern_72 rfl (lv_at hl 5 rfl) ?_
                refine hm_get E (tB in_md) hK hH (hw.at 0 rfl) rfl 4 (by decide) (tC wm_371) rfl d_md_pattern_73 ?_
                refine lv_iload hx hb d_md_pattern_76 (lv_at hl 2 rfl) ?_
                refine lv_iconst (v := 1) hx hb d_md_pattern_78 (by decide) ?_
                refine hn_iadd hx hb (a := p0) (b := 1) d_md_pattern_79 ?_
                refine hm_iald E hK hH 0 (hw.at 2 rfl) rfl (i := p0 + 1) (by omega) (by decide) d_md_pattern_80 ?_
                refine hm_top (w := .int (nI (o (p0 + 1)))) (by rw [hbe (p0 + 1) (by omega)]) ?_
                refine lv_aload_n hx hb d_md_pattern_81 rfl (lv_at hl 5 rfl) ?_
                refine hm_get E (tB in_md) hK hH (hw.at 0 rfl) rfl 4 (by decide) (tC wm_371) rfl d_md_pattern_82 ?_
                refine lv_iload hx hb d_md_pattern_85 (lv_at hl 2 rfl) ?_
                refine hm_iald E hK hH 0 (hw.at 2 rfl) rfl (i := p0) (by omega) (by decide) d_md_pattern_87 ?_
                refine hm_top (w := .int (nI (o p0))) (by rw [hbe p0 (by omega)]) ?_
                refine hn_isub hx hb (a := o (p0 + 1)) (b := o p0) (by omega) d_md_pattern_88 ?_
                refine lv_iload_n hx hb d_md_pattern_89 rfl (lv_at hl 4 rfl) ?_
                refine hn_icmp_ne (a := (o (p0 + 1)) - (o p0)) (b := m9) hx hb (by omega) (by omega) (tgt := 97) d_md_pattern_90 (by decide) (fun h90 => ?_) (fun h90 => ?_)
                · skip
                  refine lv_iconst (v := 0) hx hb d_md_pattern_97 (by decide) ?_
                  refine lv_istore_n (lv' := [(3, .int 0), (2, .int (nI k9)), (5, .int (nI k9)), (4, .int (nI p0)), (1, .int (nI m9)), (0, .ref y)]) hx hb d_md_pattern_98 rfl hl (by decide) rfl (fun ls hl => ?_)
                  refine lv_iinc (v := nI (p0 + 1)) (lv' := [(4, .int (nI (p0 + 1))), (3, .int 0), (2, .int (nI k9)), (5, .int (nI k9)), (1, .int (nI m9)), (0, .ref y)]) hx hb d_md_pattern_99 hl (k := 3) rfl (by first | exact nI_add _ 1 | (show nI _ + nI _ = _; rw [nI_add])) (by decide) rfl (fun ls hl => ?_)
                  refine lv_goto (tgt := 22) hx hb d_md_pattern_102 (by decide) ?_
                  exact ih (p0 + 1) k9 false _ _ _ (by omega) (by omega) (by omega) (mx_gt hmx hcm (fun k hk => cmP_un hk hcm) h52) (⟨fun z => (by cases z), fun z => absurd z (fun z => (ex_S.mp z).elim (fun y => by have h8 := hbb.mpr y; rw [h63] at h8; cases h8) (fun y => h90 (by have := y.2; omega)))⟩) hH (lv_sub hl [0, 1, 2, 4, 5] rfl)
                · skip
                  refine lv_iconst (v := 1) hx hb d_md_pattern_93 (by decide) ?_
                  refine lv_goto (tgt := 98) hx hb d_md_pattern_94 (by decide) ?_
                  refine lv_istore_n (lv' := [(3, .int 1), (2, .int (nI k9)), (5, .int (nI k9)), (4, .int (nI p0)), (1, .int (nI m9)), (0, .ref y)]) hx hb d_md_pattern_98 rfl hl (by decide) rfl (fun ls hl => ?_)
                  refine lv_iinc (v := nI (p0 + 1)) (lv' := [(4, .int (nI (p0 + 1))), (3, .int 1), (2, .int (nI k9)), (5, .int (nI k9)), (1, .int (nI m9)), (0, .ref y)]) hx hb d_md_pattern_99 hl (k := 3) rfl (by first | exact nI_add _ 1 | (show nI _ + nI _ = _; rw [nI_add])) (by decide) rfl (fun ls hl => ?_)
                  refine lv_goto (tgt := 22) hx hb d_md_pattern_102 (by decide) ?_
                  exact ih (p0 + 1) k9 true _ _ _ (by omega) (by omega) (by omega) (mx_gt hmx hcm (fun k hk => cmP_un hk hcm) h52) (⟨fun _ => ex_S.mpr (Or.inr ⟨by rw [h69] at hcm; exact hcm, by omega⟩), fun _ => rfl⟩) hH (lv_sub hl [0, 1, 2, 4, 5] rfl)
    exact L22 (np + 1) 0 0 false _ _ _ (by omega) (by omega) (by omega) mx_0 ⟨fun z => (by cases z), fun ⟨q, h, _⟩ => absurd h (by omega)⟩ hH (lv_sub hl [0, 1, 2, 3, 4] rfl)
  · skip
    refine lv_aload_n hx hb d_md_pattern_9 rfl (lv_at hl 1 rfl) ?_
    refine lv_iconst (v := 1) hx hb d_md_pattern_10 (by decide) ?_
    have hM1 := c_md_fails l G y th dn d np be sg nu bg nx fi le pl lf rt ln rw va ak 1 M (hw.sub (ws' := [(y, .inr (4, [.int (nI th), .int (nI dn), .ref d, .int (nI np), .ref be, .ref sg, .ref nu, .int (nI bg), .int (nI nx), .ref fi, .ref le, .ref pl, .int (nI lf), .int (nI rt), .int (nI ln), .ref rw, .ref va, .int (bI ak)]))]) [0] rfl rfl) H.size
    have hG1 : GoodIn w_md_pattern (wsV R_md 69 R_md y_md_fails w_md_fails) := gB_V wm_446 wm_448 wp_11 wm_5 wm_449
    refine hm_call (va_runV (y := y_md_fails) (bytes := b_md_fails) (maxL := 2) (ws := w_md_fails) (rm := { frames := 0, cells := 0, slots := 0, locals := 0 }) (own := R_md) (index := 69) (ret := (Option.some Jvm.ClassFile.FieldType.int)) (C := R_md) (As := [.int 1]) (rest := []) E hM1 (cwV (y := y_md_fails) (bytes := b_md_fails) (maxL := 2) (ws := w_md_fails) (rm := { frames := 0, cells := 0, slots := 0, locals := 0 }) (own := R_md) (index := 69) (ret := (Option.some Jvm.ClassFile.FieldType.int)) (C := R_md) 1 hts hG1 rfl rfl rfl (by decide +kernel) ⟨Nat.le_of_ble_eq_true rfl, Nat.le_of_ble_eq_true rfl⟩) (hm_preV gk_w gk_s hH hg hK (hw.at 0 rfl) rfl [.int 1]) rfl rfl hl.1 rfl (lv_room (Nat.le_of_ble_eq_true rfl)) d_md_pattern_11 ⟨(by show _ ≤ 0; omega), (by show _ ≤ 0; omega)⟩) hH (fun r1 M1 H1 locs1 hq1 hH1 => ?_)
    replace hH := hH1; clear hH1; generalize H1 = H at hH ⊢; generalize locs1 = locs at hH ⊢
    obtain ⟨rfl, hw1, hk1⟩ := hq1
    have hw := hm_join (ws' := [(y, .inr (4, [.int (nI 1), .int (nI 0), .ref d, .int (nI np), .ref be, .ref sg, .ref nu, .int (nI bg), .int (nI nx), .ref fi, .ref le, .ref pl, .int (nI lf), .int (nI rt), .int (nI ln), .ref rw, .ref va, .int (bI ak)])), (d, aI G 200 dr), (be, aI G 8194 fb), (sg, aI G 40000 f9), (nu, aI G 48200 g9)]) (wc := [(y, .inr (4, [.int (nI th), .int (nI dn), .ref d, .int (nI np), .ref be, .ref sg, .ref nu, .int (nI bg), .int (nI nx), .ref fi, .ref le, .ref pl, .int (nI lf), .int (nI rt), .int (nI ln), .ref rw, .ref va, .int (bI ak)]))]) hw hw1 hk1 [0] rfl rfl (fun a h => h) rfl (by
      intro k9 h9
      match k9, h9 with
      | 0, _ => exact Or.inr ⟨0, rfl, rfl⟩
      | 1, _ => exact Or.inl ⟨by decide, rfl⟩
      | 2, _ => exact Or.inl ⟨by decide, rfl⟩
      | 3, _ => exact Or.inl ⟨by decide, rfl⟩
      | 4, _ => exact Or.inl ⟨by decide, rfl⟩
      | k9 + 5, h9 => exact absurd h9 (Nat.not_lt_of_le (Nat.le_add_left _ _)))
    have hk := hk.tr hk1 (fun a h => by simp at h; subst h; simp)
    generalize M1 = M at hH hw hk
    exact hm_iret E hr hlk hH (⟨f9, g9, hf0, hg0, hpk, hk, Or.inl ⟨fun z => (by rcases hm9 with y | y; exact absurd (pOk_len z).1 (by rw [← y.2]; omega); exact y.1 z), rfl, hw⟩⟩) (by omega) (by omega) d_md_pattern_14
