abbrev q_md_isLetter (G : hG) (b : Int32) (M : hM) : Option Value → hM → Prop := fun rv M' => rv = some (.int (bI (isL b))) ∧ M' = M
set_option maxHeartbeats 4000000 in
set_option maxRecDepth 100000 in
theorem c_md_isLetter (l : Launch) (G : hG) (b : Int32) (M : hM) (hby : isBy b) : Ct (gk G) l G.1 vwC y_md_isLetter w_md_isLetter { frames := 0, cells := 0, slots := 0, locals := 0 } ([.int b] : List Value) M (q_md_isLetter G b M) 0 0 := by
  refine Ct.ofW (cc := b_md_isLetter) (maxL := 1) (ret := (Option.some Jvm.ClassFile.FieldType.boolean)) (by decide) rfl (Nat.le_of_ble_eq_true rfl) (fun p e s m below meth c A ls E hr hlk hin hg hH hl => ?_)
  have hl : lv_has ls 1 [(0, .int b)] := hl
  have hx := E.1; have hb := E.2.1; have hml := E.2.2.1; have hown := E.2.2.2.1; have hts := E.2.2.2.2; have hK := hg.1
  obtain ⟨M0, hM0⟩ : ∃ M0 : hM, M0 = M := ⟨M, rfl⟩
  rw [show q_md_isLetter G b M = q_md_isLetter G b M0 by rw [hM0]]
  obtain ⟨hy0, hy1⟩ := hby
  refine lv_iload_n hx hb d_md_isLetter_0 rfl (lv_at hl 0 rfl) ?_
  refine lv_bipush (v := 96) hx hb d_md_isLetter_1 (by decide) ?_
  refine hr_icmp_le (x := b) (y := 96) (c9 := 96) hx hb (by decide) (tgt := 12) d_md_isLetter_3 (by decide) (fun h3 => ?_) (fun h3 => ?_)
  · skip
    refine lv_iload_n hx hb d_md_isLetter_12 rfl (lv_at hl 0 rfl) ?_
    refine lv_bipush (v := 127) hx hb d_md_isLetter_13 (by decide) ?_
    refine hr_icmp_le (x := b) (y := 127) (c9 := 127) hx hb (by decide) (tgt := 22) d_md_isLetter_15 (by decide) (fun h15 => ?_) (fun h15 => ?_)
    · skip
      refine lv_iconst (v := 0) hx hb d_md_isLetter_22 (by decide) ?_
      exact hm_zret E hr hlk hH (by decide) (⟨by first | (rw [(bI_of (isL_iff (b := b))).1 (by omega)]; done) | (rw [(bI_of (isL_iff (b := b))).2 (by omega)]; done), hM0.symm⟩) (by omega) (by omega) d_md_isLetter_23
    · skip
      refine lv_iconst (v := 1) hx hb d_md_isLetter_18 (by decide) ?_
      refine lv_goto (tgt := 23) hx hb d_md_isLetter_19 (by decide) ?_
      exact hm_zret E hr hlk hH (by decide) (⟨by first | (rw [(bI_of (isL_iff (b := b))).1 (by omega)]; done) | (rw [(bI_of (isL_iff (b := b))).2 (by omega)]; done), hM0.symm⟩) (by omega) (by omega) d_md_isLetter_23
  · skip
    refine lv_iload_n hx hb d_md_isLetter_6 rfl (lv_at hl 0 rfl) ?_
    refine lv_bipush (v := 123) hx hb d_md_isLetter_7 (by decide) ?_
    refine hr_icmp_lt (x := b) (y := 123) (c9 := 123) hx hb (by decide) (tgt := 18) d_md_isLetter_9 (by decide) (fun h9 => ?_) (fun h9 => ?_)
    · skip
      refine lv_iconst (v := 1) hx hb d_md_isLetter_18 (by decide) ?_
      refine lv_goto (tgt := 23) hx hb d_md_isLetter_19 (by decide) ?_
      exact hm_zret E hr hlk hH (by decide) (⟨by first | (rw [(bI_of (isL_iff (b := b))).1 (by omega)]; done) | (rw [(bI_of (isL_iff (b := b))).2 (by omega)]; done), hM0.symm⟩) (by omega) (by omega) d_md_isLetter_23
    · skip
      refine lv_iload_n hx hb d_md_isLetter_12 rfl (lv_at hl 0 rfl) ?_
      refine lv_bipush (v := 127) hx hb d_md_isLetter_13 (by decide) ?_
      refine hr_icmp_le (x := b) (y := 127) (c9 := 127) hx hb (by decide) (tgt := 22) d_md_isLetter_15 (by decide) (fun h15 => ?_) (fun h15 => ?_)
      · skip
        refine lv_iconst (v := 0) hx hb d_md_isLetter_22 (by decide) ?_
        exact hm_zret E hr hlk hH (by decide) (⟨by first | (rw [(bI_of (isL_iff (b := b))).1 (by omega)]; done) | (rw [(bI_of (isL_iff (b := b))).2 (by omega)]; done), hM0.symm⟩) (by omega) (by omega) d_md_isLetter_23
      · skip
        refine lv_iconst (v := 1) hx hb d_md_isLetter_18 (by decide) ?_
        refine lv_goto (tgt := 23) hx hb d_md_isLetter_19 (by decide) ?_
        exact hm_zret E hr hlk hH (by decide) (⟨by first | (rw [(bI_of (isL_iff (b := b))).1 (by omega)]; done) | (rw [(bI_of (isL_iff (b := b))).2 (by omega)]; done), hM0.symm⟩) (by omega) (by omega) d_md_isLetter_23

abbrev q_md_isDigit (G : hG) (b : Int32) (M : hM) : Option Value → hM → Prop := fun rv M' => rv = some (.int (bI (isDg b))) ∧ M' = M
set_option maxHeartbeats 4000000 in
set_option maxRecDepth 100000 in
theorem c_md_isDigit (l : Launch) (G : hG) (b : Int32) (M : hM)  : Ct (gk G) l G.1 vwC y_md_isDigit w_md_isDigit { frames := 0, cells := 0, slots := 0, locals := 0 } ([.int b] : List Value) M (q_md_isDigit G b M) 0 0 := by
  refine Ct.ofW (cc := b_md_isDigit) (maxL := 1) (ret := (Option.some Jvm.ClassFile.FieldType.boolean)) (by decide) rfl (Nat.le_of_ble_eq_true rfl) (fun p e s m below meth c A ls E hr hlk hin hg hH hl => ?_)
  have hl : lv_has ls 1 [(0, .int b)] := hl
  have hx := E.1; have hb := E.2.1; have hml := E.2.2.1; have hown := E.2.2.2.1; have hts := E.2.2.2.2; have hK := hg.1
  obtain ⟨M0, hM0⟩ : ∃ M0 : hM, M0 = M := ⟨M, rfl⟩
  rw [show q_md_isDigit G b M = q_md_isDigit G b M0 by rw [hM0]]
  refine lv_iload_n hx hb d_md_isDigit_0 rfl (lv_at hl 0 rfl) ?_
  refine lv_bipush (v := 47) hx hb d_md_isDigit_1 (by decide) ?_
  refine hr_icmp_le (x := b) (y := 47) (c9 := 47) hx hb (by decide) (tgt := 16) d_md_isDigit_3 (by decide) (fun h3 => ?_) (fun h3 => ?_)
  · skip
    refine lv_iconst (v := 0) hx hb d_md_isDigit_16 (by decide) ?_
    exact hm_zret E hr hlk hH (by decide) (⟨by first | (rw [(bI_of (isDg_iff (b := b))).1 (by omega)]; done) | (rw [(bI_of (isDg_iff (b := b))).2 (by omega)]; done), hM0.symm⟩) (by omega) (by omega) d_md_isDigit_17
  · skip
    refine lv_iload_n hx hb d_md_isDigit_6 rfl (lv_at hl 0 rfl) ?_
    refine lv_bipush (v := 58) hx hb d_md_isDigit_7 (by decide) ?_
    refine hr_icmp_ge (x := b) (y := 58) (c9 := 58) hx hb (by decide) (tgt := 16) d_md_isDigit_9 (by decide) (fun h9 => ?_) (fun h9 => ?_)
    · skip
      refine lv_iconst (v := 0) hx hb d_md_isDigit_16 (by decide) ?_
      exact hm_zret E hr hlk hH (by decide) (⟨by first | (rw [(bI_of (isDg_iff (b := b))).1 (by omega)]; done) | (rw [(bI_of (isDg_iff (b := b))).2 (by omega)]; done), hM0.symm⟩) (by omega) (by omega) d_md_isDigit_17
    · skip
      refine lv_iconst (v := 1) hx hb d_md_isDigit_12 (by decide) ?_
      refine lv_goto (tgt := 17) hx hb d_md_isDigit_13 (by decide) ?_
      exact hm_zret E hr hlk hH (by decide) (⟨by first | (rw [(bI_of (isDg_iff (b := b))).1 (by omega)]; done) | (rw [(bI_of (isDg_iff (b := b))).2 (by omega)]; done), hM0.symm⟩) (by omega) (by omega) d_md_isDigit_17

abbrev q_md_thrown (G : hG) (y th dn d np be sg nu bg nx fi le pl lf rt ln rw va : Nat) (ak : Bool) (M : hM) : Option Value → hM → Prop := fun rv M' => rv = some (.int (nI th)) ∧ M' = M
set_option maxHeartbeats 4000000 in
set_option maxRecDepth 100000 in
theorem c_md_thrown (l : Launch) (G : hG) (y th dn d np be sg nu bg nx fi le pl lf rt ln rw va : Nat) (ak : Bool) (M : hM) (hw : hm_has M [(y, .inr (4, [.int (nI th), .int (nI dn), .ref d, .int (nI np), .ref be, .ref sg, .ref nu, .int (nI bg), .int (nI nx), .ref fi, .ref le, .ref pl, .int (nI lf), .int (nI rt), .int (nI ln), .ref rw, .ref va, .int (bI ak)]))]) : Ct (gk G) l G.1 vwC y_md_thrown w_md_thrown { frames := 0, cells := 0, slots := 0, locals := 0 } ([.ref y] : List Value) M (q_md_thrown G y th dn d np be sg nu bg nx fi le pl lf rt ln rw va ak M) 0 0 := by
  refine Ct.ofW (cc := b_md_thrown) (maxL := 1) (ret := (Option.some Jvm.ClassFile.FieldType.int)) (by decide) rfl (Nat.le_of_ble_eq_true rfl) (fun p e s m below meth c A ls E hr hlk hin hg hH hl => ?_)
  have hl : lv_has ls 1 [(0, .ref y)] := hl
  have hx := E.1; have hb := E.2.1; have hml := E.2.2.1; have hown := E.2.2.2.1; have hts := E.2.2.2.2; have hK := hg.1
  obtain ⟨M0, hM0⟩ : ∃ M0 : hM, M0 = M := ⟨M, rfl⟩
  rw [show q_md_thrown G y th dn d np be sg nu bg nx fi le pl lf rt ln rw va ak M = q_md_thrown G y th dn d np be sg nu bg nx fi le pl lf rt ln rw va ak M0 by rw [hM0]]
  refine lv_aload_n hx hb d_md_thrown_0 rfl (lv_at hl 0 rfl) ?_
  refine hm_get E (tB in_md) hK hH (hw.at 0 rfl) rfl 0 (by decide) (tC wm_367) rfl d_md_thrown_1 ?_
  exact hm_iret E hr hlk hH (⟨rfl, hM0.symm⟩) (by omega) (by omega) d_md_thrown_4

abbrev q_md_fails (G : hG) (y th dn d np be sg nu bg nx fi le pl lf rt ln rw va : Nat) (ak : Bool) (w : Nat) (M : hM) : Option Value → hM → Prop := fun rv M' => rv = some (.int (nI 0)) ∧ hm_has M' [(y, .inr (4, [.int (nI w), .int (nI 0), .ref d, .int (nI np), .ref be, .ref sg, .ref nu, .int (nI bg), .int (nI nx), .ref fi, .ref le, .ref pl, .int (nI lf), .int (nI rt), .int (nI ln), .ref rw, .ref va, .int (bI ak)]))] ∧ hm_kp (fun a => a ∈ [y]) M M'
set_option maxHeartbeats 4000000 in
set_option maxRecDepth 100000 in
theorem c_md_fails (l : Launch) (G : hG) (y th dn d np be sg nu bg nx fi le pl lf rt ln rw va : Nat) (ak : Bool) (w : Nat) (M : hM) (hw : hm_has M [(y, .inr (4, [.int (nI th), .int (nI dn), .ref d, .int (nI np), .ref be, .ref sg, .ref nu, .int (nI bg), .int (nI nx), .ref fi, .ref le, .ref pl, .int (nI lf), .int (nI rt), .int (nI ln), .ref rw, .ref va, .int (bI ak)]))]) : Ct (gk G) l G.1 vwC y_md_fails w_md_fails { frames := 0, cells := 0, slots := 0, locals := 0 } ([.ref y, .int (nI w)] : List Value) M (q_md_fails G y th dn d np be sg nu bg nx fi le pl lf rt ln rw va ak w M) 0 0 := by
  refine Ct.ofW (cc := b_md_fails) (maxL := 2) (ret := (Option.some Jvm.ClassFile.FieldType.int)) (by decide) rfl (Nat.le_of_ble_eq_true rfl) (fun p e s m below meth c A ls E hr hlk hin hg hH hl => ?_)
  have hl : lv_has ls 2 [(0, .ref y), (1, .int (nI w))] := hl
  have hx := E.1; have hb := E.2.1; have hml := E.2.2.1; have hown := E.2.2.2.1; have hts := E.2.2.2.2; have hK := hg.1
  obtain ⟨M0, hM0⟩ : ∃ M0 : hM, M0 = M := ⟨M, rfl⟩
  rw [show q_md_fails G y th dn d np be sg nu bg nx fi le pl lf rt ln rw va ak w M = q_md_fails G y th dn d np be sg nu bg nx fi le pl lf rt ln rw va ak w M0 by rw [hM0]]
  have hk : hm_kp (fun a => a ∈ [y]) M0 M := by rw [hM0]; exact hm_kp.rf
  refine lv_aload_n hx hb d_md_fails_0 rfl (lv_at hl 0 rfl) ?_
  refine lv_iload_n hx hb d_md_fails_1 rfl (lv_at hl 1 rfl) ?_
  refine hm_put E (tB in_md) t_md tk_md nm_md hK hH (hw.at 0 rfl) rfl 0 (by decide) (tC wm_367) rfl rfl rfl (Nat.le_of_ble_eq_true rfl) (fs' := [.int (nI w), .int (nI dn), .ref d, .int (nI np), .ref be, .ref sg, .ref nu, .int (nI bg), .int (nI nx), .ref fi, .ref le, .ref pl, .int (nI lf), .int (nI rt), .int (nI ln), .ref rw, .ref va, .int (bI ak)]) rfl d_md_fails_2 (fun H locs hH => ?_)
  have hw := hw.set (ws' := [(y, .inr (4, [.int (nI w), .int (nI dn), .ref d, .int (nI np), .ref be, .ref sg, .ref nu, .int (nI bg), .int (nI nx), .ref fi, .ref le, .ref pl, .int (nI lf), .int (nI rt), .int (nI ln), .ref rw, .ref va, .int (bI ak)]))]) (k := 0) rfl rfl
  have hk := hk.wr (a := y) (v := some (.inr (4, [.int (nI w), .int (nI dn), .ref d, .int (nI np), .ref be, .ref sg, .ref nu, .int (nI bg), .int (nI nx), .ref fi, .ref le, .ref pl, .int (nI lf), .int (nI rt), .int (nI ln), .ref rw, .ref va, .int (bI ak)]))) (by first | (right; assumption) | (left; simp; done))
  generalize va_up M y (some (.inr (4, [.int (nI w), .int (nI dn), .ref d, .int (nI np), .ref be, .ref sg, .ref nu, .int (nI bg), .int (nI nx), .ref fi, .ref le, .ref pl, .int (nI lf), .int (nI rt), .int (nI ln), .ref rw, .ref va, .int (bI ak)]))) = M at hH hw hk ⊢
  refine lv_aload_n hx hb d_md_fails_5 rfl (lv_at hl 0 rfl) ?_
  refine lv_iconst (v := 0) hx hb d_md_fails_6 (by decide) ?_
  refine hm_put E (tB in_md) t_md tk_md nm_md hK hH (hw.at 0 rfl) rfl 1 (by decide) (tC wm_368) rfl rfl rfl (Nat.le_of_ble_eq_true rfl) (fs' := [.int (nI w), .int 0, .ref d, .int (nI np), .ref be, .ref sg, .ref nu, .int (nI bg), .int (nI nx), .ref fi, .ref le, .ref pl, .int (nI lf), .int (nI rt), .int (nI ln), .ref rw, .ref va, .int (bI ak)]) rfl d_md_fails_7 (fun H locs hH => ?_)
  have hw := hw.set (ws' := [(y, .inr (4, [.int (nI w), .int 0, .ref d, .int (nI np), .ref be, .ref sg, .ref nu, .int (nI bg), .int (nI nx), .ref fi, .ref le, .ref pl, .int (nI lf), .int (nI rt), .int (nI ln), .ref rw, .ref va, .int (bI ak)]))]) (k := 0) rfl rfl
  have hk := hk.wr (a := y) (v := some (.inr (4, [.int (nI w), .int 0, .ref d, .int (nI np), .ref be, .ref sg, .ref nu, .int (nI bg), .int (nI nx), .ref fi, .ref le, .ref pl, .int (nI lf), .int (nI rt), .int (nI ln), .ref rw, .ref va, .int (bI ak)]))) (by first | (right; assumption) | (left; simp; done))
  generalize va_up M y (some (.inr (4, [.int (nI w), .int 0, .ref d, .int (nI np), .ref be, .ref sg, .ref nu, .int (nI bg), .int (nI nx), .ref fi, .ref le, .ref pl, .int (nI lf), .int (nI rt), .int (nI ln), .ref rw, .ref va, .int (bI ak)]))) = M at hH hw hk ⊢
  refine lv_iconst (v := 0) hx hb d_md_fails_10 (by decide) ?_
  exact hm_iret E hr hlk hH (⟨rfl, hw, hk⟩) (by omega) (by omega) d_md_fails_11

abbrev q_md_put (G : hG) (y th dn d np be sg nu bg nx fi le pl lf rt ln rw va : Nat) (ak : Bool) (dr : Nat → Int32) (v : Int64) (n0 : Int32) (M : hM) : Option Value → hM → Prop := fun rv M' => (∃ n : Nat, n0 = nI n ∧ 1 ≤ n ∧ n ≤ 8 ∧ dn + n ≤ 200 ∧ rv = some (.int 1) ∧ hm_has M' [(y, .inr (4, [.int (nI 0), .int (nI (dn + n)), .ref d, .int (nI np), .ref be, .ref sg, .ref nu, .int (nI bg), .int (nI nx), .ref fi, .ref le, .ref pl, .int (nI lf), .int (nI rt), .int (nI ln), .ref rw, .ref va, .int (bI ak)])), (d, aI G 200 (drF dr dn v n n))] ∧ hm_kp (fun a => a ∈ [y, d]) M M') ∨ (¬ (1 ≤ n0.toInt ∧ n0.toInt ≤ 8 ∧ (dn : Int) + n0.toInt ≤ 200) ∧ rv = some (.int 0) ∧ hm_has M' [(y, .inr (4, [.int (nI 0), .int (nI dn), .ref d, .int (nI np), .ref be, .ref sg, .ref nu, .int (nI bg), .int (nI nx), .ref fi, .ref le, .ref pl, .int (nI lf), .int (nI rt), .int (nI ln), .ref rw, .ref va, .int (bI ak)])), (d, aI G 200 dr)] ∧ hm_kp (fun a => a ∈ [y, d]) M M')
set_option maxHeartbeats 4000000 in
set_option maxRecDepth 100000 in
theorem c_md_put (l : Launch) (G : hG) (y th dn d np be sg nu bg nx fi le pl lf rt ln rw va : Nat) (ak : Bool) (dr : Nat → Int32) (v : Int64) (n0 : Int32) (M : hM) (hw : hm_has M [(y, .inr (4, [.int (nI th), .int (nI dn), .ref d, .int (nI np), .ref be, .ref sg, .ref nu, .int (nI bg), .int (nI nx), .ref fi, .ref le, .ref pl, .int (nI lf), .int (nI rt), .int (nI ln), .ref rw, .ref va, .int (bI ak)])), (d, aI G 200 dr)]) (hdn : dn ≤ 200) : Ct (gk G) l G.1 vwC y_md_put w_md_put { frames := 0, cells := 0, slots := 0, locals := 0 } ([.ref y, .long v, .int n0] : List Value) M (q_md_put G y th dn d np be sg nu bg nx fi le pl lf rt ln rw va ak dr v n0 M) 0 0 := by
  refine Ct.ofW (cc := b_md_put) (maxL := 5) (ret := (Option.some Jvm.ClassFile.FieldType.boolean)) (by decide) rfl (Nat.le_of_ble_eq_true rfl) (fun p e s m below meth c A ls E hr hlk hin hg hH hl => ?_)
  have hl : lv_has ls 5 [(0, .ref y), (1, .long v), (3, .int n0)] := hl
  have hx := E.1; have hb := E.2.1; have hml := E.2.2.1; have hown := E.2.2.2.1; have hts := E.2.2.2.2; have hK := hg.1
  obtain ⟨M0, hM0⟩ : ∃ M0 : hM, M0 = M := ⟨M, rfl⟩
  rw [show q_md_put G y th dn d np be sg nu bg nx fi le pl lf rt ln rw va ak dr v n0 M = q_md_put G y th dn d np be sg nu bg nx fi le pl lf rt ln rw va ak dr v n0 M0 by rw [hM0]]
  have hk : hm_kp (fun a => a ∈ [y, d]) M0 M := by rw [hM0]; exact hm_kp.rf
  refine lv_aload_n hx hb d_md_put_0 rfl (lv_at hl 0 rfl) ?_
  refine lv_iconst (v := 0) hx hb d_md_put_1 (by decide) ?_
  refine hm_put E (tB in_md) t_md tk_md nm_md hK hH (hw.at 0 rfl) rfl 0 (by decide) (tC wm_367) rfl rfl rfl (Nat.le_of_ble_eq_true rfl) (fs' := [.int 0, .int (nI dn), .ref d, .int (nI np), .ref be, .ref sg, .ref nu, .int (nI bg), .int (nI nx), .ref fi, .ref le, .ref pl, .int (nI lf), .int (nI rt), .int (nI ln), .ref rw, .ref va, .int (bI ak)]) rfl d_md_put_2 (fun H locs hH => ?_)
  have hw := hw.set (ws' := [(y, .inr (4, [.int 0, .int (nI dn), .ref d, .int (nI np), .ref be, .ref sg, .ref nu, .int (nI bg), .int (nI nx), .ref fi, .ref le, .ref pl, .int (nI lf), .int (nI rt), .int (nI ln), .ref rw, .ref va, .int (bI ak)])), (d, aI G 200 dr)]) (k := 0) rfl rfl
  have hk := hk.wr (a := y) (v := some (.inr (4, [.int 0, .int (nI dn), .ref d, .int (nI np), .ref be, .ref sg, .ref nu, .int (nI bg), .int (nI nx), .ref fi, .ref le, .ref pl, .int (nI lf), .int (nI rt), .int (nI ln), .ref rw, .ref va, .int (bI ak)]))) (by first | (right; assumption) | (left; simp; done))
  generalize va_up M y (some (.inr (4, [.int 0, .int (nI dn), .ref d, .int (nI np), .ref be, .ref sg, .ref nu, .int (nI bg), .int (nI nx), .ref fi, .ref le, .ref pl, .int (nI lf), .int (nI rt), .int (nI ln), .ref rw, .ref va, .int (bI ak)]))) = M at hH hw hk ⊢
  refine lv_iload_n hx hb d_md_put_5 rfl (lv_at hl 2 rfl) ?_
  refine lv_iconst (v := 1) hx hb d_md_put_6 (by decide) ?_
  refine hr_icmp_lt (x := n0) (y := 1) (c9 := 1) hx hb (by decide) (tgt := 28) d_md_put_7 (by decide) (fun h7 => ?_) (fun h7 => ?_)
  · skip
    refine lv_iconst (v := 0) hx hb d_md_put_28 (by decide) ?_
    exact hm_zret E hr hlk hH (by decide) (Or.inr ⟨by first | omega | (rw [hn0, nI_toInt hn31]; omega), rfl, hw, hk⟩) (by omega) (by omega) d_md_put_29
  · skip
    refine lv_iload_n hx hb d_md_put_10 rfl (lv_at hl 2 rfl) ?_
    refine lv_bipush (v := 8) hx hb d_md_put_11 (by decide) ?_
    refine hr_icmp_gt (x := n0) (y := 8) (c9 := 8) hx hb (by decide) (tgt := 28) d_md_put_13 (by decide) (fun h13 => ?_) (fun h13 => ?_)
    · skip
      refine lv_iconst (v := 0) hx hb d_md_put_28 (by decide) ?_
      exact hm_zret E hr hlk hH (by decide) (Or.inr ⟨by first | omega | (rw [hn0, nI_toInt hn31]; omega), rfl, hw, hk⟩) (by omega) (by omega) d_md_put_29
    · skip
      obtain ⟨n, hn31, hn0⟩ := nI_ex (z := n0) (by omega)
      rw [hn0, nI_toInt hn31] at h7 h13
      have hl : lv_has ls 5 [(0, .ref y), (1, .long v), (3, .int (nI n))] := by rw [← hn0]; exact hl
      refine lv_aload_n hx hb d_md_put_16 rfl (lv_at hl 0 rfl) ?_
      refine hm_get E (tB in_md) hK hH (hw.at 0 rfl) rfl 1 (by decide) (tC wm_368) rfl d_md_put_17 ?_
      refine lv_iload_n hx hb d_md_put_20 rfl (lv_at hl 2 rfl) ?_
      refine hn_iadd hx hb (a := dn) (b := n) d_md_put_21 ?_
      refine lv_sipush (v := 200) hx hb d_md_put_22 (by decide) ?_
      refine hn_icmp_le (a := dn + n) (b := 200) hx hb (by omega) (by omega) (tgt := 30) d_md_put_25 (by decide) (fun h25 => ?_) (fun h25 => ?_)
      · skip
        refine lv_iload_n hx hb d_md_put_30 rfl (lv_at hl 2 rfl) ?_
        refine lv_iconst (v := 1) hx hb d_md_put_31 (by decide) ?_
        refine hn_isub hx hb (a := n) (b := 1) (by omega) d_md_put_32 ?_
        refine lv_istore (lv' := [(4, .int (nI (n - 1))), (0, .ref y), (1, .long v), (3, .int (nI n))]) hx hb d_md_put_33 hl (by decide) rfl (fun ls hl => ?_)
        have L35 : ∀ (k : Nat) (c9 : Nat) (z : Int32) (M : hM) (H : Heap) (locs : List Loc) (ls : Array Slot), n + 1 ≤ c9 + k → c9 ≤ n → z.toInt = (n : Int) - 1 - c9 → hm_has M [(y, .inr (4, [.int (nI 0), .int (nI (dn + c9)), .ref d, .int (nI np), .ref be, .ref sg, .ref nu, .int (nI bg), .int (nI nx), .ref fi, .ref le, .ref pl, .int (nI lf), .int (nI rt), .int (nI ln), .ref rw, .ref va, .int (bI ak)])), (d, aI G 200 (drF dr dn v n c9))] → hm_kp (fun a => a ∈ [y, d]) M0 M → hm_I G.1 vwC A s.heap M H locs → lv_has ls 5 [(4, .int z), (0, .ref y), (1, .long v), (3, .int (nI n))] → W p l e { frames := 0, cells := 0, slots := 0, locals := 0 } s m ([.ref y, .long v, .int n0] : List Value).toArray below meth c H locs 0 0 (MQ below (hm_Q G.1 vwC (q_md_put G y th dn d np be sg nu bg nx fi le pl lf rt ln rw va ak dr v n0 M0) A) ([.ref y, .long v, .int n0] : List Value).toArray s 0 0 A) (F0 m 35 ls []) := by
          intro k
          induction k with
          | zero => intro c9 z M H locs ls hfu hcn hz; exact absurd hfu (by omega)
          | succ k ih =>
            intro c9 z M H locs ls hfu hcn hz hw hk hH hl
            refine lv_iload hx hb d_md_put_35 (lv_at hl 0 rfl) ?_
            refine hr_if_lt (x := z) hx hb (tgt := 77) d_md_put_37 (by decide) (fun h37 => ?_) (fun h37 => ?_)
            · skip
              refine lv_iconst (v := 1) hx hb d_md_put_77 (by decide) ?_
              have hce : c9 = n := by omega
              exact hm_zret E hr hlk hH (by decide) (Or.inl ⟨n, hn0, by omega, by omega, by omega, rfl, by rw [hce] at hw; exact hw, hk⟩) (by omega) (by omega) d_md_put_78
            · skip
              have hz2 : z = nI (n - 1 - c9) := nI_toI (by omega) (by omega)
              have hc9 : c9 < n := by omega
              subst hz2
              refine lv_aload_n hx hb d_md_put_40 rfl (lv_at hl 1 rfl) ?_
              refine hm_get E (tB in_md) hK hH (hw.at 0 rfl) rfl 2 (by decide) (tC wm_369) rfl d_md_put_41 ?_
              refine lv_aload_n hx hb d_md_put_44 rfl (lv_at hl 1 rfl) ?_
              refine hm_get E (tB in_md) hK hH (hw.at 0 rfl) rfl 1 (by decide) (tC wm_368) rfl d_md_put_45 ?_
              refine lv_lload_n hx hb d_md_put_48 rfl (lv_at hl 2 rfl) ?_
              refine lv_bipush (v := 8) hx hb d_md_put_49 (by decide) ?_
              refine lv_iload hx hb d_md_put_51 (lv_at hl 0 rfl) ?_
              refine hn_imul hx hb (a := 8) (b := n - 1 - c9) d_md_put_53 ?_
              refine lv_lshr hx hb d_md_put_54 rfl ?_
              refine lv_ldc2 (v := 255) hx hb hown (hts _ (tC wm_431)) d_md_put_55 ?_
              refine lv_land hx hb d_md_put_58 ?_
              refine lv_l2i hx hb d_md_put_59 rfl ?_
              refine hm_top (w := .int (byt v (n - 1 - c9))) (congrArg Value.int (byM_eq v (n - 1 - c9) (by omega))) ?_
              refine hm_iast E hK hH 0 (hw.at 1 rfl) rfl (i := dn + c9) (by omega) (by decide) d_md_put_60 (fun H locs hH => ?_)
              have hw := hw.set (ws' := [(y, .inr (4, [.int (nI 0), .int (nI (dn + c9)), .ref d, .int (nI np), .ref be, .ref sg, .ref nu, .int (nI bg), .int (nI nx), .ref fi, .ref le, .ref pl, .int (nI lf), .int (nI rt), .int (nI ln), .ref rw, .ref va, .int (bI ak)])), (d, aI G 200 (upd (drF dr dn v n c9) (dn + c9) (byt v (n - 1 - c9))))]) (k := 1) rfl rfl
              have hk := hk.wr (a := d) (v := some (aI G 200 (upd (drF dr dn v n c9) (dn + c9) (byt v (n - 1 - c9))))) (by first | (right; assumption) | (left; simp; done))
              generalize va_up M d (some (aI G 200 (upd (drF dr dn v n c9) (dn + c9) (byt v (n - 1 - c9))))) = M at hH hw hk ⊢
              refine lv_aload_n hx hb d_md_put_61 rfl (lv_at hl 1 rfl) ?_
              refine lv_dup hx hb d_md_put_62 rfl ?_
              refine hm_get E (tB in_md) hK hH (hw.at 0 rfl) rfl 1 (by decide) (tC wm_368) rfl d_md_put_63 ?_
              refine lv_iconst (v := 1) hx hb d_md_put_66 (by decide) ?_
              refine hn_iadd hx hb (a := dn + c9) (b := 1) d_md_put_67 ?_
              refine hm_put E (tB in_md) t_md tk_md nm_md hK hH (hw.at 0 rfl) rfl 1 (by decide) (tC wm_368) rfl rfl rfl (Nat.le_of_ble_eq_true rfl) (fs' := [.int (nI 0), .int (nI (dn + c9 + 1)), .ref d, .int (nI np), .ref be, .ref sg, .ref nu, .int (nI bg), .int (nI nx), .ref fi, .ref le, .ref pl, .int (nI lf), .int (nI rt), .int (nI ln), .ref rw, .ref va, .int (bI ak)]) rfl d_md_put_68 (fun H locs hH => ?_)
              have hw := hw.set (ws' := [(y, .inr (4, [.int (nI 0), .int (nI (dn + c9 + 1)), .ref d, .int (nI np), .ref be, .ref sg, .ref nu, .int (nI bg), .int (nI nx), .ref fi, .ref le, .ref pl, .int (nI lf), .int (nI rt), .int (nI ln), .ref rw, .ref va, .int (bI ak)])), (d, aI G 200 (upd (drF dr dn v n c9) (dn + c9) (byt v (n - 1 - c9))))]) (k := 0) rfl rfl
              have hk := hk.wr (a := y) (v := some (.inr (4, [.int (nI 0), .int (nI (dn + c9 + 1)), .ref d, .int (nI np), .ref be, .ref sg, .ref nu, .int (nI bg), .int (nI nx), .ref fi, .ref le, .ref pl, .int (nI lf), .int (nI rt), .int (nI ln), .ref rw, .ref va, .int (bI ak)]))) (by first | (right; assumption) | (left; simp; done))
              generalize va_up M y (some (.inr (4, [.int (nI 0), .int (nI (dn + c9 + 1)), .ref d, .int (nI np), .ref be, .ref sg, .ref nu, .int (nI bg), .int (nI nx), .ref fi, .ref le, .ref pl, .int (nI lf), .int (nI rt), .int (nI ln), .ref rw, .ref va, .int (bI ak)]))) = M at hH hw hk ⊢
              refine lv_iinc (v := nI (n - 1 - c9) + (-1)) (lv' := [(4, .int (nI (n - 1 - c9) + (-1))), (0, .ref y), (1, .long v), (3, .int (nI n))]) hx hb d_md_put_71 hl (k := 0) rfl rfl (by decide) rfl (fun ls hl => ?_)
              refine lv_goto (tgt := 35) hx hb d_md_put_74 (by decide) ?_
              exact ih (c9 + 1) _ M _ _ _ (by omega) (by omega) (by rw [m1_toInt (by rw [nI_toInt (by omega)]; omega), nI_toInt (by omega)]; omega) hw hk hH (lv_sub hl [0, 1, 2, 3] rfl)
        exact L35 (n + 1) 0 _ M _ _ _ (by omega) (by omega) (by rw [nI_toInt (by omega)]; omega) hw hk hH (lv_sub hl [0, 1, 2, 3] rfl)
      · skip
        refine lv_iconst (v := 0) hx hb d_md_put_28 (by decide) ?_
        exact hm_zret E hr hlk hH (by decide) (Or.inr ⟨by first | omega | (rw [hn0, nI_toInt hn31]; omega), rfl, hw, hk⟩) (by omega) (by omega) d_md_put_29

abbrev q_md_least (G : hG) (y th dn d np be sg nu bg nx fi le pl lf rt ln rw va : Nat) (ak : Bool) (a1 a2 : Int32) (M : hM) : Option Value → hM → Prop := fun rv M' => (∃ jl jr : Nat, a1 = nI jl ∧ a2 = nI jr ∧ 1 ≤ jl ∧ jl ≤ 63 ∧ 1 ≤ jr ∧ jr ≤ 63 ∧ rv = some (.int 1) ∧ hm_has M' [(y, .inr (4, [.int (nI 0), .int (nI dn), .ref d, .int (nI np), .ref be, .ref sg, .ref nu, .int (nI bg), .int (nI nx), .ref fi, .ref le, .ref pl, .int (nI jl), .int (nI jr), .int (nI ln), .ref rw, .ref va, .int (bI ak)]))] ∧ hm_kp (fun a => a ∈ [y]) M M') ∨ (¬ (1 ≤ a1.toInt ∧ a1.toInt ≤ 63 ∧ 1 ≤ a2.toInt ∧ a2.toInt ≤ 63) ∧ rv = some (.int 0) ∧ hm_has M' [(y, .inr (4, [.int (nI 0), .int (nI dn), .ref d, .int (nI np), .ref be, .ref sg, .ref nu, .int (nI bg), .int (nI nx), .ref fi, .ref le, .ref pl, .int (nI lf), .int (nI rt), .int (nI ln), .ref rw, .ref va, .int (bI ak)]))] ∧ hm_kp (fun a => a ∈ [y]) M M')
set_option maxHeartbeats 4000000 in
set_option maxRecDepth 100000 in
theorem c_md_least (l : Launch) (G : hG) (y th dn d np be sg nu bg nx fi le pl lf rt ln rw va : Nat) (ak : Bool) (a1 a2 : Int32) (M : hM) (hw : hm_has M [(y, .inr (4, [.int (nI th), .int (nI dn), .ref d, .int (nI np), .ref be, .ref sg, .ref nu, .int (nI bg), .int (nI nx), .ref fi, .ref le, .ref pl, .int (nI lf), .int (nI rt), .int (nI ln), .ref rw, .ref va, .int (bI ak)]))]) : Ct (gk G) l G.1 vwC y_md_least w_md_least { frames := 0, cells := 0, slots := 0, locals := 0 } ([.ref y, .int a1, .int a2] : List Value) M (q_md_least G y th dn d np be sg nu bg nx fi le pl lf rt ln rw va ak a1 a2 M) 0 0 := by
  refine Ct.ofW (cc := b_md_least) (maxL := 3) (ret := (Option.some Jvm.ClassFile.FieldType.boolean)) (by decide) rfl (Nat.le_of_ble_eq_true rfl) (fun p e s m below meth c A ls E hr hlk hin hg hH hl => ?_)
  have hl : lv_has ls 3 [(0, .ref y), (1, .int a1), (2, .int a2)] := hl
  have hx := E.1; have hb := E.2.1; have hml := E.2.2.1; have hown := E.2.2.2.1; have hts := E.2.2.2.2; have hK := hg.1
  obtain ⟨M0, hM0⟩ : ∃ M0 : hM, M0 = M := ⟨M, rfl⟩
  rw [show q_md_least G y th dn d np be sg nu bg nx fi le pl lf rt ln rw va ak a1 a2 M = q_md_least G y th dn d np be sg nu bg nx fi le pl lf rt ln rw va ak a1 a2 M0 by rw [hM0]]
  have hk : hm_kp (fun a => a ∈ [y]) M0 M := by rw [hM0]; exact hm_kp.rf
  refine lv_aload_n hx hb d_md_least_0 rfl (lv_at hl 0 rfl) ?_
  refine lv_iconst (v := 0) hx hb d_md_least_1 (by decide) ?_
  refine hm_put E (tB in_md) t_md tk_md nm_md hK hH (hw.at 0 rfl) rfl 0 (by decide) (tC wm_367) rfl rfl rfl (Nat.le_of_ble_eq_true rfl) (fs' := [.int 0, .int (nI dn), .ref d, .int (nI np), .ref be, .ref sg, .ref nu, .int (nI bg), .int (nI nx), .ref fi, .ref le, .ref pl, .int (nI lf), .int (nI rt), .int (nI ln), .ref rw, .ref va, .int (bI ak)]) rfl d_md_least_2 (fun H locs hH => ?_)
  have hw := hw.set (ws' := [(y, .inr (4, [.int 0, .int (nI dn), .ref d, .int (nI np), .ref be, .ref sg, .ref nu, .int (nI bg), .int (nI nx), .ref fi, .ref le, .ref pl, .int (nI lf), .int (nI rt), .int (nI ln), .ref rw, .ref va, .int (bI ak)]))]) (k := 0) rfl rfl
  have hk := hk.wr (a := y) (v := some (.inr (4, [.int 0, .int (nI dn), .ref d, .int (nI np), .ref be, .ref sg, .ref nu, .int (nI bg), .int (nI nx), .ref fi, .ref le, .ref pl, .int (nI lf), .int (nI rt), .int (nI ln), .ref rw, .ref va, .int (bI ak)]))) (by first | (right; assumption) | (left; simp; done))
  generalize va_up M y (some (.inr (4, [.int 0, .int (nI dn), .ref d, .int (nI np), .ref be, .ref sg, .ref nu, .int (nI bg), .int (nI nx), .ref fi, .ref le, .ref pl, .int (nI lf), .int (nI rt), .int (nI ln), .ref rw, .ref va, .int (bI ak)]))) = M at hH hw hk ⊢
  refine lv_iload_n hx hb d_md_least_5 rfl (lv_at hl 1 rfl) ?_
  refine lv_iconst (v := 1) hx hb d_md_least_6 (by decide) ?_
  refine hr_icmp_lt (x := a1) (y := 1) (c9 := 1) hx hb (by decide) (tgt := 27) d_md_least_7 (by decide) (fun h7 => ?_) (fun h7 => ?_)
  · skip
    refine lv_iconst (v := 0) hx hb d_md_least_27 (by decide) ?_
    exact hm_zret E hr hlk hH (by decide) (Or.inr ⟨by omega, rfl, hw, hk⟩) (by omega) (by omega) d_md_least_28
  · skip
    refine lv_iload_n hx hb d_md_least_10 rfl (lv_at hl 1 rfl) ?_
    refine lv_bipush (v := 63) hx hb d_md_least_11 (by decide) ?_
    refine hr_icmp_gt (x := a1) (y := 63) (c9 := 63) hx hb (by decide) (tgt := 27) d_md_least_13 (by decide) (fun h13 => ?_) (fun h13 => ?_)
    · skip
      refine lv_iconst (v := 0) hx hb d_md_least_27 (by decide) ?_
      exact hm_zret E hr hlk hH (by decide) (Or.inr ⟨by omega, rfl, hw, hk⟩) (by omega) (by omega) d_md_least_28
    · skip
      refine lv_iload_n hx hb d_md_least_16 rfl (lv_at hl 2 rfl) ?_
      refine lv_iconst (v := 1) hx hb d_md_least_17 (by decide) ?_
      refine hr_icmp_lt (x := a2) (y := 1) (c9 := 1) hx hb (by decide) (tgt := 27) d_md_least_18 (by decide) (fun h18 => ?_) (fun h18 => ?_)
      · skip
        refine lv_iconst (v := 0) hx hb d_md_least_27 (by decide) ?_
        exact hm_zret E hr hlk hH (by decide) (Or.inr ⟨by omega, rfl, hw, hk⟩) (by omega) (by omega) d_md_least_28
      · skip
        refine lv_iload_n hx hb d_md_least_21 rfl (lv_at hl 2 rfl) ?_
        refine lv_bipush (v := 63) hx hb d_md_least_22 (by decide) ?_
        refine hr_icmp_le (x := a2) (y := 63) (c9 := 63) hx hb (by decide) (tgt := 29) d_md_least_24 (by decide) (fun h24 => ?_) (fun h24 => ?_)
        · skip
          obtain ⟨jl, hjl, rfl⟩ := nI_ex (z := a1) (by omega)
          obtain ⟨jr, hjr, rfl⟩ := nI_ex (z := a2) (by omega)
          rw [nI_toInt hjl] at h7 h13
          rw [nI_toInt hjr] at h18 h24
          refine lv_aload_n hx hb d_md_least_29 rfl (lv_at hl 0 rfl) ?_
          refine lv_iload_n hx hb d_md_least_30 rfl (lv_at hl 1 rfl) ?_
          refine hm_put E (tB in_md) t_md tk_md nm_md hK hH (hw.at 0 rfl) rfl 12 (by decide) (tC wm_379) rfl rfl rfl (Nat.le_of_ble_eq_true rfl) (fs' := [.int 0, .int (nI dn), .ref d, .int (nI np), .ref be, .ref sg, .ref nu, .int (nI bg), .int (nI nx), .ref fi, .ref le, .ref pl, .int (nI jl), .int (nI rt), .int (nI ln), .ref rw, .ref va, .int (bI ak)]) rfl d_md_least_31 (fun H locs hH => ?_)
          have hw := hw.set (ws' := [(y, .inr (4, [.int 0, .int (nI dn), .ref d, .int (nI np), .ref be, .ref sg, .ref nu, .int (nI bg), .int (nI nx), .ref fi, .ref le, .ref pl, .int (nI jl), .int (nI rt), .int (nI ln), .ref rw, .ref va, .int (bI ak)]))]) (k := 0) rfl rfl
          have hk := hk.wr (a := y) (v := some (.inr (4, [.int 0, .int (nI dn), .ref d, .int (nI np), .ref be, .ref sg, .ref nu, .int (nI bg), .int (nI nx), .ref fi, .ref le, .ref pl, .int (nI jl), .int (nI rt), .int (nI ln), .ref rw, .ref va, .int (bI ak)]))) (by first | (right; assumption) | (left; simp; done))
          generalize va_up M y (some (.inr (4, [.int 0, .int (nI dn), .ref d, .int (nI np), .ref be, .ref sg, .ref nu, .int (nI bg), .int (nI nx), .ref fi, .ref le, .ref pl, .int (nI jl), .int (nI rt), .int (nI ln), .ref rw, .ref va, .int (bI ak)]))) = M at hH hw hk ⊢
          refine lv_aload_n hx hb d_md_least_34 rfl (lv_at hl 0 rfl) ?_
          refine lv_iload_n hx hb d_md_least_35 rfl (lv_at hl 2 rfl) ?_
          refine hm_put E (tB in_md) t_md tk_md nm_md hK hH (hw.at 0 rfl) rfl 13 (by decide) (tC wm_380) rfl rfl rfl (Nat.le_of_ble_eq_true rfl) (fs' := [.int 0, .int (nI dn), .ref d, .int (nI np), .ref be, .ref sg, .ref nu, .int (nI bg), .int (nI nx), .ref fi, .ref le, .ref pl, .int (nI jl), .int (nI jr), .int (nI ln), .ref rw, .ref va, .int (bI ak)]) rfl d_md_least_36 (fun H locs hH => ?_)
          have hw := hw.set (ws' := [(y, .inr (4, [.int 0, .int (nI dn), .ref d, .int (nI np), .ref be, .ref sg, .ref nu, .int (nI bg), .int (nI nx), .ref fi, .ref le, .ref pl, .int (nI jl), .int (nI jr), .int (nI ln), .ref rw, .ref va, .int (bI ak)]))]) (k := 0) rfl rfl
          have hk := hk.wr (a := y) (v := some (.inr (4, [.int 0, .int (nI dn), .ref d, .int (nI np), .ref be, .ref sg, .ref nu, .int (nI bg), .int (nI nx), .ref fi, .ref le, .ref pl, .int (nI jl), .int (nI jr), .int (nI ln), .ref rw, .ref va, .int (bI ak)]))) (by first | (right; assumption) | (left; simp; done))
          generalize va_up M y (some (.inr (4, [.int 0, .int (nI dn), .ref d, .int (nI np), .ref be, .ref sg, .ref nu, .int (nI bg), .int (nI nx), .ref fi, .ref le, .ref pl, .int (nI jl), .int (nI jr), .int (nI ln), .ref rw, .ref va, .int (bI ak)]))) = M at hH hw hk ⊢
          refine lv_iconst (v := 1) hx hb d_md_least_39 (by decide) ?_
          exact hm_zret E hr hlk hH (by decide) (Or.inl ⟨jl, jr, rfl, rfl, by omega, by omega, by omega, by omega, rfl, hw, hk⟩) (by omega) (by omega) d_md_least_40
        · skip
          refine lv_iconst (v := 0) hx hb d_md_least_27 (by decide) ?_
          exact hm_zret E hr hlk hH (by decide) (Or.inr ⟨by omega, rfl, hw, hk⟩) (by omega) (by omega) d_md_least_28

abbrev q_md_value (G : hG) (y th dn d np be sg nu bg nx fi le pl lf rt ln rw va : Nat) (ak : Bool) (fv : Nat → Int32) (k : Int32) (M : hM) : Option Value → hM → Prop := fun rv M' => ((ak = true ∧ 1 ≤ k.toInt ∧ k.toInt < (ln : Int) ∧ rv = some (.int (fv (k.toInt.toNat + 1)))) ∨ (¬ (ak = true ∧ 1 ≤ k.toInt ∧ k.toInt < (ln : Int)) ∧ rv = some (.int (-1)))) ∧ hm_has M' [(y, .inr (4, [.int (nI 0), .int (nI dn), .ref d, .int (nI np), .ref be, .ref sg, .ref nu, .int (nI bg), .int (nI nx), .ref fi, .ref le, .ref pl, .int (nI lf), .int (nI rt), .int (nI ln), .ref rw, .ref va, .int (bI ak)])), (va, aI G 66 fv)] ∧ hm_kp (fun a => a ∈ [y]) M M'
set_option maxHeartbeats 4000000 in
set_option maxRecDepth 100000 in
theorem c_md_value (l : Launch) (G : hG) (y th dn d np be sg nu bg nx fi le pl lf rt ln rw va : Nat) (ak : Bool) (fv : Nat → Int32) (k : Int32) (M : hM) (hw : hm_has M [(y, .inr (4, [.int (nI th), .int (nI dn), .ref d, .int (nI np), .ref be, .ref sg, .ref nu, .int (nI bg), .int (nI nx), .ref fi, .ref le, .ref pl, .int (nI lf), .int (nI rt), .int (nI ln), .ref rw, .ref va, .int (bI ak)])), (va, aI G 66 fv)]) (hln : ln ≤ 63) : Ct (gk G) l G.1 vwC y_md_value w_md_value { frames := 0, cells := 0, slots := 0, locals := 0 } ([.ref y, .int k] : List Value) M (q_md_value G y th dn d np be sg nu bg nx fi le pl lf rt ln rw va ak fv k M) 0 0 := by
  refine Ct.ofW (cc := b_md_value) (maxL := 2) (ret := (Option.some Jvm.ClassFile.FieldType.int)) (by decide) rfl (Nat.le_of_ble_eq_true rfl) (fun p e s m below meth c A ls E hr hlk hin hg hH hl => ?_)
  have hl : lv_has ls 2 [(0, .ref y), (1, .int k)] := hl
  have hx := E.1; have hb := E.2.1; have hml := E.2.2.1; have hown := E.2.2.2.1; have hts := E.2.2.2.2; have hK := hg.1
  obtain ⟨M0, hM0⟩ : ∃ M0 : hM, M0 = M := ⟨M, rfl⟩
  rw [show q_md_value G y th dn d np be sg nu bg nx fi le pl lf rt ln rw va ak fv k M = q_md_value G y th dn d np be sg nu bg nx fi le pl lf rt ln rw va ak fv k M0 by rw [hM0]]
  have hk : hm_kp (fun a => a ∈ [y]) M0 M := by rw [hM0]; exact hm_kp.rf
  refine lv_aload_n hx hb d_md_value_0 rfl (lv_at hl 0 rfl) ?_
  refine lv_iconst (v := 0) hx hb d_md_value_1 (by decide) ?_
  refine hm_put E (tB in_md) t_md tk_md nm_md hK hH (hw.at 0 rfl) rfl 0 (by decide) (tC wm_367) rfl rfl rfl (Nat.le_of_ble_eq_true rfl) (fs' := [.int 0, .int (nI dn), .ref d, .int (nI np), .ref be, .ref sg, .ref nu, .int (nI bg), .int (nI nx), .ref fi, .ref le, .ref pl, .int (nI lf), .int (nI rt), .int (nI ln), .ref rw, .ref va, .int (bI ak)]) rfl d_md_value_2 (fun H locs hH => ?_)
  have hw := hw.set (ws' := [(y, .inr (4, [.int 0, .int (nI dn), .ref d, .int (nI np), .ref be, .ref sg, .ref nu, .int (nI bg), .int (nI nx), .ref fi, .ref le, .ref pl, .int (nI lf), .int (nI rt), .int (nI ln), .ref rw, .ref va, .int (bI ak)])), (va, aI G 66 fv)]) (k := 0) rfl rfl
  have hk := hk.wr (a := y) (v := some (.inr (4, [.int 0, .int (nI dn), .ref d, .int (nI np), .ref be, .ref sg, .ref nu, .int (nI bg), .int (nI nx), .ref fi, .ref le, .ref pl, .int (nI lf), .int (nI rt), .int (nI ln), .ref rw, .ref va, .int (bI ak)]))) (by first | (right; assumption) | (left; simp; done))
  generalize va_up M y (some (.inr (4, [.int 0, .int (nI dn), .ref d, .int (nI np), .ref be, .ref sg, .ref nu, .int (nI bg), .int (nI nx), .ref fi, .ref le, .ref pl, .int (nI lf), .int (nI rt), .int (nI ln), .ref rw, .ref va, .int (bI ak)]))) = M at hH hw hk ⊢
  refine lv_aload_n hx hb d_md_value_5 rfl (lv_at hl 0 rfl) ?_
  refine hm_get E (tB in_md) hK hH (hw.at 0 rfl) rfl 17 (by decide) (tC wm_384) rfl d_md_value_6 ?_
  refine hb_if_eq (b := ak) hx hb (tgt := 25) d_md_value_9 (by decide) (fun h9 => ?_) (fun h9 => ?_)
  · skip
    refine lv_iconst (v := (-1)) hx hb d_md_value_25 (by decide) ?_
    refine lv_goto (tgt := 37) hx hb d_md_value_26 (by decide) ?_
    exact hm_iret E hr hlk hH (⟨Or.inr ⟨fun z => (by have h8 := z.1; rw [h9] at h8; cases h8), rfl⟩, hw, hk⟩) (by omega) (by omega) d_md_value_37
  · skip
    refine lv_iload_n hx hb d_md_value_12 rfl (lv_at hl 1 rfl) ?_
    refine lv_iconst (v := 1) hx hb d_md_value_13 (by decide) ?_
    refine hr_icmp_lt (x := k) (y := 1) (c9 := 1) hx hb (by decide) (tgt := 25) d_md_value_14 (by decide) (fun h14 => ?_) (fun h14 => ?_)
    · skip
      refine lv_iconst (v := (-1)) hx hb d_md_value_25 (by decide) ?_
      refine lv_goto (tgt := 37) hx hb d_md_value_26 (by decide) ?_
      exact hm_iret E hr hlk hH (⟨Or.inr ⟨fun z => (by have h8 := z.2; omega), rfl⟩, hw, hk⟩) (by omega) (by omega) d_md_value_37
    · skip
      refine lv_iload_n hx hb d_md_value_17 rfl (lv_at hl 1 rfl) ?_
      refine lv_aload_n hx hb d_md_value_18 rfl (lv_at hl 0 rfl) ?_
      refine hm_get E (tB in_md) hK hH (hw.at 0 rfl) rfl 14 (by decide) (tC wm_381) rfl d_md_value_19 ?_
      refine hr_icmp_lt (x := k) (y := nI ln) (c9 := (ln : Int)) hx hb (nI_toInt (by omega)) (tgt := 29) d_md_value_22 (by decide) (fun h22 => ?_) (fun h22 => ?_)
      · skip
        obtain ⟨j, hj31, rfl⟩ := nI_ex (z := k) (by omega)
        rw [nI_toInt hj31] at h14 h22
        refine lv_aload_n hx hb d_md_value_29 rfl (lv_at hl 0 rfl) ?_
        refine hm_get E (tB in_md) hK hH (hw.at 0 rfl) rfl 16 (by decide) (tC wm_383) rfl d_md_value_30 ?_
        refine lv_iload_n hx hb d_md_value_33 rfl (lv_at hl 1 rfl) ?_
        refine lv_iconst (v := 1) hx hb d_md_value_34 (by decide) ?_
        refine hn_iadd hx hb (a := j) (b := 1) d_md_value_35 ?_
        refine hm_iald E hK hH 0 (hw.at 1 rfl) rfl (i := j + 1) (by omega) (by decide) d_md_value_36 ?_
        exact hm_iret E hr hlk hH (⟨Or.inl ⟨h9, by rw [nI_toInt hj31]; exact h14, by rw [nI_toInt hj31]; exact h22, by rw [nI_toInt hj31]; rfl⟩, hw, hk⟩) (by omega) (by omega) d_md_value_37
      · skip
        refine lv_iconst (v := (-1)) hx hb d_md_value_25 (by decide) ?_
        refine lv_goto (tgt := 37) hx hb d_md_value_26 (by decide) ?_
        exact hm_iret E hr hlk hH (⟨Or.inr ⟨fun z => (by have h8 := z.2; omega), rfl⟩, hw, hk⟩) (by omega) (by omega) d_md_value_37

abbrev q_md_count (G : hG) (y th dn d np be sg nu bg nx fi le pl lf rt ln rw va : Nat) (ak : Bool) (k : Int32) (M : hM) : Option Value → hM → Prop := fun rv M' => rv = some (.int (if k.toInt = 0 then nI np else if k.toInt = 1 then nI nx else if k.toInt = 2 then nI bg else if k.toInt = 3 then nI dn else -1)) ∧ hm_has M' [(y, .inr (4, [.int (nI 0), .int (nI dn), .ref d, .int (nI np), .ref be, .ref sg, .ref nu, .int (nI bg), .int (nI nx), .ref fi, .ref le, .ref pl, .int (nI lf), .int (nI rt), .int (nI ln), .ref rw, .ref va, .int (bI ak)]))] ∧ hm_kp (fun a => a ∈ [y]) M M'
set_option maxHeartbeats 4000000 in
set_option maxRecDepth 100000 in
theorem c_md_count (l : Launch) (G : hG) (y th dn d np be sg nu bg nx fi le pl lf rt ln rw va : Nat) (ak : Bool) (k : Int32) (M : hM) (hw : hm_has M [(y, .inr (4, [.int (nI th), .int (nI dn), .ref d, .int (nI np), .ref be, .ref sg, .ref nu, .int (nI bg), .int (nI nx), .ref fi, .ref le, .ref pl, .int (nI lf), .int (nI rt), .int (nI ln), .ref rw, .ref va, .int (bI ak)]))]) : Ct (gk G) l G.1 vwC y_md_count w_md_count { frames := 0, cells := 0, slots := 0, locals := 0 } ([.ref y, .int k] : List Value) M (q_md_count G y th dn d np be sg nu bg nx fi le pl lf rt ln rw va ak k M) 0 0 := by
  refine Ct.ofW (cc := b_md_count) (maxL := 2) (ret := (Option.some Jvm.ClassFile.FieldType.int)) (by decide) rfl (Nat.le_of_ble_eq_true rfl) (fun p e s m below meth c A ls E hr hlk hin hg hH hl => ?_)
  have hl : lv_has ls 2 [(0, .ref y), (1, .int k)] := hl
  have hx := E.1; have hb := E.2.1; have hml := E.2.2.1; have hown := E.2.2.2.1; have hts := E.2.2.2.2; have hK := hg.1
  obtain ⟨M0, hM0⟩ : ∃ M0 : hM, M0 = M := ⟨M, rfl⟩
  rw [show q_md_count G y th dn d np be sg nu bg nx fi le pl lf rt ln rw va ak k M = q_md_count G y th dn d np be sg nu bg nx fi le pl lf rt ln rw va ak k M0 by rw [hM0]]
  have hk : hm_kp (fun a => a ∈ [y]) M0 M := by rw [hM0]; exact hm_kp.rf
  refine lv_aload_n hx hb d_md_count_0 rfl (lv_at hl 0 rfl) ?_
  refine lv_iconst (v := 0) hx hb d_md_count_1 (by decide) ?_
  refine hm_put E (tB in_md) t_md tk_md nm_md hK hH (hw.at 0 rfl) rfl 0 (by decide) (tC wm_367) rfl rfl rfl (Nat.le_of_ble_eq_true rfl) (fs' := [.int 0, .int (nI dn), .ref d, .int (nI np), .ref be, .ref sg, .ref nu, .int (nI bg), .int (nI nx), .ref fi, .ref le, .ref pl, .int (nI lf), .int (nI rt), .int (nI ln), .ref rw, .ref va, .int (bI ak)]) rfl d_md_count_2 (fun H locs hH => ?_)
  have hw := hw.set (ws' := [(y, .inr (4, [.int 0, .int (nI dn), .ref d, .int (nI np), .ref be, .ref sg, .ref nu, .int (nI bg), .int (nI nx), .ref fi, .ref le, .ref pl, .int (nI lf), .int (nI rt), .int (nI ln), .ref rw, .ref va, .int (bI ak)]))]) (k := 0) rfl rfl
  have hk := hk.wr (a := y) (v := some (.inr (4, [.int 0, .int (nI dn), .ref d, .int (nI np), .ref be, .ref sg, .ref nu, .int (nI bg), .int (nI nx), .ref fi, .ref le, .ref pl, .int (nI lf), .int (nI rt), .int (nI ln), .ref rw, .ref va, .int (bI ak)]))) (by first | (right; assumption) | (left; simp; done))
  generalize va_up M y (some (.inr (4, [.int 0, .int (nI dn), .ref d, .int (nI np), .ref be, .ref sg, .ref nu, .int (nI bg), .int (nI nx), .ref fi, .ref le, .ref pl, .int (nI lf), .int (nI rt), .int (nI ln), .ref rw, .ref va, .int (bI ak)]))) = M at hH hw hk ⊢
  refine lv_iload_n hx hb d_md_count_5 rfl (lv_at hl 1 rfl) ?_
  refine hc_if_ne (x := k) hx hb (tgt := 16) d_md_count_6 (by decide) (fun k0 => ?_) (fun k0 => ?_)
  · skip
    refine lv_iload_n hx hb d_md_count_16 rfl (lv_at hl 1 rfl) ?_
    refine lv_iconst (v := 1) hx hb d_md_count_17 (by decide) ?_
    refine hc_icmp_ne (x := k) (y := 1) (c9 := 1) hx hb (by decide) (tgt := 28) d_md_count_18 (by decide) (fun k1 => ?_) (fun k1 => ?_)
    · skip
      refine lv_iload_n hx hb d_md_count_28 rfl (lv_at hl 1 rfl) ?_
      refine lv_iconst (v := 2) hx hb d_md_count_29 (by decide) ?_
      refine hc_icmp_ne (x := k) (y := 2) (c9 := 2) hx hb (by decide) (tgt := 40) d_md_count_30 (by decide) (fun k2 => ?_) (fun k2 => ?_)
      · skip
        refine lv_iload_n hx hb d_md_count_40 rfl (lv_at hl 1 rfl) ?_
        refine lv_iconst (v := 3) hx hb d_md_count_41 (by decide) ?_
        refine hc_icmp_ne (x := k) (y := 3) (c9 := 3) hx hb (by decide) (tgt := 52) d_md_count_42 (by decide) (fun k3 => ?_) (fun k3 => ?_)
        · skip
          refine lv_iconst (v := (-1)) hx hb d_md_count_52 (by decide) ?_
          exact hm_iret E hr hlk hH (⟨by first | rw [if_pos k0] | rw [if_neg k0, if_pos k1] | rw [if_neg k0, if_neg k1, if_pos k2] | rw [if_neg k0, if_neg k1, if_neg k2, if_pos k3] | rw [if_neg k0, if_neg k1, if_neg k2, if_neg k3], hw, hk⟩) (by omega) (by omega) d_md_count_53
        · skip
          refine lv_aload_n hx hb d_md_count_45 rfl (lv_at hl 0 rfl) ?_
          refine hm_get E (tB in_md) hK hH (hw.at 0 rfl) rfl 1 (by decide) (tC wm_368) rfl d_md_count_46 ?_
          refine lv_goto (tgt := 53) hx hb d_md_count_49 (by decide) ?_
          exact hm_iret E hr hlk hH (⟨by first | rw [if_pos k0] | rw [if_neg k0, if_pos k1] | rw [if_neg k0, if_neg k1, if_pos k2] | rw [if_neg k0, if_neg k1, if_neg k2, if_pos k3] | rw [if_neg k0, if_neg k1, if_neg k2, if_neg k3], hw, hk⟩) (by omega) (by omega) d_md_count_53
      · skip
        refine lv_aload_n hx hb d_md_count_33 rfl (lv_at hl 0 rfl) ?_
        refine hm_get E (tB in_md) hK hH (hw.at 0 rfl) rfl 7 (by decide) (tC wm_374) rfl d_md_count_34 ?_
        refine lv_goto (tgt := 53) hx hb d_md_count_37 (by decide) ?_
        exact hm_iret E hr hlk hH (⟨by first | rw [if_pos k0] | rw [if_neg k0, if_pos k1] | rw [if_neg k0, if_neg k1, if_pos k2] | rw [if_neg k0, if_neg k1, if_neg k2, if_pos k3] | rw [if_neg k0, if_neg k1, if_neg k2, if_neg k3], hw, hk⟩) (by omega) (by omega) d_md_count_53
    · skip
      refine lv_aload_n hx hb d_md_count_21 rfl (lv_at hl 0 rfl) ?_
      refine hm_get E (tB in_md) hK hH (hw.at 0 rfl) rfl 8 (by decide) (tC wm_375) rfl d_md_count_22 ?_
      refine lv_goto (tgt := 53) hx hb d_md_count_25 (by decide) ?_
      exact hm_iret E hr hlk hH (⟨by first | rw [if_pos k0] | rw [if_neg k0, if_pos k1] | rw [if_neg k0, if_neg k1, if_pos k2] | rw [if_neg k0, if_neg k1, if_neg k2, if_pos k3] | rw [if_neg k0, if_neg k1, if_neg k2, if_neg k3], hw, hk⟩) (by omega) (by omega) d_md_count_53
  · skip
    refine lv_aload_n hx hb d_md_count_9 rfl (lv_at hl 0 rfl) ?_
    refine hm_get E (tB in_md) hK hH (hw.at 0 rfl) rfl 3 (by decide) (tC wm_370) rfl d_md_count_10 ?_
    refine lv_goto (tgt := 53) hx hb d_md_count_13 (by decide) ?_
    exact hm_iret E hr hlk hH (⟨by first | rw [if_pos k0] | rw [if_neg k0, if_pos k1] | rw [if_neg k0, if_neg k1, if_pos k2] | rw [if_neg k0, if_neg k1, if_neg k2, if_pos k3] | rw [if_neg k0, if_neg k1, if_neg k2, if_neg k3], hw, hk⟩) (by omega) (by omega) d_md_count_53

abbrev q_md_common (G : hG) (y th dn d np be sg nu bg nx fi le pl lf rt ln rw va : Nat) (ak : Bool) (fb fs : Nat → Int32) (o : Nat → Nat) (at0 mm p0 : Nat) (M : hM) : Option Value → hM → Prop := fun rv M' => ∃ k9, rv = some (.int (nI k9)) ∧ cmP o fs at0 mm p0 k9 ∧ M' = M
set_option maxHeartbeats 4000000 in
set_option maxRecDepth 100000 in
theorem c_md_common (l : Launch) (G : hG) (y th dn d np be sg nu bg nx fi le pl lf rt ln rw va : Nat) (ak : Bool) (fb fs : Nat → Int32) (o : Nat → Nat) (at0 mm p0 : Nat) (M : hM) (hw : hm_has M [(y, .inr (4, [.int (nI th), .int (nI dn), .ref d, .int (nI np), .ref be, .ref sg, .ref nu, .int (nI bg), .int (nI nx), .ref fi, .ref le, .ref pl, .int (nI lf), .int (nI rt), .int (nI ln), .ref rw, .ref va, .int (bI ak)])), (be, aI G 8194 fb), (sg, aI G 40000 fs)]) (hb0 : fb p0 = nI (o p0)) (hb1 : fb (p0 + 1) = nI (o (p0 + 1))) (hmo : o p0 ≤ o (p0 + 1)) (hob : o (p0 + 1) ≤ 39000) (hat : at0 + mm ≤ 39500) (hp0 : p0 ≤ 8000) : Ct (gk G) l G.1 vwC y_md_common w_md_common { frames := 0, cells := 0, slots := 0, locals := 0 } ([.ref y, .int (nI at0), .int (nI mm), .int (nI p0)] : List Value) M (q_md_common G y th dn d np be sg nu bg nx fi le pl lf rt ln rw va ak fb fs o at0 mm p0 M) 0 0 := by
  refine Ct.ofW (cc := b_md_common) (maxL := 5) (ret := (Option.some Jvm.ClassFile.FieldType.int)) (by decide) rfl (Nat.le_of_ble_eq_true rfl) (fun p e s m below meth c A ls E hr hlk hin hg hH hl => ?_)
  have hl : lv_has ls 5 [(0, .ref y), (1, .int (nI at0)), (2, .int (nI mm)), (3, .int (nI p0))] := hl
  have hx := E.1; have hb := E.2.1; have hml := E.2.2.1; have hown := E.2.2.2.1; have hts := E.2.2.2.2; have hK := hg.1
  obtain ⟨M0, hM0⟩ : ∃ M0 : hM, M0 = M := ⟨M, rfl⟩
  rw [show q_md_common G y th dn d np be sg nu bg nx fi le pl lf rt ln rw va ak fb fs o at0 mm p0 M = q_md_common G y th dn d np be sg nu bg nx fi le pl lf rt ln rw va ak fb fs o at0 mm p0 M0 by rw [hM0]]
  refine lv_iconst (v := 0) hx hb d_md_common_0 (by decide) ?_
  refine lv_istore (lv' := [(4, .int 0), (0, .ref y), (1, .int (nI at0)), (2, .int (nI mm)), (3, .int (nI p0))]) hx hb d_md_common_1 hl (by decide) rfl (fun ls hl => ?_)
  have L3 : ∀ (k : Nat) (k9 : Nat) (H : Heap) (locs : List Loc) (ls : Array Slot), mm + 1 ≤ k9 + k → k9 ≤ mm → o p0 + k9 ≤ o (p0 + 1) → (∀ j, j < k9 → fs (o p0 + j) = fs (at0 + j)) → hm_I G.1 vwC A s.heap M H locs → lv_has ls 5 [(4, .int (nI k9)), (0, .ref y), (1, .int (nI at0)), (2, .int (nI mm)), (3, .int (nI p0))] → W p l e { frames := 0, cells := 0, slots := 0, locals := 0 } s m ([.ref y, .int (nI at0), .int (nI mm), .int (nI p0)] : List Value).toArray below meth c H locs 0 0 (MQ below (hm_Q G.1 vwC (q_md_common G y th dn d np be sg nu bg nx fi le pl lf rt ln rw va ak fb fs o at0 mm p0 M0) A) ([.ref y, .int (nI at0), .int (nI mm), .int (nI p0)] : List Value).toArray s 0 0 A) (F0 m 3 ls []) := by
    intro k
    induction k with
    | zero => intro k9 H locs ls hfu hk9 hok hag; exact absurd hfu (by omega)
    | succ k ih =>
      intro k9 H locs ls hfu hk9 hok hag hH hl
      refine lv_iload hx hb d_md_common_3 (lv_at hl 0 rfl) ?_
      refine lv_iload_n hx hb d_md_common_5 rfl (lv_at hl 3 rfl) ?_
      refine hn_icmp_ge (a := k9) (b := mm) hx hb (by omega) (by omega) (tgt := 61) d_md_common_6 (by decide) (fun h6 => ?_) (fun h6 => ?_)
      · skip
        refine lv_iload hx hb d_md_common_61 (lv_at hl 0 rfl) ?_
        exact hm_iret E hr hlk hH (⟨k9, rfl, ⟨hk9, hok, hag, by first | exact Or.inl (by omega) | exact Or.inr (Or.inl (by omega)) | exact Or.inr (Or.inr h52)⟩, hM0.symm⟩) (by omega) (by omega) d_md_common_63
      · skip
        refine lv_aload_n hx hb d_md_common_9 rfl (lv_at hl 1 rfl) ?_
        refine hm_get E (tB in_md) hK hH (hw.at 0 rfl) rfl 4 (by decide) (tC wm_371) rfl d_md_common_10 ?_
        refine lv_iload_n hx hb d_md_common_13 rfl (lv_at hl 4 rfl) ?_
        refine hm_iald E hK hH 0 (hw.at 1 rfl) rfl (i := p0) (by omega) (by decide) d_md_common_14 ?_
        refine hm_top (w := .int (nI (o p0))) (by rw [hb0]) ?_
        refine lv_iload hx hb d_md_common_15 (lv_at hl 0 rfl) ?_
        refine hn_iadd hx hb (a := o p0) (b := k9) d_md_common_17 ?_
        refine lv_aload_n hx hb d_md_common_18 rfl (lv_at hl 1 rfl) ?_
        refine hm_get E (tB in_md) hK hH (hw.at 0 rfl) rfl 4 (by decide) (tC wm_371) rfl d_md_common_19 ?_
        refine lv_iload_n hx hb d_md_common_22 rfl (lv_at hl 4 rfl) ?_
        refine lv_iconst (v := 1) hx hb d_md_common_23 (by decide) ?_
        refine hn_iadd hx hb (a := p0) (b := 1) d_md_common_24 ?_
        refine hm_iald E hK hH 0 (hw.at 1 rfl) rfl (i := p0 + 1) (by omega) (by decide) d_md_common_25 ?_
        refine hm_top (w := .int (nI (o (p0 + 1)))) (by rw [hb1]) ?_
        refine hn_icmp_ge (a := o p0 + k9) (b := o (p0 + 1)) hx hb (by omega) (by omega) (tgt := 61) d_md_common_26 (by decide) (fun h26 => ?_) (fun h26 => ?_)
        · skip
          refine lv_iload hx hb d_md_common_61 (lv_at hl 0 rfl) ?_
          exact hm_iret E hr hlk hH (⟨k9, rfl, ⟨hk9, hok, hag, by first | exact Or.inl (by omega) | exact Or.inr (Or.inl (by omega)) | exact Or.inr (Or.inr h52)⟩, hM0.symm⟩) (by omega) (by omega) d_md_common_63
        · skip
          refine lv_aload_n hx hb d_md_common_29 rfl (lv_at hl 1 rfl) ?_
          refine hm_get E (tB in_md) hK hH (hw.at 0 rfl) rfl 5 (by decide) (tC wm_372) rfl d_md_common_30 ?_
          refine lv_aload_n hx hb d_md_common_33 rfl (lv_at hl 1 rfl) ?_
          refine hm_get E (tB in_md) hK hH (hw.at 0 rfl) rfl 4 (by decide) (tC wm_371) rfl d_md_common_34 ?_
          refine lv_iload_n hx hb d_md_common_37 rfl (lv_at hl 4 rfl) ?_
          refine hm_iald E hK hH 0 (hw.at 1 rfl) rfl (i := p0) (by omega) (by decide) d_md_common_38 ?_
          refine hm_top (w := .int (nI (o p0))) (by rw [hb0]) ?_
          refine lv_iload hx hb d_md_common_39 (lv_at hl 0 rfl) ?_
          refine hn_iadd hx hb (a := o p0) (b := k9) d_md_common_41 ?_
          refine hm_iald E hK hH 0 (hw.at 2 rfl) rfl (i := o p0 + k9) (by omega) (by decide) d_md_common_42 ?_
          refine lv_aload_n hx hb d_md_common_43 rfl (lv_at hl 1 rfl) ?_
          refine hm_get E (tB in_md) hK hH (hw.at 0 rfl) rfl 5 (by decide) (tC wm_372) rfl d_md_common_44 ?_
          refine lv_iload_n hx hb d_md_common_47 rfl (lv_at hl 2 rfl) ?_
          refine lv_iload hx hb d_md_common_48 (lv_at hl 0 rfl) ?_
          refine hn_iadd hx hb (a := at0) (b := k9) d_md_common_50 ?_
          refine hm_iald E hK hH 0 (hw.at 2 rfl) rfl (i := at0 + k9) (by omega) (by decide) d_md_common_51 ?_
          refine hr_icmp_ne (x := fs (o p0 + k9)) (y := fs (at0 + k9)) hx hb (tgt := 61) d_md_common_52 (by decide) (fun h52 => ?_) (fun h52 => ?_)
          · skip
            refine lv_iload hx hb d_md_common_61 (lv_at hl 0 rfl) ?_
            exact hm_iret E hr hlk hH (⟨k9, rfl, ⟨hk9, hok, hag, by first | exact Or.inl (by omega) | exact Or.inr (Or.inl (by omega)) | exact Or.inr (Or.inr h52)⟩, hM0.symm⟩) (by omega) (by omega) d_md_common_63
          · skip
            refine lv_iinc (v := nI (k9 + 1)) (lv' := [(4, .int (nI (k9 + 1))), (0, .ref y), (1, .int (nI at0)), (2, .int (nI mm)), (3, .int (nI p0))]) hx hb d_md_common_55 hl (k := 0) rfl (by first | exact nI_add _ 1 | (show nI _ + nI _ = _; rw [nI_add])) (by decide) rfl (fun ls hl => ?_)
            refine lv_goto (tgt := 3) hx hb d_md_common_58 (by decide) ?_
            exact ih (k9 + 1) _ _ _ (by omega) (by omega) (by omega) (lt_S hag h52) hH (lv_sub hl [0, 1, 2, 3, 4] rfl)
  exact L3 (mm + 1) 0 _ _ _ (by omega) (by omega) (by omega) (fun j hj => absurd hj (by omega)) hH (lv_sub hl [0, 1, 2, 3, 4] rfl)

abbrev q_md_find (G : hG) (y th dn d np be sg nu bg nx fi le pl lf rt ln rw va : Nat) (ak : Bool) (ff fl : Nat → Int32) (o : Nat → Nat) (n : Nat) (M : hM) : Option Value → hM → Prop := fun rv M' => ∃ e9, rv = some (.int (nI e9)) ∧ e9 ≤ nx ∧ (e9 < nx → fdP o fl nx n e9) ∧ (∀ e, e < e9 → ¬ fdP o fl nx n e) ∧ M' = M
set_option maxHeartbeats 4000000 in
set_option maxRecDepth 100000 in
theorem c_md_find (l : Launch) (G : hG) (y th dn d np be sg nu bg nx fi le pl lf rt ln rw va : Nat) (ak : Bool) (ff fl : Nat → Int32) (o : Nat → Nat) (n : Nat) (M : hM) (hw : hm_has M [(y, .inr (4, [.int (nI th), .int (nI dn), .ref d, .int (nI np), .ref be, .ref sg, .ref nu, .int (nI bg), .int (nI nx), .ref fi, .ref le, .ref pl, .int (nI lf), .int (nI rt), .int (nI ln), .ref rw, .ref va, .int (bI ak)])), (fi, aI G 2050 ff), (le, aI G 40000 fl)]) (hff : ∀ e, e ≤ nx → ff e = nI (o e)) (hmo : ∀ e, e < nx → o e ≤ o (e + 1)) (hle : ∀ e, e ≤ nx → o e ≤ o nx) (hob : o nx ≤ 39000) (hnx : nx ≤ 2000) (hn : n ≤ 64) : Ct (gk G) l G.1 vwC y_md_find w_md_find { frames := 0, cells := 0, slots := 0, locals := 0 } ([.ref y, .int (nI n)] : List Value) M (q_md_find G y th dn d np be sg nu bg nx fi le pl lf rt ln rw va ak ff fl o n M) 0 0 := by
  refine Ct.ofW (cc := b_md_find) (maxL := 5) (ret := (Option.some Jvm.ClassFile.FieldType.int)) (by decide) rfl (Nat.le_of_ble_eq_true rfl) (fun p e s m below meth c A ls E hr hlk hin hg hH hl => ?_)
  have hl : lv_has ls 5 [(0, .ref y), (1, .int (nI n))] := hl
  have hx := E.1; have hb := E.2.1; have hml := E.2.2.1; have hown := E.2.2.2.1; have hts := E.2.2.2.2; have hK := hg.1
  obtain ⟨M0, hM0⟩ : ∃ M0 : hM, M0 = M := ⟨M, rfl⟩
  rw [show q_md_find G y th dn d np be sg nu bg nx fi le pl lf rt ln rw va ak ff fl o n M = q_md_find G y th dn d np be sg nu bg nx fi le pl lf rt ln rw va ak ff fl o n M0 by rw [hM0]]
  refine lv_iconst (v := 0) hx hb d_md_find_0 (by decide) ?_
  refine lv_istore_n (lv' := [(2, .int 0), (0, .ref y), (1, .int (nI n))]) hx hb d_md_find_1 rfl hl (by decide) rfl (fun ls hl => ?_)
  have L2 : ∀ (k : Nat) (e9 : Nat) (H : Heap) (locs : List Loc) (ls : Array Slot), nx + 1 ≤ e9 + k → e9 ≤ nx → (∀ e, e < e9 → ¬ fdP o fl nx n e) → hm_I G.1 vwC A s.heap M H locs → lv_has ls 5 [(2, .int (nI e9)), (0, .ref y), (1, .int (nI n))] → W p l e { frames := 0, cells := 0, slots := 0, locals := 0 } s m ([.ref y, .int (nI n)] : List Value).toArray below meth c H locs 0 0 (MQ below (hm_Q G.1 vwC (q_md_find G y th dn d np be sg nu bg nx fi le pl lf rt ln rw va ak ff fl o n M0) A) ([.ref y, .int (nI n)] : List Value).toArray s 0 0 A) (F0 m 2 ls []) := by
    intro k
    induction k with
    | zero => intro e9 H locs ls hfu he9 hno; exact absurd hfu (by omega)
    | succ k ih =>
      intro e9 H locs ls hfu he9 hno hH hl
      refine lv_iload_n hx hb d_md_find_2 rfl (lv_at hl 0 rfl) ?_
      refine lv_aload_n hx hb d_md_find_3 rfl (lv_at hl 1 rfl) ?_
      refine hm_get E (tB in_md) hK hH (hw.at 0 rfl) rfl 8 (by decide) (tC wm_375) rfl d_md_find_4 ?_
      refine hn_icmp_ge (a := e9) (b := nx) hx hb (by omega) (by omega) (tgt := 106) d_md_find_7 (by decide) (fun h7 => ?_) (fun h7 => ?_)
      · skip
        refine lv_aload_n hx hb d_md_find_106 rfl (lv_at hl 1 rfl) ?_
        refine hm_get E (tB in_md) hK hH (hw.at 0 rfl) rfl 8 (by decide) (tC wm_375) rfl d_md_find_107 ?_
        have hen : e9 = nx := by omega
        subst hen
        exact hm_iret E hr hlk hH (⟨e9, rfl, by omega, fun z => absurd z (by omega), hno, hM0.symm⟩) (by omega) (by omega) d_md_find_110
      · skip
        have hmo1 := hmo e9 (by omega)
        have hle2 := hle (e9 + 1) (by omega)
        refine lv_aload_n hx hb d_md_find_10 rfl (lv_at hl 1 rfl) ?_
        refine hm_get E (tB in_md) hK hH (hw.at 0 rfl) rfl 9 (by decide) (tC wm_376) rfl d_md_find_11 ?_
        refine lv_iload_n hx hb d_md_find_14 rfl (lv_at hl 0 rfl) ?_
        refine lv_iconst (v := 1) hx hb d_md_find_15 (by decide) ?_
        refine hn_iadd hx hb (a := e9) (b := 1) d_md_find_16 ?_
        refine hm_iald E hK hH 0 (hw.at 1 rfl) rfl (i := e9 + 1) (by omega) (by decide) d_md_find_17 ?_
        refine hm_top (w := .int (nI (o (e9 + 1)))) (by rw [hff (e9 + 1) (by omega)]) ?_
        refine lv_aload_n hx hb d_md_find_18 rfl (lv_at hl 1 rfl) ?_
        refine hm_get E (tB in_md) hK hH (hw.at 0 rfl) rfl 9 (by decide) (tC wm_376) rfl d_md_find_19 ?_
        refine lv_iload_n hx hb d_md_find_22 rfl (lv_at hl 0 rfl) ?_
        refine hm_iald E hK hH 0 (hw.at 1 rfl) rfl (i := e9) (by omega) (by decide) d_md_find_23 ?_
        refine hm_top (w := .int (nI (o e9))) (by rw [hff e9 (by omega)]) ?_
        refine hn_isub hx hb (a := o (e9 + 1)) (b := o e9) (by omega) d_md_find_24 ?_
        refine lv_iload_n hx hb d_md_find_25 rfl (lv_at hl 2 rfl) ?_
        refine hn_icmp_ne (a := (o (e9 + 1)) - (o e9)) (b := n) hx hb (by omega) (by omega) (tgt := 33) d_md_find_26 (by decide) (fun h26 => ?_) (fun h26 => ?_)
        · skip
          refine lv_iconst (v := 0) hx hb d_md_find_33 (by decide) ?_
          refine lv_istore_n (lv' := [(3, .int 0), (2, .int (nI e9)), (0, .ref y), (1, .int (nI n))]) hx hb d_md_find_34 rfl hl (by decide) rfl (fun ls hl => ?_)
          refine lv_iconst (v := 0) hx hb d_md_find_35 (by decide) ?_
          refine lv_istore (lv' := [(4, .int 0), (3, .int 0), (2, .int (nI e9)), (0, .ref y), (1, .int (nI n))]) hx hb d_md_find_36 hl (by decide) rfl (fun ls hl => ?_)
          have L38 : ∀ (k : Nat) (k9 : Nat) (b : Bool) (H : Heap) (locs : List Loc) (ls : Array Slot), n + 1 ≤ k9 + k → k9 ≤ n → (b = true ↔ o (e9 + 1) = o e9 + n ∧ ∀ j, j < k9 → fl (o e9 + j) = fl (o nx + j)) → hm_I G.1 vwC A s.heap M H locs → lv_has ls 5 [(4, .int (nI k9)), (3, .int (bI b)), (2, .int (nI e9)), (0, .ref y), (1, .int (nI n))] → W p l e { frames := 0, cells := 0, slots := 0, locals := 0 } s m ([.ref y, .int (nI n)] : List Value).toArray below meth c H locs 0 0 (MQ below (hm_Q G.1 vwC (q_md_find G y th dn d np be sg nu bg nx fi le pl lf rt ln rw va ak ff fl o n M0) A) ([.ref y, .int (nI n)] : List Value).toArray s 0 0 A) (F0 m 38 ls []) := by
            intro k
            induction k with
            | zero => intro k9 b H locs ls hfu hk9 hbb; exact absurd hfu (by omega)
            | succ k ih2 =>
              intro k9 b H locs ls hfu hk9 hbb hH hl
              refine lv_iload hx hb d_md_find_38 (lv_at hl 0 rfl) ?_
              refine lv_iload_n hx hb d_md_find_40 rfl (lv_at hl 4 rfl) ?_
              refine hn_icmp_ge (a := k9) (b := n) hx hb (by omega) (by omega) (tgt := 94) d_md_find_41 (by decide) (fun h41 => ?_) (fun h41 => ?_)
              · skip
                refine lv_iload_n hx hb d_md_find_94 rfl (lv_at hl 1 rfl) ?_
                refine hb_if_eq (b := b) hx hb (tgt := 100) d_md_find_95 (by decide) (fun h95 => ?_) (fun h95 => ?_)
                · skip
                  refine lv_iinc (v := nI (e9 + 1)) (lv' := [(2, .int (nI (e9 + 1))), (4, .int (nI k9)), (3, .int (bI b)), (0, .ref y), (1, .int (nI n))]) hx hb d_md_find_100 hl (k := 2) rfl (by first | exact nI_add _ 1 | (show nI _ + nI _ = _; rw [nI_add])) (by decide) rfl (fun ls hl => ?_)
                  refine lv_goto (tgt := 2) hx hb d_md_find_103 (by decide) ?_
                  exact ih (e9 + 1) _ _ _ (by omega) (by omega) (lt_S hno (fun z => by have h8 := hbb.mpr ⟨z.1, fun j hj => z.2 j (by omega)⟩; rw [h95] at h8; cases h8)) hH (lv_sub hl [0, 3, 4] rfl)
                · skip
                  refine lv_iload_n hx hb d_md_find_98 rfl (lv_at hl 2 rfl) ?_
                  exact hm_iret E hr hlk hH (⟨e9, rfl, by omega, fun _ => ⟨(hbb.mp h95).1, fun k hk => (hbb.mp h95).2 k (by omega)⟩, hno, hM0.symm⟩) (by omega) (by omega) d_md_find_99
              · skip
                refine lv_iload_n hx hb d_md_find_44 rfl (lv_at hl 1 rfl) ?_
                refine hb_if_eq (b := b) hx hb (tgt := 94) d_md_find_45 (by decide) (fun h45 => ?_) (fun h45 => ?_)
                · skip
                  refine lv_iload_n hx hb d_md_find_94 rfl (lv_at hl 1 rfl) ?_
                  refine hb_if_eq (b := b) hx hb (tgt := 100) d_md_find_95 (by decide) (fun h95 => ?_) (fun h95 => ?_)
                  · skip
                    refine lv_iinc (v := nI (e9 + 1)) (lv' := [(2, .int (nI (e9 + 1))), (4, .int (nI k9)), (3, .int (bI b)), (0, .ref y), (1, .int (nI n))]) hx hb d_md_find_100 hl (k := 2) rfl (by first | exact nI_add _ 1 | (show nI _ + nI _ = _; rw [nI_add])) (by decide) rfl (fun ls hl => ?_)
                    refine lv_goto (tgt := 2) hx hb d_md_find_103 (by decide) ?_
                    exact ih (e9 + 1) _ _ _ (by omega) (by omega) (lt_S hno (fun z => by have h8 := hbb.mpr ⟨z.1, fun j hj => z.2 j (by omega)⟩; rw [h95] at h8; cases h8)) hH (lv_sub hl [0, 3, 4] rfl)
                  · skip
                    refine lv_iload_n hx hb d_md_find_98 rfl (lv_at hl 2 rfl) ?_
                    exact hm_iret E hr hlk hH (absurd (h45.symm.trans h95) (by decide)) (by omega) (by omega) d_md_find_99
                · skip
                  have hoe := (hbb.mp h45).1
                  have hle1 := hle (e9 + 1) (by omega)
                  refine lv_aload_n hx hb d_md_find_48 rfl (lv_at hl 3 rfl) ?_
                  refine hm_get E (tB in_md) hK hH (hw.at 0 rfl) rfl 10 (by decide) (tC wm_377) rfl d_md_find_49 ?_
                  refine lv_aload_n hx hb d_md_find_52 rfl (lv_at hl 3 rfl) ?_
                  refine hm_get E (tB in_md) hK hH (hw.at 0 rfl) rfl 9 (by decide) (tC wm_376) rfl d_md_find_53 ?_
                  refine lv_iload_n hx hb d_md_find_56 rfl (lv_at hl 2 rfl) ?_
                  refine hm_iald E hK hH 0 (hw.at 1 rfl) rfl (i := e9) (by omega) (by decide) d_md_find_57 ?_
                  refine hm_top (w := .int (nI (o e9))) (by rw [hff e9 (by omega)]) ?_
                  refine lv_iload hx hb d_md_find_58 (lv_at hl 0 rfl) ?_
                  refine hn_iadd hx hb (a := o e9) (b := k9) d_md_find_60 ?_
                  refine hm_iald E hK hH 0 (hw.at 2 rfl) rfl (i := o e9 + k9) (by omega) (by decide) d_md_find_61 ?_
                  refine lv_aload_n hx hb d_md_find_62 rfl (lv_at hl 3 rfl) ?_
                  refine hm_get E (tB in_md) hK hH (hw.at 0 rfl) rfl 10 (by decide) (tC wm_377) rfl d_md_find_63 ?_
                  refine lv_aload_n hx hb d_md_find_66 rfl (lv_at hl 3 rfl) ?_
                  refine hm_get E (tB in_md) hK hH (hw.at 0 rfl) rfl 9 (by decide) (tC wm_376) rfl d_md_find_67 ?_
                  refine lv_aload_n hx hb d_md_find_70 rfl (lv_at hl 3 rfl) ?_
                  refine hm_get E (tB in_md) hK hH (hw.at 0 rfl) rfl 8 (by decide) (tC wm_375) rfl d_md_find_71 ?_
                  refine hm_iald E hK hH 0 (hw.at 1 rfl) rfl (i := nx) (by omega) (by decide) d_md_find_74 ?_
                  refine hm_top (w := .int (nI (o nx))) (by rw [hff nx (by omega)]) ?_
                  refine lv_iload hx hb d_md_find_75 (lv_at hl 0 rfl) ?_
                  refine hn_iadd hx hb (a := o nx) (b := k9) d_md_find_77 ?_
                  refine hm_iald E hK hH 0 (hw.at 2 rfl) rfl (i := o nx + k9) (by omega) (by decide) d_md_find_78 ?_
                  refine hr_icmp_ne (x := fl (o e9 + k9)) (y := fl (o nx + k9)) hx hb (tgt := 86) d_md_find_79 (by decide) (fun h79 => ?_) (fun h79 => ?_)
                  · skip
                    refine lv_iconst (v := 0) hx hb d_md_find_86 (by decide) ?_
                    refine lv_istore_n (lv' := [(3, .int 0), (4, .int (nI k9)), (2, .int (nI e9)), (0, .ref y), (1, .int (nI n))]) hx hb d_md_find_87 rfl hl (by decide) rfl (fun ls hl => ?_)
                    refine lv_iinc (v := nI (k9 + 1)) (lv' := [(4, .int (nI (k9 + 1))), (3, .int 0), (2, .int (nI e9)), (0, .ref y), (1, .int (nI n))]) hx hb d_md_find_88 hl (k := 1) rfl (by first | exact nI_add _ 1 | (show nI _ + nI _ = _; rw [nI_add])) (by decide) rfl (fun ls hl => ?_)
                    refine lv_goto (tgt := 38) hx hb d_md_find_91 (by decide) ?_
                    exact ih2 (k9 + 1) false _ _ _ (by omega) (by omega) ⟨fun z => (by cases z), fun z => absurd (z.2 k9 (by omega)) h79⟩ hH (lv_sub hl [0, 1, 2, 3, 4] rfl)
                  · skip
                    refine lv_iconst (v := 1) hx hb d_md_find_82 (by decide) ?_
                    refine lv_goto (tgt := 87) hx hb d_md_find_83 (by decide) ?_
                    refine lv_istore_n (lv' := [(3, .int 1), (4, .int (nI k9)), (2, .int (nI e9)), (0, .ref y), (1, .int (nI n))]) hx hb d_md_find_87 rfl hl (by decide) rfl (fun ls hl => ?_)
                    refine lv_iinc (v := nI (k9 + 1)) (lv' := [(4, .int (nI (k9 + 1))), (3, .int 1), (2, .int (nI e9)), (0, .ref y), (1, .int (nI n))]) hx hb d_md_find_88 hl (k := 1) rfl (by first | exact nI_add _ 1 | (show nI _ + nI _ = _; rw [nI_add])) (by decide) rfl (fun ls hl => ?_)
                    refine lv_goto (tgt := 38) hx hb d_md_find_91 (by decide) ?_
                    exact ih2 (k9 + 1) true _ _ _ (by omega) (by omega) ⟨fun _ => ⟨(hbb.mp h45).1, lt_S (hbb.mp h45).2 h79⟩, fun _ => rfl⟩ hH (lv_sub hl [0, 1, 2, 3, 4] rfl)
          exact L38 (n + 1) 0 false _ _ _ (by omega) (by omega) ⟨fun z => (by cases z), fun z => absurd z.1 (by omega)⟩ hH (lv_sub hl [0, 1, 2, 3, 4] rfl)
        · skip
          refine lv_iconst (v := 1) hx hb d_md_find_29 (by decide) ?_
          refine lv_goto (tgt := 34) hx hb d_md_find_30 (by decide) ?_
          refine lv_istore_n (lv' := [(3, .int 1), (2, .int (nI e9)), (0, .ref y), (1, .int (nI n))]) hx hb d_md_find_34 rfl hl (by decide) rfl (fun ls hl => ?_)
          refine lv_iconst (v := 0) hx hb d_md_find_35 (by decide) ?_
          refine lv_istore (lv' := [(4, .int 0), (3, .int 1), (2, .int (nI e9)), (0, .ref y), (1, .int (nI n))]) hx hb d_md_find_36 hl (by decide) rfl (fun ls hl => ?_)
          have L38 : ∀ (k : Nat) (k9 : Nat) (b : Bool) (H : Heap) (locs : List Loc) (ls : Array Slot), n + 1 ≤ k9 + k → k9 ≤ n → (b = true ↔ o (e9 + 1) = o e9 + n ∧ ∀ j, j < k9 → fl (o e9 + j) = fl (o nx + j)) → hm_I G.1 vwC A s.heap M H locs → lv_has ls 5 [(4, .int (nI k9)), (3, .int (bI b)), (2, .int (nI e9)), (0, .ref y), (1, .int (nI n))] → W p l e { frames := 0, cells := 0, slots := 0, locals := 0 } s m ([.ref y, .int (nI n)] : List Value).toArray below meth c H locs 0 0 (MQ below (hm_Q G.1 vwC (q_md_find G y th dn d np be sg nu bg nx fi le pl lf rt ln rw va ak ff fl o n M0) A) ([.ref y, .int (nI n)] : List Value).toArray s 0 0 A) (F0 m 38 ls []) := by
            intro k
            induction k with
            | zero => intro k9 b H locs ls hfu hk9 hbb; exact absurd hfu (by omega)
            | succ k ih2 =>
              intro k9 b H locs ls hfu hk9 hbb hH hl
              refine lv_iload hx hb d_md_find_38 (lv_at hl 0 rfl) ?_
              refine lv_iload_n hx hb d_md_find_40 rfl (lv_at hl 4 rfl) ?_
              refine hn_icmp_ge (a := k9) (b := n) hx hb (by omega) (by omega) (tgt := 94) d_md_find_41 (by decide) (fun h41 => ?_) (fun h41 => ?_)
              · skip
                refine lv_iload_n hx hb d_md_find_94 rfl (lv_at hl 1 rfl) ?_
                refine hb_if_eq (b := b) hx hb (tgt := 100) d_md_find_95 (by decide) (fun h95 => ?_) (fun h95 => ?_)
                · skip
                  refine lv_iinc (v := nI (e9 + 1)) (lv' := [(2, .int (nI (e9 + 1))), (4, .int (nI k9)), (3, .int (bI b)), (0, .ref y), (1, .int (nI n))]) hx hb d_md_find_100 hl (k := 2) rfl (by first | exact nI_add _ 1 | (show nI _ + nI _ = _; rw [nI_add])) (by decide) rfl (fun ls hl => ?_)
                  refine lv_goto (tgt := 2) hx hb d_md_find_103 (by decide) ?_
                  exact ih (e9 + 1) _ _ _ (by omega) (by omega) (lt_S hno (fun z => by have h8 := hbb.mpr ⟨z.1, fun j hj => z.2 j (by omega)⟩; rw [h95] at h8; cases h8)) hH (lv_sub hl [0, 3, 4] rfl)
                · skip
                  refine lv_iload_n hx hb d_md_find_98 rfl (lv_at hl 2 rfl) ?_
                  exact hm_iret E hr hlk hH (⟨e9, rfl, by omega, fun _ => ⟨(hbb.mp h95).1, fun k hk => (hbb.mp h95).2 k (by omega)⟩, hno, hM0.symm⟩) (by omega) (by omega) d_md_find_99
              · skip
                refine lv_iload_n hx hb d_md_find_44 rfl (lv_at hl 1 rfl) ?_
                refine hb_if_eq (b := b) hx hb (tgt := 94) d_md_find_45 (by decide) (fun h45 => ?_) (fun h45 => ?_)
                · skip
                  refine lv_iload_n hx hb d_md_find_94 rfl (lv_at hl 1 rfl) ?_
                  refine hb_if_eq (b := b) hx hb (tgt := 100) d_md_find_95 (by decide) (fun h95 => ?_) (fun h95 => ?_)
                  · skip
                    refine lv_iinc (v := nI (e9 + 1)) (lv' := [(2, .int (nI (e9 + 1))), (4, .int (nI k9)), (3, .int (bI b)), (0, .ref y), (1, .int (nI n))]) hx hb d_md_find_100 hl (k := 2) rfl (by first | exact nI_add _ 1 | (show nI _ + nI _ = _; rw [nI_add])) (by decide) rfl (fun ls hl => ?_)
                    refine lv_goto (tgt := 2) hx hb d_md_find_103 (by decide) ?_
                    exact ih (e9 + 1) _ _ _ (by omega) (by omega) (lt_S hno (fun z => by have h8 := hbb.mpr ⟨z.1, fun j hj => z.2 j (by omega)⟩; rw [h95] at h8; cases h8)) hH (lv_sub hl [0, 3, 4] rfl)
                  · skip
                    refine lv_iload_n hx hb d_md_find_98 rfl (lv_at hl 2 rfl) ?_
                    exact hm_iret E hr hlk hH (absurd (h45.symm.trans h95) (by decide)) (by omega) (by omega) d_md_find_99
                · skip
                  have hoe := (hbb.mp h45).1
                  have hle1 := hle (e9 + 1) (by omega)
                  refine lv_aload_n hx hb d_md_find_48 rfl (lv_at hl 3 rfl) ?_
                  refine hm_get E (tB in_md) hK hH (hw.at 0 rfl) rfl 10 (by decide) (tC wm_377) rfl d_md_find_49 ?_
                  refine lv_aload_n hx hb d_md_find_52 rfl (lv_at hl 3 rfl) ?_
                  refine hm_get E (tB in_md) hK hH (hw.at 0 rfl) rfl 9 (by decide) (tC wm_376) rfl d_md_find_53 ?_
                  refine lv_iload_n hx hb d_md_find_56 rfl (lv_at hl 2 rfl) ?_
                  refine hm_iald E hK hH 0 (hw.at 1 rfl) rfl (i := e9) (by omega) (by decide) d_md_find_57 ?_
                  refine hm_top (w := .int (nI (o e9))) (by rw [hff e9 (by omega)]) ?_
                  refine lv_iload hx hb d_md_find_58 (lv_at hl 0 rfl) ?_
                  refine hn_iadd hx hb (a := o e9) (b := k9) d_md_find_60 ?_
                  refine hm_iald E hK hH 0 (hw.at 2 rfl) rfl (i := o e9 + k9) (by omega) (by decide) d_md_find_61 ?_
                  refine lv_aload_n hx hb d_md_find_62 rfl (lv_at hl 3 rfl) ?_
                  refine hm_get E (tB in_md) hK hH (hw.at 0 rfl) rfl 10 (by decide) (tC wm_377) rfl d_md_find_63 ?_
                  refine lv_aload_n hx hb d_md_find_66 rfl (lv_at hl 3 rfl) ?_
                  refine hm_get E (tB in_md) hK hH (hw.at 0 rfl) rfl 9 (by decide) (tC wm_376) rfl d_md_find_67 ?_
                  refine lv_aload_n hx hb d_md_find_70 rfl (lv_at hl 3 rfl) ?_
                  refine hm_get E (tB in_md) hK hH (hw.at 0 rfl) rfl 8 (by decide) (tC wm_375) rfl d_md_find_71 ?_
                  refine hm_iald E hK hH 0 (hw.at 1 rfl) rfl (i := nx) (by omega) (by decide) d_md_find_74 ?_
                  refine hm_top (w := .int (nI (o nx))) (by rw [hff nx (by omega)]) ?_
                  refine lv_iload hx hb d_md_find_75 (lv_at hl 0 rfl) ?_
                  refine hn_iadd hx hb (a := o nx) (b := k9) d_md_find_77 ?_
                  refine hm_iald E hK hH 0 (hw.at 2 rfl) rfl (i := o nx + k9) (by omega) (by decide) d_md_find_78 ?_
                  refine hr_icmp_ne (x := fl (o e9 + k9)) (y := fl (o nx + k9)) hx hb (tgt := 86) d_md_find_79 (by decide) (fun h79 => ?_) (fun h79 => ?_)
                  · skip
                    refine lv_iconst (v := 0) hx hb d_md_find_86 (by decide) ?_
                    refine lv_istore_n (lv' := [(3, .int 0), (4, .int (nI k9)), (2, .int (nI e9)), (0, .ref y), (1, .int (nI n))]) hx hb d_md_find_87 rfl hl (by decide) rfl (fun ls hl => ?_)
                    refine lv_iinc (v := nI (k9 + 1)) (lv' := [(4, .int (nI (k9 + 1))), (3, .int 0), (2, .int (nI e9)), (0, .ref y), (1, .int (nI n))]) hx hb d_md_find_88 hl (k := 1) rfl (by first | exact nI_add _ 1 | (show nI _ + nI _ = _; rw [nI_add])) (by decide) rfl (fun ls hl => ?_)
                    refine lv_goto (tgt := 38) hx hb d_md_find_91 (by decide) ?_
                    exact ih2 (k9 + 1) false _ _ _ (by omega) (by omega) ⟨fun z => (by cases z), fun z => absurd (z.2 k9 (by omega)) h79⟩ hH (lv_sub hl [0, 1, 2, 3, 4] rfl)
                  · skip
                    refine lv_iconst (v := 1) hx hb d_md_find_82 (by decide) ?_
                    refine lv_goto (tgt := 87) hx hb d_md_find_83 (by decide) ?_
                    refine lv_istore_n (lv' := [(3, .int 1), (4, .int (nI k9)), (2, .int (nI e9)), (0, .ref y), (1, .int (nI n))]) hx hb d_md_find_87 rfl hl (by decide) rfl (fun ls hl => ?_)
                    refine lv_iinc (v := nI (k9 + 1)) (lv' := [(4, .int (nI (k9 + 1))), (3, .int 1), (2, .int (nI e9)), (0, .ref y), (1, .int (nI n))]) hx hb d_md_find_88 hl (k := 1) rfl (by first | exact nI_add _ 1 | (show nI _ + nI _ = _; rw [nI_add])) (by decide) rfl (fun ls hl => ?_)
                    refine lv_goto (tgt := 38) hx hb d_md_find_91 (by decide) ?_
                    exact ih2 (k9 + 1) true _ _ _ (by omega) (by omega) ⟨fun _ => ⟨(hbb.mp h45).1, lt_S (hbb.mp h45).2 h79⟩, fun _ => rfl⟩ hH (lv_sub hl [0, 1, 2, 3, 4] rfl)
          exact L38 (n + 1) 0 true _ _ _ (by omega) (by omega) ⟨fun _ => ⟨by omega, fun j hj => absurd hj (by omega)⟩, fun _ => rfl⟩ hH (lv_sub hl [0, 1, 2, 3, 4] rfl)
  exact L2 (nx + 1) 0 _ _ _ (by omega) (by omega) (fun e he => absurd he (by omega)) hH (lv_sub hl [0, 1, 2] rfl)

abbrev q_md_attempt (G : hG) (y th dn d np be sg nu bg nx fi le pl lf rt ln rw va : Nat) (ak : Bool) (fb fs fn fr fv : Nat → Int32) (b0 mm p0 i : Nat) (M : hM) : Option Value → hM → Prop := fun rv M' => rv = none ∧ (((∀ j, j < mm → fs (b0 + j) = fr (i + j)) ∧ hm_has M' [(y, .inr (4, [.int (nI th), .int (nI dn), .ref d, .int (nI np), .ref be, .ref sg, .ref nu, .int (nI bg), .int (nI nx), .ref fi, .ref le, .ref pl, .int (nI lf), .int (nI rt), .int (nI ln), .ref rw, .ref va, .int (bI ak)])), (be, aI G 8194 fb), (sg, aI G 40000 fs), (nu, aI G 48200 fn), (rw, aI G 66 fr), (va, aI G 66 (rzB fv (fun j => fn (b0 + p0 + j)) i (mm + 1)))]) ∨ (¬ (∀ j, j < mm → fs (b0 + j) = fr (i + j)) ∧ hm_has M' [(y, .inr (4, [.int (nI th), .int (nI dn), .ref d, .int (nI np), .ref be, .ref sg, .ref nu, .int (nI bg), .int (nI nx), .ref fi, .ref le, .ref pl, .int (nI lf), .int (nI rt), .int (nI ln), .ref rw, .ref va, .int (bI ak)])), (be, aI G 8194 fb), (sg, aI G 40000 fs), (nu, aI G 48200 fn), (rw, aI G 66 fr), (va, aI G 66 fv)])) ∧ hm_kp (fun a => a ∈ [va]) M M'
set_option maxHeartbeats 4000000 in
set_option maxRecDepth 100000 in
theorem c_md_attempt (l : Launch) (G : hG) (y th dn d np be sg nu bg nx fi le pl lf rt ln rw va : Nat) (ak : Bool) (fb fs fn fr fv : Nat → Int32) (b0 mm p0 i : Nat) (M : hM) (hw : hm_has M [(y, .inr (4, [.int (nI th), .int (nI dn), .ref d, .int (nI np), .ref be, .ref sg, .ref nu, .int (nI bg), .int (nI nx), .ref fi, .ref le, .ref pl, .int (nI lf), .int (nI rt), .int (nI ln), .ref rw, .ref va, .int (bI ak)])), (be, aI G 8194 fb), (sg, aI G 40000 fs), (nu, aI G 48200 fn), (rw, aI G 66 fr), (va, aI G 66 fv)]) (hb0 : fb p0 = nI b0) (hb1 : fb (p0 + 1) = nI (b0 + mm)) (hbm : b0 + mm ≤ 39000) (hp0 : p0 ≤ 8000) (him : i + mm ≤ 65) : Ct (gk G) l G.1 vwC y_md_attempt w_md_attempt { frames := 0, cells := 0, slots := 0, locals := 0 } ([.ref y, .int (nI p0), .int (nI i)] : List Value) M (q_md_attempt G y th dn d np be sg nu bg nx fi le pl lf rt ln rw va ak fb fs fn fr fv b0 mm p0 i M) 0 0 := by
  refine Ct.ofW (cc := b_md_attempt) (maxL := 6) (ret := (Option.none : Option Jvm.ClassFile.FieldType)) (by decide) rfl (Nat.le_of_ble_eq_true rfl) (fun p e s m below meth c A ls E hr hlk hin hg hH hl => ?_)
  have hl : lv_has ls 6 [(0, .ref y), (1, .int (nI p0)), (2, .int (nI i))] := hl
  have hx := E.1; have hb := E.2.1; have hml := E.2.2.1; have hown := E.2.2.2.1; have hts := E.2.2.2.2; have hK := hg.1
  obtain ⟨M0, hM0⟩ : ∃ M0 : hM, M0 = M := ⟨M, rfl⟩
  rw [show q_md_attempt G y th dn d np be sg nu bg nx fi le pl lf rt ln rw va ak fb fs fn fr fv b0 mm p0 i M = q_md_attempt G y th dn d np be sg nu bg nx fi le pl lf rt ln rw va ak fb fs fn fr fv b0 mm p0 i M0 by rw [hM0]]
  have hk : hm_kp (fun a => a ∈ [va]) M0 M := by rw [hM0]; exact hm_kp.rf
  refine lv_aload_n hx hb d_md_attempt_0 rfl (lv_at hl 0 rfl) ?_
  refine hm_get E (tB in_md) hK hH (hw.at 0 rfl) rfl 4 (by decide) (tC wm_371) rfl d_md_attempt_1 ?_
  refine lv_iload_n hx hb d_md_attempt_4 rfl (lv_at hl 1 rfl) ?_
  refine lv_iconst (v := 1) hx hb d_md_attempt_5 (by decide) ?_
  refine hn_iadd hx hb (a := p0) (b := 1) d_md_attempt_6 ?_
  refine hm_iald E hK hH 0 (hw.at 1 rfl) rfl (i := p0 + 1) (by omega) (by decide) d_md_attempt_7 ?_
  refine hm_top (w := .int (nI (b0 + mm))) (by rw [hb1]) ?_
  refine lv_aload_n hx hb d_md_attempt_8 rfl (lv_at hl 0 rfl) ?_
  refine hm_get E (tB in_md) hK hH (hw.at 0 rfl) rfl 4 (by decide) (tC wm_371) rfl d_md_attempt_9 ?_
  refine lv_iload_n hx hb d_md_attempt_12 rfl (lv_at hl 1 rfl) ?_
  refine hm_iald E hK hH 0 (hw.at 1 rfl) rfl (i := p0) (by omega) (by decide) d_md_attempt_13 ?_
  refine hm_top (w := .int (nI b0)) (by rw [hb0]) ?_
  refine hn_isub hx hb (a := b0 + mm) (b := b0) (by omega) d_md_attempt_14 ?_
  refine hm_top (w := .int (nI mm)) (congrArg (fun z => Value.int (nI z)) (by omega)) ?_
  refine lv_istore_n (lv' := [(3, .int (nI mm)), (0, .ref y), (1, .int (nI p0)), (2, .int (nI i))]) hx hb d_md_attempt_15 rfl hl (by decide) rfl (fun ls hl => ?_)
  refine lv_iconst (v := 0) hx hb d_md_attempt_16 (by decide) ?_
  refine lv_istore (lv' := [(4, .int 0), (3, .int (nI mm)), (0, .ref y), (1, .int (nI p0)), (2, .int (nI i))]) hx hb d_md_attempt_17 hl (by decide) rfl (fun ls hl => ?_)
  have L19 : ∀ (k : Nat) (k9 : Nat) (H : Heap) (locs : List Loc) (ls : Array Slot), mm + 1 ≤ k9 + k → k9 ≤ mm → (∀ j, j < k9 → fs (b0 + j) = fr (i + j)) → hm_I G.1 vwC A s.heap M H locs → lv_has ls 6 [(4, .int (nI k9)), (3, .int (nI mm)), (0, .ref y), (1, .int (nI p0)), (2, .int (nI i))] → W p l e { frames := 0, cells := 0, slots := 0, locals := 0 } s m ([.ref y, .int (nI p0), .int (nI i)] : List Value).toArray below meth c H locs 0 0 (MQ below (hm_Q G.1 vwC (q_md_attempt G y th dn d np be sg nu bg nx fi le pl lf rt ln rw va ak fb fs fn fr fv b0 mm p0 i M0) A) ([.ref y, .int (nI p0), .int (nI i)] : List Value).toArray s 0 0 A) (F0 m 19 ls []) := by
    intro k
    induction k with
    | zero => intro k9 H locs ls hfu hk9 hag; exact absurd hfu (by omega)
    | succ k ih =>
      intro k9 H locs ls hfu hk9 hag hH hl
      refine lv_iload hx hb d_md_attempt_19 (lv_at hl 0 rfl) ?_
      refine lv_iload_n hx hb d_md_attempt_21 rfl (lv_at hl 1 rfl) ?_
      refine hn_icmp_ge (a := k9) (b := mm) hx hb (by omega) (by omega) (tgt := 58) d_md_attempt_22 (by decide) (fun h22 => ?_) (fun h22 => ?_)
      · skip
        have hall : ∀ j, j < mm → fs (b0 + j) = fr (i + j) := fun j hj => hag j (by omega)
        clear hag hk9
        refine lv_iconst (v := 0) hx hb d_md_attempt_58 (by decide) ?_
        refine lv_istore (lv' := [(4, .int 0), (3, .int (nI mm)), (0, .ref y), (1, .int (nI p0)), (2, .int (nI i))]) hx hb d_md_attempt_59 hl (by decide) rfl (fun ls hl => ?_)
        have L61 : ∀ (k : Nat) (k9 : Nat) (M : hM) (H : Heap) (locs : List Loc) (ls : Array Slot), mm + 2 ≤ k9 + k → k9 ≤ mm + 1 → hm_has M [(y, .inr (4, [.int (nI th), .int (nI dn), .ref d, .int (nI np), .ref be, .ref sg, .ref nu, .int (nI bg), .int (nI nx), .ref fi, .ref le, .ref pl, .int (nI lf), .int (nI rt), .int (nI ln), .ref rw, .ref va, .int (bI ak)])), (be, aI G 8194 fb), (sg, aI G 40000 fs), (nu, aI G 48200 fn), (rw, aI G 66 fr), (va, aI G 66 (rzB fv (fun j => fn (b0 + p0 + j)) i k9))] → hm_kp (fun a => a ∈ [va]) M0 M → hm_I G.1 vwC A s.heap M H locs → lv_has ls 6 [(4, .int (nI k9)), (3, .int (nI mm)), (0, .ref y), (1, .int (nI p0)), (2, .int (nI i))] → W p l e { frames := 0, cells := 0, slots := 0, locals := 0 } s m ([.ref y, .int (nI p0), .int (nI i)] : List Value).toArray below meth c H locs 0 0 (MQ below (hm_Q G.1 vwC (q_md_attempt G y th dn d np be sg nu bg nx fi le pl lf rt ln rw va ak fb fs fn fr fv b0 mm p0 i M0) A) ([.ref y, .int (nI p0), .int (nI i)] : List Value).toArray s 0 0 A) (F0 m 61 ls []) := by
          intro k
          induction k with
          | zero => intro k9 M H locs ls hfu hk9; exact absurd hfu (by omega)
          | succ k ih =>
            intro k9 M H locs ls hfu hk9 hw hk hH hl
            refine lv_iload hx hb d_md_attempt_61 (lv_at hl 0 rfl) ?_
            refine lv_iload_n hx hb d_md_attempt_63 rfl (lv_at hl 1 rfl) ?_
            refine hn_icmp_gt (a := k9) (b := mm) hx hb (by omega) (by omega) (tgt := 128) d_md_attempt_64 (by decide) (fun h64 => ?_) (fun h64 => ?_)
            · skip
              have hkm : k9 = mm + 1 := by omega
              exact hm_vret E hr hlk hH (⟨rfl, Or.inl ⟨hall, by rw [hkm] at hw; exact hw⟩, hk⟩) (by omega) (by omega) d_md_attempt_128
            · skip
              refine lv_aload_n hx hb d_md_attempt_67 rfl (lv_at hl 2 rfl) ?_
              refine hm_get E (tB in_md) hK hH (hw.at 0 rfl) rfl 6 (by decide) (tC wm_373) rfl d_md_attempt_68 ?_
              refine lv_aload_n hx hb d_md_attempt_71 rfl (lv_at hl 2 rfl) ?_
              refine hm_get E (tB in_md) hK hH (hw.at 0 rfl) rfl 4 (by decide) (tC wm_371) rfl d_md_attempt_72 ?_
              refine lv_iload_n hx hb d_md_attempt_75 rfl (lv_at hl 3 rfl) ?_
              refine hm_iald E hK hH 0 (hw.at 1 rfl) rfl (i := p0) (by omega) (by decide) d_md_attempt_76 ?_
              refine hm_top (w := .int (nI b0)) (by rw [hb0]) ?_
              refine lv_iload_n hx hb d_md_attempt_77 rfl (lv_at hl 3 rfl) ?_
              refine hn_iadd hx hb (a := b0) (b := p0) d_md_attempt_78 ?_
              refine lv_iload hx hb d_md_attempt_79 (lv_at hl 0 rfl) ?_
              refine hn_iadd hx hb (a := b0 + p0) (b := k9) d_md_attempt_81 ?_
              refine hm_iald E hK hH 0 (hw.at 3 rfl) rfl (i := b0 + p0 + k9) (by omega) (by decide) d_md_attempt_82 ?_
              refine lv_istore (lv' := [(5, .int (fn (b0 + p0 + k9))), (4, .int (nI k9)), (3, .int (nI mm)), (0, .ref y), (1, .int (nI p0)), (2, .int (nI i))]) hx hb d_md_attempt_83 hl (by decide) rfl (fun ls hl => ?_)
              refine lv_aload_n hx hb d_md_attempt_85 rfl (lv_at hl 3 rfl) ?_
              refine hm_get E (tB in_md) hK hH (hw.at 0 rfl) rfl 16 (by decide) (tC wm_383) rfl d_md_attempt_86 ?_
              refine lv_iload_n hx hb d_md_attempt_89 rfl (lv_at hl 5 rfl) ?_
              refine lv_iload hx hb d_md_attempt_90 (lv_at hl 1 rfl) ?_
              refine hn_iadd hx hb (a := i) (b := k9) d_md_attempt_92 ?_
              refine lv_iload hx hb d_md_attempt_93 (lv_at hl 0 rfl) ?_
              refine lv_aload_n hx hb d_md_attempt_95 rfl (lv_at hl 3 rfl) ?_
              refine hm_get E (tB in_md) hK hH (hw.at 0 rfl) rfl 16 (by decide) (tC wm_383) rfl d_md_attempt_96 ?_
              refine lv_iload_n hx hb d_md_attempt_99 rfl (lv_at hl 5 rfl) ?_
              refine lv_iload hx hb d_md_attempt_100 (lv_at hl 1 rfl) ?_
              refine hn_iadd hx hb (a := i) (b := k9) d_md_attempt_102 ?_
              refine hm_iald E hK hH 0 (hw.at 5 rfl) rfl (i := i + k9) (by omega) (by decide) d_md_attempt_103 ?_
              refine hr_icmp_le (x := fn (b0 + p0 + k9)) (y := (rzB fv (fun j => fn (b0 + p0 + j)) i k9) (i + k9)) (c9 := ((rzB fv (fun j => fn (b0 + p0 + j)) i k9) (i + k9)).toInt) hx hb rfl (tgt := 112) d_md_attempt_104 (by decide) (fun h104 => ?_) (fun h104 => ?_)
              · skip
                refine lv_aload_n hx hb d_md_attempt_112 rfl (lv_at hl 3 rfl) ?_
                refine hm_get E (tB in_md) hK hH (hw.at 0 rfl) rfl 16 (by decide) (tC wm_383) rfl d_md_attempt_113 ?_
                refine lv_iload_n hx hb d_md_attempt_116 rfl (lv_at hl 5 rfl) ?_
                refine lv_iload hx hb d_md_attempt_117 (lv_at hl 1 rfl) ?_
                refine hn_iadd hx hb (a := i) (b := k9) d_md_attempt_119 ?_
                refine hm_iald E hK hH 0 (hw.at 5 rfl) rfl (i := i + k9) (by omega) (by decide) d_md_attempt_120 ?_
                refine hm_iast E hK hH 0 (hw.at 5 rfl) rfl (i := i + k9) (by omega) (by decide) d_md_attempt_121 (fun H locs hH => ?_)
                have hw := hw.set (ws' := [(y, .inr (4, [.int (nI th), .int (nI dn), .ref d, .int (nI np), .ref be, .ref sg, .ref nu, .int (nI bg), .int (nI nx), .ref fi, .ref le, .ref pl, .int (nI lf), .int (nI rt), .int (nI ln), .ref rw, .ref va, .int (bI ak)])), (be, aI G 8194 fb), (sg, aI G 40000 fs), (nu, aI G 48200 fn), (rw, aI G 66 fr), (va, aI G 66 (upd (rzB fv (fun j => fn (b0 + p0 + j)) i k9) (i + k9) ((rzB fv (fun j => fn (b0 + p0 + j)) i k9) (i + k9))))]) (k := 5) rfl rfl
                have hk := hk.wr (a := va) (v := some (aI G 66 (upd (rzB fv (fun j => fn (b0 + p0 + j)) i k9) (i + k9) ((rzB fv (fun j => fn (b0 + p0 + j)) i k9) (i + k9))))) (by first | (right; assumption) | (left; simp; done))
                generalize va_up M va (some (aI G 66 (upd (rzB fv (fun j => fn (b0 + p0 + j)) i k9) (i + k9) ((rzB fv (fun j => fn (b0 + p0 + j)) i k9) (i + k9))))) = M at hH hw hk ⊢
                refine lv_iinc (v := nI (k9 + 1)) (lv' := [(4, .int (nI (k9 + 1))), (5, .int (fn (b0 + p0 + k9))), (3, .int (nI mm)), (0, .ref y), (1, .int (nI p0)), (2, .int (nI i))]) hx hb d_md_attempt_122 hl (k := 1) rfl (by first | exact nI_add _ 1 | (show nI _ + nI _ = _; rw [nI_add])) (by decide) rfl (fun ls hl => ?_)
                refine lv_goto (tgt := 61) hx hb d_md_attempt_125 (by decide) ?_
                exact ih (k9 + 1) M _ _ _ (by omega) (by omega) (by rw [rzB_n h104]; exact hw) hk hH (lv_sub hl [0, 2, 3, 4, 5] rfl)
              · skip
                refine lv_iload hx hb d_md_attempt_107 (lv_at hl 0 rfl) ?_
                refine lv_goto (tgt := 121) hx hb d_md_attempt_109 (by decide) ?_
                refine hm_iast E hK hH 0 (hw.at 5 rfl) rfl (i := i + k9) (by omega) (by decide) d_md_attempt_121 (fun H locs hH => ?_)
                have hw := hw.set (ws' := [(y, .inr (4, [.int (nI th), .int (nI dn), .ref d, .int (nI np), .ref be, .ref sg, .ref nu, .int (nI bg), .int (nI nx), .ref fi, .ref le, .ref pl, .int (nI lf), .int (nI rt), .int (nI ln), .ref rw, .ref va, .int (bI ak)])), (be, aI G 8194 fb), (sg, aI G 40000 fs), (nu, aI G 48200 fn), (rw, aI G 66 fr), (va, aI G 66 (upd (rzB fv (fun j => fn (b0 + p0 + j)) i k9) (i + k9) (fn (b0 + p0 + k9))))]) (k := 5) rfl rfl
                have hk := hk.wr (a := va) (v := some (aI G 66 (upd (rzB fv (fun j => fn (b0 + p0 + j)) i k9) (i + k9) (fn (b0 + p0 + k9))))) (by first | (right; assumption) | (left; simp; done))
                generalize va_up M va (some (aI G 66 (upd (rzB fv (fun j => fn (b0 + p0 + j)) i k9) (i + k9) (fn (b0 + p0 + k9))))) = M at hH hw hk ⊢
                refine lv_iinc (v := nI (k9 + 1)) (lv' := [(4, .int (nI (k9 + 1))), (5, .int (fn (b0 + p0 + k9))), (3, .int (nI mm)), (0, .ref y), (1, .int (nI p0)), (2, .int (nI i))]) hx hb d_md_attempt_122 hl (k := 1) rfl (by first | exact nI_add _ 1 | (show nI _ + nI _ = _; rw [nI_add])) (by decide) rfl (fun ls hl => ?_)
                refine lv_goto (tgt := 61) hx hb d_md_attempt_125 (by decide) ?_
                exact ih (k9 + 1) M _ _ _ (by omega) (by omega) (by rw [rzB_y h104]; exact hw) hk hH (lv_sub hl [0, 2, 3, 4, 5] rfl)
        exact L61 (mm + 2) 0 M _ _ _ (by omega) (by omega) hw hk hH (lv_sub hl [0, 1, 2, 3, 4] rfl)
      · skip
        refine lv_aload_n hx hb d_md_attempt_25 rfl (lv_at hl 2 rfl) ?_
        refine hm_get E (tB in_md) hK hH (hw.at 0 rfl) rfl 5 (by decide) (tC wm_372) rfl d_md_attempt_26 ?_
        refine lv_aload_n hx hb d_md_attempt_29 rfl (lv_at hl 2 rfl) ?_
        refine hm_get E (tB in_md) hK hH (hw.at 0 rfl) rfl 4 (by decide) (tC wm_371) rfl d_md_attempt_30 ?_
        refine lv_iload_n hx hb d_md_attempt_33 rfl (lv_at hl 3 rfl) ?_
        refine hm_iald E hK hH 0 (hw.at 1 rfl) rfl (i := p0) (by omega) (by decide) d_md_attempt_34 ?_
        refine hm_top (w := .int (nI b0)) (by rw [hb0]) ?_
        refine lv_iload hx hb d_md_attempt_35 (lv_at hl 0 rfl) ?_
        refine hn_iadd hx hb (a := b0) (b := k9) d_md_attempt_37 ?_
        refine hm_iald E hK hH 0 (hw.at 2 rfl) rfl (i := b0 + k9) (by omega) (by decide) d_md_attempt_38 ?_
        refine lv_aload_n hx hb d_md_attempt_39 rfl (lv_at hl 2 rfl) ?_
        refine hm_get E (tB in_md) hK hH (hw.at 0 rfl) rfl 15 (by decide) (tC wm_382) rfl d_md_attempt_40 ?_
        refine lv_iload_n hx hb d_md_attempt_43 rfl (lv_at hl 4 rfl) ?_
        refine lv_iload hx hb d_md_attempt_44 (lv_at hl 0 rfl) ?_
        refine hn_iadd hx hb (a := i) (b := k9) d_md_attempt_46 ?_
        refine hm_iald E hK hH 0 (hw.at 4 rfl) rfl (i := i + k9) (by omega) (by decide) d_md_attempt_47 ?_
        refine hr_icmp_eq (x := fs (b0 + k9)) (y := fr (i + k9)) hx hb (tgt := 52) d_md_attempt_48 (by decide) (fun h48 => ?_) (fun h48 => ?_)
        · skip
          refine lv_iinc (v := nI (k9 + 1)) (lv' := [(4, .int (nI (k9 + 1))), (3, .int (nI mm)), (0, .ref y), (1, .int (nI p0)), (2, .int (nI i))]) hx hb d_md_attempt_52 hl (k := 0) rfl (by first | exact nI_add _ 1 | (show nI _ + nI _ = _; rw [nI_add])) (by decide) rfl (fun ls hl => ?_)
          refine lv_goto (tgt := 19) hx hb d_md_attempt_55 (by decide) ?_
          exact ih (k9 + 1) _ _ _ (by omega) (by omega) (lt_S hag h48) hH (lv_sub hl [0, 1, 2, 3, 4] rfl)
        · skip
          exact hm_vret E hr hlk hH (⟨rfl, Or.inr ⟨fun z => h48 (z k9 (by omega)), hw⟩, hk⟩) (by omega) (by omega) d_md_attempt_51
  exact L19 (mm + 1) 0 _ _ _ (by omega) (by omega) (fun j hj => absurd hj (by omega)) hH (lv_sub hl [0, 1, 2, 3, 4] rfl)
