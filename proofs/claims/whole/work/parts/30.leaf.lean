abbrev q_bk_isLetter (G : hG) (b : Int32) (M : hM) : Option Value → hM → Prop := fun rv M' => rv = some (.int (bI (isL b))) ∧ M' = M
set_option maxHeartbeats 4000000 in
set_option maxRecDepth 100000 in
theorem c_bk_isLetter (l : Launch) (G : hG) (b : Int32) (M : hM)  : Ct (gk G) l G.1 vwC y_bk_isLetter w_bk_isLetter { frames := 0, cells := 0, slots := 0, locals := 0 } ([.int b] : List Value) M (q_bk_isLetter G b M) 0 0 := by
  refine Ct.ofW (cc := b_bk_isLetter) (maxL := 1) (ret := (Option.some Jvm.ClassFile.FieldType.boolean)) (by decide) rfl (Nat.le_of_ble_eq_true rfl) (fun p e s m below meth c A ls E hr hlk hin hg hH hl => ?_)
  have hl : lv_has ls 1 [(0, .int b)] := hl
  have hx := E.1; have hb := E.2.1; have hml := E.2.2.1; have hown := E.2.2.2.1; have hts := E.2.2.2.2; have hK := hg.1
  obtain ⟨M0, hM0⟩ : ∃ M0 : hM, M0 = M := ⟨M, rfl⟩
  rw [show q_bk_isLetter G b M = q_bk_isLetter G b M0 by rw [hM0]]
  refine lv_iload_n hx hb d_bk_isLetter_0 rfl (lv_at hl 0 rfl) ?_
  refine lv_bipush (v := 97) hx hb d_bk_isLetter_1 (by decide) ?_
  refine hr_icmp_lt (x := b) (y := 97) (c9 := 97) hx hb (by decide) (tgt := 12) d_bk_isLetter_3 (by decide) (fun h3 => ?_) (fun h3 => ?_)
  · skip
    refine lv_iload_n hx hb d_bk_isLetter_12 rfl (lv_at hl 0 rfl) ?_
    refine lv_sipush (v := 128) hx hb d_bk_isLetter_13 (by decide) ?_
    refine hr_icmp_lt (x := b) (y := 128) (c9 := 128) hx hb (by decide) (tgt := 30) d_bk_isLetter_16 (by decide) (fun h16 => ?_) (fun h16 => ?_)
    · skip
      refine lv_iconst (v := 0) hx hb d_bk_isLetter_30 (by decide) ?_
      exact hm_zret E hr hlk hH (by decide) (⟨by first | (rw [(bI_of (isL_iff (b := b))).1 (by omega)]; done) | (rw [(bI_of (isL_iff (b := b))).2 (by omega)]; done), hM0.symm⟩) (by omega) (by omega) d_bk_isLetter_31
    · skip
      refine lv_iload_n hx hb d_bk_isLetter_19 rfl (lv_at hl 0 rfl) ?_
      refine lv_sipush (v := 255) hx hb d_bk_isLetter_20 (by decide) ?_
      refine hr_icmp_gt (x := b) (y := 255) (c9 := 255) hx hb (by decide) (tgt := 30) d_bk_isLetter_23 (by decide) (fun h23 => ?_) (fun h23 => ?_)
      · skip
        refine lv_iconst (v := 0) hx hb d_bk_isLetter_30 (by decide) ?_
        exact hm_zret E hr hlk hH (by decide) (⟨by first | (rw [(bI_of (isL_iff (b := b))).1 (by omega)]; done) | (rw [(bI_of (isL_iff (b := b))).2 (by omega)]; done), hM0.symm⟩) (by omega) (by omega) d_bk_isLetter_31
      · skip
        refine lv_iconst (v := 1) hx hb d_bk_isLetter_26 (by decide) ?_
        refine lv_goto (tgt := 31) hx hb d_bk_isLetter_27 (by decide) ?_
        exact hm_zret E hr hlk hH (by decide) (⟨by first | (rw [(bI_of (isL_iff (b := b))).1 (by omega)]; done) | (rw [(bI_of (isL_iff (b := b))).2 (by omega)]; done), hM0.symm⟩) (by omega) (by omega) d_bk_isLetter_31
  · skip
    refine lv_iload_n hx hb d_bk_isLetter_6 rfl (lv_at hl 0 rfl) ?_
    refine lv_bipush (v := 122) hx hb d_bk_isLetter_7 (by decide) ?_
    refine hr_icmp_le (x := b) (y := 122) (c9 := 122) hx hb (by decide) (tgt := 26) d_bk_isLetter_9 (by decide) (fun h9 => ?_) (fun h9 => ?_)
    · skip
      refine lv_iconst (v := 1) hx hb d_bk_isLetter_26 (by decide) ?_
      refine lv_goto (tgt := 31) hx hb d_bk_isLetter_27 (by decide) ?_
      exact hm_zret E hr hlk hH (by decide) (⟨by first | (rw [(bI_of (isL_iff (b := b))).1 (by omega)]; done) | (rw [(bI_of (isL_iff (b := b))).2 (by omega)]; done), hM0.symm⟩) (by omega) (by omega) d_bk_isLetter_31
    · skip
      refine lv_iload_n hx hb d_bk_isLetter_12 rfl (lv_at hl 0 rfl) ?_
      refine lv_sipush (v := 128) hx hb d_bk_isLetter_13 (by decide) ?_
      refine hr_icmp_lt (x := b) (y := 128) (c9 := 128) hx hb (by decide) (tgt := 30) d_bk_isLetter_16 (by decide) (fun h16 => ?_) (fun h16 => ?_)
      · skip
        refine lv_iconst (v := 0) hx hb d_bk_isLetter_30 (by decide) ?_
        exact hm_zret E hr hlk hH (by decide) (⟨by first | (rw [(bI_of (isL_iff (b := b))).1 (by omega)]; done) | (rw [(bI_of (isL_iff (b := b))).2 (by omega)]; done), hM0.symm⟩) (by omega) (by omega) d_bk_isLetter_31
      · skip
        refine lv_iload_n hx hb d_bk_isLetter_19 rfl (lv_at hl 0 rfl) ?_
        refine lv_sipush (v := 255) hx hb d_bk_isLetter_20 (by decide) ?_
        refine hr_icmp_gt (x := b) (y := 255) (c9 := 255) hx hb (by decide) (tgt := 30) d_bk_isLetter_23 (by decide) (fun h23 => ?_) (fun h23 => ?_)
        · skip
          refine lv_iconst (v := 0) hx hb d_bk_isLetter_30 (by decide) ?_
          exact hm_zret E hr hlk hH (by decide) (⟨by first | (rw [(bI_of (isL_iff (b := b))).1 (by omega)]; done) | (rw [(bI_of (isL_iff (b := b))).2 (by omega)]; done), hM0.symm⟩) (by omega) (by omega) d_bk_isLetter_31
        · skip
          refine lv_iconst (v := 1) hx hb d_bk_isLetter_26 (by decide) ?_
          refine lv_goto (tgt := 31) hx hb d_bk_isLetter_27 (by decide) ?_
          exact hm_zret E hr hlk hH (by decide) (⟨by first | (rw [(bI_of (isL_iff (b := b))).1 (by omega)]; done) | (rw [(bI_of (isL_iff (b := b))).2 (by omega)]; done), hM0.symm⟩) (by omega) (by omega) d_bk_isLetter_31

abbrev q_bk_isDigit (G : hG) (b : Int32) (M : hM) : Option Value → hM → Prop := fun rv M' => rv = some (.int (bI (isDg b))) ∧ M' = M
set_option maxHeartbeats 4000000 in
set_option maxRecDepth 100000 in
theorem c_bk_isDigit (l : Launch) (G : hG) (b : Int32) (M : hM)  : Ct (gk G) l G.1 vwC y_bk_isDigit w_bk_isDigit { frames := 0, cells := 0, slots := 0, locals := 0 } ([.int b] : List Value) M (q_bk_isDigit G b M) 0 0 := by
  refine Ct.ofW (cc := b_bk_isDigit) (maxL := 1) (ret := (Option.some Jvm.ClassFile.FieldType.boolean)) (by decide) rfl (Nat.le_of_ble_eq_true rfl) (fun p e s m below meth c A ls E hr hlk hin hg hH hl => ?_)
  have hl : lv_has ls 1 [(0, .int b)] := hl
  have hx := E.1; have hb := E.2.1; have hml := E.2.2.1; have hown := E.2.2.2.1; have hts := E.2.2.2.2; have hK := hg.1
  obtain ⟨M0, hM0⟩ : ∃ M0 : hM, M0 = M := ⟨M, rfl⟩
  rw [show q_bk_isDigit G b M = q_bk_isDigit G b M0 by rw [hM0]]
  refine lv_iload_n hx hb d_bk_isDigit_0 rfl (lv_at hl 0 rfl) ?_
  refine lv_bipush (v := 48) hx hb d_bk_isDigit_1 (by decide) ?_
  refine hr_icmp_lt (x := b) (y := 48) (c9 := 48) hx hb (by decide) (tgt := 16) d_bk_isDigit_3 (by decide) (fun h3 => ?_) (fun h3 => ?_)
  · skip
    refine lv_iconst (v := 0) hx hb d_bk_isDigit_16 (by decide) ?_
    exact hm_zret E hr hlk hH (by decide) (⟨by first | (rw [(bI_of (isDg_iff (b := b))).1 (by omega)]; done) | (rw [(bI_of (isDg_iff (b := b))).2 (by omega)]; done), hM0.symm⟩) (by omega) (by omega) d_bk_isDigit_17
  · skip
    refine lv_iload_n hx hb d_bk_isDigit_6 rfl (lv_at hl 0 rfl) ?_
    refine lv_bipush (v := 57) hx hb d_bk_isDigit_7 (by decide) ?_
    refine hr_icmp_gt (x := b) (y := 57) (c9 := 57) hx hb (by decide) (tgt := 16) d_bk_isDigit_9 (by decide) (fun h9 => ?_) (fun h9 => ?_)
    · skip
      refine lv_iconst (v := 0) hx hb d_bk_isDigit_16 (by decide) ?_
      exact hm_zret E hr hlk hH (by decide) (⟨by first | (rw [(bI_of (isDg_iff (b := b))).1 (by omega)]; done) | (rw [(bI_of (isDg_iff (b := b))).2 (by omega)]; done), hM0.symm⟩) (by omega) (by omega) d_bk_isDigit_17
    · skip
      refine lv_iconst (v := 1) hx hb d_bk_isDigit_12 (by decide) ?_
      refine lv_goto (tgt := 17) hx hb d_bk_isDigit_13 (by decide) ?_
      exact hm_zret E hr hlk hH (by decide) (⟨by first | (rw [(bI_of (isDg_iff (b := b))).1 (by omega)]; done) | (rw [(bI_of (isDg_iff (b := b))).2 (by omega)]; done), hM0.symm⟩) (by omega) (by omega) d_bk_isDigit_17

abbrev q_bk_placeBehind (G : hG) (k : Nat) (M : hM) : Option Value → hM → Prop := fun rv M' => rv = some (.int (nI (k + 1))) ∧ M' = M
set_option maxHeartbeats 4000000 in
set_option maxRecDepth 100000 in
theorem c_bk_placeBehind (l : Launch) (G : hG) (k : Nat) (M : hM)  : Ct (gk G) l G.1 vwC y_bk_placeBehind w_bk_placeBehind { frames := 0, cells := 0, slots := 0, locals := 0 } ([.int (nI k)] : List Value) M (q_bk_placeBehind G k M) 0 0 := by
  refine Ct.ofW (cc := b_bk_placeBehind) (maxL := 1) (ret := (Option.some Jvm.ClassFile.FieldType.int)) (by decide) rfl (Nat.le_of_ble_eq_true rfl) (fun p e s m below meth c A ls E hr hlk hin hg hH hl => ?_)
  have hl : lv_has ls 1 [(0, .int (nI k))] := hl
  have hx := E.1; have hb := E.2.1; have hml := E.2.2.1; have hown := E.2.2.2.1; have hts := E.2.2.2.2; have hK := hg.1
  obtain ⟨M0, hM0⟩ : ∃ M0 : hM, M0 = M := ⟨M, rfl⟩
  rw [show q_bk_placeBehind G k M = q_bk_placeBehind G k M0 by rw [hM0]]
  refine lv_iload_n hx hb d_bk_placeBehind_0 rfl (lv_at hl 0 rfl) ?_
  refine lv_iconst (v := 1) hx hb d_bk_placeBehind_1 (by decide) ?_
  refine hn_iadd hx hb (a := k) (b := 1) d_bk_placeBehind_2 ?_
  exact hm_iret E hr hlk hH (⟨rfl, hM0.symm⟩) (by omega) (by omega) d_bk_placeBehind_3

abbrev q_bk_elementAt (G : hG) (a n : Nat) (f : Nat → Int32) (i : Nat) (M : hM) : Option Value → hM → Prop := fun rv M' => rv = some (.int (if i < n then f i else 0)) ∧ M' = M
set_option maxHeartbeats 4000000 in
set_option maxRecDepth 100000 in
theorem c_bk_elementAt (l : Launch) (G : hG) (a n : Nat) (f : Nat → Int32) (i : Nat) (M : hM) (hw : hm_has M [(a, aI G n f)]) (hn : n < 2 ^ 31) (hi : i < 2 ^ 31) : Ct (gk G) l G.1 vwC y_bk_elementAt w_bk_elementAt { frames := 0, cells := 0, slots := 0, locals := 0 } ([.ref a, .int (nI i)] : List Value) M (q_bk_elementAt G a n f i M) 0 0 := by
  refine Ct.ofW (cc := b_bk_elementAt) (maxL := 2) (ret := (Option.some Jvm.ClassFile.FieldType.int)) (by decide) rfl (Nat.le_of_ble_eq_true rfl) (fun p e s m below meth c A ls E hr hlk hin hg hH hl => ?_)
  have hl : lv_has ls 2 [(0, .ref a), (1, .int (nI i))] := hl
  have hx := E.1; have hb := E.2.1; have hml := E.2.2.1; have hown := E.2.2.2.1; have hts := E.2.2.2.2; have hK := hg.1
  obtain ⟨M0, hM0⟩ : ∃ M0 : hM, M0 = M := ⟨M, rfl⟩
  rw [show q_bk_elementAt G a n f i M = q_bk_elementAt G a n f i M0 by rw [hM0]]
  refine lv_aload_n hx hb d_bk_elementAt_0 rfl (lv_at hl 0 rfl) ?_
  refine lv_ifnull hx hb d_bk_elementAt_1 ?_
  refine lv_iload_n hx hb d_bk_elementAt_4 rfl (lv_at hl 1 rfl) ?_
  refine hn_if_lt (a := i) hx hb (by omega) (tgt := 20) d_bk_elementAt_5 (by decide) ?_
  refine lv_iload_n hx hb d_bk_elementAt_8 rfl (lv_at hl 1 rfl) ?_
  refine lv_aload_n hx hb d_bk_elementAt_9 rfl (lv_at hl 0 rfl) ?_
  refine hm_alen E hK hH 0 (hw.at 0 rfl) rfl d_bk_elementAt_10 ?_
  refine hn_icmp_ge (a := i) (b := n) hx hb (by omega) (by omega) (tgt := 20) d_bk_elementAt_11 (by decide) (fun h11 => ?_) (fun h11 => ?_)
  · skip
    refine lv_iconst (v := 0) hx hb d_bk_elementAt_20 (by decide) ?_
    exact hm_iret E hr hlk hH (⟨by first | rw [if_pos h11] | rw [if_neg (by omega)], hM0.symm⟩) (by omega) (by omega) d_bk_elementAt_21
  · skip
    refine lv_aload_n hx hb d_bk_elementAt_14 rfl (lv_at hl 0 rfl) ?_
    refine lv_iload_n hx hb d_bk_elementAt_15 rfl (lv_at hl 1 rfl) ?_
    refine hm_iald E hK hH 0 (hw.at 0 rfl) rfl (i := i) (by omega) (hn) d_bk_elementAt_16 ?_
    refine lv_goto (tgt := 21) hx hb d_bk_elementAt_17 (by decide) ?_
    exact hm_iret E hr hlk hH (⟨by first | rw [if_pos h11] | rw [if_neg (by omega)], hM0.symm⟩) (by omega) (by omega) d_bk_elementAt_21

abbrev q_bk_elementAtN (G : hG) (a n : Nat) (f : Nat → Int32) (i : Int32) (M : hM) : Option Value → hM → Prop := fun rv M' => rv = some (.int 0) ∧ M' = M
set_option maxHeartbeats 4000000 in
set_option maxRecDepth 100000 in
theorem c_bk_elementAtN (l : Launch) (G : hG) (a n : Nat) (f : Nat → Int32) (i : Int32) (M : hM) (hw : hm_has M [(a, aI G n f)]) (hi : i.toInt < 0) : Ct (gk G) l G.1 vwC y_bk_elementAt w_bk_elementAt { frames := 0, cells := 0, slots := 0, locals := 0 } ([.ref a, .int i] : List Value) M (q_bk_elementAtN G a n f i M) 0 0 := by
  refine Ct.ofW (cc := b_bk_elementAt) (maxL := 2) (ret := (Option.some Jvm.ClassFile.FieldType.int)) (by decide) rfl (Nat.le_of_ble_eq_true rfl) (fun p e s m below meth c A ls E hr hlk hin hg hH hl => ?_)
  have hl : lv_has ls 2 [(0, .ref a), (1, .int i)] := hl
  have hx := E.1; have hb := E.2.1; have hml := E.2.2.1; have hown := E.2.2.2.1; have hts := E.2.2.2.2; have hK := hg.1
  obtain ⟨M0, hM0⟩ : ∃ M0 : hM, M0 = M := ⟨M, rfl⟩
  rw [show q_bk_elementAtN G a n f i M = q_bk_elementAtN G a n f i M0 by rw [hM0]]
  refine lv_aload_n hx hb d_bk_elementAt_0 rfl (lv_at hl 0 rfl) ?_
  refine lv_ifnull hx hb d_bk_elementAt_1 ?_
  refine lv_iload_n hx hb d_bk_elementAt_4 rfl (lv_at hl 1 rfl) ?_
  refine hr_if_lt (x := i) hx hb (tgt := 20) d_bk_elementAt_5 (by decide) (fun h5 => ?_) (fun h5 => ?_)
  · skip
    refine lv_iconst (v := 0) hx hb d_bk_elementAt_20 (by decide) ?_
    exact hm_iret E hr hlk hH (⟨rfl, hM0.symm⟩) (by omega) (by omega) d_bk_elementAt_21
  · skip
    omega

abbrev q_rw_size (G : hG) (r : Nat) (sg nm sz : Nat) (M : hM) : Option Value → hM → Prop := fun rv M' => rv = some (.int (nI sz)) ∧ M' = M
set_option maxHeartbeats 4000000 in
set_option maxRecDepth 100000 in
theorem c_rw_size (l : Launch) (G : hG) (r : Nat) (sg nm sz : Nat) (M : hM) (hw : hm_has M [(r, .inr (1, [.ref sg, .ref nm, .int (nI sz)]))]) : Ct (gk G) l G.1 vwC y_rw_size w_rw_size { frames := 0, cells := 0, slots := 0, locals := 0 } ([.ref r] : List Value) M (q_rw_size G r sg nm sz M) 0 0 := by
  refine Ct.ofW (cc := b_rw_size) (maxL := 1) (ret := (Option.some Jvm.ClassFile.FieldType.int)) (by decide) rfl (Nat.le_of_ble_eq_true rfl) (fun p e s m below meth c A ls E hr hlk hin hg hH hl => ?_)
  have hl : lv_has ls 1 [(0, .ref r)] := hl
  have hx := E.1; have hb := E.2.1; have hml := E.2.2.1; have hown := E.2.2.2.1; have hts := E.2.2.2.2; have hK := hg.1
  obtain ⟨M0, hM0⟩ : ∃ M0 : hM, M0 = M := ⟨M, rfl⟩
  rw [show q_rw_size G r sg nm sz M = q_rw_size G r sg nm sz M0 by rw [hM0]]
  refine lv_aload_n hx hb d_rw_size_0 rfl (lv_at hl 0 rfl) ?_
  refine hm_get E (tB in_rw) hK hH (hw.at 0 rfl) rfl 2 (by decide) (tC wm_65) rfl d_rw_size_1 ?_
  exact hm_iret E hr hlk hH (⟨rfl, hM0.symm⟩) (by omega) (by omega) d_rw_size_4

abbrev q_rw_append (G : hG) (r sg nm sz : Nat) (f : Nat → Int32) (v : Int32) (M : hM) : Option Value → hM → Prop := fun rv M' => (sz < 65 ∧ rv = some (.int (bI true)) ∧ hm_has M' [(r, .inr (1, [.ref sg, .ref nm, .int (nI (sz + 1))])), (sg, aI G 65 (upd f sz v))] ∧ hm_kp (fun a => a ∈ [r, sg]) M M') ∨ (65 ≤ sz ∧ rv = some (.int (bI false)) ∧ M' = M)
set_option maxHeartbeats 4000000 in
set_option maxRecDepth 100000 in
theorem c_rw_append (l : Launch) (G : hG) (r sg nm sz : Nat) (f : Nat → Int32) (v : Int32) (M : hM) (hw : hm_has M [(r, .inr (1, [.ref sg, .ref nm, .int (nI sz)])), (sg, aI G 65 f)]) (hsz : sz ≤ 65) : Ct (gk G) l G.1 vwC y_rw_append w_rw_append { frames := 0, cells := 0, slots := 0, locals := 0 } ([.ref r, .int v] : List Value) M (q_rw_append G r sg nm sz f v M) 0 0 := by
  refine Ct.ofW (cc := b_rw_append) (maxL := 2) (ret := (Option.some Jvm.ClassFile.FieldType.boolean)) (by decide) rfl (Nat.le_of_ble_eq_true rfl) (fun p e s m below meth c A ls E hr hlk hin hg hH hl => ?_)
  have hl : lv_has ls 2 [(0, .ref r), (1, .int v)] := hl
  have hx := E.1; have hb := E.2.1; have hml := E.2.2.1; have hown := E.2.2.2.1; have hts := E.2.2.2.2; have hK := hg.1
  obtain ⟨M0, hM0⟩ : ∃ M0 : hM, M0 = M := ⟨M, rfl⟩
  rw [show q_rw_append G r sg nm sz f v M = q_rw_append G r sg nm sz f v M0 by rw [hM0]]
  have hk : hm_kp (fun a => a ∈ [r, sg]) M0 M := by rw [hM0]; exact hm_kp.rf
  refine lv_aload_n hx hb d_rw_append_0 rfl (lv_at hl 0 rfl) ?_
  refine hm_get E (tB in_rw) hK hH (hw.at 0 rfl) rfl 2 (by decide) (tC wm_65) rfl d_rw_append_1 ?_
  refine lv_aload_n hx hb d_rw_append_4 rfl (lv_at hl 0 rfl) ?_
  refine hm_get E (tB in_rw) hK hH (hw.at 0 rfl) rfl 0 (by decide) (tC wm_63) rfl d_rw_append_5 ?_
  refine hm_alen E hK hH 0 (hw.at 1 rfl) rfl d_rw_append_8 ?_
  refine hn_icmp_lt (a := sz) (b := 65) hx hb (by omega) (by omega) (tgt := 14) d_rw_append_9 (by decide) (fun h9 => ?_) (fun h9 => ?_)
  · skip
    refine lv_aload_n hx hb d_rw_append_14 rfl (lv_at hl 0 rfl) ?_
    refine hm_get E (tB in_rw) hK hH (hw.at 0 rfl) rfl 0 (by decide) (tC wm_63) rfl d_rw_append_15 ?_
    refine lv_aload_n hx hb d_rw_append_18 rfl (lv_at hl 0 rfl) ?_
    refine hm_get E (tB in_rw) hK hH (hw.at 0 rfl) rfl 2 (by decide) (tC wm_65) rfl d_rw_append_19 ?_
    refine lv_iload_n hx hb d_rw_append_22 rfl (lv_at hl 1 rfl) ?_
    refine hm_iast E hK hH 0 (hw.at 1 rfl) rfl (i := sz) (by omega) (by decide) d_rw_append_23 (fun H locs hH => ?_)
    have hw := hw.set (ws' := [(r, .inr (1, [.ref sg, .ref nm, .int (nI sz)])), (sg, aI G 65 (upd f sz v))]) (k := 1) rfl rfl
    have hk := hk.wr (a := sg) (v := some (aI G 65 (upd f sz v))) (by first | (right; assumption) | (left; simp; done))
    generalize va_up M sg (some (aI G 65 (upd f sz v))) = M at hH hw hk ⊢
    refine lv_aload_n hx hb d_rw_append_24 rfl (lv_at hl 0 rfl) ?_
    refine lv_dup hx hb d_rw_append_25 rfl ?_
    refine hm_get E (tB in_rw) hK hH (hw.at 0 rfl) rfl 2 (by decide) (tC wm_65) rfl d_rw_append_26 ?_
    refine lv_iconst (v := 1) hx hb d_rw_append_29 (by decide) ?_
    refine hn_iadd hx hb (a := sz) (b := 1) d_rw_append_30 ?_
    refine hm_put E (tB in_rw) t_rw tk_rw nm_rw hK hH (hw.at 0 rfl) rfl 2 (by decide) (tC wm_65) rfl rfl rfl (Nat.le_of_ble_eq_true rfl) (fs' := [.ref sg, .ref nm, .int (nI (sz + 1))]) rfl d_rw_append_31 (fun H locs hH => ?_)
    have hw := hw.set (ws' := [(r, .inr (1, [.ref sg, .ref nm, .int (nI (sz + 1))])), (sg, aI G 65 (upd f sz v))]) (k := 0) rfl rfl
    have hk := hk.wr (a := r) (v := some (.inr (1, [.ref sg, .ref nm, .int (nI (sz + 1))]))) (by first | (right; assumption) | (left; simp; done))
    generalize va_up M r (some (.inr (1, [.ref sg, .ref nm, .int (nI (sz + 1))]))) = M at hH hw hk ⊢
    refine lv_iconst (v := 1) hx hb d_rw_append_34 (by decide) ?_
    exact hm_zret E hr hlk hH (by decide) (Or.inl ⟨h9, rfl, hw, hk⟩) (by omega) (by omega) d_rw_append_35
  · skip
    refine lv_iconst (v := 0) hx hb d_rw_append_12 (by decide) ?_
    exact hm_zret E hr hlk hH (by decide) (Or.inr ⟨h9, rfl, hM0.symm⟩) (by omega) (by omega) d_rw_append_13

abbrev q_rw_setNumber (G : hG) (r sg nm sz : Nat) (g : Nat → Int32) (i : Nat) (v : Int32) (M : hM) : Option Value → hM → Prop := fun rv M' => rv = none ∧ hm_has M' [(r, .inr (1, [.ref sg, .ref nm, .int (nI sz)])), (nm, aI G 66 (upd g i v))] ∧ hm_kp (fun a => a ∈ [nm]) M M'
set_option maxHeartbeats 4000000 in
set_option maxRecDepth 100000 in
theorem c_rw_setNumber (l : Launch) (G : hG) (r sg nm sz : Nat) (g : Nat → Int32) (i : Nat) (v : Int32) (M : hM) (hw : hm_has M [(r, .inr (1, [.ref sg, .ref nm, .int (nI sz)])), (nm, aI G 66 g)]) (hi : i < 66) : Ct (gk G) l G.1 vwC y_rw_setNumber w_rw_setNumber { frames := 0, cells := 0, slots := 0, locals := 0 } ([.ref r, .int (nI i), .int v] : List Value) M (q_rw_setNumber G r sg nm sz g i v M) 0 0 := by
  refine Ct.ofW (cc := b_rw_setNumber) (maxL := 3) (ret := (Option.none : Option Jvm.ClassFile.FieldType)) (by decide) rfl (Nat.le_of_ble_eq_true rfl) (fun p e s m below meth c A ls E hr hlk hin hg hH hl => ?_)
  have hl : lv_has ls 3 [(0, .ref r), (1, .int (nI i)), (2, .int v)] := hl
  have hx := E.1; have hb := E.2.1; have hml := E.2.2.1; have hown := E.2.2.2.1; have hts := E.2.2.2.2; have hK := hg.1
  obtain ⟨M0, hM0⟩ : ∃ M0 : hM, M0 = M := ⟨M, rfl⟩
  rw [show q_rw_setNumber G r sg nm sz g i v M = q_rw_setNumber G r sg nm sz g i v M0 by rw [hM0]]
  have hk : hm_kp (fun a => a ∈ [nm]) M0 M := by rw [hM0]; exact hm_kp.rf
  refine lv_iload_n hx hb d_rw_setNumber_0 rfl (lv_at hl 1 rfl) ?_
  refine hn_if_lt (a := i) hx hb (by omega) (tgt := 20) d_rw_setNumber_1 (by decide) ?_
  refine lv_iload_n hx hb d_rw_setNumber_4 rfl (lv_at hl 1 rfl) ?_
  refine lv_aload_n hx hb d_rw_setNumber_5 rfl (lv_at hl 0 rfl) ?_
  refine hm_get E (tB in_rw) hK hH (hw.at 0 rfl) rfl 1 (by decide) (tC wm_64) rfl d_rw_setNumber_6 ?_
  refine hm_alen E hK hH 0 (hw.at 1 rfl) rfl d_rw_setNumber_9 ?_
  refine hn_icmp_ge (a := i) (b := 66) hx hb (by omega) (by omega) (tgt := 20) d_rw_setNumber_10 (by decide) (fun h10 => ?_) (fun h10 => ?_)
  · skip
    omega
  · skip
    refine lv_aload_n hx hb d_rw_setNumber_13 rfl (lv_at hl 0 rfl) ?_
    refine hm_get E (tB in_rw) hK hH (hw.at 0 rfl) rfl 1 (by decide) (tC wm_64) rfl d_rw_setNumber_14 ?_
    refine lv_iload_n hx hb d_rw_setNumber_17 rfl (lv_at hl 1 rfl) ?_
    refine lv_iload_n hx hb d_rw_setNumber_18 rfl (lv_at hl 2 rfl) ?_
    refine hm_iast E hK hH 0 (hw.at 1 rfl) rfl (i := i) (by omega) (by decide) d_rw_setNumber_19 (fun H locs hH => ?_)
    have hw := hw.set (ws' := [(r, .inr (1, [.ref sg, .ref nm, .int (nI sz)])), (nm, aI G 66 (upd g i v))]) (k := 1) rfl rfl
    have hk := hk.wr (a := nm) (v := some (aI G 66 (upd g i v))) (by first | (right; assumption) | (left; simp; done))
    generalize va_up M nm (some (aI G 66 (upd g i v))) = M at hH hw hk ⊢
    exact hm_vret E hr hlk hH (⟨rfl, hw, hk⟩) (by omega) (by omega) d_rw_setNumber_20

abbrev q_ar_fill (G : hG) (a n : Nat) (f : Nat → Int32) (v : Int32) (M : hM) : Option Value → hM → Prop := fun rv M' => rv = none ∧ hm_has M' [(a, aI G n (fun _ => v))] ∧ hm_kp (fun a0 => a0 ∈ [a]) M M'
set_option maxHeartbeats 4000000 in
set_option maxRecDepth 100000 in
theorem c_ar_fill (l : Launch) (G : hG) (a n : Nat) (f : Nat → Int32) (v : Int32) (M : hM) (hw : hm_has M [(a, aI G n f)]) (hn : n < 2 ^ 31) : Ct (gk G) l G.1 vwC y_ar_fill w_ar_fill { frames := 0, cells := 0, slots := 0, locals := 0 } ([.ref a, .int v] : List Value) M (q_ar_fill G a n f v M) 0 0 := by
  refine Ct.ofW (cc := b_ar_fill) (maxL := 4) (ret := (Option.none : Option Jvm.ClassFile.FieldType)) (by decide) rfl (Nat.le_of_ble_eq_true rfl) (fun p e s m below meth c A ls E hr hlk hin hg hH hl => ?_)
  have hl : lv_has ls 4 [(0, .ref a), (1, .int v)] := hl
  have hx := E.1; have hb := E.2.1; have hml := E.2.2.1; have hown := E.2.2.2.1; have hts := E.2.2.2.2; have hK := hg.1
  obtain ⟨M0, hM0⟩ : ∃ M0 : hM, M0 = M := ⟨M, rfl⟩
  rw [show q_ar_fill G a n f v M = q_ar_fill G a n f v M0 by rw [hM0]]
  have hk : hm_kp (fun a0 => a0 ∈ [a]) M0 M := by rw [hM0]; exact hm_kp.rf
  have L5 : ∀ (k i : Nat) (g : Nat → Int32) (M : hM) (H : Heap) (locs : List Loc) (ls : Array Slot), n + 1 ≤ i + k → i ≤ n → (∀ j, j < i → g j = v) → hm_has M [(a, aI G n g)] → hm_kp (fun a0 => a0 ∈ [a]) M0 M → hm_I G.1 vwC A s.heap M H locs → lv_has ls 4 [(2, .int (nI i)), (3, .int (nI n)), (0, .ref a), (1, .int v)] → W p l e { frames := 0, cells := 0, slots := 0, locals := 0 } s m ([.ref a, .int v] : List Value).toArray below meth c H locs 0 0 (MQ below (hm_Q G.1 vwC (q_ar_fill G a n f v M0) A) ([.ref a, .int v] : List Value).toArray s 0 0 A) (F0 m 5 ls []) := by
    intro k
    induction k with
    | zero => intro i g M H locs ls h1 h2; exact absurd h1 (by omega)
    | succ k ih =>
      intro i g M H locs ls h1 h2 hgv hw hk hH hl
      refine lv_iload_n hx hb d_ar_fill_5 rfl (lv_at hl 0 rfl) ?_
      refine lv_iload_n hx hb d_ar_fill_6 rfl (lv_at hl 1 rfl) ?_
      refine hn_icmp_ge (a := i) (b := n) hx hb (by omega) (by omega) (tgt := 20) d_ar_fill_7 (by decide) (fun h7 => ?_) (fun h7 => ?_)
      · skip
        obtain rfl : i = n := by omega
        have hH := hm_ext (g := fun _ => v) hH (hw.at 0 rfl) (fun j hj => hgv j hj)
        have hw := hw.set (ws' := [(a, aI G i (fun _ => v))]) (k := 0) rfl rfl
        have hk := hk.tr (hm_kp.up (S := fun a0 => a0 ∈ [a]) (a := a) (v := some (aI G i (fun _ => v))) (by simp)) (fun _ h => h)
        exact hm_vret E hr hlk hH (⟨rfl, hw, hk⟩) (by omega) (by omega) d_ar_fill_20
      · skip
        refine lv_aload_n hx hb d_ar_fill_10 rfl (lv_at hl 2 rfl) ?_
        refine lv_iload_n hx hb d_ar_fill_11 rfl (lv_at hl 0 rfl) ?_
        refine lv_iload_n hx hb d_ar_fill_12 rfl (lv_at hl 3 rfl) ?_
        refine hm_iast E hK hH 0 (hw.at 0 rfl) rfl (i := i) (by omega) (hn) d_ar_fill_13 (fun H locs hH => ?_)
        have hw := hw.set (ws' := [(a, aI G n (upd g i v))]) (k := 0) rfl rfl
        have hk := hk.wr (a := a) (v := some (aI G n (upd g i v))) (by first | (right; assumption) | (left; simp; done))
        generalize va_up M a (some (aI G n (upd g i v))) = M at hH hw hk ⊢
        refine lv_iinc (v := nI (i + 1)) (lv' := [(2, .int (nI (i + 1))), (3, .int (nI n)), (0, .ref a), (1, .int v)]) hx hb d_ar_fill_14 hl (k := 0) rfl (by first | exact nI_add _ 1 | (show nI _ + nI _ = _; rw [nI_add])) (by decide) rfl (fun ls hl => ?_)
        skip
        refine lv_goto (tgt := 5) hx hb d_ar_fill_17 (by decide) ?_
        exact ih (i + 1) (upd g i v) M _ _ _ (by omega) (by omega) (upd_all hgv) hw hk hH (lv_sub hl [0, 1, 2, 3] rfl)
  refine lv_iconst (v := 0) hx hb d_ar_fill_0 (by decide) ?_
  refine lv_istore_n (lv' := [(2, .int 0), (0, .ref a), (1, .int v)]) hx hb d_ar_fill_1 rfl hl (by decide) rfl (fun ls hl => ?_)
  refine lv_aload_n hx hb d_ar_fill_2 rfl (lv_at hl 1 rfl) ?_
  refine hm_alen E hK hH 0 (hw.at 0 rfl) rfl d_ar_fill_3 ?_
  refine lv_istore_n (lv' := [(3, .int (nI n)), (2, .int 0), (0, .ref a), (1, .int v)]) hx hb d_ar_fill_4 rfl hl (by decide) rfl (fun ls hl => ?_)
  exact L5 (n + 1) 0 f M _ _ _ (by omega) (by omega) (fun j hj => absurd hj (by omega)) hw hk hH (lv_sub hl [1, 0, 2, 3] rfl)
