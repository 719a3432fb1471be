abbrev q_tr_raiseBetween (G : hG) (st en q r sg nm sz : Nat) (v g : Nat → Int32) (M : hM) : Option Value → hM → Prop := fun rv M' => rv = none ∧ hm_has M' [(r, .inr (1, [.ref sg, .ref nm, .int (nI sz)])), (nm, aI G 66 (rzB v g st (en + 1 - st))), (q, aI G 66 g)] ∧ hm_kp (fun a => a ∈ [nm]) M M'
set_option maxHeartbeats 4000000 in
set_option maxRecDepth 100000 in
theorem c_tr_raiseBetween (l : Launch) (G : hG) (st en q r sg nm sz : Nat) (v g : Nat → Int32) (M : hM) (hw : hm_has M [(r, .inr (1, [.ref sg, .ref nm, .int (nI sz)])), (nm, aI G 66 v), (q, aI G 66 g)]) (hen : en ≤ 65) (hst : st ≤ en) : Ct (gk G) l G.1 vwC y_tr_raiseBetween w_tr_raiseBetween { frames := 3, cells := 0, slots := 0, locals := 64 } ([.int (nI st), .int (nI en), .ref q, .ref r] : List Value) M (q_tr_raiseBetween G st en q r sg nm sz v g M) 0 0 := by
  refine Ct.ofW (cc := b_tr_raiseBetween) (maxL := 5) (ret := (Option.none : Option Jvm.ClassFile.FieldType)) (by decide) rfl (Nat.le_of_ble_eq_true rfl) (fun p e s m below meth c A ls E hr hlk hin hg hH hl => ?_)
  have hl : lv_has ls 5 [(0, .int (nI st)), (1, .int (nI en)), (2, .ref q), (3, .ref r)] := hl
  have hx := E.1; have hb := E.2.1; have hml := E.2.2.1; have hown := E.2.2.2.1; have hts := E.2.2.2.2; have hK := hg.1
  obtain ⟨M0, hM0⟩ : ∃ M0 : hM, M0 = M := ⟨M, rfl⟩
  rw [show q_tr_raiseBetween G st en q r sg nm sz v g M = q_tr_raiseBetween G st en q r sg nm sz v g M0 by rw [hM0]]
  have hk : hm_kp (fun a => a ∈ [nm]) M0 M := by rw [hM0]; exact hm_kp.rf
  have L3 : ∀ (k : Nat) (j : Nat) (M : hM) (H : Heap) (locs : List Loc) (ls : Array Slot), en + 2 ≤ st + j + k → st + j ≤ en + 1 → hm_has M [(r, .inr (1, [.ref sg, .ref nm, .int (nI sz)])), (nm, aI G 66 (rzB v g st j)), (q, aI G 66 g)] → hm_kp (fun a => a ∈ [nm]) M0 M → hm_I G.1 vwC A s.heap M H locs → lv_has ls 5 [(4, .int (nI (st + j))), (0, .int (nI st)), (1, .int (nI en)), (2, .ref q), (3, .ref r)] → W p l e { frames := 3, cells := 0, slots := 0, locals := 64 } s m ([.int (nI st), .int (nI en), .ref q, .ref r] : List Value).toArray below meth c H locs 0 0 (MQ below (hm_Q G.1 vwC (q_tr_raiseBetween G st en q r sg nm sz v g M0) A) ([.int (nI st), .int (nI en), .ref q, .ref r] : List Value).toArray s 0 0 A) (F0 m 3 ls []) := by
    intro k
    induction k with
    | zero => intro j M H locs ls hfu hj; exact absurd hfu (by omega)
    | succ k ih =>
      intro j M H locs ls hfu hj hw hk hH hl
      refine lv_iload hx hb d_tr_raiseBetween_3 (lv_at hl 0 rfl) ?_
      refine lv_iload_n hx hb d_tr_raiseBetween_5 rfl (lv_at hl 2 rfl) ?_
      refine hn_icmp_gt (a := st + j) (b := en) hx hb (by omega) (by omega) (tgt := 29) d_tr_raiseBetween_6 (by decide) (fun h6 => ?_) (fun h6 => ?_)
      · skip
        have hje : j = en + 1 - st := by omega
        exact hm_vret E hr hlk hH (⟨rfl, by rw [← hje]; exact hw, hk⟩) (by omega) (by omega) d_tr_raiseBetween_29
      · skip
        refine lv_aload_n hx hb d_tr_raiseBetween_9 rfl (lv_at hl 4 rfl) ?_
        refine lv_iload hx hb d_tr_raiseBetween_10 (lv_at hl 0 rfl) ?_
        refine lv_aload_n hx hb d_tr_raiseBetween_12 rfl (lv_at hl 3 rfl) ?_
        refine lv_iload hx hb d_tr_raiseBetween_13 (lv_at hl 0 rfl) ?_
        refine lv_iload_n hx hb d_tr_raiseBetween_15 rfl (lv_at hl 1 rfl) ?_
        refine hn_isub hx hb (a := st + j) (b := st) (by omega) d_tr_raiseBetween_16 ?_
        refine hm_top (w := .int (nI j)) (by rw [Nat.add_sub_cancel_left]) ?_
        have hM1 := c_bk_elementAt l G q 66 g j M (hw.sub (ws' := [(q, aI G 66 g)]) [2] rfl rfl) (by decide) (by omega) H.size
        have hG1 : GoodIn w_tr_raiseBetween w_bk_elementAt := gB_0 wm_127
        refine hm_call (va_runSN (y := y_bk_elementAt) (bytes := b_bk_elementAt) (maxL := 2) (ws := w_bk_elementAt) (rm := { frames := 0, cells := 0, slots := 0, locals := 0 }) (own := R_tr) (index := 58) (ret := (Option.some Jvm.ClassFile.FieldType.int)) (host := R_bk) (As := [.ref q, .int (nI j)]) (rest := [.int (nI (st + j)), .ref r]) E hM1 ⟨va_cnB (y := y_bk_elementAt) (bytes := b_bk_elementAt) (maxL := 2) (ws := w_bk_elementAt) (rm := { frames := 0, cells := 0, slots := 0, locals := 0 }) (own := R_tr) (index := 58) (host := R_bk) (ret := (Option.some Jvm.ClassFile.FieldType.int)) 2 hts hG1 rfl rfl rfl hg.2.2.2.2.2.1 (hts _ (tC wm_1)) (by decide +kernel) ⟨Nat.le_of_ble_eq_true rfl, Nat.le_of_ble_eq_true rfl⟩, hts _ (tC wm_126), trivial⟩ (hm_preS gk_w gk_s hH hg [.ref q, .int (nI j)]) rfl rfl hl.1 rfl (lv_room (Nat.le_of_ble_eq_true rfl)) d_tr_raiseBetween_17 ⟨(by show _ ≤ 0; omega), (by show _ ≤ 0; omega)⟩) hH (fun r1 M1 H1 locs1 hq1 hH1 => ?_)
        obtain ⟨rfl, e1⟩ := hq1
        replace hH := hH1; rw [e1] at hH; clear hH1 e1; generalize H1 = H at hH ⊢; generalize locs1 = locs at hH ⊢
        refine hm_top (w := .int (g j)) (by rw [if_pos (by omega)]) ?_
        have hM1 := c_rw_raiseNumber l G r sg nm sz (rzB v g st j) (st + j) (g j) M (hw.sub (ws' := [(r, cRw sg nm sz), (nm, aI G 66 (rzB v g st j))]) [0, 1] rfl rfl) (by omega) H.size
        have hG1 : GoodIn w_tr_raiseBetween (wsV R_tr 64 R_rw y_rw_raiseNumber w_rw_raiseNumber) := gB_V wm_349 wm_350 wm_351 wm_4 wm_352
        refine hm_call (va_runV (y := y_rw_raiseNumber) (bytes := b_rw_raiseNumber) (maxL := 3) (ws := w_rw_raiseNumber) (rm := { frames := 2, cells := 0, slots := 0, locals := 42 }) (own := R_tr) (index := 64) (ret := (Option.none : Option Jvm.ClassFile.FieldType)) (C := R_rw) (As := [.int (nI (st + j)), .int (g j)]) (rest := []) E hM1 (cwV (y := y_rw_raiseNumber) (bytes := b_rw_raiseNumber) (maxL := 3) (ws := w_rw_raiseNumber) (rm := { frames := 2, cells := 0, slots := 0, locals := 42 }) (own := R_tr) (index := 64) (ret := (Option.none : Option Jvm.ClassFile.FieldType)) (C := R_rw) 2 hts hG1 rfl rfl rfl (by decide +kernel) ⟨Nat.le_of_ble_eq_true rfl, Nat.le_of_ble_eq_true rfl⟩) (hm_preV gk_w gk_s hH hg hK (hw.at 0 rfl) rfl [.int (nI (st + j)), .int (g j)]) rfl rfl hl.1 rfl (lv_room (Nat.le_of_ble_eq_true rfl)) d_tr_raiseBetween_20 ⟨(by show _ ≤ 0; omega), (by show _ ≤ 0; omega)⟩) hH (fun r1 M1 H1 locs1 hq1 hH1 => ?_)
        replace hH := hH1; clear hH1; generalize H1 = H at hH ⊢; generalize locs1 = locs at hH ⊢
        obtain ⟨rfl, hw1, hk1⟩ := hq1
        have hw := hm_join (ws' := [(r, .inr (1, [.ref sg, .ref nm, .int (nI sz)])), (nm, aI G 66 (rzB v g st (j + 1))), (q, aI G 66 g)]) (wc := [(r, .inr (1, [.ref sg, .ref nm, .int (nI sz)])), (nm, aI G 66 (rzB v g st j))]) hw hw1 hk1 [0, 1] rfl rfl (fun a h => by simp at h; simp [h]) rfl (by
          intro k9 h9
          match k9, h9 with
          | 0, _ => exact Or.inr ⟨0, rfl, rfl⟩
          | 1, _ => exact Or.inr ⟨1, rfl, rfl⟩
          | 2, _ => exact Or.inl ⟨by decide, rfl⟩
          | k9 + 3, h9 => exact absurd h9 (Nat.not_lt_of_le (Nat.le_add_left _ _)))
        have hk := hk.tr hk1 (fun _ h => h)
        generalize M1 = M at hH hw hk
        refine lv_iinc (v := nI (st + j + 1)) (lv' := [(4, .int (nI (st + j + 1))), (0, .int (nI st)), (1, .int (nI en)), (2, .ref q), (3, .ref r)]) hx hb d_tr_raiseBetween_23 hl (k := 0) rfl (by first | exact nI_add _ 1 | (show nI _ + nI _ = _; rw [nI_add])) (by decide) rfl (fun ls hl => ?_)
        refine lv_goto (tgt := 3) hx hb d_tr_raiseBetween_26 (by decide) ?_
        exact ih (j + 1) M _ _ _ (by omega) (by omega) hw hk hH (lv_sub hl [0, 1, 2, 3, 4] rfl)
  refine lv_iload_n hx hb d_tr_raiseBetween_0 rfl (lv_at hl 0 rfl) ?_
  refine lv_istore (lv' := [(4, .int (nI st)), (0, .int (nI st)), (1, .int (nI en)), (2, .ref q), (3, .ref r)]) hx hb d_tr_raiseBetween_1 hl (by decide) rfl (fun ls hl => ?_)
  exact L3 (en + 2) 0 M _ _ _ (by omega) (by omega) hw hk hH (lv_sub hl [0, 1, 2, 3, 4] rfl)

abbrev q_tr_raiseNumbersFrom (G : hG) (t root en bg r sg nm sz : Nat) (f : Nat → Int32) (τ : tau) (v : Nat → Int32) (S0 : (Nat → Int32) → Nat → Prop) (Es : List rwT) (S : Nat → Int32 → Prop) (st : Nat) (M : hM) : Option Value → hM → Prop := fun rv M' => rv = none ∧ ∃ v', hm_has M' [(t, .inr (2, [.ref root, .int (nI en), .int (nI bg)])), (r, .inr (1, [.ref sg, .ref nm, .int (nI sz)])), (sg, aI G 65 f), (nm, aI G 66 v')] ∧ vMax (fun pl x => S pl x ∨ ctr Es f sz st sz pl x) sz v' ∧ hm_kp (fun a => a ∈ [nm]) M M'
set_option maxHeartbeats 4000000 in
set_option maxRecDepth 100000 in
theorem c_tr_raiseNumbersFrom (l : Launch) (G : hG) (t root en bg r sg nm sz : Nat) (f : Nat → Int32) (τ : tau) (v : Nat → Int32) (S0 : (Nat → Int32) → Nat → Prop) (Es : List rwT) (S : Nat → Int32 → Prop) (st : Nat) (M : hM) (hw : hm_has M [(t, .inr (2, [.ref root, .int (nI en), .int (nI bg)])), (r, .inr (1, [.ref sg, .ref nm, .int (nI sz)])), (sg, aI G 65 f), (nm, aI G 66 v)]) (htr : trH G M root τ) (hsz : sz ≤ 65) (hI : trI (tst τ) root S0) (hC : trC (tst τ) root (tnu τ) (tnv τ) Es) (hSE : ∀ x k, sE Es x k → S0 x k) (hU : unE Es) (hnn : nnE Es) (hnm : ∀ a ∈ tL τ, ∀ q, tnu τ a = some q → q ≠ nm) (hvm : vMax S sz v) (hst : st ≤ sz) : Ct (gk G) l G.1 vwC y_tr_raiseNumbersFrom w_tr_raiseNumbersFrom { frames := 4, cells := 0, slots := 0, locals := 88 } ([.ref t, .int (nI st), .ref r] : List Value) M (q_tr_raiseNumbersFrom G t root en bg r sg nm sz f τ v S0 Es S st M) 0 0 := by
  refine Ct.ofW (cc := b_tr_raiseNumbersFrom) (maxL := 5) (ret := (Option.none : Option Jvm.ClassFile.FieldType)) (by decide) rfl (Nat.le_of_ble_eq_true rfl) (fun p e s m below meth c A ls E hr hlk hin hg hH hl => ?_)
  have hl : lv_has ls 5 [(0, .ref t), (1, .int (nI st)), (2, .ref r)] := hl
  have hx := E.1; have hb := E.2.1; have hml := E.2.2.1; have hown := E.2.2.2.1; have hts := E.2.2.2.2; have hK := hg.1
  obtain ⟨M0, hM0⟩ : ∃ M0 : hM, M0 = M := ⟨M, rfl⟩
  rw [show q_tr_raiseNumbersFrom G t root en bg r sg nm sz f τ v S0 Es S st M = q_tr_raiseNumbersFrom G t root en bg r sg nm sz f τ v S0 Es S st M0 by rw [hM0]]
  have hk : hm_kp (fun a => a ∈ [nm]) M0 M := by rw [hM0]; exact hm_kp.rf
  have L8 : ∀ (k : Nat) (j a : Nat) (w : Nat → Int32) (M : hM) (H : Heap) (locs : List Loc) (ls : Array Slot), sz + 1 ≤ st + j + k → st + j ≤ sz → twk (tst τ) root (fun j9 => f (st + j9)) j = some a → trH G M root τ → vMax (fun pl x => S pl x ∨ ctr Es f sz st j pl x) sz w → hm_has M [(t, .inr (2, [.ref root, .int (nI en), .int (nI bg)])), (r, .inr (1, [.ref sg, .ref nm, .int (nI sz)])), (sg, aI G 65 f), (nm, aI G 66 w)] → hm_kp (fun a => a ∈ [nm]) M0 M → hm_I G.1 vwC A s.heap M H locs → lv_has ls 5 [(4, .int (nI (st + j))), (3, .ref a), (0, .ref t), (1, .int (nI st)), (2, .ref r)] → W p l e { frames := 4, cells := 0, slots := 0, locals := 88 } s m ([.ref t, .int (nI st), .ref r] : List Value).toArray below meth c H locs 0 0 (MQ below (hm_Q G.1 vwC (q_tr_raiseNumbersFrom G t root en bg r sg nm sz f τ v S0 Es S st M0) A) ([.ref t, .int (nI st), .ref r] : List Value).toArray s 0 0 A) (F0 m 8 ls []) := by
    intro k
    induction k with
    | zero => intro j a w M H locs ls hfu hj hwk htr hvm; exact absurd hfu (by omega)
    | succ k ih =>
      intro j a w M H locs ls hfu hj hwk htr hvm hw hk hH hl
      have haL := twk_in htr hwk
      refine lv_iload hx hb d_tr_raiseNumbersFrom_8 (lv_at hl 0 rfl) ?_
      refine lv_aload_n hx hb d_tr_raiseNumbersFrom_10 rfl (lv_at hl 4 rfl) ?_
      have hM1 := c_rw_size l G r sg nm sz M (hw.sub (ws' := [(r, cRw sg nm sz)]) [1] rfl rfl) H.size
      have hG1 : GoodIn w_tr_raiseNumbersFrom (wsV R_tr 25 R_rw y_rw_size w_rw_size) := gB_V wm_258 wm_115 wm_116 wm_4 wm_117
      refine hm_call (va_runV (y := y_rw_size) (bytes := b_rw_size) (maxL := 1) (ws := w_rw_size) (rm := { frames := 0, cells := 0, slots := 0, locals := 0 }) (own := R_tr) (index := 25) (ret := (Option.some Jvm.ClassFile.FieldType.int)) (C := R_rw) (As := []) (rest := [.int (nI (st + j))]) E hM1 (cwV (y := y_rw_size) (bytes := b_rw_size) (maxL := 1) (ws := w_rw_size) (rm := { frames := 0, cells := 0, slots := 0, locals := 0 }) (own := R_tr) (index := 25) (ret := (Option.some Jvm.ClassFile.FieldType.int)) (C := R_rw) 0 hts hG1 rfl rfl rfl (by decide +kernel) ⟨Nat.le_of_ble_eq_true rfl, Nat.le_of_ble_eq_true rfl⟩) (hm_preV gk_w gk_s hH hg hK (hw.at 1 rfl) rfl []) rfl rfl hl.1 rfl (lv_room (Nat.le_of_ble_eq_true rfl)) d_tr_raiseNumbersFrom_11 ⟨(by show _ ≤ 0; omega), (by show _ ≤ 0; omega)⟩) hH (fun r1 M1 H1 locs1 hq1 hH1 => ?_)
      obtain ⟨rfl, e1⟩ := hq1
      replace hH := hH1; rw [e1] at hH; clear hH1 e1; generalize H1 = H at hH ⊢; generalize locs1 = locs at hH ⊢
      refine hn_icmp_ge (a := st + j) (b := sz) hx hb (by omega) (by omega) (tgt := 59) d_tr_raiseNumbersFrom_14 (by decide) (fun h14 => ?_) (fun h14 => ?_)
      · skip
        exact hm_vret E hr hlk hH (⟨rfl, w, hw, vMax_ext hvm (fun pl x _ => or_congr Iff.rfl ⟨fun ⟨r9, a1, a2, a3, a4, a5⟩ => ⟨r9, a1, a2, by omega, a4, a5⟩, fun ⟨r9, a1, a2, a3, a4, a5⟩ => ⟨r9, a1, a2, by omega, a4, a5⟩⟩), hk⟩) (by omega) (by omega) d_tr_raiseNumbersFrom_59
      · skip
        refine lv_aload_n hx hb d_tr_raiseNumbersFrom_17 rfl (lv_at hl 1 rfl) ?_
        refine lv_aload_n hx hb d_tr_raiseNumbersFrom_18 rfl (lv_at hl 4 rfl) ?_
        refine lv_iload hx hb d_tr_raiseNumbersFrom_19 (lv_at hl 0 rfl) ?_
        have hM1 := c_rw_signAt l G r sg nm sz f (st + j) M (hw.sub (ws' := [(r, cRw sg nm sz), (sg, aI G 65 f)]) [1, 2] rfl rfl) hsz (by omega) H.size
        have hG1 : GoodIn w_tr_raiseNumbersFrom (wsV R_tr 31 R_rw y_rw_signAt w_rw_signAt) := gB_V wm_259 wm_180 wm_181 wm_4 wm_182
        refine hm_call (va_runV (y := y_rw_signAt) (bytes := b_rw_signAt) (maxL := 2) (ws := w_rw_signAt) (rm := { frames := 1, cells := 0, slots := 0, locals := 21 }) (own := R_tr) (index := 31) (ret := (Option.some Jvm.ClassFile.FieldType.int)) (C := R_rw) (As := [.int (nI (st + j))]) (rest := [.ref a]) E hM1 (cwV (y := y_rw_signAt) (bytes := b_rw_signAt) (maxL := 2) (ws := w_rw_signAt) (rm := { frames := 1, cells := 0, slots := 0, locals := 21 }) (own := R_tr) (index := 31) (ret := (Option.some Jvm.ClassFile.FieldType.int)) (C := R_rw) 1 hts hG1 rfl rfl rfl (by decide +kernel) ⟨Nat.le_of_ble_eq_true rfl, Nat.le_of_ble_eq_true rfl⟩) (hm_preV gk_w gk_s hH hg hK (hw.at 1 rfl) rfl [.int (nI (st + j))]) rfl rfl hl.1 rfl (lv_room (Nat.le_of_ble_eq_true rfl)) d_tr_raiseNumbersFrom_21 ⟨(by show _ ≤ 0; omega), (by show _ ≤ 0; omega)⟩) hH (fun r1 M1 H1 locs1 hq1 hH1 => ?_)
        obtain ⟨rfl, e1⟩ := hq1
        replace hH := hH1; rw [e1] at hH; clear hH1 e1; generalize H1 = H at hH ⊢; generalize locs1 = locs at hH ⊢
        refine hm_top (w := .int (f (st + j))) (by rw [if_pos h14]) ?_
        have hM1 := c_nd_childWith l G a (tsg τ a) (tnx τ a) (tnu τ a) (tcs τ a) (tsg τ) (f (st + j)) M (htr.2.1 a haL) (htr.ch haL) H.size
        have hG1 : GoodIn w_tr_raiseNumbersFrom (wsV R_tr 35 R_nd y_nd_childWith w_nd_childWith) := gB_V wm_260 wm_261 wm_262 wm_3 wm_263
        refine hm_call (va_runV (y := y_nd_childWith) (bytes := b_nd_childWith) (maxL := 3) (ws := w_nd_childWith) (rm := { frames := 0, cells := 0, slots := 0, locals := 0 }) (own := R_tr) (index := 35) (ret := (Option.some (Jvm.ClassFile.FieldType.object "HyphenBook$Node"))) (C := R_nd) (As := [.int (f (st + j))]) (rest := []) E hM1 (cwV (y := y_nd_childWith) (bytes := b_nd_childWith) (maxL := 3) (ws := w_nd_childWith) (rm := { frames := 0, cells := 0, slots := 0, locals := 0 }) (own := R_tr) (index := 35) (ret := (Option.some (Jvm.ClassFile.FieldType.object "HyphenBook$Node"))) (C := R_nd) 1 hts hG1 rfl rfl rfl (by decide +kernel) ⟨Nat.le_of_ble_eq_true rfl, Nat.le_of_ble_eq_true rfl⟩) (hm_preV gk_w gk_s hH hg hK (htr.2.1 a haL) rfl [.int (f (st + j))]) rfl rfl hl.1 rfl (lv_room (Nat.le_of_ble_eq_true rfl)) d_tr_raiseNumbersFrom_24 ⟨(by show _ ≤ 0; omega), (by show _ ≤ 0; omega)⟩) hH (fun r1 M1 H1 locs1 hq1 hH1 => ?_)
        obtain ⟨rfl, e1⟩ := hq1
        replace hH := hH1; rw [e1] at hH; clear hH1 e1; generalize H1 = H at hH ⊢; generalize locs1 = locs at hH ⊢
        refine ho_astore_n (lv' := [(3, va_rf (tst τ a (f (st + j)))), (4, .int (nI (st + j))), (0, .ref t), (1, .int (nI st)), (2, .ref r)]) hx hb d_tr_raiseNumbersFrom_27 rfl hl (by decide) rfl (fun ls hl => ?_)
        refine ho_aload_n hx hb d_tr_raiseNumbersFrom_28 rfl (lv_at hl 0 rfl) ?_
        refine hm_ifnonnull (tgt := 33) hx hb d_tr_raiseNumbersFrom_29 (by decide) (fun y hny => ?_) (fun hny => ?_)
        · skip
          have hl : lv_has ls 5 [(3, .ref y), (4, .int (nI (st + j))), (0, .ref t), (1, .int (nI st)), (2, .ref r)] := by rw [hny] at hl; exact hl
          have hwk2 : twk (tst τ) root (fun j9 => f (st + j9)) (j + 1) = some y := by rw [twk_succ hwk]; exact hny
          have hyL := twk_in htr hwk2
          refine lv_aload_n hx hb d_tr_raiseNumbersFrom_33 rfl (lv_at hl 0 rfl) ?_
          refine hm_getN E (tB in_nd) hK hH (htr.2.1 y hyL) rfl 3 (by decide) hg.2.1 rfl d_tr_raiseNumbersFrom_34 ?_
          refine hm_ifnull (tgt := 53) hx hb d_tr_raiseNumbersFrom_37 (by decide) (fun hnu => ?_) (fun q hnu => ?_)
          · skip
            have hno : ∀ r9 ∈ Es, ¬ sm r9 (j + 1) (fun j9 => f (st + j9)) := by
              rcases hC _ _ y hwk2 with ⟨-, z⟩ | ⟨q2, r0, z1, -⟩
              · exact z
              · rw [hnu] at z1; cases z1
            refine lv_iinc (v := nI (st + j + 1)) (lv' := [(4, .int (nI (st + j + 1))), (3, .ref y), (0, .ref t), (1, .int (nI st)), (2, .ref r)]) hx hb d_tr_raiseNumbersFrom_53 hl (k := 1) rfl (by first | exact nI_add _ 1 | (show nI _ + nI _ = _; rw [nI_add])) (by decide) rfl (fun ls hl => ?_)
            refine lv_goto (tgt := 8) hx hb d_tr_raiseNumbersFrom_56 (by decide) ?_
            exact ih (j + 1) y w M _ _ _ (by omega) (by omega) hwk2 htr (vMax_ext hvm (fun pl x _ => or_congr Iff.rfl (ctr_no hno))) hw hk hH (lv_sub hl [0, 1, 2, 3, 4] rfl)
          · skip
            have hqn := hnm y hyL q hnu
            have hqc := htr.2.2.2.2 y hyL q hnu
            obtain ⟨r0, hr0, hs0, hg0⟩ : ∃ r0, r0 ∈ Es ∧ sm r0 (j + 1) (fun j9 => f (st + j9)) ∧ g66 (tnv τ q) r0.2.2 := by
              rcases hC _ _ y hwk2 with ⟨z, -⟩ | ⟨q2, r0, z1, z2, z3, z4⟩
              · rw [hnu] at z; cases z
              · rw [hnu] at z1; cases z1; exact ⟨r0, z2, z3, z4⟩
            refine lv_iload_n hx hb d_tr_raiseNumbersFrom_40 rfl (lv_at hl 3 rfl) ?_
            refine lv_iload hx hb d_tr_raiseNumbersFrom_41 (lv_at hl 1 rfl) ?_
            refine lv_iconst (v := 1) hx hb d_tr_raiseNumbersFrom_43 (by decide) ?_
            refine hn_iadd hx hb (a := st + j) (b := 1) d_tr_raiseNumbersFrom_44 ?_
            refine lv_aload_n hx hb d_tr_raiseNumbersFrom_45 rfl (lv_at hl 0 rfl) ?_
            refine hm_getN E (tB in_nd) hK hH (htr.2.1 y hyL) rfl 3 (by decide) hg.2.1 rfl d_tr_raiseNumbersFrom_46 ?_
            refine lv_aload_n hx hb d_tr_raiseNumbersFrom_49 rfl (lv_at hl 4 rfl) ?_
            refine W.eq (g2 := F0 m 50 ls [.ref r, .ref q, .int (nI (st + j + 1)), .int (nI st)]) (by rw [show va_rf (tnu τ y) = Value.ref q by rw [hnu]; rfl]; rfl) ?_
            have hwn := hw.at 3 rfl
            have hM1 := c_tr_raiseBetween l G st (st + j + 1) q r sg nm sz w (tnv τ q) M (hm_has3 hw hqc hqn (by simp)) (by omega) (by omega) H.size
            have hG1 : GoodIn w_tr_raiseNumbersFrom (wsS R_tr 54 y_tr_raiseBetween w_tr_raiseBetween) := gB_S wm_345 wm_346 wm_2 wm_347
            refine hm_call (va_runS (y := y_tr_raiseBetween) (bytes := b_tr_raiseBetween) (maxL := 5) (ws := w_tr_raiseBetween) (rm := { frames := 3, cells := 0, slots := 0, locals := 64 }) (own := R_tr) (index := 54) (ret := (Option.none : Option Jvm.ClassFile.FieldType)) (As := [.int (nI st), .int (nI (st + j + 1)), .ref q, .ref r]) (rest := []) E hM1 (cwS (y := y_tr_raiseBetween) (bytes := b_tr_raiseBetween) (maxL := 5) (ws := w_tr_raiseBetween) (rm := { frames := 3, cells := 0, slots := 0, locals := 64 }) (own := R_tr) (index := 54) (ret := (Option.none : Option Jvm.ClassFile.FieldType)) 4 hts hG1 rfl rfl rfl (by decide +kernel) ⟨Nat.le_of_ble_eq_true rfl, Nat.le_of_ble_eq_true rfl⟩) (hm_preS gk_w gk_s hH hg [.int (nI st), .int (nI (st + j + 1)), .ref q, .ref r]) rfl rfl hl.1 rfl (lv_room (Nat.le_of_ble_eq_true rfl)) d_tr_raiseNumbersFrom_50 ⟨(by show _ ≤ 0; omega), (by show _ ≤ 0; omega)⟩) hH (fun r1 M1 H1 locs1 hq1 hH1 => ?_)
            replace hH := hH1; clear hH1; generalize H1 = H at hH ⊢; generalize locs1 = locs at hH ⊢
            obtain ⟨rfl, hw1, hk1⟩ := hq1
            have hw := hm_join3 hw hw1 hk1
            rw [show st + j + 1 + 1 - st = j + 2 by omega] at hw
            have hvm2 := vMax_ext (T := fun pl x => S pl x ∨ ctr Es f sz st (j + 1) pl x) (rz_max (st := st) (g := tnv τ q) hvm (j + 2) (fun j9 h9 => by rw [hg0 j9 (by omega)]; exact hnn r0 hr0 j9 (by omega))) (fun pl x _ => by rw [ctr_yes hU hr0 hs0 hg0 (by omega) hsz, or_assoc])
            have hk := hk.tr hk1 (fun _ h => h)
            have htr := htr.kept hk1 (fun b hb z => by
              have z : b = nm := by simpa using z
              have h1 := htr.2.1 b hb
              rw [z, hwn] at h1
              simp at h1) (fun b hb x hx z => hnm b hb x hx (by simpa using z))
            generalize M1 = M at hH hw hk htr
            refine lv_iinc (v := nI (st + j + 1)) (lv' := [(4, .int (nI (st + j + 1))), (3, .ref y), (0, .ref t), (1, .int (nI st)), (2, .ref r)]) hx hb d_tr_raiseNumbersFrom_53 hl (k := 1) rfl (by first | exact nI_add _ 1 | (show nI _ + nI _ = _; rw [nI_add])) (by decide) rfl (fun ls hl => ?_)
            refine lv_goto (tgt := 8) hx hb d_tr_raiseNumbersFrom_56 (by decide) ?_
            exact ih (j + 1) y _ M _ _ _ (by omega) (by omega) hwk2 htr hvm2 hw hk hH (lv_sub hl [0, 1, 2, 3, 4] rfl)
        · skip
          exact hm_vret E hr hlk hH (⟨rfl, w, hw, vMax_ext hvm (fun pl x _ => or_congr Iff.rfl (ctr_end hI hSE (by rw [twk_succ hwk]; exact hny) (by omega))), hk⟩) (by omega) (by omega) d_tr_raiseNumbersFrom_32
  refine lv_aload_n hx hb d_tr_raiseNumbersFrom_0 rfl (lv_at hl 0 rfl) ?_
  refine hm_get E (tB in_tr) hK hH (hw.at 0 rfl) rfl 0 (by decide) (tC wm_47) rfl d_tr_raiseNumbersFrom_1 ?_
  refine lv_astore_n (lv' := [(3, .ref root), (0, .ref t), (1, .int (nI st)), (2, .ref r)]) hx hb d_tr_raiseNumbersFrom_4 rfl hl (by decide) rfl (fun ls hl => ?_)
  refine lv_iload_n hx hb d_tr_raiseNumbersFrom_5 rfl (lv_at hl 2 rfl) ?_
  refine lv_istore (lv' := [(4, .int (nI st)), (3, .ref root), (0, .ref t), (1, .int (nI st)), (2, .ref r)]) hx hb d_tr_raiseNumbersFrom_6 hl (by decide) rfl (fun ls hl => ?_)
  exact L8 (sz + 1) 0 root v M _ _ _ (by omega) (by omega) rfl htr (vMax_ext hvm (fun pl x _ => ⟨fun z => z.elim id (fun y => absurd y ctr_0), Or.inl⟩)) hw hk hH (lv_sub hl [0, 1, 2, 3, 4] rfl)

abbrev q_tr_raiseNumbers (G : hG) (t root en bg r sg nm sz : Nat) (f : Nat → Int32) (τ : tau) (v : Nat → Int32) (S0 : (Nat → Int32) → Nat → Prop) (Es : List rwT) (S : Nat → Int32 → Prop) (M : hM) : Option Value → hM → Prop := fun rv M' => rv = none ∧ ∃ v', hm_has M' [(t, .inr (2, [.ref root, .int (nI en), .int (nI bg)])), (r, .inr (1, [.ref sg, .ref nm, .int (nI sz)])), (sg, aI G 65 f), (nm, aI G 66 v')] ∧ vMax (fun pl x => S pl x ∨ ∃ i, i < sz ∧ ctr Es f sz i sz pl x) sz v' ∧ hm_kp (fun a => a ∈ [nm]) M M'
set_option maxHeartbeats 4000000 in
set_option maxRecDepth 100000 in
theorem c_tr_raiseNumbers (l : Launch) (G : hG) (t root en bg r sg nm sz : Nat) (f : Nat → Int32) (τ : tau) (v : Nat → Int32) (S0 : (Nat → Int32) → Nat → Prop) (Es : List rwT) (S : Nat → Int32 → Prop) (M : hM) (hw : hm_has M [(t, .inr (2, [.ref root, .int (nI en), .int (nI bg)])), (r, .inr (1, [.ref sg, .ref nm, .int (nI sz)])), (sg, aI G 65 f), (nm, aI G 66 v)]) (htr : trH G M root τ) (hsz : sz ≤ 65) (hI : trI (tst τ) root S0) (hC : trC (tst τ) root (tnu τ) (tnv τ) Es) (hSE : ∀ x k, sE Es x k → S0 x k) (hU : unE Es) (hnn : nnE Es) (hnm : ∀ a ∈ tL τ, ∀ q, tnu τ a = some q → q ≠ nm) (hvm : vMax S sz v) : Ct (gk G) l G.1 vwC y_tr_raiseNumbers w_tr_raiseNumbers { frames := 5, cells := 0, slots := 0, locals := 112 } ([.ref t, .ref r] : List Value) M (q_tr_raiseNumbers G t root en bg r sg nm sz f τ v S0 Es S M) 0 0 := by
  refine Ct.ofW (cc := b_tr_raiseNumbers) (maxL := 3) (ret := (Option.none : Option Jvm.ClassFile.FieldType)) (by decide) rfl (Nat.le_of_ble_eq_true rfl) (fun p e s m below meth c A ls E hr hlk hin hg hH hl => ?_)
  have hl : lv_has ls 3 [(0, .ref t), (1, .ref r)] := hl
  have hx := E.1; have hb := E.2.1; have hml := E.2.2.1; have hown := E.2.2.2.1; have hts := E.2.2.2.2; have hK := hg.1
  obtain ⟨M0, hM0⟩ : ∃ M0 : hM, M0 = M := ⟨M, rfl⟩
  rw [show q_tr_raiseNumbers G t root en bg r sg nm sz f τ v S0 Es S M = q_tr_raiseNumbers G t root en bg r sg nm sz f τ v S0 Es S M0 by rw [hM0]]
  have hk : hm_kp (fun a => a ∈ [nm]) M0 M := by rw [hM0]; exact hm_kp.rf
  have L2 : ∀ (k : Nat) (st : Nat) (w : Nat → Int32) (M : hM) (H : Heap) (locs : List Loc) (ls : Array Slot), sz + 1 ≤ st + k → st ≤ sz → trH G M root τ → vMax (fun pl x => S pl x ∨ ∃ i, i < st ∧ ctr Es f sz i sz pl x) sz w → hm_has M [(t, .inr (2, [.ref root, .int (nI en), .int (nI bg)])), (r, .inr (1, [.ref sg, .ref nm, .int (nI sz)])), (sg, aI G 65 f), (nm, aI G 66 w)] → hm_kp (fun a => a ∈ [nm]) M0 M → hm_I G.1 vwC A s.heap M H locs → lv_has ls 3 [(2, .int (nI st)), (0, .ref t), (1, .ref r)] → W p l e { frames := 5, cells := 0, slots := 0, locals := 112 } s m ([.ref t, .ref r] : List Value).toArray below meth c H locs 0 0 (MQ below (hm_Q G.1 vwC (q_tr_raiseNumbers G t root en bg r sg nm sz f τ v S0 Es S M0) A) ([.ref t, .ref r] : List Value).toArray s 0 0 A) (F0 m 2 ls []) := by
    intro k
    induction k with
    | zero => intro st w M H locs ls hfu hst htr hvm; exact absurd hfu (by omega)
    | succ k ih =>
      intro st w M H locs ls hfu hst htr hvm hw hk hH hl
      refine lv_iload_n hx hb d_tr_raiseNumbers_2 rfl (lv_at hl 0 rfl) ?_
      refine lv_aload_n hx hb d_tr_raiseNumbers_3 rfl (lv_at hl 2 rfl) ?_
      have hM1 := c_rw_size l G r sg nm sz M (hw.sub (ws' := [(r, cRw sg nm sz)]) [1] rfl rfl) H.size
      have hG1 : GoodIn w_tr_raiseNumbers (wsV R_tr 25 R_rw y_rw_size w_rw_size) := gB_V wm_258 wm_115 wm_116 wm_4 wm_117
      refine hm_call (va_runV (y := y_rw_size) (bytes := b_rw_size) (maxL := 1) (ws := w_rw_size) (rm := { frames := 0, cells := 0, slots := 0, locals := 0 }) (own := R_tr) (index := 25) (ret := (Option.some Jvm.ClassFile.FieldType.int)) (C := R_rw) (As := []) (rest := [.int (nI st)]) E hM1 (cwV (y := y_rw_size) (bytes := b_rw_size) (maxL := 1) (ws := w_rw_size) (rm := { frames := 0, cells := 0, slots := 0, locals := 0 }) (own := R_tr) (index := 25) (ret := (Option.some Jvm.ClassFile.FieldType.int)) (C := R_rw) 0 hts hG1 rfl rfl rfl (by decide +kernel) ⟨Nat.le_of_ble_eq_true rfl, Nat.le_of_ble_eq_true rfl⟩) (hm_preV gk_w gk_s hH hg hK (hw.at 1 rfl) rfl []) rfl rfl hl.1 rfl (lv_room (Nat.le_of_ble_eq_true rfl)) d_tr_raiseNumbers_4 ⟨(by show _ ≤ 0; omega), (by show _ ≤ 0; omega)⟩) hH (fun r1 M1 H1 locs1 hq1 hH1 => ?_)
      obtain ⟨rfl, e1⟩ := hq1
      replace hH := hH1; rw [e1] at hH; clear hH1 e1; generalize H1 = H at hH ⊢; generalize locs1 = locs at hH ⊢
      refine hn_icmp_ge (a := st) (b := sz) hx hb (by omega) (by omega) (tgt := 22) d_tr_raiseNumbers_7 (by decide) (fun h7 => ?_) (fun h7 => ?_)
      · skip
        have hse : st = sz := by omega
        rw [hse] at hvm
        exact hm_vret E hr hlk hH (⟨rfl, w, hw, hvm, hk⟩) (by omega) (by omega) d_tr_raiseNumbers_22
      · skip
        refine lv_aload_n hx hb d_tr_raiseNumbers_10 rfl (lv_at hl 1 rfl) ?_
        refine lv_iload_n hx hb d_tr_raiseNumbers_11 rfl (lv_at hl 0 rfl) ?_
        refine lv_aload_n hx hb d_tr_raiseNumbers_12 rfl (lv_at hl 2 rfl) ?_
        have hM1 := c_tr_raiseNumbersFrom l G t root en bg r sg nm sz f τ w S0 Es (fun pl x => S pl x ∨ ∃ i, i < st ∧ ctr Es f sz i sz pl x) st M hw htr hsz hI hC hSE hU hnn hnm hvm hst H.size
        have hG1 : GoodIn w_tr_raiseNumbers (wsV R_tr 50 R_tr y_tr_raiseNumbersFrom w_tr_raiseNumbersFrom) := gB_V wm_341 wm_343 wp_8 wm_2 wm_344
        refine hm_call (va_runV (y := y_tr_raiseNumbersFrom) (bytes := b_tr_raiseNumbersFrom) (maxL := 5) (ws := w_tr_raiseNumbersFrom) (rm := { frames := 4, cells := 0, slots := 0, locals := 88 }) (own := R_tr) (index := 50) (ret := (Option.none : Option Jvm.ClassFile.FieldType)) (C := R_tr) (As := [.int (nI st), .ref r]) (rest := []) E hM1 (cwV (y := y_tr_raiseNumbersFrom) (bytes := b_tr_raiseNumbersFrom) (maxL := 5) (ws := w_tr_raiseNumbersFrom) (rm := { frames := 4, cells := 0, slots := 0, locals := 88 }) (own := R_tr) (index := 50) (ret := (Option.none : Option Jvm.ClassFile.FieldType)) (C := R_tr) 2 hts hG1 rfl rfl rfl (by decide +kernel) ⟨Nat.le_of_ble_eq_true rfl, Nat.le_of_ble_eq_true rfl⟩) (hm_preV gk_w gk_s hH hg hK (hw.at 0 rfl) rfl [.int (nI st), .ref r]) rfl rfl hl.1 rfl (lv_room (Nat.le_of_ble_eq_true rfl)) d_tr_raiseNumbers_13 ⟨(by show _ ≤ 0; omega), (by show _ ≤ 0; omega)⟩) hH (fun r1 M1 H1 locs1 hq1 hH1 => ?_)
        replace hH := hH1; clear hH1; generalize H1 = H at hH ⊢; generalize locs1 = locs at hH ⊢
        have hwn := hw.at 3 rfl
        obtain ⟨rfl, w2, hw, hvm1, hk1⟩ := hq1
        have hvm2 := vMax_ext (T := fun pl x => S pl x ∨ ∃ i, i < st + 1 ∧ ctr Es f sz i sz pl x) hvm1 (fun pl x _ => rz_or)
        have hk := hk.tr hk1 (fun _ h => h)
        have htr := htr.kept hk1 (fun b hb z => by
          have z : b = nm := by simpa using z
          have h1 := htr.2.1 b hb
          rw [z, hwn] at h1
          simp at h1) (fun b hb x hx z => hnm b hb x hx (by simpa using z))
        generalize M1 = M at hH hw hk htr
        refine lv_iinc (v := nI (st + 1)) (lv' := [(2, .int (nI (st + 1))), (0, .ref t), (1, .ref r)]) hx hb d_tr_raiseNumbers_16 hl (k := 0) rfl (by first | exact nI_add _ 1 | (show nI _ + nI _ = _; rw [nI_add])) (by decide) rfl (fun ls hl => ?_)
        refine lv_goto (tgt := 2) hx hb d_tr_raiseNumbers_19 (by decide) ?_
        exact ih (st + 1) w2 M _ _ _ (by omega) (by omega) htr hvm2 hw hk hH (lv_sub hl [0, 1, 2] rfl)
  refine lv_iconst (v := 0) hx hb d_tr_raiseNumbers_0 (by decide) ?_
  refine lv_istore_n (lv' := [(2, .int 0), (0, .ref t), (1, .ref r)]) hx hb d_tr_raiseNumbers_1 rfl hl (by decide) rfl (fun ls hl => ?_)
  exact L2 (sz + 1) 0 v M _ _ _ (by omega) (by omega) htr (vMax_ext hvm (fun pl x _ => ⟨fun z => z.elim id (fun ⟨i, h9, _⟩ => absurd h9 (by omega)), Or.inl⟩)) hw hk hH (lv_sub hl [0, 1, 2] rfl)
