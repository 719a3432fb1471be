abbrev q_nd_init (G : hG) (q : Nat) (v : Int32) (M : hM) : Option Value → hM → Prop := fun rv M' => rv = none ∧ hm_has M' [(q, cNd v none none none)] ∧ hm_kp (fun a => a ∈ [q]) M M'
set_option maxHeartbeats 4000000 in
set_option maxRecDepth 100000 in
theorem c_nd_init (l : Launch) (G : hG) (q : Nat) (v : Int32) (M : hM) (hw : hm_has M [(q, .inr (0, [.int 0, .null, .null, .null]))]) : Ct (gk G) l G.1 vwC y_nd_init w_nd_init { frames := 1, cells := 0, slots := 0, locals := 12 } ([.ref q, .int v] : List Value) M (q_nd_init G q v M) 0 0 := by
  refine Ct.ofW (cc := b_nd_init) (maxL := 2) (ret := (Option.none : Option Jvm.ClassFile.FieldType)) (by decide) rfl (Nat.le_of_ble_eq_true rfl) (fun p e s m below meth c A ls E hr hlk hin hg hH hl => ?_)
  have hl : lv_has ls 2 [(0, .ref q), (1, .int v)] := hl
  have hx := E.1; have hb := E.2.1; have hml := E.2.2.1; have hown := E.2.2.2.1; have hts := E.2.2.2.2; have hK := hg.1
  obtain ⟨M0, hM0⟩ : ∃ M0 : hM, M0 = M := ⟨M, rfl⟩
  rw [show q_nd_init G q v M = q_nd_init G q v M0 by rw [hM0]]
  have hk : hm_kp (fun a => a ∈ [q]) M0 M := by rw [hM0]; exact hm_kp.rf
  refine lv_aload_n hx hb d_nd_init_0 rfl (lv_at hl 0 rfl) ?_
  refine W.objInit hx hb hown (hts _ (tC wm_31)) (hts _ (tC wm_18)) (hts _ (tC wm_19)) rfl (by rw [hml]; exact hl.1) rfl d_nd_init_1 (Nat.le_of_ble_eq_true rfl) (Nat.le_of_ble_eq_true rfl) ?_
  refine W.eq (g2 := F0 m 4 ls []) rfl ?_
  refine lv_aload_n hx hb d_nd_init_4 rfl (lv_at hl 0 rfl) ?_
  refine lv_null hx hb d_nd_init_5 ?_
  refine hm_put E (tB in_nd) t_nd tk_nd nm_nd hK hH (hw.at 0 rfl) rfl 1 (by decide) (tC wm_33) rfl rfl rfl (Nat.le_of_ble_eq_true rfl) (fs' := [.int 0, .null, .null, .null]) rfl d_nd_init_6 (fun H locs hH => ?_)
  have hw := hw.set (ws' := [(q, .inr (0, [.int 0, .null, .null, .null]))]) (k := 0) rfl rfl
  have hk := hk.wr (a := q) (v := some (.inr (0, [.int 0, .null, .null, .null]))) (by first | (right; assumption) | (left; simp; done))
  generalize va_up M q (some (.inr (0, [.int 0, .null, .null, .null]))) = M at hH hw hk ⊢
  refine lv_aload_n hx hb d_nd_init_9 rfl (lv_at hl 0 rfl) ?_
  refine lv_null hx hb d_nd_init_10 ?_
  refine hm_put E (tB in_nd) t_nd tk_nd nm_nd hK hH (hw.at 0 rfl) rfl 2 (by decide) (tC wm_34) rfl rfl rfl (Nat.le_of_ble_eq_true rfl) (fs' := [.int 0, .null, .null, .null]) rfl d_nd_init_11 (fun H locs hH => ?_)
  have hw := hw.set (ws' := [(q, .inr (0, [.int 0, .null, .null, .null]))]) (k := 0) rfl rfl
  have hk := hk.wr (a := q) (v := some (.inr (0, [.int 0, .null, .null, .null]))) (by first | (right; assumption) | (left; simp; done))
  generalize va_up M q (some (.inr (0, [.int 0, .null, .null, .null]))) = M at hH hw hk ⊢
  refine lv_aload_n hx hb d_nd_init_14 rfl (lv_at hl 0 rfl) ?_
  refine lv_null hx hb d_nd_init_15 ?_
  refine hm_put E (tB in_nd) t_nd tk_nd nm_nd hK hH (hw.at 0 rfl) rfl 3 (by decide) (tC wm_35) rfl rfl rfl (Nat.le_of_ble_eq_true rfl) (fs' := [.int 0, .null, .null, .null]) rfl d_nd_init_16 (fun H locs hH => ?_)
  have hw := hw.set (ws' := [(q, .inr (0, [.int 0, .null, .null, .null]))]) (k := 0) rfl rfl
  have hk := hk.wr (a := q) (v := some (.inr (0, [.int 0, .null, .null, .null]))) (by first | (right; assumption) | (left; simp; done))
  generalize va_up M q (some (.inr (0, [.int 0, .null, .null, .null]))) = M at hH hw hk ⊢
  refine lv_aload_n hx hb d_nd_init_19 rfl (lv_at hl 0 rfl) ?_
  refine lv_iload_n hx hb d_nd_init_20 rfl (lv_at hl 1 rfl) ?_
  refine hm_putF E (tB in_nd) t_nd tk_nd nm_nd hK hH (hw.at 0 rfl) rfl 0 (by decide) (tC wm_32) rfl hin rfl rfl rfl (Nat.le_of_ble_eq_true rfl) (fs' := [.int v, .null, .null, .null]) rfl d_nd_init_21 (fun H locs hH => ?_)
  have hw := hw.set (ws' := [(q, .inr (0, [.int v, .null, .null, .null]))]) (k := 0) rfl rfl
  have hk := hk.wr (a := q) (v := some (.inr (0, [.int v, .null, .null, .null]))) (by first | (right; assumption) | (left; simp; done))
  generalize va_up M q (some (.inr (0, [.int v, .null, .null, .null]))) = M at hH hw hk ⊢
  exact hm_vret E hr hlk hH (⟨rfl, hw, hk⟩) (by omega) (by omega) d_nd_init_24

abbrev q_nd_childWith (G : hG) (a : Nat) (v : Int32) (ns nu : Option Nat) (ch : List Nat) (sg : Nat → Int32) (c9 : Int32) (M : hM) : Option Value → hM → Prop := fun rv M' => rv = some (va_rf (ch.find? (fun b => decide (sg b = c9)))) ∧ M' = M
set_option maxHeartbeats 4000000 in
set_option maxRecDepth 100000 in
theorem c_nd_childWith (l : Launch) (G : hG) (a : Nat) (v : Int32) (ns nu : Option Nat) (ch : List Nat) (sg : Nat → Int32) (c9 : Int32) (M : hM) (ha : M a = some (cNd v ch.head? ns nu)) (hch : ∀ i b, ch[i]? = some b → ∃ fc nu9, M b = some (cNd (sg b) fc ch[i + 1]? nu9)) : Ct (gk G) l G.1 vwC y_nd_childWith w_nd_childWith { frames := 0, cells := 0, slots := 0, locals := 0 } ([.ref a, .int c9] : List Value) M (q_nd_childWith G a v ns nu ch sg c9 M) 0 0 := by
  refine Ct.ofW (cc := b_nd_childWith) (maxL := 3) (ret := (Option.some (Jvm.ClassFile.FieldType.object "HyphenBook$Node"))) (by decide) rfl (Nat.le_of_ble_eq_true rfl) (fun p e s m below meth c A ls E hr hlk hin hg hH hl => ?_)
  have hl : lv_has ls 3 [(0, .ref a), (1, .int c9)] := hl
  have hx := E.1; have hb := E.2.1; have hml := E.2.2.1; have hown := E.2.2.2.1; have hts := E.2.2.2.2; have hK := hg.1
  obtain ⟨M0, hM0⟩ : ∃ M0 : hM, M0 = M := ⟨M, rfl⟩
  rw [show q_nd_childWith G a v ns nu ch sg c9 M = q_nd_childWith G a v ns nu ch sg c9 M0 by rw [hM0]]
  have L5 : ∀ (k i : Nat) (H : Heap) (locs : List Loc) (ls : Array Slot), ch.length + 1 ≤ i + k → i ≤ ch.length → (∀ j, j < i → ∀ b, ch[j]? = some b → sg b ≠ c9) → hm_I G.1 vwC A s.heap M H locs → lv_has ls 3 [(2, va_rf ch[i]?), (0, .ref a), (1, .int c9)] → W p l e { frames := 0, cells := 0, slots := 0, locals := 0 } s m ([.ref a, .int c9] : List Value).toArray below meth c H locs 0 0 (MQ below (hm_Q G.1 vwC (q_nd_childWith G a v ns nu ch sg c9 M0) A) ([.ref a, .int c9] : List Value).toArray s 0 0 A) (F0 m 5 ls []) := by
    intro k
    induction k with
    | zero => intro i H locs ls h1 h2; exact absurd h1 (by omega)
    | succ k ih =>
      intro i H locs ls h1 h2 hno hH hl
      refine ho_aload_n hx hb d_nd_childWith_5 rfl (lv_at hl 0 rfl) ?_
      refine hm_ifnull (tgt := 27) hx hb d_nd_childWith_6 (by decide) (fun hnn => ?_) (fun y hnn => ?_)
      · skip
        have hno2 : ∀ j b, ch[j]? = some b → sg b ≠ c9 := fun j b hj => hno j (by have h5 := (List.getElem?_eq_some_iff.mp hj).1; have h6 := List.getElem?_eq_none_iff.mp hnn; omega) b hj
        refine lv_null hx hb d_nd_childWith_27 ?_
        exact hm_aret (x := none) E hr (Or.inl ⟨_, rfl⟩) hlk hH (⟨by rw [find_none hno2], hM0.symm⟩) (by omega) (by omega) d_nd_childWith_28
      · skip
        have hl : lv_has ls 3 [(2, .ref y), (0, .ref a), (1, .int c9)] := by rw [hnn] at hl; exact hl
        obtain ⟨fc9, nu9, hy⟩ := hch i y hnn
        refine lv_aload_n hx hb d_nd_childWith_9 rfl (lv_at hl 0 rfl) ?_
        refine hm_get E (tB in_nd) hK hH hy rfl 0 (by decide) (tC wm_32) rfl d_nd_childWith_10 ?_
        refine lv_iload_n hx hb d_nd_childWith_13 rfl (lv_at hl 2 rfl) ?_
        refine hr_icmp_ne (x := sg y) (y := c9) hx hb (tgt := 19) d_nd_childWith_14 (by decide) (fun h14 => ?_) (fun h14 => ?_)
        · skip
          refine lv_aload_n hx hb d_nd_childWith_19 rfl (lv_at hl 0 rfl) ?_
          refine hm_get E (tB in_nd) hK hH hy rfl 2 (by decide) (tC wm_34) rfl d_nd_childWith_20 ?_
          refine ho_astore_n (lv' := [(2, va_rf (ch[i + 1]?)), (0, .ref a), (1, .int c9)]) hx hb d_nd_childWith_23 rfl hl (by decide) rfl (fun ls hl => ?_)
          refine lv_goto (tgt := 5) hx hb d_nd_childWith_24 (by decide) ?_
          exact ih (i + 1) _ _ _ (by omega) (by have := (List.getElem?_eq_some_iff.mp hnn).1; omega) (fun j hj b hb2 => by
            by_cases hji : j = i
            · subst hji; rw [hnn] at hb2; cases hb2; exact h14
            · exact hno j (by omega) b hb2) hH (lv_sub hl [0, 1, 2] rfl)
        · skip
          refine lv_aload_n hx hb d_nd_childWith_17 rfl (lv_at hl 0 rfl) ?_
          exact hm_aret (x := some y) E hr (Or.inl ⟨_, rfl⟩) hlk hH (⟨by rw [find_some hnn h14 hno], hM0.symm⟩) (by omega) (by omega) d_nd_childWith_18
  refine lv_aload_n hx hb d_nd_childWith_0 rfl (lv_at hl 0 rfl) ?_
  refine hm_get E (tB in_nd) hK hH ha rfl 1 (by decide) (tC wm_33) rfl d_nd_childWith_1 ?_
  rw [List.head?_eq_getElem?]
  refine ho_astore_n (lv' := [(2, va_rf (ch[0]?)), (0, .ref a), (1, .int c9)]) hx hb d_nd_childWith_4 rfl hl (by decide) rfl (fun ls hl => ?_)
  exact L5 (ch.length + 1) 0 _ _ _ (by omega) (by omega) (fun j hj => absurd hj (by omega)) hH (lv_sub hl [0, 1, 2] rfl)

abbrev q_nd_newChild (G : hG) (a : Nat) (v : Int32) (fc ns nu : Option Nat) (c9 : Int32) (M : hM) : Option Value → hM → Prop := fun rv M' => ∃ q, rv = some (.ref q) ∧ M q = none ∧ hm_has M' [(a, cNd v (some q) ns nu), (q, cNd c9 none fc none)] ∧ hm_kp (fun b => b ∈ [a]) M M'
set_option maxHeartbeats 4000000 in
set_option maxRecDepth 100000 in
theorem c_nd_newChild (l : Launch) (G : hG) (a : Nat) (v : Int32) (fc ns nu : Option Nat) (c9 : Int32) (M : hM) (hw : hm_has M [(a, cNd v fc ns nu)]) : Ct (gk G) l G.1 vwC y_nd_newChild w_nd_newChild { frames := 2, cells := 1, slots := 4, locals := 33 } ([.ref a, .int c9] : List Value) M (q_nd_newChild G a v fc ns nu c9 M) 1 4 := by
  refine Ct.ofW (cc := b_nd_newChild) (maxL := 3) (ret := (Option.some (Jvm.ClassFile.FieldType.object "HyphenBook$Node"))) (by decide) rfl (Nat.le_of_ble_eq_true rfl) (fun p e s m below meth c A ls E hr hlk hin hg hH hl => ?_)
  have hl : lv_has ls 3 [(0, .ref a), (1, .int c9)] := hl
  have hx := E.1; have hb := E.2.1; have hml := E.2.2.1; have hown := E.2.2.2.1; have hts := E.2.2.2.2; have hK := hg.1
  obtain ⟨M0, hM0⟩ : ∃ M0 : hM, M0 = M := ⟨M, rfl⟩
  rw [show q_nd_newChild G a v fc ns nu c9 M = q_nd_newChild G a v fc ns nu c9 M0 by rw [hM0]]
  have hk : hm_kp (fun b => b ∈ [a]) M0 M := by rw [hM0]; exact hm_kp.rf
  refine hm_new E (tB in_nd) t_nd tk_nd (tC wm_295) (tC wm_27) (tC wm_3) (ci := 0) hK hH rfl (fs := [.int 0, .null, .null, .null]) (by decide) (by show _ ≤ 1; omega) (by show _ ≤ 4; omega) d_nd_newChild_0 (fun q H hqq hH => ?_)
  have hw := hw.push (ws' := [(a, .inr (0, [.int v, va_rf fc, va_rf ns, va_rf nu])), (q, .inr (0, [.int 0, .null, .null, .null]))]) hqq rfl
  have hk := hk.tr (hm_kp.new (S := fun b => b ∈ [a]) (v := some (.inr (0, [.int 0, .null, .null, .null]))) hqq) (fun _ h => h)
  generalize va_up M q (some (.inr (0, [.int 0, .null, .null, .null]))) = M at hH hw hk ⊢
  have hq9 : M0 q = none := by rw [hM0]; exact hqq
  refine lv_dup hx hb d_nd_newChild_3 rfl ?_
  refine lv_iload_n hx hb d_nd_newChild_4 rfl (lv_at hl 1 rfl) ?_
  have hM1 := c_nd_init l G q c9 M (hw.sub (ws' := [(q, .inr (0, [.int 0, .null, .null, .null]))]) [1] rfl rfl) H.size
  have hG1 : GoodIn w_nd_newChild w_nd_init := gB_0 wm_30
  refine hm_call (va_runI (y := y_nd_init) (bytes := b_nd_init) (maxL := 2) (ws := w_nd_init) (rm := { frames := 1, cells := 0, slots := 0, locals := 12 }) (own := R_nd) (index := 24) (As := [.int c9]) (rest := [.ref q]) E hM1 (cwI (y := y_nd_init) (bytes := b_nd_init) (maxL := 2) (ws := w_nd_init) (rm := { frames := 1, cells := 0, slots := 0, locals := 12 }) (own := R_nd) (index := 24) 1 hts hG1 rfl rfl rfl (hts _ (tC wm_3)) (hts _ (tC wm_296)) (hts _ (tC wm_29)) rfl (by decide +kernel) ⟨Nat.le_of_ble_eq_true rfl, Nat.le_of_ble_eq_true rfl⟩) (hm_preS gk_w gk_s hH hg (.ref q :: [.int c9])) rfl rfl hl.1 rfl (lv_room (Nat.le_of_ble_eq_true rfl)) d_nd_newChild_5 ⟨(by show _ ≤ 1; omega), (by show _ ≤ 4; omega)⟩) hH (fun r1 M1 H1 locs1 hq1 hH1 => ?_)
  replace hH := hH1; clear hH1; generalize H1 = H at hH ⊢; generalize locs1 = locs at hH ⊢
  obtain ⟨rfl, hw1, hk1⟩ := hq1
  have hw := hm_join (ws' := [(a, .inr (0, [.int v, va_rf fc, va_rf ns, va_rf nu])), (q, .inr (0, [.int c9, .null, .null, .null]))]) (wc := [(q, .inr (0, [.int 0, .null, .null, .null]))]) hw hw1 hk1 [1] rfl rfl (fun _ h => h) rfl (by
    intro k9 h9
    match k9, h9 with
    | 0, _ => exact Or.inl ⟨by decide, rfl⟩
    | 1, _ => exact Or.inr ⟨0, rfl, rfl⟩
    | k9 + 2, h9 => exact absurd h9 (Nat.not_lt_of_le (Nat.le_add_left _ _)))
  have hk := hk.tr9 hk1 hq9
  generalize M1 = M at hH hw hk
  refine lv_astore_n (lv' := [(2, .ref q), (0, .ref a), (1, .int c9)]) hx hb d_nd_newChild_8 rfl hl (by decide) rfl (fun ls hl => ?_)
  refine lv_aload_n hx hb d_nd_newChild_9 rfl (lv_at hl 0 rfl) ?_
  refine lv_aload_n hx hb d_nd_newChild_10 rfl (lv_at hl 1 rfl) ?_
  refine hm_get E (tB in_nd) hK hH (hw.at 0 rfl) rfl 1 (by decide) (tC wm_33) rfl d_nd_newChild_11 ?_
  refine hm_put E (tB in_nd) t_nd tk_nd nm_nd hK hH (hw.at 1 rfl) rfl 2 (by decide) (tC wm_34) rfl (hm_rfnar _) (hm_rffit _) (Nat.le_of_ble_eq_true rfl) (fs' := [.int c9, .null, va_rf fc, .null]) rfl d_nd_newChild_14 (fun H locs hH => ?_)
  have hw := hw.set (ws' := [(a, .inr (0, [.int v, va_rf fc, va_rf ns, va_rf nu])), (q, .inr (0, [.int c9, .null, va_rf fc, .null]))]) (k := 1) rfl rfl
  have hk := hk.wr (a := q) (v := some (.inr (0, [.int c9, .null, va_rf fc, .null]))) (by first | (right; assumption) | (left; simp; done))
  generalize va_up M q (some (.inr (0, [.int c9, .null, va_rf fc, .null]))) = M at hH hw hk ⊢
  refine lv_aload_n hx hb d_nd_newChild_17 rfl (lv_at hl 1 rfl) ?_
  refine lv_aload_n hx hb d_nd_newChild_18 rfl (lv_at hl 0 rfl) ?_
  refine hm_put E (tB in_nd) t_nd tk_nd nm_nd hK hH (hw.at 0 rfl) rfl 1 (by decide) (tC wm_33) rfl rfl rfl (Nat.le_of_ble_eq_true rfl) (fs' := [.int v, .ref q, va_rf ns, va_rf nu]) rfl d_nd_newChild_19 (fun H locs hH => ?_)
  have hw := hw.set (ws' := [(a, .inr (0, [.int v, .ref q, va_rf ns, va_rf nu])), (q, .inr (0, [.int c9, .null, va_rf fc, .null]))]) (k := 0) rfl rfl
  have hk := hk.wr (a := a) (v := some (.inr (0, [.int v, .ref q, va_rf ns, va_rf nu]))) (by first | (right; assumption) | (left; simp; done))
  generalize va_up M a (some (.inr (0, [.int v, .ref q, va_rf ns, va_rf nu]))) = M at hH hw hk ⊢
  refine lv_aload_n hx hb d_nd_newChild_22 rfl (lv_at hl 0 rfl) ?_
  exact hm_aret (x := some q) E hr (Or.inl ⟨_, rfl⟩) hlk hH (⟨q, rfl, hq9, hw, hk⟩) (by omega) (by omega) d_nd_newChild_23
