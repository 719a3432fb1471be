theorem sub4_toInt {n : Nat} (h : n < 2 ^ 20) : (nI n - 4).toInt = (n : Int) - 4 := pk_sub_toInt (b := 4) (by omega) (by decide)
set_option maxHeartbeats 4000000 in
set_option maxRecDepth 100000 in
/-- THE LAW'S LOOP: at its head, with T calls made, the class and the model agree -/
theorem law_loop {p : Program} {l : Launch} {e : Env} {s : State} {m : MethodId} {below : List Frame} {meth : Method} {c : Code} {b L : Nat} {xs : Nat → Int32} {G : hG} {x y d be sg nu fi le pl rw va out : Nat} (hr : meth.sig.returnType = ret) (hlocks : meth.locks = false) (E : CallFix p m c b_lw_law 8 s #[Value.ref b] w_lw_law "HyphenBookLaw") (hst : l.stackTraces = false) (hgy : gy G s) (hZ : zqs (fun q : Nat => s.heap.size ≤ q) s s.heap) (hX : va_X b L xs s s.heap) (hbl : b < s.heap.size) (hL : L ≤ 2048) :
    ∀ (n T : Nat), 513 ≤ T + n → T ≤ 512 → ∀ (M : hM) (H : Heap) (locs : List Loc) (ls : Array Slot), hm_I G.1 vwC (fun q : Nat => s.heap.size ≤ q) s.heap M H locs → lwI G T x y d be sg nu fi le pl rw va out M → lv_has ls 8 [(0, .ref b), (1, .ref x), (2, .ref y), (3, .ref out), (4, .int (nI (4 * T)))] → W p l e room_1 s m #[Value.ref b] below meth c H locs (23 + 66 * T) (141333 + 326 * T) (lw_Z below #[Value.ref b] s) (F0 m 23 ls []) := by
  have hx := E.1; have hb := E.2.1; have hml := E.2.2.1; have hown := E.2.2.2.1; have hts := E.2.2.2.2; have hgx := hgy.1; have hg := hgx.1; have hK := hg.1
  intro n
  induction n with
  | zero =>
    intro T h1 h2
    exact absurd h1 (by omega)
  | succ n ih =>
    intro T hTn hT5 M H locs ls hH hJ hl
    refine lv_iload hx hb d_lw_law_23 (lv_at hl 4 rfl) ?_
    refine lv_aload_n hx hb d_lw_law_25 rfl (lv_at hl 0 rfl) ?_
    refine sw_len E hX hbl hH d_lw_law_26 ?_
    refine lv_iconst (v := 4) hx hb d_lw_law_27 (by decide) ?_
    refine lv_isub hx hb d_lw_law_28 ?_
    refine hr_icmp_gt (x := nI (4 * T)) (y := (nI L) - 4) (c9 := ((nI L) - 4).toInt) hx hb rfl (tgt := 373) d_lw_law_29 (by decide) (fun hc => ?_) (fun hc => ?_)
    · skip
      skip
      refine lv_iconst (v := 1) hx hb d_lw_law_373 (by decide) ?_
      refine va_forget (fun q hq => hH.2.2.1.2.2 q hq) ?_
      refine W.widen (k := 601024) (n := 7293034) (by omega) (by omega) ?_
      exact lw_ret hx hb hr hlocks d_lw_law_374
    · skip
      have hT : 4 * T + 4 ≤ L := by
        rw [nI_toInt (by omega), sub4_toInt (by omega)] at hc
        omega
      have tail : ∀ (M : hM) (H : Heap) (locs : List Loc) (ls : Array Slot), hm_I G.1 vwC (fun q : Nat => s.heap.size ≤ q) s.heap M H locs → lwI G (T + 1) x y d be sg nu fi le pl rw va out M → lv_has ls 8 [(0, .ref b), (1, .ref x), (2, .ref y), (3, .ref out), (4, .int (nI (4 * T)))] → W p l e room_1 s m #[Value.ref b] below meth c H locs (23 + 66 * (T + 1)) (141333 + 326 * (T + 1)) (lw_Z below #[Value.ref b] s) (F0 m 367 ls []) := by
        intro M H locs ls hH hJ hl
        refine lv_iinc (v := nI ((4 * T) + 4)) (lv' := [(4, .int (nI ((4 * T) + 4))), (0, .ref b), (1, .ref x), (2, .ref y), (3, .ref out)]) hx hb d_lw_law_367 hl (k := 4) rfl (by first | exact nI_add _ 4 | (show nI _ + nI _ = _; rw [nI_add])) (by decide) rfl (fun ls hl => ?_)
        have hl : lv_has ls 8 [(4, .int (nI (4 * (T + 1)))), (0, .ref b), (1, .ref x), (2, .ref y), (3, .ref out)] := hl
        refine lv_goto (tgt := 23) hx hb d_lw_law_370 (by decide) ?_
        exact ih (T + 1) (by omega) (by omega) M H locs ls hH hJ (lv_sub hl [1, 2, 3, 4, 0] rfl)
      refine lv_aload_n hx hb d_lw_law_32 rfl (lv_at hl 0 rfl) ?_
      refine lv_iload hx hb d_lw_law_33 (lv_at hl 4 rfl) ?_
      refine sw_ld E hX hbl hL hH (k := 4 * T) (by omega) d_lw_law_35 ?_
      refine lv_bipush (v := 7) hx hb d_lw_law_36 (by decide) ?_
      obtain ⟨kq, hkq⟩ : ∃ z : Int32, z = xs (4 * T) &&& 7 := ⟨_, rfl⟩
      refine lv_iand hx hb d_lw_law_38 ?_
      refine hm_top (w := .int kq) (by rw [hkq]) ?_
      by_cases k0 : kq = 0
      · subst k0
        refine lv_tableIn (x := 0) (off := 41) (tgt := 80) hx hb d_lw_law_39 (by decide) (by decide) (by decide) (by decide) ?_
        exact law_put E hst hgy hZ hX hbl hL hT M H locs ls hH hJ hl tail
      · skip
        by_cases k1 : kq = 1
        · subst k1
          refine lv_tableIn (x := 1) (off := 110) (tgt := 149) hx hb d_lw_law_39 (by decide) (by decide) (by decide) (by decide) ?_
          exact law_pattern E hst hgy hZ hX hbl hL hT M H locs ls hH hJ hl tail
        · skip
          by_cases k2 : kq = 2
          · subst k2
            refine lv_tableIn (x := 2) (off := 154) (tgt := 193) hx hb d_lw_law_39 (by decide) (by decide) (by decide) (by decide) ?_
            exact law_exception E hst hgy hZ hX hbl hL hT M H locs ls hH hJ hl tail
          · skip
            by_cases k3 : kq = 3
            · subst k3
              refine lv_tableIn (x := 3) (off := 198) (tgt := 237) hx hb d_lw_law_39 (by decide) (by decide) (by decide) (by decide) ?_
              exact law_word E hst hgy hZ hX hbl hL hT M H locs ls hH hJ hl tail
            · skip
              by_cases k4 : kq = 4
              · subst k4
                refine lv_tableIn (x := 4) (off := 241) (tgt := 280) hx hb d_lw_law_39 (by decide) (by decide) (by decide) (by decide) ?_
                exact law_least E hst hgy hZ hX hbl hL hT M H locs ls hH hJ hl tail
              · skip
                by_cases k5 : kq = 5
                · subst k5
                  refine lv_tableIn (x := 5) (off := 278) (tgt := 317) hx hb d_lw_law_39 (by decide) (by decide) (by decide) (by decide) ?_
                  exact law_value E hst hgy hZ hX hbl hL hT M H locs ls hH hJ hl tail
                · skip
                  by_cases k6 : kq = 6
                  · subst k6
                    refine lv_tableIn (x := 6) (off := 303) (tgt := 342) hx hb d_lw_law_39 (by decide) (by decide) (by decide) (by decide) ?_
                    exact law_count E hst hgy hZ hX hbl hL hT M H locs ls hH hJ hl tail
                  · skip
                    have q0 : (kq).toInt ≠ 0 := fun h => k0 (i32_eq.mpr (by rw [h]; decide))
                    have q1 : (kq).toInt ≠ 1 := fun h => k1 (i32_eq.mpr (by rw [h]; decide))
                    have q2 : (kq).toInt ≠ 2 := fun h => k2 (i32_eq.mpr (by rw [h]; decide))
                    have q3 : (kq).toInt ≠ 3 := fun h => k3 (i32_eq.mpr (by rw [h]; decide))
                    have q4 : (kq).toInt ≠ 4 := fun h => k4 (i32_eq.mpr (by rw [h]; decide))
                    have q5 : (kq).toInt ≠ 5 := fun h => k5 (i32_eq.mpr (by rw [h]; decide))
                    have q6 : (kq).toInt ≠ 6 := fun h => k6 (i32_eq.mpr (by rw [h]; decide))
                    refine lv_tableOut (tgt := 367) hx hb d_lw_law_39 (by omega) (by decide) ?_
                    obtain ⟨dr, dn, lf, rt, P, bg, X, ak, an, av, th, ln, fb, fs, fn, ff, fl, fr, fv, fp, fo, o, ox, hR, hw, hI, hV⟩ := hJ
                    refine W.widen (k := 23 + 66 * (T + 1)) (n := 141333 + 326 * (T + 1)) (by omega) (by omega) ?_
                    exact tail M H locs ls hH ⟨dr, dn, lf, rt, P, bg, X, ak, an, av, th, ln, fb, fs, fn, ff, fl, fr, fv, fp, fo, o, ox, hR, hw, hI.same (Nat.le_refl _), hV.same (Nat.le_refl _)⟩ hl
theorem bkR.reK2 {G : hG} {K K2 : Nat → Prop} {x : Nat} {dr : Nat → Int32} {dn lf rt : Nat} {P : List rwT} {bg : Nat} {X : List rwT} {ak : Bool} {an : Nat} {av : Nat → Int32} {M : hM} (h : bkR G K x dr dn lf rt P bg X ak an av M) (hK : ∀ a, K2 a → K a ∨ M a = none) : bkR G K2 x dr dn lf rt P bg X ak an av M := by
  obtain ⟨d, pt, xt, rr, ar, pro, xro, xbg, rsg, rnm, rsz, asg, anm, rf, rg, af, τp, τx, hw, h1, h2, h3, h4, h5, h6, h7⟩ := h
  have key : ∀ {a : Nat} {e : va_E}, ¬ K a → M a = some e → ¬ K2 a := fun hn he hk => by
    rcases hK _ hk with z | z
    · exact hn z
    · rw [z] at he
      cases he
  refine ⟨d, pt, xt, rr, ar, pro, xro, xbg, rsg, rnm, rsz, asg, anm, rf, rg, af, τp, τx, hw, h1, h2, ⟨fun a ha => key (h3.1 a ha) (h1.1.2.1 a ha), fun a ha q hq => ⟨key (h3.2 a ha q hq).1 (h1.1.2.2.2.2 a ha q hq), (h3.2 a ha q hq).2⟩⟩, ⟨fun a ha => key (h4.1 a ha) (h2.1.2.1 a ha), fun a ha q hq => ⟨key (h4.2 a ha q hq).1 (h2.1.2.2.2.2 a ha q hq), (h4.2 a ha q hq).2⟩⟩, h5, ?_, h7⟩
  simp only [List.forall_mem_cons] at h6 ⊢
  obtain ⟨g0, g1, g2, g3, g4, g5, g6, g7, g8, g9, -⟩ := h6
  exact ⟨key g0 (hw.at 0 rfl), key g1 (hw.at 1 rfl), key g2 (hw.at 2 rfl), key g3 (hw.at 3 rfl), key g4 (hw.at 4 rfl), key g5 (hw.at 5 rfl), key g6 (hw.at 6 rfl), key g7 (hw.at 7 rfl), key g8 (hw.at 8 rfl), key g9 (hw.at 9 rfl), fun _ h => absurd h List.not_mem_nil⟩
set_option maxHeartbeats 4000000 in
set_option maxRecDepth 100000 in
/-- from the entry, for every script of at most 2048 ints, the law comes to its end with true -/
theorem whole_start {p : Program} {e : Env} {s : State} {m : MethodId} {below : List Frame} {meth : Method} {c : Code} (l : Launch) (hst : l.stackTraces = false) {b L : Nat} {xs : Nat → Int32} (hL : L ≤ 2048) (C0 : lw_At p s m meth c b L xs) : W p l e room_1 s m #[Value.ref b] below meth c s.heap [] 0 0 (lw_Z below #[Value.ref b] s) (entryFrame m ([Value.ref b] : List Value).toArray 8) := by
  obtain ⟨G, hgy, hZ⟩ := lw_gy C0
  obtain ⟨hx, hb, hr, hml, hown, hts, hX, hbl, hlocks, hgv⟩ := id C0
  have E : CallFix p m c b_lw_law 8 s #[Value.ref b] w_lw_law "HyphenBookLaw" := ⟨hx, hb, hml, hown, fun w hw => by
    rcases List.mem_cons.mp hw with rfl | hw
    · exact hts _ (lwB_in _ wm_1)
    · exact hts _ (lwB_in _ hw)⟩
  have hts := E.2.2.2.2; have hown := E.2.2.2.1; have hgx := hgy.1; have hg := hgx.1; have hK := hg.1
  have hl := lv_entry ([.ref b]) (n := 8) (Nat.le_of_ble_eq_true rfl)
  rw [lg_entry_eq]
  generalize (lg_sl ([.ref b]) ++ List.replicate (8 - (lg_sl ([.ref b])).length) Slot.unset).toArray = ls at hl ⊢
  have hl : lv_has ls 8 [(0, .ref b)] := hl
  obtain ⟨M, hM⟩ : ∃ M : hM, M = fun _ => none := ⟨_, rfl⟩
  have hH : hm_I G.1 vwC (fun q : Nat => s.heap.size ≤ q) s.heap M s.heap [] := by
    subst hM
    exact ⟨fun a e h => (by cases h), fun a e h => (by cases h), va_S.rf, fun q h => h⟩
  have hw : hm_has M [] := ⟨List.nodup_nil, fun q h => (by cases h)⟩
  refine hm_new E (tB in_bk) t_bk tk_bk (tC wm_12) (tC wm_13) (tC wm_1) (ci := 3) hK hH rfl (fs := [.null, .int 0, .int 0, .int 0, .null, .null, .null, .null]) (by decide) (by show _ ≤ 601024; omega) (by show _ ≤ 7293034; omega) d_lw_law_0 (fun x H hqx hH => ?_)
  have hw := hw.push (ws' := [(x, .inr (3, [.null, .int 0, .int 0, .int 0, .null, .null, .null, .null]))]) hqx rfl
  generalize va_up M x (some (.inr (3, [.null, .int 0, .int 0, .int 0, .null, .null, .null, .null]))) = M at hH hw ⊢
  refine lv_dup hx hb d_lw_law_3 rfl ?_
  have hM1 := c_bk_init l G x (fun _ => False) M hw (fun h => h) (fun a h => h.elim) H.size
  have hG1 : GoodIn w_lw_law w_bk_init := gB_0 wm_16
  refine hm_call (va_runI (y := y_bk_init) (bytes := b_bk_init) (maxL := 1) (ws := w_bk_init) (rm := { frames := 3, cells := 11, slots := 482, locals := 53 }) (own := "HyphenBookLaw") (index := 24) (As := []) (rest := [.ref x]) E hM1 (cwI (y := y_bk_init) (bytes := b_bk_init) (maxL := 1) (ws := w_bk_init) (rm := { frames := 3, cells := 11, slots := 482, locals := 53 }) (own := "HyphenBookLaw") (index := 24) 0 hts hG1 rfl rfl rfl (hts _ (tC wm_1)) (hts _ (tC wm_14)) (hts _ (tC wm_15)) rfl (by decide +kernel) ⟨Nat.le_of_ble_eq_true rfl, Nat.le_of_ble_eq_true rfl⟩) (hm_preS gk_w gk_s hH hg (.ref x :: [])) rfl rfl hl.1 rfl (lv_room (Nat.le_of_ble_eq_true rfl)) d_lw_law_4 ⟨(by show _ ≤ 601024; omega), (by show _ ≤ 7293034; omega)⟩) hH (fun r1 M1 H1 locs1 hq1 hH1 => ?_)
  replace hH := hH1; clear hH1; generalize H1 = H at hH ⊢; generalize locs1 = locs at hH ⊢
  obtain ⟨rfl, hR, hk1⟩ := hq1
  generalize M1 = M at hH hR ⊢
  have hw : hm_has M [] := ⟨List.nodup_nil, fun q h => (by cases h)⟩
  refine lv_astore_n (lv' := [(1, .ref x), (0, .ref b)]) hx hb d_lw_law_7 rfl hl (by decide) rfl (fun ls hl => ?_)
  refine hm_new E (tB in_md) t_md tk_md (tC wm_359) (tC wm_360) (tC wm_5) (ci := 4) hK hH rfl (fs := [.int 0, .int 0, .null, .int 0, .null, .null, .null, .int 0, .int 0, .null, .null, .null, .int 0, .int 0, .int 0, .null, .null, .int 0]) (by decide) (by show _ ≤ 601024; omega) (by show _ ≤ 7293034; omega) d_lw_law_8 (fun y H hqy hH => ?_)
  have hR := (hR.reK2 (K2 := fun a => a ∈ [y]) (fun a ha => Or.inr (by rw [List.mem_singleton.mp ha]; exact hqy))).kept (hm_kp.up (v := some (.inr (4, [.int 0, .int 0, .null, .int 0, .null, .null, .null, .int 0, .int 0, .null, .null, .null, .int 0, .int 0, .int 0, .null, .null, .int 0]))) (List.mem_singleton.mpr rfl))
  have hw := hw.push (ws' := [(y, .inr (4, [.int 0, .int 0, .null, .int 0, .null, .null, .null, .int 0, .int 0, .null, .null, .null, .int 0, .int 0, .int 0, .null, .null, .int 0]))]) hqy rfl
  generalize va_up M y (some (.inr (4, [.int 0, .int 0, .null, .int 0, .null, .null, .null, .int 0, .int 0, .null, .null, .null, .int 0, .int 0, .int 0, .null, .null, .int 0]))) = M at hH hw hR ⊢
  refine lv_dup hx hb d_lw_law_11 rfl ?_
  have hM1 := c_md_init l G y M hw H.size
  have hG1 : GoodIn w_lw_law w_md_init := gB_0 wm_363
  refine hm_call (va_runI (y := y_md_init) (bytes := b_md_init) (maxL := 1) (ws := w_md_init) (rm := { frames := 1, cells := 9, slots := 140824, locals := 12 }) (own := "HyphenBookLaw") (index := 27) (As := []) (rest := [.ref y]) E hM1 (cwI (y := y_md_init) (bytes := b_md_init) (maxL := 1) (ws := w_md_init) (rm := { frames := 1, cells := 9, slots := 140824, locals := 12 }) (own := "HyphenBookLaw") (index := 27) 0 hts hG1 rfl rfl rfl (hts _ (tC wm_5)) (hts _ (tC wm_361)) (hts _ (tC wm_362)) rfl (by decide +kernel) ⟨Nat.le_of_ble_eq_true rfl, Nat.le_of_ble_eq_true rfl⟩) (hm_preS gk_w gk_s hH hg (.ref y :: [])) rfl rfl hl.1 rfl (lv_room (Nat.le_of_ble_eq_true rfl)) d_lw_law_12 ⟨(by show _ ≤ 601024; omega), (by show _ ≤ 7293034; omega)⟩) hH (fun r1 M1 H1 locs1 hq1 hH1 => ?_)
  replace hH := hH1; clear hH1; generalize H1 = H at hH ⊢; generalize locs1 = locs at hH ⊢
  obtain ⟨rfl, d, be, sg, nu, fi, le, pl, rw, va, hnn, hw, hk1⟩ := hq1
  have hR := (hR.reK2 (K2 := fun a => a ∈ [y, d, be, sg, nu, fi, le, pl, rw, va]) (fun a ha => by
    simp only [List.mem_cons, List.not_mem_nil, or_false] at ha ⊢
    obtain ⟨n1, n2, n3, n4, n5, n6, n7, n8, n9⟩ := hnn
    rcases ha with rfl | rfl | rfl | rfl | rfl | rfl | rfl | rfl | rfl | rfl
    · exact Or.inl rfl
    all_goals (right; assumption))).kept (hk1.mono (fun a ha => by simp only [List.mem_cons, List.not_mem_nil, or_false] at ha ⊢; exact Or.inl ha))
  generalize M1 = M at hH hR hw ⊢
  refine lv_astore_n (lv' := [(2, .ref y), (1, .ref x), (0, .ref b)]) hx hb d_lw_law_15 rfl hl (by decide) rfl (fun ls hl => ?_)
  refine lv_iconst (v := 1) hx hb d_lw_law_16 (by decide) ?_
  refine hm_newaJ E (tC wm_422) hK hH 1 rfl (n := 1) (by decide) (by show _ ≤ 601024; omega) (by show _ ≤ 7293034; omega) d_lw_law_17 (fun out H hqout hH => ?_)
  have hR := (hR.reK2 (K2 := (fun a => a ∈ [y, d, be, sg, nu, fi, le, pl, rw, va, out])) (fun a ha => by
    simp only [List.mem_cons, List.not_mem_nil, or_false] at ha ⊢
    rcases ha with rfl | rfl | rfl | rfl | rfl | rfl | rfl | rfl | rfl | rfl | rfl
    all_goals first | (right; assumption) | (left; simp; done))).kept (hm_kp.up (a := out) (v := some (aJ G 1 (fun _ => 0))) (by simp))
  have hw := hw.push (ws' := [(y, .inr (4, [.int (nI 0), .int (nI 0), .ref d, .int (nI 0), .ref be, .ref sg, .ref nu, .int (nI 0), .int (nI 0), .ref fi, .ref le, .ref pl, .int (nI 2), .int (nI 3), .int (nI 0), .ref rw, .ref va, .int (bI false)])), (d, aI G 200 (fun _ => 0)), (be, aI G 8194 (fun _ => 0)), (sg, aI G 40000 (fun _ => 0)), (nu, aI G 48200 (fun _ => 0)), (fi, aI G 2050 (fun _ => 0)), (le, aI G 40000 (fun _ => 0)), (pl, aJ G 2048 (fun _ => 0)), (rw, aI G 66 (fun _ => 0)), (va, aI G 66 (fun _ => 0)), (out, aJ G 1 (fun _ => 0))]) hqout rfl
  generalize va_up M out (some (aJ G 1 (fun _ => 0))) = M at hH hw hR ⊢
  refine lv_astore_n (lv' := [(3, .ref out), (2, .ref y), (1, .ref x), (0, .ref b)]) hx hb d_lw_law_19 rfl hl (by decide) rfl (fun ls hl => ?_)
  refine lv_iconst (v := 0) hx hb d_lw_law_20 (by decide) ?_
  refine lv_istore (lv' := [(4, .int 0), (3, .ref out), (2, .ref y), (1, .ref x), (0, .ref b)]) hx hb d_lw_law_21 hl (by decide) rfl (fun ls hl => ?_)
  refine W.widen (k := 23 + 66 * 0) (n := 141333 + 326 * 0) (by omega) (by omega) ?_
  refine law_loop hr hlocks E hst hgy hZ hX hbl hL 513 0 (by omega) (by omega) M H _ ls hH ⟨(fun _ => 0), 0, 2, 3, [], 0, [], false, 0, (fun _ => 0), 0, 0, (fun _ => 0), (fun _ => 0), (fun _ => 0), (fun _ => 0), (fun _ => 0), (fun _ => 0), (fun _ => 0), (fun _ => 0), (fun _ => 0), (fun _ => 0), (fun _ => 0), hR, hw, ?_, ?_⟩ (lv_sub hl [4, 3, 2, 1, 0] rfl)
  · exact ⟨by omega, fun k => ⟨show 0 ≤ (0 : Int32).toInt by decide, show (0 : Int32).toInt ≤ 255 by decide⟩, by omega, by omega, by omega, by omega, Nat.le_refl _, Nat.le_refl _, fun r h => (by cases h), fun r h => (by cases h), fun r h => (by cases h), fun e e2 r r2 h => (by simp at h), fun h => (by cases h)⟩
  · exact ⟨⟨rfl, fun p hp => nI_0.symm, fun p r h => (by simp at h)⟩, ⟨rfl, fun p hp => nI_0.symm, fun p r h => (by simp at h)⟩, by omega, fun h => (by cases h), by simp, by simp, by simp⟩
