abbrev q_tr_enter (G : hG) (t root en bg r sg nm sz : Nat) (f : Nat → Int32) (τ : tau) (g : Nat → Int32) (S0 : (Nat → Int32) → Nat → Prop) (Es : List rwT) (dp : Nat) (M : hM) : Option Value → hM → Prop := fun rv M' => rv = none ∧ ∃ τ' Es', trH G M' root τ' ∧ trI (tst τ') root (fun x k => S0 x k ∨ (k ≤ sz ∧ ag x f k)) ∧ trC (tst τ') root (tnu τ') (tnv τ') Es' ∧ (((∀ r9 ∈ Es, ¬ sm r9 sz f) ∧ Es' = Es ++ [(sz, f, g)] ∧ hm_has M' [(t, .inr (2, [.ref root, .int (nI (en + 1)), .int (nI (bg + (sz - dp)))])), (r, .inr (1, [.ref sg, .ref nm, .int (nI sz)])), (sg, aI G 65 f), (nm, aI G 66 g)]) ∨ (∃ e r0, Es[e]? = some r0 ∧ sm r0 sz f ∧ Es' = Es.set e (sz, f, g) ∧ hm_has M' [(t, .inr (2, [.ref root, .int (nI en), .int (nI (bg + (sz - dp)))])), (r, .inr (1, [.ref sg, .ref nm, .int (nI sz)])), (sg, aI G 65 f), (nm, aI G 66 g)])) ∧ hm_kp (fun b => b = t ∨ b ∈ tL τ) M M' ∧ (∀ b ∈ tL τ', b ∈ tL τ ∨ M b = none) ∧ (∀ b ∈ tL τ', ∀ q, tnu τ' b = some q → (∃ b0 ∈ tL τ, tnu τ b0 = some q) ∨ M q = none)
set_option maxHeartbeats 4000000 in
set_option maxRecDepth 100000 in
theorem c_tr_enter (l : Launch) (G : hG) (t root en bg r sg nm sz : Nat) (f : Nat → Int32) (τ : tau) (g : Nat → Int32) (S0 : (Nat → Int32) → Nat → Prop) (Es : List rwT) (dp : Nat) (M : hM) (hw : hm_has M [(t, .inr (2, [.ref root, .int (nI en), .int (nI bg)])), (r, .inr (1, [.ref sg, .ref nm, .int (nI sz)])), (sg, aI G 65 f), (nm, aI G 66 g)]) (htr : trH G M root τ) (hsz : sz ≤ 65) (hbg : bg < 2 ^ 20) (hen : en < 2 ^ 20) (hdp : dp ≤ sz) (hd1 : ∃ a, twk (tst τ) root f dp = some a) (hd2 : dp = sz ∨ twk (tst τ) root f (dp + 1) = none) (hI : trI (tst τ) root S0) (hC : trC (tst τ) root (tnu τ) (tnv τ) Es) (hSE : ∀ x k, sE Es x k → S0 x k) : Ct (gk G) l G.1 vwC y_tr_enter w_tr_enter { frames := 3, cells := 66, slots := 326, locals := 55 } ([.ref t, .ref r] : List Value) M (q_tr_enter G t root en bg r sg nm sz f τ g S0 Es dp M) 66 326 := by
  refine Ct.ofW (cc := b_tr_enter) (maxL := 5) (ret := (Option.none : Option Jvm.ClassFile.FieldType)) (by decide) rfl (Nat.le_of_ble_eq_true rfl) (fun p e s m below meth c A ls E hr hlk hin hg hH hl => ?_)
  have hl : lv_has ls 5 [(0, .ref t), (1, .ref r)] := hl
  have hx := E.1; have hb := E.2.1; have hml := E.2.2.1; have hown := E.2.2.2.1; have hts := E.2.2.2.2; have hK := hg.1
  obtain ⟨M0, hM0⟩ : ∃ M0 : hM, M0 = M := ⟨M, rfl⟩
  rw [show q_tr_enter G t root en bg r sg nm sz f τ g S0 Es dp M = q_tr_enter G t root en bg r sg nm sz f τ g S0 Es dp M0 by rw [hM0]]
  have hk : hm_kp (fun b => b = t ∨ b ∈ tL τ) M0 M := by rw [hM0]; exact hm_kp.rf
  have L7 : ∀ (k : Nat) (i a bgi : Nat) (τ1 : tau) (M : hM) (H : Heap) (locs : List Loc) (ls : Array Slot), sz + 1 ≤ i + k → i ≤ sz → twk (tst τ1) root f i = some a → trH G M root τ1 → trI (tst τ1) root (fun x k9 => S0 x k9 ∨ (k9 ≤ i ∧ ag x f k9)) → trC (tst τ1) root (tnu τ1) (tnv τ1) Es → bgi = bg + (i - dp) → (∀ b ∈ tL τ1, b ∈ tL τ ∨ M0 b = none) → (∀ b ∈ tL τ, b ∈ tL τ1) → (∀ b ∈ tL τ1, ∀ q, tnu τ1 b = some q → ∃ b0 ∈ tL τ, tnu τ b0 = some q) → hm_has M [(t, .inr (2, [.ref root, .int (nI en), .int (nI bgi)])), (r, .inr (1, [.ref sg, .ref nm, .int (nI sz)])), (sg, aI G 65 f), (nm, aI G 66 g)] → hm_kp (fun b => b = t ∨ b ∈ tL τ) M0 M → hm_I G.1 vwC A s.heap M H locs → lv_has ls 5 [(3, .int (nI i)), (2, .ref a), (0, .ref t), (1, .ref r)] → W p l e { frames := 3, cells := 66, slots := 326, locals := 55 } s m ([.ref t, .ref r] : List Value).toArray below meth c H locs i (4 * i) (MQ below (hm_Q G.1 vwC (q_tr_enter G t root en bg r sg nm sz f τ g S0 Es dp M0) A) ([.ref t, .ref r] : List Value).toArray s 66 326 A) (F0 m 7 ls []) := by
    intro k
    induction k with
    | zero => intro i a bgi τ1 M H locs ls hfu hi hwk htr1 hI1 hC1 hbgi hLs hsub hnus; exact absurd hfu (by omega)
    | succ k ih =>
      intro i a bgi τ1 M H locs ls hfu hi hwk htr1 hI1 hC1 hbgi hLs hsub hnus hw hk hH hl
      have haL := twk_in htr1 hwk
      refine lv_iload_n hx hb d_tr_enter_7 rfl (lv_at hl 0 rfl) ?_
      refine lv_aload_n hx hb d_tr_enter_8 rfl (lv_at hl 3 rfl) ?_
      have hM1 := c_rw_size l G r sg nm sz M (hw.sub (ws' := [(r, cRw sg nm sz)]) [1] rfl rfl) H.size
      have hG1 : GoodIn w_tr_enter (wsV R_tr 25 R_rw y_rw_size w_rw_size) := gB_V wm_258 wm_115 wm_116 wm_4 wm_117
      refine hm_call (va_runV (y := y_rw_size) (bytes := b_rw_size) (maxL := 1) (ws := w_rw_size) (rm := { frames := 0, cells := 0, slots := 0, locals := 0 }) (own := R_tr) (index := 25) (ret := (Option.some Jvm.ClassFile.FieldType.int)) (C := R_rw) (As := []) (rest := [.int (nI i)]) E hM1 (cwV (y := y_rw_size) (bytes := b_rw_size) (maxL := 1) (ws := w_rw_size) (rm := { frames := 0, cells := 0, slots := 0, locals := 0 }) (own := R_tr) (index := 25) (ret := (Option.some Jvm.ClassFile.FieldType.int)) (C := R_rw) 0 hts hG1 rfl rfl rfl (by decide +kernel) ⟨Nat.le_of_ble_eq_true rfl, Nat.le_of_ble_eq_true rfl⟩) (hm_preV gk_w gk_s hH hg hK (hw.at 1 rfl) rfl []) rfl rfl hl.1 rfl (lv_room (Nat.le_of_ble_eq_true rfl)) d_tr_enter_9 ⟨(by show _ ≤ 66; omega), (by show _ ≤ 326; omega)⟩) hH (fun r1 M1 H1 locs1 hq1 hH1 => ?_)
      obtain ⟨rfl, e1⟩ := hq1
      replace hH := hH1; rw [e1] at hH; clear hH1 e1; generalize H1 = H at hH ⊢; generalize locs1 = locs at hH ⊢
      refine hn_icmp_ge (a := i) (b := sz) hx hb (by omega) (by omega) (tgt := 61) d_tr_enter_12 (by decide) (fun h12 => ?_) (fun h12 => ?_)
      · skip
        have hie : i = sz := by omega
        rw [hie] at hwk hI1 hbgi
        refine lv_aload_n hx hb d_tr_enter_61 rfl (lv_at hl 1 rfl) ?_
        refine hm_getN E (tB in_nd) hK hH (htr1.2.1 a haL) rfl 3 (by decide) hg.2.1 rfl d_tr_enter_62 ?_
        refine hm_ifnonnull (tgt := 78) hx hb d_tr_enter_65 (by decide) (fun y hnu => ?_) (fun hnu => ?_)
        · skip
          have hwt0 := hw.at 0 rfl
          refine lv_aload_n hx hb d_tr_enter_78 rfl (lv_at hl 1 rfl) ?_
          refine lv_aload_n hx hb d_tr_enter_79 rfl (lv_at hl 3 rfl) ?_
          have hM1 := c_rw_copyOfNumbers l G r sg nm sz g M (hw.sub (ws' := [(r, cRw sg nm sz), (nm, aI G 66 g)]) [1, 3] rfl rfl) H.size
          have hG1 : GoodIn w_tr_enter (wsV R_tr 46 R_rw y_rw_copyOfNumbers w_rw_copyOfNumbers) := gB_V wm_297 wm_298 wm_299 wm_4 wm_300
          refine hm_call (va_runV (y := y_rw_copyOfNumbers) (bytes := b_rw_copyOfNumbers) (maxL := 1) (ws := w_rw_copyOfNumbers) (rm := { frames := 1, cells := 1, slots := 66, locals := 22 }) (own := R_tr) (index := 46) (ret := (Option.some (Jvm.ClassFile.FieldType.array Jvm.ClassFile.FieldType.int))) (C := R_rw) (As := []) (rest := [.ref a]) E hM1 (cwV (y := y_rw_copyOfNumbers) (bytes := b_rw_copyOfNumbers) (maxL := 1) (ws := w_rw_copyOfNumbers) (rm := { frames := 1, cells := 1, slots := 66, locals := 22 }) (own := R_tr) (index := 46) (ret := (Option.some (Jvm.ClassFile.FieldType.array Jvm.ClassFile.FieldType.int))) (C := R_rw) 0 hts hG1 rfl rfl rfl (by decide +kernel) ⟨Nat.le_of_ble_eq_true rfl, Nat.le_of_ble_eq_true rfl⟩) (hm_preV gk_w gk_s hH hg hK (hw.at 1 rfl) rfl []) rfl rfl hl.1 rfl (lv_room (Nat.le_of_ble_eq_true rfl)) d_tr_enter_80 ⟨(by show _ ≤ 66; omega), (by show _ ≤ 326; omega)⟩) hH (fun r1 M1 H1 locs1 hq1 hH1 => ?_)
          replace hH := hH1; clear hH1; generalize H1 = H at hH ⊢; generalize locs1 = locs at hH ⊢
          obtain ⟨q, rfl, hqn, hM1⟩ := hq1
          have hwa : hm_has M [(a, cNd (tsg τ1 a) (tcs τ1 a).head? (tnx τ1 a) (tnu τ1 a))] := ⟨by simp, by simp only [List.mem_singleton, forall_eq]; exact htr1.2.1 a haL⟩
          have hwa := hwa.push (ws' := [(a, cNd (tsg τ1 a) (tcs τ1 a).head? (tnx τ1 a) (tnu τ1 a)), (q, aI G 66 g)]) hqn rfl
          have hkq : hm_kp (fun b => b ∈ [a]) M M1 := by rw [hM1]; exact hm_kp.new hqn
          rw [← hM1] at hwa
          refine hm_putN E (tB in_nd) t_nd tk_nd nm_nd hK hH (hwa.at 0 rfl) rfl 3 (by decide) hg.2.1 rfl rfl rfl (Nat.le_of_ble_eq_true rfl) (fs' := [.int (tsg τ1 a), va_rf ((tcs τ1 a).head?), va_rf (tnx τ1 a), .ref q]) rfl d_tr_enter_83 (fun H locs hH => ?_)
          have hw2 := hwa.set (ws' := [(a, cNd (tsg τ1 a) (tcs τ1 a).head? (tnx τ1 a) (some q)), (q, aI G 66 g)]) (k := 0) rfl rfl
          have hk2 : hm_kp (fun b => b ∈ [a]) M (va_up M1 a (some (cNd (tsg τ1 a) (tcs τ1 a).head? (tnx τ1 a) (some q)))) := hkq.wr (Or.inl (by simp))
          have htr2 := htr1.put haL hqn hw2 hk2
          have hw := hw.keptA hk2 (htr1.2.1 a haL) (by simp)
          have hq0 : M0 q = none := by
            cases hm9 : M0 q with
            | none => rfl
            | some x9 =>
              by_cases hs9 : q = t ∨ q ∈ tL τ
              · rcases hs9 with z | z
                · rw [z, hwt0] at hqn; cases hqn
                · rw [htr1.2.1 q (hsub q z)] at hqn; cases hqn
              · rw [hk q x9 hm9 hs9] at hqn; cases hqn
          have hk := hk.trN hk2 (fun b hb => by
            have hb : b = a := by simpa using hb
            rw [hb]
            exact (hLs a haL).imp (fun z => Or.inr z) id)
          have hL9 : ∀ b ∈ tL (tput τ1 a q g), b ∈ tL τ ∨ M0 b = none := hLs
          have hN9 : ∀ b ∈ tL (tput τ1 a q g), ∀ x, tnu (tput τ1 a q g) b = some x → (∃ b0 ∈ tL τ, tnu τ b0 = some x) ∨ M0 x = none := by
            intro b hb x hx
            rw [tp_nu] at hx
            by_cases hba : b = a
            · rw [if_pos hba] at hx; cases hx; exact Or.inr hq0
            · rw [if_neg hba] at hx; exact Or.inl (hnus b hb x hx)
          have hI9 : trI (tst (tput τ1 a q g)) root (fun x k9 => S0 x k9 ∨ (k9 ≤ sz ∧ ag x f k9)) := hI1
          exact hm_vret E hr hlk hH (⟨rfl, tput τ1 a q g, _, htr2, hI9, by first | exact (en_app (g := g) hI1 htr1 hqn hC1 hwk hnu).2 | exact (en_set (g := g) hI1 htr1 hqn hC1 hwk hnu).choose_spec.choose_spec.2.2, by first | exact Or.inl ⟨(en_app (g := g) hI1 htr1 hqn hC1 hwk hnu).1, rfl, by rw [hbgi] at hw; exact hw⟩ | exact Or.inr ⟨_, _, (en_set (g := g) hI1 htr1 hqn hC1 hwk hnu).choose_spec.choose_spec.1, (en_set (g := g) hI1 htr1 hqn hC1 hwk hnu).choose_spec.choose_spec.2.1, rfl, by rw [hbgi] at hw; exact hw⟩, hk, hL9, hN9⟩) (by omega) (by omega) d_tr_enter_86
        · skip
          refine lv_aload_n hx hb d_tr_enter_68 rfl (lv_at hl 2 rfl) ?_
          refine lv_dup hx hb d_tr_enter_69 rfl ?_
          refine hm_get E (tB in_tr) hK hH (hw.at 0 rfl) rfl 1 (by decide) (tC wm_48) rfl d_tr_enter_70 ?_
          refine lv_iconst (v := 1) hx hb d_tr_enter_73 (by decide) ?_
          refine hn_iadd hx hb (a := en) (b := 1) d_tr_enter_74 ?_
          refine hm_put E (tB in_tr) t_tr tk_tr nm_tr hK hH (hw.at 0 rfl) rfl 1 (by decide) (tC wm_48) rfl rfl rfl (Nat.le_of_ble_eq_true rfl) (fs' := [.ref root, .int (nI (en + 1)), .int (nI bgi)]) rfl d_tr_enter_75 (fun H locs hH => ?_)
          have htr1 := htr1.upT (v := (some (.inr (2, [.ref root, .int (nI (en + 1)), .int (nI bgi)])))) (hw.at 0 rfl)
          have hw := hw.set (ws' := [(t, .inr (2, [.ref root, .int (nI (en + 1)), .int (nI bgi)])), (r, .inr (1, [.ref sg, .ref nm, .int (nI sz)])), (sg, aI G 65 f), (nm, aI G 66 g)]) (k := 0) rfl rfl
          have hk := hk.wr (a := t) (v := some (.inr (2, [.ref root, .int (nI (en + 1)), .int (nI bgi)]))) (by first | (right; assumption) | (left; simp; done))
          generalize va_up M t (some (.inr (2, [.ref root, .int (nI (en + 1)), .int (nI bgi)]))) = M at hH hw hk htr1 ⊢
          have hwt0 := hw.at 0 rfl
          refine lv_aload_n hx hb d_tr_enter_78 rfl (lv_at hl 1 rfl) ?_
          refine lv_aload_n hx hb d_tr_enter_79 rfl (lv_at hl 3 rfl) ?_
          have hM1 := c_rw_copyOfNumbers l G r sg nm sz g M (hw.sub (ws' := [(r, cRw sg nm sz), (nm, aI G 66 g)]) [1, 3] rfl rfl) H.size
          have hG1 : GoodIn w_tr_enter (wsV R_tr 46 R_rw y_rw_copyOfNumbers w_rw_copyOfNumbers) := gB_V wm_297 wm_298 wm_299 wm_4 wm_300
          refine hm_call (va_runV (y := y_rw_copyOfNumbers) (bytes := b_rw_copyOfNumbers) (maxL := 1) (ws := w_rw_copyOfNumbers) (rm := { frames := 1, cells := 1, slots := 66, locals := 22 }) (own := R_tr) (index := 46) (ret := (Option.some (Jvm.ClassFile.FieldType.array Jvm.ClassFile.FieldType.int))) (C := R_rw) (As := []) (rest := [.ref a]) E hM1 (cwV (y := y_rw_copyOfNumbers) (bytes := b_rw_copyOfNumbers) (maxL := 1) (ws := w_rw_copyOfNumbers) (rm := { frames := 1, cells := 1, slots := 66, locals := 22 }) (own := R_tr) (index := 46) (ret := (Option.some (Jvm.ClassFile.FieldType.array Jvm.ClassFile.FieldType.int))) (C := R_rw) 0 hts hG1 rfl rfl rfl (by decide +kernel) ⟨Nat.le_of_ble_eq_true rfl, Nat.le_of_ble_eq_true rfl⟩) (hm_preV gk_w gk_s hH hg hK (hw.at 1 rfl) rfl []) rfl rfl hl.1 rfl (lv_room (Nat.le_of_ble_eq_true rfl)) d_tr_enter_80 ⟨(by show _ ≤ 66; omega), (by show _ ≤ 326; omega)⟩) hH (fun r1 M1 H1 locs1 hq1 hH1 => ?_)
          replace hH := hH1; clear hH1; generalize H1 = H at hH ⊢; generalize locs1 = locs at hH ⊢
          obtain ⟨q, rfl, hqn, hM1⟩ := hq1
          have hwa : hm_has M [(a, cNd (tsg τ1 a) (tcs τ1 a).head? (tnx τ1 a) (tnu τ1 a))] := ⟨by simp, by simp only [List.mem_singleton, forall_eq]; exact htr1.2.1 a haL⟩
          have hwa := hwa.push (ws' := [(a, cNd (tsg τ1 a) (tcs τ1 a).head? (tnx τ1 a) (tnu τ1 a)), (q, aI G 66 g)]) hqn rfl
          have hkq : hm_kp (fun b => b ∈ [a]) M M1 := by rw [hM1]; exact hm_kp.new hqn
          rw [← hM1] at hwa
          refine hm_putN E (tB in_nd) t_nd tk_nd nm_nd hK hH (hwa.at 0 rfl) rfl 3 (by decide) hg.2.1 rfl rfl rfl (Nat.le_of_ble_eq_true rfl) (fs' := [.int (tsg τ1 a), va_rf ((tcs τ1 a).head?), va_rf (tnx τ1 a), .ref q]) rfl d_tr_enter_83 (fun H locs hH => ?_)
          have hw2 := hwa.set (ws' := [(a, cNd (tsg τ1 a) (tcs τ1 a).head? (tnx τ1 a) (some q)), (q, aI G 66 g)]) (k := 0) rfl rfl
          have hk2 : hm_kp (fun b => b ∈ [a]) M (va_up M1 a (some (cNd (tsg τ1 a) (tcs τ1 a).head? (tnx τ1 a) (some q)))) := hkq.wr (Or.inl (by simp))
          have htr2 := htr1.put haL hqn hw2 hk2
          have hw := hw.keptA hk2 (htr1.2.1 a haL) (by simp)
          have hq0 : M0 q = none := by
            cases hm9 : M0 q with
            | none => rfl
            | some x9 =>
              by_cases hs9 : q = t ∨ q ∈ tL τ
              · rcases hs9 with z | z
                · rw [z, hwt0] at hqn; cases hqn
                · rw [htr1.2.1 q (hsub q z)] at hqn; cases hqn
              · rw [hk q x9 hm9 hs9] at hqn; cases hqn
          have hk := hk.trN hk2 (fun b hb => by
            have hb : b = a := by simpa using hb
            rw [hb]
            exact (hLs a haL).imp (fun z => Or.inr z) id)
          have hL9 : ∀ b ∈ tL (tput τ1 a q g), b ∈ tL τ ∨ M0 b = none := hLs
          have hN9 : ∀ b ∈ tL (tput τ1 a q g), ∀ x, tnu (tput τ1 a q g) b = some x → (∃ b0 ∈ tL τ, tnu τ b0 = some x) ∨ M0 x = none := by
            intro b hb x hx
            rw [tp_nu] at hx
            by_cases hba : b = a
            · rw [if_pos hba] at hx; cases hx; exact Or.inr hq0
            · rw [if_neg hba] at hx; exact Or.inl (hnus b hb x hx)
          have hI9 : trI (tst (tput τ1 a q g)) root (fun x k9 => S0 x k9 ∨ (k9 ≤ sz ∧ ag x f k9)) := hI1
          exact hm_vret E hr hlk hH (⟨rfl, tput τ1 a q g, _, htr2, hI9, by first | exact (en_app (g := g) hI1 htr1 hqn hC1 hwk hnu).2 | exact (en_set (g := g) hI1 htr1 hqn hC1 hwk hnu).choose_spec.choose_spec.2.2, by first | exact Or.inl ⟨(en_app (g := g) hI1 htr1 hqn hC1 hwk hnu).1, rfl, by rw [hbgi] at hw; exact hw⟩ | exact Or.inr ⟨_, _, (en_set (g := g) hI1 htr1 hqn hC1 hwk hnu).choose_spec.choose_spec.1, (en_set (g := g) hI1 htr1 hqn hC1 hwk hnu).choose_spec.choose_spec.2.1, rfl, by rw [hbgi] at hw; exact hw⟩, hk, hL9, hN9⟩) (by omega) (by omega) d_tr_enter_86
      · skip
        refine lv_aload_n hx hb d_tr_enter_15 rfl (lv_at hl 1 rfl) ?_
        refine lv_aload_n hx hb d_tr_enter_16 rfl (lv_at hl 3 rfl) ?_
        refine lv_iload_n hx hb d_tr_enter_17 rfl (lv_at hl 0 rfl) ?_
        have hM1 := c_rw_signAt l G r sg nm sz f i M (hw.sub (ws' := [(r, cRw sg nm sz), (sg, aI G 65 f)]) [1, 2] rfl rfl) hsz (by omega) H.size
        have hG1 : GoodIn w_tr_enter (wsV R_tr 31 R_rw y_rw_signAt w_rw_signAt) := gB_V wm_259 wm_180 wm_181 wm_4 wm_182
        refine hm_call (va_runV (y := y_rw_signAt) (bytes := b_rw_signAt) (maxL := 2) (ws := w_rw_signAt) (rm := { frames := 1, cells := 0, slots := 0, locals := 21 }) (own := R_tr) (index := 31) (ret := (Option.some Jvm.ClassFile.FieldType.int)) (C := R_rw) (As := [.int (nI i)]) (rest := [.ref a]) E hM1 (cwV (y := y_rw_signAt) (bytes := b_rw_signAt) (maxL := 2) (ws := w_rw_signAt) (rm := { frames := 1, cells := 0, slots := 0, locals := 21 }) (own := R_tr) (index := 31) (ret := (Option.some Jvm.ClassFile.FieldType.int)) (C := R_rw) 1 hts hG1 rfl rfl rfl (by decide +kernel) ⟨Nat.le_of_ble_eq_true rfl, Nat.le_of_ble_eq_true rfl⟩) (hm_preV gk_w gk_s hH hg hK (hw.at 1 rfl) rfl [.int (nI i)]) rfl rfl hl.1 rfl (lv_room (Nat.le_of_ble_eq_true rfl)) d_tr_enter_18 ⟨(by show _ ≤ 66; omega), (by show _ ≤ 326; omega)⟩) hH (fun r1 M1 H1 locs1 hq1 hH1 => ?_)
        obtain ⟨rfl, e1⟩ := hq1
        replace hH := hH1; rw [e1] at hH; clear hH1 e1; generalize H1 = H at hH ⊢; generalize locs1 = locs at hH ⊢
        refine hm_top (w := .int (f i)) (by rw [if_pos h12]) ?_
        have hM1 := c_nd_childWith l G a (tsg τ1 a) (tnx τ1 a) (tnu τ1 a) (tcs τ1 a) (tsg τ1) (f i) M (htr1.2.1 a haL) (htr1.ch haL) H.size
        have hG1 : GoodIn w_tr_enter (wsV R_tr 35 R_nd y_nd_childWith w_nd_childWith) := gB_V wm_260 wm_261 wm_262 wm_3 wm_263
        refine hm_call (va_runV (y := y_nd_childWith) (bytes := b_nd_childWith) (maxL := 3) (ws := w_nd_childWith) (rm := { frames := 0, cells := 0, slots := 0, locals := 0 }) (own := R_tr) (index := 35) (ret := (Option.some (Jvm.ClassFile.FieldType.object "HyphenBook$Node"))) (C := R_nd) (As := [.int (f i)]) (rest := []) E hM1 (cwV (y := y_nd_childWith) (bytes := b_nd_childWith) (maxL := 3) (ws := w_nd_childWith) (rm := { frames := 0, cells := 0, slots := 0, locals := 0 }) (own := R_tr) (index := 35) (ret := (Option.some (Jvm.ClassFile.FieldType.object "HyphenBook$Node"))) (C := R_nd) 1 hts hG1 rfl rfl rfl (by decide +kernel) ⟨Nat.le_of_ble_eq_true rfl, Nat.le_of_ble_eq_true rfl⟩) (hm_preV gk_w gk_s hH hg hK (htr1.2.1 a haL) rfl [.int (f i)]) rfl rfl hl.1 rfl (lv_room (Nat.le_of_ble_eq_true rfl)) d_tr_enter_21 ⟨(by show _ ≤ 66; omega), (by show _ ≤ 326; omega)⟩) hH (fun r1 M1 H1 locs1 hq1 hH1 => ?_)
        obtain ⟨rfl, e1⟩ := hq1
        replace hH := hH1; rw [e1] at hH; clear hH1 e1; generalize H1 = H at hH ⊢; generalize locs1 = locs at hH ⊢
        refine ho_astore (lv' := [(4, va_rf (tst τ1 a (f i))), (3, .int (nI i)), (2, .ref a), (0, .ref t), (1, .ref r)]) hx hb d_tr_enter_24 hl (by decide) rfl (fun ls hl => ?_)
        refine ho_aload hx hb d_tr_enter_26 (lv_at hl 0 rfl) ?_
        refine hm_ifnonnull (tgt := 52) hx hb d_tr_enter_28 (by decide) (fun y hnn => ?_) (fun hnn => ?_)
        · skip
          have hl : lv_has ls 5 [(4, .ref y), (3, .int (nI i)), (2, .ref a), (0, .ref t), (1, .ref r)] := by rw [hnn] at hl; exact hl
          refine lv_aload hx hb d_tr_enter_52 (lv_at hl 0 rfl) ?_
          skip
          refine lv_astore_n (lv' := [(2, .ref y), (4, .ref y), (3, .int (nI i)), (0, .ref t), (1, .ref r)]) hx hb d_tr_enter_54 rfl hl (by decide) rfl (fun ls hl => ?_)
          refine lv_iinc (v := nI (i + 1)) (lv' := [(3, .int (nI (i + 1))), (2, .ref y), (4, .ref y), (0, .ref t), (1, .ref r)]) hx hb d_tr_enter_55 hl (k := 2) rfl (by first | exact nI_add _ 1 | (show nI _ + nI _ = _; rw [nI_add])) (by decide) rfl (fun ls hl => ?_)
          refine lv_goto (tgt := 7) hx hb d_tr_enter_58 (by decide) ?_
          refine W.widen (k := i + 1) (n := 4 * (i + 1)) (by omega) (by omega) ?_
          exact ih (i + 1) y bgi τ1 M _ _ _ (by omega) (by omega) (by rw [twk_succ hwk]; exact hnn) htr1 (en_ext hI1 (by rw [twk_succ hwk]; exact hnn)) hC1 (by have := en_f (sz := sz) hI hI1 (by rw [twk_succ hwk]; exact hnn) (by omega) hd2; omega) hLs hsub hnus hw hk hH (lv_sub hl [0, 1, 3, 4] rfl)
        · skip
          refine lv_aload_n hx hb d_tr_enter_31 rfl (lv_at hl 2 rfl) ?_
          refine lv_aload_n hx hb d_tr_enter_32 rfl (lv_at hl 4 rfl) ?_
          refine lv_iload_n hx hb d_tr_enter_33 rfl (lv_at hl 1 rfl) ?_
          have hM1 := c_rw_signAt l G r sg nm sz f i M (hw.sub (ws' := [(r, cRw sg nm sz), (sg, aI G 65 f)]) [1, 2] rfl rfl) hsz (by omega) H.size
          have hG1 : GoodIn w_tr_enter (wsV R_tr 31 R_rw y_rw_signAt w_rw_signAt) := gB_V wm_259 wm_180 wm_181 wm_4 wm_182
          refine hm_call (va_runV (y := y_rw_signAt) (bytes := b_rw_signAt) (maxL := 2) (ws := w_rw_signAt) (rm := { frames := 1, cells := 0, slots := 0, locals := 21 }) (own := R_tr) (index := 31) (ret := (Option.some Jvm.ClassFile.FieldType.int)) (C := R_rw) (As := [.int (nI i)]) (rest := [.ref a]) E hM1 (cwV (y := y_rw_signAt) (bytes := b_rw_signAt) (maxL := 2) (ws := w_rw_signAt) (rm := { frames := 1, cells := 0, slots := 0, locals := 21 }) (own := R_tr) (index := 31) (ret := (Option.some Jvm.ClassFile.FieldType.int)) (C := R_rw) 1 hts hG1 rfl rfl rfl (by decide +kernel) ⟨Nat.le_of_ble_eq_true rfl, Nat.le_of_ble_eq_true rfl⟩) (hm_preV gk_w gk_s hH hg hK (hw.at 1 rfl) rfl [.int (nI i)]) rfl rfl hl.1 rfl (lv_room (Nat.le_of_ble_eq_true rfl)) d_tr_enter_34 ⟨(by show _ ≤ 66; omega), (by show _ ≤ 326; omega)⟩) hH (fun r1 M1 H1 locs1 hq1 hH1 => ?_)
          obtain ⟨rfl, e1⟩ := hq1
          replace hH := hH1; rw [e1] at hH; clear hH1 e1; generalize H1 = H at hH ⊢; generalize locs1 = locs at hH ⊢
          refine hm_top (w := .int (f i)) (by rw [if_pos h12]) ?_
          have hM1 := c_nd_newChild l G a (tsg τ1 a) (tcs τ1 a).head? (tnx τ1 a) (tnu τ1 a) (f i) M ⟨by simp, by simp only [List.mem_singleton, forall_eq]; exact htr1.2.1 a haL⟩ H.size
          have hG1 : GoodIn w_tr_enter (wsV R_tr 43 R_nd y_nd_newChild w_nd_newChild) := gB_V wm_291 wm_292 wm_293 wm_3 wm_294
          refine hm_call (va_runV (y := y_nd_newChild) (bytes := b_nd_newChild) (maxL := 3) (ws := w_nd_newChild) (rm := { frames := 2, cells := 1, slots := 4, locals := 33 }) (own := R_tr) (index := 43) (ret := (Option.some (Jvm.ClassFile.FieldType.object "HyphenBook$Node"))) (C := R_nd) (As := [.int (f i)]) (rest := []) E hM1 (cwV (y := y_nd_newChild) (bytes := b_nd_newChild) (maxL := 3) (ws := w_nd_newChild) (rm := { frames := 2, cells := 1, slots := 4, locals := 33 }) (own := R_tr) (index := 43) (ret := (Option.some (Jvm.ClassFile.FieldType.object "HyphenBook$Node"))) (C := R_nd) 1 hts hG1 rfl rfl rfl (by decide +kernel) ⟨Nat.le_of_ble_eq_true rfl, Nat.le_of_ble_eq_true rfl⟩) (hm_preV gk_w gk_s hH hg hK (htr1.2.1 a haL) rfl [.int (f i)]) rfl rfl hl.1 rfl (lv_room (Nat.le_of_ble_eq_true rfl)) d_tr_enter_37 ⟨(by show _ ≤ 66; omega), (by show _ ≤ 326; omega)⟩) hH (fun r1 M1 H1 locs1 hq1 hH1 => ?_)
          replace hH := hH1; clear hH1; generalize H1 = H at hH ⊢; generalize locs1 = locs at hH ⊢
          obtain ⟨q, rfl, hqn, hwa, hka⟩ := hq1
          have hq0 : M0 q = none := by
            cases hm9 : M0 q with
            | none => rfl
            | some x9 =>
              by_cases hs9 : q = t ∨ q ∈ tL τ
              · rcases hs9 with z | z
                · rw [z, hw.at 0 rfl] at hqn; cases hqn
                · rw [htr1.2.1 q (hsub q z)] at hqn; cases hqn
              · rw [hk q x9 hm9 hs9] at hqn; cases hqn
          have htr2 := htr1.new haL hqn hwa hka
          obtain ⟨hI2, hC2, hwk2⟩ := en_new htr1 hqn hI1 hC1 hSE hwk hnn
          have hw := hw.keptA hka (htr1.2.1 a haL) (by simp)
          have hk := hk.trN hka (fun b hb => by
            have hb : b = a := by simpa using hb
            rw [hb]
            exact (hLs a haL).imp (fun z => Or.inr z) id)
          generalize M1 = M at hH hw hk htr2
          refine lv_astore (lv' := [(4, .ref q), (3, .int (nI i)), (2, .ref a), (0, .ref t), (1, .ref r)]) hx hb d_tr_enter_40 hl (by decide) rfl (fun ls hl => ?_)
          refine lv_aload_n hx hb d_tr_enter_42 rfl (lv_at hl 3 rfl) ?_
          refine lv_dup hx hb d_tr_enter_43 rfl ?_
          refine hm_get E (tB in_tr) hK hH (hw.at 0 rfl) rfl 2 (by decide) (tC wm_49) rfl d_tr_enter_44 ?_
          refine lv_iconst (v := 1) hx hb d_tr_enter_47 (by decide) ?_
          refine hn_iadd hx hb (a := bgi) (b := 1) d_tr_enter_48 ?_
          refine hm_put E (tB in_tr) t_tr tk_tr nm_tr hK hH (hw.at 0 rfl) rfl 2 (by decide) (tC wm_49) rfl rfl rfl (Nat.le_of_ble_eq_true rfl) (fs' := [.ref root, .int (nI en), .int (nI (bgi + 1))]) rfl d_tr_enter_49 (fun H locs hH => ?_)
          have htr2 := htr2.upT (v := (some (.inr (2, [.ref root, .int (nI en), .int (nI (bgi + 1))])))) (hw.at 0 rfl)
          have hw := hw.set (ws' := [(t, .inr (2, [.ref root, .int (nI en), .int (nI (bgi + 1))])), (r, .inr (1, [.ref sg, .ref nm, .int (nI sz)])), (sg, aI G 65 f), (nm, aI G 66 g)]) (k := 0) rfl rfl
          have hk := hk.wr (a := t) (v := some (.inr (2, [.ref root, .int (nI en), .int (nI (bgi + 1))]))) (by first | (right; assumption) | (left; simp; done))
          generalize va_up M t (some (.inr (2, [.ref root, .int (nI en), .int (nI (bgi + 1))]))) = M at hH hw hk htr2 ⊢
          refine lv_aload hx hb d_tr_enter_52 (lv_at hl 0 rfl) ?_
          skip
          refine lv_astore_n (lv' := [(2, .ref q), (4, .ref q), (3, .int (nI i)), (0, .ref t), (1, .ref r)]) hx hb d_tr_enter_54 rfl hl (by decide) rfl (fun ls hl => ?_)
          refine lv_iinc (v := nI (i + 1)) (lv' := [(3, .int (nI (i + 1))), (2, .ref q), (4, .ref q), (0, .ref t), (1, .ref r)]) hx hb d_tr_enter_55 hl (k := 2) rfl (by first | exact nI_add _ 1 | (show nI _ + nI _ = _; rw [nI_add])) (by decide) rfl (fun ls hl => ?_)
          refine lv_goto (tgt := 7) hx hb d_tr_enter_58 (by decide) ?_
          refine W.widen (k := i + 1) (n := 4 * (i + 1)) (by omega) (by omega) ?_
          exact ih (i + 1) q (bgi + 1) (tnew τ1 a q (f i)) M _ _ _ (by omega) (by omega) hwk2 htr2 hI2 hC2 (by have := en_n hI hI1 (by rw [twk_succ hwk]; exact hnn) hd1; omega)
            (fun b hb => (List.mem_append.mp hb).elim (hLs b) (fun z => Or.inr (by rw [List.mem_singleton.mp z]; exact hq0)))
            (fun b hb => List.mem_append_left _ (hsub b hb))
            (fun b hb x hx => by
              rw [tn_nu] at hx
              by_cases hbq : b = q
              · rw [if_pos hbq] at hx; cases hx
              · rw [if_neg hbq] at hx
                exact hnus b ((List.mem_append.mp hb).elim id (fun z => absurd (List.mem_singleton.mp z) hbq)) x hx) hw hk hH (lv_sub hl [0, 1, 3, 4] rfl)
  refine lv_aload_n hx hb d_tr_enter_0 rfl (lv_at hl 0 rfl) ?_
  refine hm_get E (tB in_tr) hK hH (hw.at 0 rfl) rfl 0 (by decide) (tC wm_47) rfl d_tr_enter_1 ?_
  refine lv_astore_n (lv' := [(2, .ref root), (0, .ref t), (1, .ref r)]) hx hb d_tr_enter_4 rfl hl (by decide) rfl (fun ls hl => ?_)
  refine lv_iconst (v := 0) hx hb d_tr_enter_5 (by decide) ?_
  refine lv_istore_n (lv' := [(3, .int 0), (2, .ref root), (0, .ref t), (1, .ref r)]) hx hb d_tr_enter_6 rfl hl (by decide) rfl (fun ls hl => ?_)
  exact L7 (sz + 1) 0 root bg τ M _ _ _ (by omega) (by omega) rfl htr (en_0 hI) hC (by omega) (fun b hb => Or.inl hb) (fun b hb => hb) (fun b hb q hq => ⟨b, hb, hq⟩) hw hk hH (lv_sub hl [0, 1, 2, 3] rfl)
