abbrev q_md_word (G : hG) (y th dn d np be sg nu bg nx fi le pl lf rt ln rw va : Nat) (ak : Bool) (dr fb fs fn ff fl fr fv : Nat → Int32) (fp : Nat → Int64) (o ox : Nat → Nat) (M : hM) : Option Value → hM → Prop := fun rv M' => (¬ wOk dr dn ∧ (∃ z, rv = some (.long z)) ∧ hm_has M' [(y, .inr (4, [.int (nI 1), .int (nI 0), .ref d, .int (nI np), .ref be, .ref sg, .ref nu, .int (nI bg), .int (nI nx), .ref fi, .ref le, .ref pl, .int (nI lf), .int (nI rt), .int (nI ln), .ref rw, .ref va, .int (bI ak)])), (d, aI G 200 dr), (be, aI G 8194 fb), (sg, aI G 40000 fs), (nu, aI G 48200 fn), (fi, aI G 2050 ff), (le, aI G 40000 fl), (pl, aJ G 2048 fp), (rw, aI G 66 fr), (va, aI G 66 fv)] ∧ hm_kp (fun a => a ∈ [y, le, rw, va]) M M') ∨ ∃ (fr9 fl9 v9 : Nat → Int32) (e9 : Nat), wOk dr dn ∧ (∀ j, j < dn + 2 → fr9 j = wrow dr dn j) ∧ (∀ j, j < ox nx → fl9 j = fl j) ∧ (∀ j, j < dn → fl9 (ox nx + j) = dr j) ∧ vMax (wT o fs fn fr9 (dn + 2) np 0) (dn + 2) v9 ∧ e9 ≤ nx ∧ (e9 < nx → fdP ox fl9 nx dn e9) ∧ (∀ e, e < e9 → ¬ fdP ox fl9 nx dn e) ∧ rv = some (.long (cutN (cuW lf rt dn (mbF nx e9 fp v9)) 64)) ∧ hm_has M' [(y, .inr (4, [.int (nI 0), .int (nI 0), .ref d, .int (nI np), .ref be, .ref sg, .ref nu, .int (nI bg), .int (nI nx), .ref fi, .ref le, .ref pl, .int (nI lf), .int (nI rt), .int (nI dn), .ref rw, .ref va, .int (bI true)])), (d, aI G 200 dr), (be, aI G 8194 fb), (sg, aI G 40000 fs), (nu, aI G 48200 fn), (fi, aI G 2050 ff), (le, aI G 40000 fl9), (pl, aJ G 2048 fp), (rw, aI G 66 fr9), (va, aI G 66 v9)] ∧ hm_kp (fun a => a ∈ [y, le, rw, va]) M M'
set_option maxHeartbeats 4000000 in
set_option maxRecDepth 100000 in
theorem c_md_word (l : Launch) (G : hG) (y th dn d np be sg nu bg nx fi le pl lf rt ln rw va : Nat) (ak : Bool) (dr fb fs fn ff fl fr fv : Nat → Int32) (fp : Nat → Int64) (o ox : Nat → Nat) (M : hM) (hw : hm_has M [(y, .inr (4, [.int (nI th), .int (nI dn), .ref d, .int (nI np), .ref be, .ref sg, .ref nu, .int (nI bg), .int (nI nx), .ref fi, .ref le, .ref pl, .int (nI lf), .int (nI rt), .int (nI ln), .ref rw, .ref va, .int (bI ak)])), (d, aI G 200 dr), (be, aI G 8194 fb), (sg, aI G 40000 fs), (nu, aI G 48200 fn), (fi, aI G 2050 ff), (le, aI G 40000 fl), (pl, aJ G 2048 fp), (rw, aI G 66 fr), (va, aI G 66 fv)]) (hdn : dn ≤ 200) (hby : ∀ k, isBy (dr k)) (hbe : ∀ p, p ≤ np → fb p = nI (o p)) (hmo : ∀ p, p < np → o p ≤ o (p + 1)) (hle : ∀ p, p ≤ np → o p ≤ o np) (hob : o np ≤ 30000) (hnp : np ≤ 600) (hff : ∀ e, e ≤ nx → ff e = nI (ox e)) (hxo : ∀ e, e < nx → ox e ≤ ox (e + 1)) (hxl : ∀ e, e ≤ nx → ox e ≤ ox nx) (hxb : ox nx ≤ 30000) (hnx : nx ≤ 600) (hl1 : 1 ≤ lf) (hr1 : 1 ≤ rt) (hlf : lf ≤ 63) (hrt : rt ≤ 63) (hnn : ∀ q, q < np → ∀ j, j < o (q + 1) - o q + 1 → 0 ≤ fn (o q + q + j)) : Ct (gk G) l G.1 vwC y_md_word w_md_word { frames := 1, cells := 0, slots := 0, locals := 25 } ([.ref y] : List Value) M (q_md_word G y th dn d np be sg nu bg nx fi le pl lf rt ln rw va ak dr fb fs fn ff fl fr fv fp o ox M) 0 0 := by
  refine Ct.ofW (cc := b_md_word) (maxL := 7) (ret := (Option.some Jvm.ClassFile.FieldType.long)) (by decide) rfl (Nat.le_of_ble_eq_true rfl) (fun p e s m below meth c A ls E hr hlk hin hg hH hl => ?_)
  have hl : lv_has ls 7 [(0, .ref y)] := hl
  have hx := E.1; have hb := E.2.1; have hml := E.2.2.1; have hown := E.2.2.2.1; have hts := E.2.2.2.2; have hK := hg.1
  obtain ⟨M0, hM0⟩ : ∃ M0 : hM, M0 = M := ⟨M, rfl⟩
  rw [show q_md_word G y th dn d np be sg nu bg nx fi le pl lf rt ln rw va ak dr fb fs fn ff fl fr fv fp o ox M = q_md_word G y th dn d np be sg nu bg nx fi le pl lf rt ln rw va ak dr fb fs fn ff fl fr fv fp o ox M0 by rw [hM0]]
  have hk : hm_kp (fun a => a ∈ [y, le, rw, va]) M0 M := by rw [hM0]; exact hm_kp.rf
  refine lv_aload_n hx hb d_md_word_0 rfl (lv_at hl 0 rfl) ?_
  refine hm_get E (tB in_md) hK hH (hw.at 0 rfl) rfl 1 (by decide) (tC wm_368) rfl d_md_word_1 ?_
  refine hn_if_le (a := dn) hx hb (by omega) (tgt := 20) d_md_word_4 (by decide) (fun h4 => ?_) (fun h4 => ?_)
  · skip
    refine lv_iconst (v := 0) hx hb d_md_word_20 (by decide) ?_
    refine lv_istore_n (lv' := [(1, .int 0), (0, .ref y)]) hx hb d_md_word_21 rfl hl (by decide) rfl (fun ls hl => ?_)
    refine lv_iconst (v := 0) hx hb d_md_word_22 (by decide) ?_
    refine lv_istore_n (lv' := [(2, .int 0), (1, .int 0), (0, .ref y)]) hx hb d_md_word_23 rfl hl (by decide) rfl (fun ls hl => ?_)
    have L24 : ∀ (k : Nat) (i : Nat) (H : Heap) (locs : List Loc) (ls : Array Slot), dn + 1 ≤ i + k → i ≤ dn → hm_I G.1 vwC A s.heap M H locs → lv_has ls 7 [(2, .int (nI i)), (1, .int (bI (gwP dr dn i))), (0, .ref y)] → W p l e { frames := 1, cells := 0, slots := 0, locals := 25 } s m ([.ref y] : List Value).toArray below meth c H locs 0 0 (MQ below (hm_Q G.1 vwC (q_md_word G y th dn d np be sg nu bg nx fi le pl lf rt ln rw va ak dr fb fs fn ff fl fr fv fp o ox M0) A) ([.ref y] : List Value).toArray s 0 0 A) (F0 m 24 ls []) := by
      intro k
      induction k with
      | zero => intro i H locs ls hfu hi; exact absurd hfu (by omega)
      | succ k ih =>
        intro i H locs ls hfu hi hH hl
        refine lv_iload_n hx hb d_md_word_24 rfl (lv_at hl 0 rfl) ?_
        refine lv_aload_n hx hb d_md_word_25 rfl (lv_at hl 2 rfl) ?_
        refine hm_get E (tB in_md) hK hH (hw.at 0 rfl) rfl 1 (by decide) (tC wm_368) rfl d_md_word_26 ?_
        refine hn_icmp_ge (a := i) (b := dn) hx hb (by omega) (by omega) (tgt := 60) d_md_word_29 (by decide) (fun h29 => ?_) (fun h29 => ?_)
        · skip
          have hie : i = dn := by omega
          rw [hie] at hl
          refine lv_iload_n hx hb d_md_word_60 rfl (lv_at hl 1 rfl) ?_
          refine hb_if_ne (b := gwP dr dn dn) hx hb (tgt := 71) d_md_word_61 (by decide) (fun h61 => ?_) (fun h61 => ?_)
          · skip
            have hok := gw_ok.mp h61
            have hd1 := hok.1
            have hd6 := hok.2.1
            refine lv_aload_n hx hb d_md_word_71 rfl (lv_at hl 2 rfl) ?_
            refine lv_aload_n hx hb d_md_word_72 rfl (lv_at hl 2 rfl) ?_
            refine hm_get E (tB in_md) hK hH (hw.at 0 rfl) rfl 1 (by decide) (tC wm_368) rfl d_md_word_73 ?_
            refine hm_put E (tB in_md) t_md tk_md nm_md hK hH (hw.at 0 rfl) rfl 14 (by decide) (tC wm_381) rfl rfl rfl (Nat.le_of_ble_eq_true rfl) (fs' := [.int (nI th), .int (nI dn), .ref d, .int (nI np), .ref be, .ref sg, .ref nu, .int (nI bg), .int (nI nx), .ref fi, .ref le, .ref pl, .int (nI lf), .int (nI rt), .int (nI dn), .ref rw, .ref va, .int (bI ak)]) rfl d_md_word_76 (fun H locs hH => ?_)
            have hw := hw.set (ws' := [(y, .inr (4, [.int (nI th), .int (nI dn), .ref d, .int (nI np), .ref be, .ref sg, .ref nu, .int (nI bg), .int (nI nx), .ref fi, .ref le, .ref pl, .int (nI lf), .int (nI rt), .int (nI dn), .ref rw, .ref va, .int (bI ak)])), (d, aI G 200 dr), (be, aI G 8194 fb), (sg, aI G 40000 fs), (nu, aI G 48200 fn), (fi, aI G 2050 ff), (le, aI G 40000 fl), (pl, aJ G 2048 fp), (rw, aI G 66 fr), (va, aI G 66 fv)]) (k := 0) rfl rfl
            have hk := hk.wr (a := y) (v := some (.inr (4, [.int (nI th), .int (nI dn), .ref d, .int (nI np), .ref be, .ref sg, .ref nu, .int (nI bg), .int (nI nx), .ref fi, .ref le, .ref pl, .int (nI lf), .int (nI rt), .int (nI dn), .ref rw, .ref va, .int (bI ak)]))) (by first | (right; assumption) | (left; simp; done))
            generalize va_up M y (some (.inr (4, [.int (nI th), .int (nI dn), .ref d, .int (nI np), .ref be, .ref sg, .ref nu, .int (nI bg), .int (nI nx), .ref fi, .ref le, .ref pl, .int (nI lf), .int (nI rt), .int (nI dn), .ref rw, .ref va, .int (bI ak)]))) = M at hH hw hk ⊢
            refine lv_aload_n hx hb d_md_word_79 rfl (lv_at hl 2 rfl) ?_
            refine lv_iconst (v := 1) hx hb d_md_word_80 (by decide) ?_
            refine hm_put E (tB in_md) t_md tk_md nm_md hK hH (hw.at 0 rfl) rfl 17 (by decide) (tC wm_384) rfl (by decide) (by decide) (Nat.le_of_ble_eq_true rfl) (fs' := [.int (nI th), .int (nI dn), .ref d, .int (nI np), .ref be, .ref sg, .ref nu, .int (nI bg), .int (nI nx), .ref fi, .ref le, .ref pl, .int (nI lf), .int (nI rt), .int (nI dn), .ref rw, .ref va, .int 1]) rfl d_md_word_81 (fun H locs hH => ?_)
            have hw := hw.set (ws' := [(y, .inr (4, [.int (nI th), .int (nI dn), .ref d, .int (nI np), .ref be, .ref sg, .ref nu, .int (nI bg), .int (nI nx), .ref fi, .ref le, .ref pl, .int (nI lf), .int (nI rt), .int (nI dn), .ref rw, .ref va, .int 1])), (d, aI G 200 dr), (be, aI G 8194 fb), (sg, aI G 40000 fs), (nu, aI G 48200 fn), (fi, aI G 2050 ff), (le, aI G 40000 fl), (pl, aJ G 2048 fp), (rw, aI G 66 fr), (va, aI G 66 fv)]) (k := 0) rfl rfl
            have hk := hk.wr (a := y) (v := some (.inr (4, [.int (nI th), .int (nI dn), .ref d, .int (nI np), .ref be, .ref sg, .ref nu, .int (nI bg), .int (nI nx), .ref fi, .ref le, .ref pl, .int (nI lf), .int (nI rt), .int (nI dn), .ref rw, .ref va, .int 1]))) (by first | (right; assumption) | (left; simp; done))
            generalize va_up M y (some (.inr (4, [.int (nI th), .int (nI dn), .ref d, .int (nI np), .ref be, .ref sg, .ref nu, .int (nI bg), .int (nI nx), .ref fi, .ref le, .ref pl, .int (nI lf), .int (nI rt), .int (nI dn), .ref rw, .ref va, .int 1]))) = M at hH hw hk ⊢
            refine lv_iconst (v := 0) hx hb d_md_word_84 (by decide) ?_
            refine lv_istore_n (lv' := [(2, .int 0), (1, .int (bI (gwP dr dn dn))), (0, .ref y)]) hx hb d_md_word_85 rfl hl (by decide) rfl (fun ls hl => ?_)
            have L86 : ∀ (k : Nat) (i : Nat) (f1 f2 : Nat → Int32) (M : hM) (H : Heap) (locs : List Loc) (ls : Array Slot), dn + 1 ≤ i + k → i ≤ dn → (∀ j, j < i → f1 (j + 1) = dr j) → (∀ j, j < ox nx → f2 j = fl j) → (∀ j, j < i → f2 (ox nx + j) = dr j) → hm_has M [(y, .inr (4, [.int (nI th), .int (nI dn), .ref d, .int (nI np), .ref be, .ref sg, .ref nu, .int (nI bg), .int (nI nx), .ref fi, .ref le, .ref pl, .int (nI lf), .int (nI rt), .int (nI dn), .ref rw, .ref va, .int (bI true)])), (d, aI G 200 dr), (be, aI G 8194 fb), (sg, aI G 40000 fs), (nu, aI G 48200 fn), (fi, aI G 2050 ff), (le, aI G 40000 f2), (pl, aJ G 2048 fp), (rw, aI G 66 f1), (va, aI G 66 fv)] → hm_kp (fun a => a ∈ [y, le, rw, va]) M0 M → hm_I G.1 vwC A s.heap M H locs → lv_has ls 7 [(2, .int (nI i)), (0, .ref y)] → W p l e { frames := 1, cells := 0, slots := 0, locals := 25 } s m ([.ref y] : List Value).toArray below meth c H locs 0 0 (MQ below (hm_Q G.1 vwC (q_md_word G y th dn d np be sg nu bg nx fi le pl lf rt ln rw va ak dr fb fs fn ff fl fr fv fp o ox M0) A) ([.ref y] : List Value).toArray s 0 0 A) (F0 m 86 ls []) := by
              intro k
              induction k with
              | zero => intro i f1 f2 M H locs ls hfu hi hf1 hf0 hf2; exact absurd hfu (by omega)
              | succ k ih =>
                intro i f1 f2 M H locs ls hfu hi hf1 hf0 hf2 hw hk hH hl
                refine lv_iload_n hx hb d_md_word_86 rfl (lv_at hl 0 rfl) ?_
                refine lv_aload_n hx hb d_md_word_87 rfl (lv_at hl 1 rfl) ?_
                refine hm_get E (tB in_md) hK hH (hw.at 0 rfl) rfl 14 (by decide) (tC wm_381) rfl d_md_word_88 ?_
                refine hn_icmp_ge (a := i) (b := dn) hx hb (by omega) (by omega) (tgt := 136) d_md_word_91 (by decide) (fun h91 => ?_) (fun h91 => ?_)
                · skip
                  have hie2 : i = dn := by omega
                  rw [hie2] at hf1 hf2
                  refine lv_aload_n hx hb d_md_word_136 rfl (lv_at hl 1 rfl) ?_
                  refine hm_get E (tB in_md) hK hH (hw.at 0 rfl) rfl 15 (by decide) (tC wm_382) rfl d_md_word_137 ?_
                  refine lv_iconst (v := 0) hx hb d_md_word_140 (by decide) ?_
                  refine lv_bipush (v := 46) hx hb d_md_word_141 (by decide) ?_
                  refine hm_iast E hK hH 0 (hw.at 8 rfl) rfl (i := 0) (by omega) (by decide) d_md_word_143 (fun H locs hH => ?_)
                  have hw := hw.set (ws' := [(y, .inr (4, [.int (nI th), .int (nI dn), .ref d, .int (nI np), .ref be, .ref sg, .ref nu, .int (nI bg), .int (nI nx), .ref fi, .ref le, .ref pl, .int (nI lf), .int (nI rt), .int (nI dn), .ref rw, .ref va, .int (bI true)])), (d, aI G 200 dr), (be, aI G 8194 fb), (sg, aI G 40000 fs), (nu, aI G 48200 fn), (fi, aI G 2050 ff), (le, aI G 40000 f2), (pl, aJ G 2048 fp), (rw, aI G 66 (upd f1 0 46)), (va, aI G 66 fv)]) (k := 8) rfl rfl
                  have hk := hk.wr (a := rw) (v := some (aI G 66 (upd f1 0 46))) (by first | (right; assumption) | (left; simp; done))
                  generalize va_up M rw (some (aI G 66 (upd f1 0 46))) = M at hH hw hk ⊢
                  refine lv_aload_n hx hb d_md_word_144 rfl (lv_at hl 1 rfl) ?_
                  refine hm_get E (tB in_md) hK hH (hw.at 0 rfl) rfl 15 (by decide) (tC wm_382) rfl d_md_word_145 ?_
                  refine lv_aload_n hx hb d_md_word_148 rfl (lv_at hl 1 rfl) ?_
                  refine hm_get E (tB in_md) hK hH (hw.at 0 rfl) rfl 14 (by decide) (tC wm_381) rfl d_md_word_149 ?_
                  refine lv_iconst (v := 1) hx hb d_md_word_152 (by decide) ?_
                  refine hn_iadd hx hb (a := dn) (b := 1) d_md_word_153 ?_
                  refine lv_bipush (v := 46) hx hb d_md_word_154 (by decide) ?_
                  refine hm_iast E hK hH 0 (hw.at 8 rfl) rfl (i := dn + 1) (by omega) (by decide) d_md_word_156 (fun H locs hH => ?_)
                  have hw := hw.set (ws' := [(y, .inr (4, [.int (nI th), .int (nI dn), .ref d, .int (nI np), .ref be, .ref sg, .ref nu, .int (nI bg), .int (nI nx), .ref fi, .ref le, .ref pl, .int (nI lf), .int (nI rt), .int (nI dn), .ref rw, .ref va, .int (bI true)])), (d, aI G 200 dr), (be, aI G 8194 fb), (sg, aI G 40000 fs), (nu, aI G 48200 fn), (fi, aI G 2050 ff), (le, aI G 40000 f2), (pl, aJ G 2048 fp), (rw, aI G 66 (upd (upd f1 0 46) (dn + 1) 46)), (va, aI G 66 fv)]) (k := 8) rfl rfl
                  have hk := hk.wr (a := rw) (v := some (aI G 66 (upd (upd f1 0 46) (dn + 1) 46))) (by first | (right; assumption) | (left; simp; done))
                  generalize va_up M rw (some (aI G 66 (upd (upd f1 0 46) (dn + 1) 46))) = M at hH hw hk ⊢
                  refine lv_iconst (v := 0) hx hb d_md_word_157 (by decide) ?_
                  refine lv_istore_n (lv' := [(2, .int 0), (0, .ref y)]) hx hb d_md_word_158 rfl hl (by decide) rfl (fun ls hl => ?_)
                  have L159 : ∀ (k : Nat) (i : Nat) (g : Nat → Int32) (M : hM) (H : Heap) (locs : List Loc) (ls : Array Slot), 67 ≤ i + k → i ≤ 66 → (∀ j, j < i → g j = 0) → hm_has M [(y, .inr (4, [.int (nI th), .int (nI dn), .ref d, .int (nI np), .ref be, .ref sg, .ref nu, .int (nI bg), .int (nI nx), .ref fi, .ref le, .ref pl, .int (nI lf), .int (nI rt), .int (nI dn), .ref rw, .ref va, .int (bI true)])), (d, aI G 200 dr), (be, aI G 8194 fb), (sg, aI G 40000 fs), (nu, aI G 48200 fn), (fi, aI G 2050 ff), (le, aI G 40000 f2), (pl, aJ G 2048 fp), (rw, aI G 66 (upd (upd f1 0 46) (dn + 1) 46)), (va, aI G 66 g)] → hm_kp (fun a => a ∈ [y, le, rw, va]) M0 M → hm_I G.1 vwC A s.heap M H locs → lv_has ls 7 [(2, .int (nI i)), (0, .ref y)] → W p l e { frames := 1, cells := 0, slots := 0, locals := 25 } s m ([.ref y] : List Value).toArray below meth c H locs 0 0 (MQ below (hm_Q G.1 vwC (q_md_word G y th dn d np be sg nu bg nx fi le pl lf rt ln rw va ak dr fb fs fn ff fl fr fv fp o ox M0) A) ([.ref y] : List Value).toArray s 0 0 A) (F0 m 159 ls []) := by
                    intro k
                    induction k with
                    | zero => intro i g M H locs ls hfu hi hgz; exact absurd hfu (by omega)
                    | succ k ih =>
                      intro i g M H locs ls hfu hi hgz hw hk hH hl
                      refine lv_iload_n hx hb d_md_word_159 rfl (lv_at hl 0 rfl) ?_
                      refine lv_bipush (v := 66) hx hb d_md_word_160 (by decide) ?_
                      refine hn_icmp_ge (a := i) (b := 66) hx hb (by omega) (by omega) (tgt := 178) d_md_word_162 (by decide) (fun h162 => ?_) (fun h162 => ?_)
                      · skip
                        have hi66 : i = 66 := by omega
                        have hH := hm_ext (g := fun _ => 0) hH (hw.at 9 rfl) (fun j hj => hgz j (by omega))
                        have hw := hw.set (ws' := [(y, .inr (4, [.int (nI th), .int (nI dn), .ref d, .int (nI np), .ref be, .ref sg, .ref nu, .int (nI bg), .int (nI nx), .ref fi, .ref le, .ref pl, .int (nI lf), .int (nI rt), .int (nI dn), .ref rw, .ref va, .int (bI true)])), (d, aI G 200 dr), (be, aI G 8194 fb), (sg, aI G 40000 fs), (nu, aI G 48200 fn), (fi, aI G 2050 ff), (le, aI G 40000 f2), (pl, aJ G 2048 fp), (rw, aI G 66 (upd (upd f1 0 46) (dn + 1) 46)), (va, aI G 66 (fun _ => 0))]) (k := 9) rfl rfl
                        have hk := hk.wr (a := va) (v := some (aI G 66 (fun _ => 0))) (Or.inl (by simp))
                        generalize va_up M va (some (aI G 66 (fun _ => 0))) = M at hH hw hk
                        refine lv_iconst (v := 0) hx hb d_md_word_178 (by decide) ?_
                        refine lv_istore_n (lv' := [(2, .int 0), (0, .ref y)]) hx hb d_md_word_179 rfl hl (by decide) rfl (fun ls hl => ?_)
                        have L180 : ∀ (k : Nat) (p0 : Nat) (v : Nat → Int32) (M : hM) (H : Heap) (locs : List Loc) (ls : Array Slot), np + 1 ≤ p0 + k → p0 ≤ np → vMax (wT o fs fn (upd (upd f1 0 46) (dn + 1) 46) (dn + 2) p0 0) (dn + 2) v → hm_has M [(y, .inr (4, [.int (nI th), .int (nI dn), .ref d, .int (nI np), .ref be, .ref sg, .ref nu, .int (nI bg), .int (nI nx), .ref fi, .ref le, .ref pl, .int (nI lf), .int (nI rt), .int (nI dn), .ref rw, .ref va, .int (bI true)])), (d, aI G 200 dr), (be, aI G 8194 fb), (sg, aI G 40000 fs), (nu, aI G 48200 fn), (fi, aI G 2050 ff), (le, aI G 40000 f2), (pl, aJ G 2048 fp), (rw, aI G 66 (upd (upd f1 0 46) (dn + 1) 46)), (va, aI G 66 v)] → hm_kp (fun a => a ∈ [y, le, rw, va]) M0 M → hm_I G.1 vwC A s.heap M H locs → lv_has ls 7 [(2, .int (nI p0)), (0, .ref y)] → W p l e { frames := 1, cells := 0, slots := 0, locals := 25 } s m ([.ref y] : List Value).toArray below meth c H locs 0 0 (MQ below (hm_Q G.1 vwC (q_md_word G y th dn d np be sg nu bg nx fi le pl lf rt ln rw va ak dr fb fs fn ff fl fr fv fp o ox M0) A) ([.ref y] : List Value).toArray s 0 0 A) (F0 m 180 ls []) := by
                          intro k
                          induction k with
                          | zero => intro p0 v M H locs ls hfu hp0 hv; exact absurd hfu (by omega)
                          | succ k ih =>
                            intro p0 v M H locs ls hfu hp0 hv hw hk hH hl
                            refine lv_iload_n hx hb d_md_word_180 rfl (lv_at hl 0 rfl) ?_
                            refine lv_aload_n hx hb d_md_word_181 rfl (lv_at hl 1 rfl) ?_
                            refine hm_get E (tB in_md) hK hH (hw.at 0 rfl) rfl 3 (by decide) (tC wm_370) rfl d_md_word_182 ?_
                            refine hn_icmp_ge (a := p0) (b := np) hx hb (by omega) (by omega) (tgt := 234) d_md_word_185 (by decide) (fun h185 => ?_) (fun h185 => ?_)
                            · skip
                              have hpe : p0 = np := by omega
                              rw [hpe] at hv
                              refine lv_aload_n hx hb d_md_word_234 rfl (lv_at hl 1 rfl) ?_
                              refine lv_aload_n hx hb d_md_word_235 rfl (lv_at hl 1 rfl) ?_
                              refine hm_get E (tB in_md) hK hH (hw.at 0 rfl) rfl 14 (by decide) (tC wm_381) rfl d_md_word_236 ?_
                              have hM1 := c_md_find l G y th dn d np be sg nu bg nx fi le pl lf rt dn rw va true ff f2 ox dn M (hw.sub (ws' := [(y, .inr (4, [.int (nI th), .int (nI dn), .ref d, .int (nI np), .ref be, .ref sg, .ref nu, .int (nI bg), .int (nI nx), .ref fi, .ref le, .ref pl, .int (nI lf), .int (nI rt), .int (nI dn), .ref rw, .ref va, .int (bI true)])), (fi, aI G 2050 ff), (le, aI G 40000 f2)]) [0, 5, 6] rfl rfl) hff hxo hxl (by omega) (by omega) (by omega) H.size
                              have hG1 : GoodIn w_md_word (wsV R_md 84 R_md y_md_find w_md_find) := gB_V wm_459 wm_461 wp_13 wm_5 wm_462
                              refine hm_call (va_runV (y := y_md_find) (bytes := b_md_find) (maxL := 5) (ws := w_md_find) (rm := { frames := 0, cells := 0, slots := 0, locals := 0 }) (own := R_md) (index := 84) (ret := (Option.some Jvm.ClassFile.FieldType.int)) (C := R_md) (As := [.int (nI dn)]) (rest := []) E hM1 (cwV (y := y_md_find) (bytes := b_md_find) (maxL := 5) (ws := w_md_find) (rm := { frames := 0, cells := 0, slots := 0, locals := 0 }) (own := R_md) (index := 84) (ret := (Option.some Jvm.ClassFile.FieldType.int)) (C := R_md) 1 hts hG1 rfl rfl rfl (by decide +kernel) ⟨Nat.le_of_ble_eq_true rfl, Nat.le_of_ble_eq_true rfl⟩) (hm_preV gk_w gk_s hH hg hK (hw.at 0 rfl) rfl [.int (nI dn)]) rfl rfl hl.1 rfl (lv_room (Nat.le_of_ble_eq_true rfl)) d_md_word_239 ⟨(by show _ ≤ 0; omega), (by show _ ≤ 0; omega)⟩) hH (fun r1 M1 H1 locs1 hq1 hH1 => ?_)
                              replace hH := hH1; clear hH1; generalize H1 = H at hH ⊢; generalize locs1 = locs at hH ⊢
                              obtain ⟨e9, rfl, he9, hfd, hnf, e8⟩ := hq1
                              rw [e8] at hH
                              refine lv_istore_n (lv' := [(2, .int (nI e9)), (0, .ref y)]) hx hb d_md_word_242 rfl hl (by decide) rfl (fun ls hl => ?_)
                              refine lv_lconst (v := 0) hx hb d_md_word_243 (by decide) ?_
                              refine lv_lstore_n (lv' := [(3, .long 0), (2, .int (nI e9)), (0, .ref y)]) hx hb d_md_word_244 rfl hl (by decide) rfl (fun ls hl => ?_)
                              refine lv_iconst (v := 1) hx hb d_md_word_245 (by decide) ?_
                              refine lv_istore (lv' := [(5, .int 1), (3, .long 0), (2, .int (nI e9)), (0, .ref y)]) hx hb d_md_word_246 hl (by decide) rfl (fun ls hl => ?_)
                              have L248 : ∀ (k : Nat) (k9 : Nat) (cu : Int64) (H : Heap) (locs : List Loc) (ls : Array Slot), dn + 1 ≤ k9 + k → 1 ≤ k9 → k9 ≤ dn → cu = cutN (cuW lf rt dn (mbF nx e9 fp v)) k9 → hm_I G.1 vwC A s.heap M H locs → lv_has ls 7 [(5, .int (nI k9)), (3, .long cu), (2, .int (nI e9)), (0, .ref y)] → W p l e { frames := 1, cells := 0, slots := 0, locals := 25 } s m ([.ref y] : List Value).toArray below meth c H locs 0 0 (MQ below (hm_Q G.1 vwC (q_md_word G y th dn d np be sg nu bg nx fi le pl lf rt ln rw va ak dr fb fs fn ff fl fr fv fp o ox M0) A) ([.ref y] : List Value).toArray s 0 0 A) (F0 m 248 ls []) := by
                                intro k
                                induction k with
                                | zero => intro k9 cu H locs ls hfu hk1 hkn hcu; exact absurd hfu (by omega)
                                | succ k ih =>
                                  intro k9 cu H locs ls hfu hk1 hkn hcu hH hl
                                  refine lv_iload hx hb d_md_word_248 (lv_at hl 0 rfl) ?_
                                  refine lv_aload_n hx hb d_md_word_250 rfl (lv_at hl 3 rfl) ?_
                                  refine hm_get E (tB in_md) hK hH (hw.at 0 rfl) rfl 14 (by decide) (tC wm_381) rfl d_md_word_251 ?_
                                  refine hn_icmp_ge (a := k9) (b := dn) hx hb (by omega) (by omega) (tgt := 356) d_md_word_254 (by decide) (fun h254 => ?_) (fun h254 => ?_)
                                  · skip
                                    have hke : k9 = dn := by omega
                                    rw [hke] at hcu
                                    refine lv_aload_n hx hb d_md_word_356 rfl (lv_at hl 3 rfl) ?_
                                    refine lv_iconst (v := 0) hx hb d_md_word_357 (by decide) ?_
                                    have hM1 := c_md_fails l G y th dn d np be sg nu bg nx fi le pl lf rt dn rw va true 0 M (hw.sub (ws' := [(y, .inr (4, [.int (nI th), .int (nI dn), .ref d, .int (nI np), .ref be, .ref sg, .ref nu, .int (nI bg), .int (nI nx), .ref fi, .ref le, .ref pl, .int (nI lf), .int (nI rt), .int (nI dn), .ref rw, .ref va, .int (bI true)]))]) [0] rfl rfl) H.size
                                    have hG1 : GoodIn w_md_word (wsV R_md 69 R_md y_md_fails w_md_fails) := gB_V wm_446 wm_448 wp_11 wm_5 wm_449
                                    refine hm_call (va_runV (y := y_md_fails) (bytes := b_md_fails) (maxL := 2) (ws := w_md_fails) (rm := { frames := 0, cells := 0, slots := 0, locals := 0 }) (own := R_md) (index := 69) (ret := (Option.some Jvm.ClassFile.FieldType.int)) (C := R_md) (As := [.int 0]) (rest := []) E hM1 (cwV (y := y_md_fails) (bytes := b_md_fails) (maxL := 2) (ws := w_md_fails) (rm := { frames := 0, cells := 0, slots := 0, locals := 0 }) (own := R_md) (index := 69) (ret := (Option.some Jvm.ClassFile.FieldType.int)) (C := R_md) 1 hts hG1 rfl rfl rfl (by decide +kernel) ⟨Nat.le_of_ble_eq_true rfl, Nat.le_of_ble_eq_true rfl⟩) (hm_preV gk_w gk_s hH hg hK (hw.at 0 rfl) rfl [.int 0]) rfl rfl hl.1 rfl (lv_room (Nat.le_of_ble_eq_true rfl)) d_md_word_358 ⟨(by show _ ≤ 0; omega), (by show _ ≤ 0; omega)⟩) hH (fun r1 M1 H1 locs1 hq1 hH1 => ?_)
                                    replace hH := hH1; clear hH1; generalize H1 = H at hH ⊢; generalize locs1 = locs at hH ⊢
                                    obtain ⟨rfl, hw1, hk1⟩ := hq1
                                    have hw := hm_join (ws' := [(y, .inr (4, [.int (nI 0), .int (nI 0), .ref d, .int (nI np), .ref be, .ref sg, .ref nu, .int (nI bg), .int (nI nx), .ref fi, .ref le, .ref pl, .int (nI lf), .int (nI rt), .int (nI dn), .ref rw, .ref va, .int (bI true)])), (d, aI G 200 dr), (be, aI G 8194 fb), (sg, aI G 40000 fs), (nu, aI G 48200 fn), (fi, aI G 2050 ff), (le, aI G 40000 f2), (pl, aJ G 2048 fp), (rw, aI G 66 (upd (upd f1 0 46) (dn + 1) 46)), (va, aI G 66 v)]) (wc := [(y, .inr (4, [.int (nI th), .int (nI dn), .ref d, .int (nI np), .ref be, .ref sg, .ref nu, .int (nI bg), .int (nI nx), .ref fi, .ref le, .ref pl, .int (nI lf), .int (nI rt), .int (nI dn), .ref rw, .ref va, .int (bI true)]))]) hw hw1 hk1 [0] rfl rfl (fun a h => h) rfl (by
                                      intro k9 h9
                                      match k9, h9 with
                                      | 0, _ => exact Or.inr ⟨0, rfl, rfl⟩
                                      | 1, _ => exact Or.inl ⟨by decide, rfl⟩
                                      | 2, _ => exact Or.inl ⟨by decide, rfl⟩
                                      | 3, _ => exact Or.inl ⟨by decide, rfl⟩
                                      | 4, _ => exact Or.inl ⟨by decide, rfl⟩
                                      | 5, _ => exact Or.inl ⟨by decide, rfl⟩
                                      | 6, _ => exact Or.inl ⟨by decide, rfl⟩
                                      | 7, _ => exact Or.inl ⟨by decide, rfl⟩
                                      | 8, _ => exact Or.inl ⟨by decide, rfl⟩
                                      | 9, _ => exact Or.inl ⟨by decide, rfl⟩
                                      | k9 + 10, h9 => exact absurd h9 (Nat.not_lt_of_le (Nat.le_add_left _ _)))
                                    have hk := hk.tr hk1 (fun a h => by simp at h; subst h; simp)
                                    generalize M1 = M at hH hw hk
                                    refine lv_pop hx hb d_md_word_361 rfl ?_
                                    refine lv_lload_n hx hb d_md_word_362 rfl (lv_at hl 1 rfl) ?_
                                    exact hm_lret E hr hlk hH (Or.inr ⟨upd (upd f1 0 46) (dn + 1) 46, f2, v, e9, hok, row_end hf1, hf0, hf2, hv, he9, hfd, hnf, by rw [hcu, cw_end hr1 (by omega)], hw, hk⟩) (by omega) (by omega) d_md_word_363
                                  · skip
                                    refine lv_iload_n hx hb d_md_word_257 rfl (lv_at hl 2 rfl) ?_
                                    refine lv_aload_n hx hb d_md_word_258 rfl (lv_at hl 3 rfl) ?_
                                    refine hm_get E (tB in_md) hK hH (hw.at 0 rfl) rfl 8 (by decide) (tC wm_375) rfl d_md_word_259 ?_
                                    refine hn_icmp_ge (a := e9) (b := nx) hx hb (by omega) (by omega) (tgt := 289) d_md_word_262 (by decide) (fun h262 => ?_) (fun h262 => ?_)
                                    · skip
                                      refine lv_aload_n hx hb d_md_word_289 rfl (lv_at hl 3 rfl) ?_
                                      refine hm_get E (tB in_md) hK hH (hw.at 0 rfl) rfl 16 (by decide) (tC wm_383) rfl d_md_word_290 ?_
                                      refine lv_iload hx hb d_md_word_293 (lv_at hl 0 rfl) ?_
                                      refine lv_iconst (v := 1) hx hb d_md_word_295 (by decide) ?_
                                      refine hn_iadd hx hb (a := k9) (b := 1) d_md_word_296 ?_
                                      refine hm_iald E hK hH 0 (hw.at 9 rfl) rfl (i := k9 + 1) (by omega) (by decide) d_md_word_297 ?_
                                      refine lv_iconst (v := 2) hx hb d_md_word_298 (by decide) ?_
                                      refine lv_irem hx hb d_md_word_299 (by decide) ?_
                                      refine lv_iconst (v := 1) hx hb d_md_word_300 (by decide) ?_
                                      refine hc_icmp_ne (x := (v (k9 + 1)) - (v (k9 + 1)) / 2 * 2) (y := 1) (c9 := 1) hx hb (by decide) (tgt := 308) d_md_word_301 (by decide) (fun h301 => ?_) (fun h301 => ?_)
                                      · skip
                                        refine lv_iconst (v := 0) hx hb d_md_word_308 (by decide) ?_
                                        refine lv_istore (lv' := [(6, .int 0), (5, .int (nI k9)), (3, .long cu), (2, .int (nI e9)), (0, .ref y)]) hx hb d_md_word_309 hl (by decide) rfl (fun ls hl => ?_)
                                        refine lv_iload hx hb d_md_word_311 (lv_at hl 0 rfl) ?_
                                        refine hn_if_eq (a := 0) hx hb (by omega) (tgt := 348) d_md_word_313 (by decide) (fun h9c => ?_) (fun h9c => ?_)
                                        · skip
                                          refine lv_lload_n hx hb d_md_word_348 rfl (lv_at hl 2 rfl) ?_
                                          refine lv_lstore_n (lv' := [(3, .long cu), (6, .int 0), (5, .int (nI k9)), (2, .int (nI e9)), (0, .ref y)]) hx hb d_md_word_349 rfl hl (by decide) rfl (fun ls hl => ?_)
                                          refine lv_iinc (v := nI (k9 + 1)) (lv' := [(5, .int (nI (k9 + 1))), (3, .long cu), (6, .int 0), (2, .int (nI e9)), (0, .ref y)]) hx hb d_md_word_350 hl (k := 2) rfl (by first | exact nI_add _ 1 | (show nI _ + nI _ = _; rw [nI_add])) (by decide) rfl (fun ls hl => ?_)
                                          refine lv_goto (tgt := 248) hx hb d_md_word_353 (by decide) ?_
                                          exact ih (k9 + 1) _ _ _ _ (by omega) (by omega) (by omega) (by rw [hcu]; exact cw_n (cu_f1 (by rw [mb_o h262]; exact decide_eq_false h301))) hH (lv_sub hl [0, 1, 3, 4] rfl)
                                        · skip
                                          exact absurd h9c (by decide)
                                      · skip
                                        refine lv_iconst (v := 1) hx hb d_md_word_304 (by decide) ?_
                                        refine lv_goto (tgt := 309) hx hb d_md_word_305 (by decide) ?_
                                        refine lv_istore (lv' := [(6, .int 1), (5, .int (nI k9)), (3, .long cu), (2, .int (nI e9)), (0, .ref y)]) hx hb d_md_word_309 hl (by decide) rfl (fun ls hl => ?_)
                                        refine lv_iload hx hb d_md_word_311 (lv_at hl 0 rfl) ?_
                                        refine hn_if_eq (a := 1) hx hb (by omega) (tgt := 348) d_md_word_313 (by decide) (fun h9c => ?_) (fun h9c => ?_)
                                        · skip
                                          exact absurd h9c (by decide)
                                        · skip
                                          refine lv_iload hx hb d_md_word_316 (lv_at hl 1 rfl) ?_
                                          refine lv_aload_n hx hb d_md_word_318 rfl (lv_at hl 4 rfl) ?_
                                          refine hm_get E (tB in_md) hK hH (hw.at 0 rfl) rfl 12 (by decide) (tC wm_379) rfl d_md_word_319 ?_
                                          refine hn_icmp_lt (a := k9) (b := lf) hx hb (by omega) (by omega) (tgt := 348) d_md_word_322 (by decide) (fun h322 => ?_) (fun h322 => ?_)
                                          · skip
                                            refine lv_lload_n hx hb d_md_word_348 rfl (lv_at hl 2 rfl) ?_
                                            refine lv_lstore_n (lv' := [(3, .long cu), (6, .int 1), (5, .int (nI k9)), (2, .int (nI e9)), (0, .ref y)]) hx hb d_md_word_349 rfl hl (by decide) rfl (fun ls hl => ?_)
                                            refine lv_iinc (v := nI (k9 + 1)) (lv' := [(5, .int (nI (k9 + 1))), (3, .long cu), (6, .int 1), (2, .int (nI e9)), (0, .ref y)]) hx hb d_md_word_350 hl (k := 2) rfl (by first | exact nI_add _ 1 | (show nI _ + nI _ = _; rw [nI_add])) (by decide) rfl (fun ls hl => ?_)
                                            refine lv_goto (tgt := 248) hx hb d_md_word_353 (by decide) ?_
                                            exact ih (k9 + 1) _ _ _ _ (by omega) (by omega) (by omega) (by rw [hcu]; exact cw_n (cu_f2 h322)) hH (lv_sub hl [0, 1, 3, 4] rfl)
                                          · skip
                                            refine lv_aload_n hx hb d_md_word_325 rfl (lv_at hl 4 rfl) ?_
                                            refine hm_get E (tB in_md) hK hH (hw.at 0 rfl) rfl 14 (by decide) (tC wm_381) rfl d_md_word_326 ?_
                                            refine lv_iload hx hb d_md_word_329 (lv_at hl 1 rfl) ?_
                                            refine hn_isub hx hb (a := dn) (b := k9) (by omega) d_md_word_331 ?_
                                            refine lv_aload_n hx hb d_md_word_332 rfl (lv_at hl 4 rfl) ?_
                                            refine hm_get E (tB in_md) hK hH (hw.at 0 rfl) rfl 13 (by decide) (tC wm_380) rfl d_md_word_333 ?_
                                            refine hn_icmp_lt (a := dn - k9) (b := rt) hx hb (by omega) (by omega) (tgt := 348) d_md_word_336 (by decide) (fun h336 => ?_) (fun h336 => ?_)
                                            · skip
                                              refine lv_lload_n hx hb d_md_word_348 rfl (lv_at hl 2 rfl) ?_
                                              refine lv_lstore_n (lv' := [(3, .long cu), (6, .int 1), (5, .int (nI k9)), (2, .int (nI e9)), (0, .ref y)]) hx hb d_md_word_349 rfl hl (by decide) rfl (fun ls hl => ?_)
                                              refine lv_iinc (v := nI (k9 + 1)) (lv' := [(5, .int (nI (k9 + 1))), (3, .long cu), (6, .int 1), (2, .int (nI e9)), (0, .ref y)]) hx hb d_md_word_350 hl (k := 2) rfl (by first | exact nI_add _ 1 | (show nI _ + nI _ = _; rw [nI_add])) (by decide) rfl (fun ls hl => ?_)
                                              refine lv_goto (tgt := 248) hx hb d_md_word_353 (by decide) ?_
                                              exact ih (k9 + 1) _ _ _ _ (by omega) (by omega) (by omega) (by rw [hcu]; exact cw_n (cu_f3 (by omega))) hH (lv_sub hl [0, 1, 3, 4] rfl)
                                            · skip
                                              refine lv_lload_n hx hb d_md_word_339 rfl (lv_at hl 2 rfl) ?_
                                              refine lv_lconst (v := 1) hx hb d_md_word_340 (by decide) ?_
                                              refine lv_iload hx hb d_md_word_341 (lv_at hl 1 rfl) ?_
                                              refine lv_lshl hx hb d_md_word_343 rfl ?_
                                              refine lv_lor hx hb d_md_word_344 ?_
                                              refine lv_goto (tgt := 349) hx hb d_md_word_345 (by decide) ?_
                                              refine lv_lstore_n (lv' := [(3, .long (cu ||| (1 <<< ((nI k9).toInt64 &&& 63)))), (6, .int 1), (5, .int (nI k9)), (2, .int (nI e9)), (0, .ref y)]) hx hb d_md_word_349 rfl hl (by decide) rfl (fun ls hl => ?_)
                                              refine lv_iinc (v := nI (k9 + 1)) (lv' := [(5, .int (nI (k9 + 1))), (3, .long (cu ||| (1 <<< ((nI k9).toInt64 &&& 63)))), (6, .int 1), (2, .int (nI e9)), (0, .ref y)]) hx hb d_md_word_350 hl (k := 2) rfl (by first | exact nI_add _ 1 | (show nI _ + nI _ = _; rw [nI_add])) (by decide) rfl (fun ls hl => ?_)
                                              refine lv_goto (tgt := 248) hx hb d_md_word_353 (by decide) ?_
                                              exact ih (k9 + 1) _ _ _ _ (by omega) (by omega) (by omega) (by rw [hcu]; exact cw_y (cu_t (by rw [mb_o h262]; exact decide_eq_true h301) h322 (by omega))) hH (lv_sub hl [0, 1, 3, 4] rfl)
                                    · skip
                                      refine lv_aload_n hx hb d_md_word_265 rfl (lv_at hl 3 rfl) ?_
                                      refine hm_get E (tB in_md) hK hH (hw.at 0 rfl) rfl 11 (by decide) (tC wm_378) rfl d_md_word_266 ?_
                                      refine lv_iload_n hx hb d_md_word_269 rfl (lv_at hl 2 rfl) ?_
                                      refine hm_lald E hK hH 1 (hw.at 7 rfl) rfl (i := e9) (by omega) (by decide) d_md_word_270 ?_
                                      refine lv_iload hx hb d_md_word_271 (lv_at hl 0 rfl) ?_
                                      refine lv_lshr hx hb d_md_word_273 rfl ?_
                                      refine lv_lconst (v := 1) hx hb d_md_word_274 (by decide) ?_
                                      refine lv_land hx hb d_md_word_275 ?_
                                      refine lv_lconst (v := 1) hx hb d_md_word_276 (by decide) ?_
                                      refine hm_lcmp (x := ((fp e9) >>> ((nI k9).toInt64 &&& 63)) &&& 1) (y := 1) hx hb d_md_word_277 (fun z9 hz9 => ?_)
                                      refine hc_if_ne (x := z9) hx hb (tgt := 285) d_md_word_278 (by decide) (fun h278 => ?_) (fun h278 => ?_)
                                      · skip
                                        refine lv_iconst (v := 0) hx hb d_md_word_285 (by decide) ?_
                                        refine lv_goto (tgt := 309) hx hb d_md_word_286 (by decide) ?_
                                        refine lv_istore (lv' := [(6, .int 0), (5, .int (nI k9)), (3, .long cu), (2, .int (nI e9)), (0, .ref y)]) hx hb d_md_word_309 hl (by decide) rfl (fun ls hl => ?_)
                                        refine lv_iload hx hb d_md_word_311 (lv_at hl 0 rfl) ?_
                                        refine hn_if_eq (a := 0) hx hb (by omega) (tgt := 348) d_md_word_313 (by decide) (fun h9c => ?_) (fun h9c => ?_)
                                        · skip
                                          refine lv_lload_n hx hb d_md_word_348 rfl (lv_at hl 2 rfl) ?_
                                          refine lv_lstore_n (lv' := [(3, .long cu), (6, .int 0), (5, .int (nI k9)), (2, .int (nI e9)), (0, .ref y)]) hx hb d_md_word_349 rfl hl (by decide) rfl (fun ls hl => ?_)
                                          refine lv_iinc (v := nI (k9 + 1)) (lv' := [(5, .int (nI (k9 + 1))), (3, .long cu), (6, .int 0), (2, .int (nI e9)), (0, .ref y)]) hx hb d_md_word_350 hl (k := 2) rfl (by first | exact nI_add _ 1 | (show nI _ + nI _ = _; rw [nI_add])) (by decide) rfl (fun ls hl => ?_)
                                          refine lv_goto (tgt := 248) hx hb d_md_word_353 (by decide) ?_
                                          exact ih (k9 + 1) _ _ _ _ (by omega) (by omega) (by omega) (by rw [hcu]; exact cw_n (cu_f1 (by rw [mb_b h262]; exact decide_eq_false (fun z => h278 (hz9.mpr z))))) hH (lv_sub hl [0, 1, 3, 4] rfl)
                                        · skip
                                          exact absurd h9c (by decide)
                                      · skip
                                        refine lv_iconst (v := 1) hx hb d_md_word_281 (by decide) ?_
                                        refine lv_goto (tgt := 309) hx hb d_md_word_282 (by decide) ?_
                                        refine lv_istore (lv' := [(6, .int 1), (5, .int (nI k9)), (3, .long cu), (2, .int (nI e9)), (0, .ref y)]) hx hb d_md_word_309 hl (by decide) rfl (fun ls hl => ?_)
                                        refine lv_iload hx hb d_md_word_311 (lv_at hl 0 rfl) ?_
                                        refine hn_if_eq (a := 1) hx hb (by omega) (tgt := 348) d_md_word_313 (by decide) (fun h9c => ?_) (fun h9c => ?_)
                                        · skip
                                          exact absurd h9c (by decide)
                                        · skip
                                          refine lv_iload hx hb d_md_word_316 (lv_at hl 1 rfl) ?_
                                          refine lv_aload_n hx hb d_md_word_318 rfl (lv_at hl 4 rfl) ?_
                                          refine hm_get E (tB in_md) hK hH (hw.at 0 rfl) rfl 12 (by decide) (tC wm_379) rfl d_md_word_319 ?_
                                          refine hn_icmp_lt (a := k9) (b := lf) hx hb (by omega) (by omega) (tgt := 348) d_md_word_322 (by decide) (fun h322 => ?_) (fun h322 => ?_)
                                          · skip
                                            refine lv_lload_n hx hb d_md_word_348 rfl (lv_at hl 2 rfl) ?_
                                            refine lv_lstore_n (lv' := [(3, .long cu), (6, .int 1), (5, .int (nI k9)), (2, .int (nI e9)), (0, .ref y)]) hx hb d_md_word_349 rfl hl (by decide) rfl (fun ls hl => ?_)
                                            refine lv_iinc (v := nI (k9 + 1)) (lv' := [(5, .int (nI (k9 + 1))), (3, .long cu), (6, .int 1), (2, .int (nI e9)), (0, .ref y)]) hx hb d_md_word_350 hl (k := 2) rfl (by first | exact nI_add _ 1 | (show nI _ + nI _ = _; rw [nI_add])) (by decide) rfl (fun ls hl => ?_)
                                            refine lv_goto (tgt := 248) hx hb d_md_word_353 (by decide) ?_
                                            exact ih (k9 + 1) _ _ _ _ (by omega) (by omega) (by omega) (by rw [hcu]; exact cw_n (cu_f2 h322)) hH (lv_sub hl [0, 1, 3, 4] rfl)
                                          · skip
                                            refine lv_aload_n hx hb d_md_word_325 rfl (lv_at hl 4 rfl) ?_
                                            refine hm_get E (tB in_md) hK hH (hw.at 0 rfl) rfl 14 (by decide) (tC wm_381) rfl d_md_word_326 ?_
                                            refine lv_iload hx hb d_md_word_329 (lv_at hl 1 rfl) ?_
                                            refine hn_isub hx hb (a := dn) (b := k9) (by omega) d_md_word_331 ?_
                                            refine lv_aload_n hx hb d_md_word_332 rfl (lv_at hl 4 rfl) ?_
                                            refine hm_get E (tB in_md) hK hH (hw.at 0 rfl) rfl 13 (by decide) (tC wm_380) rfl d_md_word_333 ?_
                                            refine hn_icmp_lt (a := dn - k9) (b := rt) hx hb (by omega) (by omega) (tgt := 348) d_md_word_336 (by decide) (fun h336 => ?_) (fun h336 => ?_)
                                            · skip
                                              refine lv_lload_n hx hb d_md_word_348 rfl (lv_at hl 2 rfl) ?_
                                              refine lv_lstore_n (lv' := [(3, .long cu), (6, .int 1), (5, .int (nI k9)), (2, .int (nI e9)), (0, .ref y)]) hx hb d_md_word_349 rfl hl (by decide) rfl (fun ls hl => ?_)
                                              refine lv_iinc (v := nI (k9 + 1)) (lv' := [(5, .int (nI (k9 + 1))), (3, .long cu), (6, .int 1), (2, .int (nI e9)), (0, .ref y)]) hx hb d_md_word_350 hl (k := 2) rfl (by first | exact nI_add _ 1 | (show nI _ + nI _ = _; rw [nI_add])) (by decide) rfl (fun ls hl => ?_)
                                              refine lv_goto (tgt := 248) hx hb d_md_word_353 (by decide) ?_
                                              exact ih (k9 + 1) _ _ _ _ (by omega) (by omega) (by omega) (by rw [hcu]; exact cw_n (cu_f3 (by omega))) hH (lv_sub hl [0, 1, 3, 4] rfl)
                                            · skip
                                              refine lv_lload_n hx hb d_md_word_339 rfl (lv_at hl 2 rfl) ?_
                                              refine lv_lconst (v := 1) hx hb d_md_word_340 (by decide) ?_
                                              refine lv_iload hx hb d_md_word_341 (lv_at hl 1 rfl) ?_
                                              refine lv_lshl hx hb d_md_word_343 rfl ?_
                                              refine lv_lor hx hb d_md_word_344 ?_
                                              refine lv_goto (tgt := 349) hx hb d_md_word_345 (by decide) ?_
                                              refine lv_lstore_n (lv' := [(3, .long (cu ||| (1 <<< ((nI k9).toInt64 &&& 63)))), (6, .int 1), (5, .int (nI k9)), (2, .int (nI e9)), (0, .ref y)]) hx hb d_md_word_349 rfl hl (by decide) rfl (fun ls hl => ?_)
                                              refine lv_iinc (v := nI (k9 + 1)) (lv' := [(5, .int (nI (k9 + 1))), (3, .long (cu ||| (1 <<< ((nI k9).toInt64 &&& 63)))), (6, .int 1), (2, .int (nI e9)), (0, .ref y)]) hx hb d_md_word_350 hl (k := 2) rfl (by first | exact nI_add _ 1 | (show nI _ + nI _ = _; rw [nI_add])) (by decide) rfl (fun ls hl => ?_)
                                              refine lv_goto (tgt := 248) hx hb d_md_word_353 (by decide) ?_
                                              exact ih (k9 + 1) _ _ _ _ (by omega) (by omega) (by omega) (by rw [hcu]; exact cw_y (cu_t (by rw [mb_b h262]; exact decide_eq_true (hz9.mp (h278))) h322 (by omega))) hH (lv_sub hl [0, 1, 3, 4] rfl)
                              exact L248 (dn + 1) 1 0 _ _ _ (by omega) (by omega) (by omega) (cw_1 hl1) hH (lv_sub hl [0, 1, 2, 3] rfl)
                            · skip
                              have hmo1 := hmo p0 (by omega)
                              have hle1 := hle (p0 + 1) (by omega)
                              refine lv_iconst (v := 0) hx hb d_md_word_188 (by decide) ?_
                              refine lv_istore_n (lv' := [(3, .int 0), (2, .int (nI p0)), (0, .ref y)]) hx hb d_md_word_189 rfl hl (by decide) rfl (fun ls hl => ?_)
                              have L190 : ∀ (k : Nat) (i : Nat) (v : Nat → Int32) (M : hM) (H : Heap) (locs : List Loc) (ls : Array Slot), dn + 5 ≤ i + k → i ≤ dn + 3 → vMax (wT o fs fn (upd (upd f1 0 46) (dn + 1) 46) (dn + 2) p0 i) (dn + 2) v → hm_has M [(y, .inr (4, [.int (nI th), .int (nI dn), .ref d, .int (nI np), .ref be, .ref sg, .ref nu, .int (nI bg), .int (nI nx), .ref fi, .ref le, .ref pl, .int (nI lf), .int (nI rt), .int (nI dn), .ref rw, .ref va, .int (bI true)])), (d, aI G 200 dr), (be, aI G 8194 fb), (sg, aI G 40000 fs), (nu, aI G 48200 fn), (fi, aI G 2050 ff), (le, aI G 40000 f2), (pl, aJ G 2048 fp), (rw, aI G 66 (upd (upd f1 0 46) (dn + 1) 46)), (va, aI G 66 v)] → hm_kp (fun a => a ∈ [y, le, rw, va]) M0 M → hm_I G.1 vwC A s.heap M H locs → lv_has ls 7 [(3, .int (nI i)), (2, .int (nI p0)), (0, .ref y)] → W p l e { frames := 1, cells := 0, slots := 0, locals := 25 } s m ([.ref y] : List Value).toArray below meth c H locs 0 0 (MQ below (hm_Q G.1 vwC (q_md_word G y th dn d np be sg nu bg nx fi le pl lf rt ln rw va ak dr fb fs fn ff fl fr fv fp o ox M0) A) ([.ref y] : List Value).toArray s 0 0 A) (F0 m 190 ls []) := by
                                intro k
                                induction k with
                                | zero => intro i v M H locs ls hfu hi hv; exact absurd hfu (by omega)
                                | succ k ih2 =>
                                  intro i v M H locs ls hfu hi hv hw hk hH hl
                                  refine lv_iload_n hx hb d_md_word_190 rfl (lv_at hl 0 rfl) ?_
                                  refine lv_aload_n hx hb d_md_word_191 rfl (lv_at hl 2 rfl) ?_
                                  refine hm_get E (tB in_md) hK hH (hw.at 0 rfl) rfl 4 (by decide) (tC wm_371) rfl d_md_word_192 ?_
                                  refine lv_iload_n hx hb d_md_word_195 rfl (lv_at hl 1 rfl) ?_
                                  refine lv_iconst (v := 1) hx hb d_md_word_196 (by decide) ?_
                                  refine hn_iadd hx hb (a := p0) (b := 1) d_md_word_197 ?_
                                  refine hm_iald E hK hH 0 (hw.at 2 rfl) rfl (i := p0 + 1) (by omega) (by decide) d_md_word_198 ?_
                                  refine hm_top (w := .int (nI (o (p0 + 1)))) (by rw [hbe (p0 + 1) (by omega)]) ?_
                                  refine hn_iadd hx hb (a := i) (b := o (p0 + 1)) d_md_word_199 ?_
                                  refine lv_aload_n hx hb d_md_word_200 rfl (lv_at hl 2 rfl) ?_
                                  refine hm_get E (tB in_md) hK hH (hw.at 0 rfl) rfl 4 (by decide) (tC wm_371) rfl d_md_word_201 ?_
                                  refine lv_iload_n hx hb d_md_word_204 rfl (lv_at hl 1 rfl) ?_
                                  refine hm_iald E hK hH 0 (hw.at 2 rfl) rfl (i := p0) (by omega) (by decide) d_md_word_205 ?_
                                  refine hm_top (w := .int (nI (o p0))) (by rw [hbe p0 (by omega)]) ?_
                                  refine hn_isub hx hb (a := i + (o (p0 + 1))) (b := o p0) (by omega) d_md_word_206 ?_
                                  refine lv_aload_n hx hb d_md_word_207 rfl (lv_at hl 2 rfl) ?_
                                  refine hm_get E (tB in_md) hK hH (hw.at 0 rfl) rfl 14 (by decide) (tC wm_381) rfl d_md_word_208 ?_
                                  refine lv_iconst (v := 2) hx hb d_md_word_211 (by decide) ?_
                                  refine hn_iadd hx hb (a := dn) (b := 2) d_md_word_212 ?_
                                  refine hn_icmp_gt (a := (i + (o (p0 + 1))) - (o p0)) (b := dn + 2) hx hb (by omega) (by omega) (tgt := 228) d_md_word_213 (by decide) (fun h213 => ?_) (fun h213 => ?_)
                                  · skip
                                    refine lv_iinc (v := nI (p0 + 1)) (lv' := [(2, .int (nI (p0 + 1))), (3, .int (nI i)), (0, .ref y)]) hx hb d_md_word_228 hl (k := 1) rfl (by first | exact nI_add _ 1 | (show nI _ + nI _ = _; rw [nI_add])) (by decide) rfl (fun ls hl => ?_)
                                    refine lv_goto (tgt := 180) hx hb d_md_word_231 (by decide) ?_
                                    exact ih (p0 + 1) v M _ _ _ (by omega) (by omega) (wT_e hv (by omega)) hw hk hH (lv_sub hl [0, 2] rfl)
                                  · skip
                                    refine lv_aload_n hx hb d_md_word_216 rfl (lv_at hl 2 rfl) ?_
                                    refine lv_iload_n hx hb d_md_word_217 rfl (lv_at hl 1 rfl) ?_
                                    refine lv_iload_n hx hb d_md_word_218 rfl (lv_at hl 0 rfl) ?_
                                    have hM1 := c_md_attempt l G y th dn d np be sg nu bg nx fi le pl lf rt dn rw va true fb fs fn (upd (upd f1 0 46) (dn + 1) 46) v (o p0) (o (p0 + 1) - o p0) p0 i M (hw.sub (ws' := [(y, .inr (4, [.int (nI th), .int (nI dn), .ref d, .int (nI np), .ref be, .ref sg, .ref nu, .int (nI bg), .int (nI nx), .ref fi, .ref le, .ref pl, .int (nI lf), .int (nI rt), .int (nI dn), .ref rw, .ref va, .int (bI true)])), (be, aI G 8194 fb), (sg, aI G 40000 fs), (nu, aI G 48200 fn), (rw, aI G 66 (upd (upd f1 0 46) (dn + 1) 46)), (va, aI G 66 v)]) [0, 2, 3, 4, 8, 9] rfl rfl) (hbe p0 (by omega)) (by rw [hbe (p0 + 1) (by omega), show o p0 + (o (p0 + 1) - o p0) = o (p0 + 1) by omega]) (by omega) (by omega) (by omega) H.size
                                    have hG1 : GoodIn w_md_word (wsV R_md 94 R_md y_md_attempt w_md_attempt) := gB_V wm_467 wm_469 wp_14 wm_5 wm_470
                                    refine hm_call (va_runV (y := y_md_attempt) (bytes := b_md_attempt) (maxL := 6) (ws := w_md_attempt) (rm := { frames := 0, cells := 0, slots := 0, locals := 0 }) (own := R_md) (index := 94) (ret := (Option.none : Option Jvm.ClassFile.FieldType)) (C := R_md) (As := [.int (nI p0), .int (nI i)]) (rest := []) E hM1 (cwV (y := y_md_attempt) (bytes := b_md_attempt) (maxL := 6) (ws := w_md_attempt) (rm := { frames := 0, cells := 0, slots := 0, locals := 0 }) (own := R_md) (index := 94) (ret := (Option.none : Option Jvm.ClassFile.FieldType)) (C := R_md) 2 hts hG1 rfl rfl rfl (by decide +kernel) ⟨Nat.le_of_ble_eq_true rfl, Nat.le_of_ble_eq_true rfl⟩) (hm_preV gk_w gk_s hH hg hK (hw.at 0 rfl) rfl [.int (nI p0), .int (nI i)]) rfl rfl hl.1 rfl (lv_room (Nat.le_of_ble_eq_true rfl)) d_md_word_219 ⟨(by show _ ≤ 0; omega), (by show _ ≤ 0; omega)⟩) hH (fun r1 M1 H1 locs1 hq1 hH1 => ?_)
                                    replace hH := hH1; clear hH1; generalize H1 = H at hH ⊢; generalize locs1 = locs at hH ⊢
                                    obtain ⟨rfl, halt, hk1⟩ := hq1
                                    obtain ⟨v2, hw1, hv2⟩ : ∃ v2, hm_has M1 [(y, .inr (4, [.int (nI th), .int (nI dn), .ref d, .int (nI np), .ref be, .ref sg, .ref nu, .int (nI bg), .int (nI nx), .ref fi, .ref le, .ref pl, .int (nI lf), .int (nI rt), .int (nI dn), .ref rw, .ref va, .int (bI true)])), (be, aI G 8194 fb), (sg, aI G 40000 fs), (nu, aI G 48200 fn), (rw, aI G 66 (upd (upd f1 0 46) (dn + 1) 46)), (va, aI G 66 v2)] ∧ vMax (wT o fs fn (upd (upd f1 0 46) (dn + 1) 46) (dn + 2) p0 (i + 1)) (dn + 2) v2 := by
                                      rcases halt with ⟨z1, z2⟩ | ⟨z1, z2⟩
                                      · exact ⟨_, z2, wT_y hv (by omega) z1 (hnn p0 (by omega))⟩
                                      · exact ⟨_, z2, wT_n hv z1⟩
                                    clear halt
                                    have hw := hm_join (ws' := [(y, .inr (4, [.int (nI th), .int (nI dn), .ref d, .int (nI np), .ref be, .ref sg, .ref nu, .int (nI bg), .int (nI nx), .ref fi, .ref le, .ref pl, .int (nI lf), .int (nI rt), .int (nI dn), .ref rw, .ref va, .int (bI true)])), (d, aI G 200 dr), (be, aI G 8194 fb), (sg, aI G 40000 fs), (nu, aI G 48200 fn), (fi, aI G 2050 ff), (le, aI G 40000 f2), (pl, aJ G 2048 fp), (rw, aI G 66 (upd (upd f1 0 46) (dn + 1) 46)), (va, aI G 66 v2)]) (wc := [(y, .inr (4, [.int (nI th), .int (nI dn), .ref d, .int (nI np), .ref be, .ref sg, .ref nu, .int (nI bg), .int (nI nx), .ref fi, .ref le, .ref pl, .int (nI lf), .int (nI rt), .int (nI dn), .ref rw, .ref va, .int (bI true)])), (be, aI G 8194 fb), (sg, aI G 40000 fs), (nu, aI G 48200 fn), (rw, aI G 66 (upd (upd f1 0 46) (dn + 1) 46)), (va, aI G 66 v)]) hw hw1 hk1 [0, 2, 3, 4, 8, 9] rfl rfl (fun a h => by simp at h; subst h; simp) rfl (by
                                      intro k9 h9
                                      match k9, h9 with
                                      | 0, _ => exact Or.inr ⟨0, rfl, rfl⟩
                                      | 1, _ => exact Or.inl ⟨by decide, rfl⟩
                                      | 2, _ => exact Or.inr ⟨1, rfl, rfl⟩
                                      | 3, _ => exact Or.inr ⟨2, rfl, rfl⟩
                                      | 4, _ => exact Or.inr ⟨3, rfl, rfl⟩
                                      | 5, _ => exact Or.inl ⟨by decide, rfl⟩
                                      | 6, _ => exact Or.inl ⟨by decide, rfl⟩
                                      | 7, _ => exact Or.inl ⟨by decide, rfl⟩
                                      | 8, _ => exact Or.inr ⟨4, rfl, rfl⟩
                                      | 9, _ => exact Or.inr ⟨5, rfl, rfl⟩
                                      | k9 + 10, h9 => exact absurd h9 (Nat.not_lt_of_le (Nat.le_add_left _ _)))
                                    have hk := hk.tr hk1 (fun a h => by simp at h; subst h; simp)
                                    generalize M1 = M at hH hw hk
                                    refine lv_iinc (v := nI (i + 1)) (lv' := [(3, .int (nI (i + 1))), (2, .int (nI p0)), (0, .ref y)]) hx hb d_md_word_222 hl (k := 0) rfl (by first | exact nI_add _ 1 | (show nI _ + nI _ = _; rw [nI_add])) (by decide) rfl (fun ls hl => ?_)
                                    refine lv_goto (tgt := 190) hx hb d_md_word_225 (by decide) ?_
                                    exact ih2 (i + 1) v2 M _ _ _ (by omega) (by omega) hv2 hw hk hH (lv_sub hl [0, 1, 2] rfl)
                              exact L190 (dn + 5) 0 v M _ _ _ (by omega) (by omega) hv hw hk hH (lv_sub hl [0, 1, 2] rfl)
                        exact L180 (np + 1) 0 (fun _ => 0) M _ _ _ (by omega) (by omega) (vMax_0 (fun _ _ _ => wT_0)) hw hk hH (lv_sub hl [0, 1] rfl)
                      · skip
                        refine lv_aload_n hx hb d_md_word_165 rfl (lv_at hl 1 rfl) ?_
                        refine hm_get E (tB in_md) hK hH (hw.at 0 rfl) rfl 16 (by decide) (tC wm_383) rfl d_md_word_166 ?_
                        refine lv_iload_n hx hb d_md_word_169 rfl (lv_at hl 0 rfl) ?_
                        refine lv_iconst (v := 0) hx hb d_md_word_170 (by decide) ?_
                        refine hm_iast E hK hH 0 (hw.at 9 rfl) rfl (i := i) (by omega) (by decide) d_md_word_171 (fun H locs hH => ?_)
                        have hw := hw.set (ws' := [(y, .inr (4, [.int (nI th), .int (nI dn), .ref d, .int (nI np), .ref be, .ref sg, .ref nu, .int (nI bg), .int (nI nx), .ref fi, .ref le, .ref pl, .int (nI lf), .int (nI rt), .int (nI dn), .ref rw, .ref va, .int (bI true)])), (d, aI G 200 dr), (be, aI G 8194 fb), (sg, aI G 40000 fs), (nu, aI G 48200 fn), (fi, aI G 2050 ff), (le, aI G 40000 f2), (pl, aJ G 2048 fp), (rw, aI G 66 (upd (upd f1 0 46) (dn + 1) 46)), (va, aI G 66 (upd g i 0))]) (k := 9) rfl rfl
                        have hk := hk.wr (a := va) (v := some (aI G 66 (upd g i 0))) (by first | (right; assumption) | (left; simp; done))
                        generalize va_up M va (some (aI G 66 (upd g i 0))) = M at hH hw hk ⊢
                        refine lv_iinc (v := nI (i + 1)) (lv' := [(2, .int (nI (i + 1))), (0, .ref y)]) hx hb d_md_word_172 hl (k := 0) rfl (by first | exact nI_add _ 1 | (show nI _ + nI _ = _; rw [nI_add])) (by decide) rfl (fun ls hl => ?_)
                        refine lv_goto (tgt := 159) hx hb d_md_word_175 (by decide) ?_
                        exact ih (i + 1) (upd g i 0) M _ _ _ (by omega) (by omega) (upd_all hgz) hw hk hH (lv_sub hl [0, 1] rfl)
                  exact L159 67 0 fv M _ _ _ (by omega) (by omega) (fun j hj => absurd hj (by omega)) hw hk hH (lv_sub hl [0, 1] rfl)
                · skip
                  refine lv_aload_n hx hb d_md_word_94 rfl (lv_at hl 1 rfl) ?_
                  refine hm_get E (tB in_md) hK hH (hw.at 0 rfl) rfl 15 (by decide) (tC wm_382) rfl d_md_word_95 ?_
                  refine lv_iload_n hx hb d_md_word_98 rfl (lv_at hl 0 rfl) ?_
                  refine lv_iconst (v := 1) hx hb d_md_word_99 (by decide) ?_
                  refine hn_iadd hx hb (a := i) (b := 1) d_md_word_100 ?_
                  refine lv_aload_n hx hb d_md_word_101 rfl (lv_at hl 1 rfl) ?_
                  refine hm_get E (tB in_md) hK hH (hw.at 0 rfl) rfl 2 (by decide) (tC wm_369) rfl d_md_word_102 ?_
                  refine lv_iload_n hx hb d_md_word_105 rfl (lv_at hl 0 rfl) ?_
                  refine hm_iald E hK hH 0 (hw.at 1 rfl) rfl (i := i) (by omega) (by decide) d_md_word_106 ?_
                  refine hm_iast E hK hH 0 (hw.at 8 rfl) rfl (i := i + 1) (by omega) (by decide) d_md_word_107 (fun H locs hH => ?_)
                  have hw := hw.set (ws' := [(y, .inr (4, [.int (nI th), .int (nI dn), .ref d, .int (nI np), .ref be, .ref sg, .ref nu, .int (nI bg), .int (nI nx), .ref fi, .ref le, .ref pl, .int (nI lf), .int (nI rt), .int (nI dn), .ref rw, .ref va, .int (bI true)])), (d, aI G 200 dr), (be, aI G 8194 fb), (sg, aI G 40000 fs), (nu, aI G 48200 fn), (fi, aI G 2050 ff), (le, aI G 40000 f2), (pl, aJ G 2048 fp), (rw, aI G 66 (upd f1 (i + 1) (dr i))), (va, aI G 66 fv)]) (k := 8) rfl rfl
                  have hk := hk.wr (a := rw) (v := some (aI G 66 (upd f1 (i + 1) (dr i)))) (by first | (right; assumption) | (left; simp; done))
                  generalize va_up M rw (some (aI G 66 (upd f1 (i + 1) (dr i)))) = M at hH hw hk ⊢
                  refine lv_aload_n hx hb d_md_word_108 rfl (lv_at hl 1 rfl) ?_
                  refine hm_get E (tB in_md) hK hH (hw.at 0 rfl) rfl 10 (by decide) (tC wm_377) rfl d_md_word_109 ?_
                  refine lv_aload_n hx hb d_md_word_112 rfl (lv_at hl 1 rfl) ?_
                  refine hm_get E (tB in_md) hK hH (hw.at 0 rfl) rfl 9 (by decide) (tC wm_376) rfl d_md_word_113 ?_
                  refine lv_aload_n hx hb d_md_word_116 rfl (lv_at hl 1 rfl) ?_
                  refine hm_get E (tB in_md) hK hH (hw.at 0 rfl) rfl 8 (by decide) (tC wm_375) rfl d_md_word_117 ?_
                  refine hm_iald E hK hH 0 (hw.at 5 rfl) rfl (i := nx) (by omega) (by decide) d_md_word_120 ?_
                  refine hm_top (w := .int (nI (ox nx))) (by rw [hff nx (Nat.le_refl _)]) ?_
                  refine lv_iload_n hx hb d_md_word_121 rfl (lv_at hl 0 rfl) ?_
                  refine hn_iadd hx hb (a := ox nx) (b := i) d_md_word_122 ?_
                  refine lv_aload_n hx hb d_md_word_123 rfl (lv_at hl 1 rfl) ?_
                  refine hm_get E (tB in_md) hK hH (hw.at 0 rfl) rfl 2 (by decide) (tC wm_369) rfl d_md_word_124 ?_
                  refine lv_iload_n hx hb d_md_word_127 rfl (lv_at hl 0 rfl) ?_
                  refine hm_iald E hK hH 0 (hw.at 1 rfl) rfl (i := i) (by omega) (by decide) d_md_word_128 ?_
                  refine hm_iast E hK hH 0 (hw.at 6 rfl) rfl (i := ox nx + i) (by omega) (by decide) d_md_word_129 (fun H locs hH => ?_)
                  have hw := hw.set (ws' := [(y, .inr (4, [.int (nI th), .int (nI dn), .ref d, .int (nI np), .ref be, .ref sg, .ref nu, .int (nI bg), .int (nI nx), .ref fi, .ref le, .ref pl, .int (nI lf), .int (nI rt), .int (nI dn), .ref rw, .ref va, .int (bI true)])), (d, aI G 200 dr), (be, aI G 8194 fb), (sg, aI G 40000 fs), (nu, aI G 48200 fn), (fi, aI G 2050 ff), (le, aI G 40000 (upd f2 (ox nx + i) (dr i))), (pl, aJ G 2048 fp), (rw, aI G 66 (upd f1 (i + 1) (dr i))), (va, aI G 66 fv)]) (k := 6) rfl rfl
                  have hk := hk.wr (a := le) (v := some (aI G 40000 (upd f2 (ox nx + i) (dr i)))) (by first | (right; assumption) | (left; simp; done))
                  generalize va_up M le (some (aI G 40000 (upd f2 (ox nx + i) (dr i)))) = M at hH hw hk ⊢
                  refine lv_iinc (v := nI (i + 1)) (lv' := [(2, .int (nI (i + 1))), (0, .ref y)]) hx hb d_md_word_130 hl (k := 0) rfl (by first | exact nI_add _ 1 | (show nI _ + nI _ = _; rw [nI_add])) (by decide) rfl (fun ls hl => ?_)
                  refine lv_goto (tgt := 86) hx hb d_md_word_133 (by decide) ?_
                  exact ih (i + 1) (upd f1 (i + 1) (dr i)) (upd f2 (ox nx + i) (dr i)) M _ _ _ (by omega) (by omega) (row_S hf1 rfl) (bl_upd hf0 (by omega)) (sg_S rfl hf2 rfl) hw hk hH (lv_sub hl [0, 1] rfl)
            exact L86 (dn + 1) 0 fr fl M _ _ _ (by omega) (by omega) (fun j hj => absurd hj (by omega)) (fun _ _ => rfl) (fun j hj => absurd hj (by omega)) hw hk hH (lv_sub hl [0, 2] rfl)
          · skip
            refine lv_aload_n hx hb d_md_word_64 rfl (lv_at hl 2 rfl) ?_
            refine lv_iconst (v := 1) hx hb d_md_word_65 (by decide) ?_
            have hM1 := c_md_fails l G y th dn d np be sg nu bg nx fi le pl lf rt ln rw va ak 1 M (hw.sub (ws' := [(y, .inr (4, [.int (nI th), .int (nI dn), .ref d, .int (nI np), .ref be, .ref sg, .ref nu, .int (nI bg), .int (nI nx), .ref fi, .ref le, .ref pl, .int (nI lf), .int (nI rt), .int (nI ln), .ref rw, .ref va, .int (bI ak)]))]) [0] rfl rfl) H.size
            have hG1 : GoodIn w_md_word (wsV R_md 69 R_md y_md_fails w_md_fails) := gB_V wm_446 wm_448 wp_11 wm_5 wm_449
            refine hm_call (va_runV (y := y_md_fails) (bytes := b_md_fails) (maxL := 2) (ws := w_md_fails) (rm := { frames := 0, cells := 0, slots := 0, locals := 0 }) (own := R_md) (index := 69) (ret := (Option.some Jvm.ClassFile.FieldType.int)) (C := R_md) (As := [.int 1]) (rest := []) E hM1 (cwV (y := y_md_fails) (bytes := b_md_fails) (maxL := 2) (ws := w_md_fails) (rm := { frames := 0, cells := 0, slots := 0, locals := 0 }) (own := R_md) (index := 69) (ret := (Option.some Jvm.ClassFile.FieldType.int)) (C := R_md) 1 hts hG1 rfl rfl rfl (by decide +kernel) ⟨Nat.le_of_ble_eq_true rfl, Nat.le_of_ble_eq_true rfl⟩) (hm_preV gk_w gk_s hH hg hK (hw.at 0 rfl) rfl [.int 1]) rfl rfl hl.1 rfl (lv_room (Nat.le_of_ble_eq_true rfl)) d_md_word_66 ⟨(by show _ ≤ 0; omega), (by show _ ≤ 0; omega)⟩) hH (fun r1 M1 H1 locs1 hq1 hH1 => ?_)
            replace hH := hH1; clear hH1; generalize H1 = H at hH ⊢; generalize locs1 = locs at hH ⊢
            obtain ⟨rfl, hw1, hk1⟩ := hq1
            have hw := hm_join (ws' := [(y, .inr (4, [.int (nI 1), .int (nI 0), .ref d, .int (nI np), .ref be, .ref sg, .ref nu, .int (nI bg), .int (nI nx), .ref fi, .ref le, .ref pl, .int (nI lf), .int (nI rt), .int (nI ln), .ref rw, .ref va, .int (bI ak)])), (d, aI G 200 dr), (be, aI G 8194 fb), (sg, aI G 40000 fs), (nu, aI G 48200 fn), (fi, aI G 2050 ff), (le, aI G 40000 fl), (pl, aJ G 2048 fp), (rw, aI G 66 fr), (va, aI G 66 fv)]) (wc := [(y, .inr (4, [.int (nI th), .int (nI dn), .ref d, .int (nI np), .ref be, .ref sg, .ref nu, .int (nI bg), .int (nI nx), .ref fi, .ref le, .ref pl, .int (nI lf), .int (nI rt), .int (nI ln), .ref rw, .ref va, .int (bI ak)]))]) hw hw1 hk1 [0] rfl rfl (fun a h => h) rfl (by
              intro k9 h9
              match k9, h9 with
              | 0, _ => exact Or.inr ⟨0, rfl, rfl⟩
              | 1, _ => exact Or.inl ⟨by decide, rfl⟩
              | 2, _ => exact Or.inl ⟨by decide, rfl⟩
              | 3, _ => exact Or.inl ⟨by decide, rfl⟩
              | 4, _ => exact Or.inl ⟨by decide, rfl⟩
              | 5, _ => exact Or.inl ⟨by decide, rfl⟩
              | 6, _ => exact Or.inl ⟨by decide, rfl⟩
              | 7, _ => exact Or.inl ⟨by decide, rfl⟩
              | 8, _ => exact Or.inl ⟨by decide, rfl⟩
              | 9, _ => exact Or.inl ⟨by decide, rfl⟩
              | k9 + 10, h9 => exact absurd h9 (Nat.not_lt_of_le (Nat.le_add_left _ _)))
            have hk := hk.tr hk1 (fun a h => by simp at h; subst h; simp)
            generalize M1 = M at hH hw hk
            refine lv_i2l hx hb d_md_word_69 rfl ?_
            exact hm_lret E hr hlk hH (Or.inl ⟨fun z => (by have h8 := gw_ok.mpr z; rw [h61] at h8; cases h8), ⟨_, rfl⟩, hw, hk⟩) (by omega) (by omega) d_md_word_70
        · skip
          refine lv_iload_n hx hb d_md_word_32 rfl (lv_at hl 1 rfl) ?_
          refine hb_if_eq (b := gwP dr dn i) hx hb (tgt := 52) d_md_word_33 (by decide) (fun h33 => ?_) (fun h33 => ?_)
          · skip
            refine lv_iconst (v := 0) hx hb d_md_word_52 (by decide) ?_
            refine lv_istore_n (lv' := [(1, .int 0), (2, .int (nI i)), (0, .ref y)]) hx hb d_md_word_53 rfl hl (by decide) rfl (fun ls hl => ?_)
            refine lv_iinc (v := nI (i + 1)) (lv' := [(2, .int (nI (i + 1))), (1, .int 0), (0, .ref y)]) hx hb d_md_word_54 hl (k := 1) rfl (by first | exact nI_add _ 1 | (show nI _ + nI _ = _; rw [nI_add])) (by decide) rfl (fun ls hl => ?_)
            refine lv_goto (tgt := 24) hx hb d_md_word_57 (by decide) ?_
            exact ih (i + 1) _ _ _ (by omega) (by omega) hH (lv_cv (lv_sub hl [0, 1, 2] rfl) (by simp [gwP, bI_t, bI_f, h33] <;> rfl))
          · skip
            refine lv_aload_n hx hb d_md_word_36 rfl (lv_at hl 2 rfl) ?_
            refine hm_get E (tB in_md) hK hH (hw.at 0 rfl) rfl 2 (by decide) (tC wm_369) rfl d_md_word_37 ?_
            refine lv_iload_n hx hb d_md_word_40 rfl (lv_at hl 0 rfl) ?_
            refine hm_iald E hK hH 0 (hw.at 1 rfl) rfl (i := i) (by omega) (by decide) d_md_word_41 ?_
            have hM1 := c_md_isLetter l G (dr i) M (hby _) H.size
            have hG1 : GoodIn w_md_word (wsS R_md 58 y_md_isLetter w_md_isLetter) := gB_S wm_440 wm_441 wm_5 wm_442
            refine hm_call (va_runS (y := y_md_isLetter) (bytes := b_md_isLetter) (maxL := 1) (ws := w_md_isLetter) (rm := { frames := 0, cells := 0, slots := 0, locals := 0 }) (own := R_md) (index := 58) (ret := (Option.some Jvm.ClassFile.FieldType.boolean)) (As := [.int (dr i)]) (rest := []) E hM1 (cwS (y := y_md_isLetter) (bytes := b_md_isLetter) (maxL := 1) (ws := w_md_isLetter) (rm := { frames := 0, cells := 0, slots := 0, locals := 0 }) (own := R_md) (index := 58) (ret := (Option.some Jvm.ClassFile.FieldType.boolean)) 1 hts hG1 rfl rfl rfl (by decide +kernel) ⟨Nat.le_of_ble_eq_true rfl, Nat.le_of_ble_eq_true rfl⟩) (hm_preS gk_w gk_s hH hg [.int (dr i)]) rfl rfl hl.1 rfl (lv_room (Nat.le_of_ble_eq_true rfl)) d_md_word_42 ⟨(by show _ ≤ 0; omega), (by show _ ≤ 0; omega)⟩) hH (fun r1 M1 H1 locs1 hq1 hH1 => ?_)
            obtain ⟨rfl, e1⟩ := hq1
            replace hH := hH1; rw [e1] at hH; clear hH1 e1; generalize H1 = H at hH ⊢; generalize locs1 = locs at hH ⊢
            refine hb_if_eq (b := isL (dr i)) hx hb (tgt := 52) d_md_word_45 (by decide) (fun h45 => ?_) (fun h45 => ?_)
            · skip
              refine lv_iconst (v := 0) hx hb d_md_word_52 (by decide) ?_
              refine lv_istore_n (lv' := [(1, .int 0), (2, .int (nI i)), (0, .ref y)]) hx hb d_md_word_53 rfl hl (by decide) rfl (fun ls hl => ?_)
              refine lv_iinc (v := nI (i + 1)) (lv' := [(2, .int (nI (i + 1))), (1, .int 0), (0, .ref y)]) hx hb d_md_word_54 hl (k := 1) rfl (by first | exact nI_add _ 1 | (show nI _ + nI _ = _; rw [nI_add])) (by decide) rfl (fun ls hl => ?_)
              refine lv_goto (tgt := 24) hx hb d_md_word_57 (by decide) ?_
              exact ih (i + 1) _ _ _ (by omega) (by omega) hH (lv_cv (lv_sub hl [0, 1, 2] rfl) (by simp [gwP, bI_t, bI_f, h33, h45] <;> rfl))
            · skip
              refine lv_iconst (v := 1) hx hb d_md_word_48 (by decide) ?_
              refine lv_goto (tgt := 53) hx hb d_md_word_49 (by decide) ?_
              refine lv_istore_n (lv' := [(1, .int 1), (2, .int (nI i)), (0, .ref y)]) hx hb d_md_word_53 rfl hl (by decide) rfl (fun ls hl => ?_)
              refine lv_iinc (v := nI (i + 1)) (lv' := [(2, .int (nI (i + 1))), (1, .int 1), (0, .ref y)]) hx hb d_md_word_54 hl (k := 1) rfl (by first | exact nI_add _ 1 | (show nI _ + nI _ = _; rw [nI_add])) (by decide) rfl (fun ls hl => ?_)
              refine lv_goto (tgt := 24) hx hb d_md_word_57 (by decide) ?_
              exact ih (i + 1) _ _ _ (by omega) (by omega) hH (lv_cv (lv_sub hl [0, 1, 2] rfl) (by simp [gwP, bI_t, bI_f, h33, h45] <;> rfl))
    exact L24 (dn + 1) 0 _ _ _ (by omega) (by omega) hH (lv_cv (lv_sub hl [0, 1, 2] rfl) (by simp [gwP, bI_t, bI_f, show ¬ 0 < dn by omega] <;> rfl))
  · skip
    refine lv_aload_n hx hb d_md_word_7 rfl (lv_at hl 0 rfl) ?_
    refine hm_get E (tB in_md) hK hH (hw.at 0 rfl) rfl 1 (by decide) (tC wm_368) rfl d_md_word_8 ?_
    refine lv_bipush (v := 64) hx hb d_md_word_11 (by decide) ?_
    refine hn_icmp_ge (a := dn) (b := 64) hx hb (by omega) (by omega) (tgt := 20) d_md_word_13 (by decide) (fun h13 => ?_) (fun h13 => ?_)
    · skip
      refine lv_iconst (v := 0) hx hb d_md_word_20 (by decide) ?_
      refine lv_istore_n (lv' := [(1, .int 0), (0, .ref y)]) hx hb d_md_word_21 rfl hl (by decide) rfl (fun ls hl => ?_)
      refine lv_iconst (v := 0) hx hb d_md_word_22 (by decide) ?_
      refine lv_istore_n (lv' := [(2, .int 0), (1, .int 0), (0, .ref y)]) hx hb d_md_word_23 rfl hl (by decide) rfl (fun ls hl => ?_)
      have L24 : ∀ (k : Nat) (i : Nat) (H : Heap) (locs : List Loc) (ls : Array Slot), dn + 1 ≤ i + k → i ≤ dn → hm_I G.1 vwC A s.heap M H locs → lv_has ls 7 [(2, .int (nI i)), (1, .int (bI (gwP dr dn i))), (0, .ref y)] → W p l e { frames := 1, cells := 0, slots := 0, locals := 25 } s m ([.ref y] : List Value).toArray below meth c H locs 0 0 (MQ below (hm_Q G.1 vwC (q_md_word G y th dn d np be sg nu bg nx fi le pl lf rt ln rw va ak dr fb fs fn ff fl fr fv fp o ox M0) A) ([.ref y] : List Value).toArray s 0 0 A) (F0 m 24 ls []) := by
        intro k
        induction k with
        | zero => intro i H locs ls hfu hi; exact absurd hfu (by omega)
        | succ k ih =>
          intro i H locs ls hfu hi hH hl
          refine lv_iload_n hx hb d_md_word_24 rfl (lv_at hl 0 rfl) ?_
          refine lv_aload_n hx hb d_md_word_25 rfl (lv_at hl 2 rfl) ?_
          refine hm_get E (tB in_md) hK hH (hw.at 0 rfl) rfl 1 (by decide) (tC wm_368) rfl d_md_word_26 ?_
          refine hn_icmp_ge (a := i) (b := dn) hx hb (by omega) (by omega) (tgt := 60) d_md_word_29 (by decide) (fun h29 => ?_) (fun h29 => ?_)
          · skip
            have hie : i = dn := by omega
            rw [hie] at hl
            refine lv_iload_n hx hb d_md_word_60 rfl (lv_at hl 1 rfl) ?_
            refine hb_if_ne (b := gwP dr dn dn) hx hb (tgt := 71) d_md_word_61 (by decide) (fun h61 => ?_) (fun h61 => ?_)
            · skip
              have hok := gw_ok.mp h61
              have hd1 := hok.1
              have hd6 := hok.2.1
              refine lv_aload_n hx hb d_md_word_71 rfl (lv_at hl 2 rfl) ?_
              refine lv_aload_n hx hb d_md_word_72 rfl (lv_at hl 2 rfl) ?_
              refine hm_get E (tB in_md) hK hH (hw.at 0 rfl) rfl 1 (by decide) (tC wm_368) rfl d_md_word_73 ?_
              refine hm_put E (tB in_md) t_md tk_md nm_md hK hH (hw.at 0 rfl) rfl 14 (by decide) (tC wm_381) rfl rfl rfl (Nat.le_of_ble_eq_true rfl) (fs' := [.int (nI th), .int (nI dn), .ref d, .int (nI np), .ref be, .ref sg, .ref nu, .int (nI bg), .int (nI nx), .ref fi, .ref le, .ref pl, .int (nI lf), .int (nI rt), .int (nI dn), .ref rw, .ref va, .int (bI ak)]) rfl d_md_word_76 (fun H locs hH => ?_)
              have hw := hw.set (ws' := [(y, .inr (4, [.int (nI th), .int (nI dn), .ref d, .int (nI np), .ref be, .ref sg, .ref nu, .int (nI bg), .int (nI nx), .ref fi, .ref le, .ref pl, .int (nI lf), .int (nI rt), .int (nI dn), .ref rw, .ref va, .int (bI ak)])), (d, aI G 200 dr), (be, aI G 8194 fb), (sg, aI G 40000 fs), (nu, aI G 48200 fn), (fi, aI G 2050 ff), (le, aI G 40000 fl), (pl, aJ G 2048 fp), (rw, aI G 66 fr), (va, aI G 66 fv)]) (k := 0) rfl rfl
              have hk := hk.wr (a := y) (v := some (.inr (4, [.int (nI th), .int (nI dn), .ref d, .int (nI np), .ref be, .ref sg, .ref nu, .int (nI bg), .int (nI nx), .ref fi, .ref le, .ref pl, .int (nI lf), .int (nI rt), .int (nI dn), .ref rw, .ref va, .int (bI ak)]))) (by first | (right; assumption) | (left; simp; done))
              generalize va_up M y (some (.inr (4, [.int (nI th), .int (nI dn), .ref d, .int (nI np), .ref be, .ref sg, .ref nu, .int (nI bg), .int (nI nx), .ref fi, .ref le, .ref pl, .int (nI lf), .int (nI rt), .int (nI dn), .ref rw, .ref va, .int (bI ak)]))) = M at hH hw hk ⊢
              refine lv_aload_n hx hb d_md_word_79 rfl (lv_at hl 2 rfl) ?_
              refine lv_iconst (v := 1) hx hb d_md_word_80 (by decide) ?_
              refine hm_put E (tB in_md) t_md tk_md nm_md hK hH (hw.at 0 rfl) rfl 17 (by decide) (tC wm_384) rfl (by decide) (by decide) (Nat.le_of_ble_eq_true rfl) (fs' := [.int (nI th), .int (nI dn), .ref d, .int (nI np), .ref be, .ref sg, .ref nu, .int (nI bg), .int (nI nx), .ref fi, .ref le, .ref pl, .int (nI lf), .int (nI rt), .int (nI dn), .ref rw, .ref va, .int 1]) rfl d_md_word_81 (fun H locs hH => ?_)
              have hw := hw.set (ws' := [(y, .inr (4, [.int (nI th), .int (nI dn), .ref d, .int (nI np), .ref be, .ref sg, .ref nu, .int (nI bg), .int (nI nx), .ref fi, .ref le, .ref pl, .int (nI lf), .int (nI rt), .int (nI dn), .ref rw, .ref va, .int 1])), (d, aI G 200 dr), (be, aI G 8194 fb), (sg, aI G 40000 fs), (nu, aI G 48200 fn), (fi, aI G 2050 ff), (le, aI G 40000 fl), (pl, aJ G 2048 fp), (rw, aI G 66 fr), (va, aI G 66 fv)]) (k := 0) rfl rfl
              have hk := hk.wr (a := y) (v := some (.inr (4, [.int (nI th), .int (nI dn), .ref d, .int (nI np), .ref be, .ref sg, .ref nu, .int (nI bg), .int (nI nx), .ref fi, .ref le, .ref pl, .int (nI lf), .int (nI rt), .int (nI dn), .ref rw, .ref va, .int 1]))) (by first | (right; assumption) | (left; simp; done))
              generalize va_up M y (some (.inr (4, [.int (nI th), .int (nI dn), .ref d, .int (nI np), .ref be, .ref sg, .ref nu, .int (nI bg), .int (nI nx), .ref fi, .ref le, .ref pl, .int (nI lf), .int (nI rt), .int (nI dn), .ref rw, .ref va, .int 1]))) = M at hH hw hk ⊢
              refine lv_iconst (v := 0) hx hb d_md_word_84 (by decide) ?_
              refine lv_istore_n (lv' := [(2, .int 0), (1, .int (bI (gwP dr dn dn))), (0, .ref y)]) hx hb d_md_word_85 rfl hl (by decide) rfl (fun ls hl => ?_)
              have L86 : ∀ (k : Nat) (i : Nat) (f1 f2 : Nat → Int32) (M : hM) (H : Heap) (locs : List Loc) (ls : Array Slot), dn + 1 ≤ i + k → i ≤ dn → (∀ j, j < i → f1 (j + 1) = dr j) → (∀ j, j < ox nx → f2 j = fl j) → (∀ j, j < i → f2 (ox nx + j) = dr j) → hm_has M [(y, .inr (4, [.int (nI th), .int (nI dn), .ref d, .int (nI np), .ref be, .ref sg, .ref nu, .int (nI bg), .int (nI nx), .ref fi, .ref le, .ref pl, .int (nI lf), .int (nI rt), .int (nI dn), .ref rw, .ref va, .int (bI true)])), (d, aI G 200 dr), (be, aI G 8194 fb), (sg, aI G 40000 fs), (nu, aI G 48200 fn), (fi, aI G 2050 ff), (le, aI G 40000 f2), (pl, aJ G 2048 fp), (rw, aI G 66 f1), (va, aI G 66 fv)] → hm_kp (fun a => a ∈ [y, le, rw, va]) M0 M → hm_I G.1 vwC A s.heap M H locs → lv_has ls 7 [(2, .int (nI i)), (0, .ref y)] → W p l e { frames := 1, cells := 0, slots := 0, locals := 25 } s m ([.ref y] : List Value).toArray below meth c H locs 0 0 (MQ below (hm_Q G.1 vwC (q_md_word G y th dn d np be sg nu bg nx fi le pl lf rt ln rw va ak dr fb fs fn ff fl fr fv fp o ox M0) A) ([.ref y] : List Value).toArray s 0 0 A) (F0 m 86 ls []) := by
                intro k
                induction k with
                | zero => intro i f1 f2 M H locs ls hfu hi hf1 hf0 hf2; exact absurd hfu (by omega)
                | succ k ih =>
                  intro i f1 f2 M H locs ls hfu hi hf1 hf0 hf2 hw hk hH hl
                  refine lv_iload_n hx hb d_md_word_86 rfl (lv_at hl 0 rfl) ?_
                  refine lv_aload_n hx hb d_md_word_87 rfl (lv_at hl 1 rfl) ?_
                  refine hm_get E (tB in_md) hK hH (hw.at 0 rfl) rfl 14 (by decide) (tC wm_381) rfl d_md_word_88 ?_
                  refine hn_icmp_ge (a := i) (b := dn) hx hb (by omega) (by omega) (tgt := 136) d_md_word_91 (by decide) (fun h91 => ?_) (fun h91 => ?_)
                  · skip
                    have hie2 : i = dn := by omega
                    rw [hie2] at hf1 hf2
                    refine lv_aload_n hx hb d_md_word_136 rfl (lv_at hl 1 rfl) ?_
                    refine hm_get E (tB in_md) hK hH (hw.at 0 rfl) rfl 15 (by decide) (tC wm_382) rfl d_md_word_137 ?_
                    refine lv_iconst (v := 0) hx hb d_md_word_140 (by decide) ?_
                    refine lv_bipush (v := 46) hx hb d_md_word_141 (by decide) ?_
                    refine hm_iast E hK hH 0 (hw.at 8 rfl) rfl (i := 0) (by omega) (by decide) d_md_word_143 (fun H locs hH => ?_)
                    have hw := hw.set (ws' := [(y, .inr (4, [.int (nI th), .int (nI dn), .ref d, .int (nI np), .ref be, .ref sg, .ref nu, .int (nI bg), .int (nI nx), .ref fi, .ref le, .ref pl, .int (nI lf), .int (nI rt), .int (nI dn), .ref rw, .ref va, .int (bI true)])), (d, aI G 200 dr), (be, aI G 8194 fb), (sg, aI G 40000 fs), (nu, aI G 48200 fn), (fi, aI G 2050 ff), (le, aI G 40000 f2), (pl, aJ G 2048 fp), (rw, aI G 66 (upd f1 0 46)), (va, aI G 66 fv)]) (k := 8) rfl rfl
                    have hk := hk.wr (a := rw) (v := some (aI G 66 (upd f1 0 46))) (by first | (right; assumption) | (left; simp; done))
                    generalize va_up M rw (some (aI G 66 (upd f1 0 46))) = M at hH hw hk ⊢
                    refine lv_aload_n hx hb d_md_word_144 rfl (lv_at hl 1 rfl) ?_
                    refine hm_get E (tB in_md) hK hH (hw.at 0 rfl) rfl 15 (by decide) (tC wm_382) rfl d_md_word_145 ?_
                    refine lv_aload_n hx hb d_md_word_148 rfl (lv_at hl 1 rfl) ?_
                    refine hm_get E (tB in_md) hK hH (hw.at 0 rfl) rfl 14 (by decide) (tC wm_381) rfl d_md_word_149 ?_
                    refine lv_iconst (v := 1) hx hb d_md_word_152 (by decide) ?_
                    refine hn_iadd hx hb (a := dn) (b := 1) d_md_word_153 ?_
                    refine lv_bipush (v := 46) hx hb d_md_word_154 (by decide) ?_
                    refine hm_iast E hK hH 0 (hw.at 8 rfl) rfl (i := dn + 1) (by omega) (by decide) d_md_word_156 (fun H locs hH => ?_)
                    have hw := hw.set (ws' := [(y, .inr (4, [.int (nI th), .int (nI dn), .ref d, .int (nI np), .ref be, .ref sg, .ref nu, .int (nI bg), .int (nI nx), .ref fi, .ref le, .ref pl, .int (nI lf), .int (nI rt), .int (nI dn), .ref rw, .ref va, .int (bI true)])), (d, aI G 200 dr), (be, aI G 8194 fb), (sg, aI G 40000 fs), (nu, aI G 48200 fn), (fi, aI G 2050 ff), (le, aI G 40000 f2), (pl, aJ G 2048 fp), (rw, aI G 66 (upd (upd f1 0 46) (dn + 1) 46)), (va, aI G 66 fv)]) (k := 8) rfl rfl
                    have hk := hk.wr (a := rw) (v := some (aI G 66 (upd (upd f1 0 46) (dn + 1) 46))) (by first | (right; assumption) | (left; simp; done))
                    generalize va_up M rw (some (aI G 66 (upd (upd f1 0 46) (dn + 1) 46))) = M at hH hw hk ⊢
                    refine lv_iconst (v := 0) hx hb d_md_word_157 (by decide) ?_
                    refine lv_istore_n (lv' := [(2, .int 0), (0, .ref y)]) hx hb d_md_word_158 rfl hl (by decide) rfl (fun ls hl => ?_)
                    have L159 : ∀ (k : Nat) (i : Nat) (g : Nat → Int32) (M : hM) (H : Heap) (locs : List Loc) (ls : Array Slot), 67 ≤ i + k → i ≤ 66 → (∀ j, j < i → g j = 0) → hm_has M [(y, .inr (4, [.int (nI th), .int (nI dn), .ref d, .int (nI np), .ref be, .ref sg, .ref nu, .int (nI bg), .int (nI nx), .ref fi, .ref le, .ref pl, .int (nI lf), .int (nI rt), .int (nI dn), .ref rw, .ref va, .int (bI true)])), (d, aI G 200 dr), (be, aI G 8194 fb), (sg, aI G 40000 fs), (nu, aI G 48200 fn), (fi, aI G 2050 ff), (le, aI G 40000 f2), (pl, aJ G 2048 fp), (rw, aI G 66 (upd (upd f1 0 46) (dn + 1) 46)), (va, aI G 66 g)] → hm_kp (fun a => a ∈ [y, le, rw, va]) M0 M → hm_I G.1 vwC A s.heap M H locs → lv_has ls 7 [(2, .int (nI i)), (0, .ref y)] → W p l e { frames := 1, cells := 0, slots := 0, locals := 25 } s m ([.ref y] : List Value).toArray below meth c H locs 0 0 (MQ below (hm_Q G.1 vwC (q_md_word G y th dn d np be sg nu bg nx fi le pl lf rt ln rw va ak dr fb fs fn ff fl fr fv fp o ox M0) A) ([.ref y] : List Value).toArray s 0 0 A) (F0 m 159 ls []) := by
                      intro k
                      induction k with
                      | zero => intro i g M H locs ls hfu hi hgz; exact absurd hfu (by omega)
                      | succ k ih =>
                        intro i g M H locs ls hfu hi hgz hw hk hH hl
                        refine lv_iload_n hx hb d_md_word_159 rfl (lv_at hl 0 rfl) ?_
                        refine lv_bipush (v := 66) hx hb d_md_word_160 (by decide) ?_
                        refine hn_icmp_ge (a := i) (b := 66) hx hb (by omega) (by omega) (tgt := 178) d_md_word_162 (by decide) (fun h162 => ?_) (fun h162 => ?_)
                        · skip
                          have hi66 : i = 66 := by omega
                          have hH := hm_ext (g := fun _ => 0) hH (hw.at 9 rfl) (fun j hj => hgz j (by omega))
                          have hw := hw.set (ws' := [(y, .inr (4, [.int (nI th), .int (nI dn), .ref d, .int (nI np), .ref be, .ref sg, .ref nu, .int (nI bg), .int (nI nx), .ref fi, .ref le, .ref pl, .int (nI lf), .int (nI rt), .int (nI dn), .ref rw, .ref va, .int (bI true)])), (d, aI G 200 dr), (be, aI G 8194 fb), (sg, aI G 40000 fs), (nu, aI G 48200 fn), (fi, aI G 2050 ff), (le, aI G 40000 f2), (pl, aJ G 2048 fp), (rw, aI G 66 (upd (upd f1 0 46) (dn + 1) 46)), (va, aI G 66 (fun _ => 0))]) (k := 9) rfl rfl
                          have hk := hk.wr (a := va) (v := some (aI G 66 (fun _ => 0))) (Or.inl (by simp))
                          generalize va_up M va (some (aI G 66 (fun _ => 0))) = M at hH hw hk
                          refine lv_iconst (v := 0) hx hb d_md_word_178 (by decide) ?_
                          refine lv_istore_n (lv' := [(2, .int 0), (0, .ref y)]) hx hb d_md_word_179 rfl hl (by decide) rfl (fun ls hl => ?_)
                          have L180 : ∀ (k : Nat) (p0 : Nat) (v : Nat → Int32) (M : hM) (H : Heap) (locs : List Loc) (ls : Array Slot), np + 1 ≤ p0 + k → p0 ≤ np → vMax (wT o fs fn (upd (upd f1 0 46) (dn + 1) 46) (dn + 2) p0 0) (dn + 2) v → hm_has M [(y, .inr (4, [.int (nI th), .int (nI dn), .ref d, .int (nI np), .ref be, .ref sg, .ref nu, .int (nI bg), .int (nI nx), .ref fi, .ref le, .ref pl, .int (nI lf), .int (nI rt), .int (nI dn), .ref rw, .ref va, .int (bI true)])), (d, aI G 200 dr), (be, aI G 8194 fb), (sg, aI G 40000 fs), (nu, aI G 48200 fn), (fi, aI G 2050 ff), (le, aI G 40000 f2), (pl, aJ G 2048 fp), (rw, aI G 66 (upd (upd f1 0 46) (dn + 1) 46)), (va, aI G 66 v)] → hm_kp (fun a => a ∈ [y, le, rw, va]) M0 M → hm_I G.1 vwC A s.heap M H locs → lv_has ls 7 [(2, .int (nI p0)), (0, .ref y)] → W p l e { frames := 1, cells := 0, slots := 0, locals := 25 } s m ([.ref y] : List Value).toArray below meth c H locs 0 0 (MQ below (hm_Q G.1 vwC (q_md_word G y th dn d np be sg nu bg nx fi le pl lf rt ln rw va ak dr fb fs fn ff fl fr fv fp o ox M0) A) ([.ref y] : List Value).toArray s 0 0 A) (F0 m 180 ls []) := by
                            intro k
                            induction k with
                            | zero => intro p0 v M H locs ls hfu hp0 hv; exact absurd hfu (by omega)
                            | succ k ih =>
                              intro p0 v M H locs ls hfu hp0 hv hw hk hH hl
                              refine lv_iload_n hx hb d_md_word_180 rfl (lv_at hl 0 rfl) ?_
                              refine lv_aload_n hx hb d_md_word_181 rfl (lv_at hl 1 rfl) ?_
                              refine hm_get E (tB in_md) hK hH (hw.at 0 rfl) rfl 3 (by decide) (tC wm_370) rfl d_md_word_182 ?_
                              refine hn_icmp_ge (a := p0) (b := np) hx hb (by omega) (by omega) (tgt := 234) d_md_word_185 (by decide) (fun h185 => ?_) (fun h185 => ?_)
                              · skip
                                have hpe : p0 = np := by omega
                                rw [hpe] at hv
                                refine lv_aload_n hx hb d_md_word_234 rfl (lv_at hl 1 rfl) ?_
                                refine lv_aload_n hx hb d_md_word_235 rfl (lv_at hl 1 rfl) ?_
                                refine hm_get E (tB in_md) hK hH (hw.at 0 rfl) rfl 14 (by decide) (tC wm_381) rfl d_md_word_236 ?_
                                have hM1 := c_md_find l G y th dn d np be sg nu bg nx fi le pl lf rt dn rw va true ff f2 ox dn M (hw.sub (ws' := [(y, .inr (4, [.int (nI th), .int (nI dn), .ref d, .int (nI np), .ref be, .ref sg, .ref nu, .int (nI bg), .int (nI nx), .ref fi, .ref le, .ref pl, .int (nI lf), .int (nI rt), .int (nI dn), .ref rw, .ref va, .int (bI true)])), (fi, aI G 2050 ff), (le, aI G 40000 f2)]) [0, 5, 6] rfl rfl) hff hxo hxl (by omega) (by omega) (by omega) H.size
                                have hG1 : GoodIn w_md_word (wsV R_md 84 R_md y_md_find w_md_find) := gB_V wm_459 wm_461 wp_13 wm_5 wm_462
                                refine hm_call (va_runV (y := y_md_find) (bytes := b_md_find) (maxL := 5) (ws := w_md_find) (rm := { frames := 0, cells := 0, slots := 0, locals := 0 }) (own := R_md) (index := 84) (ret := (Option.some Jvm.ClassFile.FieldType.int)) (C := R_md) (As := [.int (nI dn)]) (rest := []) E hM1 (cwV (y := y_md_find) (bytes := b_md_find) (maxL := 5) (ws := w_md_find) (rm := { frames := 0, cells := 0, slots := 0, locals := 0 }) (own := R_md) (index := 84) (ret := (Option.some Jvm.ClassFile.FieldType.int)) (C := R_md) 1 hts hG1 rfl rfl rfl (by decide +kernel) ⟨Nat.le_of_ble_eq_true rfl, Nat.le_of_ble_eq_true rfl⟩) (hm_preV gk_w gk_s hH hg hK (hw.at 0 rfl) rfl [.int (nI dn)]) rfl rfl hl.1 rfl (lv_room (Nat.le_of_ble_eq_true rfl)) d_md_word_239 ⟨(by show _ ≤ 0; omega), (by show _ ≤ 0; omega)⟩) hH (fun r1 M1 H1 locs1 hq1 hH1 => ?_)
                                replace hH := hH1; clear hH1; generalize H1 = H at hH ⊢; generalize locs1 = locs at hH ⊢
                                obtain ⟨e9, rfl, he9, hfd, hnf, e8⟩ := hq1
                                rw [e8] at hH
                                refine lv_istore_n (lv' := [(2, .int (nI e9)), (0, .ref y)]) hx hb d_md_word_242 rfl hl (by decide) rfl (fun ls hl => ?_)
                                refine lv_lconst (v := 0) hx hb d_md_word_243 (by decide) ?_
                                refine lv_lstore_n (lv' := [(3, .long 0), (2, .int (nI e9)), (0, .ref y)]) hx hb d_md_word_244 rfl hl (by decide) rfl (fun ls hl => ?_)
                                refine lv_iconst (v := 1) hx hb d_md_word_245 (by decide) ?_
                                refine lv_istore (lv' := [(5, .int 1), (3, .long 0), (2, .int (nI e9)), (0, .ref y)]) hx hb d_md_word_246 hl (by decide) rfl (fun ls hl => ?_)
                                have L248 : ∀ (k : Nat) (k9 : Nat) (cu : Int64) (H : Heap) (locs : List Loc) (ls : Array Slot), dn + 1 ≤ k9 + k → 1 ≤ k9 → k9 ≤ dn → cu = cutN (cuW lf rt dn (mbF nx e9 fp v)) k9 → hm_I G.1 vwC A s.heap M H locs → lv_has ls 7 [(5, .int (nI k9)), (3, .long cu), (2, .int (nI e9)), (0, .ref y)] → W p l e { frames := 1, cells := 0, slots := 0, locals := 25 } s m ([.ref y] : List Value).toArray below meth c H locs 0 0 (MQ below (hm_Q G.1 vwC (q_md_word G y th dn d np be sg nu bg nx fi le pl lf rt ln rw va ak dr fb fs fn ff fl fr fv fp o ox M0) A) ([.ref y] : List Value).toArray s 0 0 A) (F0 m 248 ls []) := by
                                  intro k
                                  induction k with
                                  | zero => intro k9 cu H locs ls hfu hk1 hkn hcu; exact absurd hfu (by omega)
                                  | succ k ih =>
                                    intro k9 cu H locs ls hfu hk1 hkn hcu hH hl
                                    refine lv_iload hx hb d_md_word_248 (lv_at hl 0 rfl) ?_
                                    refine lv_aload_n hx hb d_md_word_250 rfl (lv_at hl 3 rfl) ?_
                                    refine hm_get E (tB in_md) hK hH (hw.at 0 rfl) rfl 14 (by decide) (tC wm_381) rfl d_md_word_251 ?_
                                    refine hn_icmp_ge (a := k9) (b := dn) hx hb (by omega) (by omega) (tgt := 356) d_md_word_254 (by decide) (fun h254 => ?_) (fun h254 => ?_)
                                    · skip
                                      have hke : k9 = dn := by omega
                                      rw [hke] at hcu
                                      refine lv_aload_n hx hb d_md_word_356 rfl (lv_at hl 3 rfl) ?_
                                      refine lv_iconst (v := 0) hx hb d_md_word_357 (by decide) ?_
                                      have hM1 := c_md_fails l G y th dn d np be sg nu bg nx fi le pl lf rt dn rw va true 0 M (hw.sub (ws' := [(y, .inr (4, [.int (nI th), .int (nI dn), .ref d, .int (nI np), .ref be, .ref sg, .ref nu, .int (nI bg), .int (nI nx), .ref fi, .ref le, .ref pl, .int (nI lf), .int (nI rt), .int (nI dn), .ref rw, .ref va, .int (bI true)]))]) [0] rfl rfl) H.size
                                      have hG1 : GoodIn w_md_word (wsV R_md 69 R_md y_md_fails w_md_fails) := gB_V wm_446 wm_448 wp_11 wm_5 wm_449
                                      refine hm_call (va_runV (y := y_md_fails) (bytes := b_md_fails) (maxL := 2) (ws := w_md_fails) (rm := { frames := 0, cells := 0, slots := 0, locals := 0 }) (own := R_md) (index := 69) (ret := (Option.some Jvm.ClassFile.FieldType.int)) (C := R_md) (As := [.int 0]) (rest := []) E hM1 (cwV (y := y_md_fails) (bytes := b_md_fails) (maxL := 2) (ws := w_md_fails) (rm := { frames := 0, cells := 0, slots := 0, locals := 0 }) (own := R_md) (index := 69) (ret := (Option.some Jvm.ClassFile.FieldType.int)) (C := R_md) 1 hts hG1 rfl rfl rfl (by decide +kernel) ⟨Nat.le_of_ble_eq_true rfl, Nat.le_of_ble_eq_true rfl⟩) (hm_preV gk_w gk_s hH hg hK (hw.at 0 rfl) rfl [.int 0]) rfl rfl hl.1 rfl (lv_room (Nat.le_of_ble_eq_true rfl)) d_md_word_358 ⟨(by show _ ≤ 0; omega), (by show _ ≤ 0; omega)⟩) hH (fun r1 M1 H1 locs1 hq1 hH1 => ?_)
                                      replace hH := hH1; clear hH1; generalize H1 = H at hH ⊢; generalize locs1 = locs at hH ⊢
                                      obtain ⟨rfl, hw1, hk1⟩ := hq1
                                      have hw := hm_join (ws' := [(y, .inr (4, [.int (nI 0), .int (nI 0), .ref d, .int (nI np), .ref be, .ref sg, .ref nu, .int (nI bg), .int (nI nx), .ref fi, .ref le, .ref pl, .int (nI lf), .int (nI rt), .int (nI dn), .ref rw, .ref va, .int (bI true)])), (d, aI G 200 dr), (be, aI G 8194 fb), (sg, aI G 40000 fs), (nu, aI G 48200 fn), (fi, aI G 2050 ff), (le, aI G 40000 f2), (pl, aJ G 2048 fp), (rw, aI G 66 (upd (upd f1 0 46) (dn + 1) 46)), (va, aI G 66 v)]) (wc := [(y, .inr (4, [.int (nI th), .int (nI dn), .ref d, .int (nI np), .ref be, .ref sg, .ref nu, .int (nI bg), .int (nI nx), .ref fi, .ref le, .ref pl, .int (nI lf), .int (nI rt), .int (nI dn), .ref rw, .ref va, .int (bI true)]))]) hw hw1 hk1 [0] rfl rfl (fun a h => h) rfl (by
                                        intro k9 h9
                                        match k9, h9 with
                                        | 0, _ => exact Or.inr ⟨0, rfl, rfl⟩
                                        | 1, _ => exact Or.inl ⟨by decide, rfl⟩
                                        | 2, _ => exact Or.inl ⟨by decide, rfl⟩
                                        | 3, _ => exact Or.inl ⟨by decide, rfl⟩
                                        | 4, _ => exact Or.inl ⟨by decide, rfl⟩
                                        | 5, _ => exact Or.inl ⟨by decide, rfl⟩
                                        | 6, _ => exact Or.inl ⟨by decide, rfl⟩
                                        | 7, _ => exact Or.inl ⟨by decide, rfl⟩
                                        | 8, _ => exact Or.inl ⟨by decide, rfl⟩
                                        | 9, _ => exact Or.inl ⟨by decide, rfl⟩
                                        | k9 + 10, h9 => exact absurd h9 (Nat.not_lt_of_le (Nat.le_add_left _ _)))
                                      have hk := hk.tr hk1 (fun a h => by simp at h; subst h; simp)
                                      generalize M1 = M at hH hw hk
                                      refine lv_pop hx hb d_md_word_361 rfl ?_
                                      refine lv_lload_n hx hb d_md_word_362 rfl (lv_at hl 1 rfl) ?_
                                      exact hm_lret E hr hlk hH (Or.inr ⟨upd (upd f1 0 46) (dn + 1) 46, f2, v, e9, hok, row_end hf1, hf0, hf2, hv, he9, hfd, hnf, by rw [hcu, cw_end hr1 (by omega)], hw, hk⟩) (by omega) (by omega) d_md_word_363
                                    · skip
                                      refine lv_iload_n hx hb d_md_word_257 rfl (lv_at hl 2 rfl) ?_
                                      refine lv_aload_n hx hb d_md_word_258 rfl (lv_at hl 3 rfl) ?_
                                      refine hm_get E (tB in_md) hK hH (hw.at 0 rfl) rfl 8 (by decide) (tC wm_375) rfl d_md_word_259 ?_
                                      refine hn_icmp_ge (a := e9) (b := nx) hx hb (by omega) (by omega) (tgt := 289) d_md_word_262 (by decide) (fun h262 => ?_) (fun h262 => ?_)
                                      · skip
                                        refine lv_aload_n hx hb d_md_word_289 rfl (lv_at hl 3 rfl) ?_
                                        refine hm_get E (tB in_md) hK hH (hw.at 0 rfl) rfl 16 (by decide) (tC wm_383) rfl d_md_word_290 ?_
                                        refine lv_iload hx hb d_md_word_293 (lv_at hl 0 rfl) ?_
                                        refine lv_iconst (v := 1) hx hb d_md_word_295 (by decide) ?_
                                        refine hn_iadd hx hb (a := k9) (b := 1) d_md_word_296 ?_
                                        refine hm_iald E hK hH 0 (hw.at 9 rfl) rfl (i := k9 + 1) (by omega) (by decide) d_md_word_297 ?_
                                        refine lv_iconst (v := 2) hx hb d_md_word_298 (by decide) ?_
                                        refine lv_irem hx hb d_md_word_299 (by decide) ?_
                                        refine lv_iconst (v := 1) hx hb d_md_word_300 (by decide) ?_
                                        refine hc_icmp_ne (x := (v (k9 + 1)) - (v (k9 + 1)) / 2 * 2) (y := 1) (c9 := 1) hx hb (by decide) (tgt := 308) d_md_word_301 (by decide) (fun h301 => ?_) (fun h301 => ?_)
                                        · skip
                                          refine lv_iconst (v := 0) hx hb d_md_word_308 (by decide) ?_
                                          refine lv_istore (lv' := [(6, .int 0), (5, .int (nI k9)), (3, .long cu), (2, .int (nI e9)), (0, .ref y)]) hx hb d_md_word_309 hl (by decide) rfl (fun ls hl => ?_)
                                          refine lv_iload hx hb d_md_word_311 (lv_at hl 0 rfl) ?_
                                          refine hn_if_eq (a := 0) hx hb (by omega) (tgt := 348) d_md_word_313 (by decide) (fun h9c => ?_) (fun h9c => ?_)
                                          · skip
                                            refine lv_lload_n hx hb d_md_word_348 rfl (lv_at hl 2 rfl) ?_
                                            refine lv_lstore_n (lv' := [(3, .long cu), (6, .int 0), (5, .int (nI k9)), (2, .int (nI e9)), (0, .ref y)]) hx hb d_md_word_349 rfl hl (by decide) rfl (fun ls hl => ?_)
                                            refine lv_iinc (v := nI (k9 + 1)) (lv' := [(5, .int (nI (k9 + 1))), (3, .long cu), (6, .int 0), (2, .int (nI e9)), (0, .ref y)]) hx hb d_md_word_350 hl (k := 2) rfl (by first | exact nI_add _ 1 | (show nI _ + nI _ = _; rw [nI_add])) (by decide) rfl (fun ls hl => ?_)
                                            refine lv_goto (tgt := 248) hx hb d_md_word_353 (by decide) ?_
                                            exact ih (k9 + 1) _ _ _ _ (by omega) (by omega) (by omega) (by rw [hcu]; exact cw_n (cu_f1 (by rw [mb_o h262]; exact decide_eq_false h301))) hH (lv_sub hl [0, 1, 3, 4] rfl)
                                          · skip
                                            exact absurd h9c (by decide)
                                        · skip
                                          refine lv_iconst (v := 1) hx hb d_md_word_304 (by decide) ?_
                                          refine lv_goto (tgt := 309) hx hb d_md_word_305 (by decide) ?_
                                          refine lv_istore (lv' := [(6, .int 1), (5, .int (nI k9)), (3, .long cu), (2, .int (nI e9)), (0, .ref y)]) hx hb d_md_word_309 hl (by decide) rfl (fun ls hl => ?_)
                                          refine lv_iload hx hb d_md_word_311 (lv_at hl 0 rfl) ?_
                                          refine hn_if_eq (a := 1) hx hb (by omega) (tgt := 348) d_md_word_313 (by decide) (fun h9c => ?_) (fun h9c => ?_)
                                          · skip
                                            exact absurd h9c (by decide)
                                          · skip
                                            refine lv_iload hx hb d_md_word_316 (lv_at hl 1 rfl) ?_
                                            refine lv_aload_n hx hb d_md_word_318 rfl (lv_at hl 4 rfl) ?_
                                            refine hm_get E (tB in_md) hK hH (hw.at 0 rfl) rfl 12 (by decide) (tC wm_379) rfl d_md_word_319 ?_
                                            refine hn_icmp_lt (a := k9) (b := lf) hx hb (by omega) (by omega) (tgt := 348) d_md_word_322 (by decide) (fun h322 => ?_) (fun h322 => ?_)
                                            · skip
                                              refine lv_lload_n hx hb d_md_word_348 rfl (lv_at hl 2 rfl) ?_
                                              refine lv_lstore_n (lv' := [(3, .long cu), (6, .int 1), (5, .int (nI k9)), (2, .int (nI e9)), (0, .ref y)]) hx hb d_md_word_349 rfl hl (by decide) rfl (fun ls hl => ?_)
                                              refine lv_iinc (v := nI (k9 + 1)) (lv' := [(5, .int (nI (k9 + 1))), (3, .long cu), (6, .int 1), (2, .int (nI e9)), (0, .ref y)]) hx hb d_md_word_350 hl (k := 2) rfl (by first | exact nI_add _ 1 | (show nI _ + nI _ = _; rw [nI_add])) (by decide) rfl (fun ls hl => ?_)
                                              refine lv_goto (tgt := 248) hx hb d_md_word_353 (by decide) ?_
                                              exact ih (k9 + 1) _ _ _ _ (by omega) (by omega) (by omega) (by rw [hcu]; exact cw_n (cu_f2 h322)) hH (lv_sub hl [0, 1, 3, 4] rfl)
                                            · skip
                                              refine lv_aload_n hx hb d_md_word_325 rfl (lv_at hl 4 rfl) ?_
                                              refine hm_get E (tB in_md) hK hH (hw.at 0 rfl) rfl 14 (by decide) (tC wm_381) rfl d_md_word_326 ?_
                                              refine lv_iload hx hb d_md_word_329 (lv_at hl 1 rfl) ?_
                                              refine hn_isub hx hb (a := dn) (b := k9) (by omega) d_md_word_331 ?_
                                              refine lv_aload_n hx hb d_md_word_332 rfl (lv_at hl 4 rfl) ?_
                                              refine hm_get E (tB in_md) hK hH (hw.at 0 rfl) rfl 13 (by decide) (tC wm_380) rfl d_md_word_333 ?_
                                              refine hn_icmp_lt (a := dn - k9) (b := rt) hx hb (by omega) (by omega) (tgt := 348) d_md_word_336 (by decide) (fun h336 => ?_) (fun h336 => ?_)
                                              · skip
                                                refine lv_lload_n hx hb d_md_word_348 rfl (lv_at hl 2 rfl) ?_
                                                refine lv_lstore_n (lv' := [(3, .long cu), (6, .int 1), (5, .int (nI k9)), (2, .int (nI e9)), (0, .ref y)]) hx hb d_md_word_349 rfl hl (by decide) rfl (fun ls hl => ?_)
                                                refine lv_iinc (v := nI (k9 + 1)) (lv' := [(5, .int (nI (k9 + 1))), (3, .long cu), (6, .int 1), (2, .int (nI e9)), (0, .ref y)]) hx hb d_md_word_350 hl (k := 2) rfl (by first | exact nI_add _ 1 | (show nI _ + nI _ = _; rw [nI_add])) (by decide) rfl (fun ls hl => ?_)
                                                refine lv_goto (tgt := 248) hx hb d_md_word_353 (by decide) ?_
                                                exact ih (k9 + 1) _ _ _ _ (by omega) (by omega) (by omega) (by rw [hcu]; exact cw_n (cu_f3 (by omega))) hH (lv_sub hl [0, 1, 3, 4] rfl)
                                              · skip
                                                refine lv_lload_n hx hb d_md_word_339 rfl (lv_at hl 2 rfl) ?_
                                                refine lv_lconst (v := 1) hx hb d_md_word_340 (by decide) ?_
                                                refine lv_iload hx hb d_md_word_341 (lv_at hl 1 rfl) ?_
                                                refine lv_lshl hx hb d_md_word_343 rfl ?_
                                                refine lv_lor hx hb d_md_word_344 ?_
                                                refine lv_goto (tgt := 349) hx hb d_md_word_345 (by decide) ?_
                                                refine lv_lstore_n (lv' := [(3, .long (cu ||| (1 <<< ((nI k9).toInt64 &&& 63)))), (6, .int 1), (5, .int (nI k9)), (2, .int (nI e9)), (0, .ref y)]) hx hb d_md_word_349 rfl hl (by decide) rfl (fun ls hl => ?_)
                                                refine lv_iinc (v := nI (k9 + 1)) (lv' := [(5, .int (nI (k9 + 1))), (3, .long (cu ||| (1 <<< ((nI k9).toInt64 &&& 63)))), (6, .int 1), (2, .int (nI e9)), (0, .ref y)]) hx hb d_md_word_350 hl (k := 2) rfl (by first | exact nI_add _ 1 | (show nI _ + nI _ = _; rw [nI_add])) (by decide) rfl (fun ls hl => ?_)
                                                refine lv_goto (tgt := 248) hx hb d_md_word_353 (by decide) ?_
                                                exact ih (k9 + 1) _ _ _ _ (by omega) (by omega) (by omega) (by rw [hcu]; exact cw_y (cu_t (by rw [mb_o h262]; exact decide_eq_true h301) h322 (by omega))) hH (lv_sub hl [0, 1, 3, 4] rfl)
                                      · skip
                                        refine lv_aload_n hx hb d_md_word_265 rfl (lv_at hl 3 rfl) ?_
                                        refine hm_get E (tB in_md) hK hH (hw.at 0 rfl) rfl 11 (by decide) (tC wm_378) rfl d_md_word_266 ?_
                                        refine lv_iload_n hx hb d_md_word_269 rfl (lv_at hl 2 rfl) ?_
                                        refine hm_lald E hK hH 1 (hw.at 7 rfl) rfl (i := e9) (by omega) (by decide) d_md_word_270 ?_
                                        refine lv_iload hx hb d_md_word_271 (lv_at hl 0 rfl) ?_
                                        refine lv_lshr hx hb d_md_word_273 rfl ?_
                                        refine lv_lconst (v := 1) hx hb d_md_word_274 (by decide) ?_
                                        refine lv_land hx hb d_md_word_275 ?_
                                        refine lv_lconst (v := 1) hx hb d_md_word_276 (by decide) ?_
                                        refine hm_lcmp (x := ((fp e9) >>> ((nI k9).toInt64 &&& 63)) &&& 1) (y := 1) hx hb d_md_word_277 (fun z9 hz9 => ?_)
                                        refine hc_if_ne (x := z9) hx hb (tgt := 285) d_md_word_278 (by decide) (fun h278 => ?_) (fun h278 => ?_)
                                        · skip
                                          refine lv_iconst (v := 0) hx hb d_md_word_285 (by decide) ?_
                                          refine lv_goto (tgt := 309) hx hb d_md_word_286 (by decide) ?_
                                          refine lv_istore (lv' := [(6, .int 0), (5, .int (nI k9)), (3, .long cu), (2, .int (nI e9)), (0, .ref y)]) hx hb d_md_word_309 hl (by decide) rfl (fun ls hl => ?_)
                                          refine lv_iload hx hb d_md_word_311 (lv_at hl 0 rfl) ?_
                                          refine hn_if_eq (a := 0) hx hb (by omega) (tgt := 348) d_md_word_313 (by decide) (fun h9c => ?_) (fun h9c => ?_)
                                          · skip
                                            refine lv_lload_n hx hb d_md_word_348 rfl (lv_at hl 2 rfl) ?_
                                            refine lv_lstore_n (lv' := [(3, .long cu), (6, .int 0), (5, .int (nI k9)), (2, .int (nI e9)), (0, .ref y)]) hx hb d_md_word_349 rfl hl (by decide) rfl (fun ls hl => ?_)
                                            refine lv_iinc (v := nI (k9 + 1)) (lv' := [(5, .int (nI (k9 + 1))), (3, .long cu), (6, .int 0), (2, .int (nI e9)), (0, .ref y)]) hx hb d_md_word_350 hl (k := 2) rfl (by first | exact nI_add _ 1 | (show nI _ + nI _ = _; rw [nI_add])) (by decide) rfl (fun ls hl => ?_)
                                            refine lv_goto (tgt := 248) hx hb d_md_word_353 (by decide) ?_
                                            exact ih (k9 + 1) _ _ _ _ (by omega) (by omega) (by omega) (by rw [hcu]; exact cw_n (cu_f1 (by rw [mb_b h262]; exact decide_eq_false (fun z => h278 (hz9.mpr z))))) hH (lv_sub hl [0, 1, 3, 4] rfl)
                                          · skip
                                            exact absurd h9c (by decide)
                                        · skip
                                          refine lv_iconst (v := 1) hx hb d_md_word_281 (by decide) ?_
                                          refine lv_goto (tgt := 309) hx hb d_md_word_282 (by decide) ?_
                                          refine lv_istore (lv' := [(6, .int 1), (5, .int (nI k9)), (3, .long cu), (2, .int (nI e9)), (0, .ref y)]) hx hb d_md_word_309 hl (by decide) rfl (fun ls hl => ?_)
                                          refine lv_iload hx hb d_md_word_311 (lv_at hl 0 rfl) ?_
                                          refine hn_if_eq (a := 1) hx hb (by omega) (tgt := 348) d_md_word_313 (by decide) (fun h9c => ?_) (fun h9c => ?_)
                                          · skip
                                            exact absurd h9c (by decide)
                                          · skip
                                            refine lv_iload hx hb d_md_word_316 (lv_at hl 1 rfl) ?_
                                            refine lv_aload_n hx hb d_md_word_318 rfl (lv_at hl 4 rfl) ?_
                                            refine hm_get E (tB in_md) hK hH (hw.at 0 rfl) rfl 12 (by decide) (tC wm_379) rfl d_md_word_319 ?_
                                            refine hn_icmp_lt (a := k9) (b := lf) hx hb (by omega) (by omega) (tgt := 348) d_md_word_322 (by decide) (fun h322 => ?_) (fun h322 => ?_)
                                            · skip
                                              refine lv_lload_n hx hb d_md_word_348 rfl (lv_at hl 2 rfl) ?_
                                              refine lv_lstore_n (lv' := [(3, .long cu), (6, .int 1), (5, .int (nI k9)), (2, .int (nI e9)), (0, .ref y)]) hx hb d_md_word_349 rfl hl (by decide) rfl (fun ls hl => ?_)
                                              refine lv_iinc (v := nI (k9 + 1)) (lv' := [(5, .int (nI (k9 + 1))), (3, .long cu), (6, .int 1), (2, .int (nI e9)), (0, .ref y)]) hx hb d_md_word_350 hl (k := 2) rfl (by first | exact nI_add _ 1 | (show nI _ + nI _ = _; rw [nI_add])) (by decide) rfl (fun ls hl => ?_)
                                              refine lv_goto (tgt := 248) hx hb d_md_word_353 (by decide) ?_
                                              exact ih (k9 + 1) _ _ _ _ (by omega) (by omega) (by omega) (by rw [hcu]; exact cw_n (cu_f2 h322)) hH (lv_sub hl [0, 1, 3, 4] rfl)
                                            · skip
                                              refine lv_aload_n hx hb d_md_word_325 rfl (lv_at hl 4 rfl) ?_
                                              refine hm_get E (tB in_md) hK hH (hw.at 0 rfl) rfl 14 (by decide) (tC wm_381) rfl d_md_word_326 ?_
                                              refine lv_iload hx hb d_md_word_329 (lv_at hl 1 rfl) ?_
                                              refine hn_isub hx hb (a := dn) (b := k9) (by omega) d_md_word_331 ?_
                                              refine lv_aload_n hx hb d_md_word_332 rfl (lv_at hl 4 rfl) ?_
                                              refine hm_get E (tB in_md) hK hH (hw.at 0 rfl) rfl 13 (by decide) (tC wm_380) rfl d_md_word_333 ?_
                                              refine hn_icmp_lt (a := dn - k9) (b := rt) hx hb (by omega) (by omega) (tgt := 348) d_md_word_336 (by decide) (fun h336 => ?_) (fun h336 => ?_)
                                              · skip
                                                refine lv_lload_n hx hb d_md_word_348 rfl (lv_at hl 2 rfl) ?_
                                                refine lv_lstore_n (lv' := [(3, .long cu), (6, .int 1), (5, .int (nI k9)), (2, .int (nI e9)), (0, .ref y)]) hx hb d_md_word_349 rfl hl (by decide) rfl (fun ls hl => ?_)
                                                refine lv_iinc (v := nI (k9 + 1)) (lv' := [(5, .int (nI (k9 + 1))), (3, .long cu), (6, .int 1), (2, .int (nI e9)), (0, .ref y)]) hx hb d_md_word_350 hl (k := 2) rfl (by first | exact nI_add _ 1 | (show nI _ + nI _ = _; rw [nI_add])) (by decide) rfl (fun ls hl => ?_)
                                                refine lv_goto (tgt := 248) hx hb d_md_word_353 (by decide) ?_
                                                exact ih (k9 + 1) _ _ _ _ (by omega) (by omega) (by omega) (by rw [hcu]; exact cw_n (cu_f3 (by omega))) hH (lv_sub hl [0, 1, 3, 4] rfl)
                                              · skip
                                                refine lv_lload_n hx hb d_md_word_339 rfl (lv_at hl 2 rfl) ?_
                                                refine lv_lconst (v := 1) hx hb d_md_word_340 (by decide) ?_
                                                refine lv_iload hx hb d_md_word_341 (lv_at hl 1 rfl) ?_
                                                refine lv_lshl hx hb d_md_word_343 rfl ?_
                                                refine lv_lor hx hb d_md_word_344 ?_
                                                refine lv_goto (tgt := 349) hx hb d_md_word_345 (by decide) ?_
                                                refine lv_lstore_n (lv' := [(3, .long (cu ||| (1 <<< ((nI k9).toInt64 &&& 63)))), (6, .int 1), (5, .int (nI k9)), (2, .int (nI e9)), (0, .ref y)]) hx hb d_md_word_349 rfl hl (by decide) rfl (fun ls hl => ?_)
                                                refine lv_iinc (v := nI (k9 + 1)) (lv' := [(5, .int (nI (k9 + 1))), (3, .long (cu ||| (1 <<< ((nI k9).toInt64 &&& 63)))), (6, .int 1), (2, .int (nI e9)), (0, .ref y)]) hx hb d_md_word_350 hl (k := 2) rfl (by first | exact nI_add _ 1 | (show nI _ + nI _ = _; rw [nI_add])) (by decide) rfl (fun ls hl => ?_)
                                                refine lv_goto (tgt := 248) hx hb d_md_word_353 (by decide) ?_
                                                exact ih (k9 + 1) _ _ _ _ (by omega) (by omega) (by omega) (by rw [hcu]; exact cw_y (cu_t (by rw [mb_b h262]; exact decide_eq_true (hz9.mp (h278))) h322 (by omega))) hH (lv_sub hl [0, 1, 3, 4] rfl)
                                exact L248 (dn + 1) 1 0 _ _ _ (by omega) (by omega) (by omega) (cw_1 hl1) hH (lv_sub hl [0, 1, 2, 3] rfl)
                              · skip
                                have hmo1 := hmo p0 (by omega)
                                have hle1 := hle (p0 + 1) (by omega)
                                refine lv_iconst (v := 0) hx hb d_md_word_188 (by decide) ?_
                                refine lv_istore_n (lv' := [(3, .int 0), (2, .int (nI p0)), (0, .ref y)]) hx hb d_md_word_189 rfl hl (by decide) rfl (fun ls hl => ?_)
                                have L190 : ∀ (k : Nat) (i : Nat) (v : Nat → Int32) (M : hM) (H : Heap) (locs : List Loc) (ls : Array Slot), dn + 5 ≤ i + k → i ≤ dn + 3 → vMax (wT o fs fn (upd (upd f1 0 46) (dn + 1) 46) (dn + 2) p0 i) (dn + 2) v → hm_has M [(y, .inr (4, [.int (nI th), .int (nI dn), .ref d, .int (nI np), .ref be, .ref sg, .ref nu, .int (nI bg), .int (nI nx), .ref fi, .ref le, .ref pl, .int (nI lf), .int (nI rt), .int (nI dn), .ref rw, .ref va, .int (bI true)])), (d, aI G 200 dr), (be, aI G 8194 fb), (sg, aI G 40000 fs), (nu, aI G 48200 fn), (fi, aI G 2050 ff), (le, aI G 40000 f2), (pl, aJ G 2048 fp), (rw, aI G 66 (upd (upd f1 0 46) (dn + 1) 46)), (va, aI G 66 v)] → hm_kp (fun a => a ∈ [y, le, rw, va]) M0 M → hm_I G.1 vwC A s.heap M H locs → lv_has ls 7 [(3, .int (nI i)), (2, .int (nI p0)), (0, .ref y)] → W p l e { frames := 1, cells := 0, slots := 0, locals := 25 } s m ([.ref y] : List Value).toArray below meth c H locs 0 0 (MQ below (hm_Q G.1 vwC (q_md_word G y th dn d np be sg nu bg nx fi le pl lf rt ln rw va ak dr fb fs fn ff fl fr fv fp o ox M0) A) ([.ref y] : List Value).toArray s 0 0 A) (F0 m 190 ls []) := by
                                  intro k
                                  induction k with
                                  | zero => intro i v M H locs ls hfu hi hv; exact absurd hfu (by omega)
                                  | succ k ih2 =>
                                    intro i v M H locs ls hfu hi hv hw hk hH hl
                                    refine lv_iload_n hx hb d_md_word_190 rfl (lv_at hl 0 rfl) ?_
                                    refine lv_aload_n hx hb d_md_word_191 rfl (lv_at hl 2 rfl) ?_
                                    refine hm_get E (tB in_md) hK hH (hw.at 0 rfl) rfl 4 (by decide) (tC wm_371) rfl d_md_word_192 ?_
                                    refine lv_iload_n hx hb d_md_word_195 rfl (lv_at hl 1 rfl) ?_
                                    refine lv_iconst (v := 1) hx hb d_md_word_196 (by decide) ?_
                                    refine hn_iadd hx hb (a := p0) (b := 1) d_md_word_197 ?_
                                    refine hm_iald E hK hH 0 (hw.at 2 rfl) rfl (i := p0 + 1) (by omega) (by decide) d_md_word_198 ?_
                                    refine hm_top (w := .int (nI (o (p0 + 1)))) (by rw [hbe (p0 + 1) (by omega)]) ?_
                                    refine hn_iadd hx hb (a := i) (b := o (p0 + 1)) d_md_word_199 ?_
                                    refine lv_aload_n hx hb d_md_word_200 rfl (lv_at hl 2 rfl) ?_
                                    refine hm_get E (tB in_md) hK hH (hw.at 0 rfl) rfl 4 (by decide) (tC wm_371) rfl d_md_word_201 ?_
                                    refine lv_iload_n hx hb d_md_word_204 rfl (lv_at hl 1 rfl) ?_
                                    refine hm_iald E hK hH 0 (hw.at 2 rfl) rfl (i := p0) (by omega) (by decide) d_md_word_205 ?_
                                    refine hm_top (w := .int (nI (o p0))) (by rw [hbe p0 (by omega)]) ?_
                                    refine hn_isub hx hb (a := i + (o (p0 + 1))) (b := o p0) (by omega) d_md_word_206 ?_
                                    refine lv_aload_n hx hb d_md_word_207 rfl (lv_at hl 2 rfl) ?_
                                    refine hm_get E (tB in_md) hK hH (hw.at 0 rfl) rfl 14 (by decide) (tC wm_381) rfl d_md_word_208 ?_
                                    refine lv_iconst (v := 2) hx hb d_md_word_211 (by decide) ?_
                                    refine hn_iadd hx hb (a := dn) (b := 2) d_md_word_212 ?_
                                    refine hn_icmp_gt (a := (i + (o (p0 + 1))) - (o p0)) (b := dn + 2) hx hb (by omega) (by omega) (tgt := 228) d_md_word_213 (by decide) (fun h213 => ?_) (fun h213 => ?_)
                                    · skip
                                      refine lv_iinc (v := nI (p0 + 1)) (lv' := [(2, .int (nI (p0 + 1))), (3, .int (nI i)), (0, .ref y)]) hx hb d_md_word_228 hl (k := 1) rfl (by first | exact nI_add _ 1 | (show nI _ + nI _ = _; rw [nI_add])) (by decide) rfl (fun ls hl => ?_)
                                      refine lv_goto (tgt := 180) hx hb d_md_word_231 (by decide) ?_
                                      exact ih (p0 + 1) v M _ _ _ (by omega) (by omega) (wT_e hv (by omega)) hw hk hH (lv_sub hl [0, 2] rfl)
                                    · skip
                                      refine lv_aload_n hx hb d_md_word_216 rfl (lv_at hl 2 rfl) ?_
                                      refine lv_iload_n hx hb d_md_word_217 rfl (lv_at hl 1 rfl) ?_
                                      refine lv_iload_n hx hb d_md_word_218 rfl (lv_at hl 0 rfl) ?_
                                      have hM1 := c_md_attempt l G y th dn d np be sg nu bg nx fi le pl lf rt dn rw va true fb fs fn (upd (upd f1 0 46) (dn + 1) 46) v (o p0) (o (p0 + 1) - o p0) p0 i M (hw.sub (ws' := [(y, .inr (4, [.int (nI th), .int (nI dn), .ref d, .int (nI np), .ref be, .ref sg, .ref nu, .int (nI bg), .int (nI nx), .ref fi, .ref le, .ref pl, .int (nI lf), .int (nI rt), .int (nI dn), .ref rw, .ref va, .int (bI true)])), (be, aI G 8194 fb), (sg, aI G 40000 fs), (nu, aI G 48200 fn), (rw, aI G 66 (upd (upd f1 0 46) (dn + 1) 46)), (va, aI G 66 v)]) [0, 2, 3, 4, 8, 9] rfl rfl) (hbe p0 (by omega)) (by rw [hbe (p0 + 1) (by omega), show o p0 + (o (p0 + 1) - o p0) = o (p0 + 1) by omega]) (by omega) (by omega) (by omega) H.size
                                      have hG1 : GoodIn w_md_word (wsV R_md 94 R_md y_md_attempt w_md_attempt) := gB_V wm_467 wm_469 wp_14 wm_5 wm_470
                                      refine hm_call (va_runV (y := y_md_attempt) (bytes := b_md_attempt) (maxL := 6) (ws := w_md_attempt) (rm := { frames := 0, cells := 0, slots := 0, locals := 0 }) (own := R_md) (index := 94) (ret := (Option.none : Option Jvm.ClassFile.FieldType)) (C := R_md) (As := [.int (nI p0), .int (nI i)]) (rest := []) E hM1 (cwV (y := y_md_attempt) (bytes := b_md_attempt) (maxL := 6) (ws := w_md_attempt) (rm := { frames := 0, cells := 0, slots := 0, locals := 0 }) (own := R_md) (index := 94) (ret := (Option.none : Option Jvm.ClassFile.FieldType)) (C := R_md) 2 hts hG1 rfl rfl rfl (by decide +kernel) ⟨Nat.le_of_ble_eq_true rfl, Nat.le_of_ble_eq_true rfl⟩) (hm_preV gk_w gk_s hH hg hK (hw.at 0 rfl) rfl [.int (nI p0), .int (nI i)]) rfl rfl hl.1 rfl (lv_room (Nat.le_of_ble_eq_true rfl)) d_md_word_219 ⟨(by show _ ≤ 0; omega), (by show _ ≤ 0; omega)⟩) hH (fun r1 M1 H1 locs1 hq1 hH1 => ?_)
                                      replace hH := hH1; clear hH1; generalize H1 = H at hH ⊢; generalize locs1 = locs at hH ⊢
                                      obtain ⟨rfl, halt, hk1⟩ := hq1
                                      obtain ⟨v2, hw1, hv2⟩ : ∃ v2, hm_has M1 [(y, .inr (4, [.int (nI th), .int (nI dn), .ref d, .int (nI np), .ref be, .ref sg, .ref nu, .int (nI bg), .int (nI nx), .ref fi, .ref le, .ref pl, .int (nI lf), .int (nI rt), .int (nI dn), .ref rw, .ref va, .int (bI true)])), (be, aI G 8194 fb), (sg, aI G 40000 fs), (nu, aI G 48200 fn), (rw, aI G 66 (upd (upd f1 0 46) (dn + 1) 46)), (va, aI G 66 v2)] ∧ vMax (wT o fs fn (upd (upd f1 0 46) (dn + 1) 46) (dn + 2) p0 (i + 1)) (dn + 2) v2 := by
                                        rcases halt with ⟨z1, z2⟩ | ⟨z1, z2⟩
                                        · exact ⟨_, z2, wT_y hv (by omega) z1 (hnn p0 (by omega))⟩
                                        · exact ⟨_, z2, wT_n hv z1⟩
                                      clear halt
                                      have hw := hm_join (ws' := [(y, .inr (4, [.int (nI th), .int (nI dn), .ref d, .int (nI np), .ref be, .ref sg, .ref nu, .int (nI bg), .int (nI nx), .ref fi, .ref le, .ref pl, .int (nI lf), .int (nI rt), .int (nI dn), .ref rw, .ref va, .int (bI true)])), (d, aI G 200 dr), (be, aI G 8194 fb), (sg, aI G 40000 fs), (nu, aI G 48200 fn), (fi, aI G 2050 ff), (le, aI G 40000 f2), (pl, aJ G 2048 fp), (rw, aI G 66 (upd (upd f1 0 46) (dn + 1) 46)), (va, aI G 66 v2)]) (wc := [(y, .inr (4, [.int (nI th), .int (nI dn), .ref d, .int (nI np), .ref be, .ref sg, .ref nu, .int (nI bg), .int (nI nx), .ref fi, .ref le, .ref pl, .int (nI lf), .int (nI rt), .int (nI dn), .ref rw, .ref va, .int (bI true)])), (be, aI G 8194 fb), (sg, aI G 40000 fs), (nu, aI G 48200 fn), (rw, aI G 66 (upd (upd f1 0 46) (dn + 1) 46)), (va, aI G 66 v)]) hw hw1 hk1 [0, 2, 3, 4, 8, 9] rfl rfl (fun a h => by simp at h; subst h; simp) rfl (by
                                        intro k9 h9
                                        match k9, h9 with
                                        | 0, _ => exact Or.inr ⟨0, rfl, rfl⟩
                                        | 1, _ => exact Or.inl ⟨by decide, rfl⟩
                                        | 2, _ => exact Or.inr ⟨1, rfl, rfl⟩
                                        | 3, _ => exact Or.inr ⟨2, rfl, rfl⟩
                                        | 4, _ => exact Or.inr ⟨3, rfl, rfl⟩
                                        | 5, _ => exact Or.inl ⟨by decide, rfl⟩
                                        | 6, _ => exact Or.inl ⟨by decide, rfl⟩
                                        | 7, _ => exact Or.inl ⟨by decide, rfl⟩
                                        | 8, _ => exact Or.inr ⟨4, rfl, rfl⟩
                                        | 9, _ => exact Or.inr ⟨5, rfl, rfl⟩
                                        | k9 + 10, h9 => exact absurd h9 (Nat.not_lt_of_le (Nat.le_add_left _ _)))
                                      have hk := hk.tr hk1 (fun a h => by simp at h; subst h; simp)
                                      generalize M1 = M at hH hw hk
                                      refine lv_iinc (v := nI (i + 1)) (lv' := [(3, .int (nI (i + 1))), (2, .int (nI p0)), (0, .ref y)]) hx hb d_md_word_222 hl (k := 0) rfl (by first | exact nI_add _ 1 | (show nI _ + nI _ = _; rw [nI_add])) (by decide) rfl (fun ls hl => ?_)
                                      refine lv_goto (tgt := 190) hx hb d_md_word_225 (by decide) ?_
                                      exact ih2 (i + 1) v2 M _ _ _ (by omega) (by omega) hv2 hw hk hH (lv_sub hl [0, 1, 2] rfl)
                                exact L190 (dn + 5) 0 v M _ _ _ (by omega) (by omega) hv hw hk hH (lv_sub hl [0, 1, 2] rfl)
                          exact L180 (np + 1) 0 (fun _ => 0) M _ _ _ (by omega) (by omega) (vMax_0 (fun _ _ _ => wT_0)) hw hk hH (lv_sub hl [0, 1] rfl)
                        · skip
                          refine lv_aload_n hx hb d_md_word_165 rfl (lv_at hl 1 rfl) ?_
                          refine hm_get E (tB in_md) hK hH (hw.at 0 rfl) rfl 16 (by decide) (tC wm_383) rfl d_md_word_166 ?_
                          refine lv_iload_n hx hb d_md_word_169 rfl (lv_at hl 0 rfl) ?_
                          refine lv_iconst (v := 0) hx hb d_md_word_170 (by decide) ?_
                          refine hm_iast E hK hH 0 (hw.at 9 rfl) rfl (i := i) (by omega) (by decide) d_md_word_171 (fun H locs hH => ?_)
                          have hw := hw.set (ws' := [(y, .inr (4, [.int (nI th), .int (nI dn), .ref d, .int (nI np), .ref be, .ref sg, .ref nu, .int (nI bg), .int (nI nx), .ref fi, .ref le, .ref pl, .int (nI lf), .int (nI rt), .int (nI dn), .ref rw, .ref va, .int (bI true)])), (d, aI G 200 dr), (be, aI G 8194 fb), (sg, aI G 40000 fs), (nu, aI G 48200 fn), (fi, aI G 2050 ff), (le, aI G 40000 f2), (pl, aJ G 2048 fp), (rw, aI G 66 (upd (upd f1 0 46) (dn + 1) 46)), (va, aI G 66 (upd g i 0))]) (k := 9) rfl rfl
                          have hk := hk.wr (a := va) (v := some (aI G 66 (upd g i 0))) (by first | (right; assumption) | (left; simp; done))
                          generalize va_up M va (some (aI G 66 (upd g i 0))) = M at hH hw hk ⊢
                          refine lv_iinc (v := nI (i + 1)) (lv' := [(2, .int (nI (i + 1))), (0, .ref y)]) hx hb d_md_word_172 hl (k := 0) rfl (by first | exact nI_add _ 1 | (show nI _ + nI _ = _; rw [nI_add])) (by decide) rfl (fun ls hl => ?_)
                          refine lv_goto (tgt := 159) hx hb d_md_word_175 (by decide) ?_
                          exact ih (i + 1) (upd g i 0) M _ _ _ (by omega) (by omega) (upd_all hgz) hw hk hH (lv_sub hl [0, 1] rfl)
                    exact L159 67 0 fv M _ _ _ (by omega) (by omega) (fun j hj => absurd hj (by omega)) hw hk hH (lv_sub hl [0, 1] rfl)
                  · skip
                    refine lv_aload_n hx hb d_md_word_94 rfl (lv_at hl 1 rfl) ?_
                    refine hm_get E (tB in_md) hK hH (hw.at 0 rfl) rfl 15 (by decide) (tC wm_382) rfl d_md_word_95 ?_
                    refine lv_iload_n hx hb d_md_word_98 rfl (lv_at hl 0 rfl) ?_
                    refine lv_iconst (v := 1) hx hb d_md_word_99 (by decide) ?_
                    refine hn_iadd hx hb (a := i) (b := 1) d_md_word_100 ?_
                    refine lv_aload_n hx hb d_md_word_101 rfl (lv_at hl 1 rfl) ?_
                    refine hm_get E (tB in_md) hK hH (hw.at 0 rfl) rfl 2 (by decide) (tC wm_369) rfl d_md_word_102 ?_
                    refine lv_iload_n hx hb d_md_word_105 rfl (lv_at hl 0 rfl) ?_
                    refine hm_iald E hK hH 0 (hw.at 1 rfl) rfl (i := i) (by omega) (by decide) d_md_word_106 ?_
                    refine hm_iast E hK hH 0 (hw.at 8 rfl) rfl (i := i + 1) (by omega) (by decide) d_md_word_107 (fun H locs hH => ?_)
                    have hw := hw.set (ws' := [(y, .inr (4, [.int (nI th), .int (nI dn), .ref d, .int (nI np), .ref be, .ref sg, .ref nu, .int (nI bg), .int (nI nx), .ref fi, .ref le, .ref pl, .int (nI lf), .int (nI rt), .int (nI dn), .ref rw, .ref va, .int (bI true)])), (d, aI G 200 dr), (be, aI G 8194 fb), (sg, aI G 40000 fs), (nu, aI G 48200 fn), (fi, aI G 2050 ff), (le, aI G 40000 f2), (pl, aJ G 2048 fp), (rw, aI G 66 (upd f1 (i + 1) (dr i))), (va, aI G 66 fv)]) (k := 8) rfl rfl
                    have hk := hk.wr (a := rw) (v := some (aI G 66 (upd f1 (i + 1) (dr i)))) (by first | (right; assumption) | (left; simp; done))
                    generalize va_up M rw (some (aI G 66 (upd f1 (i + 1) (dr i)))) = M at hH hw hk ⊢
                    refine lv_aload_n hx hb d_md_word_108 rfl (lv_at hl 1 rfl) ?_
                    refine hm_get E (tB in_md) hK hH (hw.at 0 rfl) rfl 10 (by decide) (tC wm_377) rfl d_md_word_109 ?_
                    refine lv_aload_n hx hb d_md_word_112 rfl (lv_at hl 1 rfl) ?_
                    refine hm_get E (tB in_md) hK hH (hw.at 0 rfl) rfl 9 (by decide) (tC wm_376) rfl d_md_word_113 ?_
                    refine lv_aload_n hx hb d_md_word_116 rfl (lv_at hl 1 rfl) ?_
                    refine hm_get E (tB in_md) hK hH (hw.at 0 rfl) rfl 8 (by decide) (tC wm_375) rfl d_md_word_117 ?_
                    refine hm_iald E hK hH 0 (hw.at 5 rfl) rfl (i := nx) (by omega) (by decide) d_md_word_120 ?_
                    refine hm_top (w := .int (nI (ox nx))) (by rw [hff nx (Nat.le_refl _)]) ?_
                    refine lv_iload_n hx hb d_md_word_121 rfl (lv_at hl 0 rfl) ?_
                    refine hn_iadd hx hb (a := ox nx) (b := i) d_md_word_122 ?_
                    refine lv_aload_n hx hb d_md_word_123 rfl (lv_at hl 1 rfl) ?_
                    refine hm_get E (tB in_md) hK hH (hw.at 0 rfl) rfl 2 (by decide) (tC wm_369) rfl d_md_word_124 ?_
                    refine lv_iload_n hx hb d_md_word_127 rfl (lv_at hl 0 rfl) ?_
                    refine hm_iald E hK hH 0 (hw.at 1 rfl) rfl (i := i) (by omega) (by decide) d_md_word_128 ?_
                    refine hm_iast E hK hH 0 (hw.at 6 rfl) rfl (i := ox nx + i) (by omega) (by decide) d_md_word_129 (fun H locs hH => ?_)
                    have hw := hw.set (ws' := [(y, .inr (4, [.int (nI th), .int (nI dn), .ref d, .int (nI np), .ref be, .ref sg, .ref nu, .int (nI bg), .int (nI nx), .ref fi, .ref le, .ref pl, .int (nI lf), .int (nI rt), .int (nI dn), .ref rw, .ref va, .int (bI true)])), (d, aI G 200 dr), (be, aI G 8194 fb), (sg, aI G 40000 fs), (nu, aI G 48200 fn), (fi, aI G 2050 ff), (le, aI G 40000 (upd f2 (ox nx + i) (dr i))), (pl, aJ G 2048 fp), (rw, aI G 66 (upd f1 (i + 1) (dr i))), (va, aI G 66 fv)]) (k := 6) rfl rfl
                    have hk := hk.wr (a := le) (v := some (aI G 40000 (upd f2 (ox nx + i) (dr i)))) (by first | (right; assumption) | (left; simp; done))
                    generalize va_up M le (some (aI G 40000 (upd f2 (ox nx + i) (dr i)))) = M at hH hw hk ⊢
                    refine lv_iinc (v := nI (i + 1)) (lv' := [(2, .int (nI (i + 1))), (0, .ref y)]) hx hb d_md_word_130 hl (k := 0) rfl (by first | exact nI_add _ 1 | (show nI _ + nI _ = _; rw [nI_add])) (by decide) rfl (fun ls hl => ?_)
                    refine lv_goto (tgt := 86) hx hb d_md_word_133 (by decide) ?_
                    exact ih (i + 1) (upd f1 (i + 1) (dr i)) (upd f2 (ox nx + i) (dr i)) M _ _ _ (by omega) (by omega) (row_S hf1 rfl) (bl_upd hf0 (by omega)) (sg_S rfl hf2 rfl) hw hk hH (lv_sub hl [0, 1] rfl)
              exact L86 (dn + 1) 0 fr fl M _ _ _ (by omega) (by omega) (fun j hj => absurd hj (by omega)) (fun _ _ => rfl) (fun j hj => absurd hj (by omega)) hw hk hH (lv_sub hl [0, 2] rfl)
            · skip
              refine lv_aload_n hx hb d_md_word_64 rfl (lv_at hl 2 rfl) ?_
              refine lv_iconst (v := 1) hx hb d_md_word_65 (by decide) ?_
              have hM1 := c_md_fails l G y th dn d np be sg nu bg nx fi le pl lf rt ln rw va ak 1 M (hw.sub (ws' := [(y, .inr (4, [.int (nI th), .int (nI dn), .ref d, .int (nI np), .ref be, .ref sg, .ref nu, .int (nI bg), .int (nI nx), .ref fi, .ref le, .ref pl, .int (nI lf), .int (nI rt), .int (nI ln), .ref rw, .ref va, .int (bI ak)]))]) [0] rfl rfl) H.size
              have hG1 : GoodIn w_md_word (wsV R_md 69 R_md y_md_fails w_md_fails) := gB_V wm_446 wm_448 wp_11 wm_5 wm_449
              refine hm_call (va_runV (y := y_md_fails) (bytes := b_md_fails) (maxL := 2) (ws := w_md_fails) (rm := { frames := 0, cells := 0, slots := 0, locals := 0 }) (own := R_md) (index := 69) (ret := (Option.some Jvm.ClassFile.FieldType.int)) (C := R_md) (As := [.int 1]) (rest := []) E hM1 (cwV (y := y_md_fails) (bytes := b_md_fails) (maxL := 2) (ws := w_md_fails) (rm := { frames := 0, cells := 0, slots := 0, locals := 0 }) (own := R_md) (index := 69) (ret := (Option.some Jvm.ClassFile.FieldType.int)) (C := R_md) 1 hts hG1 rfl rfl rfl (by decide +kernel) ⟨Nat.le_of_ble_eq_true rfl, Nat.le_of_ble_eq_true rfl⟩) (hm_preV gk_w gk_s hH hg hK (hw.at 0 rfl) rfl [.int 1]) rfl rfl hl.1 rfl (lv_room (Nat.le_of_ble_eq_true rfl)) d_md_word_66 ⟨(by show _ ≤ 0; omega), (by show _ ≤ 0; omega)⟩) hH (fun r1 M1 H1 locs1 hq1 hH1 => ?_)
              replace hH := hH1; clear hH1; generalize H1 = H at hH ⊢; generalize locs1 = locs at hH ⊢
              obtain ⟨rfl, hw1, hk1⟩ := hq1
              have hw := hm_join (ws' := [(y, .inr (4, [.int (nI 1), .int (nI 0), .ref d, .int (nI np), .ref be, .ref sg, .ref nu, .int (nI bg), .int (nI nx), .ref fi, .ref le, .ref pl, .int (nI lf), .int (nI rt), .int (nI ln), .ref rw, .ref va, .int (bI ak)])), (d, aI G 200 dr), (be, aI G 8194 fb), (sg, aI G 40000 fs), (nu, aI G 48200 fn), (fi, aI G 2050 ff), (le, aI G 40000 fl), (pl, aJ G 2048 fp), (rw, aI G 66 fr), (va, aI G 66 fv)]) (wc := [(y, .inr (4, [.int (nI th), .int (nI dn), .ref d, .int (nI np), .ref be, .ref sg, .ref nu, .int (nI bg), .int (nI nx), .ref fi, .ref le, .ref pl, .int (nI lf), .int (nI rt), .int (nI ln), .ref rw, .ref va, .int (bI ak)]))]) hw hw1 hk1 [0] rfl rfl (fun a h => h) rfl (by
                intro k9 h9
                match k9, h9 with
                | 0, _ => exact Or.inr ⟨0, rfl, rfl⟩
                | 1, _ => exact Or.inl ⟨by decide, rfl⟩
                | 2, _ => exact Or.inl ⟨by decide, rfl⟩
                | 3, _ => exact Or.inl ⟨by decide, rfl⟩
                | 4, _ => exact Or.inl ⟨by decide, rfl⟩
                | 5, _ => exact Or.inl ⟨by decide, rfl⟩
                | 6, _ => exact Or.inl ⟨by decide, rfl⟩
                | 7, _ => exact Or.inl ⟨by decide, rfl⟩
                | 8, _ => exact Or.inl ⟨by decide, rfl⟩
                | 9, _ => exact Or.inl ⟨by decide, rfl⟩
                | k9 + 10, h9 => exact absurd h9 (Nat.not_lt_of_le (Nat.le_add_left _ _)))
              have hk := hk.tr hk1 (fun a h => by simp at h; subst h; simp)
              generalize M1 = M at hH hw hk
              refine lv_i2l hx hb d_md_word_69 rfl ?_
              exact hm_lret E hr hlk hH (Or.inl ⟨fun z => (by have h8 := gw_ok.mpr z; rw [h61] at h8; cases h8), ⟨_, rfl⟩, hw, hk⟩) (by omega) (by omega) d_md_word_70
          · skip
            refine lv_iload_n hx hb d_md_word_32 rfl (lv_at hl 1 rfl) ?_
            refine hb_if_eq (b := gwP dr dn i) hx hb (tgt := 52) d_md_word_33 (by decide) (fun h33 => ?_) (fun h33 => ?_)
            · skip
              refine lv_iconst (v := 0) hx hb d_md_word_52 (by decide) ?_
              refine lv_istore_n (lv' := [(1, .int 0), (2, .int (nI i)), (0, .ref y)]) hx hb d_md_word_53 rfl hl (by decide) rfl (fun ls hl => ?_)
              refine lv_iinc (v := nI (i + 1)) (lv' := [(2, .int (nI (i + 1))), (1, .int 0), (0, .ref y)]) hx hb d_md_word_54 hl (k := 1) rfl (by first | exact nI_add _ 1 | (show nI _ + nI _ = _; rw [nI_add])) (by decide) rfl (fun ls hl => ?_)
              refine lv_goto (tgt := 24) hx hb d_md_word_57 (by decide) ?_
              exact ih (i + 1) _ _ _ (by omega) (by omega) hH (lv_cv (lv_sub hl [0, 1, 2] rfl) (by simp [gwP, bI_t, bI_f, h33] <;> rfl))
            · skip
              refine lv_aload_n hx hb d_md_word_36 rfl (lv_at hl 2 rfl) ?_
              refine hm_get E (tB in_md) hK hH (hw.at 0 rfl) rfl 2 (by decide) (tC wm_369) rfl d_md_word_37 ?_
              refine lv_iload_n hx hb d_md_word_40 rfl (lv_at hl 0 rfl) ?_
              refine hm_iald E hK hH 0 (hw.at 1 rfl) rfl (i := i) (by omega) (by decide) d_md_word_41 ?_
              have hM1 := c_md_isLetter l G (dr i) M (hby _) H.size
              have hG1 : GoodIn w_md_word (wsS R_md 58 y_md_isLetter w_md_isLetter) := gB_S wm_440 wm_441 wm_5 wm_442
              refine hm_call (va_runS (y := y_md_isLetter) (bytes := b_md_isLetter) (maxL := 1) (ws := w_md_isLetter) (rm := { frames := 0, cells := 0, slots := 0, locals := 0 }) (own := R_md) (index := 58) (ret := (Option.some Jvm.ClassFile.FieldType.boolean)) (As := [.int (dr i)]) (rest := []) E hM1 (cwS (y := y_md_isLetter) (bytes := b_md_isLetter) (maxL := 1) (ws := w_md_isLetter) (rm := { frames := 0, cells := 0, slots := 0, locals := 0 }) (own := R_md) (index := 58) (ret := (Option.some Jvm.ClassFile.FieldType.boolean)) 1 hts hG1 rfl rfl rfl (by decide +kernel) ⟨Nat.le_of_ble_eq_true rfl, Nat.le_of_ble_eq_true rfl⟩) (hm_preS gk_w gk_s hH hg [.int (dr i)]) rfl rfl hl.1 rfl (lv_room (Nat.le_of_ble_eq_true rfl)) d_md_word_42 ⟨(by show _ ≤ 0; omega), (by show _ ≤ 0; omega)⟩) hH (fun r1 M1 H1 locs1 hq1 hH1 => ?_)
              obtain ⟨rfl, e1⟩ := hq1
              replace hH := hH1; rw [e1] at hH; clear hH1 e1; generalize H1 = H at hH ⊢; generalize locs1 = locs at hH ⊢
              refine hb_if_eq (b := isL (dr i)) hx hb (tgt := 52) d_md_word_45 (by decide) (fun h45 => ?_) (fun h45 => ?_)
              · skip
                refine lv_iconst (v := 0) hx hb d_md_word_52 (by decide) ?_
                refine lv_istore_n (lv' := [(1, .int 0), (2, .int (nI i)), (0, .ref y)]) hx hb d_md_word_53 rfl hl (by decide) rfl (fun ls hl => ?_)
                refine lv_iinc (v := nI (i + 1)) (lv' := [(2, .int (nI (i + 1))), (1, .int 0), (0, .ref y)]) hx hb d_md_word_54 hl (k := 1) rfl (by first | exact nI_add _ 1 | (show nI _ + nI _ = _; rw [nI_add])) (by decide) rfl (fun ls hl => ?_)
                refine lv_goto (tgt := 24) hx hb d_md_word_57 (by decide) ?_
                exact ih (i + 1) _ _ _ (by omega) (by omega) hH (lv_cv (lv_sub hl [0, 1, 2] rfl) (by simp [gwP, bI_t, bI_f, h33, h45] <;> rfl))
              · skip
                refine lv_iconst (v := 1) hx hb d_md_word_48 (by decide) ?_
                refine lv_goto (tgt := 53) hx hb d_md_word_49 (by decide) ?_
                refine lv_istore_n (lv' := [(1, .int 1), (2, .int (nI i)), (0, .ref y)]) hx hb d_md_word_53 rfl hl (by decide) rfl (fun ls hl => ?_)
                refine lv_iinc (v := nI (i + 1)) (lv' := [(2, .int (nI (i + 1))), (1, .int 1), (0, .ref y)]) hx hb d_md_word_54 hl (k := 1) rfl (by first | exact nI_add _ 1 | (show nI _ + nI _ = _; rw [nI_add])) (by decide) rfl (fun ls hl => ?_)
                refine lv_goto (tgt := 24) hx hb d_md_word_57 (by decide) ?_
                exact ih (i + 1) _ _ _ (by omega) (by omega) hH (lv_cv (lv_sub hl [0, 1, 2] rfl) (by simp [gwP, bI_t, bI_f, h33, h45] <;> rfl))
      exact L24 (dn + 1) 0 _ _ _ (by omega) (by omega) hH (lv_cv (lv_sub hl [0, 1, 2] rfl) (by simp [gwP, bI_t, bI_f, show 0 < dn by omega, show ¬ dn < 64 by omega] <;> rfl))
    · skip
      refine lv_iconst (v := 1) hx hb d_md_word_16 (by decide) ?_
      refine lv_goto (tgt := 21) hx hb d_md_word_17 (by decide) ?_
      refine lv_istore_n (lv' := [(1, .int 1), (0, .ref y)]) hx hb d_md_word_21 rfl hl (by decide) rfl (fun ls hl => ?_)
      refine lv_iconst (v := 0) hx hb d_md_word_22 (by decide) ?_
      refine lv_istore_n (lv' := [(2, .int 0), (1, .int 1), (0, .ref y)]) hx hb d_md_word_23 rfl hl (by decide) rfl (fun ls hl => ?_)
      have L24 : ∀ (k : Nat) (i : Nat) (H : Heap) (locs : List Loc) (ls : Array Slot), dn + 1 ≤ i + k → i ≤ dn → hm_I G.1 vwC A s.heap M H locs → lv_has ls 7 [(2, .int (nI i)), (1, .int (bI (gwP dr dn i))), (0, .ref y)] → W p l e { frames := 1, cells := 0, slots := 0, locals := 25 } s m ([.ref y] : List Value).toArray below meth c H locs 0 0 (MQ below (hm_Q G.1 vwC (q_md_word G y th dn d np be sg nu bg nx fi le pl lf rt ln rw va ak dr fb fs fn ff fl fr fv fp o ox M0) A) ([.ref y] : List Value).toArray s 0 0 A) (F0 m 24 ls []) := by
        intro k
        induction k with
        | zero => intro i H locs ls hfu hi; exact absurd hfu (by omega)
        | succ k ih =>
          intro i H locs ls hfu hi hH hl
          refine lv_iload_n hx hb d_md_word_24 rfl (lv_at hl 0 rfl) ?_
          refine lv_aload_n hx hb d_md_word_25 rfl (lv_at hl 2 rfl) ?_
          refine hm_get E (tB in_md) hK hH (hw.at 0 rfl) rfl 1 (by decide) (tC wm_368) rfl d_md_word_26 ?_
          refine hn_icmp_ge (a := i) (b := dn) hx hb (by omega) (by omega) (tgt := 60) d_md_word_29 (by decide) (fun h29 => ?_) (fun h29 => ?_)
          · skip
            have hie : i = dn := by omega
            rw [hie] at hl
            refine lv_iload_n hx hb d_md_word_60 rfl (lv_at hl 1 rfl) ?_
            refine hb_if_ne (b := gwP dr dn dn) hx hb (tgt := 71) d_md_word_61 (by decide) (fun h61 => ?_) (fun h61 => ?_)
            · skip
              have hok := gw_ok.mp h61
              have hd1 := hok.1
              have hd6 := hok.2.1
              refine lv_aload_n hx hb d_md_word_71 rfl (lv_at hl 2 rfl) ?_
              refine lv_aload_n hx hb d_md_word_72 rfl (lv_at hl 2 rfl) ?_
              refine hm_get E (tB in_md) hK hH (hw.at 0 rfl) rfl 1 (by decide) (tC wm_368) rfl d_md_word_73 ?_
              refine hm_put E (tB in_md) t_md tk_md nm_md hK hH (hw.at 0 rfl) rfl 14 (by decide) (tC wm_381) rfl rfl rfl (Nat.le_of_ble_eq_true rfl) (fs' := [.int (nI th), .int (nI dn), .ref d, .int (nI np), .ref be, .ref sg, .ref nu, .int (nI bg), .int (nI nx), .ref fi, .ref le, .ref pl, .int (nI lf), .int (nI rt), .int (nI dn), .ref rw, .ref va, .int (bI ak)]) rfl d_md_word_76 (fun H locs hH => ?_)
              have hw := hw.set (ws' := [(y, .inr (4, [.int (nI th), .int (nI dn), .ref d, .int (nI np), .ref be, .ref sg, .ref nu, .int (nI bg), .int (nI nx), .ref fi, .ref le, .ref pl, .int (nI lf), .int (nI rt), .int (nI dn), .ref rw, .ref va, .int (bI ak)])), (d, aI G 200 dr), (be, aI G 8194 fb), (sg, aI G 40000 fs), (nu, aI G 48200 fn), (fi, aI G 2050 ff), (le, aI G 40000 fl), (pl, aJ G 2048 fp), (rw, aI G 66 fr), (va, aI G 66 fv)]) (k := 0) rfl rfl
              have hk := hk.wr (a := y) (v := some (.inr (4, [.int (nI th), .int (nI dn), .ref d, .int (nI np), .ref be, .ref sg, .ref nu, .int (nI bg), .int (nI nx), .ref fi, .ref le, .ref pl, .int (nI lf), .int (nI rt), .int (nI dn), .ref rw, .ref va, .int (bI ak)]))) (by first | (right; assumption) | (left; simp; done))
              generalize va_up M y (some (.inr (4, [.int (nI th), .int (nI dn), .ref d, .int (nI np), .ref be, .ref sg, .ref nu, .int (nI bg), .int (nI nx), .ref fi, .ref le, .ref pl, .int (nI lf), .int (nI rt), .int (nI dn), .ref rw, .ref va, .int (bI ak)]))) = M at hH hw hk ⊢
              refine lv_aload_n hx hb d_md_word_79 rfl (lv_at hl 2 rfl) ?_
              refine lv_iconst (v := 1) hx hb d_md_word_80 (by decide) ?_
              refine hm_put E (tB in_md) t_md tk_md nm_md hK hH (hw.at 0 rfl) rfl 17 (by decide) (tC wm_384) rfl (by decide) (by decide) (Nat.le_of_ble_eq_true rfl) (fs' := [.int (nI th), .int (nI dn), .ref d, .int (nI np), .ref be, .ref sg, .ref nu, .int (nI bg), .int (nI nx), .ref fi, .ref le, .ref pl, .int (nI lf), .int (nI rt), .int (nI dn), .ref rw, .ref va, .int 1]) rfl d_md_word_81 (fun H locs hH => ?_)
              have hw := hw.set (ws' := [(y, .inr (4, [.int (nI th), .int (nI dn), .ref d, .int (nI np), .ref be, .ref sg, .ref nu, .int (nI bg), .int (nI nx), .ref fi, .ref le, .ref pl, .int (nI lf), .int (nI rt), .int (nI dn), .ref rw, .ref va, .int 1])), (d, aI G 200 dr), (be, aI G 8194 fb), (sg, aI G 40000 fs), (nu, aI G 48200 fn), (fi, aI G 2050 ff), (le, aI G 40000 fl), (pl, aJ G 2048 fp), (rw, aI G 66 fr), (va, aI G 66 fv)]) (k := 0) rfl rfl
              have hk := hk.wr (a := y) (v := some (.inr (4, [.int (nI th), .int (nI dn), .ref d, .int (nI np), .ref be, .ref sg, .ref nu, .int (nI bg), .int (nI nx), .ref fi, .ref le, .ref pl, .int (nI lf), .int (nI rt), .int (nI dn), .ref rw, .ref va, .int 1]))) (by first | (right; assumption) | (left; simp; done))
              generalize va_up M y (some (.inr (4, [.int (nI th), .int (nI dn), .ref d, .int (nI np), .ref be, .ref sg, .ref nu, .int (nI bg), .int (nI nx), .ref fi, .ref le, .ref pl, .int (nI lf), .int (nI rt), .int (nI dn), .ref rw, .ref va, .int 1]))) = M at hH hw hk ⊢
              refine lv_iconst (v := 0) hx hb d_md_word_84 (by decide) ?_
              refine lv_istore_n (lv' := [(2, .int 0), (1, .int (bI (gwP dr dn dn))), (0, .ref y)]) hx hb d_md_word_85 rfl hl (by decide) rfl (fun ls hl => ?_)
              have L86 : ∀ (k : Nat) (i : Nat) (f1 f2 : Nat → Int32) (M : hM) (H : Heap) (locs : List Loc) (ls : Array Slot), dn + 1 ≤ i + k → i ≤ dn → (∀ j, j < i → f1 (j + 1) = dr j) → (∀ j, j < ox nx → f2 j = fl j) → (∀ j, j < i → f2 (ox nx + j) = dr j) → hm_has M [(y, .inr (4, [.int (nI th), .int (nI dn), .ref d, .int (nI np), .ref be, .ref sg, .ref nu, .int (nI bg), .int (nI nx), .ref fi, .ref le, .ref pl, .int (nI lf), .int (nI rt), .int (nI dn), .ref rw, .ref va, .int (bI true)])), (d, aI G 200 dr), (be, aI G 8194 fb), (sg, aI G 40000 fs), (nu, aI G 48200 fn), (fi, aI G 2050 ff), (le, aI G 40000 f2), (pl, aJ G 2048 fp), (rw, aI G 66 f1), (va, aI G 66 fv)] → hm_kp (fun a => a ∈ [y, le, rw, va]) M0 M → hm_I G.1 vwC A s.heap M H locs → lv_has ls 7 [(2, .int (nI i)), (0, .ref y)] → W p l e { frames := 1, cells := 0, slots := 0, locals := 25 } s m ([.ref y] : List Value).toArray below meth c H locs 0 0 (MQ below (hm_Q G.1 vwC (q_md_word G y th dn d np be sg nu bg nx fi le pl lf rt ln rw va ak dr fb fs fn ff fl fr fv fp o ox M0) A) ([.ref y] : List Value).toArray s 0 0 A) (F0 m 86 ls []) := by
                intro k
                induction k with
                | zero => intro i f1 f2 M H locs ls hfu hi hf1 hf0 hf2; exact absurd hfu (by omega)
                | succ k ih =>
                  intro i f1 f2 M H locs ls hfu hi hf1 hf0 hf2 hw hk hH hl
                  refine lv_iload_n hx hb d_md_word_86 rfl (lv_at hl 0 rfl) ?_
                  refine lv_aload_n hx hb d_md_word_87 rfl (lv_at hl 1 rfl) ?_
                  refine hm_get E (tB in_md) hK hH (hw.at 0 rfl) rfl 14 (by decide) (tC wm_381) rfl d_md_word_88 ?_
                  refine hn_icmp_ge (a := i) (b := dn) hx hb (by omega) (by omega) (tgt := 136) d_md_word_91 (by decide) (fun h91 => ?_) (fun h91 => ?_)
                  · skip
                    have hie2 : i = dn := by omega
                    rw [hie2] at hf1 hf2
                    refine lv_aload_n hx hb d_md_word_136 rfl (lv_at hl 1 rfl) ?_
                    refine hm_get E (tB in_md) hK hH (hw.at 0 rfl) rfl 15 (by decide) (tC wm_382) rfl d_md_word_137 ?_
                    refine lv_iconst (v := 0) hx hb d_md_word_140 (by decide) ?_
                    refine lv_bipush (v := 46) hx hb d_md_word_141 (by decide) ?_
                    refine hm_iast E hK hH 0 (hw.at 8 rfl) rfl (i := 0) (by omega) (by decide) d_md_word_143 (fun H locs hH => ?_)
                    have hw := hw.set (ws' := [(y, .inr (4, [.int (nI th), .int (nI dn), .ref d, .int (nI np), .ref be, .ref sg, .ref nu, .int (nI bg), .int (nI nx), .ref fi, .ref le, .ref pl, .int (nI lf), .int (nI rt), .int (nI dn), .ref rw, .ref va, .int (bI true)])), (d, aI G 200 dr), (be, aI G 8194 fb), (sg, aI G 40000 fs), (nu, aI G 48200 fn), (fi, aI G 2050 ff), (le, aI G 40000 f2), (pl, aJ G 2048 fp), (rw, aI G 66 (upd f1 0 46)), (va, aI G 66 fv)]) (k := 8) rfl rfl
                    have hk := hk.wr (a := rw) (v := some (aI G 66 (upd f1 0 46))) (by first | (right; assumption) | (left; simp; done))
                    generalize va_up M rw (some (aI G 66 (upd f1 0 46))) = M at hH hw hk ⊢
                    refine lv_aload_n hx hb d_md_word_144 rfl (lv_at hl 1 rfl) ?_
                    refine hm_get E (tB in_md) hK hH (hw.at 0 rfl) rfl 15 (by decide) (tC wm_382) rfl d_md_word_145 ?_
                    refine lv_aload_n hx hb d_md_word_148 rfl (lv_at hl 1 rfl) ?_
                    refine hm_get E (tB in_md) hK hH (hw.at 0 rfl) rfl 14 (by decide) (tC wm_381) rfl d_md_word_149 ?_
                    refine lv_iconst (v := 1) hx hb d_md_word_152 (by decide) ?_
                    refine hn_iadd hx hb (a := dn) (b := 1) d_md_word_153 ?_
                    refine lv_bipush (v := 46) hx hb d_md_word_154 (by decide) ?_
                    refine hm_iast E hK hH 0 (hw.at 8 rfl) rfl (i := dn + 1) (by omega) (by decide) d_md_word_156 (fun H locs hH => ?_)
                    have hw := hw.set (ws' := [(y, .inr (4, [.int (nI th), .int (nI dn), .ref d, .int (nI np), .ref be, .ref sg, .ref nu, .int (nI bg), .int (nI nx), .ref fi, .ref le, .ref pl, .int (nI lf), .int (nI rt), .int (nI dn), .ref rw, .ref va, .int (bI true)])), (d, aI G 200 dr), (be, aI G 8194 fb), (sg, aI G 40000 fs), (nu, aI G 48200 fn), (fi, aI G 2050 ff), (le, aI G 40000 f2), (pl, aJ G 2048 fp), (rw, aI G 66 (upd (upd f1 0 46) (dn + 1) 46)), (va, aI G 66 fv)]) (k := 8) rfl rfl
                    have hk := hk.wr (a := rw) (v := some (aI G 66 (upd (upd f1 0 46) (dn + 1) 46))) (by first | (right; assumption) | (left; simp; done))
                    generalize va_up M rw (some (aI G 66 (upd (upd f1 0 46) (dn + 1) 46))) = M at hH hw hk ⊢
                    refine lv_iconst (v := 0) hx hb d_md_word_157 (by decide) ?_
                    refine lv_istore_n (lv' := [(2, .int 0), (0, .ref y)]) hx hb d_md_word_158 rfl hl (by decide) rfl (fun ls hl => ?_)
                    have L159 : ∀ (k : Nat) (i : Nat) (g : Nat → Int32) (M : hM) (H : Heap) (locs : List Loc) (ls : Array Slot), 67 ≤ i + k → i ≤ 66 → (∀ j, j < i → g j = 0) → hm_has M [(y, .inr (4, [.int (nI th), .int (nI dn), .ref d, .int (nI np), .ref be, .ref sg, .ref nu, .int (nI bg), .int (nI nx), .ref fi, .ref le, .ref pl, .int (nI lf), .int (nI rt), .int (nI dn), .ref rw, .ref va, .int (bI true)])), (d, aI G 200 dr), (be, aI G 8194 fb), (sg, aI G 40000 fs), (nu, aI G 48200 fn), (fi, aI G 2050 ff), (le, aI G 40000 f2), (pl, aJ G 2048 fp), (rw, aI G 66 (upd (upd f1 0 46) (dn + 1) 46)), (va, aI G 66 g)] → hm_kp (fun a => a ∈ [y, le, rw, va]) M0 M → hm_I G.1 vwC A s.heap M H locs → lv_has ls 7 [(2, .int (nI i)), (0, .ref y)] → W p l e { frames := 1, cells := 0, slots := 0, locals := 25 } s m ([.ref y] : List Value).toArray below meth c H locs 0 0 (MQ below (hm_Q G.1 vwC (q_md_word G y th dn d np be sg nu bg nx fi le pl lf rt ln rw va ak dr fb fs fn ff fl fr fv fp o ox M0) A) ([.ref y] : List Value).toArray s 0 0 A) (F0 m 159 ls []) := by
                      intro k
                      induction k with
                      | zero => intro i g M H locs ls hfu hi hgz; exact absurd hfu (by omega)
                      | succ k ih =>
                        intro i g M H locs ls hfu hi hgz hw hk hH hl
                        refine lv_iload_n hx hb d_md_word_159 rfl (lv_at hl 0 rfl) ?_
                        refine lv_bipush (v := 66) hx hb d_md_word_160 (by decide) ?_
                        refine hn_icmp_ge (a := i) (b := 66) hx hb (by omega) (by omega) (tgt := 178) d_md_word_162 (by decide) (fun h162 => ?_) (fun h162 => ?_)
                        · skip
                          have hi66 : i = 66 := by omega
                          have hH := hm_ext (g := fun _ => 0) hH (hw.at 9 rfl) (fun j hj => hgz j (by omega))
                          have hw := hw.set (ws' := [(y, .inr (4, [.int (nI th), .int (nI dn), .ref d, .int (nI np), .ref be, .ref sg, .ref nu, .int (nI bg), .int (nI nx), .ref fi, .ref le, .ref pl, .int (nI lf), .int (nI rt), .int (nI dn), .ref rw, .ref va, .int (bI true)])), (d, aI G 200 dr), (be, aI G 8194 fb), (sg, aI G 40000 fs), (nu, aI G 48200 fn), (fi, aI G 2050 ff), (le, aI G 40000 f2), (pl, aJ G 2048 fp), (rw, aI G 66 (upd (upd f1 0 46) (dn + 1) 46)), (va, aI G 66 (fun _ => 0))]) (k := 9) rfl rfl
                          have hk := hk.wr (a := va) (v := some (aI G 66 (fun _ => 0))) (Or.inl (by simp))
                          generalize va_up M va (some (aI G 66 (fun _ => 0))) = M at hH hw hk
                          refine lv_iconst (v := 0) hx hb d_md_word_178 (by decide) ?_
                          refine lv_istore_n (lv' := [(2, .int 0), (0, .ref y)]) hx hb d_md_word_179 rfl hl (by decide) rfl (fun ls hl => ?_)
                          have L180 : ∀ (k : Nat) (p0 : Nat) (v : Nat → Int32) (M : hM) (H : Heap) (locs : List Loc) (ls : Array Slot), np + 1 ≤ p0 + k → p0 ≤ np → vMax (wT o fs fn (upd (upd f1 0 46) (dn + 1) 46) (dn + 2) p0 0) (dn + 2) v → hm_has M [(y, .inr (4, [.int (nI th), .int (nI dn), .ref d, .int (nI np), .ref be, .ref sg, .ref nu, .int (nI bg), .int (nI nx), .ref fi, .ref le, .ref pl, .int (nI lf), .int (nI rt), .int (nI dn), .ref rw, .ref va, .int (bI true)])), (d, aI G 200 dr), (be, aI G 8194 fb), (sg, aI G 40000 fs), (nu, aI G 48200 fn), (fi, aI G 2050 ff), (le, aI G 40000 f2), (pl, aJ G 2048 fp), (rw, aI G 66 (upd (upd f1 0 46) (dn + 1) 46)), (va, aI G 66 v)] → hm_kp (fun a => a ∈ [y, le, rw, va]) M0 M → hm_I G.1 vwC A s.heap M H locs → lv_has ls 7 [(2, .int (nI p0)), (0, .ref y)] → W p l e { frames := 1, cells := 0, slots := 0, locals := 25 } s m ([.ref y] : List Value).toArray below meth c H locs 0 0 (MQ below (hm_Q G.1 vwC (q_md_word G y th dn d np be sg nu bg nx fi le pl lf rt ln rw va ak dr fb fs fn ff fl fr fv fp o ox M0) A) ([.ref y] : List Value).toArray s 0 0 A) (F0 m 180 ls []) := by
                            intro k
                            induction k with
                            | zero => intro p0 v M H locs ls hfu hp0 hv; exact absurd hfu (by omega)
                            | succ k ih =>
                              intro p0 v M H locs ls hfu hp0 hv hw hk hH hl
                              refine lv_iload_n hx hb d_md_word_180 rfl (lv_at hl 0 rfl) ?_
                              refine lv_aload_n hx hb d_md_word_181 rfl (lv_at hl 1 rfl) ?_
                              refine hm_get E (tB in_md) hK hH (hw.at 0 rfl) rfl 3 (by decide) (tC wm_370) rfl d_md_word_182 ?_
                              refine hn_icmp_ge (a := p0) (b := np) hx hb (by omega) (by omega) (tgt := 234) d_md_word_185 (by decide) (fun h185 => ?_) (fun h185 => ?_)
                              · skip
                                have hpe : p0 = np := by omega
                                rw [hpe] at hv
                                refine lv_aload_n hx hb d_md_word_234 rfl (lv_at hl 1 rfl) ?_
                                refine lv_aload_n hx hb d_md_word_235 rfl (lv_at hl 1 rfl) ?_
                                refine hm_get E (tB in_md) hK hH (hw.at 0 rfl) rfl 14 (by decide) (tC wm_381) rfl d_md_word_236 ?_
                                have hM1 := c_md_find l G y th dn d np be sg nu bg nx fi le pl lf rt dn rw va true ff f2 ox dn M (hw.sub (ws' := [(y, .inr (4, [.int (nI th), .int (nI dn), .ref d, .int (nI np), .ref be, .ref sg, .ref nu, .int (nI bg), .int (nI nx), .ref fi, .ref le, .ref pl, .int (nI lf), .int (nI rt), .int (nI dn), .ref rw, .ref va, .int (bI true)])), (fi, aI G 2050 ff), (le, aI G 40000 f2)]) [0, 5, 6] rfl rfl) hff hxo hxl (by omega) (by omega) (by omega) H.size
                                have hG1 : GoodIn w_md_word (wsV R_md 84 R_md y_md_find w_md_find) := gB_V wm_459 wm_461 wp_13 wm_5 wm_462
                                refine hm_call (va_runV (y := y_md_find) (bytes := b_md_find) (maxL := 5) (ws := w_md_find) (rm := { frames := 0, cells := 0, slots := 0, locals := 0 }) (own := R_md) (index := 84) (ret := (Option.some Jvm.ClassFile.FieldType.int)) (C := R_md) (As := [.int (nI dn)]) (rest := []) E hM1 (cwV (y := y_md_find) (bytes := b_md_find) (maxL := 5) (ws := w_md_find) (rm := { frames := 0, cells := 0, slots := 0, locals := 0 }) (own := R_md) (index := 84) (ret := (Option.some Jvm.ClassFile.FieldType.int)) (C := R_md) 1 hts hG1 rfl rfl rfl (by decide +kernel) ⟨Nat.le_of_ble_eq_true rfl, Nat.le_of_ble_eq_true rfl⟩) (hm_preV gk_w gk_s hH hg hK (hw.at 0 rfl) rfl [.int (nI dn)]) rfl rfl hl.1 rfl (lv_room (Nat.le_of_ble_eq_true rfl)) d_md_word_239 ⟨(by show _ ≤ 0; omega), (by show _ ≤ 0; omega)⟩) hH (fun r1 M1 H1 locs1 hq1 hH1 => ?_)
                                replace hH := hH1; clear hH1; generalize H1 = H at hH ⊢; generalize locs1 = locs at hH ⊢
                                obtain ⟨e9, rfl, he9, hfd, hnf, e8⟩ := hq1
                                rw [e8] at hH
                                refine lv_istore_n (lv' := [(2, .int (nI e9)), (0, .ref y)]) hx hb d_md_word_242 rfl hl (by decide) rfl (fun ls hl => ?_)
                                refine lv_lconst (v := 0) hx hb d_md_word_243 (by decide) ?_
                                refine lv_lstore_n (lv' := [(3, .long 0), (2, .int (nI e9)), (0, .ref y)]) hx hb d_md_word_244 rfl hl (by decide) rfl (fun ls hl => ?_)
                                refine lv_iconst (v := 1) hx hb d_md_word_245 (by decide) ?_
                                refine lv_istore (lv' := [(5, .int 1), (3, .long 0), (2, .int (nI e9)), (0, .ref y)]) hx hb d_md_word_246 hl (by decide) rfl (fun ls hl => ?_)
                                have L248 : ∀ (k : Nat) (k9 : Nat) (cu : Int64) (H : Heap) (locs : List Loc) (ls : Array Slot), dn + 1 ≤ k9 + k → 1 ≤ k9 → k9 ≤ dn → cu = cutN (cuW lf rt dn (mbF nx e9 fp v)) k9 → hm_I G.1 vwC A s.heap M H locs → lv_has ls 7 [(5, .int (nI k9)), (3, .long cu), (2, .int (nI e9)), (0, .ref y)] → W p l e { frames := 1, cells := 0, slots := 0, locals := 25 } s m ([.ref y] : List Value).toArray below meth c H locs 0 0 (MQ below (hm_Q G.1 vwC (q_md_word G y th dn d np be sg nu bg nx fi le pl lf rt ln rw va ak dr fb fs fn ff fl fr fv fp o ox M0) A) ([.ref y] : List Value).toArray s 0 0 A) (F0 m 248 ls []) := by
                                  intro k
                                  induction k with
                                  | zero => intro k9 cu H locs ls hfu hk1 hkn hcu; exact absurd hfu (by omega)
                                  | succ k ih =>
                                    intro k9 cu H locs ls hfu hk1 hkn hcu hH hl
                                    refine lv_iload hx hb d_md_word_248 (lv_at hl 0 rfl) ?_
                                    refine lv_aload_n hx hb d_md_word_250 rfl (lv_at hl 3 rfl) ?_
                                    refine hm_get E (tB in_md) hK hH (hw.at 0 rfl) rfl 14 (by decide) (tC wm_381) rfl d_md_word_251 ?_
                                    refine hn_icmp_ge (a := k9) (b := dn) hx hb (by omega) (by omega) (tgt := 356) d_md_word_254 (by decide) (fun h254 => ?_) (fun h254 => ?_)
                                    · skip
                                      have hke : k9 = dn := by omega
                                      rw [hke] at hcu
                                      refine lv_aload_n hx hb d_md_word_356 rfl (lv_at hl 3 rfl) ?_
                                      refine lv_iconst (v := 0) hx hb d_md_word_357 (by decide) ?_
                                      have hM1 := c_md_fails l G y th dn d np be sg nu bg nx fi le pl lf rt dn rw va true 0 M (hw.sub (ws' := [(y, .inr (4, [.int (nI th), .int (nI dn), .ref d, .int (nI np), .ref be, .ref sg, .ref nu, .int (nI bg), .int (nI nx), .ref fi, .ref le, .ref pl, .int (nI lf), .int (nI rt), .int (nI dn), .ref rw, .ref va, .int (bI true)]))]) [0] rfl rfl) H.size
                                      have hG1 : GoodIn w_md_word (wsV R_md 69 R_md y_md_fails w_md_fails) := gB_V wm_446 wm_448 wp_11 wm_5 wm_449
                                      refine hm_call (va_runV (y := y_md_fails) (bytes := b_md_fails) (maxL := 2) (ws := w_md_fails) (rm := { frames := 0, cells := 0, slots := 0, locals := 0 }) (own := R_md) (index := 69) (ret := (Option.some Jvm.ClassFile.FieldType.int)) (C := R_md) (As := [.int 0]) (rest := []) E hM1 (cwV (y := y_md_fails) (bytes := b_md_fails) (maxL := 2) (ws := w_md_fails) (rm := { frames := 0, cells := 0, slots := 0, locals := 0 }) (own := R_md) (index := 69) (ret := (Option.some Jvm.ClassFile.FieldType.int)) (C := R_md) 1 hts hG1 rfl rfl rfl (by decide +kernel) ⟨Nat.le_of_ble_eq_true rfl, Nat.le_of_ble_eq_true rfl⟩) (hm_preV gk_w gk_s hH hg hK (hw.at 0 rfl) rfl [.int 0]) rfl rfl hl.1 rfl (lv_room (Nat.le_of_ble_eq_true rfl)) d_md_word_358 ⟨(by show _ ≤ 0; omega), (by show _ ≤ 0; omega)⟩) hH (fun r1 M1 H1 locs1 hq1 hH1 => ?_)
                                      replace hH := hH1; clear hH1; generalize H1 = H at hH ⊢; generalize locs1 = locs at hH ⊢
                                      obtain ⟨rfl, hw1, hk1⟩ := hq1
                                      have hw := hm_join (ws' := [(y, .inr (4, [.int (nI 0), .int (nI 0), .ref d, .int (nI np), .ref be, .ref sg, .ref nu, .int (nI bg), .int (nI nx), .ref fi, .ref le, .ref pl, .int (nI lf), .int (nI rt), .int (nI dn), .ref rw, .ref va, .int (bI true)])), (d, aI G 200 dr), (be, aI G 8194 fb), (sg, aI G 40000 fs), (nu, aI G 48200 fn), (fi, aI G 2050 ff), (le, aI G 40000 f2), (pl, aJ G 2048 fp), (rw, aI G 66 (upd (upd f1 0 46) (dn + 1) 46)), (va, aI G 66 v)]) (wc := [(y, .inr (4, [.int (nI th), .int (nI dn), .ref d, .int (nI np), .ref be, .ref sg, .ref nu, .int (nI bg), .int (nI nx), .ref fi, .ref le, .ref pl, .int (nI lf), .int (nI rt), .int (nI dn), .ref rw, .ref va, .int (bI true)]))]) hw hw1 hk1 [0] rfl rfl (fun a h => h) rfl (by
                                        intro k9 h9
                                        match k9, h9 with
                                        | 0, _ => exact Or.inr ⟨0, rfl, rfl⟩
                                        | 1, _ => exact Or.inl ⟨by decide, rfl⟩
                                        | 2, _ => exact Or.inl ⟨by decide, rfl⟩
                                        | 3, _ => exact Or.inl ⟨by decide, rfl⟩
                                        | 4, _ => exact Or.inl ⟨by decide, rfl⟩
                                        | 5, _ => exact Or.inl ⟨by decide, rfl⟩
                                        | 6, _ => exact Or.inl ⟨by decide, rfl⟩
                                        | 7, _ => exact Or.inl ⟨by decide, rfl⟩
                                        | 8, _ => exact Or.inl ⟨by decide, rfl⟩
                                        | 9, _ => exact Or.inl ⟨by decide, rfl⟩
                                        | k9 + 10, h9 => exact absurd h9 (Nat.not_lt_of_le (Nat.le_add_left _ _)))
                                      have hk := hk.tr hk1 (fun a h => by simp at h; subst h; simp)
                                      generalize M1 = M at hH hw hk
                                      refine lv_pop hx hb d_md_word_361 rfl ?_
                                      refine lv_lload_n hx hb d_md_word_362 rfl (lv_at hl 1 rfl) ?_
                                      exact hm_lret E hr hlk hH (Or.inr ⟨upd (upd f1 0 46) (dn + 1) 46, f2, v, e9, hok, row_end hf1, hf0, hf2, hv, he9, hfd, hnf, by rw [hcu, cw_end hr1 (by omega)], hw, hk⟩) (by omega) (by omega) d_md_word_363
                                    · skip
                                      refine lv_iload_n hx hb d_md_word_257 rfl (lv_at hl 2 rfl) ?_
                                      refine lv_aload_n hx hb d_md_word_258 rfl (lv_at hl 3 rfl) ?_
                                      refine hm_get E (tB in_md) hK hH (hw.at 0 rfl) rfl 8 (by decide) (tC wm_375) rfl d_md_word_259 ?_
                                      refine hn_icmp_ge (a := e9) (b := nx) hx hb (by omega) (by omega) (tgt := 289) d_md_word_262 (by decide) (fun h262 => ?_) (fun h262 => ?_)
                                      · skip
                                        refine lv_aload_n hx hb d_md_word_289 rfl (lv_at hl 3 rfl) ?_
                                        refine hm_get E (tB in_md) hK hH (hw.at 0 rfl) rfl 16 (by decide) (tC wm_383) rfl d_md_word_290 ?_
                                        refine lv_iload hx hb d_md_word_293 (lv_at hl 0 rfl) ?_
                                        refine lv_iconst (v := 1) hx hb d_md_word_295 (by decide) ?_
                                        refine hn_iadd hx hb (a := k9) (b := 1) d_md_word_296 ?_
                                        refine hm_iald E hK hH 0 (hw.at 9 rfl) rfl (i := k9 + 1) (by omega) (by decide) d_md_word_297 ?_
                                        refine lv_iconst (v := 2) hx hb d_md_word_298 (by decide) ?_
                                        refine lv_irem hx hb d_md_word_299 (by decide) ?_
                                        refine lv_iconst (v := 1) hx hb d_md_word_300 (by decide) ?_
                                        refine hc_icmp_ne (x := (v (k9 + 1)) - (v (k9 + 1)) / 2 * 2) (y := 1) (c9 := 1) hx hb (by decide) (tgt := 308) d_md_word_301 (by decide) (fun h301 => ?_) (fun h301 => ?_)
                                        · skip
                                          refine lv_iconst (v := 0) hx hb d_md_word_308 (by decide) ?_
                                          refine lv_istore (lv' := [(6, .int 0), (5, .int (nI k9)), (3, .long cu), (2, .int (nI e9)), (0, .ref y)]) hx hb d_md_word_309 hl (by decide) rfl (fun ls hl => ?_)
                                          refine lv_iload hx hb d_md_word_311 (lv_at hl 0 rfl) ?_
                                          refine hn_if_eq (a := 0) hx hb (by omega) (tgt := 348) d_md_word_313 (by decide) (fun h9c => ?_) (fun h9c => ?_)
                                          · skip
                                            refine lv_lload_n hx hb d_md_word_348 rfl (lv_at hl 2 rfl) ?_
                                            refine lv_lstore_n (lv' := [(3, .long cu), (6, .int 0), (5, .int (nI k9)), (2, .int (nI e9)), (0, .ref y)]) hx hb d_md_word_349 rfl hl (by decide) rfl (fun ls hl => ?_)
                                            refine lv_iinc (v := nI (k9 + 1)) (lv' := [(5, .int (nI (k9 + 1))), (3, .long cu), (6, .int 0), (2, .int (nI e9)), (0, .ref y)]) hx hb d_md_word_350 hl (k := 2) rfl (by first | exact nI_add _ 1 | (show nI _ + nI _ = _; rw [nI_add])) (by decide) rfl (fun ls hl => ?_)
                                            refine lv_goto (tgt := 248) hx hb d_md_word_353 (by decide) ?_
                                            exact ih (k9 + 1) _ _ _ _ (by omega) (by omega) (by omega) (by rw [hcu]; exact cw_n (cu_f1 (by rw [mb_o h262]; exact decide_eq_false h301))) hH (lv_sub hl [0, 1, 3, 4] rfl)
                                          · skip
                                            exact absurd h9c (by decide)
                                        · skip
                                          refine lv_iconst (v := 1) hx hb d_md_word_304 (by decide) ?_
                                          refine lv_goto (tgt := 309) hx hb d_md_word_305 (by decide) ?_
                                          refine lv_istore (lv' := [(6, .int 1), (5, .int (nI k9)), (3, .long cu), (2, .int (nI e9)), (0, .ref y)]) hx hb d_md_word_309 hl (by decide) rfl (fun ls hl => ?_)
                                          refine lv_iload hx hb d_md_word_311 (lv_at hl 0 rfl) ?_
                                          refine hn_if_eq (a := 1) hx hb (by omega) (tgt := 348) d_md_word_313 (by decide) (fun h9c => ?_) (fun h9c => ?_)
                                          · skip
                                            exact absurd h9c (by decide)
                                          · skip
                                            refine lv_iload hx hb d_md_word_316 (lv_at hl 1 rfl) ?_
                                            refine lv_aload_n hx hb d_md_word_318 rfl (lv_at hl 4 rfl) ?_
                                            refine hm_get E (tB in_md) hK hH (hw.at 0 rfl) rfl 12 (by decide) (tC wm_379) rfl d_md_word_319 ?_
                                            refine hn_icmp_lt (a := k9) (b := lf) hx hb (by omega) (by omega) (tgt := 348) d_md_word_322 (by decide) (fun h322 => ?_) (fun h322 => ?_)
                                            · skip
                                              refine lv_lload_n hx hb d_md_word_348 rfl (lv_at hl 2 rfl) ?_
                                              refine lv_lstore_n (lv' := [(3, .long cu), (6, .int 1), (5, .int (nI k9)), (2, .int (nI e9)), (0, .ref y)]) hx hb d_md_word_349 rfl hl (by decide) rfl (fun ls hl => ?_)
                                              refine lv_iinc (v := nI (k9 + 1)) (lv' := [(5, .int (nI (k9 + 1))), (3, .long cu), (6, .int 1), (2, .int (nI e9)), (0, .ref y)]) hx hb d_md_word_350 hl (k := 2) rfl (by first | exact nI_add _ 1 | (show nI _ + nI _ = _; rw [nI_add])) (by decide) rfl (fun ls hl => ?_)
                                              refine lv_goto (tgt := 248) hx hb d_md_word_353 (by decide) ?_
                                              exact ih (k9 + 1) _ _ _ _ (by omega) (by omega) (by omega) (by rw [hcu]; exact cw_n (cu_f2 h322)) hH (lv_sub hl [0, 1, 3, 4] rfl)
                                            · skip
                                              refine lv_aload_n hx hb d_md_word_325 rfl (lv_at hl 4 rfl) ?_
                                              refine hm_get E (tB in_md) hK hH (hw.at 0 rfl) rfl 14 (by decide) (tC wm_381) rfl d_md_word_326 ?_
                                              refine lv_iload hx hb d_md_word_329 (lv_at hl 1 rfl) ?_
                                              refine hn_isub hx hb (a := dn) (b := k9) (by omega) d_md_word_331 ?_
                                              refine lv_aload_n hx hb d_md_word_332 rfl (lv_at hl 4 rfl) ?_
                                              refine hm_get E (tB in_md) hK hH (hw.at 0 rfl) rfl 13 (by decide) (tC wm_380) rfl d_md_word_333 ?_
                                              refine hn_icmp_lt (a := dn - k9) (b := rt) hx hb (by omega) (by omega) (tgt := 348) d_md_word_336 (by decide) (fun h336 => ?_) (fun h336 => ?_)
                                              · skip
                                                refine lv_lload_n hx hb d_md_word_348 rfl (lv_at hl 2 rfl) ?_
                                                refine lv_lstore_n (lv' := [(3, .long cu), (6, .int 1), (5, .int (nI k9)), (2, .int (nI e9)), (0, .ref y)]) hx hb d_md_word_349 rfl hl (by decide) rfl (fun ls hl => ?_)
                                                refine lv_iinc (v := nI (k9 + 1)) (lv' := [(5, .int (nI (k9 + 1))), (3, .long cu), (6, .int 1), (2, .int (nI e9)), (0, .ref y)]) hx hb d_md_word_350 hl (k := 2) rfl (by first | exact nI_add _ 1 | (show nI _ + nI _ = _; rw [nI_add])) (by decide) rfl (fun ls hl => ?_)
                                                refine lv_goto (tgt := 248) hx hb d_md_word_353 (by decide) ?_
                                                exact ih (k9 + 1) _ _ _ _ (by omega) (by omega) (by omega) (by rw [hcu]; exact cw_n (cu_f3 (by omega))) hH (lv_sub hl [0, 1, 3, 4] rfl)
                                              · skip
                                                refine lv_lload_n hx hb d_md_word_339 rfl (lv_at hl 2 rfl) ?_
                                                refine lv_lconst (v := 1) hx hb d_md_word_340 (by decide) ?_
                                                refine lv_iload hx hb d_md_word_341 (lv_at hl 1 rfl) ?_
                                                refine lv_lshl hx hb d_md_word_343 rfl ?_
                                                refine lv_lor hx hb d_md_word_344 ?_
                                                refine lv_goto (tgt := 349) hx hb d_md_word_345 (by decide) ?_
                                                refine lv_lstore_n (lv' := [(3, .long (cu ||| (1 <<< ((nI k9).toInt64 &&& 63)))), (6, .int 1), (5, .int (nI k9)), (2, .int (nI e9)), (0, .ref y)]) hx hb d_md_word_349 rfl hl (by decide) rfl (fun ls hl => ?_)
                                                refine lv_iinc (v := nI (k9 + 1)) (lv' := [(5, .int (nI (k9 + 1))), (3, .long (cu ||| (1 <<< ((nI k9).toInt64 &&& 63)))), (6, .int 1), (2, .int (nI e9)), (0, .ref y)]) hx hb d_md_word_350 hl (k := 2) rfl (by first | exact nI_add _ 1 | (show nI _ + nI _ = _; rw [nI_add])) (by decide) rfl (fun ls hl => ?_)
                                                refine lv_goto (tgt := 248) hx hb d_md_word_353 (by decide) ?_
                                                exact ih (k9 + 1) _ _ _ _ (by omega) (by omega) (by omega) (by rw [hcu]; exact cw_y (cu_t (by rw [mb_o h262]; exact decide_eq_true h301) h322 (by omega))) hH (lv_sub hl [0, 1, 3, 4] rfl)
                                      · skip
                                        refine lv_aload_n hx hb d_md_word_265 rfl (lv_at hl 3 rfl) ?_
                                        refine hm_get E (tB in_md) hK hH (hw.at 0 rfl) rfl 11 (by decide) (tC wm_378) rfl d_md_word_266 ?_
                                        refine lv_iload_n hx hb d_md_word_269 rfl (lv_at hl 2 rfl) ?_
                                        refine hm_lald E hK hH 1 (hw.at 7 rfl) rfl (i := e9) (by omega) (by decide) d_md_word_270 ?_
                                        refine lv_iload hx hb d_md_word_271 (lv_at hl 0 rfl) ?_
                                        refine lv_lshr hx hb d_md_word_273 rfl ?_
                                        refine lv_lconst (v := 1) hx hb d_md_word_274 (by decide) ?_
                                        refine lv_land hx hb d_md_word_275 ?_
                                        refine lv_lconst (v := 1) hx hb d_md_word_276 (by decide) ?_
                                        refine hm_lcmp (x := ((fp e9) >>> ((nI k9).toInt64 &&& 63)) &&& 1) (y := 1) hx hb d_md_word_277 (fun z9 hz9 => ?_)
                                        refine hc_if_ne (x := z9) hx hb (tgt := 285) d_md_word_278 (by decide) (fun h278 => ?_) (fun h278 => ?_)
                                        · skip
                                          refine lv_iconst (v := 0) hx hb d_md_word_285 (by decide) ?_
                                          refine lv_goto (tgt := 309) hx hb d_md_word_286 (by decide) ?_
                                          refine lv_istore (lv' := [(6, .int 0), (5, .int (nI k9)), (3, .long cu), (2, .int (nI e9)), (0, .ref y)]) hx hb d_md_word_309 hl (by decide) rfl (fun ls hl => ?_)
                                          refine lv_iload hx hb d_md_word_311 (lv_at hl 0 rfl) ?_
                                          refine hn_if_eq (a := 0) hx hb (by omega) (tgt := 348) d_md_word_313 (by decide) (fun h9c => ?_) (fun h9c => ?_)
                                          · skip
                                            refine lv_lload_n hx hb d_md_word_348 rfl (lv_at hl 2 rfl) ?_
                                            refine lv_lstore_n (lv' := [(3, .long cu), (6, .int 0), (5, .int (nI k9)), (2, .int (nI e9)), (0, .ref y)]) hx hb d_md_word_349 rfl hl (by decide) rfl (fun ls hl => ?_)
                                            refine lv_iinc (v := nI (k9 + 1)) (lv' := [(5, .int (nI (k9 + 1))), (3, .long cu), (6, .int 0), (2, .int (nI e9)), (0, .ref y)]) hx hb d_md_word_350 hl (k := 2) rfl (by first | exact nI_add _ 1 | (show nI _ + nI _ = _; rw [nI_add])) (by decide) rfl (fun ls hl => ?_)
                                            refine lv_goto (tgt := 248) hx hb d_md_word_353 (by decide) ?_
                                            exact ih (k9 + 1) _ _ _ _ (by omega) (by omega) (by omega) (by rw [hcu]; exact cw_n (cu_f1 (by rw [mb_b h262]; exact decide_eq_false (fun z => h278 (hz9.mpr z))))) hH (lv_sub hl [0, 1, 3, 4] rfl)
                                          · skip
                                            exact absurd h9c (by decide)
                                        · skip
                                          refine lv_iconst (v := 1) hx hb d_md_word_281 (by decide) ?_
                                          refine lv_goto (tgt := 309) hx hb d_md_word_282 (by decide) ?_
                                          refine lv_istore (lv' := [(6, .int 1), (5, .int (nI k9)), (3, .long cu), (2, .int (nI e9)), (0, .ref y)]) hx hb d_md_word_309 hl (by decide) rfl (fun ls hl => ?_)
                                          refine lv_iload hx hb d_md_word_311 (lv_at hl 0 rfl) ?_
                                          refine hn_if_eq (a := 1) hx hb (by omega) (tgt := 348) d_md_word_313 (by decide) (fun h9c => ?_) (fun h9c => ?_)
                                          · skip
                                            exact absurd h9c (by decide)
                                          · skip
                                            refine lv_iload hx hb d_md_word_316 (lv_at hl 1 rfl) ?_
                                            refine lv_aload_n hx hb d_md_word_318 rfl (lv_at hl 4 rfl) ?_
                                            refine hm_get E (tB in_md) hK hH (hw.at 0 rfl) rfl 12 (by decide) (tC wm_379) rfl d_md_word_319 ?_
                                            refine hn_icmp_lt (a := k9) (b := lf) hx hb (by omega) (by omega) (tgt := 348) d_md_word_322 (by decide) (fun h322 => ?_) (fun h322 => ?_)
                                            · skip
                                              refine lv_lload_n hx hb d_md_word_348 rfl (lv_at hl 2 rfl) ?_
                                              refine lv_lstore_n (lv' := [(3, .long cu), (6, .int 1), (5, .int (nI k9)), (2, .int (nI e9)), (0, .ref y)]) hx hb d_md_word_349 rfl hl (by decide) rfl (fun ls hl => ?_)
                                              refine lv_iinc (v := nI (k9 + 1)) (lv' := [(5, .int (nI (k9 + 1))), (3, .long cu), (6, .int 1), (2, .int (nI e9)), (0, .ref y)]) hx hb d_md_word_350 hl (k := 2) rfl (by first | exact nI_add _ 1 | (show nI _ + nI _ = _; rw [nI_add])) (by decide) rfl (fun ls hl => ?_)
                                              refine lv_goto (tgt := 248) hx hb d_md_word_353 (by decide) ?_
                                              exact ih (k9 + 1) _ _ _ _ (by omega) (by omega) (by omega) (by rw [hcu]; exact cw_n (cu_f2 h322)) hH (lv_sub hl [0, 1, 3, 4] rfl)
                                            · skip
                                              refine lv_aload_n hx hb d_md_word_325 rfl (lv_at hl 4 rfl) ?_
                                              refine hm_get E (tB in_md) hK hH (hw.at 0 rfl) rfl 14 (by decide) (tC wm_381) rfl d_md_word_326 ?_
                                              refine lv_iload hx hb d_md_word_329 (lv_at hl 1 rfl) ?_
                                              refine hn_isub hx hb (a := dn) (b := k9) (by omega) d_md_word_331 ?_
                                              refine lv_aload_n hx hb d_md_word_332 rfl (lv_at hl 4 rfl) ?_
                                              refine hm_get E (tB in_md) hK hH (hw.at 0 rfl) rfl 13 (by decide) (tC wm_380) rfl d_md_word_333 ?_
                                              refine hn_icmp_lt (a := dn - k9) (b := rt) hx hb (by omega) (by omega) (tgt := 348) d_md_word_336 (by decide) (fun h336 => ?_) (fun h336 => ?_)
                                              · skip
                                                refine lv_lload_n hx hb d_md_word_348 rfl (lv_at hl 2 rfl) ?_
                                                refine lv_lstore_n (lv' := [(3, .long cu), (6, .int 1), (5, .int (nI k9)), (2, .int (nI e9)), (0, .ref y)]) hx hb d_md_word_349 rfl hl (by decide) rfl (fun ls hl => ?_)
                                                refine lv_iinc (v := nI (k9 + 1)) (lv' := [(5, .int (nI (k9 + 1))), (3, .long cu), (6, .int 1), (2, .int (nI e9)), (0, .ref y)]) hx hb d_md_word_350 hl (k := 2) rfl (by first | exact nI_add _ 1 | (show nI _ + nI _ = _; rw [nI_add])) (by decide) rfl (fun ls hl => ?_)
                                                refine lv_goto (tgt := 248) hx hb d_md_word_353 (by decide) ?_
                                                exact ih (k9 + 1) _ _ _ _ (by omega) (by omega) (by omega) (by rw [hcu]; exact cw_n (cu_f3 (by omega))) hH (lv_sub hl [0, 1, 3, 4] rfl)
                                              · skip
                                                refine lv_lload_n hx hb d_md_word_339 rfl (lv_at hl 2 rfl) ?_
                                                refine lv_lconst (v := 1) hx hb d_md_word_340 (by decide) ?_
                                                refine lv_iload hx hb d_md_word_341 (lv_at hl 1 rfl) ?_
                                                refine lv_lshl hx hb d_md_word_343 rfl ?_
                                                refine lv_lor hx hb d_md_word_344 ?_
                                                refine lv_goto (tgt := 349) hx hb d_md_word_345 (by decide) ?_
                                                refine lv_lstore_n (lv' := [(3, .long (cu ||| (1 <<< ((nI k9).toInt64 &&& 63)))), (6, .int 1), (5, .int (nI k9)), (2, .int (nI e9)), (0, .ref y)]) hx hb d_md_word_349 rfl hl (by decide) rfl (fun ls hl => ?_)
                                                refine lv_iinc (v := nI (k9 + 1)) (lv' := [(5, .int (nI (k9 + 1))), (3, .long (cu ||| (1 <<< ((nI k9).toInt64 &&& 63)))), (6, .int 1), (2, .int (nI e9)), (0, .ref y)]) hx hb d_md_word_350 hl (k := 2) rfl (by first | exact nI_add _ 1 | (show nI _ + nI _ = _; rw [nI_add])) (by decide) rfl (fun ls hl => ?_)
                                                refine lv_goto (tgt := 248) hx hb d_md_word_353 (by decide) ?_
                                                exact ih (k9 + 1) _ _ _ _ (by omega) (by omega) (by omega) (by rw [hcu]; exact cw_y (cu_t (by rw [mb_b h262]; exact decide_eq_true (hz9.mp (h278))) h322 (by omega))) hH (lv_sub hl [0, 1, 3, 4] rfl)
                                exact L248 (dn + 1) 1 0 _ _ _ (by omega) (by omega) (by omega) (cw_1 hl1) hH (lv_sub hl [0, 1, 2, 3] rfl)
                              · skip
                                have hmo1 := hmo p0 (by omega)
                                have hle1 := hle (p0 + 1) (by omega)
                                refine lv_iconst (v := 0) hx hb d_md_word_188 (by decide) ?_
                                refine lv_istore_n (lv' := [(3, .int 0), (2, .int (nI p0)), (0, .ref y)]) hx hb d_md_word_189 rfl hl (by decide) rfl (fun ls hl => ?_)
                                have L190 : ∀ (k : Nat) (i : Nat) (v : Nat → Int32) (M : hM) (H : Heap) (locs : List Loc) (ls : Array Slot), dn + 5 ≤ i + k → i ≤ dn + 3 → vMax (wT o fs fn (upd (upd f1 0 46) (dn + 1) 46) (dn + 2) p0 i) (dn + 2) v → hm_has M [(y, .inr (4, [.int (nI th), .int (nI dn), .ref d, .int (nI np), .ref be, .ref sg, .ref nu, .int (nI bg), .int (nI nx), .ref fi, .ref le, .ref pl, .int (nI lf), .int (nI rt), .int (nI dn), .ref rw, .ref va, .int (bI true)])), (d, aI G 200 dr), (be, aI G 8194 fb), (sg, aI G 40000 fs), (nu, aI G 48200 fn), (fi, aI G 2050 ff), (le, aI G 40000 f2), (pl, aJ G 2048 fp), (rw, aI G 66 (upd (upd f1 0 46) (dn + 1) 46)), (va, aI G 66 v)] → hm_kp (fun a => a ∈ [y, le, rw, va]) M0 M → hm_I G.1 vwC A s.heap M H locs → lv_has ls 7 [(3, .int (nI i)), (2, .int (nI p0)), (0, .ref y)] → W p l e { frames := 1, cells := 0, slots := 0, locals := 25 } s m ([.ref y] : List Value).toArray below meth c H locs 0 0 (MQ below (hm_Q G.1 vwC (q_md_word G y th dn d np be sg nu bg nx fi le pl lf rt ln rw va ak dr fb fs fn ff fl fr fv fp o ox M0) A) ([.ref y] : List Value).toArray s 0 0 A) (F0 m 190 ls []) := by
                                  intro k
                                  induction k with
                                  | zero => intro i v M H locs ls hfu hi hv; exact absurd hfu (by omega)
                                  | succ k ih2 =>
                                    intro i v M H locs ls hfu hi hv hw hk hH hl
                                    refine lv_iload_n hx hb d_md_word_190 rfl (lv_at hl 0 rfl) ?_
                                    refine lv_aload_n hx hb d_md_word_191 rfl (lv_at hl 2 rfl) ?_
                                    refine hm_get E (tB in_md) hK hH (hw.at 0 rfl) rfl 4 (by decide) (tC wm_371) rfl d_md_word_192 ?_
                                    refine lv_iload_n hx hb d_md_word_195 rfl (lv_at hl 1 rfl) ?_
                                    refine lv_iconst (v := 1) hx hb d_md_word_196 (by decide) ?_
                                    refine hn_iadd hx hb (a := p0) (b := 1) d_md_word_197 ?_
                                    refine hm_iald E hK hH 0 (hw.at 2 rfl) rfl (i := p0 + 1) (by omega) (by decide) d_md_word_198 ?_
                                    refine hm_top (w := .int (nI (o (p0 + 1)))) (by rw [hbe (p0 + 1) (by omega)]) ?_
                                    refine hn_iadd hx hb (a := i) (b := o (p0 + 1)) d_md_word_199 ?_
                                    refine lv_aload_n hx hb d_md_word_200 rfl (lv_at hl 2 rfl) ?_
                                    refine hm_get E (tB in_md) hK hH (hw.at 0 rfl) rfl 4 (by decide) (tC wm_371) rfl d_md_word_201 ?_
                                    refine lv_iload_n hx hb d_md_word_204 rfl (lv_at hl 1 rfl) ?_
                                    refine hm_iald E hK hH 0 (hw.at 2 rfl) rfl (i := p0) (by omega) (by decide) d_md_word_205 ?_
                                    refine hm_top (w := .int (nI (o p0))) (by rw [hbe p0 (by omega)]) ?_
                                    refine hn_isub hx hb (a := i + (o (p0 + 1))) (b := o p0) (by omega) d_md_word_206 ?_
                                    refine lv_aload_n hx hb d_md_word_207 rfl (lv_at hl 2 rfl) ?_
                                    refine hm_get E (tB in_md) hK hH (hw.at 0 rfl) rfl 14 (by decide) (tC wm_381) rfl d_md_word_208 ?_
                                    refine lv_iconst (v := 2) hx hb d_md_word_211 (by decide) ?_
                                    refine hn_iadd hx hb (a := dn) (b := 2) d_md_word_212 ?_
                                    refine hn_icmp_gt (a := (i + (o (p0 + 1))) - (o p0)) (b := dn + 2) hx hb (by omega) (by omega) (tgt := 228) d_md_word_213 (by decide) (fun h213 => ?_) (fun h213 => ?_)
                                    · skip
                                      refine lv_iinc (v := nI (p0 + 1)) (lv' := [(2, .int (nI (p0 + 1))), (3, .int (nI i)), (0, .ref y)]) hx hb d_md_word_228 hl (k := 1) rfl (by first | exact nI_add _ 1 | (show nI _ + nI _ = _; rw [nI_add])) (by decide) rfl (fun ls hl => ?_)
                                      refine lv_goto (tgt := 180) hx hb d_md_word_231 (by decide) ?_
                                      exact ih (p0 + 1) v M _ _ _ (by omega) (by omega) (wT_e hv (by omega)) hw hk hH (lv_sub hl [0, 2] rfl)
                                    · skip
                                      refine lv_aload_n hx hb d_md_word_216 rfl (lv_at hl 2 rfl) ?_
                                      refine lv_iload_n hx hb d_md_word_217 rfl (lv_at hl 1 rfl) ?_
                                      refine lv_iload_n hx hb d_md_word_218 rfl (lv_at hl 0 rfl) ?_
                                      have hM1 := c_md_attempt l G y th dn d np be sg nu bg nx fi le pl lf rt dn rw va true fb fs fn (upd (upd f1 0 46) (dn + 1) 46) v (o p0) (o (p0 + 1) - o p0) p0 i M (hw.sub (ws' := [(y, .inr (4, [.int (nI th), .int (nI dn), .ref d, .int (nI np), .ref be, .ref sg, .ref nu, .int (nI bg), .int (nI nx), .ref fi, .ref le, .ref pl, .int (nI lf), .int (nI rt), .int (nI dn), .ref rw, .ref va, .int (bI true)])), (be, aI G 8194 fb), (sg, aI G 40000 fs), (nu, aI G 48200 fn), (rw, aI G 66 (upd (upd f1 0 46) (dn + 1) 46)), (va, aI G 66 v)]) [0, 2, 3, 4, 8, 9] rfl rfl) (hbe p0 (by omega)) (by rw [hbe (p0 + 1) (by omega), show o p0 + (o (p0 + 1) - o p0) = o (p0 + 1) by omega]) (by omega) (by omega) (by omega) H.size
                                      have hG1 : GoodIn w_md_word (wsV R_md 94 R_md y_md_attempt w_md_attempt) := gB_V wm_467 wm_469 wp_14 wm_5 wm_470
                                      refine hm_call (va_runV (y := y_md_attempt) (bytes := b_md_attempt) (maxL := 6) (ws := w_md_attempt) (rm := { frames := 0, cells := 0, slots := 0, locals := 0 }) (own := R_md) (index := 94) (ret := (Option.none : Option Jvm.ClassFile.FieldType)) (C := R_md) (As := [.int (nI p0), .int (nI i)]) (rest := []) E hM1 (cwV (y := y_md_attempt) (bytes := b_md_attempt) (maxL := 6) (ws := w_md_attempt) (rm := { frames := 0, cells := 0, slots := 0, locals := 0 }) (own := R_md) (index := 94) (ret := (Option.none : Option Jvm.ClassFile.FieldType)) (C := R_md) 2 hts hG1 rfl rfl rfl (by decide +kernel) ⟨Nat.le_of_ble_eq_true rfl, Nat.le_of_ble_eq_true rfl⟩) (hm_preV gk_w gk_s hH hg hK (hw.at 0 rfl) rfl [.int (nI p0), .int (nI i)]) rfl rfl hl.1 rfl (lv_room (Nat.le_of_ble_eq_true rfl)) d_md_word_219 ⟨(by show _ ≤ 0; omega), (by show _ ≤ 0; omega)⟩) hH (fun r1 M1 H1 locs1 hq1 hH1 => ?_)
                                      replace hH := hH1; clear hH1; generalize H1 = H at hH ⊢; generalize locs1 = locs at hH ⊢
                                      obtain ⟨rfl, halt, hk1⟩ := hq1
                                      obtain ⟨v2, hw1, hv2⟩ : ∃ v2, hm_has M1 [(y, .inr (4, [.int (nI th), .int (nI dn), .ref d, .int (nI np), .ref be, .ref sg, .ref nu, .int (nI bg), .int (nI nx), .ref fi, .ref le, .ref pl, .int (nI lf), .int (nI rt), .int (nI dn), .ref rw, .ref va, .int (bI true)])), (be, aI G 8194 fb), (sg, aI G 40000 fs), (nu, aI G 48200 fn), (rw, aI G 66 (upd (upd f1 0 46) (dn + 1) 46)), (va, aI G 66 v2)] ∧ vMax (wT o fs fn (upd (upd f1 0 46) (dn + 1) 46) (dn + 2) p0 (i + 1)) (dn + 2) v2 := by
                                        rcases halt with ⟨z1, z2⟩ | ⟨z1, z2⟩
                                        · exact ⟨_, z2, wT_y hv (by omega) z1 (hnn p0 (by omega))⟩
                                        · exact ⟨_, z2, wT_n hv z1⟩
                                      clear halt
                                      have hw := hm_join (ws' := [(y, .inr (4, [.int (nI th), .int (nI dn), .ref d, .int (nI np), .ref be, .ref sg, .ref nu, .int (nI bg), .int (nI nx), .ref fi, .ref le, .ref pl, .int (nI lf), .int (nI rt), .int (nI dn), .ref rw, .ref va, .int (bI true)])), (d, aI G 200 dr), (be, aI G 8194 fb), (sg, aI G 40000 fs), (nu, aI G 48200 fn), (fi, aI G 2050 ff), (le, aI G 40000 f2), (pl, aJ G 2048 fp), (rw, aI G 66 (upd (upd f1 0 46) (dn + 1) 46)), (va, aI G 66 v2)]) (wc := [(y, .inr (4, [.int (nI th), .int (nI dn), .ref d, .int (nI np), .ref be, .ref sg, .ref nu, .int (nI bg), .int (nI nx), .ref fi, .ref le, .ref pl, .int (nI lf), .int (nI rt), .int (nI dn), .ref rw, .ref va, .int (bI true)])), (be, aI G 8194 fb), (sg, aI G 40000 fs), (nu, aI G 48200 fn), (rw, aI G 66 (upd (upd f1 0 46) (dn + 1) 46)), (va, aI G 66 v)]) hw hw1 hk1 [0, 2, 3, 4, 8, 9] rfl rfl (fun a h => by simp at h; subst h; simp) rfl (by
                                        intro k9 h9
                                        match k9, h9 with
                                        | 0, _ => exact Or.inr ⟨0, rfl, rfl⟩
                                        | 1, _ => exact Or.inl ⟨by decide, rfl⟩
                                        | 2, _ => exact Or.inr ⟨1, rfl, rfl⟩
                                        | 3, _ => exact Or.inr ⟨2, rfl, rfl⟩
                                        | 4, _ => exact Or.inr ⟨3, rfl, rfl⟩
                                        | 5, _ => exact Or.inl ⟨by decide, rfl⟩
                                        | 6, _ => exact Or.inl ⟨by decide, rfl⟩
                                        | 7, _ => exact Or.inl ⟨by decide, rfl⟩
                                        | 8, _ => exact Or.inr ⟨4, rfl, rfl⟩
                                        | 9, _ => exact Or.inr ⟨5, rfl, rfl⟩
                                        | k9 + 10, h9 => exact absurd h9 (Nat.not_lt_of_le (Nat.le_add_left _ _)))
                                      have hk := hk.tr hk1 (fun a h => by simp at h; subst h; simp)
                                      generalize M1 = M at hH hw hk
                                      refine lv_iinc (v := nI (i + 1)) (lv' := [(3, .int (nI (i + 1))), (2, .int (nI p0)), (0, .ref y)]) hx hb d_md_word_222 hl (k := 0) rfl (by first | exact nI_add _ 1 | (show nI _ + nI _ = _; rw [nI_add])) (by decide) rfl (fun ls hl => ?_)
                                      refine lv_goto (tgt := 190) hx hb d_md_word_225 (by decide) ?_
                                      exact ih2 (i + 1) v2 M _ _ _ (by omega) (by omega) hv2 hw hk hH (lv_sub hl [0, 1, 2] rfl)
                                exact L190 (dn + 5) 0 v M _ _ _ (by omega) (by omega) hv hw hk hH (lv_sub hl [0, 1, 2] rfl)
                          exact L180 (np + 1) 0 (fun _ => 0) M _ _ _ (by omega) (by omega) (vMax_0 (fun _ _ _ => wT_0)) hw hk hH (lv_sub hl [0, 1] rfl)
                        · skip
                          refine lv_aload_n hx hb d_md_word_165 rfl (lv_at hl 1 rfl) ?_
                          refine hm_get E (tB in_md) hK hH (hw.at 0 rfl) rfl 16 (by decide) (tC wm_383) rfl d_md_word_166 ?_
                          refine lv_iload_n hx hb d_md_word_169 rfl (lv_at hl 0 rfl) ?_
                          refine lv_iconst (v := 0) hx hb d_md_word_170 (by decide) ?_
                          refine hm_iast E hK hH 0 (hw.at 9 rfl) rfl (i := i) (by omega) (by decide) d_md_word_171 (fun H locs hH => ?_)
                          have hw := hw.set (ws' := [(y, .inr (4, [.int (nI th), .int (nI dn), .ref d, .int (nI np), .ref be, .ref sg, .ref nu, .int (nI bg), .int (nI nx), .ref fi, .ref le, .ref pl, .int (nI lf), .int (nI rt), .int (nI dn), .ref rw, .ref va, .int (bI true)])), (d, aI G 200 dr), (be, aI G 8194 fb), (sg, aI G 40000 fs), (nu, aI G 48200 fn), (fi, aI G 2050 ff), (le, aI G 40000 f2), (pl, aJ G 2048 fp), (rw, aI G 66 (upd (upd f1 0 46) (dn + 1) 46)), (va, aI G 66 (upd g i 0))]) (k := 9) rfl rfl
                          have hk := hk.wr (a := va) (v := some (aI G 66 (upd g i 0))) (by first | (right; assumption) | (left; simp; done))
                          generalize va_up M va (some (aI G 66 (upd g i 0))) = M at hH hw hk ⊢
                          refine lv_iinc (v := nI (i + 1)) (lv' := [(2, .int (nI (i + 1))), (0, .ref y)]) hx hb d_md_word_172 hl (k := 0) rfl (by first | exact nI_add _ 1 | (show nI _ + nI _ = _; rw [nI_add])) (by decide) rfl (fun ls hl => ?_)
                          refine lv_goto (tgt := 159) hx hb d_md_word_175 (by decide) ?_
                          exact ih (i + 1) (upd g i 0) M _ _ _ (by omega) (by omega) (upd_all hgz) hw hk hH (lv_sub hl [0, 1] rfl)
                    exact L159 67 0 fv M _ _ _ (by omega) (by omega) (fun j hj => absurd hj (by omega)) hw hk hH (lv_sub hl [0, 1] rfl)
                  · skip
                    refine lv_aload_n hx hb d_md_word_94 rfl (lv_at hl 1 rfl) ?_
                    refine hm_get E (tB in_md) hK hH (hw.at 0 rfl) rfl 15 (by decide) (tC wm_382) rfl d_md_word_95 ?_
                    refine lv_iload_n hx hb d_md_word_98 rfl (lv_at hl 0 rfl) ?_
                    refine lv_iconst (v := 1) hx hb d_md_word_99 (by decide) ?_
                    refine hn_iadd hx hb (a := i) (b := 1) d_md_word_100 ?_
                    refine lv_aload_n hx hb d_md_word_101 rfl (lv_at hl 1 rfl) ?_
                    refine hm_get E (tB in_md) hK hH (hw.at 0 rfl) rfl 2 (by decide) (tC wm_369) rfl d_md_word_102 ?_
                    refine lv_iload_n hx hb d_md_word_105 rfl (lv_at hl 0 rfl) ?_
                    refine hm_iald E hK hH 0 (hw.at 1 rfl) rfl (i := i) (by omega) (by decide) d_md_word_106 ?_
                    refine hm_iast E hK hH 0 (hw.at 8 rfl) rfl (i := i + 1) (by omega) (by decide) d_md_word_107 (fun H locs hH => ?_)
                    have hw := hw.set (ws' := [(y, .inr (4, [.int (nI th), .int (nI dn), .ref d, .int (nI np), .ref be, .ref sg, .ref nu, .int (nI bg), .int (nI nx), .ref fi, .ref le, .ref pl, .int (nI lf), .int (nI rt), .int (nI dn), .ref rw, .ref va, .int (bI true)])), (d, aI G 200 dr), (be, aI G 8194 fb), (sg, aI G 40000 fs), (nu, aI G 48200 fn), (fi, aI G 2050 ff), (le, aI G 40000 f2), (pl, aJ G 2048 fp), (rw, aI G 66 (upd f1 (i + 1) (dr i))), (va, aI G 66 fv)]) (k := 8) rfl rfl
                    have hk := hk.wr (a := rw) (v := some (aI G 66 (upd f1 (i + 1) (dr i)))) (by first | (right; assumption) | (left; simp; done))
                    generalize va_up M rw (some (aI G 66 (upd f1 (i + 1) (dr i)))) = M at hH hw hk ⊢
                    refine lv_aload_n hx hb d_md_word_108 rfl (lv_at hl 1 rfl) ?_
                    refine hm_get E (tB in_md) hK hH (hw.at 0 rfl) rfl 10 (by decide) (tC wm_377) rfl d_md_word_109 ?_
                    refine lv_aload_n hx hb d_md_word_112 rfl (lv_at hl 1 rfl) ?_
                    refine hm_get E (tB in_md) hK hH (hw.at 0 rfl) rfl 9 (by decide) (tC wm_376) rfl d_md_word_113 ?_
                    refine lv_aload_n hx hb d_md_word_116 rfl (lv_at hl 1 rfl) ?_
                    refine hm_get E (tB in_md) hK hH (hw.at 0 rfl) rfl 8 (by decide) (tC wm_375) rfl d_md_word_117 ?_
                    refine hm_iald E hK hH 0 (hw.at 5 rfl) rfl (i := nx) (by omega) (by decide) d_md_word_120 ?_
                    refine hm_top (w := .int (nI (ox nx))) (by rw [hff nx (Nat.le_refl _)]) ?_
                    refine lv_iload_n hx hb d_md_word_121 rfl (lv_at hl 0 rfl) ?_
                    refine hn_iadd hx hb (a := ox nx) (b := i) d_md_word_122 ?_
                    refine lv_aload_n hx hb d_md_word_123 rfl (lv_at hl 1 rfl) ?_
                    refine hm_get E (tB in_md) hK hH (hw.at 0 rfl) rfl 2 (by decide) (tC wm_369) rfl d_md_word_124 ?_
                    refine lv_iload_n hx hb d_md_word_127 rfl (lv_at hl 0 rfl) ?_
                    refine hm_iald E hK hH 0 (hw.at 1 rfl) rfl (i := i) (by omega) (by decide) d_md_word_128 ?_
                    refine hm_iast E hK hH 0 (hw.at 6 rfl) rfl (i := ox nx + i) (by omega) (by decide) d_md_word_129 (fun H locs hH => ?_)
                    have hw := hw.set (ws' := [(y, .inr (4, [.int (nI th), .int (nI dn), .ref d, .int (nI np), .ref be, .ref sg, .ref nu, .int (nI bg), .int (nI nx), .ref fi, .ref le, .ref pl, .int (nI lf), .int (nI rt), .int (nI dn), .ref rw, .ref va, .int (bI true)])), (d, aI G 200 dr), (be, aI G 8194 fb), (sg, aI G 40000 fs), (nu, aI G 48200 fn), (fi, aI G 2050 ff), (le, aI G 40000 (upd f2 (ox nx + i) (dr i))), (pl, aJ G 2048 fp), (rw, aI G 66 (upd f1 (i + 1) (dr i))), (va, aI G 66 fv)]) (k := 6) rfl rfl
                    have hk := hk.wr (a := le) (v := some (aI G 40000 (upd f2 (ox nx + i) (dr i)))) (by first | (right; assumption) | (left; simp; done))
                    generalize va_up M le (some (aI G 40000 (upd f2 (ox nx + i) (dr i)))) = M at hH hw hk ⊢
                    refine lv_iinc (v := nI (i + 1)) (lv' := [(2, .int (nI (i + 1))), (0, .ref y)]) hx hb d_md_word_130 hl (k := 0) rfl (by first | exact nI_add _ 1 | (show nI _ + nI _ = _; rw [nI_add])) (by decide) rfl (fun ls hl => ?_)
                    refine lv_goto (tgt := 86) hx hb d_md_word_133 (by decide) ?_
                    exact ih (i + 1) (upd f1 (i + 1) (dr i)) (upd f2 (ox nx + i) (dr i)) M _ _ _ (by omega) (by omega) (row_S hf1 rfl) (bl_upd hf0 (by omega)) (sg_S rfl hf2 rfl) hw hk hH (lv_sub hl [0, 1] rfl)
              exact L86 (dn + 1) 0 fr fl M _ _ _ (by omega) (by omega) (fun j hj => absurd hj (by omega)) (fun _ _ => rfl) (fun j hj => absurd hj (by omega)) hw hk hH (lv_sub hl [0, 2] rfl)
            · skip
              refine lv_aload_n hx hb d_md_word_64 rfl (lv_at hl 2 rfl) ?_
              refine lv_iconst (v := 1) hx hb d_md_word_65 (by decide) ?_
              have hM1 := c_md_fails l G y th dn d np be sg nu bg nx fi le pl lf rt ln rw va ak 1 M (hw.sub (ws' := [(y, .inr (4, [.int (nI th), .int (nI dn), .ref d, .int (nI np), .ref be, .ref sg, .ref nu, .int (nI bg), .int (nI nx), .ref fi, .ref le, .ref pl, .int (nI lf), .int (nI rt), .int (nI ln), .ref rw, .ref va, .int (bI ak)]))]) [0] rfl rfl) H.size
              have hG1 : GoodIn w_md_word (wsV R_md 69 R_md y_md_fails w_md_fails) := gB_V wm_446 wm_448 wp_11 wm_5 wm_449
              refine hm_call (va_runV (y := y_md_fails) (bytes := b_md_fails) (maxL := 2) (ws := w_md_fails) (rm := { frames := 0, cells := 0, slots := 0, locals := 0 }) (own := R_md) (index := 69) (ret := (Option.some Jvm.ClassFile.FieldType.int)) (C := R_md) (As := [.int 1]) (rest := []) E hM1 (cwV (y := y_md_fails) (bytes := b_md_fails) (maxL := 2) (ws := w_md_fails) (rm := { frames := 0, cells := 0, slots := 0, locals := 0 }) (own := R_md) (index := 69) (ret := (Option.some Jvm.ClassFile.FieldType.int)) (C := R_md) 1 hts hG1 rfl rfl rfl (by decide +kernel) ⟨Nat.le_of_ble_eq_true rfl, Nat.le_of_ble_eq_true rfl⟩) (hm_preV gk_w gk_s hH hg hK (hw.at 0 rfl) rfl [.int 1]) rfl rfl hl.1 rfl (lv_room (Nat.le_of_ble_eq_true rfl)) d_md_word_66 ⟨(by show _ ≤ 0; omega), (by show _ ≤ 0; omega)⟩) hH (fun r1 M1 H1 locs1 hq1 hH1 => ?_)
              replace hH := hH1; clear hH1; generalize H1 = H at hH ⊢; generalize locs1 = locs at hH ⊢
              obtain ⟨rfl, hw1, hk1⟩ := hq1
              have hw := hm_join (ws' := [(y, .inr (4, [.int (nI 1), .int (nI 0), .ref d, .int (nI np), .ref be, .ref sg, .ref nu, .int (nI bg), .int (nI nx), .ref fi, .ref le, .ref pl, .int (nI lf), .int (nI rt), .int (nI ln), .ref rw, .ref va, .int (bI ak)])), (d, aI G 200 dr), (be, aI G 8194 fb), (sg, aI G 40000 fs), (nu, aI G 48200 fn), (fi, aI G 2050 ff), (le, aI G 40000 fl), (pl, aJ G 2048 fp), (rw, aI G 66 fr), (va, aI G 66 fv)]) (wc := [(y, .inr (4, [.int (nI th), .int (nI dn), .ref d, .int (nI np), .ref be, .ref sg, .ref nu, .int (nI bg), .int (nI nx), .ref fi, .ref le, .ref pl, .int (nI lf), .int (nI rt), .int (nI ln), .ref rw, .ref va, .int (bI ak)]))]) hw hw1 hk1 [0] rfl rfl (fun a h => h) rfl (by
                intro k9 h9
                match k9, h9 with
                | 0, _ => exact Or.inr ⟨0, rfl, rfl⟩
                | 1, _ => exact Or.inl ⟨by decide, rfl⟩
                | 2, _ => exact Or.inl ⟨by decide, rfl⟩
                | 3, _ => exact Or.inl ⟨by decide, rfl⟩
                | 4, _ => exact Or.inl ⟨by decide, rfl⟩
                | 5, _ => exact Or.inl ⟨by decide, rfl⟩
                | 6, _ => exact Or.inl ⟨by decide, rfl⟩
                | 7, _ => exact Or.inl ⟨by decide, rfl⟩
                | 8, _ => exact Or.inl ⟨by decide, rfl⟩
                | 9, _ => exact Or.inl ⟨by decide, rfl⟩
                | k9 + 10, h9 => exact absurd h9 (Nat.not_lt_of_le (Nat.le_add_left _ _)))
              have hk := hk.tr hk1 (fun a h => by simp at h; subst h; simp)
              generalize M1 = M at hH hw hk
              refine lv_i2l hx hb d_md_word_69 rfl ?_
              exact hm_lret E hr hlk hH (Or.inl ⟨fun z => (by have h8 := gw_ok.mpr z; rw [h61] at h8; cases h8), ⟨_, rfl⟩, hw, hk⟩) (by omega) (by omega) d_md_word_70
          · skip
            refine lv_iload_n hx hb d_md_word_32 rfl (lv_at hl 1 rfl) ?_
            refine hb_if_eq (b := gwP dr dn i) hx hb (tgt := 52) d_md_word_33 (by decide) (fun h33 => ?_) (fun h33 => ?_)
            · skip
              refine lv_iconst (v := 0) hx hb d_md_word_52 (by decide) ?_
              refine lv_istore_n (lv' := [(1, .int 0), (2, .int (nI i)), (0, .ref y)]) hx hb d_md_word_53 rfl hl (by decide) rfl (fun ls hl => ?_)
              refine lv_iinc (v := nI (i + 1)) (lv' := [(2, .int (nI (i + 1))), (1, .int 0), (0, .ref y)]) hx hb d_md_word_54 hl (k := 1) rfl (by first | exact nI_add _ 1 | (show nI _ + nI _ = _; rw [nI_add])) (by decide) rfl (fun ls hl => ?_)
              refine lv_goto (tgt := 24) hx hb d_md_word_57 (by decide) ?_
              exact ih (i + 1) _ _ _ (by omega) (by omega) hH (lv_cv (lv_sub hl [0, 1, 2] rfl) (by simp [gwP, bI_t, bI_f, h33] <;> rfl))
            · skip
              refine lv_aload_n hx hb d_md_word_36 rfl (lv_at hl 2 rfl) ?_
              refine hm_get E (tB in_md) hK hH (hw.at 0 rfl) rfl 2 (by decide) (tC wm_369) rfl d_md_word_37 ?_
              refine lv_iload_n hx hb d_md_word_40 rfl (lv_at hl 0 rfl) ?_
              refine hm_iald E hK hH 0 (hw.at 1 rfl) rfl (i := i) (by omega) (by decide) d_md_word_41 ?_
              have hM1 := c_md_isLetter l G (dr i) M (hby _) H.size
              have hG1 : GoodIn w_md_word (wsS R_md 58 y_md_isLetter w_md_isLetter) := gB_S wm_440 wm_441 wm_5 wm_442
              refine hm_call (va_runS (y := y_md_isLetter) (bytes := b_md_isLetter) (maxL := 1) (ws := w_md_isLetter) (rm := { frames := 0, cells := 0, slots := 0, locals := 0 }) (own := R_md) (index := 58) (ret := (Option.some Jvm.ClassFile.FieldType.boolean)) (As := [.int (dr i)]) (rest := []) E hM1 (cwS (y := y_md_isLetter) (bytes := b_md_isLetter) (maxL := 1) (ws := w_md_isLetter) (rm := { frames := 0, cells := 0, slots := 0, locals := 0 }) (own := R_md) (index := 58) (ret := (Option.some Jvm.ClassFile.FieldType.boolean)) 1 hts hG1 rfl rfl rfl (by decide +kernel) ⟨Nat.le_of_ble_eq_true rfl, Nat.le_of_ble_eq_true rfl⟩) (hm_preS gk_w gk_s hH hg [.int (dr i)]) rfl rfl hl.1 rfl (lv_room (Nat.le_of_ble_eq_true rfl)) d_md_word_42 ⟨(by show _ ≤ 0; omega), (by show _ ≤ 0; omega)⟩) hH (fun r1 M1 H1 locs1 hq1 hH1 => ?_)
              obtain ⟨rfl, e1⟩ := hq1
              replace hH := hH1; rw [e1] at hH; clear hH1 e1; generalize H1 = H at hH ⊢; generalize locs1 = locs at hH ⊢
              refine hb_if_eq (b := isL (dr i)) hx hb (tgt := 52) d_md_word_45 (by decide) (fun h45 => ?_) (fun h45 => ?_)
              · skip
                refine lv_iconst (v := 0) hx hb d_md_word_52 (by decide) ?_
                refine lv_istore_n (lv' := [(1, .int 0), (2, .int (nI i)), (0, .ref y)]) hx hb d_md_word_53 rfl hl (by decide) rfl (fun ls hl => ?_)
                refine lv_iinc (v := nI (i + 1)) (lv' := [(2, .int (nI (i + 1))), (1, .int 0), (0, .ref y)]) hx hb d_md_word_54 hl (k := 1) rfl (by first | exact nI_add _ 1 | (show nI _ + nI _ = _; rw [nI_add])) (by decide) rfl (fun ls hl => ?_)
                refine lv_goto (tgt := 24) hx hb d_md_word_57 (by decide) ?_
                exact ih (i + 1) _ _ _ (by omega) (by omega) hH (lv_cv (lv_sub hl [0, 1, 2] rfl) (by simp [gwP, bI_t, bI_f, h33, h45] <;> rfl))
              · skip
                refine lv_iconst (v := 1) hx hb d_md_word_48 (by decide) ?_
                refine lv_goto (tgt := 53) hx hb d_md_word_49 (by decide) ?_
                refine lv_istore_n (lv' := [(1, .int 1), (2, .int (nI i)), (0, .ref y)]) hx hb d_md_word_53 rfl hl (by decide) rfl (fun ls hl => ?_)
                refine lv_iinc (v := nI (i + 1)) (lv' := [(2, .int (nI (i + 1))), (1, .int 1), (0, .ref y)]) hx hb d_md_word_54 hl (k := 1) rfl (by first | exact nI_add _ 1 | (show nI _ + nI _ = _; rw [nI_add])) (by decide) rfl (fun ls hl => ?_)
                refine lv_goto (tgt := 24) hx hb d_md_word_57 (by decide) ?_
                exact ih (i + 1) _ _ _ (by omega) (by omega) hH (lv_cv (lv_sub hl [0, 1, 2] rfl) (by simp [gwP, bI_t, bI_f, h33, h45] <;> rfl))
      exact L24 (dn + 1) 0 _ _ _ (by omega) (by omega) hH (lv_cv (lv_sub hl [0, 1, 2] rfl) (by simp [gwP, bI_t, bI_f, show 0 < dn by omega, show dn < 64 by omega] <;> rfl))
